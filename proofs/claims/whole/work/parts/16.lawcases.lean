section QLAW
variable {p : Program} {l : Launch} {e : Env} {s : State} {m : MethodId} {args : Array Value} {below : List Frame} {meth : Method} {c : Code} {D : va_G} {cy : Nat → ClassId} {ad : Nat → Nat} {x : XX} {Q : State → Prop} {F b L : Nat} {xs : Nat → Int32} {M : Mem} {H : Heap} {locs : List Loc} {ls : Array Slot} {ret : Option FieldType}
theorem lw_rm {ce a : Nat} (h : ce + 8 ≤ 603072) (ha : a ≤ 8) : ce + a ≤ room_1.cells := Nat.le_trans (Nat.add_le_add_left ha ce) h
theorem lw_rs {sl a : Nat} (h : sl + 48 ≤ 7211114) (ha : a ≤ 48) : sl + a ≤ room_1.slots := Nat.le_trans (Nat.add_le_add_left ha sl) h
theorem lw_ccl {ce a : Nat} (ha : a ≤ 8) : ce + a ≤ ce + 8 := Nat.add_le_add_left ha ce
theorem lw_csl {sl a : Nat} (ha : a ≤ 48) : sl + a ≤ sl + 48 := Nat.add_le_add_left ha sl
theorem q_sld {R : Room} {cc : ByteArray} {own : String} {nL : Nat} {Ts : List Cond} {cells slots : Nat} {pc : Nat} {rest : List Value} {i z : Int32} (C0 : MX p l s m args meth c D cy ad cc own nL Ts ret) (hX : va_X b L xs s s.heap) (hbl : b < s.heap.size) (hbA : ¬ AA ad s.heap.size b) (hw : Wd D cy ad x s M H locs) (hi : vp_in i L ∧ xs i.toNatClampNeg = z) (hdg : decode cc pc = .ok (.iaload, 1))
    (kk : W p l e R s m args below meth c H locs cells slots Q (F0 m (pc + 1) ls (.int z :: rest))) : W p l e R s m args below meth c H locs cells slots Q (F0 m pc ls (.int i :: .ref b :: rest)) := by
  obtain ⟨hx, hb, -⟩ := C0
  refine va_sld hx hb hX hbl hbA hw.2.2 hi.1 hdg ?_
  rw [hi.2]
  exact kk
/-- a case's end: the loop's step -/
theorem q_fin {r : Mem × XX} {lv : List (Nat × Value)} {ce0 sl0 ce sl : Nat} (h : some (M, x) = some r) (hk : ∀ (H : Heap) (locs : List Loc) (ls : Array Slot), Wd D cy ad r.2 s r.1 H locs → lv_has ls 9 lv → W p l e room_1 s m args below meth c H locs (ce0 + 8) (sl0 + 48) Q (F0 m 2355 ls [])) (hw : Wd D cy ad x s M H locs) (hl : lv_has ls 9 lv) (h1 : ce ≤ ce0 + 8) (h2 : sl ≤ sl0 + 48) : W p l e room_1 s m args below meth c H locs ce sl Q (F0 m 2355 ls []) := by
  cases h
  exact W.widen h1 h2 (hk _ _ _ hw hl)
def fL_case0 (F : Nat) (M : Mem) (x : XX) (s1 s2 s3 s4 s5 : Int32) : Option (Mem × XX) :=
    (q_bw (fL_classroom F M x s1) fun M1 x2 z3 =>
    q_lt (z3) fun z4 =>
    q_bn (fX6_classroom F M1 s1) fun M5 z6 =>
    q_lt (z6) fun z7 =>
    q_bn (fX6_thrown F M5) fun M8 z9 =>
    if z9 = z4 then
    (if z4 = (0 : Int32) then
    (if (lg_cmp (x2.1) (z7.toInt64)) = (0 : Int32) then
    (some (M8, x2))
    else
    (none))
    else
    (some (M8, x2)))
    else
    (none))
set_option maxHeartbeats 4000000 in
set_option maxRecDepth 100000 in
theorem wL_case0 {v5 s1 s2 s3 s4 s5 : Int32} {r : Mem × XX} {ce sl : Nat} (hst : l.stackTraces = false) (C0 : MX p l s m args meth c D cy ad cL_law RL 9 wsL_law ret) (hX : va_X b L xs s s.heap) (hbl : b < s.heap.size) (hbA : ¬ AA ad s.heap.size b) (hce : ce + 8 ≤ 603072) (hsl : sl + 48 ≤ 7211114) (hs1 : vp_in (v5 + 1) L ∧ xs (v5 + 1).toNatClampNeg = s1) (hs2 : vp_in (v5 + 2) L ∧ xs (v5 + 2).toNatClampNeg = s2) (hs3 : vp_in (v5 + 3) L ∧ xs (v5 + 3).toNatClampNeg = s3) (hs4 : vp_in (v5 + 4) L ∧ xs (v5 + 4).toNatClampNeg = s4) (hs5 : vp_in (v5 + 5) L ∧ xs (v5 + 5).toNatClampNeg = s5)
    (hk : ∀ (H : Heap) (locs : List Loc) (ls : Array Slot), Wd D cy ad r.2 s r.1 H locs → lv_has ls 9 [(0, .ref b), (1, .ref (ad 0)), (2, .ref (ad 427)), (3, .ref (ad 453)), (4, .ref (ad 454)), (5, .int v5)] → W p l e room_1 s m args below meth c H locs (ce + 8) (sl + 48) Q (F0 m 2355 ls []))
    (hw : Wd D cy ad x s M H locs) (hl : lv_has ls 9 [(0, .ref b), (1, .ref (ad 0)), (2, .ref (ad 427)), (3, .ref (ad 453)), (4, .ref (ad 454)), (5, .int v5)]) (h : fL_case0 F M x s1 s2 s3 s4 s5 = some r) : W p l e room_1 s m args below meth c H locs ce sl Q (F0 m 212 ls []) := by
  obtain ⟨hx, hb, hml, hown, hts, -⟩ := id C0
  unfold fL_case0 at h
  refine lv_aload_n hx hb dL_law_212 rfl (lv_at hl 1 rfl) ?_
  refine lv_aload_n hx hb dL_law_213 rfl (lv_at hl 0 rfl) ?_
  refine lv_iload hx hb dL_law_214 (lv_at hl 5 rfl) ?_
  refine lv_iconst (v := 1) hx hb dL_law_216 (by decide) ?_
  refine lv_iadd hx hb dL_law_217 ?_
  refine q_sld C0 hX hbl hbA hw hs1 dL_law_218 ?_
  refine lv_aload_n hx hb dL_law_219 rfl (lv_at hl 3 rfl) ?_
  refine q_callSW (As := [.ref (ad 0), .int s1, .ref (ad 453)]) (nA := 3) C0 hw (fun r1 h1 => ctL_classroom hst h1) gL_law_L_classroom rfl ⟨rfl, rfl⟩ (by decide +kernel) rfl ⟨(Nat.le_of_ble_eq_true rfl), (Nat.le_of_ble_eq_true rfl)⟩ hl.1 (Nat.le_of_ble_eq_true rfl) ⟨lw_rm (a := 2) hce (Nat.le_of_ble_eq_true rfl), lw_rs (a := 12) hsl (Nat.le_of_ble_eq_true rfl)⟩ rfl h dL_law_220 (fun M1 x2 z3 H locs hw h => ?_)
  refine q_istore (lv' := fun z4 => [(6, .int z4), (0, .ref b), (1, .ref (ad 0)), (2, .ref (ad 427)), (3, .ref (ad 453)), (4, .ref (ad 454)), (5, .int v5)]) hx hb dL_law_223 hl (by decide) (fun _ => rfl) h (fun z4 ls hl h => ?_)
  refine lv_aload_n hx hb dL_law_225 rfl (lv_at hl 3 rfl) ?_
  refine lv_aload_n hx hb dL_law_226 rfl (lv_at hl 1 rfl) ?_
  refine lv_iload hx hb dL_law_227 (lv_at hl 6 rfl) ?_
  refine lv_iconst (v := 1) hx hb dL_law_229 (by decide) ?_
  refine lv_iadd hx hb dL_law_230 ?_
  refine q_sld C0 hX hbl hbA hw hs1 dL_law_231 ?_
  refine q_callVNi (As := [.int s1]) (nA := 1) C0 hw at_Mod rfl (fun r1 h1 => ctX6_classroom hst h1) gL_law_X6_classroom rfl ⟨rfl, rfl⟩ (by decide +kernel) rfl ⟨(Nat.le_of_ble_eq_true rfl), (Nat.le_of_ble_eq_true rfl)⟩ hl.1 (Nat.le_of_ble_eq_true rfl) ⟨lw_rm (a := 2) hce (Nat.le_of_ble_eq_true rfl), lw_rs (a := 12) hsl (Nat.le_of_ble_eq_true rfl)⟩ rfl h dL_law_232 (fun M5 z6 H locs hw h => ?_)
  refine q_istore (lv' := fun z7 => [(7, .int z7), (6, .int z4), (0, .ref b), (1, .ref (ad 0)), (2, .ref (ad 427)), (3, .ref (ad 453)), (4, .ref (ad 454)), (5, .int v5)]) hx hb dL_law_235 hl (by decide) (fun _ => rfl) h (fun z7 ls hl h => ?_)
  refine lv_aload_n hx hb dL_law_237 rfl (lv_at hl 4 rfl) ?_
  refine q_callVNi (As := []) (nA := 0) C0 hw at_Mod rfl (fun r1 h1 => ctX6_thrown hst h1) gL_law_X6_thrown rfl ⟨rfl, rfl⟩ (by decide +kernel) rfl ⟨(Nat.le_of_ble_eq_true rfl), (Nat.le_of_ble_eq_true rfl)⟩ hl.1 (Nat.le_of_ble_eq_true rfl) ⟨lw_rm (a := 2) hce (Nat.le_of_ble_eq_true rfl), lw_rs (a := 12) hsl (Nat.le_of_ble_eq_true rfl)⟩ rfl h dL_law_238 (fun M8 z9 H locs hw h => ?_)
  refine lv_iload hx hb dL_law_241 (lv_at hl 1 rfl) ?_
  refine q_icmp_eq (tgt := 248) hx hb dL_law_243 (by decide) h (fun h => ?_) (fun h => ?_)
  · refine lv_iload hx hb dL_law_248 (lv_at hl 1 rfl) ?_
    refine q_if_ne (tgt := 265) hx hb dL_law_250 (by decide) h (fun h => ?_) (fun h => ?_)
    · refine lv_goto (tgt := 2355) hx hb dL_law_265 (by decide) ?_
      exact q_fin h hk hw (lv_sub hl [2, 3, 4, 5, 6, 7] rfl) (lw_ccl (a := 2) (Nat.le_of_ble_eq_true rfl)) (lw_csl (a := 12) (Nat.le_of_ble_eq_true rfl))
    · refine lv_aload_n hx hb dL_law_253 rfl (lv_at hl 5 rfl) ?_
      refine lv_iconst (v := 0) hx hb dL_law_254 (by decide) ?_
      refine q_lald C0 hw dL_law_255 ?_
      refine lv_iload hx hb dL_law_256 (lv_at hl 0 rfl) ?_
      refine lv_i2l hx hb dL_law_258 rfl ?_
      refine W.lcmp hx hb dL_law_259 ?_
      refine q_if_eq (tgt := 265) hx hb dL_law_260 (by decide) h (fun h => ?_) (fun h => ?_)
      · refine lv_goto (tgt := 2355) hx hb dL_law_265 (by decide) ?_
        exact q_fin h hk hw (lv_sub hl [2, 3, 4, 5, 6, 7] rfl) (lw_ccl (a := 2) (Nat.le_of_ble_eq_true rfl)) (lw_csl (a := 12) (Nat.le_of_ble_eq_true rfl))
      · exact q_no h
  · exact q_no h
def fL_case1 (F : Nat) (M : Mem) (x : XX) (s1 s2 s3 s4 s5 : Int32) : Option (Mem × XX) :=
    (q_bw (fL_pupil F M x s1) fun M1 x2 z3 =>
    q_lt (z3) fun z4 =>
    q_bn (fX6_pupil F M1 s1) fun M5 z6 =>
    q_lt (z6) fun z7 =>
    q_bn (fX6_thrown F M5) fun M8 z9 =>
    if z9 = z4 then
    (if z4 = (0 : Int32) then
    (if (lg_cmp (x2.1) (z7.toInt64)) = (0 : Int32) then
    (some (M8, x2))
    else
    (none))
    else
    (some (M8, x2)))
    else
    (none))
set_option maxHeartbeats 4000000 in
set_option maxRecDepth 100000 in
theorem wL_case1 {v5 s1 s2 s3 s4 s5 : Int32} {r : Mem × XX} {ce sl : Nat} (hst : l.stackTraces = false) (C0 : MX p l s m args meth c D cy ad cL_law RL 9 wsL_law ret) (hX : va_X b L xs s s.heap) (hbl : b < s.heap.size) (hbA : ¬ AA ad s.heap.size b) (hce : ce + 8 ≤ 603072) (hsl : sl + 48 ≤ 7211114) (hs1 : vp_in (v5 + 1) L ∧ xs (v5 + 1).toNatClampNeg = s1) (hs2 : vp_in (v5 + 2) L ∧ xs (v5 + 2).toNatClampNeg = s2) (hs3 : vp_in (v5 + 3) L ∧ xs (v5 + 3).toNatClampNeg = s3) (hs4 : vp_in (v5 + 4) L ∧ xs (v5 + 4).toNatClampNeg = s4) (hs5 : vp_in (v5 + 5) L ∧ xs (v5 + 5).toNatClampNeg = s5)
    (hk : ∀ (H : Heap) (locs : List Loc) (ls : Array Slot), Wd D cy ad r.2 s r.1 H locs → lv_has ls 9 [(0, .ref b), (1, .ref (ad 0)), (2, .ref (ad 427)), (3, .ref (ad 453)), (4, .ref (ad 454)), (5, .int v5)] → W p l e room_1 s m args below meth c H locs (ce + 8) (sl + 48) Q (F0 m 2355 ls []))
    (hw : Wd D cy ad x s M H locs) (hl : lv_has ls 9 [(0, .ref b), (1, .ref (ad 0)), (2, .ref (ad 427)), (3, .ref (ad 453)), (4, .ref (ad 454)), (5, .int v5)]) (h : fL_case1 F M x s1 s2 s3 s4 s5 = some r) : W p l e room_1 s m args below meth c H locs ce sl Q (F0 m 268 ls []) := by
  obtain ⟨hx, hb, hml, hown, hts, -⟩ := id C0
  unfold fL_case1 at h
  refine lv_aload_n hx hb dL_law_268 rfl (lv_at hl 1 rfl) ?_
  refine lv_aload_n hx hb dL_law_269 rfl (lv_at hl 0 rfl) ?_
  refine lv_iload hx hb dL_law_270 (lv_at hl 5 rfl) ?_
  refine lv_iconst (v := 1) hx hb dL_law_272 (by decide) ?_
  refine lv_iadd hx hb dL_law_273 ?_
  refine q_sld C0 hX hbl hbA hw hs1 dL_law_274 ?_
  refine lv_aload_n hx hb dL_law_275 rfl (lv_at hl 3 rfl) ?_
  refine q_callSW (As := [.ref (ad 0), .int s1, .ref (ad 453)]) (nA := 3) C0 hw (fun r1 h1 => ctL_pupil hst h1) gL_law_L_pupil rfl ⟨rfl, rfl⟩ (by decide +kernel) rfl ⟨(Nat.le_of_ble_eq_true rfl), (Nat.le_of_ble_eq_true rfl)⟩ hl.1 (Nat.le_of_ble_eq_true rfl) ⟨lw_rm (a := 2) hce (Nat.le_of_ble_eq_true rfl), lw_rs (a := 12) hsl (Nat.le_of_ble_eq_true rfl)⟩ rfl h dL_law_276 (fun M1 x2 z3 H locs hw h => ?_)
  refine q_istore (lv' := fun z4 => [(6, .int z4), (0, .ref b), (1, .ref (ad 0)), (2, .ref (ad 427)), (3, .ref (ad 453)), (4, .ref (ad 454)), (5, .int v5)]) hx hb dL_law_279 hl (by decide) (fun _ => rfl) h (fun z4 ls hl h => ?_)
  refine lv_aload_n hx hb dL_law_281 rfl (lv_at hl 3 rfl) ?_
  refine lv_aload_n hx hb dL_law_282 rfl (lv_at hl 1 rfl) ?_
  refine lv_iload hx hb dL_law_283 (lv_at hl 6 rfl) ?_
  refine lv_iconst (v := 1) hx hb dL_law_285 (by decide) ?_
  refine lv_iadd hx hb dL_law_286 ?_
  refine q_sld C0 hX hbl hbA hw hs1 dL_law_287 ?_
  refine q_callVNi (As := [.int s1]) (nA := 1) C0 hw at_Mod rfl (fun r1 h1 => ctX6_pupil hst h1) gL_law_X6_pupil rfl ⟨rfl, rfl⟩ (by decide +kernel) rfl ⟨(Nat.le_of_ble_eq_true rfl), (Nat.le_of_ble_eq_true rfl)⟩ hl.1 (Nat.le_of_ble_eq_true rfl) ⟨lw_rm (a := 2) hce (Nat.le_of_ble_eq_true rfl), lw_rs (a := 12) hsl (Nat.le_of_ble_eq_true rfl)⟩ rfl h dL_law_288 (fun M5 z6 H locs hw h => ?_)
  refine q_istore (lv' := fun z7 => [(7, .int z7), (6, .int z4), (0, .ref b), (1, .ref (ad 0)), (2, .ref (ad 427)), (3, .ref (ad 453)), (4, .ref (ad 454)), (5, .int v5)]) hx hb dL_law_291 hl (by decide) (fun _ => rfl) h (fun z7 ls hl h => ?_)
  refine lv_aload_n hx hb dL_law_293 rfl (lv_at hl 4 rfl) ?_
  refine q_callVNi (As := []) (nA := 0) C0 hw at_Mod rfl (fun r1 h1 => ctX6_thrown hst h1) gL_law_X6_thrown rfl ⟨rfl, rfl⟩ (by decide +kernel) rfl ⟨(Nat.le_of_ble_eq_true rfl), (Nat.le_of_ble_eq_true rfl)⟩ hl.1 (Nat.le_of_ble_eq_true rfl) ⟨lw_rm (a := 2) hce (Nat.le_of_ble_eq_true rfl), lw_rs (a := 12) hsl (Nat.le_of_ble_eq_true rfl)⟩ rfl h dL_law_294 (fun M8 z9 H locs hw h => ?_)
  refine lv_iload hx hb dL_law_297 (lv_at hl 1 rfl) ?_
  refine q_icmp_eq (tgt := 304) hx hb dL_law_299 (by decide) h (fun h => ?_) (fun h => ?_)
  · refine lv_iload hx hb dL_law_304 (lv_at hl 1 rfl) ?_
    refine q_if_ne (tgt := 321) hx hb dL_law_306 (by decide) h (fun h => ?_) (fun h => ?_)
    · refine lv_goto (tgt := 2355) hx hb dL_law_321 (by decide) ?_
      exact q_fin h hk hw (lv_sub hl [2, 3, 4, 5, 6, 7] rfl) (lw_ccl (a := 2) (Nat.le_of_ble_eq_true rfl)) (lw_csl (a := 12) (Nat.le_of_ble_eq_true rfl))
    · refine lv_aload_n hx hb dL_law_309 rfl (lv_at hl 5 rfl) ?_
      refine lv_iconst (v := 0) hx hb dL_law_310 (by decide) ?_
      refine q_lald C0 hw dL_law_311 ?_
      refine lv_iload hx hb dL_law_312 (lv_at hl 0 rfl) ?_
      refine lv_i2l hx hb dL_law_314 rfl ?_
      refine W.lcmp hx hb dL_law_315 ?_
      refine q_if_eq (tgt := 321) hx hb dL_law_316 (by decide) h (fun h => ?_) (fun h => ?_)
      · refine lv_goto (tgt := 2355) hx hb dL_law_321 (by decide) ?_
        exact q_fin h hk hw (lv_sub hl [2, 3, 4, 5, 6, 7] rfl) (lw_ccl (a := 2) (Nat.le_of_ble_eq_true rfl)) (lw_csl (a := 12) (Nat.le_of_ble_eq_true rfl))
      · exact q_no h
  · exact q_no h
def fL_case2 (F : Nat) (M : Mem) (x : XX) (s1 s2 s3 s4 s5 : Int32) : Option (Mem × XX) :=
    (q_bw (fL_task F M x s1 s2 s3 ((s4.toUInt32 % 65536).toInt32) s5) fun M1 x2 z3 =>
    q_lt (z3) fun z4 =>
    q_bn (fX6_task F M1 s1 s2 s3 ((s4.toUInt32 % 65536).toInt32) s5) fun M5 z6 =>
    q_lt (z6) fun z7 =>
    q_bn (fX6_thrown F M5) fun M8 z9 =>
    if z9 = z4 then
    (if z4 = (0 : Int32) then
    (if (lg_cmp (x2.1) (z7.toInt64)) = (0 : Int32) then
    (some (M8, x2))
    else
    (none))
    else
    (some (M8, x2)))
    else
    (none))
set_option maxHeartbeats 4000000 in
set_option maxRecDepth 100000 in
theorem wL_case2 {v5 s1 s2 s3 s4 s5 : Int32} {r : Mem × XX} {ce sl : Nat} (hst : l.stackTraces = false) (C0 : MX p l s m args meth c D cy ad cL_law RL 9 wsL_law ret) (hX : va_X b L xs s s.heap) (hbl : b < s.heap.size) (hbA : ¬ AA ad s.heap.size b) (hce : ce + 8 ≤ 603072) (hsl : sl + 48 ≤ 7211114) (hs1 : vp_in (v5 + 1) L ∧ xs (v5 + 1).toNatClampNeg = s1) (hs2 : vp_in (v5 + 2) L ∧ xs (v5 + 2).toNatClampNeg = s2) (hs3 : vp_in (v5 + 3) L ∧ xs (v5 + 3).toNatClampNeg = s3) (hs4 : vp_in (v5 + 4) L ∧ xs (v5 + 4).toNatClampNeg = s4) (hs5 : vp_in (v5 + 5) L ∧ xs (v5 + 5).toNatClampNeg = s5)
    (hk : ∀ (H : Heap) (locs : List Loc) (ls : Array Slot), Wd D cy ad r.2 s r.1 H locs → lv_has ls 9 [(0, .ref b), (1, .ref (ad 0)), (2, .ref (ad 427)), (3, .ref (ad 453)), (4, .ref (ad 454)), (5, .int v5)] → W p l e room_1 s m args below meth c H locs (ce + 8) (sl + 48) Q (F0 m 2355 ls []))
    (hw : Wd D cy ad x s M H locs) (hl : lv_has ls 9 [(0, .ref b), (1, .ref (ad 0)), (2, .ref (ad 427)), (3, .ref (ad 453)), (4, .ref (ad 454)), (5, .int v5)]) (h : fL_case2 F M x s1 s2 s3 s4 s5 = some r) : W p l e room_1 s m args below meth c H locs ce sl Q (F0 m 324 ls []) := by
  obtain ⟨hx, hb, hml, hown, hts, -⟩ := id C0
  unfold fL_case2 at h
  refine lv_aload_n hx hb dL_law_324 rfl (lv_at hl 1 rfl) ?_
  refine lv_aload_n hx hb dL_law_325 rfl (lv_at hl 0 rfl) ?_
  refine lv_iload hx hb dL_law_326 (lv_at hl 5 rfl) ?_
  refine lv_iconst (v := 1) hx hb dL_law_328 (by decide) ?_
  refine lv_iadd hx hb dL_law_329 ?_
  refine q_sld C0 hX hbl hbA hw hs1 dL_law_330 ?_
  refine lv_aload_n hx hb dL_law_331 rfl (lv_at hl 0 rfl) ?_
  refine lv_iload hx hb dL_law_332 (lv_at hl 5 rfl) ?_
  refine lv_iconst (v := 2) hx hb dL_law_334 (by decide) ?_
  refine lv_iadd hx hb dL_law_335 ?_
  refine q_sld C0 hX hbl hbA hw hs2 dL_law_336 ?_
  refine lv_aload_n hx hb dL_law_337 rfl (lv_at hl 0 rfl) ?_
  refine lv_iload hx hb dL_law_338 (lv_at hl 5 rfl) ?_
  refine lv_iconst (v := 3) hx hb dL_law_340 (by decide) ?_
  refine lv_iadd hx hb dL_law_341 ?_
  refine q_sld C0 hX hbl hbA hw hs3 dL_law_342 ?_
  refine lv_aload_n hx hb dL_law_343 rfl (lv_at hl 0 rfl) ?_
  refine lv_iload hx hb dL_law_344 (lv_at hl 5 rfl) ?_
  refine lv_iconst (v := 4) hx hb dL_law_346 (by decide) ?_
  refine lv_iadd hx hb dL_law_347 ?_
  refine q_sld C0 hX hbl hbA hw hs4 dL_law_348 ?_
  refine lv_i2c hx hb dL_law_349 rfl ?_
  refine lv_aload_n hx hb dL_law_350 rfl (lv_at hl 0 rfl) ?_
  refine lv_iload hx hb dL_law_351 (lv_at hl 5 rfl) ?_
  refine lv_iconst (v := 5) hx hb dL_law_353 (by decide) ?_
  refine lv_iadd hx hb dL_law_354 ?_
  refine q_sld C0 hX hbl hbA hw hs5 dL_law_355 ?_
  refine lv_aload_n hx hb dL_law_356 rfl (lv_at hl 3 rfl) ?_
  refine q_callSW (As := [.ref (ad 0), .int s1, .int s2, .int s3, .int ((s4.toUInt32 % 65536).toInt32), .int s5, .ref (ad 453)]) (nA := 7) C0 hw (fun r1 h1 => ctL_task hst h1) gL_law_L_task rfl ⟨rfl, rfl⟩ (by decide +kernel) rfl ⟨(Nat.le_of_ble_eq_true rfl), (Nat.le_of_ble_eq_true rfl)⟩ hl.1 (Nat.le_of_ble_eq_true rfl) ⟨lw_rm (a := 6) hce (Nat.le_of_ble_eq_true rfl), lw_rs (a := 36) hsl (Nat.le_of_ble_eq_true rfl)⟩ rfl h dL_law_357 (fun M1 x2 z3 H locs hw h => ?_)
  refine q_istore (lv' := fun z4 => [(6, .int z4), (0, .ref b), (1, .ref (ad 0)), (2, .ref (ad 427)), (3, .ref (ad 453)), (4, .ref (ad 454)), (5, .int v5)]) hx hb dL_law_360 hl (by decide) (fun _ => rfl) h (fun z4 ls hl h => ?_)
  refine lv_aload_n hx hb dL_law_362 rfl (lv_at hl 3 rfl) ?_
  refine lv_aload_n hx hb dL_law_363 rfl (lv_at hl 1 rfl) ?_
  refine lv_iload hx hb dL_law_364 (lv_at hl 6 rfl) ?_
  refine lv_iconst (v := 1) hx hb dL_law_366 (by decide) ?_
  refine lv_iadd hx hb dL_law_367 ?_
  refine q_sld C0 hX hbl hbA hw hs1 dL_law_368 ?_
  refine lv_aload_n hx hb dL_law_369 rfl (lv_at hl 1 rfl) ?_
  refine lv_iload hx hb dL_law_370 (lv_at hl 6 rfl) ?_
  refine lv_iconst (v := 2) hx hb dL_law_372 (by decide) ?_
  refine lv_iadd hx hb dL_law_373 ?_
  refine q_sld C0 hX hbl hbA hw hs2 dL_law_374 ?_
  refine lv_aload_n hx hb dL_law_375 rfl (lv_at hl 1 rfl) ?_
  refine lv_iload hx hb dL_law_376 (lv_at hl 6 rfl) ?_
  refine lv_iconst (v := 3) hx hb dL_law_378 (by decide) ?_
  refine lv_iadd hx hb dL_law_379 ?_
  refine q_sld C0 hX hbl hbA hw hs3 dL_law_380 ?_
  refine lv_aload_n hx hb dL_law_381 rfl (lv_at hl 1 rfl) ?_
  refine lv_iload hx hb dL_law_382 (lv_at hl 6 rfl) ?_
  refine lv_iconst (v := 4) hx hb dL_law_384 (by decide) ?_
  refine lv_iadd hx hb dL_law_385 ?_
  refine q_sld C0 hX hbl hbA hw hs4 dL_law_386 ?_
  refine lv_i2c hx hb dL_law_387 rfl ?_
  refine lv_aload_n hx hb dL_law_388 rfl (lv_at hl 1 rfl) ?_
  refine lv_iload hx hb dL_law_389 (lv_at hl 6 rfl) ?_
  refine lv_iconst (v := 5) hx hb dL_law_391 (by decide) ?_
  refine lv_iadd hx hb dL_law_392 ?_
  refine q_sld C0 hX hbl hbA hw hs5 dL_law_393 ?_
  refine q_callVNi (As := [.int s1, .int s2, .int s3, .int ((s4.toUInt32 % 65536).toInt32), .int s5]) (nA := 5) C0 hw at_Mod rfl (fun r1 h1 => ctX6_task hst h1) gL_law_X6_task rfl ⟨rfl, rfl⟩ (by decide +kernel) rfl ⟨(Nat.le_of_ble_eq_true rfl), (Nat.le_of_ble_eq_true rfl)⟩ hl.1 (Nat.le_of_ble_eq_true rfl) ⟨lw_rm (a := 6) hce (Nat.le_of_ble_eq_true rfl), lw_rs (a := 36) hsl (Nat.le_of_ble_eq_true rfl)⟩ rfl h dL_law_394 (fun M5 z6 H locs hw h => ?_)
  refine q_istore (lv' := fun z7 => [(7, .int z7), (6, .int z4), (0, .ref b), (1, .ref (ad 0)), (2, .ref (ad 427)), (3, .ref (ad 453)), (4, .ref (ad 454)), (5, .int v5)]) hx hb dL_law_397 hl (by decide) (fun _ => rfl) h (fun z7 ls hl h => ?_)
  refine lv_aload_n hx hb dL_law_399 rfl (lv_at hl 4 rfl) ?_
  refine q_callVNi (As := []) (nA := 0) C0 hw at_Mod rfl (fun r1 h1 => ctX6_thrown hst h1) gL_law_X6_thrown rfl ⟨rfl, rfl⟩ (by decide +kernel) rfl ⟨(Nat.le_of_ble_eq_true rfl), (Nat.le_of_ble_eq_true rfl)⟩ hl.1 (Nat.le_of_ble_eq_true rfl) ⟨lw_rm (a := 6) hce (Nat.le_of_ble_eq_true rfl), lw_rs (a := 36) hsl (Nat.le_of_ble_eq_true rfl)⟩ rfl h dL_law_400 (fun M8 z9 H locs hw h => ?_)
  refine lv_iload hx hb dL_law_403 (lv_at hl 1 rfl) ?_
  refine q_icmp_eq (tgt := 410) hx hb dL_law_405 (by decide) h (fun h => ?_) (fun h => ?_)
  · refine lv_iload hx hb dL_law_410 (lv_at hl 1 rfl) ?_
    refine q_if_ne (tgt := 427) hx hb dL_law_412 (by decide) h (fun h => ?_) (fun h => ?_)
    · refine lv_goto (tgt := 2355) hx hb dL_law_427 (by decide) ?_
      exact q_fin h hk hw (lv_sub hl [2, 3, 4, 5, 6, 7] rfl) (lw_ccl (a := 6) (Nat.le_of_ble_eq_true rfl)) (lw_csl (a := 36) (Nat.le_of_ble_eq_true rfl))
    · refine lv_aload_n hx hb dL_law_415 rfl (lv_at hl 5 rfl) ?_
      refine lv_iconst (v := 0) hx hb dL_law_416 (by decide) ?_
      refine q_lald C0 hw dL_law_417 ?_
      refine lv_iload hx hb dL_law_418 (lv_at hl 0 rfl) ?_
      refine lv_i2l hx hb dL_law_420 rfl ?_
      refine W.lcmp hx hb dL_law_421 ?_
      refine q_if_eq (tgt := 427) hx hb dL_law_422 (by decide) h (fun h => ?_) (fun h => ?_)
      · refine lv_goto (tgt := 2355) hx hb dL_law_427 (by decide) ?_
        exact q_fin h hk hw (lv_sub hl [2, 3, 4, 5, 6, 7] rfl) (lw_ccl (a := 6) (Nat.le_of_ble_eq_true rfl)) (lw_csl (a := 36) (Nat.le_of_ble_eq_true rfl))
      · exact q_no h
  · exact q_no h
def fL_case3 (F : Nat) (M : Mem) (x : XX) (s1 s2 s3 s4 s5 : Int32) : Option (Mem × XX) :=
    (q_bw (fL_pass F M x s1) fun M1 x2 z3 =>
    q_lt (z3) fun z4 =>
    q_bn (fX6_pass F M1 s1) fun M5 z6 =>
    q_lt (z6) fun z7 =>
    q_bn (fX6_thrown F M5) fun M8 z9 =>
    if z9 = z4 then
    (if z4 = (0 : Int32) then
    (if (lg_cmp (x2.1) (z7.toInt64)) = (0 : Int32) then
    (some (M8, x2))
    else
    (none))
    else
    (some (M8, x2)))
    else
    (none))
set_option maxHeartbeats 4000000 in
set_option maxRecDepth 100000 in
theorem wL_case3 {v5 s1 s2 s3 s4 s5 : Int32} {r : Mem × XX} {ce sl : Nat} (hst : l.stackTraces = false) (C0 : MX p l s m args meth c D cy ad cL_law RL 9 wsL_law ret) (hX : va_X b L xs s s.heap) (hbl : b < s.heap.size) (hbA : ¬ AA ad s.heap.size b) (hce : ce + 8 ≤ 603072) (hsl : sl + 48 ≤ 7211114) (hs1 : vp_in (v5 + 1) L ∧ xs (v5 + 1).toNatClampNeg = s1) (hs2 : vp_in (v5 + 2) L ∧ xs (v5 + 2).toNatClampNeg = s2) (hs3 : vp_in (v5 + 3) L ∧ xs (v5 + 3).toNatClampNeg = s3) (hs4 : vp_in (v5 + 4) L ∧ xs (v5 + 4).toNatClampNeg = s4) (hs5 : vp_in (v5 + 5) L ∧ xs (v5 + 5).toNatClampNeg = s5)
    (hk : ∀ (H : Heap) (locs : List Loc) (ls : Array Slot), Wd D cy ad r.2 s r.1 H locs → lv_has ls 9 [(0, .ref b), (1, .ref (ad 0)), (2, .ref (ad 427)), (3, .ref (ad 453)), (4, .ref (ad 454)), (5, .int v5)] → W p l e room_1 s m args below meth c H locs (ce + 8) (sl + 48) Q (F0 m 2355 ls []))
    (hw : Wd D cy ad x s M H locs) (hl : lv_has ls 9 [(0, .ref b), (1, .ref (ad 0)), (2, .ref (ad 427)), (3, .ref (ad 453)), (4, .ref (ad 454)), (5, .int v5)]) (h : fL_case3 F M x s1 s2 s3 s4 s5 = some r) : W p l e room_1 s m args below meth c H locs ce sl Q (F0 m 430 ls []) := by
  obtain ⟨hx, hb, hml, hown, hts, -⟩ := id C0
  unfold fL_case3 at h
  refine lv_aload_n hx hb dL_law_430 rfl (lv_at hl 1 rfl) ?_
  refine lv_aload_n hx hb dL_law_431 rfl (lv_at hl 0 rfl) ?_
  refine lv_iload hx hb dL_law_432 (lv_at hl 5 rfl) ?_
  refine lv_iconst (v := 1) hx hb dL_law_434 (by decide) ?_
  refine lv_iadd hx hb dL_law_435 ?_
  refine q_sld C0 hX hbl hbA hw hs1 dL_law_436 ?_
  refine lv_aload_n hx hb dL_law_437 rfl (lv_at hl 3 rfl) ?_
  refine q_callSW (As := [.ref (ad 0), .int s1, .ref (ad 453)]) (nA := 3) C0 hw (fun r1 h1 => ctL_pass hst h1) gL_law_L_pass rfl ⟨rfl, rfl⟩ (by decide +kernel) rfl ⟨(Nat.le_of_ble_eq_true rfl), (Nat.le_of_ble_eq_true rfl)⟩ hl.1 (Nat.le_of_ble_eq_true rfl) ⟨lw_rm (a := 2) hce (Nat.le_of_ble_eq_true rfl), lw_rs (a := 12) hsl (Nat.le_of_ble_eq_true rfl)⟩ rfl h dL_law_438 (fun M1 x2 z3 H locs hw h => ?_)
  refine q_istore (lv' := fun z4 => [(6, .int z4), (0, .ref b), (1, .ref (ad 0)), (2, .ref (ad 427)), (3, .ref (ad 453)), (4, .ref (ad 454)), (5, .int v5)]) hx hb dL_law_441 hl (by decide) (fun _ => rfl) h (fun z4 ls hl h => ?_)
  refine lv_aload_n hx hb dL_law_443 rfl (lv_at hl 3 rfl) ?_
  refine lv_aload_n hx hb dL_law_444 rfl (lv_at hl 1 rfl) ?_
  refine lv_iload hx hb dL_law_445 (lv_at hl 6 rfl) ?_
  refine lv_iconst (v := 1) hx hb dL_law_447 (by decide) ?_
  refine lv_iadd hx hb dL_law_448 ?_
  refine q_sld C0 hX hbl hbA hw hs1 dL_law_449 ?_
  refine q_callVNi (As := [.int s1]) (nA := 1) C0 hw at_Mod rfl (fun r1 h1 => ctX6_pass hst h1) gL_law_X6_pass rfl ⟨rfl, rfl⟩ (by decide +kernel) rfl ⟨(Nat.le_of_ble_eq_true rfl), (Nat.le_of_ble_eq_true rfl)⟩ hl.1 (Nat.le_of_ble_eq_true rfl) ⟨lw_rm (a := 2) hce (Nat.le_of_ble_eq_true rfl), lw_rs (a := 12) hsl (Nat.le_of_ble_eq_true rfl)⟩ rfl h dL_law_450 (fun M5 z6 H locs hw h => ?_)
  refine q_istore (lv' := fun z7 => [(7, .int z7), (6, .int z4), (0, .ref b), (1, .ref (ad 0)), (2, .ref (ad 427)), (3, .ref (ad 453)), (4, .ref (ad 454)), (5, .int v5)]) hx hb dL_law_453 hl (by decide) (fun _ => rfl) h (fun z7 ls hl h => ?_)
  refine lv_aload_n hx hb dL_law_455 rfl (lv_at hl 4 rfl) ?_
  refine q_callVNi (As := []) (nA := 0) C0 hw at_Mod rfl (fun r1 h1 => ctX6_thrown hst h1) gL_law_X6_thrown rfl ⟨rfl, rfl⟩ (by decide +kernel) rfl ⟨(Nat.le_of_ble_eq_true rfl), (Nat.le_of_ble_eq_true rfl)⟩ hl.1 (Nat.le_of_ble_eq_true rfl) ⟨lw_rm (a := 2) hce (Nat.le_of_ble_eq_true rfl), lw_rs (a := 12) hsl (Nat.le_of_ble_eq_true rfl)⟩ rfl h dL_law_456 (fun M8 z9 H locs hw h => ?_)
  refine lv_iload hx hb dL_law_459 (lv_at hl 1 rfl) ?_
  refine q_icmp_eq (tgt := 466) hx hb dL_law_461 (by decide) h (fun h => ?_) (fun h => ?_)
  · refine lv_iload hx hb dL_law_466 (lv_at hl 1 rfl) ?_
    refine q_if_ne (tgt := 483) hx hb dL_law_468 (by decide) h (fun h => ?_) (fun h => ?_)
    · refine lv_goto (tgt := 2355) hx hb dL_law_483 (by decide) ?_
      exact q_fin h hk hw (lv_sub hl [2, 3, 4, 5, 6, 7] rfl) (lw_ccl (a := 2) (Nat.le_of_ble_eq_true rfl)) (lw_csl (a := 12) (Nat.le_of_ble_eq_true rfl))
    · refine lv_aload_n hx hb dL_law_471 rfl (lv_at hl 5 rfl) ?_
      refine lv_iconst (v := 0) hx hb dL_law_472 (by decide) ?_
      refine q_lald C0 hw dL_law_473 ?_
      refine lv_iload hx hb dL_law_474 (lv_at hl 0 rfl) ?_
      refine lv_i2l hx hb dL_law_476 rfl ?_
      refine W.lcmp hx hb dL_law_477 ?_
      refine q_if_eq (tgt := 483) hx hb dL_law_478 (by decide) h (fun h => ?_) (fun h => ?_)
      · refine lv_goto (tgt := 2355) hx hb dL_law_483 (by decide) ?_
        exact q_fin h hk hw (lv_sub hl [2, 3, 4, 5, 6, 7] rfl) (lw_ccl (a := 2) (Nat.le_of_ble_eq_true rfl)) (lw_csl (a := 12) (Nat.le_of_ble_eq_true rfl))
      · exact q_no h
  · exact q_no h
def fL_case4 (F : Nat) (M : Mem) (x : XX) (s1 s2 s3 s4 s5 : Int32) : Option (Mem × XX) :=
    (q_bw (fL_clock F M x s1) fun M1 x2 z3 =>
    q_lt (z3) fun z4 =>
    q_bn (fX6_clock F M1 s1) fun M5 z6 =>
    q_lt (z6) fun z7 =>
    q_bn (fX6_thrown F M5) fun M8 z9 =>
    if z9 = z4 then
    (if z4 = (0 : Int32) then
    (if (lg_cmp (x2.1) (z7.toInt64)) = (0 : Int32) then
    (some (M8, x2))
    else
    (none))
    else
    (some (M8, x2)))
    else
    (none))
set_option maxHeartbeats 4000000 in
set_option maxRecDepth 100000 in
theorem wL_case4 {v5 s1 s2 s3 s4 s5 : Int32} {r : Mem × XX} {ce sl : Nat} (hst : l.stackTraces = false) (C0 : MX p l s m args meth c D cy ad cL_law RL 9 wsL_law ret) (hX : va_X b L xs s s.heap) (hbl : b < s.heap.size) (hbA : ¬ AA ad s.heap.size b) (hce : ce + 8 ≤ 603072) (hsl : sl + 48 ≤ 7211114) (hs1 : vp_in (v5 + 1) L ∧ xs (v5 + 1).toNatClampNeg = s1) (hs2 : vp_in (v5 + 2) L ∧ xs (v5 + 2).toNatClampNeg = s2) (hs3 : vp_in (v5 + 3) L ∧ xs (v5 + 3).toNatClampNeg = s3) (hs4 : vp_in (v5 + 4) L ∧ xs (v5 + 4).toNatClampNeg = s4) (hs5 : vp_in (v5 + 5) L ∧ xs (v5 + 5).toNatClampNeg = s5)
    (hk : ∀ (H : Heap) (locs : List Loc) (ls : Array Slot), Wd D cy ad r.2 s r.1 H locs → lv_has ls 9 [(0, .ref b), (1, .ref (ad 0)), (2, .ref (ad 427)), (3, .ref (ad 453)), (4, .ref (ad 454)), (5, .int v5)] → W p l e room_1 s m args below meth c H locs (ce + 8) (sl + 48) Q (F0 m 2355 ls []))
    (hw : Wd D cy ad x s M H locs) (hl : lv_has ls 9 [(0, .ref b), (1, .ref (ad 0)), (2, .ref (ad 427)), (3, .ref (ad 453)), (4, .ref (ad 454)), (5, .int v5)]) (h : fL_case4 F M x s1 s2 s3 s4 s5 = some r) : W p l e room_1 s m args below meth c H locs ce sl Q (F0 m 486 ls []) := by
  obtain ⟨hx, hb, hml, hown, hts, -⟩ := id C0
  unfold fL_case4 at h
  refine lv_aload_n hx hb dL_law_486 rfl (lv_at hl 1 rfl) ?_
  refine lv_aload_n hx hb dL_law_487 rfl (lv_at hl 0 rfl) ?_
  refine lv_iload hx hb dL_law_488 (lv_at hl 5 rfl) ?_
  refine lv_iconst (v := 1) hx hb dL_law_490 (by decide) ?_
  refine lv_iadd hx hb dL_law_491 ?_
  refine q_sld C0 hX hbl hbA hw hs1 dL_law_492 ?_
  refine lv_aload_n hx hb dL_law_493 rfl (lv_at hl 3 rfl) ?_
  refine q_callSW (As := [.ref (ad 0), .int s1, .ref (ad 453)]) (nA := 3) C0 hw (fun r1 h1 => ctL_clock hst h1) gL_law_L_clock rfl ⟨rfl, rfl⟩ (by decide +kernel) rfl ⟨(Nat.le_of_ble_eq_true rfl), (Nat.le_of_ble_eq_true rfl)⟩ hl.1 (Nat.le_of_ble_eq_true rfl) ⟨lw_rm (a := 1) hce (Nat.le_of_ble_eq_true rfl), lw_rs (a := 6) hsl (Nat.le_of_ble_eq_true rfl)⟩ rfl h dL_law_494 (fun M1 x2 z3 H locs hw h => ?_)
  refine q_istore (lv' := fun z4 => [(6, .int z4), (0, .ref b), (1, .ref (ad 0)), (2, .ref (ad 427)), (3, .ref (ad 453)), (4, .ref (ad 454)), (5, .int v5)]) hx hb dL_law_497 hl (by decide) (fun _ => rfl) h (fun z4 ls hl h => ?_)
  refine lv_aload_n hx hb dL_law_499 rfl (lv_at hl 3 rfl) ?_
  refine lv_aload_n hx hb dL_law_500 rfl (lv_at hl 1 rfl) ?_
  refine lv_iload hx hb dL_law_501 (lv_at hl 6 rfl) ?_
  refine lv_iconst (v := 1) hx hb dL_law_503 (by decide) ?_
  refine lv_iadd hx hb dL_law_504 ?_
  refine q_sld C0 hX hbl hbA hw hs1 dL_law_505 ?_
  refine q_callVNi (As := [.int s1]) (nA := 1) C0 hw at_Mod rfl (fun r1 h1 => ctX6_clock hst h1) gL_law_X6_clock rfl ⟨rfl, rfl⟩ (by decide +kernel) rfl ⟨(Nat.le_of_ble_eq_true rfl), (Nat.le_of_ble_eq_true rfl)⟩ hl.1 (Nat.le_of_ble_eq_true rfl) ⟨lw_rm (a := 1) hce (Nat.le_of_ble_eq_true rfl), lw_rs (a := 6) hsl (Nat.le_of_ble_eq_true rfl)⟩ rfl h dL_law_506 (fun M5 z6 H locs hw h => ?_)
  refine q_istore (lv' := fun z7 => [(7, .int z7), (6, .int z4), (0, .ref b), (1, .ref (ad 0)), (2, .ref (ad 427)), (3, .ref (ad 453)), (4, .ref (ad 454)), (5, .int v5)]) hx hb dL_law_509 hl (by decide) (fun _ => rfl) h (fun z7 ls hl h => ?_)
  refine lv_aload_n hx hb dL_law_511 rfl (lv_at hl 4 rfl) ?_
  refine q_callVNi (As := []) (nA := 0) C0 hw at_Mod rfl (fun r1 h1 => ctX6_thrown hst h1) gL_law_X6_thrown rfl ⟨rfl, rfl⟩ (by decide +kernel) rfl ⟨(Nat.le_of_ble_eq_true rfl), (Nat.le_of_ble_eq_true rfl)⟩ hl.1 (Nat.le_of_ble_eq_true rfl) ⟨lw_rm (a := 1) hce (Nat.le_of_ble_eq_true rfl), lw_rs (a := 6) hsl (Nat.le_of_ble_eq_true rfl)⟩ rfl h dL_law_512 (fun M8 z9 H locs hw h => ?_)
  refine lv_iload hx hb dL_law_515 (lv_at hl 1 rfl) ?_
  refine q_icmp_eq (tgt := 522) hx hb dL_law_517 (by decide) h (fun h => ?_) (fun h => ?_)
  · refine lv_iload hx hb dL_law_522 (lv_at hl 1 rfl) ?_
    refine q_if_ne (tgt := 539) hx hb dL_law_524 (by decide) h (fun h => ?_) (fun h => ?_)
    · refine lv_goto (tgt := 2355) hx hb dL_law_539 (by decide) ?_
      exact q_fin h hk hw (lv_sub hl [2, 3, 4, 5, 6, 7] rfl) (lw_ccl (a := 1) (Nat.le_of_ble_eq_true rfl)) (lw_csl (a := 6) (Nat.le_of_ble_eq_true rfl))
    · refine lv_aload_n hx hb dL_law_527 rfl (lv_at hl 5 rfl) ?_
      refine lv_iconst (v := 0) hx hb dL_law_528 (by decide) ?_
      refine q_lald C0 hw dL_law_529 ?_
      refine lv_iload hx hb dL_law_530 (lv_at hl 0 rfl) ?_
      refine lv_i2l hx hb dL_law_532 rfl ?_
      refine W.lcmp hx hb dL_law_533 ?_
      refine q_if_eq (tgt := 539) hx hb dL_law_534 (by decide) h (fun h => ?_) (fun h => ?_)
      · refine lv_goto (tgt := 2355) hx hb dL_law_539 (by decide) ?_
        exact q_fin h hk hw (lv_sub hl [2, 3, 4, 5, 6, 7] rfl) (lw_ccl (a := 1) (Nat.le_of_ble_eq_true rfl)) (lw_csl (a := 6) (Nat.le_of_ble_eq_true rfl))
      · exact q_no h
  · exact q_no h
def fL_case5 (F : Nat) (M : Mem) (x : XX) (s1 s2 s3 s4 s5 : Int32) : Option (Mem × XX) :=
    (q_bw (fL_type F M x s1) fun M1 x2 z3 =>
    q_lt (z3) fun z4 =>
    q_bn (fX6_type F M1 s1) fun M5 z6 =>
    q_lt (z6) fun z7 =>
    q_bn (fX6_thrown F M5) fun M8 z9 =>
    if z9 = z4 then
    (if z4 = (0 : Int32) then
    (if (lg_cmp (x2.1) (z7.toInt64)) = (0 : Int32) then
    (some (M8, x2))
    else
    (none))
    else
    (some (M8, x2)))
    else
    (none))
set_option maxHeartbeats 4000000 in
set_option maxRecDepth 100000 in
theorem wL_case5 {v5 s1 s2 s3 s4 s5 : Int32} {r : Mem × XX} {ce sl : Nat} (hst : l.stackTraces = false) (C0 : MX p l s m args meth c D cy ad cL_law RL 9 wsL_law ret) (hX : va_X b L xs s s.heap) (hbl : b < s.heap.size) (hbA : ¬ AA ad s.heap.size b) (hce : ce + 8 ≤ 603072) (hsl : sl + 48 ≤ 7211114) (hs1 : vp_in (v5 + 1) L ∧ xs (v5 + 1).toNatClampNeg = s1) (hs2 : vp_in (v5 + 2) L ∧ xs (v5 + 2).toNatClampNeg = s2) (hs3 : vp_in (v5 + 3) L ∧ xs (v5 + 3).toNatClampNeg = s3) (hs4 : vp_in (v5 + 4) L ∧ xs (v5 + 4).toNatClampNeg = s4) (hs5 : vp_in (v5 + 5) L ∧ xs (v5 + 5).toNatClampNeg = s5)
    (hk : ∀ (H : Heap) (locs : List Loc) (ls : Array Slot), Wd D cy ad r.2 s r.1 H locs → lv_has ls 9 [(0, .ref b), (1, .ref (ad 0)), (2, .ref (ad 427)), (3, .ref (ad 453)), (4, .ref (ad 454)), (5, .int v5)] → W p l e room_1 s m args below meth c H locs (ce + 8) (sl + 48) Q (F0 m 2355 ls []))
    (hw : Wd D cy ad x s M H locs) (hl : lv_has ls 9 [(0, .ref b), (1, .ref (ad 0)), (2, .ref (ad 427)), (3, .ref (ad 453)), (4, .ref (ad 454)), (5, .int v5)]) (h : fL_case5 F M x s1 s2 s3 s4 s5 = some r) : W p l e room_1 s m args below meth c H locs ce sl Q (F0 m 542 ls []) := by
  obtain ⟨hx, hb, hml, hown, hts, -⟩ := id C0
  unfold fL_case5 at h
  refine lv_aload_n hx hb dL_law_542 rfl (lv_at hl 1 rfl) ?_
  refine lv_aload_n hx hb dL_law_543 rfl (lv_at hl 0 rfl) ?_
  refine lv_iload hx hb dL_law_544 (lv_at hl 5 rfl) ?_
  refine lv_iconst (v := 1) hx hb dL_law_546 (by decide) ?_
  refine lv_iadd hx hb dL_law_547 ?_
  refine q_sld C0 hX hbl hbA hw hs1 dL_law_548 ?_
  refine lv_aload_n hx hb dL_law_549 rfl (lv_at hl 3 rfl) ?_
  refine q_callSW (As := [.ref (ad 0), .int s1, .ref (ad 453)]) (nA := 3) C0 hw (fun r1 h1 => ctL_type hst h1) gL_law_L_type rfl ⟨rfl, rfl⟩ (by decide +kernel) rfl ⟨(Nat.le_of_ble_eq_true rfl), (Nat.le_of_ble_eq_true rfl)⟩ hl.1 (Nat.le_of_ble_eq_true rfl) ⟨lw_rm (a := 2) hce (Nat.le_of_ble_eq_true rfl), lw_rs (a := 12) hsl (Nat.le_of_ble_eq_true rfl)⟩ rfl h dL_law_550 (fun M1 x2 z3 H locs hw h => ?_)
  refine q_istore (lv' := fun z4 => [(6, .int z4), (0, .ref b), (1, .ref (ad 0)), (2, .ref (ad 427)), (3, .ref (ad 453)), (4, .ref (ad 454)), (5, .int v5)]) hx hb dL_law_553 hl (by decide) (fun _ => rfl) h (fun z4 ls hl h => ?_)
  refine lv_aload_n hx hb dL_law_555 rfl (lv_at hl 3 rfl) ?_
  refine lv_aload_n hx hb dL_law_556 rfl (lv_at hl 1 rfl) ?_
  refine lv_iload hx hb dL_law_557 (lv_at hl 6 rfl) ?_
  refine lv_iconst (v := 1) hx hb dL_law_559 (by decide) ?_
  refine lv_iadd hx hb dL_law_560 ?_
  refine q_sld C0 hX hbl hbA hw hs1 dL_law_561 ?_
  refine q_callVNi (As := [.int s1]) (nA := 1) C0 hw at_Mod rfl (fun r1 h1 => ctX6_type hst h1) gL_law_X6_type rfl ⟨rfl, rfl⟩ (by decide +kernel) rfl ⟨(Nat.le_of_ble_eq_true rfl), (Nat.le_of_ble_eq_true rfl)⟩ hl.1 (Nat.le_of_ble_eq_true rfl) ⟨lw_rm (a := 2) hce (Nat.le_of_ble_eq_true rfl), lw_rs (a := 12) hsl (Nat.le_of_ble_eq_true rfl)⟩ rfl h dL_law_562 (fun M5 z6 H locs hw h => ?_)
  refine q_istore (lv' := fun z7 => [(7, .int z7), (6, .int z4), (0, .ref b), (1, .ref (ad 0)), (2, .ref (ad 427)), (3, .ref (ad 453)), (4, .ref (ad 454)), (5, .int v5)]) hx hb dL_law_565 hl (by decide) (fun _ => rfl) h (fun z7 ls hl h => ?_)
  refine lv_aload_n hx hb dL_law_567 rfl (lv_at hl 4 rfl) ?_
  refine q_callVNi (As := []) (nA := 0) C0 hw at_Mod rfl (fun r1 h1 => ctX6_thrown hst h1) gL_law_X6_thrown rfl ⟨rfl, rfl⟩ (by decide +kernel) rfl ⟨(Nat.le_of_ble_eq_true rfl), (Nat.le_of_ble_eq_true rfl)⟩ hl.1 (Nat.le_of_ble_eq_true rfl) ⟨lw_rm (a := 2) hce (Nat.le_of_ble_eq_true rfl), lw_rs (a := 12) hsl (Nat.le_of_ble_eq_true rfl)⟩ rfl h dL_law_568 (fun M8 z9 H locs hw h => ?_)
  refine lv_iload hx hb dL_law_571 (lv_at hl 1 rfl) ?_
  refine q_icmp_eq (tgt := 578) hx hb dL_law_573 (by decide) h (fun h => ?_) (fun h => ?_)
  · refine lv_iload hx hb dL_law_578 (lv_at hl 1 rfl) ?_
    refine q_if_ne (tgt := 595) hx hb dL_law_580 (by decide) h (fun h => ?_) (fun h => ?_)
    · refine lv_goto (tgt := 2355) hx hb dL_law_595 (by decide) ?_
      exact q_fin h hk hw (lv_sub hl [2, 3, 4, 5, 6, 7] rfl) (lw_ccl (a := 2) (Nat.le_of_ble_eq_true rfl)) (lw_csl (a := 12) (Nat.le_of_ble_eq_true rfl))
    · refine lv_aload_n hx hb dL_law_583 rfl (lv_at hl 5 rfl) ?_
      refine lv_iconst (v := 0) hx hb dL_law_584 (by decide) ?_
      refine q_lald C0 hw dL_law_585 ?_
      refine lv_iload hx hb dL_law_586 (lv_at hl 0 rfl) ?_
      refine lv_i2l hx hb dL_law_588 rfl ?_
      refine W.lcmp hx hb dL_law_589 ?_
      refine q_if_eq (tgt := 595) hx hb dL_law_590 (by decide) h (fun h => ?_) (fun h => ?_)
      · refine lv_goto (tgt := 2355) hx hb dL_law_595 (by decide) ?_
        exact q_fin h hk hw (lv_sub hl [2, 3, 4, 5, 6, 7] rfl) (lw_ccl (a := 2) (Nat.le_of_ble_eq_true rfl)) (lw_csl (a := 12) (Nat.le_of_ble_eq_true rfl))
      · exact q_no h
  · exact q_no h
def fL_case6 (F : Nat) (M : Mem) (x : XX) (s1 s2 s3 s4 s5 : Int32) : Option (Mem × XX) :=
    (q_bw (fL_insert F M x s1 s2) fun M1 x2 z3 =>
    q_lt (z3) fun z4 =>
    q_bn (fX6_insert F M1 s1 s2) fun M5 z6 =>
    q_lt (z6) fun z7 =>
    q_bn (fX6_thrown F M5) fun M8 z9 =>
    if z9 = z4 then
    (if z4 = (0 : Int32) then
    (if (lg_cmp (x2.1) (z7.toInt64)) = (0 : Int32) then
    (some (M8, x2))
    else
    (none))
    else
    (some (M8, x2)))
    else
    (none))
set_option maxHeartbeats 4000000 in
set_option maxRecDepth 100000 in
theorem wL_case6 {v5 s1 s2 s3 s4 s5 : Int32} {r : Mem × XX} {ce sl : Nat} (hst : l.stackTraces = false) (C0 : MX p l s m args meth c D cy ad cL_law RL 9 wsL_law ret) (hX : va_X b L xs s s.heap) (hbl : b < s.heap.size) (hbA : ¬ AA ad s.heap.size b) (hce : ce + 8 ≤ 603072) (hsl : sl + 48 ≤ 7211114) (hs1 : vp_in (v5 + 1) L ∧ xs (v5 + 1).toNatClampNeg = s1) (hs2 : vp_in (v5 + 2) L ∧ xs (v5 + 2).toNatClampNeg = s2) (hs3 : vp_in (v5 + 3) L ∧ xs (v5 + 3).toNatClampNeg = s3) (hs4 : vp_in (v5 + 4) L ∧ xs (v5 + 4).toNatClampNeg = s4) (hs5 : vp_in (v5 + 5) L ∧ xs (v5 + 5).toNatClampNeg = s5)
    (hk : ∀ (H : Heap) (locs : List Loc) (ls : Array Slot), Wd D cy ad r.2 s r.1 H locs → lv_has ls 9 [(0, .ref b), (1, .ref (ad 0)), (2, .ref (ad 427)), (3, .ref (ad 453)), (4, .ref (ad 454)), (5, .int v5)] → W p l e room_1 s m args below meth c H locs (ce + 8) (sl + 48) Q (F0 m 2355 ls []))
    (hw : Wd D cy ad x s M H locs) (hl : lv_has ls 9 [(0, .ref b), (1, .ref (ad 0)), (2, .ref (ad 427)), (3, .ref (ad 453)), (4, .ref (ad 454)), (5, .int v5)]) (h : fL_case6 F M x s1 s2 s3 s4 s5 = some r) : W p l e room_1 s m args below meth c H locs ce sl Q (F0 m 598 ls []) := by
  obtain ⟨hx, hb, hml, hown, hts, -⟩ := id C0
  unfold fL_case6 at h
  refine lv_aload_n hx hb dL_law_598 rfl (lv_at hl 1 rfl) ?_
  refine lv_aload_n hx hb dL_law_599 rfl (lv_at hl 0 rfl) ?_
  refine lv_iload hx hb dL_law_600 (lv_at hl 5 rfl) ?_
  refine lv_iconst (v := 1) hx hb dL_law_602 (by decide) ?_
  refine lv_iadd hx hb dL_law_603 ?_
  refine q_sld C0 hX hbl hbA hw hs1 dL_law_604 ?_
  refine lv_aload_n hx hb dL_law_605 rfl (lv_at hl 0 rfl) ?_
  refine lv_iload hx hb dL_law_606 (lv_at hl 5 rfl) ?_
  refine lv_iconst (v := 2) hx hb dL_law_608 (by decide) ?_
  refine lv_iadd hx hb dL_law_609 ?_
  refine q_sld C0 hX hbl hbA hw hs2 dL_law_610 ?_
  refine lv_aload_n hx hb dL_law_611 rfl (lv_at hl 3 rfl) ?_
  refine q_callSW (As := [.ref (ad 0), .int s1, .int s2, .ref (ad 453)]) (nA := 4) C0 hw (fun r1 h1 => ctL_insert hst h1) gL_law_L_insert rfl ⟨rfl, rfl⟩ (by decide +kernel) rfl ⟨(Nat.le_of_ble_eq_true rfl), (Nat.le_of_ble_eq_true rfl)⟩ hl.1 (Nat.le_of_ble_eq_true rfl) ⟨lw_rm (a := 2) hce (Nat.le_of_ble_eq_true rfl), lw_rs (a := 12) hsl (Nat.le_of_ble_eq_true rfl)⟩ rfl h dL_law_612 (fun M1 x2 z3 H locs hw h => ?_)
  refine q_istore (lv' := fun z4 => [(6, .int z4), (0, .ref b), (1, .ref (ad 0)), (2, .ref (ad 427)), (3, .ref (ad 453)), (4, .ref (ad 454)), (5, .int v5)]) hx hb dL_law_615 hl (by decide) (fun _ => rfl) h (fun z4 ls hl h => ?_)
  refine lv_aload_n hx hb dL_law_617 rfl (lv_at hl 3 rfl) ?_
  refine lv_aload_n hx hb dL_law_618 rfl (lv_at hl 1 rfl) ?_
  refine lv_iload hx hb dL_law_619 (lv_at hl 6 rfl) ?_
  refine lv_iconst (v := 1) hx hb dL_law_621 (by decide) ?_
  refine lv_iadd hx hb dL_law_622 ?_
  refine q_sld C0 hX hbl hbA hw hs1 dL_law_623 ?_
  refine lv_aload_n hx hb dL_law_624 rfl (lv_at hl 1 rfl) ?_
  refine lv_iload hx hb dL_law_625 (lv_at hl 6 rfl) ?_
  refine lv_iconst (v := 2) hx hb dL_law_627 (by decide) ?_
  refine lv_iadd hx hb dL_law_628 ?_
  refine q_sld C0 hX hbl hbA hw hs2 dL_law_629 ?_
  refine q_callVNi (As := [.int s1, .int s2]) (nA := 2) C0 hw at_Mod rfl (fun r1 h1 => ctX6_insert hst h1) gL_law_X6_insert rfl ⟨rfl, rfl⟩ (by decide +kernel) rfl ⟨(Nat.le_of_ble_eq_true rfl), (Nat.le_of_ble_eq_true rfl)⟩ hl.1 (Nat.le_of_ble_eq_true rfl) ⟨lw_rm (a := 2) hce (Nat.le_of_ble_eq_true rfl), lw_rs (a := 12) hsl (Nat.le_of_ble_eq_true rfl)⟩ rfl h dL_law_630 (fun M5 z6 H locs hw h => ?_)
  refine q_istore (lv' := fun z7 => [(7, .int z7), (6, .int z4), (0, .ref b), (1, .ref (ad 0)), (2, .ref (ad 427)), (3, .ref (ad 453)), (4, .ref (ad 454)), (5, .int v5)]) hx hb dL_law_633 hl (by decide) (fun _ => rfl) h (fun z7 ls hl h => ?_)
  refine lv_aload_n hx hb dL_law_635 rfl (lv_at hl 4 rfl) ?_
  refine q_callVNi (As := []) (nA := 0) C0 hw at_Mod rfl (fun r1 h1 => ctX6_thrown hst h1) gL_law_X6_thrown rfl ⟨rfl, rfl⟩ (by decide +kernel) rfl ⟨(Nat.le_of_ble_eq_true rfl), (Nat.le_of_ble_eq_true rfl)⟩ hl.1 (Nat.le_of_ble_eq_true rfl) ⟨lw_rm (a := 2) hce (Nat.le_of_ble_eq_true rfl), lw_rs (a := 12) hsl (Nat.le_of_ble_eq_true rfl)⟩ rfl h dL_law_636 (fun M8 z9 H locs hw h => ?_)
  refine lv_iload hx hb dL_law_639 (lv_at hl 1 rfl) ?_
  refine q_icmp_eq (tgt := 646) hx hb dL_law_641 (by decide) h (fun h => ?_) (fun h => ?_)
  · refine lv_iload hx hb dL_law_646 (lv_at hl 1 rfl) ?_
    refine q_if_ne (tgt := 663) hx hb dL_law_648 (by decide) h (fun h => ?_) (fun h => ?_)
    · refine lv_goto (tgt := 2355) hx hb dL_law_663 (by decide) ?_
      exact q_fin h hk hw (lv_sub hl [2, 3, 4, 5, 6, 7] rfl) (lw_ccl (a := 2) (Nat.le_of_ble_eq_true rfl)) (lw_csl (a := 12) (Nat.le_of_ble_eq_true rfl))
    · refine lv_aload_n hx hb dL_law_651 rfl (lv_at hl 5 rfl) ?_
      refine lv_iconst (v := 0) hx hb dL_law_652 (by decide) ?_
      refine q_lald C0 hw dL_law_653 ?_
      refine lv_iload hx hb dL_law_654 (lv_at hl 0 rfl) ?_
      refine lv_i2l hx hb dL_law_656 rfl ?_
      refine W.lcmp hx hb dL_law_657 ?_
      refine q_if_eq (tgt := 663) hx hb dL_law_658 (by decide) h (fun h => ?_) (fun h => ?_)
      · refine lv_goto (tgt := 2355) hx hb dL_law_663 (by decide) ?_
        exact q_fin h hk hw (lv_sub hl [2, 3, 4, 5, 6, 7] rfl) (lw_ccl (a := 2) (Nat.le_of_ble_eq_true rfl)) (lw_csl (a := 12) (Nat.le_of_ble_eq_true rfl))
      · exact q_no h
  · exact q_no h
def fL_case7 (F : Nat) (M : Mem) (x : XX) (s1 s2 s3 s4 s5 : Int32) : Option (Mem × XX) :=
    (q_bn (fX5_reverse F M) fun M1 z2 =>
    q_bn (fX6_reverse F M1) fun M3 z4 =>
    if z2 = z4 then
    (some (M3, x))
    else
    (none))
set_option maxHeartbeats 4000000 in
set_option maxRecDepth 100000 in
theorem wL_case7 {v5 s1 s2 s3 s4 s5 : Int32} {r : Mem × XX} {ce sl : Nat} (hst : l.stackTraces = false) (C0 : MX p l s m args meth c D cy ad cL_law RL 9 wsL_law ret) (hX : va_X b L xs s s.heap) (hbl : b < s.heap.size) (hbA : ¬ AA ad s.heap.size b) (hce : ce + 8 ≤ 603072) (hsl : sl + 48 ≤ 7211114) (hs1 : vp_in (v5 + 1) L ∧ xs (v5 + 1).toNatClampNeg = s1) (hs2 : vp_in (v5 + 2) L ∧ xs (v5 + 2).toNatClampNeg = s2) (hs3 : vp_in (v5 + 3) L ∧ xs (v5 + 3).toNatClampNeg = s3) (hs4 : vp_in (v5 + 4) L ∧ xs (v5 + 4).toNatClampNeg = s4) (hs5 : vp_in (v5 + 5) L ∧ xs (v5 + 5).toNatClampNeg = s5)
    (hk : ∀ (H : Heap) (locs : List Loc) (ls : Array Slot), Wd D cy ad r.2 s r.1 H locs → lv_has ls 9 [(0, .ref b), (1, .ref (ad 0)), (2, .ref (ad 427)), (3, .ref (ad 453)), (4, .ref (ad 454)), (5, .int v5)] → W p l e room_1 s m args below meth c H locs (ce + 8) (sl + 48) Q (F0 m 2355 ls []))
    (hw : Wd D cy ad x s M H locs) (hl : lv_has ls 9 [(0, .ref b), (1, .ref (ad 0)), (2, .ref (ad 427)), (3, .ref (ad 453)), (4, .ref (ad 454)), (5, .int v5)]) (h : fL_case7 F M x s1 s2 s3 s4 s5 = some r) : W p l e room_1 s m args below meth c H locs ce sl Q (F0 m 666 ls []) := by
  obtain ⟨hx, hb, hml, hown, hts, -⟩ := id C0
  unfold fL_case7 at h
  refine lv_aload_n hx hb dL_law_666 rfl (lv_at hl 1 rfl) ?_
  refine q_callVNi (As := []) (nA := 0) C0 hw at_HW rfl (fun r1 h1 => ctX5_reverse hst h1) gL_law_X5_reverse rfl ⟨rfl, rfl⟩ (by decide +kernel) rfl ⟨(Nat.le_of_ble_eq_true rfl), (Nat.le_of_ble_eq_true rfl)⟩ hl.1 (Nat.le_of_ble_eq_true rfl) ⟨lw_rm (a := 0) hce (Nat.le_of_ble_eq_true rfl), lw_rs (a := 0) hsl (Nat.le_of_ble_eq_true rfl)⟩ rfl h dL_law_667 (fun M1 z2 H locs hw h => ?_)
  refine lv_aload_n hx hb dL_law_670 rfl (lv_at hl 2 rfl) ?_
  refine q_callVNi (As := []) (nA := 0) C0 hw at_Mod rfl (fun r1 h1 => ctX6_reverse hst h1) gL_law_X6_reverse rfl ⟨rfl, rfl⟩ (by decide +kernel) rfl ⟨(Nat.le_of_ble_eq_true rfl), (Nat.le_of_ble_eq_true rfl)⟩ hl.1 (Nat.le_of_ble_eq_true rfl) ⟨lw_rm (a := 0) hce (Nat.le_of_ble_eq_true rfl), lw_rs (a := 0) hsl (Nat.le_of_ble_eq_true rfl)⟩ rfl h dL_law_671 (fun M3 z4 H locs hw h => ?_)
  refine q_icmp_eq (tgt := 2355) hx hb dL_law_674 (by decide) h (fun h => ?_) (fun h => ?_)
  · exact q_fin h hk hw (lv_sub hl [0, 1, 2, 3, 4, 5] rfl) (lw_ccl (a := 0) (Nat.le_of_ble_eq_true rfl)) (lw_csl (a := 0) (Nat.le_of_ble_eq_true rfl))
  · exact q_no h
def fL_case8 (F : Nat) (M : Mem) (x : XX) (s1 s2 s3 s4 s5 : Int32) : Option (Mem × XX) :=
    (q_bn (fX5_wipe F M) fun M1 z2 =>
    q_bn (fX6_wipe F M1) fun M3 z4 =>
    if z2 = z4 then
    (some (M3, x))
    else
    (none))
set_option maxHeartbeats 4000000 in
set_option maxRecDepth 100000 in
theorem wL_case8 {v5 s1 s2 s3 s4 s5 : Int32} {r : Mem × XX} {ce sl : Nat} (hst : l.stackTraces = false) (C0 : MX p l s m args meth c D cy ad cL_law RL 9 wsL_law ret) (hX : va_X b L xs s s.heap) (hbl : b < s.heap.size) (hbA : ¬ AA ad s.heap.size b) (hce : ce + 8 ≤ 603072) (hsl : sl + 48 ≤ 7211114) (hs1 : vp_in (v5 + 1) L ∧ xs (v5 + 1).toNatClampNeg = s1) (hs2 : vp_in (v5 + 2) L ∧ xs (v5 + 2).toNatClampNeg = s2) (hs3 : vp_in (v5 + 3) L ∧ xs (v5 + 3).toNatClampNeg = s3) (hs4 : vp_in (v5 + 4) L ∧ xs (v5 + 4).toNatClampNeg = s4) (hs5 : vp_in (v5 + 5) L ∧ xs (v5 + 5).toNatClampNeg = s5)
    (hk : ∀ (H : Heap) (locs : List Loc) (ls : Array Slot), Wd D cy ad r.2 s r.1 H locs → lv_has ls 9 [(0, .ref b), (1, .ref (ad 0)), (2, .ref (ad 427)), (3, .ref (ad 453)), (4, .ref (ad 454)), (5, .int v5)] → W p l e room_1 s m args below meth c H locs (ce + 8) (sl + 48) Q (F0 m 2355 ls []))
    (hw : Wd D cy ad x s M H locs) (hl : lv_has ls 9 [(0, .ref b), (1, .ref (ad 0)), (2, .ref (ad 427)), (3, .ref (ad 453)), (4, .ref (ad 454)), (5, .int v5)]) (h : fL_case8 F M x s1 s2 s3 s4 s5 = some r) : W p l e room_1 s m args below meth c H locs ce sl Q (F0 m 679 ls []) := by
  obtain ⟨hx, hb, hml, hown, hts, -⟩ := id C0
  unfold fL_case8 at h
  refine lv_aload_n hx hb dL_law_679 rfl (lv_at hl 1 rfl) ?_
  refine q_callVNi (As := []) (nA := 0) C0 hw at_HW rfl (fun r1 h1 => ctX5_wipe hst h1) gL_law_X5_wipe rfl ⟨rfl, rfl⟩ (by decide +kernel) rfl ⟨(Nat.le_of_ble_eq_true rfl), (Nat.le_of_ble_eq_true rfl)⟩ hl.1 (Nat.le_of_ble_eq_true rfl) ⟨lw_rm (a := 0) hce (Nat.le_of_ble_eq_true rfl), lw_rs (a := 0) hsl (Nat.le_of_ble_eq_true rfl)⟩ rfl h dL_law_680 (fun M1 z2 H locs hw h => ?_)
  refine lv_aload_n hx hb dL_law_683 rfl (lv_at hl 2 rfl) ?_
  refine q_callVNi (As := []) (nA := 0) C0 hw at_Mod rfl (fun r1 h1 => ctX6_wipe hst h1) gL_law_X6_wipe rfl ⟨rfl, rfl⟩ (by decide +kernel) rfl ⟨(Nat.le_of_ble_eq_true rfl), (Nat.le_of_ble_eq_true rfl)⟩ hl.1 (Nat.le_of_ble_eq_true rfl) ⟨lw_rm (a := 0) hce (Nat.le_of_ble_eq_true rfl), lw_rs (a := 0) hsl (Nat.le_of_ble_eq_true rfl)⟩ rfl h dL_law_684 (fun M3 z4 H locs hw h => ?_)
  refine q_icmp_eq (tgt := 2355) hx hb dL_law_687 (by decide) h (fun h => ?_) (fun h => ?_)
  · exact q_fin h hk hw (lv_sub hl [0, 1, 2, 3, 4, 5] rfl) (lw_ccl (a := 0) (Nat.le_of_ble_eq_true rfl)) (lw_csl (a := 0) (Nat.le_of_ble_eq_true rfl))
  · exact q_no h
def fL_case9 (F : Nat) (M : Mem) (x : XX) (s1 s2 s3 s4 s5 : Int32) : Option (Mem × XX) :=
    (q_bw (fL_charAt F M x s1) fun M1 x2 z3 =>
    q_lt (z3) fun z4 =>
    q_bn (fX6_charAt F M1 s1) fun M5 z6 =>
    q_lt (z6) fun z7 =>
    q_bn (fX6_thrown F M5) fun M8 z9 =>
    if z9 = z4 then
    (if z4 = (0 : Int32) then
    (if (lg_cmp (x2.1) (z7.toInt64)) = (0 : Int32) then
    (some (M8, x2))
    else
    (none))
    else
    (some (M8, x2)))
    else
    (none))
set_option maxHeartbeats 4000000 in
set_option maxRecDepth 100000 in
theorem wL_case9 {v5 s1 s2 s3 s4 s5 : Int32} {r : Mem × XX} {ce sl : Nat} (hst : l.stackTraces = false) (C0 : MX p l s m args meth c D cy ad cL_law RL 9 wsL_law ret) (hX : va_X b L xs s s.heap) (hbl : b < s.heap.size) (hbA : ¬ AA ad s.heap.size b) (hce : ce + 8 ≤ 603072) (hsl : sl + 48 ≤ 7211114) (hs1 : vp_in (v5 + 1) L ∧ xs (v5 + 1).toNatClampNeg = s1) (hs2 : vp_in (v5 + 2) L ∧ xs (v5 + 2).toNatClampNeg = s2) (hs3 : vp_in (v5 + 3) L ∧ xs (v5 + 3).toNatClampNeg = s3) (hs4 : vp_in (v5 + 4) L ∧ xs (v5 + 4).toNatClampNeg = s4) (hs5 : vp_in (v5 + 5) L ∧ xs (v5 + 5).toNatClampNeg = s5)
    (hk : ∀ (H : Heap) (locs : List Loc) (ls : Array Slot), Wd D cy ad r.2 s r.1 H locs → lv_has ls 9 [(0, .ref b), (1, .ref (ad 0)), (2, .ref (ad 427)), (3, .ref (ad 453)), (4, .ref (ad 454)), (5, .int v5)] → W p l e room_1 s m args below meth c H locs (ce + 8) (sl + 48) Q (F0 m 2355 ls []))
    (hw : Wd D cy ad x s M H locs) (hl : lv_has ls 9 [(0, .ref b), (1, .ref (ad 0)), (2, .ref (ad 427)), (3, .ref (ad 453)), (4, .ref (ad 454)), (5, .int v5)]) (h : fL_case9 F M x s1 s2 s3 s4 s5 = some r) : W p l e room_1 s m args below meth c H locs ce sl Q (F0 m 692 ls []) := by
  obtain ⟨hx, hb, hml, hown, hts, -⟩ := id C0
  unfold fL_case9 at h
  refine lv_aload_n hx hb dL_law_692 rfl (lv_at hl 1 rfl) ?_
  refine lv_aload_n hx hb dL_law_693 rfl (lv_at hl 0 rfl) ?_
  refine lv_iload hx hb dL_law_694 (lv_at hl 5 rfl) ?_
  refine lv_iconst (v := 1) hx hb dL_law_696 (by decide) ?_
  refine lv_iadd hx hb dL_law_697 ?_
  refine q_sld C0 hX hbl hbA hw hs1 dL_law_698 ?_
  refine lv_aload_n hx hb dL_law_699 rfl (lv_at hl 3 rfl) ?_
  refine q_callSW (As := [.ref (ad 0), .int s1, .ref (ad 453)]) (nA := 3) C0 hw (fun r1 h1 => ctL_charAt hst h1) gL_law_L_charAt rfl ⟨rfl, rfl⟩ (by decide +kernel) rfl ⟨(Nat.le_of_ble_eq_true rfl), (Nat.le_of_ble_eq_true rfl)⟩ hl.1 (Nat.le_of_ble_eq_true rfl) ⟨lw_rm (a := 1) hce (Nat.le_of_ble_eq_true rfl), lw_rs (a := 6) hsl (Nat.le_of_ble_eq_true rfl)⟩ rfl h dL_law_700 (fun M1 x2 z3 H locs hw h => ?_)
  refine q_istore (lv' := fun z4 => [(6, .int z4), (0, .ref b), (1, .ref (ad 0)), (2, .ref (ad 427)), (3, .ref (ad 453)), (4, .ref (ad 454)), (5, .int v5)]) hx hb dL_law_703 hl (by decide) (fun _ => rfl) h (fun z4 ls hl h => ?_)
  refine lv_aload_n hx hb dL_law_705 rfl (lv_at hl 3 rfl) ?_
  refine lv_aload_n hx hb dL_law_706 rfl (lv_at hl 1 rfl) ?_
  refine lv_iload hx hb dL_law_707 (lv_at hl 6 rfl) ?_
  refine lv_iconst (v := 1) hx hb dL_law_709 (by decide) ?_
  refine lv_iadd hx hb dL_law_710 ?_
  refine q_sld C0 hX hbl hbA hw hs1 dL_law_711 ?_
  refine q_callVNi (As := [.int s1]) (nA := 1) C0 hw at_Mod rfl (fun r1 h1 => ctX6_charAt hst h1) gL_law_X6_charAt rfl ⟨rfl, rfl⟩ (by decide +kernel) rfl ⟨(Nat.le_of_ble_eq_true rfl), (Nat.le_of_ble_eq_true rfl)⟩ hl.1 (Nat.le_of_ble_eq_true rfl) ⟨lw_rm (a := 1) hce (Nat.le_of_ble_eq_true rfl), lw_rs (a := 6) hsl (Nat.le_of_ble_eq_true rfl)⟩ rfl h dL_law_712 (fun M5 z6 H locs hw h => ?_)
  refine q_istore (lv' := fun z7 => [(7, .int z7), (6, .int z4), (0, .ref b), (1, .ref (ad 0)), (2, .ref (ad 427)), (3, .ref (ad 453)), (4, .ref (ad 454)), (5, .int v5)]) hx hb dL_law_715 hl (by decide) (fun _ => rfl) h (fun z7 ls hl h => ?_)
  refine lv_aload_n hx hb dL_law_717 rfl (lv_at hl 4 rfl) ?_
  refine q_callVNi (As := []) (nA := 0) C0 hw at_Mod rfl (fun r1 h1 => ctX6_thrown hst h1) gL_law_X6_thrown rfl ⟨rfl, rfl⟩ (by decide +kernel) rfl ⟨(Nat.le_of_ble_eq_true rfl), (Nat.le_of_ble_eq_true rfl)⟩ hl.1 (Nat.le_of_ble_eq_true rfl) ⟨lw_rm (a := 1) hce (Nat.le_of_ble_eq_true rfl), lw_rs (a := 6) hsl (Nat.le_of_ble_eq_true rfl)⟩ rfl h dL_law_718 (fun M8 z9 H locs hw h => ?_)
  refine lv_iload hx hb dL_law_721 (lv_at hl 1 rfl) ?_
  refine q_icmp_eq (tgt := 728) hx hb dL_law_723 (by decide) h (fun h => ?_) (fun h => ?_)
  · refine lv_iload hx hb dL_law_728 (lv_at hl 1 rfl) ?_
    refine q_if_ne (tgt := 745) hx hb dL_law_730 (by decide) h (fun h => ?_) (fun h => ?_)
    · refine lv_goto (tgt := 2355) hx hb dL_law_745 (by decide) ?_
      exact q_fin h hk hw (lv_sub hl [2, 3, 4, 5, 6, 7] rfl) (lw_ccl (a := 1) (Nat.le_of_ble_eq_true rfl)) (lw_csl (a := 6) (Nat.le_of_ble_eq_true rfl))
    · refine lv_aload_n hx hb dL_law_733 rfl (lv_at hl 5 rfl) ?_
      refine lv_iconst (v := 0) hx hb dL_law_734 (by decide) ?_
      refine q_lald C0 hw dL_law_735 ?_
      refine lv_iload hx hb dL_law_736 (lv_at hl 0 rfl) ?_
      refine lv_i2l hx hb dL_law_738 rfl ?_
      refine W.lcmp hx hb dL_law_739 ?_
      refine q_if_eq (tgt := 745) hx hb dL_law_740 (by decide) h (fun h => ?_) (fun h => ?_)
      · refine lv_goto (tgt := 2355) hx hb dL_law_745 (by decide) ?_
        exact q_fin h hk hw (lv_sub hl [2, 3, 4, 5, 6, 7] rfl) (lw_ccl (a := 1) (Nat.le_of_ble_eq_true rfl)) (lw_csl (a := 6) (Nat.le_of_ble_eq_true rfl))
      · exact q_no h
  · exact q_no h
def fL_case10 (F : Nat) (M : Mem) (x : XX) (s1 s2 s3 s4 s5 : Int32) : Option (Mem × XX) :=
    (q_bw (fL_save F M x s1 s2 s3 s4) fun M1 x2 z3 =>
    q_lt (z3) fun z4 =>
    q_bn (fX6_save F M1 s1 s2 s3 s4) fun M5 z6 =>
    q_lt (z6) fun z7 =>
    q_bn (fX6_thrown F M5) fun M8 z9 =>
    if z9 = z4 then
    (if z4 = (0 : Int32) then
    (if (lg_cmp (x2.1) (z7.toInt64)) = (0 : Int32) then
    (some (M8, x2))
    else
    (none))
    else
    (some (M8, x2)))
    else
    (none))
set_option maxHeartbeats 4000000 in
set_option maxRecDepth 100000 in
theorem wL_case10 {v5 s1 s2 s3 s4 s5 : Int32} {r : Mem × XX} {ce sl : Nat} (hst : l.stackTraces = false) (C0 : MX p l s m args meth c D cy ad cL_law RL 9 wsL_law ret) (hX : va_X b L xs s s.heap) (hbl : b < s.heap.size) (hbA : ¬ AA ad s.heap.size b) (hce : ce + 8 ≤ 603072) (hsl : sl + 48 ≤ 7211114) (hs1 : vp_in (v5 + 1) L ∧ xs (v5 + 1).toNatClampNeg = s1) (hs2 : vp_in (v5 + 2) L ∧ xs (v5 + 2).toNatClampNeg = s2) (hs3 : vp_in (v5 + 3) L ∧ xs (v5 + 3).toNatClampNeg = s3) (hs4 : vp_in (v5 + 4) L ∧ xs (v5 + 4).toNatClampNeg = s4) (hs5 : vp_in (v5 + 5) L ∧ xs (v5 + 5).toNatClampNeg = s5)
    (hk : ∀ (H : Heap) (locs : List Loc) (ls : Array Slot), Wd D cy ad r.2 s r.1 H locs → lv_has ls 9 [(0, .ref b), (1, .ref (ad 0)), (2, .ref (ad 427)), (3, .ref (ad 453)), (4, .ref (ad 454)), (5, .int v5)] → W p l e room_1 s m args below meth c H locs (ce + 8) (sl + 48) Q (F0 m 2355 ls []))
    (hw : Wd D cy ad x s M H locs) (hl : lv_has ls 9 [(0, .ref b), (1, .ref (ad 0)), (2, .ref (ad 427)), (3, .ref (ad 453)), (4, .ref (ad 454)), (5, .int v5)]) (h : fL_case10 F M x s1 s2 s3 s4 s5 = some r) : W p l e room_1 s m args below meth c H locs ce sl Q (F0 m 748 ls []) := by
  obtain ⟨hx, hb, hml, hown, hts, -⟩ := id C0
  unfold fL_case10 at h
  refine lv_aload_n hx hb dL_law_748 rfl (lv_at hl 1 rfl) ?_
  refine lv_aload_n hx hb dL_law_749 rfl (lv_at hl 0 rfl) ?_
  refine lv_iload hx hb dL_law_750 (lv_at hl 5 rfl) ?_
  refine lv_iconst (v := 1) hx hb dL_law_752 (by decide) ?_
  refine lv_iadd hx hb dL_law_753 ?_
  refine q_sld C0 hX hbl hbA hw hs1 dL_law_754 ?_
  refine lv_aload_n hx hb dL_law_755 rfl (lv_at hl 0 rfl) ?_
  refine lv_iload hx hb dL_law_756 (lv_at hl 5 rfl) ?_
  refine lv_iconst (v := 2) hx hb dL_law_758 (by decide) ?_
  refine lv_iadd hx hb dL_law_759 ?_
  refine q_sld C0 hX hbl hbA hw hs2 dL_law_760 ?_
  refine lv_aload_n hx hb dL_law_761 rfl (lv_at hl 0 rfl) ?_
  refine lv_iload hx hb dL_law_762 (lv_at hl 5 rfl) ?_
  refine lv_iconst (v := 3) hx hb dL_law_764 (by decide) ?_
  refine lv_iadd hx hb dL_law_765 ?_
  refine q_sld C0 hX hbl hbA hw hs3 dL_law_766 ?_
  refine lv_aload_n hx hb dL_law_767 rfl (lv_at hl 0 rfl) ?_
  refine lv_iload hx hb dL_law_768 (lv_at hl 5 rfl) ?_
  refine lv_iconst (v := 4) hx hb dL_law_770 (by decide) ?_
  refine lv_iadd hx hb dL_law_771 ?_
  refine q_sld C0 hX hbl hbA hw hs4 dL_law_772 ?_
  refine lv_aload_n hx hb dL_law_773 rfl (lv_at hl 3 rfl) ?_
  refine q_callSW (As := [.ref (ad 0), .int s1, .int s2, .int s3, .int s4, .ref (ad 453)]) (nA := 6) C0 hw (fun r1 h1 => ctL_save hst h1) gL_law_L_save rfl ⟨rfl, rfl⟩ (by decide +kernel) rfl ⟨(Nat.le_of_ble_eq_true rfl), (Nat.le_of_ble_eq_true rfl)⟩ hl.1 (Nat.le_of_ble_eq_true rfl) ⟨lw_rm (a := 5) hce (Nat.le_of_ble_eq_true rfl), lw_rs (a := 30) hsl (Nat.le_of_ble_eq_true rfl)⟩ rfl h dL_law_774 (fun M1 x2 z3 H locs hw h => ?_)
  refine q_istore (lv' := fun z4 => [(6, .int z4), (0, .ref b), (1, .ref (ad 0)), (2, .ref (ad 427)), (3, .ref (ad 453)), (4, .ref (ad 454)), (5, .int v5)]) hx hb dL_law_777 hl (by decide) (fun _ => rfl) h (fun z4 ls hl h => ?_)
  refine lv_aload_n hx hb dL_law_779 rfl (lv_at hl 3 rfl) ?_
  refine lv_aload_n hx hb dL_law_780 rfl (lv_at hl 1 rfl) ?_
  refine lv_iload hx hb dL_law_781 (lv_at hl 6 rfl) ?_
  refine lv_iconst (v := 1) hx hb dL_law_783 (by decide) ?_
  refine lv_iadd hx hb dL_law_784 ?_
  refine q_sld C0 hX hbl hbA hw hs1 dL_law_785 ?_
  refine lv_aload_n hx hb dL_law_786 rfl (lv_at hl 1 rfl) ?_
  refine lv_iload hx hb dL_law_787 (lv_at hl 6 rfl) ?_
  refine lv_iconst (v := 2) hx hb dL_law_789 (by decide) ?_
  refine lv_iadd hx hb dL_law_790 ?_
  refine q_sld C0 hX hbl hbA hw hs2 dL_law_791 ?_
  refine lv_aload_n hx hb dL_law_792 rfl (lv_at hl 1 rfl) ?_
  refine lv_iload hx hb dL_law_793 (lv_at hl 6 rfl) ?_
  refine lv_iconst (v := 3) hx hb dL_law_795 (by decide) ?_
  refine lv_iadd hx hb dL_law_796 ?_
  refine q_sld C0 hX hbl hbA hw hs3 dL_law_797 ?_
  refine lv_aload_n hx hb dL_law_798 rfl (lv_at hl 1 rfl) ?_
  refine lv_iload hx hb dL_law_799 (lv_at hl 6 rfl) ?_
  refine lv_iconst (v := 4) hx hb dL_law_801 (by decide) ?_
  refine lv_iadd hx hb dL_law_802 ?_
  refine q_sld C0 hX hbl hbA hw hs4 dL_law_803 ?_
  refine q_callVNi (As := [.int s1, .int s2, .int s3, .int s4]) (nA := 4) C0 hw at_Mod rfl (fun r1 h1 => ctX6_save hst h1) gL_law_X6_save rfl ⟨rfl, rfl⟩ (by decide +kernel) rfl ⟨(Nat.le_of_ble_eq_true rfl), (Nat.le_of_ble_eq_true rfl)⟩ hl.1 (Nat.le_of_ble_eq_true rfl) ⟨lw_rm (a := 5) hce (Nat.le_of_ble_eq_true rfl), lw_rs (a := 30) hsl (Nat.le_of_ble_eq_true rfl)⟩ rfl h dL_law_804 (fun M5 z6 H locs hw h => ?_)
  refine q_istore (lv' := fun z7 => [(7, .int z7), (6, .int z4), (0, .ref b), (1, .ref (ad 0)), (2, .ref (ad 427)), (3, .ref (ad 453)), (4, .ref (ad 454)), (5, .int v5)]) hx hb dL_law_807 hl (by decide) (fun _ => rfl) h (fun z7 ls hl h => ?_)
  refine lv_aload_n hx hb dL_law_809 rfl (lv_at hl 4 rfl) ?_
  refine q_callVNi (As := []) (nA := 0) C0 hw at_Mod rfl (fun r1 h1 => ctX6_thrown hst h1) gL_law_X6_thrown rfl ⟨rfl, rfl⟩ (by decide +kernel) rfl ⟨(Nat.le_of_ble_eq_true rfl), (Nat.le_of_ble_eq_true rfl)⟩ hl.1 (Nat.le_of_ble_eq_true rfl) ⟨lw_rm (a := 5) hce (Nat.le_of_ble_eq_true rfl), lw_rs (a := 30) hsl (Nat.le_of_ble_eq_true rfl)⟩ rfl h dL_law_810 (fun M8 z9 H locs hw h => ?_)
  refine lv_iload hx hb dL_law_813 (lv_at hl 1 rfl) ?_
  refine q_icmp_eq (tgt := 820) hx hb dL_law_815 (by decide) h (fun h => ?_) (fun h => ?_)
  · refine lv_iload hx hb dL_law_820 (lv_at hl 1 rfl) ?_
    refine q_if_ne (tgt := 837) hx hb dL_law_822 (by decide) h (fun h => ?_) (fun h => ?_)
    · refine lv_goto (tgt := 2355) hx hb dL_law_837 (by decide) ?_
      exact q_fin h hk hw (lv_sub hl [2, 3, 4, 5, 6, 7] rfl) (lw_ccl (a := 5) (Nat.le_of_ble_eq_true rfl)) (lw_csl (a := 30) (Nat.le_of_ble_eq_true rfl))
    · refine lv_aload_n hx hb dL_law_825 rfl (lv_at hl 5 rfl) ?_
      refine lv_iconst (v := 0) hx hb dL_law_826 (by decide) ?_
      refine q_lald C0 hw dL_law_827 ?_
      refine lv_iload hx hb dL_law_828 (lv_at hl 0 rfl) ?_
      refine lv_i2l hx hb dL_law_830 rfl ?_
      refine W.lcmp hx hb dL_law_831 ?_
      refine q_if_eq (tgt := 837) hx hb dL_law_832 (by decide) h (fun h => ?_) (fun h => ?_)
      · refine lv_goto (tgt := 2355) hx hb dL_law_837 (by decide) ?_
        exact q_fin h hk hw (lv_sub hl [2, 3, 4, 5, 6, 7] rfl) (lw_ccl (a := 5) (Nat.le_of_ble_eq_true rfl)) (lw_csl (a := 30) (Nat.le_of_ble_eq_true rfl))
      · exact q_no h
  · exact q_no h
def fL_case11 (F : Nat) (M : Mem) (x : XX) (s1 s2 s3 s4 s5 : Int32) : Option (Mem × XX) :=
    (q_bw (fL_of F M x s1 ((s2.toUInt32 % 65536).toInt32)) fun M1 x2 z3 =>
    q_lt (z3) fun z4 =>
    q_bn (fX6_of F M1 s1 ((s2.toUInt32 % 65536).toInt32)) fun M5 z6 =>
    q_lt (z6) fun z7 =>
    q_bn (fX6_thrown F M5) fun M8 z9 =>
    if z9 = z4 then
    (if z4 = (0 : Int32) then
    (if (lg_cmp (x2.1) (z7.toInt64)) = (0 : Int32) then
    (some (M8, x2))
    else
    (none))
    else
    (some (M8, x2)))
    else
    (none))
set_option maxHeartbeats 4000000 in
set_option maxRecDepth 100000 in
theorem wL_case11 {v5 s1 s2 s3 s4 s5 : Int32} {r : Mem × XX} {ce sl : Nat} (hst : l.stackTraces = false) (C0 : MX p l s m args meth c D cy ad cL_law RL 9 wsL_law ret) (hX : va_X b L xs s s.heap) (hbl : b < s.heap.size) (hbA : ¬ AA ad s.heap.size b) (hce : ce + 8 ≤ 603072) (hsl : sl + 48 ≤ 7211114) (hs1 : vp_in (v5 + 1) L ∧ xs (v5 + 1).toNatClampNeg = s1) (hs2 : vp_in (v5 + 2) L ∧ xs (v5 + 2).toNatClampNeg = s2) (hs3 : vp_in (v5 + 3) L ∧ xs (v5 + 3).toNatClampNeg = s3) (hs4 : vp_in (v5 + 4) L ∧ xs (v5 + 4).toNatClampNeg = s4) (hs5 : vp_in (v5 + 5) L ∧ xs (v5 + 5).toNatClampNeg = s5)
    (hk : ∀ (H : Heap) (locs : List Loc) (ls : Array Slot), Wd D cy ad r.2 s r.1 H locs → lv_has ls 9 [(0, .ref b), (1, .ref (ad 0)), (2, .ref (ad 427)), (3, .ref (ad 453)), (4, .ref (ad 454)), (5, .int v5)] → W p l e room_1 s m args below meth c H locs (ce + 8) (sl + 48) Q (F0 m 2355 ls []))
    (hw : Wd D cy ad x s M H locs) (hl : lv_has ls 9 [(0, .ref b), (1, .ref (ad 0)), (2, .ref (ad 427)), (3, .ref (ad 453)), (4, .ref (ad 454)), (5, .int v5)]) (h : fL_case11 F M x s1 s2 s3 s4 s5 = some r) : W p l e room_1 s m args below meth c H locs ce sl Q (F0 m 840 ls []) := by
  obtain ⟨hx, hb, hml, hown, hts, -⟩ := id C0
  unfold fL_case11 at h
  refine lv_aload_n hx hb dL_law_840 rfl (lv_at hl 1 rfl) ?_
  refine lv_aload_n hx hb dL_law_841 rfl (lv_at hl 0 rfl) ?_
  refine lv_iload hx hb dL_law_842 (lv_at hl 5 rfl) ?_
  refine lv_iconst (v := 1) hx hb dL_law_844 (by decide) ?_
  refine lv_iadd hx hb dL_law_845 ?_
  refine q_sld C0 hX hbl hbA hw hs1 dL_law_846 ?_
  refine lv_aload_n hx hb dL_law_847 rfl (lv_at hl 0 rfl) ?_
  refine lv_iload hx hb dL_law_848 (lv_at hl 5 rfl) ?_
  refine lv_iconst (v := 2) hx hb dL_law_850 (by decide) ?_
  refine lv_iadd hx hb dL_law_851 ?_
  refine q_sld C0 hX hbl hbA hw hs2 dL_law_852 ?_
  refine lv_i2c hx hb dL_law_853 rfl ?_
  refine lv_aload_n hx hb dL_law_854 rfl (lv_at hl 3 rfl) ?_
  refine q_callSW (As := [.ref (ad 0), .int s1, .int ((s2.toUInt32 % 65536).toInt32), .ref (ad 453)]) (nA := 4) C0 hw (fun r1 h1 => ctL_of hst h1) gL_law_L_of rfl ⟨rfl, rfl⟩ (by decide +kernel) rfl ⟨(Nat.le_of_ble_eq_true rfl), (Nat.le_of_ble_eq_true rfl)⟩ hl.1 (Nat.le_of_ble_eq_true rfl) ⟨lw_rm (a := 2) hce (Nat.le_of_ble_eq_true rfl), lw_rs (a := 12) hsl (Nat.le_of_ble_eq_true rfl)⟩ rfl h dL_law_855 (fun M1 x2 z3 H locs hw h => ?_)
  refine q_istore (lv' := fun z4 => [(6, .int z4), (0, .ref b), (1, .ref (ad 0)), (2, .ref (ad 427)), (3, .ref (ad 453)), (4, .ref (ad 454)), (5, .int v5)]) hx hb dL_law_858 hl (by decide) (fun _ => rfl) h (fun z4 ls hl h => ?_)
  refine lv_aload_n hx hb dL_law_860 rfl (lv_at hl 3 rfl) ?_
  refine lv_aload_n hx hb dL_law_861 rfl (lv_at hl 1 rfl) ?_
  refine lv_iload hx hb dL_law_862 (lv_at hl 6 rfl) ?_
  refine lv_iconst (v := 1) hx hb dL_law_864 (by decide) ?_
  refine lv_iadd hx hb dL_law_865 ?_
  refine q_sld C0 hX hbl hbA hw hs1 dL_law_866 ?_
  refine lv_aload_n hx hb dL_law_867 rfl (lv_at hl 1 rfl) ?_
  refine lv_iload hx hb dL_law_868 (lv_at hl 6 rfl) ?_
  refine lv_iconst (v := 2) hx hb dL_law_870 (by decide) ?_
  refine lv_iadd hx hb dL_law_871 ?_
  refine q_sld C0 hX hbl hbA hw hs2 dL_law_872 ?_
  refine lv_i2c hx hb dL_law_873 rfl ?_
  refine q_callVNi (As := [.int s1, .int ((s2.toUInt32 % 65536).toInt32)]) (nA := 2) C0 hw at_Mod rfl (fun r1 h1 => ctX6_of hst h1) gL_law_X6_of rfl ⟨rfl, rfl⟩ (by decide +kernel) rfl ⟨(Nat.le_of_ble_eq_true rfl), (Nat.le_of_ble_eq_true rfl)⟩ hl.1 (Nat.le_of_ble_eq_true rfl) ⟨lw_rm (a := 2) hce (Nat.le_of_ble_eq_true rfl), lw_rs (a := 12) hsl (Nat.le_of_ble_eq_true rfl)⟩ rfl h dL_law_874 (fun M5 z6 H locs hw h => ?_)
  refine q_istore (lv' := fun z7 => [(7, .int z7), (6, .int z4), (0, .ref b), (1, .ref (ad 0)), (2, .ref (ad 427)), (3, .ref (ad 453)), (4, .ref (ad 454)), (5, .int v5)]) hx hb dL_law_877 hl (by decide) (fun _ => rfl) h (fun z7 ls hl h => ?_)
  refine lv_aload_n hx hb dL_law_879 rfl (lv_at hl 4 rfl) ?_
  refine q_callVNi (As := []) (nA := 0) C0 hw at_Mod rfl (fun r1 h1 => ctX6_thrown hst h1) gL_law_X6_thrown rfl ⟨rfl, rfl⟩ (by decide +kernel) rfl ⟨(Nat.le_of_ble_eq_true rfl), (Nat.le_of_ble_eq_true rfl)⟩ hl.1 (Nat.le_of_ble_eq_true rfl) ⟨lw_rm (a := 2) hce (Nat.le_of_ble_eq_true rfl), lw_rs (a := 12) hsl (Nat.le_of_ble_eq_true rfl)⟩ rfl h dL_law_880 (fun M8 z9 H locs hw h => ?_)
  refine lv_iload hx hb dL_law_883 (lv_at hl 1 rfl) ?_
  refine q_icmp_eq (tgt := 890) hx hb dL_law_885 (by decide) h (fun h => ?_) (fun h => ?_)
  · refine lv_iload hx hb dL_law_890 (lv_at hl 1 rfl) ?_
    refine q_if_ne (tgt := 907) hx hb dL_law_892 (by decide) h (fun h => ?_) (fun h => ?_)
    · refine lv_goto (tgt := 2355) hx hb dL_law_907 (by decide) ?_
      exact q_fin h hk hw (lv_sub hl [2, 3, 4, 5, 6, 7] rfl) (lw_ccl (a := 2) (Nat.le_of_ble_eq_true rfl)) (lw_csl (a := 12) (Nat.le_of_ble_eq_true rfl))
    · refine lv_aload_n hx hb dL_law_895 rfl (lv_at hl 5 rfl) ?_
      refine lv_iconst (v := 0) hx hb dL_law_896 (by decide) ?_
      refine q_lald C0 hw dL_law_897 ?_
      refine lv_iload hx hb dL_law_898 (lv_at hl 0 rfl) ?_
      refine lv_i2l hx hb dL_law_900 rfl ?_
      refine W.lcmp hx hb dL_law_901 ?_
      refine q_if_eq (tgt := 907) hx hb dL_law_902 (by decide) h (fun h => ?_) (fun h => ?_)
      · refine lv_goto (tgt := 2355) hx hb dL_law_907 (by decide) ?_
        exact q_fin h hk hw (lv_sub hl [2, 3, 4, 5, 6, 7] rfl) (lw_ccl (a := 2) (Nat.le_of_ble_eq_true rfl)) (lw_csl (a := 12) (Nat.le_of_ble_eq_true rfl))
      · exact q_no h
  · exact q_no h
def fL_case12 (F : Nat) (M : Mem) (x : XX) (s1 s2 s3 s4 s5 : Int32) : Option (Mem × XX) :=
    (q_bw (fL_forks F M x s1) fun M1 x2 z3 =>
    q_lt (z3) fun z4 =>
    q_bn (fX6_forks F M1 s1) fun M5 z6 =>
    q_lt (z6) fun z7 =>
    q_bn (fX6_thrown F M5) fun M8 z9 =>
    if z9 = z4 then
    (if z4 = (0 : Int32) then
    (if (lg_cmp (x2.1) (z7.toInt64)) = (0 : Int32) then
    (some (M8, x2))
    else
    (none))
    else
    (some (M8, x2)))
    else
    (none))
set_option maxHeartbeats 4000000 in
set_option maxRecDepth 100000 in
theorem wL_case12 {v5 s1 s2 s3 s4 s5 : Int32} {r : Mem × XX} {ce sl : Nat} (hst : l.stackTraces = false) (C0 : MX p l s m args meth c D cy ad cL_law RL 9 wsL_law ret) (hX : va_X b L xs s s.heap) (hbl : b < s.heap.size) (hbA : ¬ AA ad s.heap.size b) (hce : ce + 8 ≤ 603072) (hsl : sl + 48 ≤ 7211114) (hs1 : vp_in (v5 + 1) L ∧ xs (v5 + 1).toNatClampNeg = s1) (hs2 : vp_in (v5 + 2) L ∧ xs (v5 + 2).toNatClampNeg = s2) (hs3 : vp_in (v5 + 3) L ∧ xs (v5 + 3).toNatClampNeg = s3) (hs4 : vp_in (v5 + 4) L ∧ xs (v5 + 4).toNatClampNeg = s4) (hs5 : vp_in (v5 + 5) L ∧ xs (v5 + 5).toNatClampNeg = s5)
    (hk : ∀ (H : Heap) (locs : List Loc) (ls : Array Slot), Wd D cy ad r.2 s r.1 H locs → lv_has ls 9 [(0, .ref b), (1, .ref (ad 0)), (2, .ref (ad 427)), (3, .ref (ad 453)), (4, .ref (ad 454)), (5, .int v5)] → W p l e room_1 s m args below meth c H locs (ce + 8) (sl + 48) Q (F0 m 2355 ls []))
    (hw : Wd D cy ad x s M H locs) (hl : lv_has ls 9 [(0, .ref b), (1, .ref (ad 0)), (2, .ref (ad 427)), (3, .ref (ad 453)), (4, .ref (ad 454)), (5, .int v5)]) (h : fL_case12 F M x s1 s2 s3 s4 s5 = some r) : W p l e room_1 s m args below meth c H locs ce sl Q (F0 m 910 ls []) := by
  obtain ⟨hx, hb, hml, hown, hts, -⟩ := id C0
  unfold fL_case12 at h
  refine lv_aload_n hx hb dL_law_910 rfl (lv_at hl 1 rfl) ?_
  refine lv_aload_n hx hb dL_law_911 rfl (lv_at hl 0 rfl) ?_
  refine lv_iload hx hb dL_law_912 (lv_at hl 5 rfl) ?_
  refine lv_iconst (v := 1) hx hb dL_law_914 (by decide) ?_
  refine lv_iadd hx hb dL_law_915 ?_
  refine q_sld C0 hX hbl hbA hw hs1 dL_law_916 ?_
  refine lv_aload_n hx hb dL_law_917 rfl (lv_at hl 3 rfl) ?_
  refine q_callSW (As := [.ref (ad 0), .int s1, .ref (ad 453)]) (nA := 3) C0 hw (fun r1 h1 => ctL_forks hst h1) gL_law_L_forks rfl ⟨rfl, rfl⟩ (by decide +kernel) rfl ⟨(Nat.le_of_ble_eq_true rfl), (Nat.le_of_ble_eq_true rfl)⟩ hl.1 (Nat.le_of_ble_eq_true rfl) ⟨lw_rm (a := 1) hce (Nat.le_of_ble_eq_true rfl), lw_rs (a := 6) hsl (Nat.le_of_ble_eq_true rfl)⟩ rfl h dL_law_918 (fun M1 x2 z3 H locs hw h => ?_)
  refine q_istore (lv' := fun z4 => [(6, .int z4), (0, .ref b), (1, .ref (ad 0)), (2, .ref (ad 427)), (3, .ref (ad 453)), (4, .ref (ad 454)), (5, .int v5)]) hx hb dL_law_921 hl (by decide) (fun _ => rfl) h (fun z4 ls hl h => ?_)
  refine lv_aload_n hx hb dL_law_923 rfl (lv_at hl 3 rfl) ?_
  refine lv_aload_n hx hb dL_law_924 rfl (lv_at hl 1 rfl) ?_
  refine lv_iload hx hb dL_law_925 (lv_at hl 6 rfl) ?_
  refine lv_iconst (v := 1) hx hb dL_law_927 (by decide) ?_
  refine lv_iadd hx hb dL_law_928 ?_
  refine q_sld C0 hX hbl hbA hw hs1 dL_law_929 ?_
  refine q_callVNi (As := [.int s1]) (nA := 1) C0 hw at_Mod rfl (fun r1 h1 => ctX6_forks hst h1) gL_law_X6_forks rfl ⟨rfl, rfl⟩ (by decide +kernel) rfl ⟨(Nat.le_of_ble_eq_true rfl), (Nat.le_of_ble_eq_true rfl)⟩ hl.1 (Nat.le_of_ble_eq_true rfl) ⟨lw_rm (a := 1) hce (Nat.le_of_ble_eq_true rfl), lw_rs (a := 6) hsl (Nat.le_of_ble_eq_true rfl)⟩ rfl h dL_law_930 (fun M5 z6 H locs hw h => ?_)
  refine q_istore (lv' := fun z7 => [(7, .int z7), (6, .int z4), (0, .ref b), (1, .ref (ad 0)), (2, .ref (ad 427)), (3, .ref (ad 453)), (4, .ref (ad 454)), (5, .int v5)]) hx hb dL_law_933 hl (by decide) (fun _ => rfl) h (fun z7 ls hl h => ?_)
  refine lv_aload_n hx hb dL_law_935 rfl (lv_at hl 4 rfl) ?_
  refine q_callVNi (As := []) (nA := 0) C0 hw at_Mod rfl (fun r1 h1 => ctX6_thrown hst h1) gL_law_X6_thrown rfl ⟨rfl, rfl⟩ (by decide +kernel) rfl ⟨(Nat.le_of_ble_eq_true rfl), (Nat.le_of_ble_eq_true rfl)⟩ hl.1 (Nat.le_of_ble_eq_true rfl) ⟨lw_rm (a := 1) hce (Nat.le_of_ble_eq_true rfl), lw_rs (a := 6) hsl (Nat.le_of_ble_eq_true rfl)⟩ rfl h dL_law_936 (fun M8 z9 H locs hw h => ?_)
  refine lv_iload hx hb dL_law_939 (lv_at hl 1 rfl) ?_
  refine q_icmp_eq (tgt := 946) hx hb dL_law_941 (by decide) h (fun h => ?_) (fun h => ?_)
  · refine lv_iload hx hb dL_law_946 (lv_at hl 1 rfl) ?_
    refine q_if_ne (tgt := 963) hx hb dL_law_948 (by decide) h (fun h => ?_) (fun h => ?_)
    · refine lv_goto (tgt := 2355) hx hb dL_law_963 (by decide) ?_
      exact q_fin h hk hw (lv_sub hl [2, 3, 4, 5, 6, 7] rfl) (lw_ccl (a := 1) (Nat.le_of_ble_eq_true rfl)) (lw_csl (a := 6) (Nat.le_of_ble_eq_true rfl))
    · refine lv_aload_n hx hb dL_law_951 rfl (lv_at hl 5 rfl) ?_
      refine lv_iconst (v := 0) hx hb dL_law_952 (by decide) ?_
      refine q_lald C0 hw dL_law_953 ?_
      refine lv_iload hx hb dL_law_954 (lv_at hl 0 rfl) ?_
      refine lv_i2l hx hb dL_law_956 rfl ?_
      refine W.lcmp hx hb dL_law_957 ?_
      refine q_if_eq (tgt := 963) hx hb dL_law_958 (by decide) h (fun h => ?_) (fun h => ?_)
      · refine lv_goto (tgt := 2355) hx hb dL_law_963 (by decide) ?_
        exact q_fin h hk hw (lv_sub hl [2, 3, 4, 5, 6, 7] rfl) (lw_ccl (a := 1) (Nat.le_of_ble_eq_true rfl)) (lw_csl (a := 6) (Nat.le_of_ble_eq_true rfl))
      · exact q_no h
  · exact q_no h
def fL_case13 (F : Nat) (M : Mem) (x : XX) (s1 s2 s3 s4 s5 : Int32) : Option (Mem × XX) :=
    (q_bw (fL_heads F M x s1 s2) fun M1 x2 z3 =>
    q_lt (z3) fun z4 =>
    q_bn (fX6_heads F M1 s1 s2) fun M5 z6 =>
    q_lt (z6) fun z7 =>
    q_bn (fX6_thrown F M5) fun M8 z9 =>
    if z9 = z4 then
    (if z4 = (0 : Int32) then
    (if (lg_cmp (x2.1) (z7.toInt64)) = (0 : Int32) then
    (some (M8, x2))
    else
    (none))
    else
    (some (M8, x2)))
    else
    (none))
set_option maxHeartbeats 4000000 in
set_option maxRecDepth 100000 in
theorem wL_case13 {v5 s1 s2 s3 s4 s5 : Int32} {r : Mem × XX} {ce sl : Nat} (hst : l.stackTraces = false) (C0 : MX p l s m args meth c D cy ad cL_law RL 9 wsL_law ret) (hX : va_X b L xs s s.heap) (hbl : b < s.heap.size) (hbA : ¬ AA ad s.heap.size b) (hce : ce + 8 ≤ 603072) (hsl : sl + 48 ≤ 7211114) (hs1 : vp_in (v5 + 1) L ∧ xs (v5 + 1).toNatClampNeg = s1) (hs2 : vp_in (v5 + 2) L ∧ xs (v5 + 2).toNatClampNeg = s2) (hs3 : vp_in (v5 + 3) L ∧ xs (v5 + 3).toNatClampNeg = s3) (hs4 : vp_in (v5 + 4) L ∧ xs (v5 + 4).toNatClampNeg = s4) (hs5 : vp_in (v5 + 5) L ∧ xs (v5 + 5).toNatClampNeg = s5)
    (hk : ∀ (H : Heap) (locs : List Loc) (ls : Array Slot), Wd D cy ad r.2 s r.1 H locs → lv_has ls 9 [(0, .ref b), (1, .ref (ad 0)), (2, .ref (ad 427)), (3, .ref (ad 453)), (4, .ref (ad 454)), (5, .int v5)] → W p l e room_1 s m args below meth c H locs (ce + 8) (sl + 48) Q (F0 m 2355 ls []))
    (hw : Wd D cy ad x s M H locs) (hl : lv_has ls 9 [(0, .ref b), (1, .ref (ad 0)), (2, .ref (ad 427)), (3, .ref (ad 453)), (4, .ref (ad 454)), (5, .int v5)]) (h : fL_case13 F M x s1 s2 s3 s4 s5 = some r) : W p l e room_1 s m args below meth c H locs ce sl Q (F0 m 966 ls []) := by
  obtain ⟨hx, hb, hml, hown, hts, -⟩ := id C0
  unfold fL_case13 at h
  refine lv_aload_n hx hb dL_law_966 rfl (lv_at hl 1 rfl) ?_
  refine lv_aload_n hx hb dL_law_967 rfl (lv_at hl 0 rfl) ?_
  refine lv_iload hx hb dL_law_968 (lv_at hl 5 rfl) ?_
  refine lv_iconst (v := 1) hx hb dL_law_970 (by decide) ?_
  refine lv_iadd hx hb dL_law_971 ?_
  refine q_sld C0 hX hbl hbA hw hs1 dL_law_972 ?_
  refine lv_aload_n hx hb dL_law_973 rfl (lv_at hl 0 rfl) ?_
  refine lv_iload hx hb dL_law_974 (lv_at hl 5 rfl) ?_
  refine lv_iconst (v := 2) hx hb dL_law_976 (by decide) ?_
  refine lv_iadd hx hb dL_law_977 ?_
  refine q_sld C0 hX hbl hbA hw hs2 dL_law_978 ?_
  refine lv_aload_n hx hb dL_law_979 rfl (lv_at hl 3 rfl) ?_
  refine q_callSW (As := [.ref (ad 0), .int s1, .int s2, .ref (ad 453)]) (nA := 4) C0 hw (fun r1 h1 => ctL_heads hst h1) gL_law_L_heads rfl ⟨rfl, rfl⟩ (by decide +kernel) rfl ⟨(Nat.le_of_ble_eq_true rfl), (Nat.le_of_ble_eq_true rfl)⟩ hl.1 (Nat.le_of_ble_eq_true rfl) ⟨lw_rm (a := 2) hce (Nat.le_of_ble_eq_true rfl), lw_rs (a := 12) hsl (Nat.le_of_ble_eq_true rfl)⟩ rfl h dL_law_980 (fun M1 x2 z3 H locs hw h => ?_)
  refine q_istore (lv' := fun z4 => [(6, .int z4), (0, .ref b), (1, .ref (ad 0)), (2, .ref (ad 427)), (3, .ref (ad 453)), (4, .ref (ad 454)), (5, .int v5)]) hx hb dL_law_983 hl (by decide) (fun _ => rfl) h (fun z4 ls hl h => ?_)
  refine lv_aload_n hx hb dL_law_985 rfl (lv_at hl 3 rfl) ?_
  refine lv_aload_n hx hb dL_law_986 rfl (lv_at hl 1 rfl) ?_
  refine lv_iload hx hb dL_law_987 (lv_at hl 6 rfl) ?_
  refine lv_iconst (v := 1) hx hb dL_law_989 (by decide) ?_
  refine lv_iadd hx hb dL_law_990 ?_
  refine q_sld C0 hX hbl hbA hw hs1 dL_law_991 ?_
  refine lv_aload_n hx hb dL_law_992 rfl (lv_at hl 1 rfl) ?_
  refine lv_iload hx hb dL_law_993 (lv_at hl 6 rfl) ?_
  refine lv_iconst (v := 2) hx hb dL_law_995 (by decide) ?_
  refine lv_iadd hx hb dL_law_996 ?_
  refine q_sld C0 hX hbl hbA hw hs2 dL_law_997 ?_
  refine q_callVNi (As := [.int s1, .int s2]) (nA := 2) C0 hw at_Mod rfl (fun r1 h1 => ctX6_heads hst h1) gL_law_X6_heads rfl ⟨rfl, rfl⟩ (by decide +kernel) rfl ⟨(Nat.le_of_ble_eq_true rfl), (Nat.le_of_ble_eq_true rfl)⟩ hl.1 (Nat.le_of_ble_eq_true rfl) ⟨lw_rm (a := 2) hce (Nat.le_of_ble_eq_true rfl), lw_rs (a := 12) hsl (Nat.le_of_ble_eq_true rfl)⟩ rfl h dL_law_998 (fun M5 z6 H locs hw h => ?_)
  refine q_istore (lv' := fun z7 => [(7, .int z7), (6, .int z4), (0, .ref b), (1, .ref (ad 0)), (2, .ref (ad 427)), (3, .ref (ad 453)), (4, .ref (ad 454)), (5, .int v5)]) hx hb dL_law_1001 hl (by decide) (fun _ => rfl) h (fun z7 ls hl h => ?_)
  refine lv_aload_n hx hb dL_law_1003 rfl (lv_at hl 4 rfl) ?_
  refine q_callVNi (As := []) (nA := 0) C0 hw at_Mod rfl (fun r1 h1 => ctX6_thrown hst h1) gL_law_X6_thrown rfl ⟨rfl, rfl⟩ (by decide +kernel) rfl ⟨(Nat.le_of_ble_eq_true rfl), (Nat.le_of_ble_eq_true rfl)⟩ hl.1 (Nat.le_of_ble_eq_true rfl) ⟨lw_rm (a := 2) hce (Nat.le_of_ble_eq_true rfl), lw_rs (a := 12) hsl (Nat.le_of_ble_eq_true rfl)⟩ rfl h dL_law_1004 (fun M8 z9 H locs hw h => ?_)
  refine lv_iload hx hb dL_law_1007 (lv_at hl 1 rfl) ?_
  refine q_icmp_eq (tgt := 1014) hx hb dL_law_1009 (by decide) h (fun h => ?_) (fun h => ?_)
  · refine lv_iload hx hb dL_law_1014 (lv_at hl 1 rfl) ?_
    refine q_if_ne (tgt := 1031) hx hb dL_law_1016 (by decide) h (fun h => ?_) (fun h => ?_)
    · refine lv_goto (tgt := 2355) hx hb dL_law_1031 (by decide) ?_
      exact q_fin h hk hw (lv_sub hl [2, 3, 4, 5, 6, 7] rfl) (lw_ccl (a := 2) (Nat.le_of_ble_eq_true rfl)) (lw_csl (a := 12) (Nat.le_of_ble_eq_true rfl))
    · refine lv_aload_n hx hb dL_law_1019 rfl (lv_at hl 5 rfl) ?_
      refine lv_iconst (v := 0) hx hb dL_law_1020 (by decide) ?_
      refine q_lald C0 hw dL_law_1021 ?_
      refine lv_iload hx hb dL_law_1022 (lv_at hl 0 rfl) ?_
      refine lv_i2l hx hb dL_law_1024 rfl ?_
      refine W.lcmp hx hb dL_law_1025 ?_
      refine q_if_eq (tgt := 1031) hx hb dL_law_1026 (by decide) h (fun h => ?_) (fun h => ?_)
      · refine lv_goto (tgt := 2355) hx hb dL_law_1031 (by decide) ?_
        exact q_fin h hk hw (lv_sub hl [2, 3, 4, 5, 6, 7] rfl) (lw_ccl (a := 2) (Nat.le_of_ble_eq_true rfl)) (lw_csl (a := 12) (Nat.le_of_ble_eq_true rfl))
      · exact q_no h
  · exact q_no h
def fL_case14 (F : Nat) (M : Mem) (x : XX) (s1 s2 s3 s4 s5 : Int32) : Option (Mem × XX) :=
    (q_bw (fL_hand F M x s1) fun M1 x2 z3 =>
    q_lt (z3) fun z4 =>
    q_bn (fX6_hand F M1 s1) fun M5 z6 =>
    q_lt (z6) fun z7 =>
    q_bn (fX6_thrown F M5) fun M8 z9 =>
    if z9 = z4 then
    (if z4 = (0 : Int32) then
    (if (lg_cmp (x2.1) (z7.toInt64)) = (0 : Int32) then
    (some (M8, x2))
    else
    (none))
    else
    (some (M8, x2)))
    else
    (none))
set_option maxHeartbeats 4000000 in
set_option maxRecDepth 100000 in
theorem wL_case14 {v5 s1 s2 s3 s4 s5 : Int32} {r : Mem × XX} {ce sl : Nat} (hst : l.stackTraces = false) (C0 : MX p l s m args meth c D cy ad cL_law RL 9 wsL_law ret) (hX : va_X b L xs s s.heap) (hbl : b < s.heap.size) (hbA : ¬ AA ad s.heap.size b) (hce : ce + 8 ≤ 603072) (hsl : sl + 48 ≤ 7211114) (hs1 : vp_in (v5 + 1) L ∧ xs (v5 + 1).toNatClampNeg = s1) (hs2 : vp_in (v5 + 2) L ∧ xs (v5 + 2).toNatClampNeg = s2) (hs3 : vp_in (v5 + 3) L ∧ xs (v5 + 3).toNatClampNeg = s3) (hs4 : vp_in (v5 + 4) L ∧ xs (v5 + 4).toNatClampNeg = s4) (hs5 : vp_in (v5 + 5) L ∧ xs (v5 + 5).toNatClampNeg = s5)
    (hk : ∀ (H : Heap) (locs : List Loc) (ls : Array Slot), Wd D cy ad r.2 s r.1 H locs → lv_has ls 9 [(0, .ref b), (1, .ref (ad 0)), (2, .ref (ad 427)), (3, .ref (ad 453)), (4, .ref (ad 454)), (5, .int v5)] → W p l e room_1 s m args below meth c H locs (ce + 8) (sl + 48) Q (F0 m 2355 ls []))
    (hw : Wd D cy ad x s M H locs) (hl : lv_has ls 9 [(0, .ref b), (1, .ref (ad 0)), (2, .ref (ad 427)), (3, .ref (ad 453)), (4, .ref (ad 454)), (5, .int v5)]) (h : fL_case14 F M x s1 s2 s3 s4 s5 = some r) : W p l e room_1 s m args below meth c H locs ce sl Q (F0 m 1034 ls []) := by
  obtain ⟨hx, hb, hml, hown, hts, -⟩ := id C0
  unfold fL_case14 at h
  refine lv_aload_n hx hb dL_law_1034 rfl (lv_at hl 1 rfl) ?_
  refine lv_aload_n hx hb dL_law_1035 rfl (lv_at hl 0 rfl) ?_
  refine lv_iload hx hb dL_law_1036 (lv_at hl 5 rfl) ?_
  refine lv_iconst (v := 1) hx hb dL_law_1038 (by decide) ?_
  refine lv_iadd hx hb dL_law_1039 ?_
  refine q_sld C0 hX hbl hbA hw hs1 dL_law_1040 ?_
  refine lv_aload_n hx hb dL_law_1041 rfl (lv_at hl 3 rfl) ?_
  refine q_callSW (As := [.ref (ad 0), .int s1, .ref (ad 453)]) (nA := 3) C0 hw (fun r1 h1 => ctL_hand hst h1) gL_law_L_hand rfl ⟨rfl, rfl⟩ (by decide +kernel) rfl ⟨(Nat.le_of_ble_eq_true rfl), (Nat.le_of_ble_eq_true rfl)⟩ hl.1 (Nat.le_of_ble_eq_true rfl) ⟨lw_rm (a := 2) hce (Nat.le_of_ble_eq_true rfl), lw_rs (a := 12) hsl (Nat.le_of_ble_eq_true rfl)⟩ rfl h dL_law_1042 (fun M1 x2 z3 H locs hw h => ?_)
  refine q_istore (lv' := fun z4 => [(6, .int z4), (0, .ref b), (1, .ref (ad 0)), (2, .ref (ad 427)), (3, .ref (ad 453)), (4, .ref (ad 454)), (5, .int v5)]) hx hb dL_law_1045 hl (by decide) (fun _ => rfl) h (fun z4 ls hl h => ?_)
  refine lv_aload_n hx hb dL_law_1047 rfl (lv_at hl 3 rfl) ?_
  refine lv_aload_n hx hb dL_law_1048 rfl (lv_at hl 1 rfl) ?_
  refine lv_iload hx hb dL_law_1049 (lv_at hl 6 rfl) ?_
  refine lv_iconst (v := 1) hx hb dL_law_1051 (by decide) ?_
  refine lv_iadd hx hb dL_law_1052 ?_
  refine q_sld C0 hX hbl hbA hw hs1 dL_law_1053 ?_
  refine q_callVNi (As := [.int s1]) (nA := 1) C0 hw at_Mod rfl (fun r1 h1 => ctX6_hand hst h1) gL_law_X6_hand rfl ⟨rfl, rfl⟩ (by decide +kernel) rfl ⟨(Nat.le_of_ble_eq_true rfl), (Nat.le_of_ble_eq_true rfl)⟩ hl.1 (Nat.le_of_ble_eq_true rfl) ⟨lw_rm (a := 2) hce (Nat.le_of_ble_eq_true rfl), lw_rs (a := 12) hsl (Nat.le_of_ble_eq_true rfl)⟩ rfl h dL_law_1054 (fun M5 z6 H locs hw h => ?_)
  refine q_istore (lv' := fun z7 => [(7, .int z7), (6, .int z4), (0, .ref b), (1, .ref (ad 0)), (2, .ref (ad 427)), (3, .ref (ad 453)), (4, .ref (ad 454)), (5, .int v5)]) hx hb dL_law_1057 hl (by decide) (fun _ => rfl) h (fun z7 ls hl h => ?_)
  refine lv_aload_n hx hb dL_law_1059 rfl (lv_at hl 4 rfl) ?_
  refine q_callVNi (As := []) (nA := 0) C0 hw at_Mod rfl (fun r1 h1 => ctX6_thrown hst h1) gL_law_X6_thrown rfl ⟨rfl, rfl⟩ (by decide +kernel) rfl ⟨(Nat.le_of_ble_eq_true rfl), (Nat.le_of_ble_eq_true rfl)⟩ hl.1 (Nat.le_of_ble_eq_true rfl) ⟨lw_rm (a := 2) hce (Nat.le_of_ble_eq_true rfl), lw_rs (a := 12) hsl (Nat.le_of_ble_eq_true rfl)⟩ rfl h dL_law_1060 (fun M8 z9 H locs hw h => ?_)
  refine lv_iload hx hb dL_law_1063 (lv_at hl 1 rfl) ?_
  refine q_icmp_eq (tgt := 1070) hx hb dL_law_1065 (by decide) h (fun h => ?_) (fun h => ?_)
  · refine lv_iload hx hb dL_law_1070 (lv_at hl 1 rfl) ?_
    refine q_if_ne (tgt := 1087) hx hb dL_law_1072 (by decide) h (fun h => ?_) (fun h => ?_)
    · refine lv_goto (tgt := 2355) hx hb dL_law_1087 (by decide) ?_
      exact q_fin h hk hw (lv_sub hl [2, 3, 4, 5, 6, 7] rfl) (lw_ccl (a := 2) (Nat.le_of_ble_eq_true rfl)) (lw_csl (a := 12) (Nat.le_of_ble_eq_true rfl))
    · refine lv_aload_n hx hb dL_law_1075 rfl (lv_at hl 5 rfl) ?_
      refine lv_iconst (v := 0) hx hb dL_law_1076 (by decide) ?_
      refine q_lald C0 hw dL_law_1077 ?_
      refine lv_iload hx hb dL_law_1078 (lv_at hl 0 rfl) ?_
      refine lv_i2l hx hb dL_law_1080 rfl ?_
      refine W.lcmp hx hb dL_law_1081 ?_
      refine q_if_eq (tgt := 1087) hx hb dL_law_1082 (by decide) h (fun h => ?_) (fun h => ?_)
      · refine lv_goto (tgt := 2355) hx hb dL_law_1087 (by decide) ?_
        exact q_fin h hk hw (lv_sub hl [2, 3, 4, 5, 6, 7] rfl) (lw_ccl (a := 2) (Nat.le_of_ble_eq_true rfl)) (lw_csl (a := 12) (Nat.le_of_ble_eq_true rfl))
      · exact q_no h
  · exact q_no h
def fL_case15 (F : Nat) (M : Mem) (x : XX) (s1 s2 s3 s4 s5 : Int32) : Option (Mem × XX) :=
    (q_bw (fL_withdraw F M x s1) fun M1 x2 z3 =>
    q_lt (z3) fun z4 =>
    q_bn (fX6_withdraw F M1 s1) fun M5 z6 =>
    q_lt (z6) fun z7 =>
    q_bn (fX6_thrown F M5) fun M8 z9 =>
    if z9 = z4 then
    (if z4 = (0 : Int32) then
    (if z7 = (0 : Int32) then
    (if (lg_cmp (x2.1) (0 : Int64)) = (0 : Int32) then
    (some (M8, x2))
    else
    (none))
    else
    (if (lg_cmp (x2.1) (1 : Int64)) = (0 : Int32) then
    (some (M8, x2))
    else
    (none)))
    else
    (some (M8, x2)))
    else
    (none))
set_option maxHeartbeats 4000000 in
set_option maxRecDepth 100000 in
theorem wL_case15 {v5 s1 s2 s3 s4 s5 : Int32} {r : Mem × XX} {ce sl : Nat} (hst : l.stackTraces = false) (C0 : MX p l s m args meth c D cy ad cL_law RL 9 wsL_law ret) (hX : va_X b L xs s s.heap) (hbl : b < s.heap.size) (hbA : ¬ AA ad s.heap.size b) (hce : ce + 8 ≤ 603072) (hsl : sl + 48 ≤ 7211114) (hs1 : vp_in (v5 + 1) L ∧ xs (v5 + 1).toNatClampNeg = s1) (hs2 : vp_in (v5 + 2) L ∧ xs (v5 + 2).toNatClampNeg = s2) (hs3 : vp_in (v5 + 3) L ∧ xs (v5 + 3).toNatClampNeg = s3) (hs4 : vp_in (v5 + 4) L ∧ xs (v5 + 4).toNatClampNeg = s4) (hs5 : vp_in (v5 + 5) L ∧ xs (v5 + 5).toNatClampNeg = s5)
    (hk : ∀ (H : Heap) (locs : List Loc) (ls : Array Slot), Wd D cy ad r.2 s r.1 H locs → lv_has ls 9 [(0, .ref b), (1, .ref (ad 0)), (2, .ref (ad 427)), (3, .ref (ad 453)), (4, .ref (ad 454)), (5, .int v5)] → W p l e room_1 s m args below meth c H locs (ce + 8) (sl + 48) Q (F0 m 2355 ls []))
    (hw : Wd D cy ad x s M H locs) (hl : lv_has ls 9 [(0, .ref b), (1, .ref (ad 0)), (2, .ref (ad 427)), (3, .ref (ad 453)), (4, .ref (ad 454)), (5, .int v5)]) (h : fL_case15 F M x s1 s2 s3 s4 s5 = some r) : W p l e room_1 s m args below meth c H locs ce sl Q (F0 m 1090 ls []) := by
  obtain ⟨hx, hb, hml, hown, hts, -⟩ := id C0
  unfold fL_case15 at h
  refine lv_aload_n hx hb dL_law_1090 rfl (lv_at hl 1 rfl) ?_
  refine lv_aload_n hx hb dL_law_1091 rfl (lv_at hl 0 rfl) ?_
  refine lv_iload hx hb dL_law_1092 (lv_at hl 5 rfl) ?_
  refine lv_iconst (v := 1) hx hb dL_law_1094 (by decide) ?_
  refine lv_iadd hx hb dL_law_1095 ?_
  refine q_sld C0 hX hbl hbA hw hs1 dL_law_1096 ?_
  refine lv_aload_n hx hb dL_law_1097 rfl (lv_at hl 3 rfl) ?_
  refine q_callSW (As := [.ref (ad 0), .int s1, .ref (ad 453)]) (nA := 3) C0 hw (fun r1 h1 => ctL_withdraw hst h1) gL_law_L_withdraw rfl ⟨rfl, rfl⟩ (by decide +kernel) rfl ⟨(Nat.le_of_ble_eq_true rfl), (Nat.le_of_ble_eq_true rfl)⟩ hl.1 (Nat.le_of_ble_eq_true rfl) ⟨lw_rm (a := 2) hce (Nat.le_of_ble_eq_true rfl), lw_rs (a := 12) hsl (Nat.le_of_ble_eq_true rfl)⟩ rfl h dL_law_1098 (fun M1 x2 z3 H locs hw h => ?_)
  refine q_istore (lv' := fun z4 => [(6, .int z4), (0, .ref b), (1, .ref (ad 0)), (2, .ref (ad 427)), (3, .ref (ad 453)), (4, .ref (ad 454)), (5, .int v5)]) hx hb dL_law_1101 hl (by decide) (fun _ => rfl) h (fun z4 ls hl h => ?_)
  refine lv_aload_n hx hb dL_law_1103 rfl (lv_at hl 3 rfl) ?_
  refine lv_aload_n hx hb dL_law_1104 rfl (lv_at hl 1 rfl) ?_
  refine lv_iload hx hb dL_law_1105 (lv_at hl 6 rfl) ?_
  refine lv_iconst (v := 1) hx hb dL_law_1107 (by decide) ?_
  refine lv_iadd hx hb dL_law_1108 ?_
  refine q_sld C0 hX hbl hbA hw hs1 dL_law_1109 ?_
  refine q_callVNi (As := [.int s1]) (nA := 1) C0 hw at_Mod rfl (fun r1 h1 => ctX6_withdraw hst h1) gL_law_X6_withdraw rfl ⟨rfl, rfl⟩ (by decide +kernel) rfl ⟨(Nat.le_of_ble_eq_true rfl), (Nat.le_of_ble_eq_true rfl)⟩ hl.1 (Nat.le_of_ble_eq_true rfl) ⟨lw_rm (a := 2) hce (Nat.le_of_ble_eq_true rfl), lw_rs (a := 12) hsl (Nat.le_of_ble_eq_true rfl)⟩ rfl h dL_law_1110 (fun M5 z6 H locs hw h => ?_)
  refine q_istore (lv' := fun z7 => [(7, .int z7), (6, .int z4), (0, .ref b), (1, .ref (ad 0)), (2, .ref (ad 427)), (3, .ref (ad 453)), (4, .ref (ad 454)), (5, .int v5)]) hx hb dL_law_1113 hl (by decide) (fun _ => rfl) h (fun z7 ls hl h => ?_)
  refine lv_aload_n hx hb dL_law_1115 rfl (lv_at hl 4 rfl) ?_
  refine q_callVNi (As := []) (nA := 0) C0 hw at_Mod rfl (fun r1 h1 => ctX6_thrown hst h1) gL_law_X6_thrown rfl ⟨rfl, rfl⟩ (by decide +kernel) rfl ⟨(Nat.le_of_ble_eq_true rfl), (Nat.le_of_ble_eq_true rfl)⟩ hl.1 (Nat.le_of_ble_eq_true rfl) ⟨lw_rm (a := 2) hce (Nat.le_of_ble_eq_true rfl), lw_rs (a := 12) hsl (Nat.le_of_ble_eq_true rfl)⟩ rfl h dL_law_1116 (fun M8 z9 H locs hw h => ?_)
  refine lv_iload hx hb dL_law_1119 (lv_at hl 1 rfl) ?_
  refine q_icmp_eq (tgt := 1126) hx hb dL_law_1121 (by decide) h (fun h => ?_) (fun h => ?_)
  · refine lv_iload hx hb dL_law_1126 (lv_at hl 1 rfl) ?_
    refine q_if_ne (tgt := 1150) hx hb dL_law_1128 (by decide) h (fun h => ?_) (fun h => ?_)
    · refine lv_goto (tgt := 2355) hx hb dL_law_1150 (by decide) ?_
      exact q_fin h hk hw (lv_sub hl [2, 3, 4, 5, 6, 7] rfl) (lw_ccl (a := 2) (Nat.le_of_ble_eq_true rfl)) (lw_csl (a := 12) (Nat.le_of_ble_eq_true rfl))
    · refine lv_aload_n hx hb dL_law_1131 rfl (lv_at hl 5 rfl) ?_
      refine lv_iconst (v := 0) hx hb dL_law_1132 (by decide) ?_
      refine q_lald C0 hw dL_law_1133 ?_
      refine lv_iload hx hb dL_law_1134 (lv_at hl 0 rfl) ?_
      refine q_if_eq (tgt := 1143) hx hb dL_law_1136 (by decide) h (fun h => ?_) (fun h => ?_)
      · refine lv_lconst (v := 0) hx hb dL_law_1143 rfl ?_
        refine W.lcmp hx hb dL_law_1144 ?_
        refine q_if_eq (tgt := 1150) hx hb dL_law_1145 (by decide) h (fun h => ?_) (fun h => ?_)
        · refine lv_goto (tgt := 2355) hx hb dL_law_1150 (by decide) ?_
          exact q_fin h hk hw (lv_sub hl [2, 3, 4, 5, 6, 7] rfl) (lw_ccl (a := 2) (Nat.le_of_ble_eq_true rfl)) (lw_csl (a := 12) (Nat.le_of_ble_eq_true rfl))
        · exact q_no h
      · refine lv_lconst (v := 1) hx hb dL_law_1139 rfl ?_
        refine lv_goto (tgt := 1144) hx hb dL_law_1140 (by decide) ?_
        refine W.lcmp hx hb dL_law_1144 ?_
        refine q_if_eq (tgt := 1150) hx hb dL_law_1145 (by decide) h (fun h => ?_) (fun h => ?_)
        · refine lv_goto (tgt := 2355) hx hb dL_law_1150 (by decide) ?_
          exact q_fin h hk hw (lv_sub hl [2, 3, 4, 5, 6, 7] rfl) (lw_ccl (a := 2) (Nat.le_of_ble_eq_true rfl)) (lw_csl (a := 12) (Nat.le_of_ble_eq_true rfl))
        · exact q_no h
  · exact q_no h
def fL_case16 (F : Nat) (M : Mem) (x : XX) (s1 s2 s3 s4 s5 : Int32) : Option (Mem × XX) :=
    (q_bw (fL_isIn F M x s1) fun M1 x2 z3 =>
    q_lt (z3) fun z4 =>
    q_bn (fX6_isIn F M1 s1) fun M5 z6 =>
    q_lt (z6) fun z7 =>
    q_bn (fX6_thrown F M5) fun M8 z9 =>
    if z9 = z4 then
    (if z4 = (0 : Int32) then
    (if z7 = (0 : Int32) then
    (if (lg_cmp (x2.1) (0 : Int64)) = (0 : Int32) then
    (some (M8, x2))
    else
    (none))
    else
    (if (lg_cmp (x2.1) (1 : Int64)) = (0 : Int32) then
    (some (M8, x2))
    else
    (none)))
    else
    (some (M8, x2)))
    else
    (none))
set_option maxHeartbeats 4000000 in
set_option maxRecDepth 100000 in
theorem wL_case16 {v5 s1 s2 s3 s4 s5 : Int32} {r : Mem × XX} {ce sl : Nat} (hst : l.stackTraces = false) (C0 : MX p l s m args meth c D cy ad cL_law RL 9 wsL_law ret) (hX : va_X b L xs s s.heap) (hbl : b < s.heap.size) (hbA : ¬ AA ad s.heap.size b) (hce : ce + 8 ≤ 603072) (hsl : sl + 48 ≤ 7211114) (hs1 : vp_in (v5 + 1) L ∧ xs (v5 + 1).toNatClampNeg = s1) (hs2 : vp_in (v5 + 2) L ∧ xs (v5 + 2).toNatClampNeg = s2) (hs3 : vp_in (v5 + 3) L ∧ xs (v5 + 3).toNatClampNeg = s3) (hs4 : vp_in (v5 + 4) L ∧ xs (v5 + 4).toNatClampNeg = s4) (hs5 : vp_in (v5 + 5) L ∧ xs (v5 + 5).toNatClampNeg = s5)
    (hk : ∀ (H : Heap) (locs : List Loc) (ls : Array Slot), Wd D cy ad r.2 s r.1 H locs → lv_has ls 9 [(0, .ref b), (1, .ref (ad 0)), (2, .ref (ad 427)), (3, .ref (ad 453)), (4, .ref (ad 454)), (5, .int v5)] → W p l e room_1 s m args below meth c H locs (ce + 8) (sl + 48) Q (F0 m 2355 ls []))
    (hw : Wd D cy ad x s M H locs) (hl : lv_has ls 9 [(0, .ref b), (1, .ref (ad 0)), (2, .ref (ad 427)), (3, .ref (ad 453)), (4, .ref (ad 454)), (5, .int v5)]) (h : fL_case16 F M x s1 s2 s3 s4 s5 = some r) : W p l e room_1 s m args below meth c H locs ce sl Q (F0 m 1153 ls []) := by
  obtain ⟨hx, hb, hml, hown, hts, -⟩ := id C0
  unfold fL_case16 at h
  refine lv_aload_n hx hb dL_law_1153 rfl (lv_at hl 1 rfl) ?_
  refine lv_aload_n hx hb dL_law_1154 rfl (lv_at hl 0 rfl) ?_
  refine lv_iload hx hb dL_law_1155 (lv_at hl 5 rfl) ?_
  refine lv_iconst (v := 1) hx hb dL_law_1157 (by decide) ?_
  refine lv_iadd hx hb dL_law_1158 ?_
  refine q_sld C0 hX hbl hbA hw hs1 dL_law_1159 ?_
  refine lv_aload_n hx hb dL_law_1160 rfl (lv_at hl 3 rfl) ?_
  refine q_callSW (As := [.ref (ad 0), .int s1, .ref (ad 453)]) (nA := 3) C0 hw (fun r1 h1 => ctL_isIn hst h1) gL_law_L_isIn rfl ⟨rfl, rfl⟩ (by decide +kernel) rfl ⟨(Nat.le_of_ble_eq_true rfl), (Nat.le_of_ble_eq_true rfl)⟩ hl.1 (Nat.le_of_ble_eq_true rfl) ⟨lw_rm (a := 1) hce (Nat.le_of_ble_eq_true rfl), lw_rs (a := 6) hsl (Nat.le_of_ble_eq_true rfl)⟩ rfl h dL_law_1161 (fun M1 x2 z3 H locs hw h => ?_)
  refine q_istore (lv' := fun z4 => [(6, .int z4), (0, .ref b), (1, .ref (ad 0)), (2, .ref (ad 427)), (3, .ref (ad 453)), (4, .ref (ad 454)), (5, .int v5)]) hx hb dL_law_1164 hl (by decide) (fun _ => rfl) h (fun z4 ls hl h => ?_)
  refine lv_aload_n hx hb dL_law_1166 rfl (lv_at hl 3 rfl) ?_
  refine lv_aload_n hx hb dL_law_1167 rfl (lv_at hl 1 rfl) ?_
  refine lv_iload hx hb dL_law_1168 (lv_at hl 6 rfl) ?_
  refine lv_iconst (v := 1) hx hb dL_law_1170 (by decide) ?_
  refine lv_iadd hx hb dL_law_1171 ?_
  refine q_sld C0 hX hbl hbA hw hs1 dL_law_1172 ?_
  refine q_callVNi (As := [.int s1]) (nA := 1) C0 hw at_Mod rfl (fun r1 h1 => ctX6_isIn hst h1) gL_law_X6_isIn rfl ⟨rfl, rfl⟩ (by decide +kernel) rfl ⟨(Nat.le_of_ble_eq_true rfl), (Nat.le_of_ble_eq_true rfl)⟩ hl.1 (Nat.le_of_ble_eq_true rfl) ⟨lw_rm (a := 1) hce (Nat.le_of_ble_eq_true rfl), lw_rs (a := 6) hsl (Nat.le_of_ble_eq_true rfl)⟩ rfl h dL_law_1173 (fun M5 z6 H locs hw h => ?_)
  refine q_istore (lv' := fun z7 => [(7, .int z7), (6, .int z4), (0, .ref b), (1, .ref (ad 0)), (2, .ref (ad 427)), (3, .ref (ad 453)), (4, .ref (ad 454)), (5, .int v5)]) hx hb dL_law_1176 hl (by decide) (fun _ => rfl) h (fun z7 ls hl h => ?_)
  refine lv_aload_n hx hb dL_law_1178 rfl (lv_at hl 4 rfl) ?_
  refine q_callVNi (As := []) (nA := 0) C0 hw at_Mod rfl (fun r1 h1 => ctX6_thrown hst h1) gL_law_X6_thrown rfl ⟨rfl, rfl⟩ (by decide +kernel) rfl ⟨(Nat.le_of_ble_eq_true rfl), (Nat.le_of_ble_eq_true rfl)⟩ hl.1 (Nat.le_of_ble_eq_true rfl) ⟨lw_rm (a := 1) hce (Nat.le_of_ble_eq_true rfl), lw_rs (a := 6) hsl (Nat.le_of_ble_eq_true rfl)⟩ rfl h dL_law_1179 (fun M8 z9 H locs hw h => ?_)
  refine lv_iload hx hb dL_law_1182 (lv_at hl 1 rfl) ?_
  refine q_icmp_eq (tgt := 1189) hx hb dL_law_1184 (by decide) h (fun h => ?_) (fun h => ?_)
  · refine lv_iload hx hb dL_law_1189 (lv_at hl 1 rfl) ?_
    refine q_if_ne (tgt := 1213) hx hb dL_law_1191 (by decide) h (fun h => ?_) (fun h => ?_)
    · refine lv_goto (tgt := 2355) hx hb dL_law_1213 (by decide) ?_
      exact q_fin h hk hw (lv_sub hl [2, 3, 4, 5, 6, 7] rfl) (lw_ccl (a := 1) (Nat.le_of_ble_eq_true rfl)) (lw_csl (a := 6) (Nat.le_of_ble_eq_true rfl))
    · refine lv_aload_n hx hb dL_law_1194 rfl (lv_at hl 5 rfl) ?_
      refine lv_iconst (v := 0) hx hb dL_law_1195 (by decide) ?_
      refine q_lald C0 hw dL_law_1196 ?_
      refine lv_iload hx hb dL_law_1197 (lv_at hl 0 rfl) ?_
      refine q_if_eq (tgt := 1206) hx hb dL_law_1199 (by decide) h (fun h => ?_) (fun h => ?_)
      · refine lv_lconst (v := 0) hx hb dL_law_1206 rfl ?_
        refine W.lcmp hx hb dL_law_1207 ?_
        refine q_if_eq (tgt := 1213) hx hb dL_law_1208 (by decide) h (fun h => ?_) (fun h => ?_)
        · refine lv_goto (tgt := 2355) hx hb dL_law_1213 (by decide) ?_
          exact q_fin h hk hw (lv_sub hl [2, 3, 4, 5, 6, 7] rfl) (lw_ccl (a := 1) (Nat.le_of_ble_eq_true rfl)) (lw_csl (a := 6) (Nat.le_of_ble_eq_true rfl))
        · exact q_no h
      · refine lv_lconst (v := 1) hx hb dL_law_1202 rfl ?_
        refine lv_goto (tgt := 1207) hx hb dL_law_1203 (by decide) ?_
        refine W.lcmp hx hb dL_law_1207 ?_
        refine q_if_eq (tgt := 1213) hx hb dL_law_1208 (by decide) h (fun h => ?_) (fun h => ?_)
        · refine lv_goto (tgt := 2355) hx hb dL_law_1213 (by decide) ?_
          exact q_fin h hk hw (lv_sub hl [2, 3, 4, 5, 6, 7] rfl) (lw_ccl (a := 1) (Nat.le_of_ble_eq_true rfl)) (lw_csl (a := 6) (Nat.le_of_ble_eq_true rfl))
        · exact q_no h
  · exact q_no h
def fL_case17 (F : Nat) (M : Mem) (x : XX) (s1 s2 s3 s4 s5 : Int32) : Option (Mem × XX) :=
    (q_bw (fL_late F M x s1) fun M1 x2 z3 =>
    q_lt (z3) fun z4 =>
    q_bn (fX6_late F M1 s1) fun M5 z6 =>
    q_lt (z6) fun z7 =>
    q_bn (fX6_thrown F M5) fun M8 z9 =>
    if z9 = z4 then
    (if z4 = (0 : Int32) then
    (if (lg_cmp (x2.1) (z7.toInt64)) = (0 : Int32) then
    (some (M8, x2))
    else
    (none))
    else
    (some (M8, x2)))
    else
    (none))
set_option maxHeartbeats 4000000 in
set_option maxRecDepth 100000 in
theorem wL_case17 {v5 s1 s2 s3 s4 s5 : Int32} {r : Mem × XX} {ce sl : Nat} (hst : l.stackTraces = false) (C0 : MX p l s m args meth c D cy ad cL_law RL 9 wsL_law ret) (hX : va_X b L xs s s.heap) (hbl : b < s.heap.size) (hbA : ¬ AA ad s.heap.size b) (hce : ce + 8 ≤ 603072) (hsl : sl + 48 ≤ 7211114) (hs1 : vp_in (v5 + 1) L ∧ xs (v5 + 1).toNatClampNeg = s1) (hs2 : vp_in (v5 + 2) L ∧ xs (v5 + 2).toNatClampNeg = s2) (hs3 : vp_in (v5 + 3) L ∧ xs (v5 + 3).toNatClampNeg = s3) (hs4 : vp_in (v5 + 4) L ∧ xs (v5 + 4).toNatClampNeg = s4) (hs5 : vp_in (v5 + 5) L ∧ xs (v5 + 5).toNatClampNeg = s5)
    (hk : ∀ (H : Heap) (locs : List Loc) (ls : Array Slot), Wd D cy ad r.2 s r.1 H locs → lv_has ls 9 [(0, .ref b), (1, .ref (ad 0)), (2, .ref (ad 427)), (3, .ref (ad 453)), (4, .ref (ad 454)), (5, .int v5)] → W p l e room_1 s m args below meth c H locs (ce + 8) (sl + 48) Q (F0 m 2355 ls []))
    (hw : Wd D cy ad x s M H locs) (hl : lv_has ls 9 [(0, .ref b), (1, .ref (ad 0)), (2, .ref (ad 427)), (3, .ref (ad 453)), (4, .ref (ad 454)), (5, .int v5)]) (h : fL_case17 F M x s1 s2 s3 s4 s5 = some r) : W p l e room_1 s m args below meth c H locs ce sl Q (F0 m 1216 ls []) := by
  obtain ⟨hx, hb, hml, hown, hts, -⟩ := id C0
  unfold fL_case17 at h
  refine lv_aload_n hx hb dL_law_1216 rfl (lv_at hl 1 rfl) ?_
  refine lv_aload_n hx hb dL_law_1217 rfl (lv_at hl 0 rfl) ?_
  refine lv_iload hx hb dL_law_1218 (lv_at hl 5 rfl) ?_
  refine lv_iconst (v := 1) hx hb dL_law_1220 (by decide) ?_
  refine lv_iadd hx hb dL_law_1221 ?_
  refine q_sld C0 hX hbl hbA hw hs1 dL_law_1222 ?_
  refine lv_aload_n hx hb dL_law_1223 rfl (lv_at hl 3 rfl) ?_
  refine q_callSW (As := [.ref (ad 0), .int s1, .ref (ad 453)]) (nA := 3) C0 hw (fun r1 h1 => ctL_late hst h1) gL_law_L_late rfl ⟨rfl, rfl⟩ (by decide +kernel) rfl ⟨(Nat.le_of_ble_eq_true rfl), (Nat.le_of_ble_eq_true rfl)⟩ hl.1 (Nat.le_of_ble_eq_true rfl) ⟨lw_rm (a := 2) hce (Nat.le_of_ble_eq_true rfl), lw_rs (a := 12) hsl (Nat.le_of_ble_eq_true rfl)⟩ rfl h dL_law_1224 (fun M1 x2 z3 H locs hw h => ?_)
  refine q_istore (lv' := fun z4 => [(6, .int z4), (0, .ref b), (1, .ref (ad 0)), (2, .ref (ad 427)), (3, .ref (ad 453)), (4, .ref (ad 454)), (5, .int v5)]) hx hb dL_law_1227 hl (by decide) (fun _ => rfl) h (fun z4 ls hl h => ?_)
  refine lv_aload_n hx hb dL_law_1229 rfl (lv_at hl 3 rfl) ?_
  refine lv_aload_n hx hb dL_law_1230 rfl (lv_at hl 1 rfl) ?_
  refine lv_iload hx hb dL_law_1231 (lv_at hl 6 rfl) ?_
  refine lv_iconst (v := 1) hx hb dL_law_1233 (by decide) ?_
  refine lv_iadd hx hb dL_law_1234 ?_
  refine q_sld C0 hX hbl hbA hw hs1 dL_law_1235 ?_
  refine q_callVNi (As := [.int s1]) (nA := 1) C0 hw at_Mod rfl (fun r1 h1 => ctX6_late hst h1) gL_law_X6_late rfl ⟨rfl, rfl⟩ (by decide +kernel) rfl ⟨(Nat.le_of_ble_eq_true rfl), (Nat.le_of_ble_eq_true rfl)⟩ hl.1 (Nat.le_of_ble_eq_true rfl) ⟨lw_rm (a := 2) hce (Nat.le_of_ble_eq_true rfl), lw_rs (a := 12) hsl (Nat.le_of_ble_eq_true rfl)⟩ rfl h dL_law_1236 (fun M5 z6 H locs hw h => ?_)
  refine q_istore (lv' := fun z7 => [(7, .int z7), (6, .int z4), (0, .ref b), (1, .ref (ad 0)), (2, .ref (ad 427)), (3, .ref (ad 453)), (4, .ref (ad 454)), (5, .int v5)]) hx hb dL_law_1239 hl (by decide) (fun _ => rfl) h (fun z7 ls hl h => ?_)
  refine lv_aload_n hx hb dL_law_1241 rfl (lv_at hl 4 rfl) ?_
  refine q_callVNi (As := []) (nA := 0) C0 hw at_Mod rfl (fun r1 h1 => ctX6_thrown hst h1) gL_law_X6_thrown rfl ⟨rfl, rfl⟩ (by decide +kernel) rfl ⟨(Nat.le_of_ble_eq_true rfl), (Nat.le_of_ble_eq_true rfl)⟩ hl.1 (Nat.le_of_ble_eq_true rfl) ⟨lw_rm (a := 2) hce (Nat.le_of_ble_eq_true rfl), lw_rs (a := 12) hsl (Nat.le_of_ble_eq_true rfl)⟩ rfl h dL_law_1242 (fun M8 z9 H locs hw h => ?_)
  refine lv_iload hx hb dL_law_1245 (lv_at hl 1 rfl) ?_
  refine q_icmp_eq (tgt := 1252) hx hb dL_law_1247 (by decide) h (fun h => ?_) (fun h => ?_)
  · refine lv_iload hx hb dL_law_1252 (lv_at hl 1 rfl) ?_
    refine q_if_ne (tgt := 1269) hx hb dL_law_1254 (by decide) h (fun h => ?_) (fun h => ?_)
    · refine lv_goto (tgt := 2355) hx hb dL_law_1269 (by decide) ?_
      exact q_fin h hk hw (lv_sub hl [2, 3, 4, 5, 6, 7] rfl) (lw_ccl (a := 2) (Nat.le_of_ble_eq_true rfl)) (lw_csl (a := 12) (Nat.le_of_ble_eq_true rfl))
    · refine lv_aload_n hx hb dL_law_1257 rfl (lv_at hl 5 rfl) ?_
      refine lv_iconst (v := 0) hx hb dL_law_1258 (by decide) ?_
      refine q_lald C0 hw dL_law_1259 ?_
      refine lv_iload hx hb dL_law_1260 (lv_at hl 0 rfl) ?_
      refine lv_i2l hx hb dL_law_1262 rfl ?_
      refine W.lcmp hx hb dL_law_1263 ?_
      refine q_if_eq (tgt := 1269) hx hb dL_law_1264 (by decide) h (fun h => ?_) (fun h => ?_)
      · refine lv_goto (tgt := 2355) hx hb dL_law_1269 (by decide) ?_
        exact q_fin h hk hw (lv_sub hl [2, 3, 4, 5, 6, 7] rfl) (lw_ccl (a := 2) (Nat.le_of_ble_eq_true rfl)) (lw_csl (a := 12) (Nat.le_of_ble_eq_true rfl))
      · exact q_no h
  · exact q_no h
def fL_case18 (F : Nat) (M : Mem) (x : XX) (s1 s2 s3 s4 s5 : Int32) : Option (Mem × XX) :=
    (q_bw (fL_off F M x s1 s2) fun M1 x2 z3 =>
    q_lt (z3) fun z4 =>
    q_bn (fX6_off F M1 s1 s2) fun M5 z6 =>
    q_lt (z6) fun z7 =>
    q_bn (fX6_thrown F M5) fun M8 z9 =>
    if z9 = z4 then
    (if z4 = (0 : Int32) then
    (if (lg_cmp (x2.1) (z7.toInt64)) = (0 : Int32) then
    (some (M8, x2))
    else
    (none))
    else
    (some (M8, x2)))
    else
    (none))
set_option maxHeartbeats 4000000 in
set_option maxRecDepth 100000 in
theorem wL_case18 {v5 s1 s2 s3 s4 s5 : Int32} {r : Mem × XX} {ce sl : Nat} (hst : l.stackTraces = false) (C0 : MX p l s m args meth c D cy ad cL_law RL 9 wsL_law ret) (hX : va_X b L xs s s.heap) (hbl : b < s.heap.size) (hbA : ¬ AA ad s.heap.size b) (hce : ce + 8 ≤ 603072) (hsl : sl + 48 ≤ 7211114) (hs1 : vp_in (v5 + 1) L ∧ xs (v5 + 1).toNatClampNeg = s1) (hs2 : vp_in (v5 + 2) L ∧ xs (v5 + 2).toNatClampNeg = s2) (hs3 : vp_in (v5 + 3) L ∧ xs (v5 + 3).toNatClampNeg = s3) (hs4 : vp_in (v5 + 4) L ∧ xs (v5 + 4).toNatClampNeg = s4) (hs5 : vp_in (v5 + 5) L ∧ xs (v5 + 5).toNatClampNeg = s5)
    (hk : ∀ (H : Heap) (locs : List Loc) (ls : Array Slot), Wd D cy ad r.2 s r.1 H locs → lv_has ls 9 [(0, .ref b), (1, .ref (ad 0)), (2, .ref (ad 427)), (3, .ref (ad 453)), (4, .ref (ad 454)), (5, .int v5)] → W p l e room_1 s m args below meth c H locs (ce + 8) (sl + 48) Q (F0 m 2355 ls []))
    (hw : Wd D cy ad x s M H locs) (hl : lv_has ls 9 [(0, .ref b), (1, .ref (ad 0)), (2, .ref (ad 427)), (3, .ref (ad 453)), (4, .ref (ad 454)), (5, .int v5)]) (h : fL_case18 F M x s1 s2 s3 s4 s5 = some r) : W p l e room_1 s m args below meth c H locs ce sl Q (F0 m 1272 ls []) := by
  obtain ⟨hx, hb, hml, hown, hts, -⟩ := id C0
  unfold fL_case18 at h
  refine lv_aload_n hx hb dL_law_1272 rfl (lv_at hl 1 rfl) ?_
  refine lv_aload_n hx hb dL_law_1273 rfl (lv_at hl 0 rfl) ?_
  refine lv_iload hx hb dL_law_1274 (lv_at hl 5 rfl) ?_
  refine lv_iconst (v := 1) hx hb dL_law_1276 (by decide) ?_
  refine lv_iadd hx hb dL_law_1277 ?_
  refine q_sld C0 hX hbl hbA hw hs1 dL_law_1278 ?_
  refine lv_aload_n hx hb dL_law_1279 rfl (lv_at hl 0 rfl) ?_
  refine lv_iload hx hb dL_law_1280 (lv_at hl 5 rfl) ?_
  refine lv_iconst (v := 2) hx hb dL_law_1282 (by decide) ?_
  refine lv_iadd hx hb dL_law_1283 ?_
  refine q_sld C0 hX hbl hbA hw hs2 dL_law_1284 ?_
  refine lv_aload_n hx hb dL_law_1285 rfl (lv_at hl 3 rfl) ?_
  refine q_callSW (As := [.ref (ad 0), .int s1, .int s2, .ref (ad 453)]) (nA := 4) C0 hw (fun r1 h1 => ctL_off hst h1) gL_law_L_off rfl ⟨rfl, rfl⟩ (by decide +kernel) rfl ⟨(Nat.le_of_ble_eq_true rfl), (Nat.le_of_ble_eq_true rfl)⟩ hl.1 (Nat.le_of_ble_eq_true rfl) ⟨lw_rm (a := 2) hce (Nat.le_of_ble_eq_true rfl), lw_rs (a := 12) hsl (Nat.le_of_ble_eq_true rfl)⟩ rfl h dL_law_1286 (fun M1 x2 z3 H locs hw h => ?_)
  refine q_istore (lv' := fun z4 => [(6, .int z4), (0, .ref b), (1, .ref (ad 0)), (2, .ref (ad 427)), (3, .ref (ad 453)), (4, .ref (ad 454)), (5, .int v5)]) hx hb dL_law_1289 hl (by decide) (fun _ => rfl) h (fun z4 ls hl h => ?_)
  refine lv_aload_n hx hb dL_law_1291 rfl (lv_at hl 3 rfl) ?_
  refine lv_aload_n hx hb dL_law_1292 rfl (lv_at hl 1 rfl) ?_
  refine lv_iload hx hb dL_law_1293 (lv_at hl 6 rfl) ?_
  refine lv_iconst (v := 1) hx hb dL_law_1295 (by decide) ?_
  refine lv_iadd hx hb dL_law_1296 ?_
  refine q_sld C0 hX hbl hbA hw hs1 dL_law_1297 ?_
  refine lv_aload_n hx hb dL_law_1298 rfl (lv_at hl 1 rfl) ?_
  refine lv_iload hx hb dL_law_1299 (lv_at hl 6 rfl) ?_
  refine lv_iconst (v := 2) hx hb dL_law_1301 (by decide) ?_
  refine lv_iadd hx hb dL_law_1302 ?_
  refine q_sld C0 hX hbl hbA hw hs2 dL_law_1303 ?_
  refine q_callVNi (As := [.int s1, .int s2]) (nA := 2) C0 hw at_Mod rfl (fun r1 h1 => ctX6_off hst h1) gL_law_X6_off rfl ⟨rfl, rfl⟩ (by decide +kernel) rfl ⟨(Nat.le_of_ble_eq_true rfl), (Nat.le_of_ble_eq_true rfl)⟩ hl.1 (Nat.le_of_ble_eq_true rfl) ⟨lw_rm (a := 2) hce (Nat.le_of_ble_eq_true rfl), lw_rs (a := 12) hsl (Nat.le_of_ble_eq_true rfl)⟩ rfl h dL_law_1304 (fun M5 z6 H locs hw h => ?_)
  refine q_istore (lv' := fun z7 => [(7, .int z7), (6, .int z4), (0, .ref b), (1, .ref (ad 0)), (2, .ref (ad 427)), (3, .ref (ad 453)), (4, .ref (ad 454)), (5, .int v5)]) hx hb dL_law_1307 hl (by decide) (fun _ => rfl) h (fun z7 ls hl h => ?_)
  refine lv_aload_n hx hb dL_law_1309 rfl (lv_at hl 4 rfl) ?_
  refine q_callVNi (As := []) (nA := 0) C0 hw at_Mod rfl (fun r1 h1 => ctX6_thrown hst h1) gL_law_X6_thrown rfl ⟨rfl, rfl⟩ (by decide +kernel) rfl ⟨(Nat.le_of_ble_eq_true rfl), (Nat.le_of_ble_eq_true rfl)⟩ hl.1 (Nat.le_of_ble_eq_true rfl) ⟨lw_rm (a := 2) hce (Nat.le_of_ble_eq_true rfl), lw_rs (a := 12) hsl (Nat.le_of_ble_eq_true rfl)⟩ rfl h dL_law_1310 (fun M8 z9 H locs hw h => ?_)
  refine lv_iload hx hb dL_law_1313 (lv_at hl 1 rfl) ?_
  refine q_icmp_eq (tgt := 1320) hx hb dL_law_1315 (by decide) h (fun h => ?_) (fun h => ?_)
  · refine lv_iload hx hb dL_law_1320 (lv_at hl 1 rfl) ?_
    refine q_if_ne (tgt := 1337) hx hb dL_law_1322 (by decide) h (fun h => ?_) (fun h => ?_)
    · refine lv_goto (tgt := 2355) hx hb dL_law_1337 (by decide) ?_
      exact q_fin h hk hw (lv_sub hl [2, 3, 4, 5, 6, 7] rfl) (lw_ccl (a := 2) (Nat.le_of_ble_eq_true rfl)) (lw_csl (a := 12) (Nat.le_of_ble_eq_true rfl))
    · refine lv_aload_n hx hb dL_law_1325 rfl (lv_at hl 5 rfl) ?_
      refine lv_iconst (v := 0) hx hb dL_law_1326 (by decide) ?_
      refine q_lald C0 hw dL_law_1327 ?_
      refine lv_iload hx hb dL_law_1328 (lv_at hl 0 rfl) ?_
      refine lv_i2l hx hb dL_law_1330 rfl ?_
      refine W.lcmp hx hb dL_law_1331 ?_
      refine q_if_eq (tgt := 1337) hx hb dL_law_1332 (by decide) h (fun h => ?_) (fun h => ?_)
      · refine lv_goto (tgt := 2355) hx hb dL_law_1337 (by decide) ?_
        exact q_fin h hk hw (lv_sub hl [2, 3, 4, 5, 6, 7] rfl) (lw_ccl (a := 2) (Nat.le_of_ble_eq_true rfl)) (lw_csl (a := 12) (Nat.le_of_ble_eq_true rfl))
      · exact q_no h
  · exact q_no h
def fL_case19 (F : Nat) (M : Mem) (x : XX) (s1 s2 s3 s4 s5 : Int32) : Option (Mem × XX) :=
    (q_bw (fL_points F M x s1 s2) fun M1 x2 z3 =>
    q_lt (z3) fun z4 =>
    q_bn (fX6_points F M1 s1 s2) fun M5 z6 =>
    q_lt (z6) fun z7 =>
    q_bn (fX6_thrown F M5) fun M8 z9 =>
    if z9 = z4 then
    (if z4 = (0 : Int32) then
    (if (lg_cmp (x2.1) (z7.toInt64)) = (0 : Int32) then
    (some (M8, x2))
    else
    (none))
    else
    (some (M8, x2)))
    else
    (none))
set_option maxHeartbeats 4000000 in
set_option maxRecDepth 100000 in
theorem wL_case19 {v5 s1 s2 s3 s4 s5 : Int32} {r : Mem × XX} {ce sl : Nat} (hst : l.stackTraces = false) (C0 : MX p l s m args meth c D cy ad cL_law RL 9 wsL_law ret) (hX : va_X b L xs s s.heap) (hbl : b < s.heap.size) (hbA : ¬ AA ad s.heap.size b) (hce : ce + 8 ≤ 603072) (hsl : sl + 48 ≤ 7211114) (hs1 : vp_in (v5 + 1) L ∧ xs (v5 + 1).toNatClampNeg = s1) (hs2 : vp_in (v5 + 2) L ∧ xs (v5 + 2).toNatClampNeg = s2) (hs3 : vp_in (v5 + 3) L ∧ xs (v5 + 3).toNatClampNeg = s3) (hs4 : vp_in (v5 + 4) L ∧ xs (v5 + 4).toNatClampNeg = s4) (hs5 : vp_in (v5 + 5) L ∧ xs (v5 + 5).toNatClampNeg = s5)
    (hk : ∀ (H : Heap) (locs : List Loc) (ls : Array Slot), Wd D cy ad r.2 s r.1 H locs → lv_has ls 9 [(0, .ref b), (1, .ref (ad 0)), (2, .ref (ad 427)), (3, .ref (ad 453)), (4, .ref (ad 454)), (5, .int v5)] → W p l e room_1 s m args below meth c H locs (ce + 8) (sl + 48) Q (F0 m 2355 ls []))
    (hw : Wd D cy ad x s M H locs) (hl : lv_has ls 9 [(0, .ref b), (1, .ref (ad 0)), (2, .ref (ad 427)), (3, .ref (ad 453)), (4, .ref (ad 454)), (5, .int v5)]) (h : fL_case19 F M x s1 s2 s3 s4 s5 = some r) : W p l e room_1 s m args below meth c H locs ce sl Q (F0 m 1340 ls []) := by
  obtain ⟨hx, hb, hml, hown, hts, -⟩ := id C0
  unfold fL_case19 at h
  refine lv_aload_n hx hb dL_law_1340 rfl (lv_at hl 1 rfl) ?_
  refine lv_aload_n hx hb dL_law_1341 rfl (lv_at hl 0 rfl) ?_
  refine lv_iload hx hb dL_law_1342 (lv_at hl 5 rfl) ?_
  refine lv_iconst (v := 1) hx hb dL_law_1344 (by decide) ?_
  refine lv_iadd hx hb dL_law_1345 ?_
  refine q_sld C0 hX hbl hbA hw hs1 dL_law_1346 ?_
  refine lv_aload_n hx hb dL_law_1347 rfl (lv_at hl 0 rfl) ?_
  refine lv_iload hx hb dL_law_1348 (lv_at hl 5 rfl) ?_
  refine lv_iconst (v := 2) hx hb dL_law_1350 (by decide) ?_
  refine lv_iadd hx hb dL_law_1351 ?_
  refine q_sld C0 hX hbl hbA hw hs2 dL_law_1352 ?_
  refine lv_aload_n hx hb dL_law_1353 rfl (lv_at hl 3 rfl) ?_
  refine q_callSW (As := [.ref (ad 0), .int s1, .int s2, .ref (ad 453)]) (nA := 4) C0 hw (fun r1 h1 => ctL_points hst h1) gL_law_L_points rfl ⟨rfl, rfl⟩ (by decide +kernel) rfl ⟨(Nat.le_of_ble_eq_true rfl), (Nat.le_of_ble_eq_true rfl)⟩ hl.1 (Nat.le_of_ble_eq_true rfl) ⟨lw_rm (a := 2) hce (Nat.le_of_ble_eq_true rfl), lw_rs (a := 12) hsl (Nat.le_of_ble_eq_true rfl)⟩ rfl h dL_law_1354 (fun M1 x2 z3 H locs hw h => ?_)
  refine q_istore (lv' := fun z4 => [(6, .int z4), (0, .ref b), (1, .ref (ad 0)), (2, .ref (ad 427)), (3, .ref (ad 453)), (4, .ref (ad 454)), (5, .int v5)]) hx hb dL_law_1357 hl (by decide) (fun _ => rfl) h (fun z4 ls hl h => ?_)
  refine lv_aload_n hx hb dL_law_1359 rfl (lv_at hl 3 rfl) ?_
  refine lv_aload_n hx hb dL_law_1360 rfl (lv_at hl 1 rfl) ?_
  refine lv_iload hx hb dL_law_1361 (lv_at hl 6 rfl) ?_
  refine lv_iconst (v := 1) hx hb dL_law_1363 (by decide) ?_
  refine lv_iadd hx hb dL_law_1364 ?_
  refine q_sld C0 hX hbl hbA hw hs1 dL_law_1365 ?_
  refine lv_aload_n hx hb dL_law_1366 rfl (lv_at hl 1 rfl) ?_
  refine lv_iload hx hb dL_law_1367 (lv_at hl 6 rfl) ?_
  refine lv_iconst (v := 2) hx hb dL_law_1369 (by decide) ?_
  refine lv_iadd hx hb dL_law_1370 ?_
  refine q_sld C0 hX hbl hbA hw hs2 dL_law_1371 ?_
  refine q_callVNi (As := [.int s1, .int s2]) (nA := 2) C0 hw at_Mod rfl (fun r1 h1 => ctX6_points hst h1) gL_law_X6_points rfl ⟨rfl, rfl⟩ (by decide +kernel) rfl ⟨(Nat.le_of_ble_eq_true rfl), (Nat.le_of_ble_eq_true rfl)⟩ hl.1 (Nat.le_of_ble_eq_true rfl) ⟨lw_rm (a := 2) hce (Nat.le_of_ble_eq_true rfl), lw_rs (a := 12) hsl (Nat.le_of_ble_eq_true rfl)⟩ rfl h dL_law_1372 (fun M5 z6 H locs hw h => ?_)
  refine q_istore (lv' := fun z7 => [(7, .int z7), (6, .int z4), (0, .ref b), (1, .ref (ad 0)), (2, .ref (ad 427)), (3, .ref (ad 453)), (4, .ref (ad 454)), (5, .int v5)]) hx hb dL_law_1375 hl (by decide) (fun _ => rfl) h (fun z7 ls hl h => ?_)
  refine lv_aload_n hx hb dL_law_1377 rfl (lv_at hl 4 rfl) ?_
  refine q_callVNi (As := []) (nA := 0) C0 hw at_Mod rfl (fun r1 h1 => ctX6_thrown hst h1) gL_law_X6_thrown rfl ⟨rfl, rfl⟩ (by decide +kernel) rfl ⟨(Nat.le_of_ble_eq_true rfl), (Nat.le_of_ble_eq_true rfl)⟩ hl.1 (Nat.le_of_ble_eq_true rfl) ⟨lw_rm (a := 2) hce (Nat.le_of_ble_eq_true rfl), lw_rs (a := 12) hsl (Nat.le_of_ble_eq_true rfl)⟩ rfl h dL_law_1378 (fun M8 z9 H locs hw h => ?_)
  refine lv_iload hx hb dL_law_1381 (lv_at hl 1 rfl) ?_
  refine q_icmp_eq (tgt := 1388) hx hb dL_law_1383 (by decide) h (fun h => ?_) (fun h => ?_)
  · refine lv_iload hx hb dL_law_1388 (lv_at hl 1 rfl) ?_
    refine q_if_ne (tgt := 1405) hx hb dL_law_1390 (by decide) h (fun h => ?_) (fun h => ?_)
    · refine lv_goto (tgt := 2355) hx hb dL_law_1405 (by decide) ?_
      exact q_fin h hk hw (lv_sub hl [2, 3, 4, 5, 6, 7] rfl) (lw_ccl (a := 2) (Nat.le_of_ble_eq_true rfl)) (lw_csl (a := 12) (Nat.le_of_ble_eq_true rfl))
    · refine lv_aload_n hx hb dL_law_1393 rfl (lv_at hl 5 rfl) ?_
      refine lv_iconst (v := 0) hx hb dL_law_1394 (by decide) ?_
      refine q_lald C0 hw dL_law_1395 ?_
      refine lv_iload hx hb dL_law_1396 (lv_at hl 0 rfl) ?_
      refine lv_i2l hx hb dL_law_1398 rfl ?_
      refine W.lcmp hx hb dL_law_1399 ?_
      refine q_if_eq (tgt := 1405) hx hb dL_law_1400 (by decide) h (fun h => ?_) (fun h => ?_)
      · refine lv_goto (tgt := 2355) hx hb dL_law_1405 (by decide) ?_
        exact q_fin h hk hw (lv_sub hl [2, 3, 4, 5, 6, 7] rfl) (lw_ccl (a := 2) (Nat.le_of_ble_eq_true rfl)) (lw_csl (a := 12) (Nat.le_of_ble_eq_true rfl))
      · exact q_no h
  · exact q_no h
def fL_case20 (F : Nat) (M : Mem) (x : XX) (s1 s2 s3 s4 s5 : Int32) : Option (Mem × XX) :=
    (q_bw (fL_counting F M x s1 s2) fun M1 x2 z3 =>
    q_lt (z3) fun z4 =>
    q_bn (fX6_counting F M1 s1 s2) fun M5 z6 =>
    q_lt (z6) fun z7 =>
    q_bn (fX6_thrown F M5) fun M8 z9 =>
    if z9 = z4 then
    (if z4 = (0 : Int32) then
    (if (lg_cmp (x2.1) (z7.toInt64)) = (0 : Int32) then
    (some (M8, x2))
    else
    (none))
    else
    (some (M8, x2)))
    else
    (none))
set_option maxHeartbeats 4000000 in
set_option maxRecDepth 100000 in
theorem wL_case20 {v5 s1 s2 s3 s4 s5 : Int32} {r : Mem × XX} {ce sl : Nat} (hst : l.stackTraces = false) (C0 : MX p l s m args meth c D cy ad cL_law RL 9 wsL_law ret) (hX : va_X b L xs s s.heap) (hbl : b < s.heap.size) (hbA : ¬ AA ad s.heap.size b) (hce : ce + 8 ≤ 603072) (hsl : sl + 48 ≤ 7211114) (hs1 : vp_in (v5 + 1) L ∧ xs (v5 + 1).toNatClampNeg = s1) (hs2 : vp_in (v5 + 2) L ∧ xs (v5 + 2).toNatClampNeg = s2) (hs3 : vp_in (v5 + 3) L ∧ xs (v5 + 3).toNatClampNeg = s3) (hs4 : vp_in (v5 + 4) L ∧ xs (v5 + 4).toNatClampNeg = s4) (hs5 : vp_in (v5 + 5) L ∧ xs (v5 + 5).toNatClampNeg = s5)
    (hk : ∀ (H : Heap) (locs : List Loc) (ls : Array Slot), Wd D cy ad r.2 s r.1 H locs → lv_has ls 9 [(0, .ref b), (1, .ref (ad 0)), (2, .ref (ad 427)), (3, .ref (ad 453)), (4, .ref (ad 454)), (5, .int v5)] → W p l e room_1 s m args below meth c H locs (ce + 8) (sl + 48) Q (F0 m 2355 ls []))
    (hw : Wd D cy ad x s M H locs) (hl : lv_has ls 9 [(0, .ref b), (1, .ref (ad 0)), (2, .ref (ad 427)), (3, .ref (ad 453)), (4, .ref (ad 454)), (5, .int v5)]) (h : fL_case20 F M x s1 s2 s3 s4 s5 = some r) : W p l e room_1 s m args below meth c H locs ce sl Q (F0 m 1408 ls []) := by
  obtain ⟨hx, hb, hml, hown, hts, -⟩ := id C0
  unfold fL_case20 at h
  refine lv_aload_n hx hb dL_law_1408 rfl (lv_at hl 1 rfl) ?_
  refine lv_aload_n hx hb dL_law_1409 rfl (lv_at hl 0 rfl) ?_
  refine lv_iload hx hb dL_law_1410 (lv_at hl 5 rfl) ?_
  refine lv_iconst (v := 1) hx hb dL_law_1412 (by decide) ?_
  refine lv_iadd hx hb dL_law_1413 ?_
  refine q_sld C0 hX hbl hbA hw hs1 dL_law_1414 ?_
  refine lv_aload_n hx hb dL_law_1415 rfl (lv_at hl 0 rfl) ?_
  refine lv_iload hx hb dL_law_1416 (lv_at hl 5 rfl) ?_
  refine lv_iconst (v := 2) hx hb dL_law_1418 (by decide) ?_
  refine lv_iadd hx hb dL_law_1419 ?_
  refine q_sld C0 hX hbl hbA hw hs2 dL_law_1420 ?_
  refine lv_aload_n hx hb dL_law_1421 rfl (lv_at hl 3 rfl) ?_
  refine q_callSW (As := [.ref (ad 0), .int s1, .int s2, .ref (ad 453)]) (nA := 4) C0 hw (fun r1 h1 => ctL_counting hst h1) gL_law_L_counting rfl ⟨rfl, rfl⟩ (by decide +kernel) rfl ⟨(Nat.le_of_ble_eq_true rfl), (Nat.le_of_ble_eq_true rfl)⟩ hl.1 (Nat.le_of_ble_eq_true rfl) ⟨lw_rm (a := 3) hce (Nat.le_of_ble_eq_true rfl), lw_rs (a := 18) hsl (Nat.le_of_ble_eq_true rfl)⟩ rfl h dL_law_1422 (fun M1 x2 z3 H locs hw h => ?_)
  refine q_istore (lv' := fun z4 => [(6, .int z4), (0, .ref b), (1, .ref (ad 0)), (2, .ref (ad 427)), (3, .ref (ad 453)), (4, .ref (ad 454)), (5, .int v5)]) hx hb dL_law_1425 hl (by decide) (fun _ => rfl) h (fun z4 ls hl h => ?_)
  refine lv_aload_n hx hb dL_law_1427 rfl (lv_at hl 3 rfl) ?_
  refine lv_aload_n hx hb dL_law_1428 rfl (lv_at hl 1 rfl) ?_
  refine lv_iload hx hb dL_law_1429 (lv_at hl 6 rfl) ?_
  refine lv_iconst (v := 1) hx hb dL_law_1431 (by decide) ?_
  refine lv_iadd hx hb dL_law_1432 ?_
  refine q_sld C0 hX hbl hbA hw hs1 dL_law_1433 ?_
  refine lv_aload_n hx hb dL_law_1434 rfl (lv_at hl 1 rfl) ?_
  refine lv_iload hx hb dL_law_1435 (lv_at hl 6 rfl) ?_
  refine lv_iconst (v := 2) hx hb dL_law_1437 (by decide) ?_
  refine lv_iadd hx hb dL_law_1438 ?_
  refine q_sld C0 hX hbl hbA hw hs2 dL_law_1439 ?_
  refine q_callVNi (As := [.int s1, .int s2]) (nA := 2) C0 hw at_Mod rfl (fun r1 h1 => ctX6_counting hst h1) gL_law_X6_counting rfl ⟨rfl, rfl⟩ (by decide +kernel) rfl ⟨(Nat.le_of_ble_eq_true rfl), (Nat.le_of_ble_eq_true rfl)⟩ hl.1 (Nat.le_of_ble_eq_true rfl) ⟨lw_rm (a := 3) hce (Nat.le_of_ble_eq_true rfl), lw_rs (a := 18) hsl (Nat.le_of_ble_eq_true rfl)⟩ rfl h dL_law_1440 (fun M5 z6 H locs hw h => ?_)
  refine q_istore (lv' := fun z7 => [(7, .int z7), (6, .int z4), (0, .ref b), (1, .ref (ad 0)), (2, .ref (ad 427)), (3, .ref (ad 453)), (4, .ref (ad 454)), (5, .int v5)]) hx hb dL_law_1443 hl (by decide) (fun _ => rfl) h (fun z7 ls hl h => ?_)
  refine lv_aload_n hx hb dL_law_1445 rfl (lv_at hl 4 rfl) ?_
  refine q_callVNi (As := []) (nA := 0) C0 hw at_Mod rfl (fun r1 h1 => ctX6_thrown hst h1) gL_law_X6_thrown rfl ⟨rfl, rfl⟩ (by decide +kernel) rfl ⟨(Nat.le_of_ble_eq_true rfl), (Nat.le_of_ble_eq_true rfl)⟩ hl.1 (Nat.le_of_ble_eq_true rfl) ⟨lw_rm (a := 3) hce (Nat.le_of_ble_eq_true rfl), lw_rs (a := 18) hsl (Nat.le_of_ble_eq_true rfl)⟩ rfl h dL_law_1446 (fun M8 z9 H locs hw h => ?_)
  refine lv_iload hx hb dL_law_1449 (lv_at hl 1 rfl) ?_
  refine q_icmp_eq (tgt := 1456) hx hb dL_law_1451 (by decide) h (fun h => ?_) (fun h => ?_)
  · refine lv_iload hx hb dL_law_1456 (lv_at hl 1 rfl) ?_
    refine q_if_ne (tgt := 1473) hx hb dL_law_1458 (by decide) h (fun h => ?_) (fun h => ?_)
    · refine lv_goto (tgt := 2355) hx hb dL_law_1473 (by decide) ?_
      exact q_fin h hk hw (lv_sub hl [2, 3, 4, 5, 6, 7] rfl) (lw_ccl (a := 3) (Nat.le_of_ble_eq_true rfl)) (lw_csl (a := 18) (Nat.le_of_ble_eq_true rfl))
    · refine lv_aload_n hx hb dL_law_1461 rfl (lv_at hl 5 rfl) ?_
      refine lv_iconst (v := 0) hx hb dL_law_1462 (by decide) ?_
      refine q_lald C0 hw dL_law_1463 ?_
      refine lv_iload hx hb dL_law_1464 (lv_at hl 0 rfl) ?_
      refine lv_i2l hx hb dL_law_1466 rfl ?_
      refine W.lcmp hx hb dL_law_1467 ?_
      refine q_if_eq (tgt := 1473) hx hb dL_law_1468 (by decide) h (fun h => ?_) (fun h => ?_)
      · refine lv_goto (tgt := 2355) hx hb dL_law_1473 (by decide) ?_
        exact q_fin h hk hw (lv_sub hl [2, 3, 4, 5, 6, 7] rfl) (lw_ccl (a := 3) (Nat.le_of_ble_eq_true rfl)) (lw_csl (a := 18) (Nat.le_of_ble_eq_true rfl))
      · exact q_no h
  · exact q_no h
def fL_case21 (F : Nat) (M : Mem) (x : XX) (s1 s2 s3 s4 s5 : Int32) : Option (Mem × XX) :=
    (q_bw (fL_mark F M x s1 s2) fun M1 x2 z3 =>
    q_lt (z3) fun z4 =>
    q_bn (fX6_mark F M1 s1 s2) fun M5 z6 =>
    q_lt (z6) fun z7 =>
    q_bn (fX6_thrown F M5) fun M8 z9 =>
    if z9 = z4 then
    (if z4 = (0 : Int32) then
    (if (lg_cmp (x2.1) (z7.toInt64)) = (0 : Int32) then
    (some (M8, x2))
    else
    (none))
    else
    (some (M8, x2)))
    else
    (none))
set_option maxHeartbeats 4000000 in
set_option maxRecDepth 100000 in
theorem wL_case21 {v5 s1 s2 s3 s4 s5 : Int32} {r : Mem × XX} {ce sl : Nat} (hst : l.stackTraces = false) (C0 : MX p l s m args meth c D cy ad cL_law RL 9 wsL_law ret) (hX : va_X b L xs s s.heap) (hbl : b < s.heap.size) (hbA : ¬ AA ad s.heap.size b) (hce : ce + 8 ≤ 603072) (hsl : sl + 48 ≤ 7211114) (hs1 : vp_in (v5 + 1) L ∧ xs (v5 + 1).toNatClampNeg = s1) (hs2 : vp_in (v5 + 2) L ∧ xs (v5 + 2).toNatClampNeg = s2) (hs3 : vp_in (v5 + 3) L ∧ xs (v5 + 3).toNatClampNeg = s3) (hs4 : vp_in (v5 + 4) L ∧ xs (v5 + 4).toNatClampNeg = s4) (hs5 : vp_in (v5 + 5) L ∧ xs (v5 + 5).toNatClampNeg = s5)
    (hk : ∀ (H : Heap) (locs : List Loc) (ls : Array Slot), Wd D cy ad r.2 s r.1 H locs → lv_has ls 9 [(0, .ref b), (1, .ref (ad 0)), (2, .ref (ad 427)), (3, .ref (ad 453)), (4, .ref (ad 454)), (5, .int v5)] → W p l e room_1 s m args below meth c H locs (ce + 8) (sl + 48) Q (F0 m 2355 ls []))
    (hw : Wd D cy ad x s M H locs) (hl : lv_has ls 9 [(0, .ref b), (1, .ref (ad 0)), (2, .ref (ad 427)), (3, .ref (ad 453)), (4, .ref (ad 454)), (5, .int v5)]) (h : fL_case21 F M x s1 s2 s3 s4 s5 = some r) : W p l e room_1 s m args below meth c H locs ce sl Q (F0 m 1476 ls []) := by
  obtain ⟨hx, hb, hml, hown, hts, -⟩ := id C0
  unfold fL_case21 at h
  refine lv_aload_n hx hb dL_law_1476 rfl (lv_at hl 1 rfl) ?_
  refine lv_aload_n hx hb dL_law_1477 rfl (lv_at hl 0 rfl) ?_
  refine lv_iload hx hb dL_law_1478 (lv_at hl 5 rfl) ?_
  refine lv_iconst (v := 1) hx hb dL_law_1480 (by decide) ?_
  refine lv_iadd hx hb dL_law_1481 ?_
  refine q_sld C0 hX hbl hbA hw hs1 dL_law_1482 ?_
  refine lv_aload_n hx hb dL_law_1483 rfl (lv_at hl 0 rfl) ?_
  refine lv_iload hx hb dL_law_1484 (lv_at hl 5 rfl) ?_
  refine lv_iconst (v := 2) hx hb dL_law_1486 (by decide) ?_
  refine lv_iadd hx hb dL_law_1487 ?_
  refine q_sld C0 hX hbl hbA hw hs2 dL_law_1488 ?_
  refine lv_aload_n hx hb dL_law_1489 rfl (lv_at hl 3 rfl) ?_
  refine q_callSW (As := [.ref (ad 0), .int s1, .int s2, .ref (ad 453)]) (nA := 4) C0 hw (fun r1 h1 => ctL_mark hst h1) gL_law_L_mark rfl ⟨rfl, rfl⟩ (by decide +kernel) rfl ⟨(Nat.le_of_ble_eq_true rfl), (Nat.le_of_ble_eq_true rfl)⟩ hl.1 (Nat.le_of_ble_eq_true rfl) ⟨lw_rm (a := 3) hce (Nat.le_of_ble_eq_true rfl), lw_rs (a := 18) hsl (Nat.le_of_ble_eq_true rfl)⟩ rfl h dL_law_1490 (fun M1 x2 z3 H locs hw h => ?_)
  refine q_istore (lv' := fun z4 => [(6, .int z4), (0, .ref b), (1, .ref (ad 0)), (2, .ref (ad 427)), (3, .ref (ad 453)), (4, .ref (ad 454)), (5, .int v5)]) hx hb dL_law_1493 hl (by decide) (fun _ => rfl) h (fun z4 ls hl h => ?_)
  refine lv_aload_n hx hb dL_law_1495 rfl (lv_at hl 3 rfl) ?_
  refine lv_aload_n hx hb dL_law_1496 rfl (lv_at hl 1 rfl) ?_
  refine lv_iload hx hb dL_law_1497 (lv_at hl 6 rfl) ?_
  refine lv_iconst (v := 1) hx hb dL_law_1499 (by decide) ?_
  refine lv_iadd hx hb dL_law_1500 ?_
  refine q_sld C0 hX hbl hbA hw hs1 dL_law_1501 ?_
  refine lv_aload_n hx hb dL_law_1502 rfl (lv_at hl 1 rfl) ?_
  refine lv_iload hx hb dL_law_1503 (lv_at hl 6 rfl) ?_
  refine lv_iconst (v := 2) hx hb dL_law_1505 (by decide) ?_
  refine lv_iadd hx hb dL_law_1506 ?_
  refine q_sld C0 hX hbl hbA hw hs2 dL_law_1507 ?_
  refine q_callVNi (As := [.int s1, .int s2]) (nA := 2) C0 hw at_Mod rfl (fun r1 h1 => ctX6_mark hst h1) gL_law_X6_mark rfl ⟨rfl, rfl⟩ (by decide +kernel) rfl ⟨(Nat.le_of_ble_eq_true rfl), (Nat.le_of_ble_eq_true rfl)⟩ hl.1 (Nat.le_of_ble_eq_true rfl) ⟨lw_rm (a := 3) hce (Nat.le_of_ble_eq_true rfl), lw_rs (a := 18) hsl (Nat.le_of_ble_eq_true rfl)⟩ rfl h dL_law_1508 (fun M5 z6 H locs hw h => ?_)
  refine q_istore (lv' := fun z7 => [(7, .int z7), (6, .int z4), (0, .ref b), (1, .ref (ad 0)), (2, .ref (ad 427)), (3, .ref (ad 453)), (4, .ref (ad 454)), (5, .int v5)]) hx hb dL_law_1511 hl (by decide) (fun _ => rfl) h (fun z7 ls hl h => ?_)
  refine lv_aload_n hx hb dL_law_1513 rfl (lv_at hl 4 rfl) ?_
  refine q_callVNi (As := []) (nA := 0) C0 hw at_Mod rfl (fun r1 h1 => ctX6_thrown hst h1) gL_law_X6_thrown rfl ⟨rfl, rfl⟩ (by decide +kernel) rfl ⟨(Nat.le_of_ble_eq_true rfl), (Nat.le_of_ble_eq_true rfl)⟩ hl.1 (Nat.le_of_ble_eq_true rfl) ⟨lw_rm (a := 3) hce (Nat.le_of_ble_eq_true rfl), lw_rs (a := 18) hsl (Nat.le_of_ble_eq_true rfl)⟩ rfl h dL_law_1514 (fun M8 z9 H locs hw h => ?_)
  refine lv_iload hx hb dL_law_1517 (lv_at hl 1 rfl) ?_
  refine q_icmp_eq (tgt := 1524) hx hb dL_law_1519 (by decide) h (fun h => ?_) (fun h => ?_)
  · refine lv_iload hx hb dL_law_1524 (lv_at hl 1 rfl) ?_
    refine q_if_ne (tgt := 1541) hx hb dL_law_1526 (by decide) h (fun h => ?_) (fun h => ?_)
    · refine lv_goto (tgt := 2355) hx hb dL_law_1541 (by decide) ?_
      exact q_fin h hk hw (lv_sub hl [2, 3, 4, 5, 6, 7] rfl) (lw_ccl (a := 3) (Nat.le_of_ble_eq_true rfl)) (lw_csl (a := 18) (Nat.le_of_ble_eq_true rfl))
    · refine lv_aload_n hx hb dL_law_1529 rfl (lv_at hl 5 rfl) ?_
      refine lv_iconst (v := 0) hx hb dL_law_1530 (by decide) ?_
      refine q_lald C0 hw dL_law_1531 ?_
      refine lv_iload hx hb dL_law_1532 (lv_at hl 0 rfl) ?_
      refine lv_i2l hx hb dL_law_1534 rfl ?_
      refine W.lcmp hx hb dL_law_1535 ?_
      refine q_if_eq (tgt := 1541) hx hb dL_law_1536 (by decide) h (fun h => ?_) (fun h => ?_)
      · refine lv_goto (tgt := 2355) hx hb dL_law_1541 (by decide) ?_
        exact q_fin h hk hw (lv_sub hl [2, 3, 4, 5, 6, 7] rfl) (lw_ccl (a := 3) (Nat.le_of_ble_eq_true rfl)) (lw_csl (a := 18) (Nat.le_of_ble_eq_true rfl))
      · exact q_no h
  · exact q_no h
def fL_case22 (F : Nat) (M : Mem) (x : XX) (s1 s2 s3 s4 s5 : Int32) : Option (Mem × XX) :=
    (q_bw (fL_isFrozen F M x s1 s2) fun M1 x2 z3 =>
    q_lt (z3) fun z4 =>
    q_bn (fX6_isFrozen F M1 s1 s2) fun M5 z6 =>
    q_lt (z6) fun z7 =>
    q_bn (fX6_thrown F M5) fun M8 z9 =>
    if z9 = z4 then
    (if z4 = (0 : Int32) then
    (if z7 = (0 : Int32) then
    (if (lg_cmp (x2.1) (0 : Int64)) = (0 : Int32) then
    (some (M8, x2))
    else
    (none))
    else
    (if (lg_cmp (x2.1) (1 : Int64)) = (0 : Int32) then
    (some (M8, x2))
    else
    (none)))
    else
    (some (M8, x2)))
    else
    (none))
set_option maxHeartbeats 4000000 in
set_option maxRecDepth 100000 in
theorem wL_case22 {v5 s1 s2 s3 s4 s5 : Int32} {r : Mem × XX} {ce sl : Nat} (hst : l.stackTraces = false) (C0 : MX p l s m args meth c D cy ad cL_law RL 9 wsL_law ret) (hX : va_X b L xs s s.heap) (hbl : b < s.heap.size) (hbA : ¬ AA ad s.heap.size b) (hce : ce + 8 ≤ 603072) (hsl : sl + 48 ≤ 7211114) (hs1 : vp_in (v5 + 1) L ∧ xs (v5 + 1).toNatClampNeg = s1) (hs2 : vp_in (v5 + 2) L ∧ xs (v5 + 2).toNatClampNeg = s2) (hs3 : vp_in (v5 + 3) L ∧ xs (v5 + 3).toNatClampNeg = s3) (hs4 : vp_in (v5 + 4) L ∧ xs (v5 + 4).toNatClampNeg = s4) (hs5 : vp_in (v5 + 5) L ∧ xs (v5 + 5).toNatClampNeg = s5)
    (hk : ∀ (H : Heap) (locs : List Loc) (ls : Array Slot), Wd D cy ad r.2 s r.1 H locs → lv_has ls 9 [(0, .ref b), (1, .ref (ad 0)), (2, .ref (ad 427)), (3, .ref (ad 453)), (4, .ref (ad 454)), (5, .int v5)] → W p l e room_1 s m args below meth c H locs (ce + 8) (sl + 48) Q (F0 m 2355 ls []))
    (hw : Wd D cy ad x s M H locs) (hl : lv_has ls 9 [(0, .ref b), (1, .ref (ad 0)), (2, .ref (ad 427)), (3, .ref (ad 453)), (4, .ref (ad 454)), (5, .int v5)]) (h : fL_case22 F M x s1 s2 s3 s4 s5 = some r) : W p l e room_1 s m args below meth c H locs ce sl Q (F0 m 1544 ls []) := by
  obtain ⟨hx, hb, hml, hown, hts, -⟩ := id C0
  unfold fL_case22 at h
  refine lv_aload_n hx hb dL_law_1544 rfl (lv_at hl 1 rfl) ?_
  refine lv_aload_n hx hb dL_law_1545 rfl (lv_at hl 0 rfl) ?_
  refine lv_iload hx hb dL_law_1546 (lv_at hl 5 rfl) ?_
  refine lv_iconst (v := 1) hx hb dL_law_1548 (by decide) ?_
  refine lv_iadd hx hb dL_law_1549 ?_
  refine q_sld C0 hX hbl hbA hw hs1 dL_law_1550 ?_
  refine lv_aload_n hx hb dL_law_1551 rfl (lv_at hl 0 rfl) ?_
  refine lv_iload hx hb dL_law_1552 (lv_at hl 5 rfl) ?_
  refine lv_iconst (v := 2) hx hb dL_law_1554 (by decide) ?_
  refine lv_iadd hx hb dL_law_1555 ?_
  refine q_sld C0 hX hbl hbA hw hs2 dL_law_1556 ?_
  refine lv_aload_n hx hb dL_law_1557 rfl (lv_at hl 3 rfl) ?_
  refine q_callSW (As := [.ref (ad 0), .int s1, .int s2, .ref (ad 453)]) (nA := 4) C0 hw (fun r1 h1 => ctL_isFrozen hst h1) gL_law_L_isFrozen rfl ⟨rfl, rfl⟩ (by decide +kernel) rfl ⟨(Nat.le_of_ble_eq_true rfl), (Nat.le_of_ble_eq_true rfl)⟩ hl.1 (Nat.le_of_ble_eq_true rfl) ⟨lw_rm (a := 2) hce (Nat.le_of_ble_eq_true rfl), lw_rs (a := 12) hsl (Nat.le_of_ble_eq_true rfl)⟩ rfl h dL_law_1558 (fun M1 x2 z3 H locs hw h => ?_)
  refine q_istore (lv' := fun z4 => [(6, .int z4), (0, .ref b), (1, .ref (ad 0)), (2, .ref (ad 427)), (3, .ref (ad 453)), (4, .ref (ad 454)), (5, .int v5)]) hx hb dL_law_1561 hl (by decide) (fun _ => rfl) h (fun z4 ls hl h => ?_)
  refine lv_aload_n hx hb dL_law_1563 rfl (lv_at hl 3 rfl) ?_
  refine lv_aload_n hx hb dL_law_1564 rfl (lv_at hl 1 rfl) ?_
  refine lv_iload hx hb dL_law_1565 (lv_at hl 6 rfl) ?_
  refine lv_iconst (v := 1) hx hb dL_law_1567 (by decide) ?_
  refine lv_iadd hx hb dL_law_1568 ?_
  refine q_sld C0 hX hbl hbA hw hs1 dL_law_1569 ?_
  refine lv_aload_n hx hb dL_law_1570 rfl (lv_at hl 1 rfl) ?_
  refine lv_iload hx hb dL_law_1571 (lv_at hl 6 rfl) ?_
  refine lv_iconst (v := 2) hx hb dL_law_1573 (by decide) ?_
  refine lv_iadd hx hb dL_law_1574 ?_
  refine q_sld C0 hX hbl hbA hw hs2 dL_law_1575 ?_
  refine q_callVNi (As := [.int s1, .int s2]) (nA := 2) C0 hw at_Mod rfl (fun r1 h1 => ctX6_isFrozen hst h1) gL_law_X6_isFrozen rfl ⟨rfl, rfl⟩ (by decide +kernel) rfl ⟨(Nat.le_of_ble_eq_true rfl), (Nat.le_of_ble_eq_true rfl)⟩ hl.1 (Nat.le_of_ble_eq_true rfl) ⟨lw_rm (a := 2) hce (Nat.le_of_ble_eq_true rfl), lw_rs (a := 12) hsl (Nat.le_of_ble_eq_true rfl)⟩ rfl h dL_law_1576 (fun M5 z6 H locs hw h => ?_)
  refine q_istore (lv' := fun z7 => [(7, .int z7), (6, .int z4), (0, .ref b), (1, .ref (ad 0)), (2, .ref (ad 427)), (3, .ref (ad 453)), (4, .ref (ad 454)), (5, .int v5)]) hx hb dL_law_1579 hl (by decide) (fun _ => rfl) h (fun z7 ls hl h => ?_)
  refine lv_aload_n hx hb dL_law_1581 rfl (lv_at hl 4 rfl) ?_
  refine q_callVNi (As := []) (nA := 0) C0 hw at_Mod rfl (fun r1 h1 => ctX6_thrown hst h1) gL_law_X6_thrown rfl ⟨rfl, rfl⟩ (by decide +kernel) rfl ⟨(Nat.le_of_ble_eq_true rfl), (Nat.le_of_ble_eq_true rfl)⟩ hl.1 (Nat.le_of_ble_eq_true rfl) ⟨lw_rm (a := 2) hce (Nat.le_of_ble_eq_true rfl), lw_rs (a := 12) hsl (Nat.le_of_ble_eq_true rfl)⟩ rfl h dL_law_1582 (fun M8 z9 H locs hw h => ?_)
  refine lv_iload hx hb dL_law_1585 (lv_at hl 1 rfl) ?_
  refine q_icmp_eq (tgt := 1592) hx hb dL_law_1587 (by decide) h (fun h => ?_) (fun h => ?_)
  · refine lv_iload hx hb dL_law_1592 (lv_at hl 1 rfl) ?_
    refine q_if_ne (tgt := 1616) hx hb dL_law_1594 (by decide) h (fun h => ?_) (fun h => ?_)
    · refine lv_goto (tgt := 2355) hx hb dL_law_1616 (by decide) ?_
      exact q_fin h hk hw (lv_sub hl [2, 3, 4, 5, 6, 7] rfl) (lw_ccl (a := 2) (Nat.le_of_ble_eq_true rfl)) (lw_csl (a := 12) (Nat.le_of_ble_eq_true rfl))
    · refine lv_aload_n hx hb dL_law_1597 rfl (lv_at hl 5 rfl) ?_
      refine lv_iconst (v := 0) hx hb dL_law_1598 (by decide) ?_
      refine q_lald C0 hw dL_law_1599 ?_
      refine lv_iload hx hb dL_law_1600 (lv_at hl 0 rfl) ?_
      refine q_if_eq (tgt := 1609) hx hb dL_law_1602 (by decide) h (fun h => ?_) (fun h => ?_)
      · refine lv_lconst (v := 0) hx hb dL_law_1609 rfl ?_
        refine W.lcmp hx hb dL_law_1610 ?_
        refine q_if_eq (tgt := 1616) hx hb dL_law_1611 (by decide) h (fun h => ?_) (fun h => ?_)
        · refine lv_goto (tgt := 2355) hx hb dL_law_1616 (by decide) ?_
          exact q_fin h hk hw (lv_sub hl [2, 3, 4, 5, 6, 7] rfl) (lw_ccl (a := 2) (Nat.le_of_ble_eq_true rfl)) (lw_csl (a := 12) (Nat.le_of_ble_eq_true rfl))
        · exact q_no h
      · refine lv_lconst (v := 1) hx hb dL_law_1605 rfl ?_
        refine lv_goto (tgt := 1610) hx hb dL_law_1606 (by decide) ?_
        refine W.lcmp hx hb dL_law_1610 ?_
        refine q_if_eq (tgt := 1616) hx hb dL_law_1611 (by decide) h (fun h => ?_) (fun h => ?_)
        · refine lv_goto (tgt := 2355) hx hb dL_law_1616 (by decide) ?_
          exact q_fin h hk hw (lv_sub hl [2, 3, 4, 5, 6, 7] rfl) (lw_ccl (a := 2) (Nat.le_of_ble_eq_true rfl)) (lw_csl (a := 12) (Nat.le_of_ble_eq_true rfl))
        · exact q_no h
  · exact q_no h
def fL_case23 (F : Nat) (M : Mem) (x : XX) (s1 s2 s3 s4 s5 : Int32) : Option (Mem × XX) :=
    (q_bw (fL_shared F M x s1 s2) fun M1 x2 z3 =>
    q_lt (z3) fun z4 =>
    q_bn (fX6_shared F M1 s1 s2) fun M5 z6 =>
    q_lt (z6) fun z7 =>
    q_bn (fX6_thrown F M5) fun M8 z9 =>
    if z9 = z4 then
    (if z4 = (0 : Int32) then
    (if (lg_cmp (x2.1) (z7.toInt64)) = (0 : Int32) then
    (some (M8, x2))
    else
    (none))
    else
    (some (M8, x2)))
    else
    (none))
set_option maxHeartbeats 4000000 in
set_option maxRecDepth 100000 in
theorem wL_case23 {v5 s1 s2 s3 s4 s5 : Int32} {r : Mem × XX} {ce sl : Nat} (hst : l.stackTraces = false) (C0 : MX p l s m args meth c D cy ad cL_law RL 9 wsL_law ret) (hX : va_X b L xs s s.heap) (hbl : b < s.heap.size) (hbA : ¬ AA ad s.heap.size b) (hce : ce + 8 ≤ 603072) (hsl : sl + 48 ≤ 7211114) (hs1 : vp_in (v5 + 1) L ∧ xs (v5 + 1).toNatClampNeg = s1) (hs2 : vp_in (v5 + 2) L ∧ xs (v5 + 2).toNatClampNeg = s2) (hs3 : vp_in (v5 + 3) L ∧ xs (v5 + 3).toNatClampNeg = s3) (hs4 : vp_in (v5 + 4) L ∧ xs (v5 + 4).toNatClampNeg = s4) (hs5 : vp_in (v5 + 5) L ∧ xs (v5 + 5).toNatClampNeg = s5)
    (hk : ∀ (H : Heap) (locs : List Loc) (ls : Array Slot), Wd D cy ad r.2 s r.1 H locs → lv_has ls 9 [(0, .ref b), (1, .ref (ad 0)), (2, .ref (ad 427)), (3, .ref (ad 453)), (4, .ref (ad 454)), (5, .int v5)] → W p l e room_1 s m args below meth c H locs (ce + 8) (sl + 48) Q (F0 m 2355 ls []))
    (hw : Wd D cy ad x s M H locs) (hl : lv_has ls 9 [(0, .ref b), (1, .ref (ad 0)), (2, .ref (ad 427)), (3, .ref (ad 453)), (4, .ref (ad 454)), (5, .int v5)]) (h : fL_case23 F M x s1 s2 s3 s4 s5 = some r) : W p l e room_1 s m args below meth c H locs ce sl Q (F0 m 1619 ls []) := by
  obtain ⟨hx, hb, hml, hown, hts, -⟩ := id C0
  unfold fL_case23 at h
  refine lv_aload_n hx hb dL_law_1619 rfl (lv_at hl 1 rfl) ?_
  refine lv_aload_n hx hb dL_law_1620 rfl (lv_at hl 0 rfl) ?_
  refine lv_iload hx hb dL_law_1621 (lv_at hl 5 rfl) ?_
  refine lv_iconst (v := 1) hx hb dL_law_1623 (by decide) ?_
  refine lv_iadd hx hb dL_law_1624 ?_
  refine q_sld C0 hX hbl hbA hw hs1 dL_law_1625 ?_
  refine lv_aload_n hx hb dL_law_1626 rfl (lv_at hl 0 rfl) ?_
  refine lv_iload hx hb dL_law_1627 (lv_at hl 5 rfl) ?_
  refine lv_iconst (v := 2) hx hb dL_law_1629 (by decide) ?_
  refine lv_iadd hx hb dL_law_1630 ?_
  refine q_sld C0 hX hbl hbA hw hs2 dL_law_1631 ?_
  refine lv_aload_n hx hb dL_law_1632 rfl (lv_at hl 3 rfl) ?_
  refine q_callSW (As := [.ref (ad 0), .int s1, .int s2, .ref (ad 453)]) (nA := 4) C0 hw (fun r1 h1 => ctL_shared hst h1) gL_law_L_shared rfl ⟨rfl, rfl⟩ (by decide +kernel) rfl ⟨(Nat.le_of_ble_eq_true rfl), (Nat.le_of_ble_eq_true rfl)⟩ hl.1 (Nat.le_of_ble_eq_true rfl) ⟨lw_rm (a := 2) hce (Nat.le_of_ble_eq_true rfl), lw_rs (a := 12) hsl (Nat.le_of_ble_eq_true rfl)⟩ rfl h dL_law_1633 (fun M1 x2 z3 H locs hw h => ?_)
  refine q_istore (lv' := fun z4 => [(6, .int z4), (0, .ref b), (1, .ref (ad 0)), (2, .ref (ad 427)), (3, .ref (ad 453)), (4, .ref (ad 454)), (5, .int v5)]) hx hb dL_law_1636 hl (by decide) (fun _ => rfl) h (fun z4 ls hl h => ?_)
  refine lv_aload_n hx hb dL_law_1638 rfl (lv_at hl 3 rfl) ?_
  refine lv_aload_n hx hb dL_law_1639 rfl (lv_at hl 1 rfl) ?_
  refine lv_iload hx hb dL_law_1640 (lv_at hl 6 rfl) ?_
  refine lv_iconst (v := 1) hx hb dL_law_1642 (by decide) ?_
  refine lv_iadd hx hb dL_law_1643 ?_
  refine q_sld C0 hX hbl hbA hw hs1 dL_law_1644 ?_
  refine lv_aload_n hx hb dL_law_1645 rfl (lv_at hl 1 rfl) ?_
  refine lv_iload hx hb dL_law_1646 (lv_at hl 6 rfl) ?_
  refine lv_iconst (v := 2) hx hb dL_law_1648 (by decide) ?_
  refine lv_iadd hx hb dL_law_1649 ?_
  refine q_sld C0 hX hbl hbA hw hs2 dL_law_1650 ?_
  refine q_callVNi (As := [.int s1, .int s2]) (nA := 2) C0 hw at_Mod rfl (fun r1 h1 => ctX6_shared hst h1) gL_law_X6_shared rfl ⟨rfl, rfl⟩ (by decide +kernel) rfl ⟨(Nat.le_of_ble_eq_true rfl), (Nat.le_of_ble_eq_true rfl)⟩ hl.1 (Nat.le_of_ble_eq_true rfl) ⟨lw_rm (a := 2) hce (Nat.le_of_ble_eq_true rfl), lw_rs (a := 12) hsl (Nat.le_of_ble_eq_true rfl)⟩ rfl h dL_law_1651 (fun M5 z6 H locs hw h => ?_)
  refine q_istore (lv' := fun z7 => [(7, .int z7), (6, .int z4), (0, .ref b), (1, .ref (ad 0)), (2, .ref (ad 427)), (3, .ref (ad 453)), (4, .ref (ad 454)), (5, .int v5)]) hx hb dL_law_1654 hl (by decide) (fun _ => rfl) h (fun z7 ls hl h => ?_)
  refine lv_aload_n hx hb dL_law_1656 rfl (lv_at hl 4 rfl) ?_
  refine q_callVNi (As := []) (nA := 0) C0 hw at_Mod rfl (fun r1 h1 => ctX6_thrown hst h1) gL_law_X6_thrown rfl ⟨rfl, rfl⟩ (by decide +kernel) rfl ⟨(Nat.le_of_ble_eq_true rfl), (Nat.le_of_ble_eq_true rfl)⟩ hl.1 (Nat.le_of_ble_eq_true rfl) ⟨lw_rm (a := 2) hce (Nat.le_of_ble_eq_true rfl), lw_rs (a := 12) hsl (Nat.le_of_ble_eq_true rfl)⟩ rfl h dL_law_1657 (fun M8 z9 H locs hw h => ?_)
  refine lv_iload hx hb dL_law_1660 (lv_at hl 1 rfl) ?_
  refine q_icmp_eq (tgt := 1667) hx hb dL_law_1662 (by decide) h (fun h => ?_) (fun h => ?_)
  · refine lv_iload hx hb dL_law_1667 (lv_at hl 1 rfl) ?_
    refine q_if_ne (tgt := 1684) hx hb dL_law_1669 (by decide) h (fun h => ?_) (fun h => ?_)
    · refine lv_goto (tgt := 2355) hx hb dL_law_1684 (by decide) ?_
      exact q_fin h hk hw (lv_sub hl [2, 3, 4, 5, 6, 7] rfl) (lw_ccl (a := 2) (Nat.le_of_ble_eq_true rfl)) (lw_csl (a := 12) (Nat.le_of_ble_eq_true rfl))
    · refine lv_aload_n hx hb dL_law_1672 rfl (lv_at hl 5 rfl) ?_
      refine lv_iconst (v := 0) hx hb dL_law_1673 (by decide) ?_
      refine q_lald C0 hw dL_law_1674 ?_
      refine lv_iload hx hb dL_law_1675 (lv_at hl 0 rfl) ?_
      refine lv_i2l hx hb dL_law_1677 rfl ?_
      refine W.lcmp hx hb dL_law_1678 ?_
      refine q_if_eq (tgt := 1684) hx hb dL_law_1679 (by decide) h (fun h => ?_) (fun h => ?_)
      · refine lv_goto (tgt := 2355) hx hb dL_law_1684 (by decide) ?_
        exact q_fin h hk hw (lv_sub hl [2, 3, 4, 5, 6, 7] rfl) (lw_ccl (a := 2) (Nat.le_of_ble_eq_true rfl)) (lw_csl (a := 12) (Nat.le_of_ble_eq_true rfl))
      · exact q_no h
  · exact q_no h
def fL_case24 (F : Nat) (M : Mem) (x : XX) (s1 s2 s3 s4 s5 : Int32) : Option (Mem × XX) :=
    (q_bw (fL_shingle F M x s1 s2) fun M1 x2 z3 =>
    q_lt (z3) fun z4 =>
    q_bn (fX6_shingle F M1 s1 s2) fun M5 z6 =>
    q_lt (z6) fun z7 =>
    q_bn (fX6_thrown F M5) fun M8 z9 =>
    if z9 = z4 then
    (if z4 = (0 : Int32) then
    (if (lg_cmp (x2.1) (z7.toInt64)) = (0 : Int32) then
    (some (M8, x2))
    else
    (none))
    else
    (some (M8, x2)))
    else
    (none))
set_option maxHeartbeats 4000000 in
set_option maxRecDepth 100000 in
theorem wL_case24 {v5 s1 s2 s3 s4 s5 : Int32} {r : Mem × XX} {ce sl : Nat} (hst : l.stackTraces = false) (C0 : MX p l s m args meth c D cy ad cL_law RL 9 wsL_law ret) (hX : va_X b L xs s s.heap) (hbl : b < s.heap.size) (hbA : ¬ AA ad s.heap.size b) (hce : ce + 8 ≤ 603072) (hsl : sl + 48 ≤ 7211114) (hs1 : vp_in (v5 + 1) L ∧ xs (v5 + 1).toNatClampNeg = s1) (hs2 : vp_in (v5 + 2) L ∧ xs (v5 + 2).toNatClampNeg = s2) (hs3 : vp_in (v5 + 3) L ∧ xs (v5 + 3).toNatClampNeg = s3) (hs4 : vp_in (v5 + 4) L ∧ xs (v5 + 4).toNatClampNeg = s4) (hs5 : vp_in (v5 + 5) L ∧ xs (v5 + 5).toNatClampNeg = s5)
    (hk : ∀ (H : Heap) (locs : List Loc) (ls : Array Slot), Wd D cy ad r.2 s r.1 H locs → lv_has ls 9 [(0, .ref b), (1, .ref (ad 0)), (2, .ref (ad 427)), (3, .ref (ad 453)), (4, .ref (ad 454)), (5, .int v5)] → W p l e room_1 s m args below meth c H locs (ce + 8) (sl + 48) Q (F0 m 2355 ls []))
    (hw : Wd D cy ad x s M H locs) (hl : lv_has ls 9 [(0, .ref b), (1, .ref (ad 0)), (2, .ref (ad 427)), (3, .ref (ad 453)), (4, .ref (ad 454)), (5, .int v5)]) (h : fL_case24 F M x s1 s2 s3 s4 s5 = some r) : W p l e room_1 s m args below meth c H locs ce sl Q (F0 m 1687 ls []) := by
  obtain ⟨hx, hb, hml, hown, hts, -⟩ := id C0
  unfold fL_case24 at h
  refine lv_aload_n hx hb dL_law_1687 rfl (lv_at hl 1 rfl) ?_
  refine lv_aload_n hx hb dL_law_1688 rfl (lv_at hl 0 rfl) ?_
  refine lv_iload hx hb dL_law_1689 (lv_at hl 5 rfl) ?_
  refine lv_iconst (v := 1) hx hb dL_law_1691 (by decide) ?_
  refine lv_iadd hx hb dL_law_1692 ?_
  refine q_sld C0 hX hbl hbA hw hs1 dL_law_1693 ?_
  refine lv_aload_n hx hb dL_law_1694 rfl (lv_at hl 0 rfl) ?_
  refine lv_iload hx hb dL_law_1695 (lv_at hl 5 rfl) ?_
  refine lv_iconst (v := 2) hx hb dL_law_1697 (by decide) ?_
  refine lv_iadd hx hb dL_law_1698 ?_
  refine q_sld C0 hX hbl hbA hw hs2 dL_law_1699 ?_
  refine lv_aload_n hx hb dL_law_1700 rfl (lv_at hl 3 rfl) ?_
  refine q_callSW (As := [.ref (ad 0), .int s1, .int s2, .ref (ad 453)]) (nA := 4) C0 hw (fun r1 h1 => ctL_shingle hst h1) gL_law_L_shingle rfl ⟨rfl, rfl⟩ (by decide +kernel) rfl ⟨(Nat.le_of_ble_eq_true rfl), (Nat.le_of_ble_eq_true rfl)⟩ hl.1 (Nat.le_of_ble_eq_true rfl) ⟨lw_rm (a := 2) hce (Nat.le_of_ble_eq_true rfl), lw_rs (a := 12) hsl (Nat.le_of_ble_eq_true rfl)⟩ rfl h dL_law_1701 (fun M1 x2 z3 H locs hw h => ?_)
  refine q_istore (lv' := fun z4 => [(6, .int z4), (0, .ref b), (1, .ref (ad 0)), (2, .ref (ad 427)), (3, .ref (ad 453)), (4, .ref (ad 454)), (5, .int v5)]) hx hb dL_law_1704 hl (by decide) (fun _ => rfl) h (fun z4 ls hl h => ?_)
  refine lv_aload_n hx hb dL_law_1706 rfl (lv_at hl 3 rfl) ?_
  refine lv_aload_n hx hb dL_law_1707 rfl (lv_at hl 1 rfl) ?_
  refine lv_iload hx hb dL_law_1708 (lv_at hl 6 rfl) ?_
  refine lv_iconst (v := 1) hx hb dL_law_1710 (by decide) ?_
  refine lv_iadd hx hb dL_law_1711 ?_
  refine q_sld C0 hX hbl hbA hw hs1 dL_law_1712 ?_
  refine lv_aload_n hx hb dL_law_1713 rfl (lv_at hl 1 rfl) ?_
  refine lv_iload hx hb dL_law_1714 (lv_at hl 6 rfl) ?_
  refine lv_iconst (v := 2) hx hb dL_law_1716 (by decide) ?_
  refine lv_iadd hx hb dL_law_1717 ?_
  refine q_sld C0 hX hbl hbA hw hs2 dL_law_1718 ?_
  refine q_callVNi (As := [.int s1, .int s2]) (nA := 2) C0 hw at_Mod rfl (fun r1 h1 => ctX6_shingle hst h1) gL_law_X6_shingle rfl ⟨rfl, rfl⟩ (by decide +kernel) rfl ⟨(Nat.le_of_ble_eq_true rfl), (Nat.le_of_ble_eq_true rfl)⟩ hl.1 (Nat.le_of_ble_eq_true rfl) ⟨lw_rm (a := 2) hce (Nat.le_of_ble_eq_true rfl), lw_rs (a := 12) hsl (Nat.le_of_ble_eq_true rfl)⟩ rfl h dL_law_1719 (fun M5 z6 H locs hw h => ?_)
  refine q_istore (lv' := fun z7 => [(7, .int z7), (6, .int z4), (0, .ref b), (1, .ref (ad 0)), (2, .ref (ad 427)), (3, .ref (ad 453)), (4, .ref (ad 454)), (5, .int v5)]) hx hb dL_law_1722 hl (by decide) (fun _ => rfl) h (fun z7 ls hl h => ?_)
  refine lv_aload_n hx hb dL_law_1724 rfl (lv_at hl 4 rfl) ?_
  refine q_callVNi (As := []) (nA := 0) C0 hw at_Mod rfl (fun r1 h1 => ctX6_thrown hst h1) gL_law_X6_thrown rfl ⟨rfl, rfl⟩ (by decide +kernel) rfl ⟨(Nat.le_of_ble_eq_true rfl), (Nat.le_of_ble_eq_true rfl)⟩ hl.1 (Nat.le_of_ble_eq_true rfl) ⟨lw_rm (a := 2) hce (Nat.le_of_ble_eq_true rfl), lw_rs (a := 12) hsl (Nat.le_of_ble_eq_true rfl)⟩ rfl h dL_law_1725 (fun M8 z9 H locs hw h => ?_)
  refine lv_iload hx hb dL_law_1728 (lv_at hl 1 rfl) ?_
  refine q_icmp_eq (tgt := 1735) hx hb dL_law_1730 (by decide) h (fun h => ?_) (fun h => ?_)
  · refine lv_iload hx hb dL_law_1735 (lv_at hl 1 rfl) ?_
    refine q_if_ne (tgt := 1752) hx hb dL_law_1737 (by decide) h (fun h => ?_) (fun h => ?_)
    · refine lv_goto (tgt := 2355) hx hb dL_law_1752 (by decide) ?_
      exact q_fin h hk hw (lv_sub hl [2, 3, 4, 5, 6, 7] rfl) (lw_ccl (a := 2) (Nat.le_of_ble_eq_true rfl)) (lw_csl (a := 12) (Nat.le_of_ble_eq_true rfl))
    · refine lv_aload_n hx hb dL_law_1740 rfl (lv_at hl 5 rfl) ?_
      refine lv_iconst (v := 0) hx hb dL_law_1741 (by decide) ?_
      refine q_lald C0 hw dL_law_1742 ?_
      refine lv_iload hx hb dL_law_1743 (lv_at hl 0 rfl) ?_
      refine lv_i2l hx hb dL_law_1745 rfl ?_
      refine W.lcmp hx hb dL_law_1746 ?_
      refine q_if_eq (tgt := 1752) hx hb dL_law_1747 (by decide) h (fun h => ?_) (fun h => ?_)
      · refine lv_goto (tgt := 2355) hx hb dL_law_1752 (by decide) ?_
        exact q_fin h hk hw (lv_sub hl [2, 3, 4, 5, 6, 7] rfl) (lw_ccl (a := 2) (Nat.le_of_ble_eq_true rfl)) (lw_csl (a := 12) (Nat.le_of_ble_eq_true rfl))
      · exact q_no h
  · exact q_no h
def fL_case25 (F : Nat) (M : Mem) (x : XX) (s1 s2 s3 s4 s5 : Int32) : Option (Mem × XX) :=
    (q_bn (fX5_indexed F M) fun M1 z2 =>
    q_bn (fX6_indexed F M1) fun M3 z4 =>
    if z2 = z4 then
    (some (M3, x))
    else
    (none))
set_option maxHeartbeats 4000000 in
set_option maxRecDepth 100000 in
theorem wL_case25 {v5 s1 s2 s3 s4 s5 : Int32} {r : Mem × XX} {ce sl : Nat} (hst : l.stackTraces = false) (C0 : MX p l s m args meth c D cy ad cL_law RL 9 wsL_law ret) (hX : va_X b L xs s s.heap) (hbl : b < s.heap.size) (hbA : ¬ AA ad s.heap.size b) (hce : ce + 8 ≤ 603072) (hsl : sl + 48 ≤ 7211114) (hs1 : vp_in (v5 + 1) L ∧ xs (v5 + 1).toNatClampNeg = s1) (hs2 : vp_in (v5 + 2) L ∧ xs (v5 + 2).toNatClampNeg = s2) (hs3 : vp_in (v5 + 3) L ∧ xs (v5 + 3).toNatClampNeg = s3) (hs4 : vp_in (v5 + 4) L ∧ xs (v5 + 4).toNatClampNeg = s4) (hs5 : vp_in (v5 + 5) L ∧ xs (v5 + 5).toNatClampNeg = s5)
    (hk : ∀ (H : Heap) (locs : List Loc) (ls : Array Slot), Wd D cy ad r.2 s r.1 H locs → lv_has ls 9 [(0, .ref b), (1, .ref (ad 0)), (2, .ref (ad 427)), (3, .ref (ad 453)), (4, .ref (ad 454)), (5, .int v5)] → W p l e room_1 s m args below meth c H locs (ce + 8) (sl + 48) Q (F0 m 2355 ls []))
    (hw : Wd D cy ad x s M H locs) (hl : lv_has ls 9 [(0, .ref b), (1, .ref (ad 0)), (2, .ref (ad 427)), (3, .ref (ad 453)), (4, .ref (ad 454)), (5, .int v5)]) (h : fL_case25 F M x s1 s2 s3 s4 s5 = some r) : W p l e room_1 s m args below meth c H locs ce sl Q (F0 m 1755 ls []) := by
  obtain ⟨hx, hb, hml, hown, hts, -⟩ := id C0
  unfold fL_case25 at h
  refine lv_aload_n hx hb dL_law_1755 rfl (lv_at hl 1 rfl) ?_
  refine q_callVNi (As := []) (nA := 0) C0 hw at_HW rfl (fun r1 h1 => ctX5_indexed hst h1) gL_law_X5_indexed rfl ⟨rfl, rfl⟩ (by decide +kernel) rfl ⟨(Nat.le_of_ble_eq_true rfl), (Nat.le_of_ble_eq_true rfl)⟩ hl.1 (Nat.le_of_ble_eq_true rfl) ⟨lw_rm (a := 0) hce (Nat.le_of_ble_eq_true rfl), lw_rs (a := 0) hsl (Nat.le_of_ble_eq_true rfl)⟩ rfl h dL_law_1756 (fun M1 z2 H locs hw h => ?_)
  refine lv_aload_n hx hb dL_law_1759 rfl (lv_at hl 2 rfl) ?_
  refine q_callVNi (As := []) (nA := 0) C0 hw at_Mod rfl (fun r1 h1 => ctX6_indexed hst h1) gL_law_X6_indexed rfl ⟨rfl, rfl⟩ (by decide +kernel) rfl ⟨(Nat.le_of_ble_eq_true rfl), (Nat.le_of_ble_eq_true rfl)⟩ hl.1 (Nat.le_of_ble_eq_true rfl) ⟨lw_rm (a := 0) hce (Nat.le_of_ble_eq_true rfl), lw_rs (a := 0) hsl (Nat.le_of_ble_eq_true rfl)⟩ rfl h dL_law_1760 (fun M3 z4 H locs hw h => ?_)
  refine q_icmp_eq (tgt := 2355) hx hb dL_law_1763 (by decide) h (fun h => ?_) (fun h => ?_)
  · exact q_fin h hk hw (lv_sub hl [0, 1, 2, 3, 4, 5] rfl) (lw_ccl (a := 0) (Nat.le_of_ble_eq_true rfl)) (lw_csl (a := 0) (Nat.le_of_ble_eq_true rfl))
  · exact q_no h
def fL_case26 (F : Nat) (M : Mem) (x : XX) (s1 s2 s3 s4 s5 : Int32) : Option (Mem × XX) :=
    (q_bn (fX5_holders F M s1) fun M1 z2 =>
    q_bn (fX6_holders F M1 s1) fun M3 z4 =>
    if z2 = z4 then
    (some (M3, x))
    else
    (none))
set_option maxHeartbeats 4000000 in
set_option maxRecDepth 100000 in
theorem wL_case26 {v5 s1 s2 s3 s4 s5 : Int32} {r : Mem × XX} {ce sl : Nat} (hst : l.stackTraces = false) (C0 : MX p l s m args meth c D cy ad cL_law RL 9 wsL_law ret) (hX : va_X b L xs s s.heap) (hbl : b < s.heap.size) (hbA : ¬ AA ad s.heap.size b) (hce : ce + 8 ≤ 603072) (hsl : sl + 48 ≤ 7211114) (hs1 : vp_in (v5 + 1) L ∧ xs (v5 + 1).toNatClampNeg = s1) (hs2 : vp_in (v5 + 2) L ∧ xs (v5 + 2).toNatClampNeg = s2) (hs3 : vp_in (v5 + 3) L ∧ xs (v5 + 3).toNatClampNeg = s3) (hs4 : vp_in (v5 + 4) L ∧ xs (v5 + 4).toNatClampNeg = s4) (hs5 : vp_in (v5 + 5) L ∧ xs (v5 + 5).toNatClampNeg = s5)
    (hk : ∀ (H : Heap) (locs : List Loc) (ls : Array Slot), Wd D cy ad r.2 s r.1 H locs → lv_has ls 9 [(0, .ref b), (1, .ref (ad 0)), (2, .ref (ad 427)), (3, .ref (ad 453)), (4, .ref (ad 454)), (5, .int v5)] → W p l e room_1 s m args below meth c H locs (ce + 8) (sl + 48) Q (F0 m 2355 ls []))
    (hw : Wd D cy ad x s M H locs) (hl : lv_has ls 9 [(0, .ref b), (1, .ref (ad 0)), (2, .ref (ad 427)), (3, .ref (ad 453)), (4, .ref (ad 454)), (5, .int v5)]) (h : fL_case26 F M x s1 s2 s3 s4 s5 = some r) : W p l e room_1 s m args below meth c H locs ce sl Q (F0 m 1768 ls []) := by
  obtain ⟨hx, hb, hml, hown, hts, -⟩ := id C0
  unfold fL_case26 at h
  refine lv_aload_n hx hb dL_law_1768 rfl (lv_at hl 1 rfl) ?_
  refine lv_aload_n hx hb dL_law_1769 rfl (lv_at hl 0 rfl) ?_
  refine lv_iload hx hb dL_law_1770 (lv_at hl 5 rfl) ?_
  refine lv_iconst (v := 1) hx hb dL_law_1772 (by decide) ?_
  refine lv_iadd hx hb dL_law_1773 ?_
  refine q_sld C0 hX hbl hbA hw hs1 dL_law_1774 ?_
  refine q_callVNi (As := [.int s1]) (nA := 1) C0 hw at_HW rfl (fun r1 h1 => ctX5_holders hst h1) gL_law_X5_holders rfl ⟨rfl, rfl⟩ (by decide +kernel) rfl ⟨(Nat.le_of_ble_eq_true rfl), (Nat.le_of_ble_eq_true rfl)⟩ hl.1 (Nat.le_of_ble_eq_true rfl) ⟨lw_rm (a := 0) hce (Nat.le_of_ble_eq_true rfl), lw_rs (a := 0) hsl (Nat.le_of_ble_eq_true rfl)⟩ rfl h dL_law_1775 (fun M1 z2 H locs hw h => ?_)
  refine lv_aload_n hx hb dL_law_1778 rfl (lv_at hl 2 rfl) ?_
  refine lv_aload_n hx hb dL_law_1779 rfl (lv_at hl 0 rfl) ?_
  refine lv_iload hx hb dL_law_1780 (lv_at hl 5 rfl) ?_
  refine lv_iconst (v := 1) hx hb dL_law_1782 (by decide) ?_
  refine lv_iadd hx hb dL_law_1783 ?_
  refine q_sld C0 hX hbl hbA hw hs1 dL_law_1784 ?_
  refine q_callVNi (As := [.int s1]) (nA := 1) C0 hw at_Mod rfl (fun r1 h1 => ctX6_holders hst h1) gL_law_X6_holders rfl ⟨rfl, rfl⟩ (by decide +kernel) rfl ⟨(Nat.le_of_ble_eq_true rfl), (Nat.le_of_ble_eq_true rfl)⟩ hl.1 (Nat.le_of_ble_eq_true rfl) ⟨lw_rm (a := 0) hce (Nat.le_of_ble_eq_true rfl), lw_rs (a := 0) hsl (Nat.le_of_ble_eq_true rfl)⟩ rfl h dL_law_1785 (fun M3 z4 H locs hw h => ?_)
  refine q_icmp_eq (tgt := 2355) hx hb dL_law_1788 (by decide) h (fun h => ?_) (fun h => ?_)
  · exact q_fin h hk hw (lv_sub hl [0, 1, 2, 3, 4, 5] rfl) (lw_ccl (a := 0) (Nat.le_of_ble_eq_true rfl)) (lw_csl (a := 0) (Nat.le_of_ble_eq_true rfl))
  · exact q_no h
def fL_case27 (F : Nat) (M : Mem) (x : XX) (s1 s2 s3 s4 s5 : Int32) : Option (Mem × XX) :=
    (q_bw (fL_threshold F M x s1) fun M1 x2 z3 =>
    q_lt (z3) fun z4 =>
    q_bn (fX6_threshold F M1 s1) fun M5 z6 =>
    q_lt (z6) fun z7 =>
    q_bn (fX6_thrown F M5) fun M8 z9 =>
    if z9 = z4 then
    (if z4 = (0 : Int32) then
    (if (lg_cmp (x2.1) (z7.toInt64)) = (0 : Int32) then
    (some (M8, x2))
    else
    (none))
    else
    (some (M8, x2)))
    else
    (none))
set_option maxHeartbeats 4000000 in
set_option maxRecDepth 100000 in
theorem wL_case27 {v5 s1 s2 s3 s4 s5 : Int32} {r : Mem × XX} {ce sl : Nat} (hst : l.stackTraces = false) (C0 : MX p l s m args meth c D cy ad cL_law RL 9 wsL_law ret) (hX : va_X b L xs s s.heap) (hbl : b < s.heap.size) (hbA : ¬ AA ad s.heap.size b) (hce : ce + 8 ≤ 603072) (hsl : sl + 48 ≤ 7211114) (hs1 : vp_in (v5 + 1) L ∧ xs (v5 + 1).toNatClampNeg = s1) (hs2 : vp_in (v5 + 2) L ∧ xs (v5 + 2).toNatClampNeg = s2) (hs3 : vp_in (v5 + 3) L ∧ xs (v5 + 3).toNatClampNeg = s3) (hs4 : vp_in (v5 + 4) L ∧ xs (v5 + 4).toNatClampNeg = s4) (hs5 : vp_in (v5 + 5) L ∧ xs (v5 + 5).toNatClampNeg = s5)
    (hk : ∀ (H : Heap) (locs : List Loc) (ls : Array Slot), Wd D cy ad r.2 s r.1 H locs → lv_has ls 9 [(0, .ref b), (1, .ref (ad 0)), (2, .ref (ad 427)), (3, .ref (ad 453)), (4, .ref (ad 454)), (5, .int v5)] → W p l e room_1 s m args below meth c H locs (ce + 8) (sl + 48) Q (F0 m 2355 ls []))
    (hw : Wd D cy ad x s M H locs) (hl : lv_has ls 9 [(0, .ref b), (1, .ref (ad 0)), (2, .ref (ad 427)), (3, .ref (ad 453)), (4, .ref (ad 454)), (5, .int v5)]) (h : fL_case27 F M x s1 s2 s3 s4 s5 = some r) : W p l e room_1 s m args below meth c H locs ce sl Q (F0 m 1793 ls []) := by
  obtain ⟨hx, hb, hml, hown, hts, -⟩ := id C0
  unfold fL_case27 at h
  refine lv_aload_n hx hb dL_law_1793 rfl (lv_at hl 1 rfl) ?_
  refine lv_aload_n hx hb dL_law_1794 rfl (lv_at hl 0 rfl) ?_
  refine lv_iload hx hb dL_law_1795 (lv_at hl 5 rfl) ?_
  refine lv_iconst (v := 1) hx hb dL_law_1797 (by decide) ?_
  refine lv_iadd hx hb dL_law_1798 ?_
  refine q_sld C0 hX hbl hbA hw hs1 dL_law_1799 ?_
  refine lv_aload_n hx hb dL_law_1800 rfl (lv_at hl 3 rfl) ?_
  refine q_callSW (As := [.ref (ad 0), .int s1, .ref (ad 453)]) (nA := 3) C0 hw (fun r1 h1 => ctL_threshold hst h1) gL_law_L_threshold rfl ⟨rfl, rfl⟩ (by decide +kernel) rfl ⟨(Nat.le_of_ble_eq_true rfl), (Nat.le_of_ble_eq_true rfl)⟩ hl.1 (Nat.le_of_ble_eq_true rfl) ⟨lw_rm (a := 1) hce (Nat.le_of_ble_eq_true rfl), lw_rs (a := 6) hsl (Nat.le_of_ble_eq_true rfl)⟩ rfl h dL_law_1801 (fun M1 x2 z3 H locs hw h => ?_)
  refine q_istore (lv' := fun z4 => [(6, .int z4), (0, .ref b), (1, .ref (ad 0)), (2, .ref (ad 427)), (3, .ref (ad 453)), (4, .ref (ad 454)), (5, .int v5)]) hx hb dL_law_1804 hl (by decide) (fun _ => rfl) h (fun z4 ls hl h => ?_)
  refine lv_aload_n hx hb dL_law_1806 rfl (lv_at hl 3 rfl) ?_
  refine lv_aload_n hx hb dL_law_1807 rfl (lv_at hl 1 rfl) ?_
  refine lv_iload hx hb dL_law_1808 (lv_at hl 6 rfl) ?_
  refine lv_iconst (v := 1) hx hb dL_law_1810 (by decide) ?_
  refine lv_iadd hx hb dL_law_1811 ?_
  refine q_sld C0 hX hbl hbA hw hs1 dL_law_1812 ?_
  refine q_callVNi (As := [.int s1]) (nA := 1) C0 hw at_Mod rfl (fun r1 h1 => ctX6_threshold hst h1) gL_law_X6_threshold rfl ⟨rfl, rfl⟩ (by decide +kernel) rfl ⟨(Nat.le_of_ble_eq_true rfl), (Nat.le_of_ble_eq_true rfl)⟩ hl.1 (Nat.le_of_ble_eq_true rfl) ⟨lw_rm (a := 1) hce (Nat.le_of_ble_eq_true rfl), lw_rs (a := 6) hsl (Nat.le_of_ble_eq_true rfl)⟩ rfl h dL_law_1813 (fun M5 z6 H locs hw h => ?_)
  refine q_istore (lv' := fun z7 => [(7, .int z7), (6, .int z4), (0, .ref b), (1, .ref (ad 0)), (2, .ref (ad 427)), (3, .ref (ad 453)), (4, .ref (ad 454)), (5, .int v5)]) hx hb dL_law_1816 hl (by decide) (fun _ => rfl) h (fun z7 ls hl h => ?_)
  refine lv_aload_n hx hb dL_law_1818 rfl (lv_at hl 4 rfl) ?_
  refine q_callVNi (As := []) (nA := 0) C0 hw at_Mod rfl (fun r1 h1 => ctX6_thrown hst h1) gL_law_X6_thrown rfl ⟨rfl, rfl⟩ (by decide +kernel) rfl ⟨(Nat.le_of_ble_eq_true rfl), (Nat.le_of_ble_eq_true rfl)⟩ hl.1 (Nat.le_of_ble_eq_true rfl) ⟨lw_rm (a := 1) hce (Nat.le_of_ble_eq_true rfl), lw_rs (a := 6) hsl (Nat.le_of_ble_eq_true rfl)⟩ rfl h dL_law_1819 (fun M8 z9 H locs hw h => ?_)
  refine lv_iload hx hb dL_law_1822 (lv_at hl 1 rfl) ?_
  refine q_icmp_eq (tgt := 1829) hx hb dL_law_1824 (by decide) h (fun h => ?_) (fun h => ?_)
  · refine lv_iload hx hb dL_law_1829 (lv_at hl 1 rfl) ?_
    refine q_if_ne (tgt := 1846) hx hb dL_law_1831 (by decide) h (fun h => ?_) (fun h => ?_)
    · refine lv_goto (tgt := 2355) hx hb dL_law_1846 (by decide) ?_
      exact q_fin h hk hw (lv_sub hl [2, 3, 4, 5, 6, 7] rfl) (lw_ccl (a := 1) (Nat.le_of_ble_eq_true rfl)) (lw_csl (a := 6) (Nat.le_of_ble_eq_true rfl))
    · refine lv_aload_n hx hb dL_law_1834 rfl (lv_at hl 5 rfl) ?_
      refine lv_iconst (v := 0) hx hb dL_law_1835 (by decide) ?_
      refine q_lald C0 hw dL_law_1836 ?_
      refine lv_iload hx hb dL_law_1837 (lv_at hl 0 rfl) ?_
      refine lv_i2l hx hb dL_law_1839 rfl ?_
      refine W.lcmp hx hb dL_law_1840 ?_
      refine q_if_eq (tgt := 1846) hx hb dL_law_1841 (by decide) h (fun h => ?_) (fun h => ?_)
      · refine lv_goto (tgt := 2355) hx hb dL_law_1846 (by decide) ?_
        exact q_fin h hk hw (lv_sub hl [2, 3, 4, 5, 6, 7] rfl) (lw_ccl (a := 1) (Nat.le_of_ble_eq_true rfl)) (lw_csl (a := 6) (Nat.le_of_ble_eq_true rfl))
      · exact q_no h
  · exact q_no h
def fL_case28 (F : Nat) (M : Mem) (x : XX) (s1 s2 s3 s4 s5 : Int32) : Option (Mem × XX) :=
    (q_bn (fX5_hits F M) fun M1 z2 =>
    q_bn (fX6_hits F M1) fun M3 z4 =>
    if z2 = z4 then
    (some (M3, x))
    else
    (none))
set_option maxHeartbeats 4000000 in
set_option maxRecDepth 100000 in
theorem wL_case28 {v5 s1 s2 s3 s4 s5 : Int32} {r : Mem × XX} {ce sl : Nat} (hst : l.stackTraces = false) (C0 : MX p l s m args meth c D cy ad cL_law RL 9 wsL_law ret) (hX : va_X b L xs s s.heap) (hbl : b < s.heap.size) (hbA : ¬ AA ad s.heap.size b) (hce : ce + 8 ≤ 603072) (hsl : sl + 48 ≤ 7211114) (hs1 : vp_in (v5 + 1) L ∧ xs (v5 + 1).toNatClampNeg = s1) (hs2 : vp_in (v5 + 2) L ∧ xs (v5 + 2).toNatClampNeg = s2) (hs3 : vp_in (v5 + 3) L ∧ xs (v5 + 3).toNatClampNeg = s3) (hs4 : vp_in (v5 + 4) L ∧ xs (v5 + 4).toNatClampNeg = s4) (hs5 : vp_in (v5 + 5) L ∧ xs (v5 + 5).toNatClampNeg = s5)
    (hk : ∀ (H : Heap) (locs : List Loc) (ls : Array Slot), Wd D cy ad r.2 s r.1 H locs → lv_has ls 9 [(0, .ref b), (1, .ref (ad 0)), (2, .ref (ad 427)), (3, .ref (ad 453)), (4, .ref (ad 454)), (5, .int v5)] → W p l e room_1 s m args below meth c H locs (ce + 8) (sl + 48) Q (F0 m 2355 ls []))
    (hw : Wd D cy ad x s M H locs) (hl : lv_has ls 9 [(0, .ref b), (1, .ref (ad 0)), (2, .ref (ad 427)), (3, .ref (ad 453)), (4, .ref (ad 454)), (5, .int v5)]) (h : fL_case28 F M x s1 s2 s3 s4 s5 = some r) : W p l e room_1 s m args below meth c H locs ce sl Q (F0 m 1849 ls []) := by
  obtain ⟨hx, hb, hml, hown, hts, -⟩ := id C0
  unfold fL_case28 at h
  refine lv_aload_n hx hb dL_law_1849 rfl (lv_at hl 1 rfl) ?_
  refine q_callVNi (As := []) (nA := 0) C0 hw at_HW rfl (fun r1 h1 => ctX5_hits hst h1) gL_law_X5_hits rfl ⟨rfl, rfl⟩ (by decide +kernel) rfl ⟨(Nat.le_of_ble_eq_true rfl), (Nat.le_of_ble_eq_true rfl)⟩ hl.1 (Nat.le_of_ble_eq_true rfl) ⟨lw_rm (a := 0) hce (Nat.le_of_ble_eq_true rfl), lw_rs (a := 0) hsl (Nat.le_of_ble_eq_true rfl)⟩ rfl h dL_law_1850 (fun M1 z2 H locs hw h => ?_)
  refine lv_aload_n hx hb dL_law_1853 rfl (lv_at hl 2 rfl) ?_
  refine q_callVNi (As := []) (nA := 0) C0 hw at_Mod rfl (fun r1 h1 => ctX6_hits hst h1) gL_law_X6_hits rfl ⟨rfl, rfl⟩ (by decide +kernel) rfl ⟨(Nat.le_of_ble_eq_true rfl), (Nat.le_of_ble_eq_true rfl)⟩ hl.1 (Nat.le_of_ble_eq_true rfl) ⟨lw_rm (a := 0) hce (Nat.le_of_ble_eq_true rfl), lw_rs (a := 0) hsl (Nat.le_of_ble_eq_true rfl)⟩ rfl h dL_law_1854 (fun M3 z4 H locs hw h => ?_)
  refine q_icmp_eq (tgt := 2355) hx hb dL_law_1857 (by decide) h (fun h => ?_) (fun h => ?_)
  · exact q_fin h hk hw (lv_sub hl [0, 1, 2, 3, 4, 5] rfl) (lw_ccl (a := 0) (Nat.le_of_ble_eq_true rfl)) (lw_csl (a := 0) (Nat.le_of_ble_eq_true rfl))
  · exact q_no h
def fL_case29 (F : Nat) (M : Mem) (x : XX) (s1 s2 s3 s4 s5 : Int32) : Option (Mem × XX) :=
    (q_bw (fL_hit F M x s1 ((s2.toUInt32 % 65536).toInt32)) fun M1 x2 z3 =>
    q_lt (z3) fun z4 =>
    q_bn (fX6_hit F M1 s1 ((s2.toUInt32 % 65536).toInt32)) fun M5 z6 =>
    q_lt (z6) fun z7 =>
    q_bn (fX6_thrown F M5) fun M8 z9 =>
    if z9 = z4 then
    (if z4 = (0 : Int32) then
    (if (lg_cmp (x2.1) (z7.toInt64)) = (0 : Int32) then
    (some (M8, x2))
    else
    (none))
    else
    (some (M8, x2)))
    else
    (none))
set_option maxHeartbeats 4000000 in
set_option maxRecDepth 100000 in
theorem wL_case29 {v5 s1 s2 s3 s4 s5 : Int32} {r : Mem × XX} {ce sl : Nat} (hst : l.stackTraces = false) (C0 : MX p l s m args meth c D cy ad cL_law RL 9 wsL_law ret) (hX : va_X b L xs s s.heap) (hbl : b < s.heap.size) (hbA : ¬ AA ad s.heap.size b) (hce : ce + 8 ≤ 603072) (hsl : sl + 48 ≤ 7211114) (hs1 : vp_in (v5 + 1) L ∧ xs (v5 + 1).toNatClampNeg = s1) (hs2 : vp_in (v5 + 2) L ∧ xs (v5 + 2).toNatClampNeg = s2) (hs3 : vp_in (v5 + 3) L ∧ xs (v5 + 3).toNatClampNeg = s3) (hs4 : vp_in (v5 + 4) L ∧ xs (v5 + 4).toNatClampNeg = s4) (hs5 : vp_in (v5 + 5) L ∧ xs (v5 + 5).toNatClampNeg = s5)
    (hk : ∀ (H : Heap) (locs : List Loc) (ls : Array Slot), Wd D cy ad r.2 s r.1 H locs → lv_has ls 9 [(0, .ref b), (1, .ref (ad 0)), (2, .ref (ad 427)), (3, .ref (ad 453)), (4, .ref (ad 454)), (5, .int v5)] → W p l e room_1 s m args below meth c H locs (ce + 8) (sl + 48) Q (F0 m 2355 ls []))
    (hw : Wd D cy ad x s M H locs) (hl : lv_has ls 9 [(0, .ref b), (1, .ref (ad 0)), (2, .ref (ad 427)), (3, .ref (ad 453)), (4, .ref (ad 454)), (5, .int v5)]) (h : fL_case29 F M x s1 s2 s3 s4 s5 = some r) : W p l e room_1 s m args below meth c H locs ce sl Q (F0 m 1862 ls []) := by
  obtain ⟨hx, hb, hml, hown, hts, -⟩ := id C0
  unfold fL_case29 at h
  refine lv_aload_n hx hb dL_law_1862 rfl (lv_at hl 1 rfl) ?_
  refine lv_aload_n hx hb dL_law_1863 rfl (lv_at hl 0 rfl) ?_
  refine lv_iload hx hb dL_law_1864 (lv_at hl 5 rfl) ?_
  refine lv_iconst (v := 1) hx hb dL_law_1866 (by decide) ?_
  refine lv_iadd hx hb dL_law_1867 ?_
  refine q_sld C0 hX hbl hbA hw hs1 dL_law_1868 ?_
  refine lv_aload_n hx hb dL_law_1869 rfl (lv_at hl 0 rfl) ?_
  refine lv_iload hx hb dL_law_1870 (lv_at hl 5 rfl) ?_
  refine lv_iconst (v := 2) hx hb dL_law_1872 (by decide) ?_
  refine lv_iadd hx hb dL_law_1873 ?_
  refine q_sld C0 hX hbl hbA hw hs2 dL_law_1874 ?_
  refine lv_i2c hx hb dL_law_1875 rfl ?_
  refine lv_aload_n hx hb dL_law_1876 rfl (lv_at hl 3 rfl) ?_
  refine q_callSW (As := [.ref (ad 0), .int s1, .int ((s2.toUInt32 % 65536).toInt32), .ref (ad 453)]) (nA := 4) C0 hw (fun r1 h1 => ctL_hit hst h1) gL_law_L_hit rfl ⟨rfl, rfl⟩ (by decide +kernel) rfl ⟨(Nat.le_of_ble_eq_true rfl), (Nat.le_of_ble_eq_true rfl)⟩ hl.1 (Nat.le_of_ble_eq_true rfl) ⟨lw_rm (a := 2) hce (Nat.le_of_ble_eq_true rfl), lw_rs (a := 12) hsl (Nat.le_of_ble_eq_true rfl)⟩ rfl h dL_law_1877 (fun M1 x2 z3 H locs hw h => ?_)
  refine q_istore (lv' := fun z4 => [(6, .int z4), (0, .ref b), (1, .ref (ad 0)), (2, .ref (ad 427)), (3, .ref (ad 453)), (4, .ref (ad 454)), (5, .int v5)]) hx hb dL_law_1880 hl (by decide) (fun _ => rfl) h (fun z4 ls hl h => ?_)
  refine lv_aload_n hx hb dL_law_1882 rfl (lv_at hl 3 rfl) ?_
  refine lv_aload_n hx hb dL_law_1883 rfl (lv_at hl 1 rfl) ?_
  refine lv_iload hx hb dL_law_1884 (lv_at hl 6 rfl) ?_
  refine lv_iconst (v := 1) hx hb dL_law_1886 (by decide) ?_
  refine lv_iadd hx hb dL_law_1887 ?_
  refine q_sld C0 hX hbl hbA hw hs1 dL_law_1888 ?_
  refine lv_aload_n hx hb dL_law_1889 rfl (lv_at hl 1 rfl) ?_
  refine lv_iload hx hb dL_law_1890 (lv_at hl 6 rfl) ?_
  refine lv_iconst (v := 2) hx hb dL_law_1892 (by decide) ?_
  refine lv_iadd hx hb dL_law_1893 ?_
  refine q_sld C0 hX hbl hbA hw hs2 dL_law_1894 ?_
  refine lv_i2c hx hb dL_law_1895 rfl ?_
  refine q_callVNi (As := [.int s1, .int ((s2.toUInt32 % 65536).toInt32)]) (nA := 2) C0 hw at_Mod rfl (fun r1 h1 => ctX6_hit hst h1) gL_law_X6_hit rfl ⟨rfl, rfl⟩ (by decide +kernel) rfl ⟨(Nat.le_of_ble_eq_true rfl), (Nat.le_of_ble_eq_true rfl)⟩ hl.1 (Nat.le_of_ble_eq_true rfl) ⟨lw_rm (a := 2) hce (Nat.le_of_ble_eq_true rfl), lw_rs (a := 12) hsl (Nat.le_of_ble_eq_true rfl)⟩ rfl h dL_law_1896 (fun M5 z6 H locs hw h => ?_)
  refine q_istore (lv' := fun z7 => [(7, .int z7), (6, .int z4), (0, .ref b), (1, .ref (ad 0)), (2, .ref (ad 427)), (3, .ref (ad 453)), (4, .ref (ad 454)), (5, .int v5)]) hx hb dL_law_1899 hl (by decide) (fun _ => rfl) h (fun z7 ls hl h => ?_)
  refine lv_aload_n hx hb dL_law_1901 rfl (lv_at hl 4 rfl) ?_
  refine q_callVNi (As := []) (nA := 0) C0 hw at_Mod rfl (fun r1 h1 => ctX6_thrown hst h1) gL_law_X6_thrown rfl ⟨rfl, rfl⟩ (by decide +kernel) rfl ⟨(Nat.le_of_ble_eq_true rfl), (Nat.le_of_ble_eq_true rfl)⟩ hl.1 (Nat.le_of_ble_eq_true rfl) ⟨lw_rm (a := 2) hce (Nat.le_of_ble_eq_true rfl), lw_rs (a := 12) hsl (Nat.le_of_ble_eq_true rfl)⟩ rfl h dL_law_1902 (fun M8 z9 H locs hw h => ?_)
  refine lv_iload hx hb dL_law_1905 (lv_at hl 1 rfl) ?_
  refine q_icmp_eq (tgt := 1912) hx hb dL_law_1907 (by decide) h (fun h => ?_) (fun h => ?_)
  · refine lv_iload hx hb dL_law_1912 (lv_at hl 1 rfl) ?_
    refine q_if_ne (tgt := 1929) hx hb dL_law_1914 (by decide) h (fun h => ?_) (fun h => ?_)
    · refine lv_goto (tgt := 2355) hx hb dL_law_1929 (by decide) ?_
      exact q_fin h hk hw (lv_sub hl [2, 3, 4, 5, 6, 7] rfl) (lw_ccl (a := 2) (Nat.le_of_ble_eq_true rfl)) (lw_csl (a := 12) (Nat.le_of_ble_eq_true rfl))
    · refine lv_aload_n hx hb dL_law_1917 rfl (lv_at hl 5 rfl) ?_
      refine lv_iconst (v := 0) hx hb dL_law_1918 (by decide) ?_
      refine q_lald C0 hw dL_law_1919 ?_
      refine lv_iload hx hb dL_law_1920 (lv_at hl 0 rfl) ?_
      refine lv_i2l hx hb dL_law_1922 rfl ?_
      refine W.lcmp hx hb dL_law_1923 ?_
      refine q_if_eq (tgt := 1929) hx hb dL_law_1924 (by decide) h (fun h => ?_) (fun h => ?_)
      · refine lv_goto (tgt := 2355) hx hb dL_law_1929 (by decide) ?_
        exact q_fin h hk hw (lv_sub hl [2, 3, 4, 5, 6, 7] rfl) (lw_ccl (a := 2) (Nat.le_of_ble_eq_true rfl)) (lw_csl (a := 12) (Nat.le_of_ble_eq_true rfl))
      · exact q_no h
  · exact q_no h
def fL_case30 (F : Nat) (M : Mem) (x : XX) (s1 s2 s3 s4 s5 : Int32) : Option (Mem × XX) :=
    (q_bw (fL_hear F M x s1 s2) fun M1 x2 z3 =>
    q_lt (z3) fun z4 =>
    q_bn (fX6_hear F M1 s1 s2) fun M5 z6 =>
    q_lt (z6) fun z7 =>
    q_bn (fX6_thrown F M5) fun M8 z9 =>
    if z9 = z4 then
    (if z4 = (0 : Int32) then
    (if (lg_cmp (x2.1) (z7.toInt64)) = (0 : Int32) then
    (some (M8, x2))
    else
    (none))
    else
    (some (M8, x2)))
    else
    (none))
set_option maxHeartbeats 4000000 in
set_option maxRecDepth 100000 in
theorem wL_case30 {v5 s1 s2 s3 s4 s5 : Int32} {r : Mem × XX} {ce sl : Nat} (hst : l.stackTraces = false) (C0 : MX p l s m args meth c D cy ad cL_law RL 9 wsL_law ret) (hX : va_X b L xs s s.heap) (hbl : b < s.heap.size) (hbA : ¬ AA ad s.heap.size b) (hce : ce + 8 ≤ 603072) (hsl : sl + 48 ≤ 7211114) (hs1 : vp_in (v5 + 1) L ∧ xs (v5 + 1).toNatClampNeg = s1) (hs2 : vp_in (v5 + 2) L ∧ xs (v5 + 2).toNatClampNeg = s2) (hs3 : vp_in (v5 + 3) L ∧ xs (v5 + 3).toNatClampNeg = s3) (hs4 : vp_in (v5 + 4) L ∧ xs (v5 + 4).toNatClampNeg = s4) (hs5 : vp_in (v5 + 5) L ∧ xs (v5 + 5).toNatClampNeg = s5)
    (hk : ∀ (H : Heap) (locs : List Loc) (ls : Array Slot), Wd D cy ad r.2 s r.1 H locs → lv_has ls 9 [(0, .ref b), (1, .ref (ad 0)), (2, .ref (ad 427)), (3, .ref (ad 453)), (4, .ref (ad 454)), (5, .int v5)] → W p l e room_1 s m args below meth c H locs (ce + 8) (sl + 48) Q (F0 m 2355 ls []))
    (hw : Wd D cy ad x s M H locs) (hl : lv_has ls 9 [(0, .ref b), (1, .ref (ad 0)), (2, .ref (ad 427)), (3, .ref (ad 453)), (4, .ref (ad 454)), (5, .int v5)]) (h : fL_case30 F M x s1 s2 s3 s4 s5 = some r) : W p l e room_1 s m args below meth c H locs ce sl Q (F0 m 1932 ls []) := by
  obtain ⟨hx, hb, hml, hown, hts, -⟩ := id C0
  unfold fL_case30 at h
  refine lv_aload_n hx hb dL_law_1932 rfl (lv_at hl 1 rfl) ?_
  refine lv_aload_n hx hb dL_law_1933 rfl (lv_at hl 0 rfl) ?_
  refine lv_iload hx hb dL_law_1934 (lv_at hl 5 rfl) ?_
  refine lv_iconst (v := 1) hx hb dL_law_1936 (by decide) ?_
  refine lv_iadd hx hb dL_law_1937 ?_
  refine q_sld C0 hX hbl hbA hw hs1 dL_law_1938 ?_
  refine lv_aload_n hx hb dL_law_1939 rfl (lv_at hl 0 rfl) ?_
  refine lv_iload hx hb dL_law_1940 (lv_at hl 5 rfl) ?_
  refine lv_iconst (v := 2) hx hb dL_law_1942 (by decide) ?_
  refine lv_iadd hx hb dL_law_1943 ?_
  refine q_sld C0 hX hbl hbA hw hs2 dL_law_1944 ?_
  refine lv_aload_n hx hb dL_law_1945 rfl (lv_at hl 3 rfl) ?_
  refine q_callSW (As := [.ref (ad 0), .int s1, .int s2, .ref (ad 453)]) (nA := 4) C0 hw (fun r1 h1 => ctL_hear hst h1) gL_law_L_hear rfl ⟨rfl, rfl⟩ (by decide +kernel) rfl ⟨(Nat.le_of_ble_eq_true rfl), (Nat.le_of_ble_eq_true rfl)⟩ hl.1 (Nat.le_of_ble_eq_true rfl) ⟨lw_rm (a := 3) hce (Nat.le_of_ble_eq_true rfl), lw_rs (a := 18) hsl (Nat.le_of_ble_eq_true rfl)⟩ rfl h dL_law_1946 (fun M1 x2 z3 H locs hw h => ?_)
  refine q_istore (lv' := fun z4 => [(6, .int z4), (0, .ref b), (1, .ref (ad 0)), (2, .ref (ad 427)), (3, .ref (ad 453)), (4, .ref (ad 454)), (5, .int v5)]) hx hb dL_law_1949 hl (by decide) (fun _ => rfl) h (fun z4 ls hl h => ?_)
  refine lv_aload_n hx hb dL_law_1951 rfl (lv_at hl 3 rfl) ?_
  refine lv_aload_n hx hb dL_law_1952 rfl (lv_at hl 1 rfl) ?_
  refine lv_iload hx hb dL_law_1953 (lv_at hl 6 rfl) ?_
  refine lv_iconst (v := 1) hx hb dL_law_1955 (by decide) ?_
  refine lv_iadd hx hb dL_law_1956 ?_
  refine q_sld C0 hX hbl hbA hw hs1 dL_law_1957 ?_
  refine lv_aload_n hx hb dL_law_1958 rfl (lv_at hl 1 rfl) ?_
  refine lv_iload hx hb dL_law_1959 (lv_at hl 6 rfl) ?_
  refine lv_iconst (v := 2) hx hb dL_law_1961 (by decide) ?_
  refine lv_iadd hx hb dL_law_1962 ?_
  refine q_sld C0 hX hbl hbA hw hs2 dL_law_1963 ?_
  refine q_callVNi (As := [.int s1, .int s2]) (nA := 2) C0 hw at_Mod rfl (fun r1 h1 => ctX6_hear hst h1) gL_law_X6_hear rfl ⟨rfl, rfl⟩ (by decide +kernel) rfl ⟨(Nat.le_of_ble_eq_true rfl), (Nat.le_of_ble_eq_true rfl)⟩ hl.1 (Nat.le_of_ble_eq_true rfl) ⟨lw_rm (a := 3) hce (Nat.le_of_ble_eq_true rfl), lw_rs (a := 18) hsl (Nat.le_of_ble_eq_true rfl)⟩ rfl h dL_law_1964 (fun M5 z6 H locs hw h => ?_)
  refine q_istore (lv' := fun z7 => [(7, .int z7), (6, .int z4), (0, .ref b), (1, .ref (ad 0)), (2, .ref (ad 427)), (3, .ref (ad 453)), (4, .ref (ad 454)), (5, .int v5)]) hx hb dL_law_1967 hl (by decide) (fun _ => rfl) h (fun z7 ls hl h => ?_)
  refine lv_aload_n hx hb dL_law_1969 rfl (lv_at hl 4 rfl) ?_
  refine q_callVNi (As := []) (nA := 0) C0 hw at_Mod rfl (fun r1 h1 => ctX6_thrown hst h1) gL_law_X6_thrown rfl ⟨rfl, rfl⟩ (by decide +kernel) rfl ⟨(Nat.le_of_ble_eq_true rfl), (Nat.le_of_ble_eq_true rfl)⟩ hl.1 (Nat.le_of_ble_eq_true rfl) ⟨lw_rm (a := 3) hce (Nat.le_of_ble_eq_true rfl), lw_rs (a := 18) hsl (Nat.le_of_ble_eq_true rfl)⟩ rfl h dL_law_1970 (fun M8 z9 H locs hw h => ?_)
  refine lv_iload hx hb dL_law_1973 (lv_at hl 1 rfl) ?_
  refine q_icmp_eq (tgt := 1980) hx hb dL_law_1975 (by decide) h (fun h => ?_) (fun h => ?_)
  · refine lv_iload hx hb dL_law_1980 (lv_at hl 1 rfl) ?_
    refine q_if_ne (tgt := 1997) hx hb dL_law_1982 (by decide) h (fun h => ?_) (fun h => ?_)
    · refine lv_goto (tgt := 2355) hx hb dL_law_1997 (by decide) ?_
      exact q_fin h hk hw (lv_sub hl [2, 3, 4, 5, 6, 7] rfl) (lw_ccl (a := 3) (Nat.le_of_ble_eq_true rfl)) (lw_csl (a := 18) (Nat.le_of_ble_eq_true rfl))
    · refine lv_aload_n hx hb dL_law_1985 rfl (lv_at hl 5 rfl) ?_
      refine lv_iconst (v := 0) hx hb dL_law_1986 (by decide) ?_
      refine q_lald C0 hw dL_law_1987 ?_
      refine lv_iload hx hb dL_law_1988 (lv_at hl 0 rfl) ?_
      refine lv_i2l hx hb dL_law_1990 rfl ?_
      refine W.lcmp hx hb dL_law_1991 ?_
      refine q_if_eq (tgt := 1997) hx hb dL_law_1992 (by decide) h (fun h => ?_) (fun h => ?_)
      · refine lv_goto (tgt := 2355) hx hb dL_law_1997 (by decide) ?_
        exact q_fin h hk hw (lv_sub hl [2, 3, 4, 5, 6, 7] rfl) (lw_ccl (a := 3) (Nat.le_of_ble_eq_true rfl)) (lw_csl (a := 18) (Nat.le_of_ble_eq_true rfl))
      · exact q_no h
  · exact q_no h
def fL_case31 (F : Nat) (M : Mem) (x : XX) (s1 s2 s3 s4 s5 : Int32) : Option (Mem × XX) :=
    (q_bw (fL_next F M x) fun M1 x2 z3 =>
    q_lt (z3) fun z4 =>
    q_bn (fX6_next F M1) fun M5 z6 =>
    q_lt (z6) fun z7 =>
    q_bn (fX6_thrown F M5) fun M8 z9 =>
    if z9 = z4 then
    (if z4 = (0 : Int32) then
    (if (lg_cmp (x2.1) (z7.toInt64)) = (0 : Int32) then
    (some (M8, x2))
    else
    (none))
    else
    (some (M8, x2)))
    else
    (none))
set_option maxHeartbeats 4000000 in
set_option maxRecDepth 100000 in
theorem wL_case31 {v5 s1 s2 s3 s4 s5 : Int32} {r : Mem × XX} {ce sl : Nat} (hst : l.stackTraces = false) (C0 : MX p l s m args meth c D cy ad cL_law RL 9 wsL_law ret) (hX : va_X b L xs s s.heap) (hbl : b < s.heap.size) (hbA : ¬ AA ad s.heap.size b) (hce : ce + 8 ≤ 603072) (hsl : sl + 48 ≤ 7211114) (hs1 : vp_in (v5 + 1) L ∧ xs (v5 + 1).toNatClampNeg = s1) (hs2 : vp_in (v5 + 2) L ∧ xs (v5 + 2).toNatClampNeg = s2) (hs3 : vp_in (v5 + 3) L ∧ xs (v5 + 3).toNatClampNeg = s3) (hs4 : vp_in (v5 + 4) L ∧ xs (v5 + 4).toNatClampNeg = s4) (hs5 : vp_in (v5 + 5) L ∧ xs (v5 + 5).toNatClampNeg = s5)
    (hk : ∀ (H : Heap) (locs : List Loc) (ls : Array Slot), Wd D cy ad r.2 s r.1 H locs → lv_has ls 9 [(0, .ref b), (1, .ref (ad 0)), (2, .ref (ad 427)), (3, .ref (ad 453)), (4, .ref (ad 454)), (5, .int v5)] → W p l e room_1 s m args below meth c H locs (ce + 8) (sl + 48) Q (F0 m 2355 ls []))
    (hw : Wd D cy ad x s M H locs) (hl : lv_has ls 9 [(0, .ref b), (1, .ref (ad 0)), (2, .ref (ad 427)), (3, .ref (ad 453)), (4, .ref (ad 454)), (5, .int v5)]) (h : fL_case31 F M x s1 s2 s3 s4 s5 = some r) : W p l e room_1 s m args below meth c H locs ce sl Q (F0 m 2000 ls []) := by
  obtain ⟨hx, hb, hml, hown, hts, -⟩ := id C0
  unfold fL_case31 at h
  refine lv_aload_n hx hb dL_law_2000 rfl (lv_at hl 1 rfl) ?_
  refine lv_aload_n hx hb dL_law_2001 rfl (lv_at hl 3 rfl) ?_
  refine q_callSW (As := [.ref (ad 0), .ref (ad 453)]) (nA := 2) C0 hw (fun r1 h1 => ctL_next hst h1) gL_law_L_next rfl ⟨rfl, rfl⟩ (by decide +kernel) rfl ⟨(Nat.le_of_ble_eq_true rfl), (Nat.le_of_ble_eq_true rfl)⟩ hl.1 (Nat.le_of_ble_eq_true rfl) ⟨lw_rm (a := 1) hce (Nat.le_of_ble_eq_true rfl), lw_rs (a := 6) hsl (Nat.le_of_ble_eq_true rfl)⟩ rfl h dL_law_2002 (fun M1 x2 z3 H locs hw h => ?_)
  refine q_istore (lv' := fun z4 => [(6, .int z4), (0, .ref b), (1, .ref (ad 0)), (2, .ref (ad 427)), (3, .ref (ad 453)), (4, .ref (ad 454)), (5, .int v5)]) hx hb dL_law_2005 hl (by decide) (fun _ => rfl) h (fun z4 ls hl h => ?_)
  refine lv_aload_n hx hb dL_law_2007 rfl (lv_at hl 3 rfl) ?_
  refine q_callVNi (As := []) (nA := 0) C0 hw at_Mod rfl (fun r1 h1 => ctX6_next hst h1) gL_law_X6_next rfl ⟨rfl, rfl⟩ (by decide +kernel) rfl ⟨(Nat.le_of_ble_eq_true rfl), (Nat.le_of_ble_eq_true rfl)⟩ hl.1 (Nat.le_of_ble_eq_true rfl) ⟨lw_rm (a := 1) hce (Nat.le_of_ble_eq_true rfl), lw_rs (a := 6) hsl (Nat.le_of_ble_eq_true rfl)⟩ rfl h dL_law_2008 (fun M5 z6 H locs hw h => ?_)
  refine q_istore (lv' := fun z7 => [(7, .int z7), (6, .int z4), (0, .ref b), (1, .ref (ad 0)), (2, .ref (ad 427)), (3, .ref (ad 453)), (4, .ref (ad 454)), (5, .int v5)]) hx hb dL_law_2011 hl (by decide) (fun _ => rfl) h (fun z7 ls hl h => ?_)
  refine lv_aload_n hx hb dL_law_2013 rfl (lv_at hl 4 rfl) ?_
  refine q_callVNi (As := []) (nA := 0) C0 hw at_Mod rfl (fun r1 h1 => ctX6_thrown hst h1) gL_law_X6_thrown rfl ⟨rfl, rfl⟩ (by decide +kernel) rfl ⟨(Nat.le_of_ble_eq_true rfl), (Nat.le_of_ble_eq_true rfl)⟩ hl.1 (Nat.le_of_ble_eq_true rfl) ⟨lw_rm (a := 1) hce (Nat.le_of_ble_eq_true rfl), lw_rs (a := 6) hsl (Nat.le_of_ble_eq_true rfl)⟩ rfl h dL_law_2014 (fun M8 z9 H locs hw h => ?_)
  refine lv_iload hx hb dL_law_2017 (lv_at hl 1 rfl) ?_
  refine q_icmp_eq (tgt := 2024) hx hb dL_law_2019 (by decide) h (fun h => ?_) (fun h => ?_)
  · refine lv_iload hx hb dL_law_2024 (lv_at hl 1 rfl) ?_
    refine q_if_ne (tgt := 2041) hx hb dL_law_2026 (by decide) h (fun h => ?_) (fun h => ?_)
    · refine lv_goto (tgt := 2355) hx hb dL_law_2041 (by decide) ?_
      exact q_fin h hk hw (lv_sub hl [2, 3, 4, 5, 6, 7] rfl) (lw_ccl (a := 1) (Nat.le_of_ble_eq_true rfl)) (lw_csl (a := 6) (Nat.le_of_ble_eq_true rfl))
    · refine lv_aload_n hx hb dL_law_2029 rfl (lv_at hl 5 rfl) ?_
      refine lv_iconst (v := 0) hx hb dL_law_2030 (by decide) ?_
      refine q_lald C0 hw dL_law_2031 ?_
      refine lv_iload hx hb dL_law_2032 (lv_at hl 0 rfl) ?_
      refine lv_i2l hx hb dL_law_2034 rfl ?_
      refine W.lcmp hx hb dL_law_2035 ?_
      refine q_if_eq (tgt := 2041) hx hb dL_law_2036 (by decide) h (fun h => ?_) (fun h => ?_)
      · refine lv_goto (tgt := 2355) hx hb dL_law_2041 (by decide) ?_
        exact q_fin h hk hw (lv_sub hl [2, 3, 4, 5, 6, 7] rfl) (lw_ccl (a := 1) (Nat.le_of_ble_eq_true rfl)) (lw_csl (a := 6) (Nat.le_of_ble_eq_true rfl))
      · exact q_no h
  · exact q_no h
def fL_case32 (F : Nat) (M : Mem) (x : XX) (s1 s2 s3 s4 s5 : Int32) : Option (Mem × XX) :=
    (q_bw (fL_byteSum F M x s1) fun M1 x2 z3 =>
    q_lt (z3) fun z4 =>
    q_bn (fX6_byteSum F M1 s1) fun M5 z6 =>
    q_lt (z6) fun z7 =>
    q_bn (fX6_thrown F M5) fun M8 z9 =>
    if z9 = z4 then
    (if z4 = (0 : Int32) then
    (if (lg_cmp (x2.1) (z7.toInt64)) = (0 : Int32) then
    (some (M8, x2))
    else
    (none))
    else
    (some (M8, x2)))
    else
    (none))
set_option maxHeartbeats 4000000 in
set_option maxRecDepth 100000 in
theorem wL_case32 {v5 s1 s2 s3 s4 s5 : Int32} {r : Mem × XX} {ce sl : Nat} (hst : l.stackTraces = false) (C0 : MX p l s m args meth c D cy ad cL_law RL 9 wsL_law ret) (hX : va_X b L xs s s.heap) (hbl : b < s.heap.size) (hbA : ¬ AA ad s.heap.size b) (hce : ce + 8 ≤ 603072) (hsl : sl + 48 ≤ 7211114) (hs1 : vp_in (v5 + 1) L ∧ xs (v5 + 1).toNatClampNeg = s1) (hs2 : vp_in (v5 + 2) L ∧ xs (v5 + 2).toNatClampNeg = s2) (hs3 : vp_in (v5 + 3) L ∧ xs (v5 + 3).toNatClampNeg = s3) (hs4 : vp_in (v5 + 4) L ∧ xs (v5 + 4).toNatClampNeg = s4) (hs5 : vp_in (v5 + 5) L ∧ xs (v5 + 5).toNatClampNeg = s5)
    (hk : ∀ (H : Heap) (locs : List Loc) (ls : Array Slot), Wd D cy ad r.2 s r.1 H locs → lv_has ls 9 [(0, .ref b), (1, .ref (ad 0)), (2, .ref (ad 427)), (3, .ref (ad 453)), (4, .ref (ad 454)), (5, .int v5)] → W p l e room_1 s m args below meth c H locs (ce + 8) (sl + 48) Q (F0 m 2355 ls []))
    (hw : Wd D cy ad x s M H locs) (hl : lv_has ls 9 [(0, .ref b), (1, .ref (ad 0)), (2, .ref (ad 427)), (3, .ref (ad 453)), (4, .ref (ad 454)), (5, .int v5)]) (h : fL_case32 F M x s1 s2 s3 s4 s5 = some r) : W p l e room_1 s m args below meth c H locs ce sl Q (F0 m 2044 ls []) := by
  obtain ⟨hx, hb, hml, hown, hts, -⟩ := id C0
  unfold fL_case32 at h
  refine lv_aload_n hx hb dL_law_2044 rfl (lv_at hl 1 rfl) ?_
  refine lv_aload_n hx hb dL_law_2045 rfl (lv_at hl 0 rfl) ?_
  refine lv_iload hx hb dL_law_2046 (lv_at hl 5 rfl) ?_
  refine lv_iconst (v := 1) hx hb dL_law_2048 (by decide) ?_
  refine lv_iadd hx hb dL_law_2049 ?_
  refine q_sld C0 hX hbl hbA hw hs1 dL_law_2050 ?_
  refine lv_aload_n hx hb dL_law_2051 rfl (lv_at hl 3 rfl) ?_
  refine q_callSW (As := [.ref (ad 0), .int s1, .ref (ad 453)]) (nA := 3) C0 hw (fun r1 h1 => ctL_byteSum hst h1) gL_law_L_byteSum rfl ⟨rfl, rfl⟩ (by decide +kernel) rfl ⟨(Nat.le_of_ble_eq_true rfl), (Nat.le_of_ble_eq_true rfl)⟩ hl.1 (Nat.le_of_ble_eq_true rfl) ⟨lw_rm (a := 1) hce (Nat.le_of_ble_eq_true rfl), lw_rs (a := 6) hsl (Nat.le_of_ble_eq_true rfl)⟩ rfl h dL_law_2052 (fun M1 x2 z3 H locs hw h => ?_)
  refine q_istore (lv' := fun z4 => [(6, .int z4), (0, .ref b), (1, .ref (ad 0)), (2, .ref (ad 427)), (3, .ref (ad 453)), (4, .ref (ad 454)), (5, .int v5)]) hx hb dL_law_2055 hl (by decide) (fun _ => rfl) h (fun z4 ls hl h => ?_)
  refine lv_aload_n hx hb dL_law_2057 rfl (lv_at hl 3 rfl) ?_
  refine lv_aload_n hx hb dL_law_2058 rfl (lv_at hl 1 rfl) ?_
  refine lv_iload hx hb dL_law_2059 (lv_at hl 6 rfl) ?_
  refine lv_iconst (v := 1) hx hb dL_law_2061 (by decide) ?_
  refine lv_iadd hx hb dL_law_2062 ?_
  refine q_sld C0 hX hbl hbA hw hs1 dL_law_2063 ?_
  refine q_callVNi (As := [.int s1]) (nA := 1) C0 hw at_Mod rfl (fun r1 h1 => ctX6_byteSum hst h1) gL_law_X6_byteSum rfl ⟨rfl, rfl⟩ (by decide +kernel) rfl ⟨(Nat.le_of_ble_eq_true rfl), (Nat.le_of_ble_eq_true rfl)⟩ hl.1 (Nat.le_of_ble_eq_true rfl) ⟨lw_rm (a := 1) hce (Nat.le_of_ble_eq_true rfl), lw_rs (a := 6) hsl (Nat.le_of_ble_eq_true rfl)⟩ rfl h dL_law_2064 (fun M5 z6 H locs hw h => ?_)
  refine q_istore (lv' := fun z7 => [(7, .int z7), (6, .int z4), (0, .ref b), (1, .ref (ad 0)), (2, .ref (ad 427)), (3, .ref (ad 453)), (4, .ref (ad 454)), (5, .int v5)]) hx hb dL_law_2067 hl (by decide) (fun _ => rfl) h (fun z7 ls hl h => ?_)
  refine lv_aload_n hx hb dL_law_2069 rfl (lv_at hl 4 rfl) ?_
  refine q_callVNi (As := []) (nA := 0) C0 hw at_Mod rfl (fun r1 h1 => ctX6_thrown hst h1) gL_law_X6_thrown rfl ⟨rfl, rfl⟩ (by decide +kernel) rfl ⟨(Nat.le_of_ble_eq_true rfl), (Nat.le_of_ble_eq_true rfl)⟩ hl.1 (Nat.le_of_ble_eq_true rfl) ⟨lw_rm (a := 1) hce (Nat.le_of_ble_eq_true rfl), lw_rs (a := 6) hsl (Nat.le_of_ble_eq_true rfl)⟩ rfl h dL_law_2070 (fun M8 z9 H locs hw h => ?_)
  refine lv_iload hx hb dL_law_2073 (lv_at hl 1 rfl) ?_
  refine q_icmp_eq (tgt := 2080) hx hb dL_law_2075 (by decide) h (fun h => ?_) (fun h => ?_)
  · refine lv_iload hx hb dL_law_2080 (lv_at hl 1 rfl) ?_
    refine q_if_ne (tgt := 2097) hx hb dL_law_2082 (by decide) h (fun h => ?_) (fun h => ?_)
    · refine lv_goto (tgt := 2355) hx hb dL_law_2097 (by decide) ?_
      exact q_fin h hk hw (lv_sub hl [2, 3, 4, 5, 6, 7] rfl) (lw_ccl (a := 1) (Nat.le_of_ble_eq_true rfl)) (lw_csl (a := 6) (Nat.le_of_ble_eq_true rfl))
    · refine lv_aload_n hx hb dL_law_2085 rfl (lv_at hl 5 rfl) ?_
      refine lv_iconst (v := 0) hx hb dL_law_2086 (by decide) ?_
      refine q_lald C0 hw dL_law_2087 ?_
      refine lv_iload hx hb dL_law_2088 (lv_at hl 0 rfl) ?_
      refine lv_i2l hx hb dL_law_2090 rfl ?_
      refine W.lcmp hx hb dL_law_2091 ?_
      refine q_if_eq (tgt := 2097) hx hb dL_law_2092 (by decide) h (fun h => ?_) (fun h => ?_)
      · refine lv_goto (tgt := 2355) hx hb dL_law_2097 (by decide) ?_
        exact q_fin h hk hw (lv_sub hl [2, 3, 4, 5, 6, 7] rfl) (lw_ccl (a := 1) (Nat.le_of_ble_eq_true rfl)) (lw_csl (a := 6) (Nat.le_of_ble_eq_true rfl))
      · exact q_no h
  · exact q_no h
def fL_case33 (F : Nat) (M : Mem) (x : XX) (s1 s2 s3 s4 s5 : Int32) : Option (Mem × XX) :=
    (q_bw (fL_shortSum F M x s1) fun M1 x2 z3 =>
    q_lt (z3) fun z4 =>
    q_bn (fX6_shortSum F M1 s1) fun M5 z6 =>
    q_lt (z6) fun z7 =>
    q_bn (fX6_thrown F M5) fun M8 z9 =>
    if z9 = z4 then
    (if z4 = (0 : Int32) then
    (if (lg_cmp (x2.1) (z7.toInt64)) = (0 : Int32) then
    (some (M8, x2))
    else
    (none))
    else
    (some (M8, x2)))
    else
    (none))
set_option maxHeartbeats 4000000 in
set_option maxRecDepth 100000 in
theorem wL_case33 {v5 s1 s2 s3 s4 s5 : Int32} {r : Mem × XX} {ce sl : Nat} (hst : l.stackTraces = false) (C0 : MX p l s m args meth c D cy ad cL_law RL 9 wsL_law ret) (hX : va_X b L xs s s.heap) (hbl : b < s.heap.size) (hbA : ¬ AA ad s.heap.size b) (hce : ce + 8 ≤ 603072) (hsl : sl + 48 ≤ 7211114) (hs1 : vp_in (v5 + 1) L ∧ xs (v5 + 1).toNatClampNeg = s1) (hs2 : vp_in (v5 + 2) L ∧ xs (v5 + 2).toNatClampNeg = s2) (hs3 : vp_in (v5 + 3) L ∧ xs (v5 + 3).toNatClampNeg = s3) (hs4 : vp_in (v5 + 4) L ∧ xs (v5 + 4).toNatClampNeg = s4) (hs5 : vp_in (v5 + 5) L ∧ xs (v5 + 5).toNatClampNeg = s5)
    (hk : ∀ (H : Heap) (locs : List Loc) (ls : Array Slot), Wd D cy ad r.2 s r.1 H locs → lv_has ls 9 [(0, .ref b), (1, .ref (ad 0)), (2, .ref (ad 427)), (3, .ref (ad 453)), (4, .ref (ad 454)), (5, .int v5)] → W p l e room_1 s m args below meth c H locs (ce + 8) (sl + 48) Q (F0 m 2355 ls []))
    (hw : Wd D cy ad x s M H locs) (hl : lv_has ls 9 [(0, .ref b), (1, .ref (ad 0)), (2, .ref (ad 427)), (3, .ref (ad 453)), (4, .ref (ad 454)), (5, .int v5)]) (h : fL_case33 F M x s1 s2 s3 s4 s5 = some r) : W p l e room_1 s m args below meth c H locs ce sl Q (F0 m 2100 ls []) := by
  obtain ⟨hx, hb, hml, hown, hts, -⟩ := id C0
  unfold fL_case33 at h
  refine lv_aload_n hx hb dL_law_2100 rfl (lv_at hl 1 rfl) ?_
  refine lv_aload_n hx hb dL_law_2101 rfl (lv_at hl 0 rfl) ?_
  refine lv_iload hx hb dL_law_2102 (lv_at hl 5 rfl) ?_
  refine lv_iconst (v := 1) hx hb dL_law_2104 (by decide) ?_
  refine lv_iadd hx hb dL_law_2105 ?_
  refine q_sld C0 hX hbl hbA hw hs1 dL_law_2106 ?_
  refine lv_aload_n hx hb dL_law_2107 rfl (lv_at hl 3 rfl) ?_
  refine q_callSW (As := [.ref (ad 0), .int s1, .ref (ad 453)]) (nA := 3) C0 hw (fun r1 h1 => ctL_shortSum hst h1) gL_law_L_shortSum rfl ⟨rfl, rfl⟩ (by decide +kernel) rfl ⟨(Nat.le_of_ble_eq_true rfl), (Nat.le_of_ble_eq_true rfl)⟩ hl.1 (Nat.le_of_ble_eq_true rfl) ⟨lw_rm (a := 1) hce (Nat.le_of_ble_eq_true rfl), lw_rs (a := 6) hsl (Nat.le_of_ble_eq_true rfl)⟩ rfl h dL_law_2108 (fun M1 x2 z3 H locs hw h => ?_)
  refine q_istore (lv' := fun z4 => [(6, .int z4), (0, .ref b), (1, .ref (ad 0)), (2, .ref (ad 427)), (3, .ref (ad 453)), (4, .ref (ad 454)), (5, .int v5)]) hx hb dL_law_2111 hl (by decide) (fun _ => rfl) h (fun z4 ls hl h => ?_)
  refine lv_aload_n hx hb dL_law_2113 rfl (lv_at hl 3 rfl) ?_
  refine lv_aload_n hx hb dL_law_2114 rfl (lv_at hl 1 rfl) ?_
  refine lv_iload hx hb dL_law_2115 (lv_at hl 6 rfl) ?_
  refine lv_iconst (v := 1) hx hb dL_law_2117 (by decide) ?_
  refine lv_iadd hx hb dL_law_2118 ?_
  refine q_sld C0 hX hbl hbA hw hs1 dL_law_2119 ?_
  refine q_callVNi (As := [.int s1]) (nA := 1) C0 hw at_Mod rfl (fun r1 h1 => ctX6_shortSum hst h1) gL_law_X6_shortSum rfl ⟨rfl, rfl⟩ (by decide +kernel) rfl ⟨(Nat.le_of_ble_eq_true rfl), (Nat.le_of_ble_eq_true rfl)⟩ hl.1 (Nat.le_of_ble_eq_true rfl) ⟨lw_rm (a := 1) hce (Nat.le_of_ble_eq_true rfl), lw_rs (a := 6) hsl (Nat.le_of_ble_eq_true rfl)⟩ rfl h dL_law_2120 (fun M5 z6 H locs hw h => ?_)
  refine q_istore (lv' := fun z7 => [(7, .int z7), (6, .int z4), (0, .ref b), (1, .ref (ad 0)), (2, .ref (ad 427)), (3, .ref (ad 453)), (4, .ref (ad 454)), (5, .int v5)]) hx hb dL_law_2123 hl (by decide) (fun _ => rfl) h (fun z7 ls hl h => ?_)
  refine lv_aload_n hx hb dL_law_2125 rfl (lv_at hl 4 rfl) ?_
  refine q_callVNi (As := []) (nA := 0) C0 hw at_Mod rfl (fun r1 h1 => ctX6_thrown hst h1) gL_law_X6_thrown rfl ⟨rfl, rfl⟩ (by decide +kernel) rfl ⟨(Nat.le_of_ble_eq_true rfl), (Nat.le_of_ble_eq_true rfl)⟩ hl.1 (Nat.le_of_ble_eq_true rfl) ⟨lw_rm (a := 1) hce (Nat.le_of_ble_eq_true rfl), lw_rs (a := 6) hsl (Nat.le_of_ble_eq_true rfl)⟩ rfl h dL_law_2126 (fun M8 z9 H locs hw h => ?_)
  refine lv_iload hx hb dL_law_2129 (lv_at hl 1 rfl) ?_
  refine q_icmp_eq (tgt := 2136) hx hb dL_law_2131 (by decide) h (fun h => ?_) (fun h => ?_)
  · refine lv_iload hx hb dL_law_2136 (lv_at hl 1 rfl) ?_
    refine q_if_ne (tgt := 2153) hx hb dL_law_2138 (by decide) h (fun h => ?_) (fun h => ?_)
    · refine lv_goto (tgt := 2355) hx hb dL_law_2153 (by decide) ?_
      exact q_fin h hk hw (lv_sub hl [2, 3, 4, 5, 6, 7] rfl) (lw_ccl (a := 1) (Nat.le_of_ble_eq_true rfl)) (lw_csl (a := 6) (Nat.le_of_ble_eq_true rfl))
    · refine lv_aload_n hx hb dL_law_2141 rfl (lv_at hl 5 rfl) ?_
      refine lv_iconst (v := 0) hx hb dL_law_2142 (by decide) ?_
      refine q_lald C0 hw dL_law_2143 ?_
      refine lv_iload hx hb dL_law_2144 (lv_at hl 0 rfl) ?_
      refine lv_i2l hx hb dL_law_2146 rfl ?_
      refine W.lcmp hx hb dL_law_2147 ?_
      refine q_if_eq (tgt := 2153) hx hb dL_law_2148 (by decide) h (fun h => ?_) (fun h => ?_)
      · refine lv_goto (tgt := 2355) hx hb dL_law_2153 (by decide) ?_
        exact q_fin h hk hw (lv_sub hl [2, 3, 4, 5, 6, 7] rfl) (lw_ccl (a := 1) (Nat.le_of_ble_eq_true rfl)) (lw_csl (a := 6) (Nat.le_of_ble_eq_true rfl))
      · exact q_no h
  · exact q_no h
def fL_case34 (F : Nat) (M : Mem) (x : XX) (s1 s2 s3 s4 s5 : Int32) : Option (Mem × XX) :=
    (q_bw (fL_packed F M x s1) fun M1 x2 z3 =>
    q_lt (z3) fun z4 =>
    q_bn (fX6_packed F M1 s1) fun M5 z6 =>
    q_lt (z6) fun z7 =>
    q_bn (fX6_thrown F M5) fun M8 z9 =>
    if z9 = z4 then
    (if z4 = (0 : Int32) then
    (if (lg_cmp (x2.1) z7) = (0 : Int32) then
    (some (M8, x2))
    else
    (none))
    else
    (some (M8, x2)))
    else
    (none))
set_option maxHeartbeats 4000000 in
set_option maxRecDepth 100000 in
theorem wL_case34 {v5 s1 s2 s3 s4 s5 : Int32} {r : Mem × XX} {ce sl : Nat} (hst : l.stackTraces = false) (C0 : MX p l s m args meth c D cy ad cL_law RL 9 wsL_law ret) (hX : va_X b L xs s s.heap) (hbl : b < s.heap.size) (hbA : ¬ AA ad s.heap.size b) (hce : ce + 8 ≤ 603072) (hsl : sl + 48 ≤ 7211114) (hs1 : vp_in (v5 + 1) L ∧ xs (v5 + 1).toNatClampNeg = s1) (hs2 : vp_in (v5 + 2) L ∧ xs (v5 + 2).toNatClampNeg = s2) (hs3 : vp_in (v5 + 3) L ∧ xs (v5 + 3).toNatClampNeg = s3) (hs4 : vp_in (v5 + 4) L ∧ xs (v5 + 4).toNatClampNeg = s4) (hs5 : vp_in (v5 + 5) L ∧ xs (v5 + 5).toNatClampNeg = s5)
    (hk : ∀ (H : Heap) (locs : List Loc) (ls : Array Slot), Wd D cy ad r.2 s r.1 H locs → lv_has ls 9 [(0, .ref b), (1, .ref (ad 0)), (2, .ref (ad 427)), (3, .ref (ad 453)), (4, .ref (ad 454)), (5, .int v5)] → W p l e room_1 s m args below meth c H locs (ce + 8) (sl + 48) Q (F0 m 2355 ls []))
    (hw : Wd D cy ad x s M H locs) (hl : lv_has ls 9 [(0, .ref b), (1, .ref (ad 0)), (2, .ref (ad 427)), (3, .ref (ad 453)), (4, .ref (ad 454)), (5, .int v5)]) (h : fL_case34 F M x s1 s2 s3 s4 s5 = some r) : W p l e room_1 s m args below meth c H locs ce sl Q (F0 m 2156 ls []) := by
  obtain ⟨hx, hb, hml, hown, hts, -⟩ := id C0
  unfold fL_case34 at h
  refine lv_aload_n hx hb dL_law_2156 rfl (lv_at hl 1 rfl) ?_
  refine lv_aload_n hx hb dL_law_2157 rfl (lv_at hl 0 rfl) ?_
  refine lv_iload hx hb dL_law_2158 (lv_at hl 5 rfl) ?_
  refine lv_iconst (v := 1) hx hb dL_law_2160 (by decide) ?_
  refine lv_iadd hx hb dL_law_2161 ?_
  refine q_sld C0 hX hbl hbA hw hs1 dL_law_2162 ?_
  refine lv_aload_n hx hb dL_law_2163 rfl (lv_at hl 3 rfl) ?_
  refine q_callSW (As := [.ref (ad 0), .int s1, .ref (ad 453)]) (nA := 3) C0 hw (fun r1 h1 => ctL_packed hst h1) gL_law_L_packed rfl ⟨rfl, rfl⟩ (by decide +kernel) rfl ⟨(Nat.le_of_ble_eq_true rfl), (Nat.le_of_ble_eq_true rfl)⟩ hl.1 (Nat.le_of_ble_eq_true rfl) ⟨lw_rm (a := 1) hce (Nat.le_of_ble_eq_true rfl), lw_rs (a := 6) hsl (Nat.le_of_ble_eq_true rfl)⟩ rfl h dL_law_2164 (fun M1 x2 z3 H locs hw h => ?_)
  refine q_istore (lv' := fun z4 => [(6, .int z4), (0, .ref b), (1, .ref (ad 0)), (2, .ref (ad 427)), (3, .ref (ad 453)), (4, .ref (ad 454)), (5, .int v5)]) hx hb dL_law_2167 hl (by decide) (fun _ => rfl) h (fun z4 ls hl h => ?_)
  refine lv_aload_n hx hb dL_law_2169 rfl (lv_at hl 3 rfl) ?_
  refine lv_aload_n hx hb dL_law_2170 rfl (lv_at hl 1 rfl) ?_
  refine lv_iload hx hb dL_law_2171 (lv_at hl 6 rfl) ?_
  refine lv_iconst (v := 1) hx hb dL_law_2173 (by decide) ?_
  refine lv_iadd hx hb dL_law_2174 ?_
  refine q_sld C0 hX hbl hbA hw hs1 dL_law_2175 ?_
  refine q_callVNl (As := [.int s1]) (nA := 1) C0 hw at_Mod rfl (fun r1 h1 => ctX6_packed hst h1) gL_law_X6_packed rfl ⟨rfl, rfl⟩ (by decide +kernel) rfl ⟨(Nat.le_of_ble_eq_true rfl), (Nat.le_of_ble_eq_true rfl)⟩ hl.1 (Nat.le_of_ble_eq_true rfl) ⟨lw_rm (a := 1) hce (Nat.le_of_ble_eq_true rfl), lw_rs (a := 6) hsl (Nat.le_of_ble_eq_true rfl)⟩ rfl h dL_law_2176 (fun M5 z6 H locs hw h => ?_)
  refine q_lstore (lv' := fun z7 => [(7, .long (z7)), (6, .int z4), (0, .ref b), (1, .ref (ad 0)), (2, .ref (ad 427)), (3, .ref (ad 453)), (4, .ref (ad 454)), (5, .int v5)]) hx hb dL_law_2179 hl (by decide) (fun _ => rfl) h (fun z7 ls hl h => ?_)
  refine lv_aload_n hx hb dL_law_2181 rfl (lv_at hl 4 rfl) ?_
  refine q_callVNi (As := []) (nA := 0) C0 hw at_Mod rfl (fun r1 h1 => ctX6_thrown hst h1) gL_law_X6_thrown rfl ⟨rfl, rfl⟩ (by decide +kernel) rfl ⟨(Nat.le_of_ble_eq_true rfl), (Nat.le_of_ble_eq_true rfl)⟩ hl.1 (Nat.le_of_ble_eq_true rfl) ⟨lw_rm (a := 1) hce (Nat.le_of_ble_eq_true rfl), lw_rs (a := 6) hsl (Nat.le_of_ble_eq_true rfl)⟩ rfl h dL_law_2182 (fun M8 z9 H locs hw h => ?_)
  refine lv_iload hx hb dL_law_2185 (lv_at hl 1 rfl) ?_
  refine q_icmp_eq (tgt := 2192) hx hb dL_law_2187 (by decide) h (fun h => ?_) (fun h => ?_)
  · refine lv_iload hx hb dL_law_2192 (lv_at hl 1 rfl) ?_
    refine q_if_ne (tgt := 2208) hx hb dL_law_2194 (by decide) h (fun h => ?_) (fun h => ?_)
    · refine lv_goto (tgt := 2355) hx hb dL_law_2208 (by decide) ?_
      exact q_fin h hk hw (lv_sub hl [2, 3, 4, 5, 6, 7] rfl) (lw_ccl (a := 1) (Nat.le_of_ble_eq_true rfl)) (lw_csl (a := 6) (Nat.le_of_ble_eq_true rfl))
    · refine lv_aload_n hx hb dL_law_2197 rfl (lv_at hl 5 rfl) ?_
      refine lv_iconst (v := 0) hx hb dL_law_2198 (by decide) ?_
      refine q_lald C0 hw dL_law_2199 ?_
      refine lv_lload hx hb dL_law_2200 (lv_at hl 0 rfl) ?_
      refine W.lcmp hx hb dL_law_2202 ?_
      refine q_if_eq (tgt := 2208) hx hb dL_law_2203 (by decide) h (fun h => ?_) (fun h => ?_)
      · refine lv_goto (tgt := 2355) hx hb dL_law_2208 (by decide) ?_
        exact q_fin h hk hw (lv_sub hl [2, 3, 4, 5, 6, 7] rfl) (lw_ccl (a := 1) (Nat.le_of_ble_eq_true rfl)) (lw_csl (a := 6) (Nat.le_of_ble_eq_true rfl))
      · exact q_no h
  · exact q_no h
def fL_case35 (F : Nat) (M : Mem) (x : XX) (s1 s2 s3 s4 s5 : Int32) : Option (Mem × XX) :=
    (q_bw (fL_inShare F M x) fun M1 x2 z3 =>
    q_lt (z3) fun z4 =>
    q_bn (fX6_inShare F M1) fun M5 z6 =>
    q_lt (z6) fun z7 =>
    q_bn (fX6_thrown F M5) fun M8 z9 =>
    if z9 = z4 then
    (if z4 = (0 : Int32) then
    (q_gd (q_n64 (FP.f2d z7)) (
    if (Op.cmpValue (FP.dcmp (x2.2) (FP.f2d z7)) .l) = (0 : Int32) then
    (some (M8, x2))
    else
    (if (Op.cmpValue (FP.dcmp (x2.2) (x2.2)) .l) = (0 : Int32) then
    (none)
    else
    (if (Op.cmpValue (FP.fcmp z7 z7) .l) = (0 : Int32) then
    (none)
    else
    (some (M8, x2))))))
    else
    (some (M8, x2)))
    else
    (none))
set_option maxHeartbeats 4000000 in
set_option maxRecDepth 100000 in
theorem wL_case35 {v5 s1 s2 s3 s4 s5 : Int32} {r : Mem × XX} {ce sl : Nat} (hst : l.stackTraces = false) (C0 : MX p l s m args meth c D cy ad cL_law RL 9 wsL_law ret) (hX : va_X b L xs s s.heap) (hbl : b < s.heap.size) (hbA : ¬ AA ad s.heap.size b) (hce : ce + 8 ≤ 603072) (hsl : sl + 48 ≤ 7211114) (hs1 : vp_in (v5 + 1) L ∧ xs (v5 + 1).toNatClampNeg = s1) (hs2 : vp_in (v5 + 2) L ∧ xs (v5 + 2).toNatClampNeg = s2) (hs3 : vp_in (v5 + 3) L ∧ xs (v5 + 3).toNatClampNeg = s3) (hs4 : vp_in (v5 + 4) L ∧ xs (v5 + 4).toNatClampNeg = s4) (hs5 : vp_in (v5 + 5) L ∧ xs (v5 + 5).toNatClampNeg = s5)
    (hk : ∀ (H : Heap) (locs : List Loc) (ls : Array Slot), Wd D cy ad r.2 s r.1 H locs → lv_has ls 9 [(0, .ref b), (1, .ref (ad 0)), (2, .ref (ad 427)), (3, .ref (ad 453)), (4, .ref (ad 454)), (5, .int v5)] → W p l e room_1 s m args below meth c H locs (ce + 8) (sl + 48) Q (F0 m 2355 ls []))
    (hw : Wd D cy ad x s M H locs) (hl : lv_has ls 9 [(0, .ref b), (1, .ref (ad 0)), (2, .ref (ad 427)), (3, .ref (ad 453)), (4, .ref (ad 454)), (5, .int v5)]) (h : fL_case35 F M x s1 s2 s3 s4 s5 = some r) : W p l e room_1 s m args below meth c H locs ce sl Q (F0 m 2211 ls []) := by
  obtain ⟨hx, hb, hml, hown, hts, -⟩ := id C0
  unfold fL_case35 at h
  refine lv_aload_n hx hb dL_law_2211 rfl (lv_at hl 1 rfl) ?_
  refine lv_aload hx hb dL_law_2212 (lv_at hl 4 rfl) ?_
  refine q_callSW (As := [.ref (ad 0), .ref (ad 454)]) (nA := 2) C0 hw (fun r1 h1 => ctL_inShare hst h1) gL_law_L_inShare rfl ⟨rfl, rfl⟩ (by decide +kernel) rfl ⟨(Nat.le_of_ble_eq_true rfl), (Nat.le_of_ble_eq_true rfl)⟩ hl.1 (Nat.le_of_ble_eq_true rfl) ⟨lw_rm (a := 1) hce (Nat.le_of_ble_eq_true rfl), lw_rs (a := 6) hsl (Nat.le_of_ble_eq_true rfl)⟩ rfl h dL_law_2214 (fun M1 x2 z3 H locs hw h => ?_)
  refine q_istore (lv' := fun z4 => [(6, .int z4), (0, .ref b), (1, .ref (ad 0)), (2, .ref (ad 427)), (3, .ref (ad 453)), (4, .ref (ad 454)), (5, .int v5)]) hx hb dL_law_2217 hl (by decide) (fun _ => rfl) h (fun z4 ls hl h => ?_)
  refine lv_aload_n hx hb dL_law_2219 rfl (lv_at hl 3 rfl) ?_
  refine q_callVNf (As := []) (nA := 0) C0 hw at_Mod rfl (fun r1 h1 => ctX6_inShare hst h1) gL_law_X6_inShare rfl ⟨rfl, rfl⟩ (by decide +kernel) rfl ⟨(Nat.le_of_ble_eq_true rfl), (Nat.le_of_ble_eq_true rfl)⟩ hl.1 (Nat.le_of_ble_eq_true rfl) ⟨lw_rm (a := 1) hce (Nat.le_of_ble_eq_true rfl), lw_rs (a := 6) hsl (Nat.le_of_ble_eq_true rfl)⟩ rfl h dL_law_2220 (fun M5 z6 H locs hw h => ?_)
  refine q_fstore (lv' := fun z7 => [(7, .float (z7)), (6, .int z4), (0, .ref b), (1, .ref (ad 0)), (2, .ref (ad 427)), (3, .ref (ad 453)), (4, .ref (ad 454)), (5, .int v5)]) hx hb dL_law_2223 hl (by decide) (fun _ => rfl) h (fun z7 ls hl h => ?_)
  refine lv_aload_n hx hb dL_law_2225 rfl (lv_at hl 4 rfl) ?_
  refine q_callVNi (As := []) (nA := 0) C0 hw at_Mod rfl (fun r1 h1 => ctX6_thrown hst h1) gL_law_X6_thrown rfl ⟨rfl, rfl⟩ (by decide +kernel) rfl ⟨(Nat.le_of_ble_eq_true rfl), (Nat.le_of_ble_eq_true rfl)⟩ hl.1 (Nat.le_of_ble_eq_true rfl) ⟨lw_rm (a := 1) hce (Nat.le_of_ble_eq_true rfl), lw_rs (a := 6) hsl (Nat.le_of_ble_eq_true rfl)⟩ rfl h dL_law_2226 (fun M8 z9 H locs hw h => ?_)
  refine lv_iload hx hb dL_law_2229 (lv_at hl 1 rfl) ?_
  refine q_icmp_eq (tgt := 2236) hx hb dL_law_2231 (by decide) h (fun h => ?_) (fun h => ?_)
  · refine lv_iload hx hb dL_law_2236 (lv_at hl 1 rfl) ?_
    refine q_if_ne (tgt := 2274) hx hb dL_law_2238 (by decide) h (fun h => ?_) (fun h => ?_)
    · refine lv_goto (tgt := 2355) hx hb dL_law_2274 (by decide) ?_
      exact q_fin h hk hw (lv_sub hl [2, 3, 4, 5, 6, 7] rfl) (lw_ccl (a := 1) (Nat.le_of_ble_eq_true rfl)) (lw_csl (a := 6) (Nat.le_of_ble_eq_true rfl))
    · refine lv_aload hx hb dL_law_2241 (lv_at hl 6 rfl) ?_
      refine lv_iconst (v := 0) hx hb dL_law_2243 (by decide) ?_
      refine q_dald C0 hw dL_law_2244 ?_
      refine lv_fload hx hb dL_law_2245 (lv_at hl 0 rfl) ?_
      refine q_guard h (fun g h => ?_)
      refine lv_f2d hx hb dL_law_2247 (q_n64_in g) ?_
      refine lv_dcmp hx hb dL_law_2248 ?_
      refine q_if_eq (tgt := 2274) hx hb dL_law_2249 (by decide) h (fun h => ?_) (fun h => ?_)
      · refine lv_goto (tgt := 2355) hx hb dL_law_2274 (by decide) ?_
        exact q_fin h hk hw (lv_sub hl [2, 3, 4, 5, 6, 7] rfl) (lw_ccl (a := 1) (Nat.le_of_ble_eq_true rfl)) (lw_csl (a := 6) (Nat.le_of_ble_eq_true rfl))
      · refine lv_aload hx hb dL_law_2252 (lv_at hl 6 rfl) ?_
        refine lv_iconst (v := 0) hx hb dL_law_2254 (by decide) ?_
        refine q_dald C0 hw dL_law_2255 ?_
        refine lv_aload hx hb dL_law_2256 (lv_at hl 6 rfl) ?_
        refine lv_iconst (v := 0) hx hb dL_law_2258 (by decide) ?_
        refine q_dald C0 hw dL_law_2259 ?_
        refine lv_dcmp hx hb dL_law_2260 ?_
        refine q_if_eq (tgt := 2272) hx hb dL_law_2261 (by decide) h (fun h => ?_) (fun h => ?_)
        · exact q_no h
        · refine lv_fload hx hb dL_law_2264 (lv_at hl 0 rfl) ?_
          refine lv_fload hx hb dL_law_2266 (lv_at hl 0 rfl) ?_
          refine lv_fcmp hx hb dL_law_2268 ?_
          refine q_if_ne (tgt := 2274) hx hb dL_law_2269 (by decide) h (fun h => ?_) (fun h => ?_)
          · refine lv_goto (tgt := 2355) hx hb dL_law_2274 (by decide) ?_
            exact q_fin h hk hw (lv_sub hl [2, 3, 4, 5, 6, 7] rfl) (lw_ccl (a := 1) (Nat.le_of_ble_eq_true rfl)) (lw_csl (a := 6) (Nat.le_of_ble_eq_true rfl))
          · exact q_no h
  · exact q_no h
def fL_case36 (F : Nat) (M : Mem) (x : XX) (s1 s2 s3 s4 s5 : Int32) : Option (Mem × XX) :=
    (q_bw (fL_meanMark F M x) fun M1 x2 z3 =>
    q_lt (z3) fun z4 =>
    q_bn (fX6_meanMark F M1) fun M5 z6 =>
    q_lt (z6) fun z7 =>
    q_bn (fX6_thrown F M5) fun M8 z9 =>
    if z9 = z4 then
    (if z4 = (0 : Int32) then
    (if (Op.cmpValue (FP.dcmp (x2.2) z7) .l) = (0 : Int32) then
    (some (M8, x2))
    else
    (if (Op.cmpValue (FP.dcmp (x2.2) (x2.2)) .l) = (0 : Int32) then
    (none)
    else
    (if (Op.cmpValue (FP.dcmp z7 z7) .l) = (0 : Int32) then
    (none)
    else
    (some (M8, x2)))))
    else
    (some (M8, x2)))
    else
    (none))
set_option maxHeartbeats 4000000 in
set_option maxRecDepth 100000 in
theorem wL_case36 {v5 s1 s2 s3 s4 s5 : Int32} {r : Mem × XX} {ce sl : Nat} (hst : l.stackTraces = false) (C0 : MX p l s m args meth c D cy ad cL_law RL 9 wsL_law ret) (hX : va_X b L xs s s.heap) (hbl : b < s.heap.size) (hbA : ¬ AA ad s.heap.size b) (hce : ce + 8 ≤ 603072) (hsl : sl + 48 ≤ 7211114) (hs1 : vp_in (v5 + 1) L ∧ xs (v5 + 1).toNatClampNeg = s1) (hs2 : vp_in (v5 + 2) L ∧ xs (v5 + 2).toNatClampNeg = s2) (hs3 : vp_in (v5 + 3) L ∧ xs (v5 + 3).toNatClampNeg = s3) (hs4 : vp_in (v5 + 4) L ∧ xs (v5 + 4).toNatClampNeg = s4) (hs5 : vp_in (v5 + 5) L ∧ xs (v5 + 5).toNatClampNeg = s5)
    (hk : ∀ (H : Heap) (locs : List Loc) (ls : Array Slot), Wd D cy ad r.2 s r.1 H locs → lv_has ls 9 [(0, .ref b), (1, .ref (ad 0)), (2, .ref (ad 427)), (3, .ref (ad 453)), (4, .ref (ad 454)), (5, .int v5)] → W p l e room_1 s m args below meth c H locs (ce + 8) (sl + 48) Q (F0 m 2355 ls []))
    (hw : Wd D cy ad x s M H locs) (hl : lv_has ls 9 [(0, .ref b), (1, .ref (ad 0)), (2, .ref (ad 427)), (3, .ref (ad 453)), (4, .ref (ad 454)), (5, .int v5)]) (h : fL_case36 F M x s1 s2 s3 s4 s5 = some r) : W p l e room_1 s m args below meth c H locs ce sl Q (F0 m 2277 ls []) := by
  obtain ⟨hx, hb, hml, hown, hts, -⟩ := id C0
  unfold fL_case36 at h
  refine lv_aload_n hx hb dL_law_2277 rfl (lv_at hl 1 rfl) ?_
  refine lv_aload hx hb dL_law_2278 (lv_at hl 4 rfl) ?_
  refine q_callSW (As := [.ref (ad 0), .ref (ad 454)]) (nA := 2) C0 hw (fun r1 h1 => ctL_meanMark hst h1) gL_law_L_meanMark rfl ⟨rfl, rfl⟩ (by decide +kernel) rfl ⟨(Nat.le_of_ble_eq_true rfl), (Nat.le_of_ble_eq_true rfl)⟩ hl.1 (Nat.le_of_ble_eq_true rfl) ⟨lw_rm (a := 1) hce (Nat.le_of_ble_eq_true rfl), lw_rs (a := 6) hsl (Nat.le_of_ble_eq_true rfl)⟩ rfl h dL_law_2280 (fun M1 x2 z3 H locs hw h => ?_)
  refine q_istore (lv' := fun z4 => [(6, .int z4), (0, .ref b), (1, .ref (ad 0)), (2, .ref (ad 427)), (3, .ref (ad 453)), (4, .ref (ad 454)), (5, .int v5)]) hx hb dL_law_2283 hl (by decide) (fun _ => rfl) h (fun z4 ls hl h => ?_)
  refine lv_aload_n hx hb dL_law_2285 rfl (lv_at hl 3 rfl) ?_
  refine q_callVNd (As := []) (nA := 0) C0 hw at_Mod rfl (fun r1 h1 => ctX6_meanMark hst h1) gL_law_X6_meanMark rfl ⟨rfl, rfl⟩ (by decide +kernel) rfl ⟨(Nat.le_of_ble_eq_true rfl), (Nat.le_of_ble_eq_true rfl)⟩ hl.1 (Nat.le_of_ble_eq_true rfl) ⟨lw_rm (a := 1) hce (Nat.le_of_ble_eq_true rfl), lw_rs (a := 6) hsl (Nat.le_of_ble_eq_true rfl)⟩ rfl h dL_law_2286 (fun M5 z6 H locs hw h => ?_)
  refine q_dstore (lv' := fun z7 => [(7, .double (z7)), (6, .int z4), (0, .ref b), (1, .ref (ad 0)), (2, .ref (ad 427)), (3, .ref (ad 453)), (4, .ref (ad 454)), (5, .int v5)]) hx hb dL_law_2289 hl (by decide) (fun _ => rfl) h (fun z7 ls hl h => ?_)
  refine lv_aload_n hx hb dL_law_2291 rfl (lv_at hl 4 rfl) ?_
  refine q_callVNi (As := []) (nA := 0) C0 hw at_Mod rfl (fun r1 h1 => ctX6_thrown hst h1) gL_law_X6_thrown rfl ⟨rfl, rfl⟩ (by decide +kernel) rfl ⟨(Nat.le_of_ble_eq_true rfl), (Nat.le_of_ble_eq_true rfl)⟩ hl.1 (Nat.le_of_ble_eq_true rfl) ⟨lw_rm (a := 1) hce (Nat.le_of_ble_eq_true rfl), lw_rs (a := 6) hsl (Nat.le_of_ble_eq_true rfl)⟩ rfl h dL_law_2292 (fun M8 z9 H locs hw h => ?_)
  refine lv_iload hx hb dL_law_2295 (lv_at hl 1 rfl) ?_
  refine q_icmp_eq (tgt := 2302) hx hb dL_law_2297 (by decide) h (fun h => ?_) (fun h => ?_)
  · refine lv_iload hx hb dL_law_2302 (lv_at hl 1 rfl) ?_
    refine q_if_ne (tgt := 2339) hx hb dL_law_2304 (by decide) h (fun h => ?_) (fun h => ?_)
    · refine lv_goto (tgt := 2355) hx hb dL_law_2339 (by decide) ?_
      exact q_fin h hk hw (lv_sub hl [2, 3, 4, 5, 6, 7] rfl) (lw_ccl (a := 1) (Nat.le_of_ble_eq_true rfl)) (lw_csl (a := 6) (Nat.le_of_ble_eq_true rfl))
    · refine lv_aload hx hb dL_law_2307 (lv_at hl 6 rfl) ?_
      refine lv_iconst (v := 0) hx hb dL_law_2309 (by decide) ?_
      refine q_dald C0 hw dL_law_2310 ?_
      refine lv_dload hx hb dL_law_2311 (lv_at hl 0 rfl) ?_
      refine lv_dcmp hx hb dL_law_2313 ?_
      refine q_if_eq (tgt := 2339) hx hb dL_law_2314 (by decide) h (fun h => ?_) (fun h => ?_)
      · refine lv_goto (tgt := 2355) hx hb dL_law_2339 (by decide) ?_
        exact q_fin h hk hw (lv_sub hl [2, 3, 4, 5, 6, 7] rfl) (lw_ccl (a := 1) (Nat.le_of_ble_eq_true rfl)) (lw_csl (a := 6) (Nat.le_of_ble_eq_true rfl))
      · refine lv_aload hx hb dL_law_2317 (lv_at hl 6 rfl) ?_
        refine lv_iconst (v := 0) hx hb dL_law_2319 (by decide) ?_
        refine q_dald C0 hw dL_law_2320 ?_
        refine lv_aload hx hb dL_law_2321 (lv_at hl 6 rfl) ?_
        refine lv_iconst (v := 0) hx hb dL_law_2323 (by decide) ?_
        refine q_dald C0 hw dL_law_2324 ?_
        refine lv_dcmp hx hb dL_law_2325 ?_
        refine q_if_eq (tgt := 2337) hx hb dL_law_2326 (by decide) h (fun h => ?_) (fun h => ?_)
        · exact q_no h
        · refine lv_dload hx hb dL_law_2329 (lv_at hl 0 rfl) ?_
          refine lv_dload hx hb dL_law_2331 (lv_at hl 0 rfl) ?_
          refine lv_dcmp hx hb dL_law_2333 ?_
          refine q_if_ne (tgt := 2339) hx hb dL_law_2334 (by decide) h (fun h => ?_) (fun h => ?_)
          · refine lv_goto (tgt := 2355) hx hb dL_law_2339 (by decide) ?_
            exact q_fin h hk hw (lv_sub hl [2, 3, 4, 5, 6, 7] rfl) (lw_ccl (a := 1) (Nat.le_of_ble_eq_true rfl)) (lw_csl (a := 6) (Nat.le_of_ble_eq_true rfl))
          · exact q_no h
  · exact q_no h
def fL_case37 (F : Nat) (M : Mem) (x : XX) (s1 s2 s3 s4 s5 : Int32) : Option (Mem × XX) :=
    (q_bn (fX5_isTrue F M) fun M1 z2 =>
    q_bn (fX6_isTrue F M1) fun M3 z4 =>
    if z2 = z4 then
    (some (M3, x))
    else
    (none))
set_option maxHeartbeats 4000000 in
set_option maxRecDepth 100000 in
theorem wL_case37 {v5 s1 s2 s3 s4 s5 : Int32} {r : Mem × XX} {ce sl : Nat} (hst : l.stackTraces = false) (C0 : MX p l s m args meth c D cy ad cL_law RL 9 wsL_law ret) (hX : va_X b L xs s s.heap) (hbl : b < s.heap.size) (hbA : ¬ AA ad s.heap.size b) (hce : ce + 8 ≤ 603072) (hsl : sl + 48 ≤ 7211114) (hs1 : vp_in (v5 + 1) L ∧ xs (v5 + 1).toNatClampNeg = s1) (hs2 : vp_in (v5 + 2) L ∧ xs (v5 + 2).toNatClampNeg = s2) (hs3 : vp_in (v5 + 3) L ∧ xs (v5 + 3).toNatClampNeg = s3) (hs4 : vp_in (v5 + 4) L ∧ xs (v5 + 4).toNatClampNeg = s4) (hs5 : vp_in (v5 + 5) L ∧ xs (v5 + 5).toNatClampNeg = s5)
    (hk : ∀ (H : Heap) (locs : List Loc) (ls : Array Slot), Wd D cy ad r.2 s r.1 H locs → lv_has ls 9 [(0, .ref b), (1, .ref (ad 0)), (2, .ref (ad 427)), (3, .ref (ad 453)), (4, .ref (ad 454)), (5, .int v5)] → W p l e room_1 s m args below meth c H locs (ce + 8) (sl + 48) Q (F0 m 2355 ls []))
    (hw : Wd D cy ad x s M H locs) (hl : lv_has ls 9 [(0, .ref b), (1, .ref (ad 0)), (2, .ref (ad 427)), (3, .ref (ad 453)), (4, .ref (ad 454)), (5, .int v5)]) (h : fL_case37 F M x s1 s2 s3 s4 s5 = some r) : W p l e room_1 s m args below meth c H locs ce sl Q (F0 m 2342 ls []) := by
  obtain ⟨hx, hb, hml, hown, hts, -⟩ := id C0
  unfold fL_case37 at h
  refine lv_aload_n hx hb dL_law_2342 rfl (lv_at hl 1 rfl) ?_
  refine q_callVNi (As := []) (nA := 0) C0 hw at_HW rfl (fun r1 h1 => ctX5_isTrue hst h1) gL_law_X5_isTrue rfl ⟨rfl, rfl⟩ (by decide +kernel) rfl ⟨(Nat.le_of_ble_eq_true rfl), (Nat.le_of_ble_eq_true rfl)⟩ hl.1 (Nat.le_of_ble_eq_true rfl) ⟨lw_rm (a := 0) hce (Nat.le_of_ble_eq_true rfl), lw_rs (a := 0) hsl (Nat.le_of_ble_eq_true rfl)⟩ rfl h dL_law_2343 (fun M1 z2 H locs hw h => ?_)
  refine lv_aload_n hx hb dL_law_2346 rfl (lv_at hl 2 rfl) ?_
  refine q_callVNi (As := []) (nA := 0) C0 hw at_Mod rfl (fun r1 h1 => ctX6_isTrue hst h1) gL_law_X6_isTrue rfl ⟨rfl, rfl⟩ (by decide +kernel) rfl ⟨(Nat.le_of_ble_eq_true rfl), (Nat.le_of_ble_eq_true rfl)⟩ hl.1 (Nat.le_of_ble_eq_true rfl) ⟨lw_rm (a := 0) hce (Nat.le_of_ble_eq_true rfl), lw_rs (a := 0) hsl (Nat.le_of_ble_eq_true rfl)⟩ rfl h dL_law_2347 (fun M3 z4 H locs hw h => ?_)
  refine q_icmp_eq (tgt := 2355) hx hb dL_law_2350 (by decide) h (fun h => ?_) (fun h => ?_)
  · exact q_fin h hk hw (lv_sub hl [0, 1, 2, 3, 4, 5] rfl) (lw_ccl (a := 0) (Nat.le_of_ble_eq_true rfl)) (lw_csl (a := 0) (Nat.le_of_ble_eq_true rfl))
  · exact q_no h
end QLAW
