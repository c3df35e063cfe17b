/-! small numbers; the frames of the invariant's groups; the smallest cases -/
def inR (a lo hi : Int32) : Prop := ¬ a < lo ∧ ¬ hi < a
def isN (n : Nat) (a : Int32) : Prop := ¬ a < 0 ∧ a < nI n
theorem isN_of {n : Nat} {a : Int32} (hn : n < 2 ^ 31) (h : isN n a) : ∃ r, r < n ∧ a = nI r := by
  obtain ⟨j, hj, rfl⟩ := nI_of h.1
  exact ⟨j, (nI_ltI hj hn).mp h.2, rfl⟩
theorem isN_nI {n r : Nat} (hn : n < 2 ^ 31) (h : r < n) : isN n (nI r) := ⟨nI_pos (by omega), nI_lt h hn⟩
theorem pred_lt {n : Nat} {a : Int32} (hn : n ≤ 1000) : (nI n - 1 < a) ↔ ¬ a < nI n := by
  have h1 : (nI n - 1).toInt = (n : Int) - 1 := by
    rw [Int32.toInt_sub, nI_toInt (by omega), show (1 : Int32).toInt = 1 from rfl]
    exact Int.bmod_eq_of_le (by omega) (by omega)
  rw [Int32.lt_iff_toInt_lt, Int32.lt_iff_toInt_lt, h1, nI_toInt (by omega)]
  omega
theorem i32_le {a b : Int32} : a ≤ b ↔ ¬ b < a := Int32.not_lt.symm
theorem e_needRange {F : Nat} {M : Mem} {a lo hi : Int32} (h : inR a lo hi) : fX5_needRange F M a lo hi = some (M, Sum.inl ()) := by
  unfold fX5_needRange
  rw [if_neg h.1, if_pos (i32_le.mpr h.2)]
theorem e_needRangeX {F : Nat} {M : Mem} {a lo hi : Int32} (h : ¬ inR a lo hi) : fX5_needRange F M a lo hi = some (M, Sum.inr 1) := by
  unfold fX5_needRange
  by_cases h1 : a < lo
  · rw [if_pos h1]
    rfl
  · rw [if_neg h1, if_neg (fun h2 => h ⟨h1, i32_le.mp h2⟩)]
    rfl
theorem e_in {F : Nat} {M : Mem} {a lo hi : Int32} (h : inR a lo hi) : fX6_in F M a lo hi = some (M, 1) := by
  unfold fX6_in
  rw [if_neg h.1, if_neg h.2]
  rfl
theorem e_inX {F : Nat} {M : Mem} {a lo hi : Int32} (h : ¬ inR a lo hi) : fX6_in F M a lo hi = some (M, 0) := by
  unfold fX6_in
  by_cases h1 : a < lo
  · rw [if_pos h1]
    rfl
  · rw [if_neg h1, if_pos (Decidable.byContradiction fun h2 => h ⟨h1, h2⟩)]
    rfl
theorem e_fails {F : Nat} {M : Mem} {a : Int32} : fX6_fails F M a = some (up M 69 0 0 a, 0) := rfl
theorem e_tells {F : Nat} {M : Mem} {a : Int32} : fX6_tells F M a = some (up M 69 0 0 0, a) := rfl
theorem q_gd_t {β : Type} {c : Bool} {k : Option β} (h : c = true) : q_gd c k = k := if_pos h
theorem inR_pred {n : Nat} {a : Int32} (hn : n ≤ 1000) : inR a 0 (nI n - 1) ↔ isN n a := by
  unfold inR isN
  rw [pred_lt hn, Decidable.not_not]
theorem e_needClass {F nc : Nat} {M : Mem} {a : Int32} (h0 : M 0 0 0 = nI nc) (h : isN nc a) : fX5_needClass F M a = some (M, Sum.inl ()) := by
  unfold fX5_needClass
  rw [if_neg h.1, h0, if_pos h.2]
theorem e_needClassX {F nc : Nat} {M : Mem} {a : Int32} (h0 : M 0 0 0 = nI nc) (h : ¬ isN nc a) : fX5_needClass F M a = some (M, Sum.inr 3) := by
  unfold fX5_needClass
  by_cases h1 : a < 0
  · rw [if_pos h1]
    rfl
  · rw [if_neg h1, h0, if_neg (fun h2 => h ⟨h1, h2⟩)]
    rfl
theorem e_isClass {F nc : Nat} {M : Mem} {a : Int32} (h0 : M 61 0 0 = nI nc) (hn : nc ≤ 4) (h : isN nc a) : fX6_isClass F M a = some (M, 1) := by
  unfold fX6_isClass
  rw [h0, e_in ((inR_pred (by omega)).mpr h)]
  rfl
theorem e_isClassX {F nc : Nat} {M : Mem} {a : Int32} (h0 : M 61 0 0 = nI nc) (hn : nc ≤ 4) (h : ¬ isN nc a) : fX6_isClass F M a = some (M, 0) := by
  unfold fX6_isClass
  rw [h0, e_inX (fun h9 => h ((inR_pred (by omega)).mp h9))]
  rfl
theorem lg_self (a : Int64) : lg_cmp a a = 0 := by
  unfold lg_cmp
  simp
/-- the end of a case: the class's answer stands in x2 and z, the reference's in M2 and y -/
theorem caseA {F : Nat} {M1 M2 : Mem} {x2 : XX} {z y : Int32} {L : Option (Mem × (XX × Int32))} {m : Mem → Option (Mem × Int32)} (h1 : L = some (M1, (x2, z))) (h2 : m M1 = some (M2, y)) (h3 : M2 69 0 0 = z) (h4 : z = 0 → x2.1 = y.toInt64) :
    (q_bw L fun M1 x2 z3 => q_lt (z3) fun z4 => q_bn (m M1) fun M5 z6 => q_lt (z6) fun z7 => q_bn (fX6_thrown F M5) fun M8 z9 => if z9 = z4 then (if z4 = (0 : Int32) then (if (lg_cmp (x2.1) (z7.toInt64)) = (0 : Int32) then (some (M8, x2)) else (none)) else (some (M8, x2))) else (none)) = some (M2, x2) := by
  subst h1
  rw [q_bw_some, q_lt_e, h2, q_bn_some, q_lt_e]
  show (if M2 69 0 0 = z then _ else _) = _
  rw [if_pos h3]
  by_cases hz : z = 0
  · rw [if_pos hz, h4 hz, if_pos (lg_self _)]
  · rw [if_neg hz]
theorem caseB {F : Nat} {M1 M2 : Mem} {x : XX} {y : Int32} {f : Option (Mem × Int32)} {m : Mem → Option (Mem × Int32)} (h1 : f = some (M1, y)) (h2 : m M1 = some (M2, y)) : (q_bn f fun M1 z2 => q_bn (m M1) fun M3 z4 => if z2 = z4 then (some (M3, x)) else (none)) = some (M2, x) := by
  subst h1
  rw [q_bn_some, h2, q_bn_some, if_pos rfl]
section FR
variable {M M' : Mem} {nc np nt nw ns nv nhd nh i : Nat}
theorem Cls_of (h : Cls M nc) (e : ∀ v ∈ [0, 61, 20, 25], M' v = M v) : Cls M' nc := by
  have e1 := e 0 (by simp); have e2 := e 61 (by simp); have e3 := e 20 (by simp); have e4 := e 25 (by simp)
  unfold Cls
  rw [e1, e2, e3, e4]
  exact h
theorem Pup_of (h : Pup M nc np) (e : ∀ v ∈ [1, 62, 21, 26], M' v = M v) : Pup M' nc np := by
  have e1 := e 1 (by simp); have e2 := e 62 (by simp); have e3 := e 21 (by simp); have e4 := e 26 (by simp)
  unfold Pup
  rw [e1, e2, e3, e4]
  exact h
theorem Tsk_of (h : Tsk M nc nt) (e : ∀ v ∈ [2, 63, 50, 27, 51, 28, 52, 29, 53, 31, 54, 30], M' v = M v) : Tsk M' nc nt := by
  have e1 := e 2 (by simp); have e2 := e 63 (by simp); have e3 := e 50 (by simp); have e4 := e 27 (by simp); have e5 := e 51 (by simp); have e6 := e 28 (by simp)
  have e7 := e 52 (by simp); have e8 := e 29 (by simp); have e9 := e 53 (by simp); have e10 := e 31 (by simp); have e11 := e 54 (by simp); have e12 := e 30 (by simp)
  unfold Tsk
  rw [e1, e2, e3, e4, e5, e6, e7, e8, e9, e10, e11, e12]
  exact h
theorem Clk_of (h : Clk M nw) (e : ∀ v ∈ [3, 60], M' v = M v) : Clk M' nw := by
  have e1 := e 3 (by simp); have e2 := e 60 (by simp)
  unfold Clk
  rw [e1, e2]
  exact h
theorem Txt_of (h : Txt M ns) (e : M' 8 60 = M 8 60 ∧ M' 65 = M 65 ∧ M' 22 60 = M 22 60 ∧ M' 32 = M 32) : Txt M' ns := by
  unfold Txt
  rw [e.1, e.2.1, e.2.2.1, e.2.2.2]
  exact h
theorem BagIs_of {j u : Nat} {m : Int32 → Nat} (h : BagIs M j u m) (e : ∀ v ∈ [9, 23, 24], M' v j = M v j) : BagIs M' j u m := by
  have e1 := e 9 (by simp); have e2 := e 23 (by simp); have e3 := e 24 (by simp)
  unfold BagIs
  rw [e1, e2, e3]
  exact h
/-- the variables of the versions -/
def vvC : List Nat := [10, 11, 12, 13, 14, 15, 16, 17, 8, 22, 9, 23, 24]
def vvM : List Nat := [33, 34, 35, 36, 39, 38, 40, 41, 37, 42, 44, 43]
theorem Ver1_of (h : Ver1 M np nt nw nhd i) (e : ∀ v ∈ vvC, M' v i = M v i) (e' : ∀ v ∈ vvM, M' v 0 = M v 0) : Ver1 M' np nt nw nhd i := by
  unfold vvC at e
  unfold vvM at e'
  have a1 := e 10 (by simp); have a2 := e 11 (by simp); have a3 := e 12 (by simp); have a4 := e 13 (by simp); have a5 := e 14 (by simp); have a6 := e 15 (by simp); have a7 := e 16 (by simp); have a8 := e 17 (by simp); have a9 := e 8 (by simp); have a10 := e 22 (by simp); have a11 := e 9 (by simp); have a12 := e 23 (by simp); have a13 := e 24 (by simp)
  have b1 := e' 33 (by simp); have b2 := e' 34 (by simp); have b3 := e' 35 (by simp); have b4 := e' 36 (by simp); have b5 := e' 39 (by simp); have b6 := e' 38 (by simp); have b7 := e' 40 (by simp); have b8 := e' 41 (by simp); have b9 := e' 37 (by simp); have b10 := e' 42 (by simp); have b11 := e' 44 (by simp); have b12 := e' 43 (by simp)
  unfold Ver1 BagIs at *
  simp only [a1, a2, a3, a4, a5, a6, a7, a8, a9, a10, a11, a12, a13, b1, b2, b3, b4, b5, b6, b7, b8, b9, b10, b11, b12] at h ⊢
  exact h
theorem Ver_of (h : Ver M np nt nw nv nhd) (e : ∀ v ∈ [4, 64, 5, 67], M' v = M v) (ec : ∀ v ∈ vvC, ∀ j, j < 60 → M' v j = M v j) (em : ∀ v ∈ vvM, M' v 0 = M v 0) : Ver M' np nt nw nv nhd := by
  have e1 := e 4 (by simp); have e2 := e 64 (by simp); have e3 := e 5 (by simp); have e4 := e 67 (by simp)
  refine ⟨by rw [e1]; exact h.a, by rw [e2]; exact h.b, h.le, ⟨by rw [e3]; exact h.h.1, by rw [e4]; exact h.h.2.1, ?_⟩, fun i hi => Ver1_of (h.v i hi) (fun v hv => ec v hv i (Nat.lt_of_lt_of_le hi h.le)) em, fun i hi h6 => ?_⟩
  · refine Nat.le_trans h.h.2.2 (Nat.le_of_eq (congrArg List.length (List.filter_congr fun i hi => ?_)))
    rw [ec 14 (by simp [vvC]) i (Nat.lt_of_lt_of_le (List.mem_range.mp hi) h.le)]
  · have h9 := h.new i hi h6
    rw [ec 14 (by simp [vvC]) i h6, ec 15 (by simp [vvC]) i h6, ec 16 (by simp [vvC]) i h6, ec 17 (by simp [vvC]) i h6, em 38 (by simp [vvM]), em 41 (by simp [vvM])]
    exact h9
theorem Hts_of (h : Hts M nv nh) (e : ∀ v ∈ [6, 66, 7, 68, 55, 45, 56, 46, 57, 47, 58, 48], M' v = M v) : Hts M' nv nh := by
  have e1 := e 6 (by simp); have e2 := e 66 (by simp); have e3 := e 7 (by simp); have e4 := e 68 (by simp); have e5 := e 55 (by simp); have e6 := e 45 (by simp)
  have e7 := e 56 (by simp); have e8 := e 46 (by simp); have e9 := e 57 (by simp); have e10 := e 47 (by simp); have e11 := e 58 (by simp); have e12 := e 48 (by simp)
  unfold Hts
  rw [e1, e2, e3, e4, e5, e6, e7, e8, e9, e10, e11, e12]
  exact h
theorem Lst_of (h : Lst M nh) (e : ∀ v ∈ [49, 58, 10, 55, 11, 56], M' v = M v) : Lst M' nh := by
  have e1 := e 49 (by simp); have e2 := e 58 (by simp); have e3 := e 10 (by simp); have e4 := e 55 (by simp); have e5 := e 11 (by simp); have e6 := e 56 (by simp)
  unfold Lst lostBy at *
  rw [e1, e2, e3, e4, e5, e6]
  exact h
theorem vcount_of (hv : nv ≤ 60) (e : M' 38 = M 38 ∧ ∀ j, j < 60 → M' 22 j = M 22 j ∧ M' 8 j = M 8 j) : vcount M' nv = vcount M nv := by
  funext x
  refine congrArg List.length (List.filter_congr fun i hi => ?_)
  have h6 := Nat.lt_of_lt_of_le (List.mem_range.mp hi) hv
  rw [e.1, (e.2 i h6).1, (e.2 i h6).2]
theorem Idx_of (h : Idx M nv) (hv : nv ≤ 60) (e : ∀ v ∈ [9, 23, 24], M' v 60 = M v 60) (e' : M' 38 = M 38 ∧ ∀ j, j < 60 → M' 22 j = M 22 j ∧ M' 8 j = M 8 j) : Idx M' nv := by
  obtain ⟨u, hu⟩ := h
  exact ⟨u, by rw [vcount_of hv e']; exact BagIs_of hu e⟩
end FR
/-- all groups at once, for a step that leaves the versions, the hits and the index -/
theorem inv_tail {M M' : Mem} {nc np nt nw ns nv nhd nh nc' np' nt' nw' ns' : Nat} (h : InvN M nc np nt nw ns nv nhd nh) (h1 : Cls M' nc') (h2 : Pup M' nc' np') (h3 : Tsk M' nc' nt') (h4 : Clk M' nw') (h5 : Txt M' ns') (hv : Ver M np' nt' nw' nv nhd) (e : ∀ v ∈ [4, 64, 5, 67, 6, 66, 7, 68, 55, 45, 56, 46, 57, 47, 58, 48, 49], M' v = M v) (ec : ∀ v ∈ vvC, ∀ j, j ≤ 60 → (v = 8 ∨ v = 22 → j < 60) → M' v j = M v j) (em : ∀ v ∈ vvM, M' v = M v) (e10 : M' 10 = M 10) (e11 : M' 11 = M 11) : Inv M' := by
  have ec' : ∀ v ∈ vvC, ∀ j, j < 60 → M' v j = M v j := fun v hv j hj => ec v hv j (Nat.le_of_lt hj) (fun _ => hj)
  refine ⟨nc', np', nt', nw', ns', nv, nhd, nh, h1, h2, h3, h4, h5, Ver_of hv (fun v hv => e v (by simp at hv ⊢; omega)) ec' (fun v hv => by rw [em v hv]), Hts_of h.hts (fun v hv => e v (by simp at hv ⊢; omega)), Lst_of h.lst (fun v hv => ?_), Idx_of h.idx h.ver.le (fun v hv => ?_) ⟨em 38 (by simp [vvM]), fun j hj => ⟨ec' 22 (by simp [vvC]) j hj, ec' 8 (by simp [vvC]) j hj⟩⟩⟩
  · simp only [List.mem_cons, List.not_mem_nil, or_false] at hv
    rcases hv with rfl | rfl | rfl | rfl | rfl | rfl
    · exact e 49 (by simp)
    · exact e 58 (by simp)
    · exact e10
    · exact e 55 (by simp)
    · exact e11
    · exact e 56 (by simp)
  · simp only [List.mem_cons, List.not_mem_nil, or_false] at hv
    rcases hv with rfl | rfl | rfl
    · exact ec 9 (by simp [vvC]) 60 (by omega) (by omega)
    · exact ec 23 (by simp [vvC]) 60 (by omega) (by omega)
    · exact ec 24 (by simp [vvC]) 60 (by omega) (by omega)
