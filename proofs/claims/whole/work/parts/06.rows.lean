abbrev vwCl : List vw_C := [(RJ0, TJ0, 2), (RJx00060, TJx00060, 6), (RX0, TX0, 3), (RX1, TX1, 4), (RX2, TX2, 5), (RX3, TX3, 2), (RX4, TX4, 10), (RX5, TX5, 17), (RX6, TX6, 35)]
/-! memory: M v j i is the int that variable v of object j holds at place i (0 for a field) -/
abbrev Mem : Type := Nat → Nat → Nat → Int32
abbrev XX : Type := Int64 × UInt64
def up (M : Mem) (v j i : Nat) (y : Int32) : Mem := fun v' j' i' => if v' = v ∧ j' = j ∧ i' = i then y else M v' j' i'
def upA (M : Mem) (v j : Nat) (f : Nat → Int32) : Mem := fun v' j' i' => if v' = v ∧ j' = j then f i' else M v' j' i'
/-! the cells of the whole system, numbered as they are made -/
def cText (j : Nat) : Nat := if j < 60 then 28 + 6 * j else 4
def cCodes (j : Nat) : Nat := cText j + 1
def cBag (j : Nat) : Nat := if j < 60 then 30 + 6 * j else 7 + 3 * (j - 60)
def cKeys (j : Nat) : Nat := cBag j + 1
def cCounts (j : Nat) : Nat := cBag j + 2
def cVer (j : Nat) : Nat := 27 + 6 * j
def cTask (j : Nat) : Nat := 17 + j
def cHit (j : Nat) : Nat := 387 + j
def cMA (v : Nat) : Nat := 403 + v
def bl (j : Nat) : Nat := if j < 60 ∨ j = 62 then 37 else 2220
def ml (v : Nat) : Nat := if v = 25 then 4 else if v = 26 then 12 else if v < 32 then 10 else if v = 32 then 40 else if v < 42 then 60 else if v < 44 then 2400 else if v = 44 then 60 else if v < 49 then 40 else 120
def mt (v : Nat) : Nat := if v = 31 then 1 else if v = 49 then 2 else 0
def wHW (ad : Nat → Nat) (M : Mem) : va_E := .inr (7, [.ref (ad 1), .int (M 0 0 0), .ref (ad 2), .int (M 1 0 0), .ref (ad 3), .int (M 2 0 0), .int (M 3 0 0), .ref (ad (cText 60)), .ref (ad 6), .int (M 4 0 0), .int (M 5 0 0), .ref (ad (cBag 60)), .ref (ad (cBag 61)), .ref (ad (cBag 62)), .ref (ad 16), .int (M 6 0 0), .int (M 7 0 0)])
def wText (ad : Nat → Nat) (M : Mem) (i : Nat) : va_E := .inr (5, [.ref (ad (cCodes i)), .int (M 8 i 0)])
def wBag (ad : Nat → Nat) (M : Mem) (i : Nat) : va_E := .inr (2, [.ref (ad (cKeys i)), .ref (ad (cCounts i)), .int (M 9 i 0)])
def wVer (ad : Nat → Nat) (M : Mem) (i : Nat) : va_E := .inr (6, [.int (M 10 i 0), .int (M 11 i 0), .int (M 12 i 0), .int (M 13 i 0), .int (M 14 i 0), .int (M 15 i 0), .int (M 16 i 0), .int (M 17 i 0), .ref (ad (cText i)), .ref (ad (cBag i))])
def wTask (M : Mem) (i : Nat) : va_E := .inr (4, [.int (M 50 i 0), .int (M 51 i 0), .int (M 52 i 0), .int (M 53 i 0), .int (M 54 i 0)])
def wHit (M : Mem) (i : Nat) : va_E := .inr (3, [.int (M 55 i 0), .int (M 56 i 0), .int (M 57 i 0), .int (M 58 i 0)])
def modFs (ad : Nat → Nat) (M : Mem) : List Value := [.int (M 60 0 0), .int (M 61 0 0), .int (M 62 0 0), .int (M 63 0 0), .int (M 64 0 0), .int (M 65 0 0), .int (M 66 0 0), .int (M 67 0 0), .int (M 68 0 0), .int (M 69 0 0),
  .ref (ad (cMA 25)), .ref (ad (cMA 26)), .ref (ad (cMA 27)), .ref (ad (cMA 28)), .ref (ad (cMA 29)), .ref (ad (cMA 30)), .ref (ad (cMA 31)), .ref (ad (cMA 32)), .ref (ad (cMA 33)), .ref (ad (cMA 34)), .ref (ad (cMA 35)), .ref (ad (cMA 36)), .ref (ad (cMA 37)), .ref (ad (cMA 38)), .ref (ad (cMA 39)), .ref (ad (cMA 40)), .ref (ad (cMA 41)), .ref (ad (cMA 42)), .ref (ad (cMA 43)), .ref (ad (cMA 44)), .ref (ad (cMA 45)), .ref (ad (cMA 46)), .ref (ad (cMA 47)), .ref (ad (cMA 48)), .ref (ad (cMA 49))]
def wMod (ad : Nat → Nat) (M : Mem) : va_E := .inr (8, modFs ad M)
def wI (cA : ClassId) (n : Nat) (f : Nat → Int32) : va_E := .inl (cA, n, .inl f)
def wR (cA : ClassId) (n : Nat) (f : Nat → Option Nat) : va_E := .inl (cA, n, .inr (.inr (.inr (.inr f))))
def wc (cy : Nat → ClassId) (ad : Nat → Nat) (M : Mem) (x : XX) (k : Nat) : va_E :=
  if k = 0 then wHW ad M
  else if k = 1 then wI (cy 0) 4 (M 20 0)
  else if k = 2 then wI (cy 0) 12 (M 21 0)
  else if k = 3 then wR (cy 5) 10 (fun i => some (ad (cTask i)))
  else if k = 4 then wText ad M 60
  else if k = 5 then wI (cy 0) 40 (M 22 60)
  else if k = 6 then wR (cy 6) 60 (fun i => some (ad (cVer i)))
  else if k < 16 then
    (if (k - 7) % 3 = 0 then wBag ad M (60 + (k - 7) / 3)
     else if (k - 7) % 3 = 1 then wI (cy 0) (bl (60 + (k - 7) / 3)) (M 23 (60 + (k - 7) / 3))
     else wI (cy 0) (bl (60 + (k - 7) / 3)) (M 24 (60 + (k - 7) / 3)))
  else if k = 16 then wR (cy 7) 40 (fun i => some (ad (cHit i)))
  else if k < 27 then wTask M (k - 17)
  else if k < 387 then
    (if (k - 27) % 6 = 0 then wVer ad M ((k - 27) / 6)
     else if (k - 27) % 6 = 1 then wText ad M ((k - 27) / 6)
     else if (k - 27) % 6 = 2 then wI (cy 0) 40 (M 22 ((k - 27) / 6))
     else if (k - 27) % 6 = 3 then wBag ad M ((k - 27) / 6)
     else if (k - 27) % 6 = 4 then wI (cy 0) (bl ((k - 27) / 6)) (M 23 ((k - 27) / 6))
     else wI (cy 0) (bl ((k - 27) / 6)) (M 24 ((k - 27) / 6)))
  else if k < 427 then wHit M (k - 387)
  else if k = 427 then wMod ad M
  else if k < 453 then wI (cy (mt (k - 403))) (ml (k - 403)) (M (k - 403) 0)
  else if k = 453 then .inl (cy 3, 1, .inr (.inl (fun _ => x.1)))
  else .inl (cy 4, 1, .inr (.inr (.inr (.inl (fun _ => x.2)))))
/-- the cell that holds a variable -/
def ow (v j : Nat) : Nat := if v < 8 then 0 else if v = 8 then cText j else if v = 9 then cBag j else if v < 18 then cVer j else if v < 20 then 455 else if v = 20 then 1 else if v = 21 then 2 else if v = 22 then cCodes j else if v = 23 then cKeys j else if v = 24 then cCounts j else if v < 50 then cMA v else if v < 55 then cTask j else if v < 60 then cHit j else 427
theorem wc_ext {cy : Nat → ClassId} {ad : Nat → Nat} {M M' : Mem} {x : XX} {k : Nat} (h : ∀ v j i, ow v j = k → M v j i = M' v j i) : wc cy ad M x k = wc cy ad M' x k := by
  have hA : ∀ v j, ow v j = k → M v j = M' v j := fun v j e => funext fun i => h v j i e
  unfold wc
  by_cases h0 : k = 0
  · subst h0
    simp only [if_true, wHW]
    rw [h 0 0 0 rfl, h 1 0 0 rfl, h 2 0 0 rfl, h 3 0 0 rfl, h 4 0 0 rfl, h 5 0 0 rfl, h 6 0 0 rfl, h 7 0 0 rfl]
  rw [if_neg h0, if_neg h0]
  by_cases h1 : k = 1
  · subst h1
    rw [if_pos rfl, if_pos rfl, hA 20 0 rfl]
  rw [if_neg h1, if_neg h1]
  by_cases h2 : k = 2
  · subst h2
    rw [if_pos rfl, if_pos rfl, hA 21 0 rfl]
  rw [if_neg h2, if_neg h2]
  by_cases h3 : k = 3
  · subst h3
    rfl
  rw [if_neg h3, if_neg h3]
  by_cases h4 : k = 4
  · subst h4
    rw [if_pos rfl, if_pos rfl]
    simp only [wText]
    rw [h 8 60 0 rfl]
  rw [if_neg h4, if_neg h4]
  by_cases h5 : k = 5
  · subst h5
    rw [if_pos rfl, if_pos rfl, hA 22 60 rfl]
  rw [if_neg h5, if_neg h5]
  by_cases h6 : k = 6
  · subst h6
    rfl
  rw [if_neg h6, if_neg h6]
  by_cases h16 : k < 16
  · rw [if_pos h16, if_pos h16]
    have e1 : cBag (60 + (k - 7) / 3) = k - (k - 7) % 3 := by unfold cBag; rw [if_neg (by omega)]; omega
    by_cases r0 : (k - 7) % 3 = 0
    · rw [if_pos r0, if_pos r0]
      simp only [wBag]
      rw [h 9 (60 + (k - 7) / 3) 0 (by show cBag _ = k; omega)]
    rw [if_neg r0, if_neg r0]
    by_cases r1 : (k - 7) % 3 = 1
    · rw [if_pos r1, if_pos r1, hA 23 (60 + (k - 7) / 3) (by show cBag _ + 1 = k; omega)]
    rw [if_neg r1, if_neg r1, hA 24 (60 + (k - 7) / 3) (by show cBag _ + 2 = k; omega)]
  rw [if_neg h16, if_neg h16]
  by_cases h17 : k = 16
  · subst h17
    rfl
  rw [if_neg h17, if_neg h17]
  by_cases h27 : k < 27
  · rw [if_pos h27, if_pos h27]
    simp only [wTask]
    have e : cTask (k - 17) = k := by unfold cTask; omega
    rw [h 50 (k - 17) 0 e, h 51 (k - 17) 0 e, h 52 (k - 17) 0 e, h 53 (k - 17) 0 e, h 54 (k - 17) 0 e]
  rw [if_neg h27, if_neg h27]
  by_cases h387 : k < 387
  · rw [if_pos h387, if_pos h387]
    have eV : cVer ((k - 27) / 6) = k - (k - 27) % 6 := by unfold cVer; omega
    have eT : cText ((k - 27) / 6) = k - (k - 27) % 6 + 1 := by unfold cText; rw [if_pos (by omega)]; omega
    have eB : cBag ((k - 27) / 6) = k - (k - 27) % 6 + 3 := by unfold cBag; rw [if_pos (by omega)]; omega
    by_cases r0 : (k - 27) % 6 = 0
    · rw [if_pos r0, if_pos r0]
      simp only [wVer]
      have e : cVer ((k - 27) / 6) = k := by omega
      rw [h 10 _ 0 e, h 11 _ 0 e, h 12 _ 0 e, h 13 _ 0 e, h 14 _ 0 e, h 15 _ 0 e, h 16 _ 0 e, h 17 _ 0 e]
    rw [if_neg r0, if_neg r0]
    by_cases r1 : (k - 27) % 6 = 1
    · rw [if_pos r1, if_pos r1]
      simp only [wText]
      rw [h 8 _ 0 (show cText ((k - 27) / 6) = k by omega)]
    rw [if_neg r1, if_neg r1]
    by_cases r2 : (k - 27) % 6 = 2
    · rw [if_pos r2, if_pos r2, hA 22 _ (show cText ((k - 27) / 6) + 1 = k by omega)]
    rw [if_neg r2, if_neg r2]
    by_cases r3 : (k - 27) % 6 = 3
    · rw [if_pos r3, if_pos r3]
      simp only [wBag]
      rw [h 9 _ 0 (show cBag ((k - 27) / 6) = k by omega)]
    rw [if_neg r3, if_neg r3]
    by_cases r4 : (k - 27) % 6 = 4
    · rw [if_pos r4, if_pos r4, hA 23 _ (show cBag ((k - 27) / 6) + 1 = k by omega)]
    rw [if_neg r4, if_neg r4, hA 24 _ (show cBag ((k - 27) / 6) + 2 = k by omega)]
  rw [if_neg h387, if_neg h387]
  by_cases h427 : k < 427
  · rw [if_pos h427, if_pos h427]
    simp only [wHit]
    have e : cHit (k - 387) = k := by unfold cHit; omega
    rw [h 55 (k - 387) 0 e, h 56 (k - 387) 0 e, h 57 (k - 387) 0 e, h 58 (k - 387) 0 e]
  rw [if_neg h427, if_neg h427]
  by_cases h428 : k = 427
  · subst h428
    rw [if_pos rfl, if_pos rfl]
    simp only [wMod, modFs]
    rw [h 60 0 0 rfl, h 61 0 0 rfl, h 62 0 0 rfl, h 63 0 0 rfl, h 64 0 0 rfl, h 65 0 0 rfl, h 66 0 0 rfl, h 67 0 0 rfl, h 68 0 0 rfl, h 69 0 0 rfl]
  rw [if_neg h428, if_neg h428]
  by_cases h453 : k < 453
  · rw [if_pos h453, if_pos h453]
    rw [hA (k - 403) 0 (by unfold ow cMA; rw [if_neg (by omega), if_neg (by omega), if_neg (by omega), if_neg (by omega), if_neg (by omega), if_neg (by omega), if_neg (by omega), if_neg (by omega), if_neg (by omega), if_neg (by omega), if_pos (by omega)]; omega)]
  rw [if_neg h453, if_neg h453]
def WL (cy : Nat → ClassId) (ad : Nat → Nat) (M : Mem) (x : XX) : va_W := (List.range 455).map (fun k => (ad k, wc cy ad M x k))
theorem WL_at {cy : Nat → ClassId} {ad : Nat → Nat} {M : Mem} {x : XX} {k : Nat} (hk : k < 455) : (WL cy ad M x)[k]? = some (ad k, wc cy ad M x k) := by
  unfold WL
  rw [List.getElem?_map, List.getElem?_range hk]
  rfl
theorem WL_len {cy : Nat → ClassId} {ad : Nat → Nat} {M : Mem} {x : XX} : (WL cy ad M x).length = 455 := by simp [WL]
theorem WL_inv {cy : Nat → ClassId} {ad : Nat → Nat} {M : Mem} {x : XX} {k : Nat} {q : Nat × va_E} (h : (WL cy ad M x)[k]? = some q) : k < 455 ∧ q = (ad k, wc cy ad M x k) := by
  have hk : k < 455 := by
    have := (List.getElem?_eq_some_iff.mp h).1
    rw [WL_len] at this
    exact this
  rw [WL_at hk] at h
  exact ⟨hk, (Option.some.inj h).symm⟩
theorem WL_set {cy : Nat → ClassId} {ad : Nat → Nat} {M M' : Mem} {x x' : XX} {k : Nat} {e : va_E} (hk : k < 455) (he : wc cy ad M' x' k = e) (ho : ∀ j, j ≠ k → wc cy ad M' x' j = wc cy ad M x j) : (WL cy ad M x).set k (ad k, e) = WL cy ad M' x' := by
  refine List.ext_getElem? fun j => ?_
  by_cases hj : j = k
  · subst hj
    rw [List.getElem?_set_self (by rw [WL_len]; exact hk), WL_at hk, he]
  · rw [List.getElem?_set_ne (Ne.symm hj)]
    by_cases h5 : j < 455
    · rw [WL_at h5, WL_at h5, ho j hj]
    · rw [List.getElem?_eq_none (by rw [WL_len]; omega), List.getElem?_eq_none (by rw [WL_len]; omega)]
theorem wc_up {cy : Nat → ClassId} {ad : Nat → Nat} {M : Mem} {x : XX} {v j i k : Nat} {y : Int32} (hk : k ≠ ow v j) : wc cy ad (up M v j i y) x k = wc cy ad M x k := by
  refine wc_ext fun v' j' i' e => ?_
  unfold up
  rw [if_neg]
  rintro ⟨rfl, rfl, -⟩
  exact hk e.symm
theorem wc_upA {cy : Nat → ClassId} {ad : Nat → Nat} {M : Mem} {x : XX} {v j k : Nat} {f : Nat → Int32} (hk : k ≠ ow v j) : wc cy ad (upA M v j f) x k = wc cy ad M x k := by
  refine wc_ext fun v' j' i' e => ?_
  unfold upA
  rw [if_neg]
  rintro ⟨rfl, rfl⟩
  exact hk e.symm
/-- a place of the world, and what lies there -/
def At_ (cy : Nat → ClassId) (ad : Nat → Nat) (M : Mem) (x : XX) (k : Nat) (e : va_E) : Prop := k < 455 ∧ wc cy ad M x k = e
section ATS
variable {cy : Nat → ClassId} {ad : Nat → Nat} {M : Mem} {x : XX}
theorem at_HW : At_ cy ad M x 0 (wHW ad M) := ⟨by omega, rfl⟩
theorem at_a20 : At_ cy ad M x 1 (wI (cy 0) 4 (M 20 0)) := ⟨by omega, rfl⟩
theorem at_a21 : At_ cy ad M x 2 (wI (cy 0) 12 (M 21 0)) := ⟨by omega, rfl⟩
theorem at_tasks : At_ cy ad M x 3 (wR (cy 5) 10 (fun i => some (ad (cTask i)))) := ⟨by omega, rfl⟩
theorem at_vers : At_ cy ad M x 6 (wR (cy 6) 60 (fun i => some (ad (cVer i)))) := ⟨by omega, rfl⟩
theorem at_hits : At_ cy ad M x 16 (wR (cy 7) 40 (fun i => some (ad (cHit i)))) := ⟨by omega, rfl⟩
theorem at_Mod : At_ cy ad M x 427 (wMod ad M) := ⟨by omega, rfl⟩
theorem at_out : At_ cy ad M x 453 (.inl (cy 3, 1, .inr (.inl (fun _ => x.1)))) := ⟨by omega, rfl⟩
theorem at_outD : At_ cy ad M x 454 (.inl (cy 4, 1, .inr (.inr (.inr (.inl (fun _ => x.2)))))) := ⟨by omega, rfl⟩
theorem at_Task {j : Nat} (h : j < 10) : At_ cy ad M x (cTask j) (wTask M j) := by
  refine ⟨by unfold cTask; omega, ?_⟩
  unfold wc cTask
  rw [if_neg (by omega), if_neg (by omega), if_neg (by omega), if_neg (by omega), if_neg (by omega), if_neg (by omega), if_neg (by omega), if_neg (by omega), if_neg (by omega), if_pos (by omega), Nat.add_sub_cancel_left]
theorem at_Hit {j : Nat} (h : j < 40) : At_ cy ad M x (cHit j) (wHit M j) := by
  refine ⟨by unfold cHit; omega, ?_⟩
  unfold wc cHit
  rw [if_neg (by omega), if_neg (by omega), if_neg (by omega), if_neg (by omega), if_neg (by omega), if_neg (by omega), if_neg (by omega), if_neg (by omega), if_neg (by omega), if_neg (by omega), if_neg (by omega), if_pos (by omega), Nat.add_sub_cancel_left]
theorem at_MA {v : Nat} (h1 : 25 ≤ v) (h2 : v < 50) : At_ cy ad M x (cMA v) (wI (cy (mt v)) (ml v) (M v 0)) := by
  refine ⟨by unfold cMA; omega, ?_⟩
  unfold wc cMA
  rw [if_neg (by omega), if_neg (by omega), if_neg (by omega), if_neg (by omega), if_neg (by omega), if_neg (by omega), if_neg (by omega), if_neg (by omega), if_neg (by omega), if_neg (by omega), if_neg (by omega), if_neg (by omega), if_neg (by omega), if_pos (by omega), Nat.add_sub_cancel_left]
theorem wc_six {i r : Nat} (hi : i < 60) (hr : r < 6) : wc cy ad M x (27 + 6 * i + r) =
    (if r = 0 then wVer ad M i else if r = 1 then wText ad M i else if r = 2 then wI (cy 0) 40 (M 22 i) else if r = 3 then wBag ad M i else if r = 4 then wI (cy 0) (bl i) (M 23 i) else wI (cy 0) (bl i) (M 24 i)) := by
  unfold wc
  rw [if_neg (by omega), if_neg (by omega), if_neg (by omega), if_neg (by omega), if_neg (by omega), if_neg (by omega), if_neg (by omega), if_neg (by omega), if_neg (by omega), if_neg (by omega), if_pos (by omega)]
  rw [show (27 + 6 * i + r - 27) % 6 = r by omega, show (27 + 6 * i + r - 27) / 6 = i by omega]
theorem wc_three {i r : Nat} (hi : i < 3) (hr : r < 3) : wc cy ad M x (7 + 3 * i + r) =
    (if r = 0 then wBag ad M (60 + i) else if r = 1 then wI (cy 0) (bl (60 + i)) (M 23 (60 + i)) else wI (cy 0) (bl (60 + i)) (M 24 (60 + i))) := by
  unfold wc
  rw [if_neg (by omega), if_neg (by omega), if_neg (by omega), if_neg (by omega), if_neg (by omega), if_neg (by omega), if_neg (by omega), if_pos (by omega)]
  rw [show (7 + 3 * i + r - 7) % 3 = r by omega, show (7 + 3 * i + r - 7) / 3 = i by omega]
theorem at_Ver {j : Nat} (h : j < 60) : At_ cy ad M x (cVer j) (wVer ad M j) := ⟨by unfold cVer; omega, wc_six (r := 0) h (by omega)⟩
theorem at_Text {j : Nat} (h : j < 61) : At_ cy ad M x (cText j) (wText ad M j) := by
  by_cases hj : j < 60
  · have e : cText j = 27 + 6 * j + 1 := by unfold cText; rw [if_pos hj]; omega
    rw [e]
    exact ⟨by omega, wc_six (r := 1) hj (by omega)⟩
  · have e : j = 60 := by omega
    subst e
    exact ⟨by decide, rfl⟩
theorem at_codes {j : Nat} (h : j < 61) : At_ cy ad M x (cCodes j) (wI (cy 0) 40 (M 22 j)) := by
  unfold cCodes
  by_cases hj : j < 60
  · have e : cText j + 1 = 27 + 6 * j + 2 := by unfold cText; rw [if_pos hj]; omega
    rw [e]
    exact ⟨by omega, wc_six (r := 2) hj (by omega)⟩
  · have e : j = 60 := by omega
    subst e
    exact ⟨by decide, rfl⟩
theorem at_Bag {j : Nat} (h : j < 63) : At_ cy ad M x (cBag j) (wBag ad M j) := by
  by_cases hj : j < 60
  · have e : cBag j = 27 + 6 * j + 3 := by unfold cBag; rw [if_pos hj]; omega
    rw [e]
    exact ⟨by omega, wc_six (r := 3) hj (by omega)⟩
  · have e : cBag j = 7 + 3 * (j - 60) + 0 := by unfold cBag; rw [if_neg hj]; rfl
    rw [e]
    refine ⟨by omega, (wc_three (r := 0) (by omega) (by omega)).trans ?_⟩
    rw [if_pos rfl, show 60 + (j - 60) = j by omega]
theorem at_keys {j : Nat} (h : j < 63) : At_ cy ad M x (cKeys j) (wI (cy 0) (bl j) (M 23 j)) := by
  unfold cKeys
  by_cases hj : j < 60
  · have e : cBag j + 1 = 27 + 6 * j + 4 := by unfold cBag; rw [if_pos hj]; omega
    rw [e]
    exact ⟨by omega, wc_six (r := 4) hj (by omega)⟩
  · have e : cBag j + 1 = 7 + 3 * (j - 60) + 1 := by unfold cBag; rw [if_neg hj]
    rw [e]
    refine ⟨by omega, (wc_three (r := 1) (by omega) (by omega)).trans ?_⟩
    rw [if_neg (by omega), if_pos rfl, show 60 + (j - 60) = j by omega]
theorem at_counts {j : Nat} (h : j < 63) : At_ cy ad M x (cCounts j) (wI (cy 0) (bl j) (M 24 j)) := by
  unfold cCounts
  by_cases hj : j < 60
  · have e : cBag j + 2 = 27 + 6 * j + 5 := by unfold cBag; rw [if_pos hj]; omega
    rw [e]
    exact ⟨by omega, wc_six (r := 5) hj (by omega)⟩
  · have e : cBag j + 2 = 7 + 3 * (j - 60) + 2 := by unfold cBag; rw [if_neg hj]
    rw [e]
    refine ⟨by omega, (wc_three (r := 2) (by omega) (by omega)).trans ?_⟩
    rw [if_neg (by omega), if_neg (by omega), show 60 + (j - 60) = j by omega]
end ATS
/-! words of a decompiled method: let, a guarded place of an array, a guard, a call that returns, a call that may throw -/
def q_lt {α β : Type} (a : α) (k : α → β) : β := k a
def q_ib (i : Int32) (n : Nat) : Bool := !(decide (i < 0)) && decide (i.toNatClampNeg < n)
def q_ax {β : Type} (i : Int32) (n : Nat) (k : Nat → Option β) : Option β := if q_ib i n = true then k i.toNatClampNeg else none
def q_gd {β : Type} (c : Bool) (k : Option β) : Option β := if c = true then k else none
def q_bn {α β : Type} (f : Option (Mem × α)) (k : Mem → α → Option β) : Option β := match f with
  | none => none
  | some r => k r.1 r.2
def q_bx {α β : Type} (f : Option (Mem × (α ⊕ Nat))) (k : Mem → α → Option (Mem × (β ⊕ Nat))) : Option (Mem × (β ⊕ Nat)) := match f with
  | none => none
  | some (M1, .inl r) => k M1 r
  | some (M1, .inr n) => some (M1, .inr n)
def q_acg (sp dp n : Int32) (n0 n1 : Nat) : Bool := !(decide (sp < 0)) && !(decide (dp < 0)) && !(decide (n < 0)) && decide (sp.toNatClampNeg + n.toNatClampNeg ≤ n0) && decide (dp.toNatClampNeg + n.toNatClampNeg ≤ n1)
def q_ac {β : Type} (sp dp n : Int32) (n0 n1 : Nat) (k : Nat → Nat → Nat → Option β) : Option β := if q_acg sp dp n n0 n1 = true then k sp.toNatClampNeg dp.toNatClampNeg n.toNatClampNeg else none
theorem q_ib_in {i : Int32} {n : Nat} (h : q_ib i n = true) : vp_in i n ∧ i.toNatClampNeg < n := by
  simp only [q_ib, Bool.and_eq_true, Bool.not_eq_true', decide_eq_false_iff_not, decide_eq_true_eq] at h
  exact ⟨fun z => z.elim (fun z => h.1 z) (fun z => by omega), h.2⟩
theorem q_ax_in {β : Type} {i : Int32} {n : Nat} {k : Nat → Option β} {r : β} (h : q_ax i n k = some r) : vp_in i n ∧ i.toNatClampNeg < n ∧ k i.toNatClampNeg = some r := by
  unfold q_ax at h
  by_cases hb : q_ib i n = true
  · rw [if_pos hb] at h
    exact ⟨(q_ib_in hb).1, (q_ib_in hb).2, h⟩
  · rw [if_neg hb] at h
    cases h
theorem q_gd_in {β : Type} {c : Bool} {k : Option β} {r : β} (h : q_gd c k = some r) : c = true ∧ k = some r := by
  unfold q_gd at h
  by_cases hb : c = true
  · rw [if_pos hb] at h
    exact ⟨hb, h⟩
  · rw [if_neg hb] at h
    cases h
theorem q_bn_in {α β : Type} {f : Option (Mem × α)} {k : Mem → α → Option β} {r : β} (h : q_bn f k = some r) : ∃ M1 a, f = some (M1, a) ∧ k M1 a = some r := by
  cases f with
  | none => cases h
  | some q => exact ⟨q.1, q.2, rfl, h⟩
theorem q_bx_in {α β : Type} {f : Option (Mem × (α ⊕ Nat))} {k : Mem → α → Option (Mem × (β ⊕ Nat))} {M' : Mem} {o : β ⊕ Nat} (h : q_bx f k = some (M', o)) : (∃ M1 a, f = some (M1, .inl a) ∧ k M1 a = some (M', o)) ∨ ∃ n, f = some (M', .inr n) ∧ o = .inr n := by
  cases f with
  | none => cases h
  | some q =>
    obtain ⟨M1, a | n⟩ := q
    · exact Or.inl ⟨M1, a, rfl, h⟩
    · have h2 : some (M1, (Sum.inr n : β ⊕ Nat)) = some (M', o) := h
      cases h2
      exact Or.inr ⟨n, rfl, rfl⟩
/-! the worlds and contracts -/
def AA (ad : Nat → Nat) (sz : Nat) : Nat → Prop := fun q => (∃ k, k < 455 ∧ q = ad k) ∨ sz ≤ q
def tyL (cy : Nat → ClassId) : List (ClassId × FieldType) := [(cy 0, .int), (cy 1, .char), (cy 2, .boolean), (cy 3, .long), (cy 4, .double), (cy 5, .object "Homewatcher$Task"), (cy 6, .object "Homewatcher$Version"), (cy 7, .object "Homewatcher$Hit")]
def ZZ (A : Nat → Prop) (U : State) (H : Heap) : Prop := vx_Zq Bundle.tN "UNASSIGNED_STACK" Bundle.steD A U H ∧ vx_Zq Bundle.tN "SUPPRESSED_SENTINEL" Bundle.listD A U H
def q_strs : List (String × Nat × String) := [("Homewatcher", 346, "a number out of range"), ("Homewatcher", 72, "no more classes"), ("Homewatcher", 356, "no such class"), ("Homewatcher", 83, "no more pupils"), ("Homewatcher", 348, "no such rule"), ("Homewatcher", 93, "no more tasks"), ("Homewatcher", 115, "behind the last minute"), ("Homewatcher", 352, "no such sign"), ("Homewatcher", 354, "no more signs"), ("Homewatcher", 132, "no such place"), ("Homewatcher", 147, "no such char"), ("Homewatcher", 358, "no such pupil"), ("Homewatcher", 360, "no such task"), ("Homewatcher", 362, "no such version"), ("Homewatcher", 165, "a task of another class"), ("Homewatcher", 172, "no parent for this version"), ("Homewatcher", 177, "no more versions"), ("Homewatcher", 212, "no such letter"), ("Homewatcher", 223, "it was handed in"), ("Homewatcher", 232, "too many hits"), ("Homewatcher", 250, "it is not in"), ("Homewatcher", 256, "the task was due"), ("Homewatcher", 275, "no version counts"), ("Homewatcher", 280, "it is frozen"), ("Homewatcher", 289, "no such shingle"), ("Homewatcher", 364, "no such hit"), ("Homewatcher", 315, "it was heard"), ("Homewatcher", 320, "no open hit"), ("Homewatcher", 332, "no versions"), ("Homewatcher", 335, "no marks")]
def q_exs : List String := ["java/lang/IllegalArgumentException", "java/lang/IllegalStateException", "java/lang/IndexOutOfBoundsException", "java/util/NoSuchElementException", "java/lang/UnsupportedOperationException", "java/lang/ArithmeticException"]
def q_sups : List String := ["java/lang/RuntimeException", "java/lang/Exception", "java/lang/Throwable"]
def q_ncs : List (String × String) := [("java/lang/IllegalArgumentException", "java/lang/IllegalStateException"), ("java/lang/IllegalArgumentException", "java/lang/IndexOutOfBoundsException"), ("java/lang/IllegalArgumentException", "java/util/NoSuchElementException"), ("java/lang/IllegalArgumentException", "java/lang/UnsupportedOperationException"), ("java/lang/IllegalArgumentException", "java/lang/ArithmeticException"), ("java/lang/IllegalStateException", "java/lang/IllegalArgumentException"), ("java/lang/IllegalStateException", "java/lang/IndexOutOfBoundsException"), ("java/lang/IllegalStateException", "java/util/NoSuchElementException"), ("java/lang/IllegalStateException", "java/lang/UnsupportedOperationException"), ("java/lang/IllegalStateException", "java/lang/ArithmeticException"), ("java/lang/IndexOutOfBoundsException", "java/lang/IllegalArgumentException"), ("java/lang/IndexOutOfBoundsException", "java/lang/IllegalStateException"), ("java/lang/IndexOutOfBoundsException", "java/util/NoSuchElementException"), ("java/lang/IndexOutOfBoundsException", "java/lang/UnsupportedOperationException"), ("java/lang/IndexOutOfBoundsException", "java/lang/ArithmeticException"), ("java/util/NoSuchElementException", "java/lang/IllegalArgumentException"), ("java/util/NoSuchElementException", "java/lang/IllegalStateException"), ("java/util/NoSuchElementException", "java/lang/IndexOutOfBoundsException"), ("java/util/NoSuchElementException", "java/lang/UnsupportedOperationException"), ("java/util/NoSuchElementException", "java/lang/ArithmeticException"), ("java/lang/UnsupportedOperationException", "java/lang/IllegalArgumentException"), ("java/lang/UnsupportedOperationException", "java/lang/IllegalStateException"), ("java/lang/UnsupportedOperationException", "java/lang/IndexOutOfBoundsException"), ("java/lang/UnsupportedOperationException", "java/util/NoSuchElementException"), ("java/lang/UnsupportedOperationException", "java/lang/ArithmeticException"), ("java/lang/ArithmeticException", "java/lang/IllegalArgumentException"), ("java/lang/ArithmeticException", "java/lang/IllegalStateException"), ("java/lang/ArithmeticException", "java/lang/IndexOutOfBoundsException"), ("java/lang/ArithmeticException", "java/util/NoSuchElementException"), ("java/lang/ArithmeticException", "java/lang/UnsupportedOperationException")]
def VK (U : State) : Prop := (∀ q ∈ q_strs, ∃ a : Nat, vk_R q.1 q.2.1 q.2.2 a U) ∧ (∀ E ∈ q_exs, va_Nw (.castable E E) U) ∧ (∀ E ∈ q_sups, va_Nw (.declares (Bundle.initS E)) U) ∧ ∀ q ∈ q_ncs, va_Nc q.1 q.2 U
theorem VK.warm {s U : State} (hW : s.WarmedH U.vm) (h : VK s) : VK U := by
  refine ⟨fun q hq => ?_, fun E hE => va_Nw.warmC hW (h.2.1 E hE), fun E hE => va_Nw.warmD hW (h.2.2.1 E hE), fun q hq => va_Nc.moved hW.alike (h.2.2.2 q hq)⟩
  obtain ⟨a, ha⟩ := h.1 q hq
  exact ⟨a, vk_R.warm hW ha⟩
def Pw (D : va_G) (cy : Nat → ClassId) (ad : Nat → Nat) (x : XX) (M : Mem) (sz : Nat) (U : State) : Prop := U.heap.size = sz ∧ va_P D vwCl (WL cy ad M x) U.heap ∧ va_K D vwCl (tyL cy) U ∧ va_D (fun _ => True) (WL cy ad M x) ∧ ZZ (AA ad sz) U U.heap ∧ VK U
def Wd (D : va_G) (cy : Nat → ClassId) (ad : Nat → Nat) (x : XX) (s : State) (M : Mem) (H : Heap) (locs : List Loc) : Prop := va_P D vwCl (WL cy ad M x) H ∧ va_D (AA ad s.heap.size) (WL cy ad M x) ∧ va_S (AA ad s.heap.size) s.heap H locs
theorem wl_D {A : Nat → Prop} {cy : Nat → ClassId} {ad : Nat → Nat} {M M' : Mem} {x x' : XX} (h : va_D A (WL cy ad M x)) : va_D A (WL cy ad M' x') := by
  refine ⟨fun i j p q hi hj hpq => ?_, fun k q hk => ?_⟩
  · obtain ⟨h1, rfl⟩ := WL_inv hi
    obtain ⟨h2, rfl⟩ := WL_inv hj
    exact h.1 i j (ad i, wc cy ad M x i) (ad j, wc cy ad M x j) (WL_at h1) (WL_at h2) hpq
  · obtain ⟨h1, rfl⟩ := WL_inv hk
    exact h.2 k (ad k, wc cy ad M x k) (WL_at h1)
theorem wl_D2 {A : Nat → Prop} {cy : Nat → ClassId} {ad : Nat → Nat} {M : Mem} {x : XX} {sz : Nat} (h : va_D A (WL cy ad M x)) : va_D (AA ad sz) (WL cy ad M x) := h.weaken fun k q hk _ => by
  obtain ⟨h1, rfl⟩ := WL_inv hk
  exact Or.inl ⟨k, h1, rfl⟩
theorem Pw.blind {D : va_G} {cy : Nat → ClassId} {ad : Nat → Nat} {x : XX} {M : Mem} {sz : Nat} {av : List Value} : FrameBlind (va_Pc av (Pw D cy ad x M sz)) := by
  intro a U g mk q
  obtain ⟨q0, q1, qP, qK, qD, qZ, qV⟩ := q
  exact ⟨q0, q1, qP, va_K.moved (u := U) (U := U.calling g mk a) (Vm.Alike.refl U.vm) qK, qD, ⟨vx_Zq.moved (u := U) (U := U.calling g mk a) (Vm.Alike.refl U.vm) qZ.1, vx_Zq.moved (u := U) (U := U.calling g mk a) (Vm.Alike.refl U.vm) qZ.2⟩, VK.warm (s := U) (U := U.calling g mk a) (State.WarmedH.refl U) qV⟩
def q_xn (n : Nat) : String := match n with
  | 1 => "java/lang/IllegalArgumentException"
  | 2 => "java/lang/IllegalStateException"
  | 3 => "java/lang/IndexOutOfBoundsException"
  | 4 => "java/util/NoSuchElementException"
  | 5 => "java/lang/UnsupportedOperationException"
  | _ => "java/lang/ArithmeticException"
def q_QN (D : va_G) (cy : Nat → ClassId) (ad : Nat → Nat) (x' : XX) (M' : Mem) (rv : Option Value) (sz : Nat) : Array Value → State → Outcome → State → Prop := fun _ st oc t => oc = .returned rv ∧ va_P D vwCl (WL cy ad M' x') t.heap ∧ va_F (AA ad sz) st t
def q_QT (D : va_G) (cy : Nat → ClassId) (ad : Nat → Nat) (x' : XX) (M' : Mem) (out : Option Value ⊕ Nat) (sz : Nat) : Array Value → State → Outcome → State → Prop := fun _ st oc t => (∃ rv, out = .inl rv ∧ oc = .returned rv) ∧ va_P D vwCl (WL cy ad M' x') t.heap ∧ va_F (AA ad sz) st t
def q_XT (D : va_G) (cy : Nat → ClassId) (ad : Nat → Nat) (x' : XX) (M' : Mem) (out : Option Value ⊕ Nat) (sz : Nat) : String → State → State → Prop := fun E st t => (∃ n, out = .inr n ∧ E = q_xn n) ∧ va_P D vwCl (WL cy ad M' x') t.heap ∧ va_F (AA ad sz) st t
/-- a method that returns -/
def CN (l : Launch) (y : MethodName) (ws : List Cond) (rm : Room) (D : va_G) (cy : Nat → ClassId) (ad : Nat → Nat) (av : List Value) (x : XX) (M : Mem) (x' : XX) (M' : Mem) (rv : Option Value) (mc ms : Nat) : Prop := ∀ sz, Met l y ws rm (va_Pc av (Pw D cy ad x M sz)) (q_QN D cy ad x' M' rv sz) mc ms (AA ad sz)
/-- a method that may throw -/
def CT (l : Launch) (y : MethodName) (ws : List Cond) (rm : Room) (D : va_G) (cy : Nat → ClassId) (ad : Nat → Nat) (av : List Value) (x : XX) (M : Mem) (M' : Mem) (out : Option Value ⊕ Nat) (mc ms : Nat) : Prop := ∀ sz, vx_Met l y ws rm (va_Pc av (Pw D cy ad x M sz)) (q_QT D cy ad x M' out sz) (q_XT D cy ad x M' out sz) mc ms (AA ad sz)
def q_ou {α : Type} (f : α → Option Value) (o : α ⊕ Nat) : Option Value ⊕ Nat := match o with
  | .inl a => .inl (f a)
  | .inr n => .inr n
def q_vi (r : Int32) : Option Value := some (.int r)
def q_vl (r : Int64) : Option Value := some (.long r)
def q_vf (r : UInt32) : Option Value := some (.float r)
def q_vd (r : UInt64) : Option Value := some (.double r)
def q_vv (_ : Unit) : Option Value := none
/-- what a body's rows stand on -/
def MX (p : Program) (l : Launch) (s : State) (m : MethodId) (args : Array Value) (meth : Method) (c : Code) (D : va_G) (cy : Nat → ClassId) (ad : Nat → Nat) (cc : ByteArray) (own : String) (nL : Nat) (Ts : List Cond) (ret : Option FieldType) : Prop :=
  p.tables.exec = Jvm.exec ∧ c.code = cc ∧ c.maxLocals = nL ∧ s.vm.findClass own = some m.cls ∧ (∀ w ∈ Ts, w.before args s = true) ∧ meth.sig.returnType = ret ∧ meth.locks = false ∧ va_K D vwCl (tyL cy) s ∧ ZZ (AA ad s.heap.size) s s.heap ∧ VK s
section QR
variable {p : Program} {l : Launch} {e : Env} {R : Room} {s : State} {m : MethodId} {args : Array Value} {below : List Frame} {meth : Method} {c : Code} {D : va_G} {cy : Nat → ClassId} {ad : Nat → Nat} {x : XX} {cc : ByteArray} {own : String} {nL : Nat} {Ts : List Cond} {ret : Option FieldType} {M : Mem} {H : Heap} {locs : List Loc} {cells slots : Nat} {Q : State → Prop} {pc : Nat} {ls : Array Slot} {rest : List Value}
/-- a method's body, that returns -/
theorem q_startN {y : MethodName} {ws ws' : List Cond} {rm : Room} {av : List Value} {x' : XX} {M' : Mem} {rv : Option Value} {mc ms maxL : Nat} (hy : plainName y.cls = true) (hw : ws = Cond.code y cc maxL ret :: ws') (hlen : (lg_sl av).length ≤ maxL)
    (body : ∀ (p : Program) (e : Env) (s : State) (m : MethodId) (args : Array Value) (below : List Frame) (meth : Method) (c : Code) (ls : Array Slot), MX p l s m args meth c D cy ad cc y.cls maxL ws ret → Wd D cy ad x s M s.heap [] → lv_has ls maxL (lv_args 0 av) → meth.name = y.name →
      W p l e rm s m args below meth c s.heap [] 0 0 (MQ below (q_QN D cy ad x' M' rv s.heap.size) args s mc ms (AA ad s.heap.size)) (F0 m 0 ls [])) : CN l y ws rm D cy ad av x M x' M' rv mc ms := by
  intro sz
  refine Met.ofW (cc := cc) (maxL := maxL) (ret := ret) hy hw ?_
  intro p e s m args below meth c s₁ B hml hv
  obtain ⟨rfl, hsz, hP, hK, hD, hZ, hV⟩ := hv
  subst hsz
  have hl := lv_entry av (n := maxL) hlen
  rw [lg_entry_eq]
  generalize (lg_sl av ++ List.replicate (maxL - (lg_sl av).length) Slot.unset).toArray = ls at hl ⊢
  exact body p e s m _ below meth c ls ⟨B.exec, B.bytes, hml, findClass_of_methodNamed B.named, atoms_spec (ws := ws) B.pre, B.returns, B.notSynchronized, hK, hZ, hV⟩ ⟨hP, wl_D2 hD, va_S.rf⟩ hl (name_of_methodNamed B.named B.method).1
/-- a method's body, that may throw -/
theorem q_startT {y : MethodName} {ws ws' : List Cond} {rm : Room} {av : List Value} {M' : Mem} {out : Option Value ⊕ Nat} {mc ms maxL : Nat} (hy : plainName y.cls = true) (hw : ws = Cond.code y cc maxL ret :: ws') (hlen : (lg_sl av).length ≤ maxL)
    (body : ∀ (p : Program) (e : Env) (s : State) (m : MethodId) (args : Array Value) (below : List Frame) (meth : Method) (c : Code) (ls : Array Slot), MX p l s m args meth c D cy ad cc y.cls maxL ws ret → Wd D cy ad x s M s.heap [] → lv_has ls maxL (lv_args 0 av) → (∀ x ∈ c.exceptionTable.toList, False) →
      W p l e rm s m args below meth c s.heap [] 0 0 (vx_MQ below (q_QT D cy ad x M' out s.heap.size) (q_XT D cy ad x M' out s.heap.size) args s mc ms (AA ad s.heap.size)) (F0 m 0 ls [])) : CT l y ws rm D cy ad av x M M' out mc ms := by
  intro sz
  refine vx_ofW (cc := cc) (maxL := maxL) (ret := ret) hy hw ?_
  intro p e s m args below meth c s₁ B hml ht hv
  obtain ⟨rfl, hsz, hP, hK, hD, hZ, hV⟩ := hv
  subst hsz
  have hl := lv_entry av (n := maxL) hlen
  rw [lg_entry_eq]
  generalize (lg_sl av ++ List.replicate (maxL - (lg_sl av).length) Slot.unset).toArray = ls at hl ⊢
  exact body p e s m _ below meth c ls ⟨B.exec, B.bytes, hml, findClass_of_methodNamed B.named, atoms_spec (ws := ws) B.pre, B.returns, B.notSynchronized, hK, hZ, hV⟩ ⟨hP, wl_D2 hD, va_S.rf⟩ hl ht
theorem wd_of {M' : Mem} {x' : XX} {H1 : Heap} {locs1 : List Loc} (hP : va_P D vwCl (WL cy ad M' x') H1) (hD : va_D (AA ad s.heap.size) (WL cy ad M x)) (hS : va_S (AA ad s.heap.size) s.heap H1 locs1) : Wd D cy ad x' s M' H1 locs1 := ⟨hP, wl_D hD, hS⟩
theorem q_get {refc C : String} {T : u_T} {N ci index k kf : Nat} {fs : List Value} {v : Value} (C0 : MX p l s m args meth c D cy ad cc own nL Ts ret) (hw : Wd D cy ad x s M H locs) (ha : At_ cy ad M x k (.inr (ci, fs))) (hin : ∀ w ∈ u_ws C T N, w ∈ Ts) (hc : vwCl[ci]? = some (C, T, N)) (hkf : kf < N) (hl : Cond.fieldLink own index refc (T kf).2.1 (T kf).2.2.1 ∈ Ts) (hsame : (T kf).1 = refc) (hv : fs[kf]? = some v) (hdg : decode cc pc = .ok (.getfield index, 3))
    (kk : W p l e R s m args below meth c H locs cells slots Q (F0 m (pc + 3) ls (v :: rest))) : W p l e R s m args below meth c H locs cells slots Q (F0 m pc ls (.ref (ad k) :: rest)) := by
  obtain ⟨hx, hb, hml, hown, hts, -, -, hK, -⟩ := C0
  exact va_get (D := D) (cl := vwCl) hx hb hts hin hown hK hw.1 k ((WL_at ha.1).trans (by rw [ha.2])) hc kf hkf (hts _ hl) (fun z h => by rw [← hsame]; exact h) hv hdg kk
theorem q_put {refc C : String} {T : u_T} {ty0 : Nat → FieldType} {N ci index kf v j : Nat} {fs : List Value} {y : Int32} {ty : FieldType} {β : Type} {K : Mem → Option β} {r : β} (C0 : MX p l s m args meth c D cy ad cc own nL Ts ret) (hw : Wd D cy ad x s M H locs) (ha : At_ cy ad M x (ow v j) (.inr (ci, fs))) (he : wc cy ad (up M v j 0 y) x (ow v j) = .inr (ci, fs.set kf (.int y))) (hin : ∀ w ∈ u_ws C T N, w ∈ Ts) (hc : vwCl[ci]? = some (C, T, N)) (hty : ∀ k, k < N → parseFieldDescriptor (T k).2.2.1 = some (ty0 k)) (hnm : ∀ a, a < N → ∀ b, b < N → a ≠ b → (T a).2.1 ≠ (T b).2.1) (hkf : kf < N) (hl : Cond.fieldLink own index refc (T kf).2.1 (T kf).2.2.1 ∈ Ts) (hsame : (T kf).1 = refc) (hfin : (T kf).2.2.2 = false) (hd : parseFieldDescriptor (T kf).2.2.1 = some ty) (hn : narrow ty (.int y) = .int y ∧ fits ty (.int y) = true) (hlen : kf < fs.length) (hdg : decode cc pc = .ok (.putfield index, 3))
    (h : q_lt (up M v j 0 y) K = some r) (kk : ∀ (M1 : Mem) (H1 : Heap) (locs1 : List Loc), Wd D cy ad x s M1 H1 locs1 → K M1 = some r → W p l e R s m args below meth c H1 locs1 cells slots Q (F0 m (pc + 3) ls rest)) : W p l e R s m args below meth c H locs cells slots Q (F0 m pc ls (.int y :: .ref (ad (ow v j)) :: rest)) := by
  obtain ⟨hx, hb, hml, hown, hts, -, -, hK, -⟩ := C0
  refine va_put (D := D) (cl := vwCl) (ty := ty) hx hb hts hin ty0 hty hnm hown hK hw.1 hw.2.1 hw.2.2 (ow v j) ((WL_at ha.1).trans (by rw [ha.2])) hc kf hkf (hts _ hl) (fun z h => by rw [← hsame]; exact h) hfin hd hn.1 hn.2 hlen hdg (fun H1 locs1 hP hD hS => ?_)
  rw [WL_set (M' := up M v j 0 y) (x' := x) ha.1 he (fun q hq => wc_up hq)] at hP
  exact kk _ H1 locs1 (wd_of hP hw.2.1 hS) h
theorem q_iald {v j k n : Nat} {i : Int32} {β : Type} {K : Nat → Option β} {r : β} (C0 : MX p l s m args meth c D cy ad cc own nL Ts ret) (hw : Wd D cy ad x s M H locs) (ha : At_ cy ad M x k (wI (cy 0) n (M v j))) (h : q_ax i n K = some r) (hdg : decode cc pc = .ok (.iaload, 1))
    (kk : ∀ q, q < n → K q = some r → W p l e R s m args below meth c H locs cells slots Q (F0 m (pc + 1) ls (.int (M v j q) :: rest))) : W p l e R s m args below meth c H locs cells slots Q (F0 m pc ls (.int i :: .ref (ad k) :: rest)) := by
  obtain ⟨hx, hb, hml, hown, hts, -, -, hK, -⟩ := C0
  obtain ⟨h1, h2, h3⟩ := q_ax_in h
  exact va_iald (D := D) (cl := vwCl) (f := M v j) hx hb hK hw.1 k 0 ((WL_at ha.1).trans (by rw [ha.2]; rfl)) rfl h1 hdg (kk _ h2 h3)
theorem q_cald {v j k n : Nat} {i : Int32} {β : Type} {K : Nat → Option β} {r : β} (C0 : MX p l s m args meth c D cy ad cc own nL Ts ret) (hw : Wd D cy ad x s M H locs) (ha : At_ cy ad M x k (wI (cy 1) n (M v j))) (h : q_ax i n K = some r) (hdg : decode cc pc = .ok (.caload, 1))
    (kk : ∀ q, q < n → K q = some r → W p l e R s m args below meth c H locs cells slots Q (F0 m (pc + 1) ls (.int (M v j q) :: rest))) : W p l e R s m args below meth c H locs cells slots Q (F0 m pc ls (.int i :: .ref (ad k) :: rest)) := by
  obtain ⟨hx, hb, hml, hown, hts, -, -, hK, -⟩ := C0
  obtain ⟨h1, h2, h3⟩ := q_ax_in h
  exact va_cald (D := D) (cl := vwCl) (f := M v j) hx hb hK hw.1 k 1 ((WL_at ha.1).trans (by rw [ha.2]; rfl)) rfl h1 hdg (kk _ h2 h3)
theorem q_zald {v j k n : Nat} {i : Int32} {β : Type} {K : Nat → Option β} {r : β} (C0 : MX p l s m args meth c D cy ad cc own nL Ts ret) (hw : Wd D cy ad x s M H locs) (ha : At_ cy ad M x k (wI (cy 2) n (M v j))) (h : q_ax i n K = some r) (hdg : decode cc pc = .ok (.baload, 1))
    (kk : ∀ q, q < n → K q = some r → W p l e R s m args below meth c H locs cells slots Q (F0 m (pc + 1) ls (.int (M v j q) :: rest))) : W p l e R s m args below meth c H locs cells slots Q (F0 m pc ls (.int i :: .ref (ad k) :: rest)) := by
  obtain ⟨hx, hb, hml, hown, hts, -, -, hK, -⟩ := C0
  obtain ⟨h1, h2, h3⟩ := q_ax_in h
  exact va_zald (D := D) (cl := vwCl) (f := M v j) hx hb hK hw.1 k 2 ((WL_at ha.1).trans (by rw [ha.2]; rfl)) rfl h1 hdg (kk _ h2 h3)
/-- what a store into an array of ints leaves -/
theorem wc_arr {v j k t n q : Nat} {y : Int32} (hk : k = ow v j) (ha : At_ cy ad M x k (wI (cy t) n (M v j))) (he : At_ cy ad (up M v j q y) x k (wI (cy t) n (up M v j q y v j))) : (WL cy ad M x).set k (ad k, .inl (cy t, n, .inl (upd (M v j) q y))) = WL cy ad (up M v j q y) x := by
  refine WL_set ha.1 (he.2.trans ?_) (fun z hz => wc_up (by rw [← hk]; exact hz))
  have e1 : up M v j q y v j = upd (M v j) q y := by
    funext i
    simp [up, upd]
  rw [e1]
  rfl
theorem q_iast {v j k n : Nat} {i y : Int32} {β : Type} {K : Nat → Mem → Option β} {r : β} (C0 : MX p l s m args meth c D cy ad cc own nL Ts ret) (hw : Wd D cy ad x s M H locs) (hk : k = ow v j) (ha : ∀ M : Mem, At_ cy ad M x k (wI (cy 0) n (M v j))) (h : q_ax i n (fun q => q_lt (up M v j q y) (K q)) = some r) (hdg : decode cc pc = .ok (.iastore, 1))
    (kk : ∀ (q : Nat) (M1 : Mem) (H1 : Heap) (locs1 : List Loc), q < n → Wd D cy ad x s M1 H1 locs1 → K q M1 = some r → W p l e R s m args below meth c H1 locs1 cells slots Q (F0 m (pc + 1) ls rest)) : W p l e R s m args below meth c H locs cells slots Q (F0 m pc ls (.int y :: .int i :: .ref (ad k) :: rest)) := by
  obtain ⟨hx, hb, hml, hown, hts, -, -, hK, -⟩ := C0
  obtain ⟨h1, h2, h3⟩ := q_ax_in h
  refine va_iast (D := D) (cl := vwCl) (f := M v j) hx hb hK hw.1 hw.2.1 hw.2.2 k 0 ((WL_at (ha M).1).trans (by rw [(ha M).2]; rfl)) rfl h1 hdg (fun H1 locs1 hP hD hS => ?_)
  rw [wc_arr hk (ha M) (ha _)] at hP
  exact kk _ _ H1 locs1 h2 (wd_of hP hw.2.1 hS) h3
theorem q_cast {v j k n : Nat} {i y : Int32} {β : Type} {K : Nat → Mem → Option β} {r : β} (C0 : MX p l s m args meth c D cy ad cc own nL Ts ret) (hw : Wd D cy ad x s M H locs) (hk : k = ow v j) (ha : ∀ M : Mem, At_ cy ad M x k (wI (cy 1) n (M v j))) (h : q_ax i n (fun q => q_lt (up M v j q (vp_nar .char y)) (K q)) = some r) (hdg : decode cc pc = .ok (.castore, 1))
    (kk : ∀ (q : Nat) (M1 : Mem) (H1 : Heap) (locs1 : List Loc), q < n → Wd D cy ad x s M1 H1 locs1 → K q M1 = some r → W p l e R s m args below meth c H1 locs1 cells slots Q (F0 m (pc + 1) ls rest)) : W p l e R s m args below meth c H locs cells slots Q (F0 m pc ls (.int y :: .int i :: .ref (ad k) :: rest)) := by
  obtain ⟨hx, hb, hml, hown, hts, -, -, hK, -⟩ := C0
  obtain ⟨h1, h2, h3⟩ := q_ax_in h
  refine va_cast (D := D) (cl := vwCl) (f := M v j) hx hb hK hw.1 hw.2.1 hw.2.2 k 1 ((WL_at (ha M).1).trans (by rw [(ha M).2]; rfl)) rfl h1 hdg (fun H1 locs1 hP hD hS => ?_)
  rw [wc_arr hk (ha M) (ha _)] at hP
  exact kk _ _ H1 locs1 h2 (wd_of hP hw.2.1 hS) h3
theorem q_zast {v j k n : Nat} {i y : Int32} {β : Type} {K : Nat → Mem → Option β} {r : β} (C0 : MX p l s m args meth c D cy ad cc own nL Ts ret) (hw : Wd D cy ad x s M H locs) (hk : k = ow v j) (ha : ∀ M : Mem, At_ cy ad M x k (wI (cy 2) n (M v j))) (h : q_ax i n (fun q => q_lt (up M v j q (vp_nar .boolean y)) (K q)) = some r) (hdg : decode cc pc = .ok (.bastore, 1))
    (kk : ∀ (q : Nat) (M1 : Mem) (H1 : Heap) (locs1 : List Loc), q < n → Wd D cy ad x s M1 H1 locs1 → K q M1 = some r → W p l e R s m args below meth c H1 locs1 cells slots Q (F0 m (pc + 1) ls rest)) : W p l e R s m args below meth c H locs cells slots Q (F0 m pc ls (.int y :: .int i :: .ref (ad k) :: rest)) := by
  obtain ⟨hx, hb, hml, hown, hts, -, -, hK, -⟩ := C0
  obtain ⟨h1, h2, h3⟩ := q_ax_in h
  refine va_zast (D := D) (cl := vwCl) (f := M v j) hx hb hK hw.1 hw.2.1 hw.2.2 k 2 ((WL_at (ha M).1).trans (by rw [(ha M).2]; rfl)) rfl h1 hdg (fun H1 locs1 hP hD hS => ?_)
  rw [wc_arr hk (ha M) (ha _)] at hP
  exact kk _ _ H1 locs1 h2 (wd_of hP hw.2.1 hS) h3
theorem q_aald {k n t : Nat} {Cn : String} {i : Int32} {g : Nat → Nat} {β : Type} {K : Nat → Option β} {r : β} (C0 : MX p l s m args meth c D cy ad cc own nL Ts ret) (hw : Wd D cy ad x s M H locs) (ha : At_ cy ad M x k (wR (cy t) n (fun i => some (ad (g i))))) (ht : (tyL cy)[t]? = some (cy t, .object Cn)) (h : q_ax i n K = some r) (hdg : decode cc pc = .ok (.aaload, 1))
    (kk : ∀ q, q < n → K q = some r → W p l e R s m args below meth c H locs cells slots Q (F0 m (pc + 1) ls (.ref (ad (g q)) :: rest))) : W p l e R s m args below meth c H locs cells slots Q (F0 m pc ls (.int i :: .ref (ad k) :: rest)) := by
  obtain ⟨hx, hb, hml, hown, hts, -, -, hK, -⟩ := C0
  obtain ⟨h1, h2, h3⟩ := q_ax_in h
  exact va_aldq (D := D) (cl := vwCl) (f := fun i => some (ad (g i))) hx hb hK hw.1 k t ((WL_at ha.1).trans (by rw [ha.2]; rfl)) ht h1 hdg (kk _ h2 h3)
theorem q_alen {v j k n : Nat} (C0 : MX p l s m args meth c D cy ad cc own nL Ts ret) (hw : Wd D cy ad x s M H locs) (ha : At_ cy ad M x k (wI (cy 0) n (M v j))) (hdg : decode cc pc = .ok (.arraylength, 1))
    (kk : W p l e R s m args below meth c H locs cells slots Q (F0 m (pc + 1) ls (.int (Int32.ofNat n) :: rest))) : W p l e R s m args below meth c H locs cells slots Q (F0 m pc ls (.ref (ad k) :: rest)) := by
  obtain ⟨hx, hb, hml, hown, hts, -, -, hK, -⟩ := C0
  exact va_alen (D := D) (cl := vwCl) (x := (n, .inl (M v j))) hx hb hK hw.1 k 0 ((WL_at ha.1).trans (by rw [ha.2]; rfl)) (ty := .int) rfl rfl hdg kk
theorem q_acopy {v0 j0 k0 n0 v1 j1 k1 n1 index : Nat} {sp dp n : Int32} {β : Type} {K : Nat → Nat → Nat → Mem → Option β} {r : β} (C0 : MX p l s m args meth c D cy ad cc own nL Ts ret) (hw : Wd D cy ad x s M H locs) (hls : ls.size = nL) (ha0 : At_ cy ad M x k0 (wI (cy 0) n0 (M v0 j0))) (hk : k1 = ow v1 j1) (ha1 : ∀ M : Mem, At_ cy ad M x k1 (wI (cy 0) n1 (M v1 j1)))
    (hT : ∀ w ∈ ([.methodLink own index arraycopyName, .native arraycopyName, .static arraycopyName, .initialized "java/lang/System"] : List Cond), w ∈ Ts) (hframes : 1 ≤ R.frames) (hlocals : (rest.map fun v => v.category).sum + (nativeFrameWords "java/lang/System" "arraycopy" 5 + 11) ≤ R.locals)
    (h : q_ac sp dp n n0 n1 (fun a b d => q_lt (upA M v1 j1 (va_cpy (M v0 j0) (M v1 j1) a b d)) (K a b d)) = some r) (hdg : decode cc pc = .ok (.invokestatic index, 3))
    (kk : ∀ (a b d : Nat) (M1 : Mem) (H1 : Heap) (locs1 : List Loc), Wd D cy ad x s M1 H1 locs1 → K a b d M1 = some r → W p l e R s m args below meth c H1 locs1 cells slots Q (F0 m (pc + 3) ls rest)) : W p l e R s m args below meth c H locs cells slots Q (F0 m pc ls (.int n :: .int dp :: .ref (ad k1) :: .int sp :: .ref (ad k0) :: rest)) := by
  obtain ⟨hx, hb, hml, hown, hts, -, -, hK, -⟩ := C0
  unfold q_ac at h
  by_cases hg : q_acg sp dp n n0 n1 = true
  · rw [if_pos hg] at h
    simp only [q_acg, Bool.and_eq_true, Bool.not_eq_true', decide_eq_false_iff_not, decide_eq_true_eq] at hg
    obtain ⟨⟨⟨⟨g1, g2⟩, g3⟩, g4⟩, g5⟩ := hg
    refine va_copyi (D := D) (cl := vwCl) (ty := .int) (f := M v0 j0) (g := M v1 j1) hx hb (by rw [hml, hls]) hown (hts _ (hT _ (by simp))) (hts _ (hT _ (by simp))) (hts _ (hT _ (by simp))) (hts _ (hT _ (by simp))) hK hw.1 hw.2.1 hw.2.2 k0 k1 0 0 ((WL_at ha0.1).trans (by rw [ha0.2]; rfl)) ((WL_at (ha1 M).1).trans (by rw [(ha1 M).2]; rfl)) rfl rfl rfl g1 g2 g3 g4 g5 (fun i hi => rfl) hframes hlocals hdg (fun H1 locs1 hP hD hS => ?_)
    have hset : (WL cy ad M x).set k1 (ad k1, .inl (cy 0, n1, .inl (va_cpy (M v0 j0) (M v1 j1) sp.toNatClampNeg dp.toNatClampNeg n.toNatClampNeg))) = WL cy ad (upA M v1 j1 (va_cpy (M v0 j0) (M v1 j1) sp.toNatClampNeg dp.toNatClampNeg n.toNatClampNeg)) x := by
      refine WL_set (ha1 M).1 ((ha1 _).2.trans ?_) (fun z hz => wc_upA (by rw [← hk]; exact hz))
      have e1 : upA M v1 j1 (va_cpy (M v0 j0) (M v1 j1) sp.toNatClampNeg dp.toNatClampNeg n.toNatClampNeg) v1 j1 = va_cpy (M v0 j0) (M v1 j1) sp.toNatClampNeg dp.toNatClampNeg n.toNatClampNeg := by
        funext i
        simp [upA]
      rw [e1]
      rfl
    rw [hset] at hP
    exact kk _ _ _ _ H1 locs1 (wd_of hP hw.2.1 hS) h
  · rw [if_neg hg] at h
    cases h
theorem q_max {index : Nat} {y z : Int32} (C0 : MX p l s m args meth c D cy ad cc own nL Ts ret) (hls : ls.size = nL) (hT : ∀ w ∈ ([.methodLink own index Lib.Math.max.name, .static Lib.Math.max.name, .initialized "java/lang/Math", .code Lib.Math.max.name Lib.Math.max.code 2 (some .int)] : List Cond), w ∈ Ts) (hframes : 1 ≤ R.frames) (hlocals : (rest.map fun v => v.category).sum + 13 ≤ R.locals) (hcs : cells ≤ R.cells ∧ slots ≤ R.slots) (hdg : decode cc pc = .ok (.invokestatic index, 3))
    (kk : W p l e R s m args below meth c H locs cells slots Q (F0 m (pc + 3) ls (.int (if y < z then z else y) :: rest))) : W p l e R s m args below meth c H locs cells slots Q (F0 m pc ls (.int z :: .int y :: rest)) := by
  obtain ⟨hx, hb, hml, hown, hts, -, -, hK, -⟩ := C0
  exact va_mmax hx hb (by rw [hml, hls]) hown (hts _ (hT _ (by simp))) (hts _ (hT _ (by simp))) (hts _ (hT _ (by simp))) (hts _ (hT _ (by simp))) hframes hlocals hcs.1 hcs.2 hdg kk
theorem q_min {index : Nat} {y z : Int32} (C0 : MX p l s m args meth c D cy ad cc own nL Ts ret) (hls : ls.size = nL) (hT : ∀ w ∈ ([.methodLink own index Lib.Math.min.name, .static Lib.Math.min.name, .initialized "java/lang/Math", .code Lib.Math.min.name Lib.Math.min.code 2 (some .int)] : List Cond), w ∈ Ts) (hframes : 1 ≤ R.frames) (hlocals : (rest.map fun v => v.category).sum + 13 ≤ R.locals) (hcs : cells ≤ R.cells ∧ slots ≤ R.slots) (hdg : decode cc pc = .ok (.invokestatic index, 3))
    (kk : W p l e R s m args below meth c H locs cells slots Q (F0 m (pc + 3) ls (.int (if z < y then z else y) :: rest))) : W p l e R s m args below meth c H locs cells slots Q (F0 m pc ls (.int z :: .int y :: rest)) := by
  obtain ⟨hx, hb, hml, hown, hts, -, -, hK, -⟩ := C0
  exact va_mmin hx hb (by rw [hml, hls]) hown (hts _ (hT _ (by simp))) (hts _ (hT _ (by simp))) (hts _ (hT _ (by simp))) (hts _ (hT _ (by simp))) hframes hlocals hcs.1 hcs.2 hdg kk
/-! ends -/
def QN {α : Type} (D : va_G) (cy : Nat → ClassId) (ad : Nat → Nat) (below : List Frame) (args : Array Value) (s : State) (x' : XX) (f : α → Option Value) (r : Mem × α) (mc ms : Nat) : State → Prop := MQ below (q_QN D cy ad x' r.1 (f r.2) s.heap.size) args s mc ms (AA ad s.heap.size)
def QT {α : Type} (D : va_G) (cy : Nat → ClassId) (ad : Nat → Nat) (below : List Frame) (args : Array Value) (s : State) (x' : XX) (f : α → Option Value) (r : Mem × (α ⊕ Nat)) (mc ms : Nat) : State → Prop := vx_MQ below (q_QT D cy ad x' r.1 (q_ou f r.2) s.heap.size) (q_XT D cy ad x' r.1 (q_ou f r.2) s.heap.size) args s mc ms (AA ad s.heap.size)
theorem q_iretN {y : Int32} {r : Mem × Int32} {mc ms : Nat} (C0 : MX p l s m args meth c D cy ad cc own nL Ts (some .int)) (hw : Wd D cy ad x s M H locs) (h : some (M, y) = some r) (hc : cells ≤ mc ∧ slots ≤ ms) (hdg : decode cc pc = .ok (.ireturn, 1)) : W p l e R s m args below meth c H locs cells slots (QN D cy ad below args s x q_vi r mc ms) (F0 m pc ls [.int y]) := by
  obtain ⟨hx, hb, hml, hown, hts, hr, hlk, -⟩ := C0
  cases h
  refine W.widen hc.1 hc.2 ?_
  exact W.iret (v := y) hx hb hr (fun t ht hW => ⟨rfl, by rw [ht]; exact hw.1, hw.2.2.F ht⟩) hw.2.2.2.2 hdg hlk
theorem q_zretN {ty : FieldType} {y : Int32} {r : Mem × Int32} {mc ms : Nat} (C0 : MX p l s m args meth c D cy ad cc own nL Ts (some ty)) (hw : Wd D cy ad x s M H locs) (hn : narrow ty (.int y) = .int y) (h : some (M, y) = some r) (hc : cells ≤ mc ∧ slots ≤ ms) (hdg : decode cc pc = .ok (.ireturn, 1)) : W p l e R s m args below meth c H locs cells slots (QN D cy ad below args s x q_vi r mc ms) (F0 m pc ls [.int y]) := by
  obtain ⟨hx, hb, hml, hown, hts, hr, hlk, -⟩ := C0
  cases h
  refine W.widen hc.1 hc.2 ?_
  exact W.zret (v := y) hx hb hr hn (fun t ht hW => ⟨rfl, by rw [ht]; exact hw.1, hw.2.2.F ht⟩) hw.2.2.2.2 hdg hlk
theorem q_vretN {r : Mem × Unit} {mc ms : Nat} (C0 : MX p l s m args meth c D cy ad cc own nL Ts none) (hw : Wd D cy ad x s M H locs) (h : some (M, ()) = some r) (hc : cells ≤ mc ∧ slots ≤ ms) (hdg : decode cc pc = .ok (.return_, 1)) : W p l e R s m args below meth c H locs cells slots (QN D cy ad below args s x q_vv r mc ms) (F0 m pc ls []) := by
  obtain ⟨hx, hb, hml, hown, hts, hr, hlk, -⟩ := C0
  cases h
  refine W.widen hc.1 hc.2 ?_
  exact W.vret hx hb hr (fun t ht hW => ⟨rfl, by rw [ht]; exact hw.1, hw.2.2.F ht⟩) hw.2.2.2.2 hdg hlk
theorem q_lretN {y : Int64} {r : Mem × Int64} {mc ms : Nat} (C0 : MX p l s m args meth c D cy ad cc own nL Ts (some .long)) (hw : Wd D cy ad x s M H locs) (h : some (M, y) = some r) (hc : cells ≤ mc ∧ slots ≤ ms) (hdg : decode cc pc = .ok (.lreturn, 1)) : W p l e R s m args below meth c H locs cells slots (QN D cy ad below args s x q_vl r mc ms) (F0 m pc ls [.long y]) := by
  obtain ⟨hx, hb, hml, hown, hts, hr, hlk, -⟩ := C0
  cases h
  refine W.widen hc.1 hc.2 ?_
  exact W.lret (v := y) hx hb hr (fun t ht hW => ⟨rfl, by rw [ht]; exact hw.1, hw.2.2.F ht⟩) hw.2.2.2.2 hdg hlk
theorem q_fretN {y : UInt32} {r : Mem × UInt32} {mc ms : Nat} (C0 : MX p l s m args meth c D cy ad cc own nL Ts (some .float)) (hw : Wd D cy ad x s M H locs) (h : some (M, y) = some r) (hc : cells ≤ mc ∧ slots ≤ ms) (hdg : decode cc pc = .ok (.freturn, 1)) : W p l e R s m args below meth c H locs cells slots (QN D cy ad below args s x q_vf r mc ms) (F0 m pc ls [.float y]) := by
  obtain ⟨hx, hb, hml, hown, hts, hr, hlk, -⟩ := C0
  cases h
  refine W.widen hc.1 hc.2 ?_
  exact W.fret (v := y) hx hb hr (fun t ht hW => ⟨rfl, by rw [ht]; exact hw.1, hw.2.2.F ht⟩) hw.2.2.2.2 hdg hlk
theorem q_dretN {y : UInt64} {r : Mem × UInt64} {mc ms : Nat} (C0 : MX p l s m args meth c D cy ad cc own nL Ts (some .double)) (hw : Wd D cy ad x s M H locs) (h : some (M, y) = some r) (hc : cells ≤ mc ∧ slots ≤ ms) (hdg : decode cc pc = .ok (.dreturn, 1)) : W p l e R s m args below meth c H locs cells slots (QN D cy ad below args s x q_vd r mc ms) (F0 m pc ls [.double y]) := by
  obtain ⟨hx, hb, hml, hown, hts, hr, hlk, -⟩ := C0
  cases h
  refine W.widen hc.1 hc.2 ?_
  exact W.dret (v := y) hx hb hr (fun t ht hW => ⟨rfl, by rw [ht]; exact hw.1, hw.2.2.F ht⟩) hw.2.2.2.2 hdg hlk
theorem q_iretT {y : Int32} {r : Mem × (Int32 ⊕ Nat)} {mc ms : Nat} (C0 : MX p l s m args meth c D cy ad cc own nL Ts (some .int)) (hw : Wd D cy ad x s M H locs) (h : some (M, Sum.inl y) = some r) (hc : cells ≤ mc ∧ slots ≤ ms) (hdg : decode cc pc = .ok (.ireturn, 1)) : W p l e R s m args below meth c H locs cells slots (QT D cy ad below args s x q_vi r mc ms) (F0 m pc ls [.int y]) := by
  obtain ⟨hx, hb, hml, hown, hts, hr, hlk, -⟩ := C0
  cases h
  refine W.widen hc.1 hc.2 (vx_ret ?_)
  exact W.iret (v := y) hx hb hr (fun t ht hW => ⟨⟨_, rfl, rfl⟩, by rw [ht]; exact hw.1, hw.2.2.F ht⟩) hw.2.2.2.2 hdg hlk
theorem q_zretT {ty : FieldType} {y : Int32} {r : Mem × (Int32 ⊕ Nat)} {mc ms : Nat} (C0 : MX p l s m args meth c D cy ad cc own nL Ts (some ty)) (hw : Wd D cy ad x s M H locs) (hn : narrow ty (.int y) = .int y) (h : some (M, Sum.inl y) = some r) (hc : cells ≤ mc ∧ slots ≤ ms) (hdg : decode cc pc = .ok (.ireturn, 1)) : W p l e R s m args below meth c H locs cells slots (QT D cy ad below args s x q_vi r mc ms) (F0 m pc ls [.int y]) := by
  obtain ⟨hx, hb, hml, hown, hts, hr, hlk, -⟩ := C0
  cases h
  refine W.widen hc.1 hc.2 (vx_ret ?_)
  exact W.zret (v := y) hx hb hr hn (fun t ht hW => ⟨⟨_, rfl, rfl⟩, by rw [ht]; exact hw.1, hw.2.2.F ht⟩) hw.2.2.2.2 hdg hlk
theorem q_vretT {r : Mem × (Unit ⊕ Nat)} {mc ms : Nat} (C0 : MX p l s m args meth c D cy ad cc own nL Ts none) (hw : Wd D cy ad x s M H locs) (h : some (M, Sum.inl ()) = some r) (hc : cells ≤ mc ∧ slots ≤ ms) (hdg : decode cc pc = .ok (.return_, 1)) : W p l e R s m args below meth c H locs cells slots (QT D cy ad below args s x q_vv r mc ms) (F0 m pc ls []) := by
  obtain ⟨hx, hb, hml, hown, hts, hr, hlk, -⟩ := C0
  cases h
  refine W.widen hc.1 hc.2 (vx_ret ?_)
  exact W.vret hx hb hr (fun t ht hW => ⟨⟨_, rfl, rfl⟩, by rw [ht]; exact hw.1, hw.2.2.F ht⟩) hw.2.2.2.2 hdg hlk
theorem q_lretT {y : Int64} {r : Mem × (Int64 ⊕ Nat)} {mc ms : Nat} (C0 : MX p l s m args meth c D cy ad cc own nL Ts (some .long)) (hw : Wd D cy ad x s M H locs) (h : some (M, Sum.inl y) = some r) (hc : cells ≤ mc ∧ slots ≤ ms) (hdg : decode cc pc = .ok (.lreturn, 1)) : W p l e R s m args below meth c H locs cells slots (QT D cy ad below args s x q_vl r mc ms) (F0 m pc ls [.long y]) := by
  obtain ⟨hx, hb, hml, hown, hts, hr, hlk, -⟩ := C0
  cases h
  refine W.widen hc.1 hc.2 (vx_ret ?_)
  exact W.lret (v := y) hx hb hr (fun t ht hW => ⟨⟨_, rfl, rfl⟩, by rw [ht]; exact hw.1, hw.2.2.F ht⟩) hw.2.2.2.2 hdg hlk
theorem q_fretT {y : UInt32} {r : Mem × (UInt32 ⊕ Nat)} {mc ms : Nat} (C0 : MX p l s m args meth c D cy ad cc own nL Ts (some .float)) (hw : Wd D cy ad x s M H locs) (h : some (M, Sum.inl y) = some r) (hc : cells ≤ mc ∧ slots ≤ ms) (hdg : decode cc pc = .ok (.freturn, 1)) : W p l e R s m args below meth c H locs cells slots (QT D cy ad below args s x q_vf r mc ms) (F0 m pc ls [.float y]) := by
  obtain ⟨hx, hb, hml, hown, hts, hr, hlk, -⟩ := C0
  cases h
  refine W.widen hc.1 hc.2 (vx_ret ?_)
  exact W.fret (v := y) hx hb hr (fun t ht hW => ⟨⟨_, rfl, rfl⟩, by rw [ht]; exact hw.1, hw.2.2.F ht⟩) hw.2.2.2.2 hdg hlk
theorem q_dretT {y : UInt64} {r : Mem × (UInt64 ⊕ Nat)} {mc ms : Nat} (C0 : MX p l s m args meth c D cy ad cc own nL Ts (some .double)) (hw : Wd D cy ad x s M H locs) (h : some (M, Sum.inl y) = some r) (hc : cells ≤ mc ∧ slots ≤ ms) (hdg : decode cc pc = .ok (.dreturn, 1)) : W p l e R s m args below meth c H locs cells slots (QT D cy ad below args s x q_vd r mc ms) (F0 m pc ls [.double y]) := by
  obtain ⟨hx, hb, hml, hown, hts, hr, hlk, -⟩ := C0
  cases h
  refine W.widen hc.1 hc.2 (vx_ret ?_)
  exact W.dret (v := y) hx hb hr (fun t ht hW => ⟨⟨_, rfl, rfl⟩, by rw [ht]; exact hw.1, hw.2.2.F ht⟩) hw.2.2.2.2 hdg hlk
/-! calls -/
theorem q_S {H1 : Heap} {L locs : List Loc} {st₀ t T' : State} (h0 : st₀.heap = H) (e1 : T'.heap = t.heap) (hS : va_S (AA ad s.heap.size) s.heap H locs) (hL : ∀ q ∈ L, AA ad H.size q.base) (hF : va_F (AA ad H.size) st₀ t) : va_S (AA ad s.heap.size) s.heap T'.heap (locs ++ L) := by
  have hA : ∀ q, AA ad H.size q → AA ad s.heap.size q := fun q h => h.imp_right (fun z => Nat.le_trans hS.1 z)
  obtain ⟨hz, hk⟩ := hF
  rw [h0] at hz hk
  refine ⟨Nat.le_trans hS.1 (by rw [e1]; exact hz), fun q h1 h2 => ?_, fun q hq => ?_⟩
  · rw [e1, hk q (Nat.lt_of_lt_of_le h1 hS.1) (fun z => h2 (hA q z))]
    exact hS.2.1 q h1 h2
  · rcases List.mem_append.mp hq with h | h
    · exact hS.2.2 q h
    · exact hA _ (hL q h)
theorem q_afterN {x1 : XX} {M1 : Mem} {rv : Option Value} {a : Array Value} {st0 : List Value} {mc ms : Nat} (hw : Wd D cy ad x s M H locs) (hr : va_Run p l e R s m args below meth c H locs cells slots mc ms (F0 m pc ls st0) rest (q_QN D cy ad x1 M1 rv H.size a) (AA ad H.size))
    (kk : ∀ (H1 : Heap) (locs1 : List Loc), Wd D cy ad x1 s M1 H1 locs1 → W p l e R s m args below meth c H1 locs1 (cells + mc) (slots + ms) Q (F0 m (pc + 3) ls (rv.toList ++ rest))) : W p l e R s m args below meth c H locs cells slots Q (F0 m pc ls st0) := by
  intro T hT X
  obtain ⟨v, st₀, t, T', L, h0, X', hL, e1, e2, ⟨hv, hP1, hF⟩, st⟩ := hr T hT X
  cases hv
  obtain ⟨t2, a1, b1⟩ := kk T'.heap (locs ++ L) (wd_of (by rw [e1]; exact hP1) hw.2.1 (q_S (H1 := H) h0 e1 hw.2.2 hL hF)) T' rfl X'
  exact ⟨t2, st t2 a1, b1⟩
theorem q_pre {av : List Value} (hK : va_K D vwCl (tyL cy) s) (hZ : ZZ (AA ad s.heap.size) s s.heap) (hV : VK s) (hw : Wd D cy ad x s M H locs) : ∀ U : State, U.heap = H → s.WarmedH U.vm → va_Pc av (Pw D cy ad x M H.size) av.toArray U := fun U hU hW =>
  ⟨rfl, by rw [hU], by rw [hU]; exact hw.1, va_K.moved hW.alike hK, hw.2.1.weaken (fun _ _ _ _ => trivial),
    ⟨by rw [hU]; exact (vx_Zq.moved hW.alike (hZ.1.kept hw.2.2.2.1)).narrow (fun q h => h.imp_right (fun z => Nat.le_trans hw.2.2.1 z)), by rw [hU]; exact (vx_Zq.moved hW.alike (hZ.2.kept hw.2.2.2.1)).narrow (fun q h => h.imp_right (fun z => Nat.le_trans hw.2.2.1 z))⟩, VK.warm hW hV⟩
theorem q_callVN {α β : Type} {y : MethodName} {ws ws' : List Cond} {rm : Room} {As : List Value} {nA : Nat} {f : Option (Mem × α)} {g : α → Option Value} {K : Mem → α → Option β} {r : β} {mc ms maxL ci k index N : Nat} {C : String} {T : u_T} {fs : List Value} {bytes : ByteArray} {rt : Option FieldType} {st0 : List Value} {x1 : XX}
    (C0 : MX p l s m args meth c D cy ad cc own nL Ts ret) (hw : Wd D cy ad x s M H locs) (ha : At_ cy ad M x k (.inr (ci, fs))) (hci : vwCl[ci]? = some (C, T, N)) (hM : ∀ r1, f = some r1 → CN l y ws rm D cy ad (.ref (ad k) :: As) x M x1 r1.1 (g r1.2) mc ms)
    (hG : GoodIn Ts (wsV own index C y ws)) (hws : ws = Cond.code y bytes maxL rt :: ws') (hrm : rm.cells = mc ∧ rm.slots = ms) (hd : y.cls = C ∧ y.cls ≠ "java/lang/invoke/MethodHandle" ∧ y.cls ≠ "java/lang/invoke/VarHandle" ∧ (parseMethodDescriptor y.desc).map (fun d => d.parameters.length) = some nA) (hnA : As.length = nA) (hR : rm.frames + 1 ≤ R.frames ∧ 8 + (maxL + 11) + rm.locals ≤ R.locals)
    (hls : ls.size = nL) (hcat : (rest.map fun v => v.category).sum ≤ 8) (hf : cells + mc ≤ R.cells ∧ slots + ms ≤ R.slots) (hst : st0 = As.reverse ++ .ref (ad k) :: rest) (h : q_bn f K = some r) (hdg : decode cc pc = .ok (.invokevirtual index, 3))
    (kk : ∀ (M1 : Mem) (a : α) (H1 : Heap) (locs1 : List Loc), Wd D cy ad x1 s M1 H1 locs1 → K M1 a = some r → W p l e R s m args below meth c H1 locs1 (cells + mc) (slots + ms) Q (F0 m (pc + 3) ls ((g a).toList ++ rest))) : W p l e R s m args below meth c H locs cells slots Q (F0 m pc ls st0) := by
  obtain ⟨hx, hb, hml, hown, hts, -, -, hK, hZ, hV⟩ := C0
  obtain ⟨M1, a, hfr, hk⟩ := q_bn_in h
  refine q_afterN hw (va_runV (As := As) (rest := rest) (n := nA) ⟨hx, hb, hml, hown, hts⟩ (hM _ hfr H.size) (cwV nA hts hG hws hrm.1 hrm.2 hd hR) ⟨Pw.blind, va_recv hK hw.1 (q := (C, T, N)) hci ((WL_at ha.1).trans (by rw [ha.2])), q_pre hK hZ hV hw⟩ rfl hnA hls hst (lv_room hcat) hdg hf) (fun H1 locs1 hw1 => ?_)
  exact kk M1 a H1 locs1 hw1 hk
theorem q_callSN {α β : Type} {y : MethodName} {ws ws' : List Cond} {rm : Room} {As : List Value} {nA : Nat} {f : Option (Mem × α)} {g : α → Option Value} {K : Mem → α → Option β} {r : β} {mc ms maxL index : Nat} {bytes : ByteArray} {rt : Option FieldType} {st0 : List Value} {x1 : XX}
    (C0 : MX p l s m args meth c D cy ad cc own nL Ts ret) (hw : Wd D cy ad x s M H locs) (hM : ∀ r1, f = some r1 → CN l y ws rm D cy ad As x M x1 r1.1 (g r1.2) mc ms)
    (hG : GoodIn Ts (va_wsS own index y ws)) (hws : ws = Cond.code y bytes maxL rt :: ws') (hrm : rm.cells = mc ∧ rm.slots = ms) (hd : y.cls ≠ "java/lang/invoke/MethodHandle" ∧ y.cls ≠ "java/lang/invoke/VarHandle" ∧ (parseMethodDescriptor y.desc).map (fun d => d.parameters.length) = some nA) (hnA : As.length = nA) (hR : rm.frames + 1 ≤ R.frames ∧ 8 + (maxL + 11) + rm.locals ≤ R.locals)
    (hls : ls.size = nL) (hcat : (rest.map fun v => v.category).sum ≤ 8) (hf : cells + mc ≤ R.cells ∧ slots + ms ≤ R.slots) (hst : st0 = As.reverse ++ rest) (h : q_bn f K = some r) (hdg : decode cc pc = .ok (.invokestatic index, 3))
    (kk : ∀ (M1 : Mem) (a : α) (H1 : Heap) (locs1 : List Loc), Wd D cy ad x1 s M1 H1 locs1 → K M1 a = some r → W p l e R s m args below meth c H1 locs1 (cells + mc) (slots + ms) Q (F0 m (pc + 3) ls ((g a).toList ++ rest))) : W p l e R s m args below meth c H locs cells slots Q (F0 m pc ls st0) := by
  obtain ⟨hx, hb, hml, hown, hts, -, -, hK, hZ, hV⟩ := C0
  obtain ⟨M1, a, hfr, hk⟩ := q_bn_in h
  refine q_afterN hw (va_runS (As := As) (rest := rest) (n := nA) ⟨hx, hb, hml, hown, hts⟩ (hM _ hfr H.size) (va_cwS nA hts hG hws hrm.1 hrm.2 hd hR) ⟨Pw.blind, q_pre hK hZ hV hw⟩ rfl hnA hls hst (lv_room hcat) hdg hf) (fun H1 locs1 hw1 => ?_)
  exact kk M1 a H1 locs1 hw1 hk
theorem q_afterT {α β : Type} {f : Option (Mem × (α ⊕ Nat))} {g : α → Option Value} {gb : β → Option Value} {K : Mem → α → Option (Mem × (β ⊕ Nat))} {r : Mem × (β ⊕ Nat)} {a : Array Value} {st0 : List Value} {mc ms mq mz : Nat} (hlk : meth.locks = false) (ht : ∀ z ∈ c.exceptionTable.toList, False) (hw : Wd D cy ad x s M H locs)
    (hr : ∀ r1, f = some r1 → vx_Run p l e R s m args below meth c H locs cells slots mc ms (F0 m pc ls st0) rest (q_QT D cy ad x r1.1 (q_ou g r1.2) H.size a) (q_XT D cy ad x r1.1 (q_ou g r1.2) H.size) (AA ad H.size)) (hm : cells + mc ≤ mq ∧ slots + ms ≤ mz) (h : q_bx f K = some r)
    (kk : ∀ (M1 : Mem) (a : α) (H1 : Heap) (locs1 : List Loc), Wd D cy ad x s M1 H1 locs1 → K M1 a = some r → W p l e R s m args below meth c H1 locs1 (cells + mc) (slots + ms) (QT D cy ad below args s x gb r mq mz) (F0 m (pc + 3) ls ((g a).toList ++ rest))) : W p l e R s m args below meth c H locs cells slots (QT D cy ad below args s x gb r mq mz) (F0 m pc ls st0) := by
  intro T hT X
  obtain ⟨M', o⟩ := r
  rcases q_bx_in h with ⟨M1, a1, hf, hk⟩ | ⟨n, hf, ho⟩
  · rcases hr _ hf T hT X with ⟨v, st₀, t, T', L, h0, X', hL, e1, e2, ⟨⟨rv, hrv, hv⟩, hP1, hF⟩, st⟩ | ⟨q, st₀, t, T', L, E, ce, h0, X', hL, e1, e2, ⟨⟨n, hn, -⟩, -⟩, -⟩
    · cases hv
      cases hrv
      obtain ⟨t2, a2, b2⟩ := kk M1 a1 T'.heap (locs ++ L) (wd_of (by rw [e1]; exact hP1) hw.2.1 (q_S (H1 := H) h0 e1 hw.2.2 hL hF)) hk T' rfl X'
      exact ⟨t2, st t2 a2, b2⟩
    · cases hn
  · rcases hr _ hf T hT X with ⟨v, st₀, t, T', L, h0, X', hL, e1, e2, ⟨⟨rv, hrv, hv⟩, -⟩, st⟩ | ⟨q, st₀, t, T', L, E, ce, h0, X', hL, e1, e2, ⟨⟨n1, hn, hE⟩, hP1, hF⟩, hce, hcv, hcl, st⟩
    · cases hrv
    · cases hn
      have hS1 := q_S (H1 := H) h0 e1 hw.2.2 hL hF
      obtain ⟨t2, a2, b2⟩ := vx_out (Qc := q_QT D cy ad x M' (q_ou gb o) s.heap.size) (XC := q_XT D cy ad x M' (q_ou gb o) s.heap.size) (mc := mq) (ms := mz) (free := AA ad s.heap.size) (H := T'.heap) (pc := pc) (ls := ls) (rest := rest) (E := E) (ce := ce) (q := q) (fun z hz => (ht z hz).elim) hlk (by rw [e1]; exact hce) hcv hcl
        (fun t ht hW => ⟨⟨n, by rw [ho]; rfl, hE⟩, by rw [ht, e1]; exact hP1, hS1.F ht⟩) hS1.2.2 hm.1 hm.2 T' rfl X'
      exact ⟨t2, st.trans a2, b2⟩
theorem q_callVT {α β : Type} {y : MethodName} {ws ws' : List Cond} {rm : Room} {As : List Value} {nA : Nat} {f : Option (Mem × (α ⊕ Nat))} {g : α → Option Value} {gb : β → Option Value} {K : Mem → α → Option (Mem × (β ⊕ Nat))} {r : Mem × (β ⊕ Nat)} {mc ms mq mz maxL ci k index N : Nat} {C : String} {T : u_T} {fs : List Value} {bytes : ByteArray} {rt : Option FieldType} {st0 : List Value}
    (C0 : MX p l s m args meth c D cy ad cc own nL Ts ret) (ht : ∀ z ∈ c.exceptionTable.toList, False) (hw : Wd D cy ad x s M H locs) (ha : At_ cy ad M x k (.inr (ci, fs))) (hci : vwCl[ci]? = some (C, T, N)) (hM : ∀ r1, f = some r1 → CT l y ws rm D cy ad (.ref (ad k) :: As) x M r1.1 (q_ou g r1.2) mc ms)
    (hG : GoodIn Ts (wsV own index C y ws)) (hws : ws = Cond.code y bytes maxL rt :: ws') (hrm : rm.cells = mc ∧ rm.slots = ms) (hd : y.cls = C ∧ y.cls ≠ "java/lang/invoke/MethodHandle" ∧ y.cls ≠ "java/lang/invoke/VarHandle" ∧ (parseMethodDescriptor y.desc).map (fun d => d.parameters.length) = some nA) (hnA : As.length = nA) (hR : rm.frames + 1 ≤ R.frames ∧ 8 + (maxL + 11) + rm.locals ≤ R.locals)
    (hls : ls.size = nL) (hcat : (rest.map fun v => v.category).sum ≤ 8) (hf : cells + mc ≤ R.cells ∧ slots + ms ≤ R.slots) (hm : cells + mc ≤ mq ∧ slots + ms ≤ mz) (hst : st0 = As.reverse ++ .ref (ad k) :: rest) (h : q_bx f K = some r) (hdg : decode cc pc = .ok (.invokevirtual index, 3))
    (kk : ∀ (M1 : Mem) (a : α) (H1 : Heap) (locs1 : List Loc), Wd D cy ad x s M1 H1 locs1 → K M1 a = some r → W p l e R s m args below meth c H1 locs1 (cells + mc) (slots + ms) (QT D cy ad below args s x gb r mq mz) (F0 m (pc + 3) ls ((g a).toList ++ rest))) : W p l e R s m args below meth c H locs cells slots (QT D cy ad below args s x gb r mq mz) (F0 m pc ls st0) := by
  obtain ⟨hx, hb, hml, hown, hts, -, hlk, hK, hZ, hV⟩ := C0
  exact q_afterT hlk ht hw (fun r1 hf1 => vx_runV (As := As) (rest := rest) (n := nA) ⟨hx, hb, hml, hown, hts⟩ (hM _ hf1 H.size) (cwV nA hts hG hws hrm.1 hrm.2 hd hR) ⟨Pw.blind, va_recv hK hw.1 (q := (C, T, N)) hci ((WL_at ha.1).trans (by rw [ha.2])), q_pre hK hZ hV hw⟩ rfl hnA hls hst (lv_room hcat) hdg hf) hm h kk
theorem q_callST {α β : Type} {y : MethodName} {ws ws' : List Cond} {rm : Room} {As : List Value} {nA : Nat} {f : Option (Mem × (α ⊕ Nat))} {g : α → Option Value} {gb : β → Option Value} {K : Mem → α → Option (Mem × (β ⊕ Nat))} {r : Mem × (β ⊕ Nat)} {mc ms mq mz maxL index : Nat} {bytes : ByteArray} {rt : Option FieldType} {st0 : List Value}
    (C0 : MX p l s m args meth c D cy ad cc own nL Ts ret) (ht : ∀ z ∈ c.exceptionTable.toList, False) (hw : Wd D cy ad x s M H locs) (hM : ∀ r1, f = some r1 → CT l y ws rm D cy ad As x M r1.1 (q_ou g r1.2) mc ms)
    (hG : GoodIn Ts (va_wsS own index y ws)) (hws : ws = Cond.code y bytes maxL rt :: ws') (hrm : rm.cells = mc ∧ rm.slots = ms) (hd : y.cls ≠ "java/lang/invoke/MethodHandle" ∧ y.cls ≠ "java/lang/invoke/VarHandle" ∧ (parseMethodDescriptor y.desc).map (fun d => d.parameters.length) = some nA) (hnA : As.length = nA) (hR : rm.frames + 1 ≤ R.frames ∧ 8 + (maxL + 11) + rm.locals ≤ R.locals)
    (hls : ls.size = nL) (hcat : (rest.map fun v => v.category).sum ≤ 8) (hf : cells + mc ≤ R.cells ∧ slots + ms ≤ R.slots) (hm : cells + mc ≤ mq ∧ slots + ms ≤ mz) (hst : st0 = As.reverse ++ rest) (h : q_bx f K = some r) (hdg : decode cc pc = .ok (.invokestatic index, 3))
    (kk : ∀ (M1 : Mem) (a : α) (H1 : Heap) (locs1 : List Loc), Wd D cy ad x s M1 H1 locs1 → K M1 a = some r → W p l e R s m args below meth c H1 locs1 (cells + mc) (slots + ms) (QT D cy ad below args s x gb r mq mz) (F0 m (pc + 3) ls ((g a).toList ++ rest))) : W p l e R s m args below meth c H locs cells slots (QT D cy ad below args s x gb r mq mz) (F0 m pc ls st0) := by
  obtain ⟨hx, hb, hml, hown, hts, -, hlk, hK, hZ, hV⟩ := C0
  exact q_afterT hlk ht hw (fun r1 hf1 => vx_runS (As := As) (rest := rest) (n := nA) ⟨hx, hb, hml, hown, hts⟩ (hM _ hf1 H.size) (va_cwS nA hts hG hws hrm.1 hrm.2 hd hR) ⟨Pw.blind, q_pre hK hZ hV hw⟩ rfl hnA hls hst (lv_room hcat) hdg hf) hm h kk
/-! steps of the decompiled text -/
theorem q_step {α : Type} {β : Type} {a : α} {K : α → Option β} {r : β} {G : Prop} (h : q_lt a K = some r) (k : ∀ z : α, z = a → K z = some r → G) : G := k a rfl h
theorem q_if {P : Prop} [Decidable P] {β : Type} {A B : Option β} {r : β} {G : Prop} (h : (if P then A else B) = some r) (k1 : P → A = some r → G) (k2 : ¬ P → B = some r → G) : G := by
  by_cases hp : P
  · rw [if_pos hp] at h
    exact k1 hp h
  · rw [if_neg hp] at h
    exact k2 hp h
theorem q_guard {c : Bool} {β : Type} {K : Option β} {r : β} {G : Prop} (h : q_gd c K = some r) (k : c = true → K = some r → G) : G := k (q_gd_in h).1 (q_gd_in h).2
theorem q_callVNi {β : Type} {y : MethodName} {ws ws' : List Cond} {rm : Room} {As : List Value} {nA : Nat} {f : Option (Mem × Int32)} {K : Mem → Int32 → Option β} {r : β} {mc ms maxL ci k index N : Nat} {C : String} {T : u_T} {fs : List Value} {bytes : ByteArray} {rt : Option FieldType} {st0 : List Value} {x1 : XX}
    (C0 : MX p l s m args meth c D cy ad cc own nL Ts ret) (hw : Wd D cy ad x s M H locs) (ha : At_ cy ad M x k (.inr (ci, fs))) (hci : vwCl[ci]? = some (C, T, N)) (hM : ∀ r1, f = some r1 → CN l y ws rm D cy ad (.ref (ad k) :: As) x M x1 r1.1 (q_vi r1.2) mc ms)
    (hG : GoodIn Ts (wsV own index C y ws)) (hws : ws = Cond.code y bytes maxL rt :: ws') (hrm : rm.cells = mc ∧ rm.slots = ms) (hd : y.cls = C ∧ y.cls ≠ "java/lang/invoke/MethodHandle" ∧ y.cls ≠ "java/lang/invoke/VarHandle" ∧ (parseMethodDescriptor y.desc).map (fun d => d.parameters.length) = some nA) (hnA : As.length = nA) (hR : rm.frames + 1 ≤ R.frames ∧ 8 + (maxL + 11) + rm.locals ≤ R.locals)
    (hls : ls.size = nL) (hcat : (rest.map fun v => v.category).sum ≤ 8) (hf : cells + mc ≤ R.cells ∧ slots + ms ≤ R.slots) (hst : st0 = As.reverse ++ .ref (ad k) :: rest) (h : q_bn f K = some r) (hdg : decode cc pc = .ok (.invokevirtual index, 3))
    (kk : ∀ (M1 : Mem) (a : Int32) (H1 : Heap) (locs1 : List Loc), Wd D cy ad x1 s M1 H1 locs1 → K M1 a = some r → W p l e R s m args below meth c H1 locs1 (cells + mc) (slots + ms) Q (F0 m (pc + 3) ls (.int a :: rest))) : W p l e R s m args below meth c H locs cells slots Q (F0 m pc ls st0) :=
  q_callVN (g := q_vi) C0 hw ha hci hM hG hws hrm hd hnA hR hls hcat hf hst h hdg (fun M1 a H1 locs1 hw1 h1 => kk M1 a H1 locs1 hw1 h1)
theorem q_callVNv {β : Type} {y : MethodName} {ws ws' : List Cond} {rm : Room} {As : List Value} {nA : Nat} {f : Option (Mem × Unit)} {K : Mem → Unit → Option β} {r : β} {mc ms maxL ci k index N : Nat} {C : String} {T : u_T} {fs : List Value} {bytes : ByteArray} {rt : Option FieldType} {st0 : List Value} {x1 : XX}
    (C0 : MX p l s m args meth c D cy ad cc own nL Ts ret) (hw : Wd D cy ad x s M H locs) (ha : At_ cy ad M x k (.inr (ci, fs))) (hci : vwCl[ci]? = some (C, T, N)) (hM : ∀ r1, f = some r1 → CN l y ws rm D cy ad (.ref (ad k) :: As) x M x1 r1.1 (q_vv r1.2) mc ms)
    (hG : GoodIn Ts (wsV own index C y ws)) (hws : ws = Cond.code y bytes maxL rt :: ws') (hrm : rm.cells = mc ∧ rm.slots = ms) (hd : y.cls = C ∧ y.cls ≠ "java/lang/invoke/MethodHandle" ∧ y.cls ≠ "java/lang/invoke/VarHandle" ∧ (parseMethodDescriptor y.desc).map (fun d => d.parameters.length) = some nA) (hnA : As.length = nA) (hR : rm.frames + 1 ≤ R.frames ∧ 8 + (maxL + 11) + rm.locals ≤ R.locals)
    (hls : ls.size = nL) (hcat : (rest.map fun v => v.category).sum ≤ 8) (hf : cells + mc ≤ R.cells ∧ slots + ms ≤ R.slots) (hst : st0 = As.reverse ++ .ref (ad k) :: rest) (h : q_bn f K = some r) (hdg : decode cc pc = .ok (.invokevirtual index, 3))
    (kk : ∀ (M1 : Mem) (H1 : Heap) (locs1 : List Loc), Wd D cy ad x1 s M1 H1 locs1 → K M1 () = some r → W p l e R s m args below meth c H1 locs1 (cells + mc) (slots + ms) Q (F0 m (pc + 3) ls (rest))) : W p l e R s m args below meth c H locs cells slots Q (F0 m pc ls st0) :=
  q_callVN (g := q_vv) C0 hw ha hci hM hG hws hrm hd hnA hR hls hcat hf hst h hdg (fun M1 a H1 locs1 hw1 h1 => kk M1 H1 locs1 hw1 h1)
theorem q_callVNl {β : Type} {y : MethodName} {ws ws' : List Cond} {rm : Room} {As : List Value} {nA : Nat} {f : Option (Mem × Int64)} {K : Mem → Int64 → Option β} {r : β} {mc ms maxL ci k index N : Nat} {C : String} {T : u_T} {fs : List Value} {bytes : ByteArray} {rt : Option FieldType} {st0 : List Value} {x1 : XX}
    (C0 : MX p l s m args meth c D cy ad cc own nL Ts ret) (hw : Wd D cy ad x s M H locs) (ha : At_ cy ad M x k (.inr (ci, fs))) (hci : vwCl[ci]? = some (C, T, N)) (hM : ∀ r1, f = some r1 → CN l y ws rm D cy ad (.ref (ad k) :: As) x M x1 r1.1 (q_vl r1.2) mc ms)
    (hG : GoodIn Ts (wsV own index C y ws)) (hws : ws = Cond.code y bytes maxL rt :: ws') (hrm : rm.cells = mc ∧ rm.slots = ms) (hd : y.cls = C ∧ y.cls ≠ "java/lang/invoke/MethodHandle" ∧ y.cls ≠ "java/lang/invoke/VarHandle" ∧ (parseMethodDescriptor y.desc).map (fun d => d.parameters.length) = some nA) (hnA : As.length = nA) (hR : rm.frames + 1 ≤ R.frames ∧ 8 + (maxL + 11) + rm.locals ≤ R.locals)
    (hls : ls.size = nL) (hcat : (rest.map fun v => v.category).sum ≤ 8) (hf : cells + mc ≤ R.cells ∧ slots + ms ≤ R.slots) (hst : st0 = As.reverse ++ .ref (ad k) :: rest) (h : q_bn f K = some r) (hdg : decode cc pc = .ok (.invokevirtual index, 3))
    (kk : ∀ (M1 : Mem) (a : Int64) (H1 : Heap) (locs1 : List Loc), Wd D cy ad x1 s M1 H1 locs1 → K M1 a = some r → W p l e R s m args below meth c H1 locs1 (cells + mc) (slots + ms) Q (F0 m (pc + 3) ls (.long a :: rest))) : W p l e R s m args below meth c H locs cells slots Q (F0 m pc ls st0) :=
  q_callVN (g := q_vl) C0 hw ha hci hM hG hws hrm hd hnA hR hls hcat hf hst h hdg (fun M1 a H1 locs1 hw1 h1 => kk M1 a H1 locs1 hw1 h1)
theorem q_callVNf {β : Type} {y : MethodName} {ws ws' : List Cond} {rm : Room} {As : List Value} {nA : Nat} {f : Option (Mem × UInt32)} {K : Mem → UInt32 → Option β} {r : β} {mc ms maxL ci k index N : Nat} {C : String} {T : u_T} {fs : List Value} {bytes : ByteArray} {rt : Option FieldType} {st0 : List Value} {x1 : XX}
    (C0 : MX p l s m args meth c D cy ad cc own nL Ts ret) (hw : Wd D cy ad x s M H locs) (ha : At_ cy ad M x k (.inr (ci, fs))) (hci : vwCl[ci]? = some (C, T, N)) (hM : ∀ r1, f = some r1 → CN l y ws rm D cy ad (.ref (ad k) :: As) x M x1 r1.1 (q_vf r1.2) mc ms)
    (hG : GoodIn Ts (wsV own index C y ws)) (hws : ws = Cond.code y bytes maxL rt :: ws') (hrm : rm.cells = mc ∧ rm.slots = ms) (hd : y.cls = C ∧ y.cls ≠ "java/lang/invoke/MethodHandle" ∧ y.cls ≠ "java/lang/invoke/VarHandle" ∧ (parseMethodDescriptor y.desc).map (fun d => d.parameters.length) = some nA) (hnA : As.length = nA) (hR : rm.frames + 1 ≤ R.frames ∧ 8 + (maxL + 11) + rm.locals ≤ R.locals)
    (hls : ls.size = nL) (hcat : (rest.map fun v => v.category).sum ≤ 8) (hf : cells + mc ≤ R.cells ∧ slots + ms ≤ R.slots) (hst : st0 = As.reverse ++ .ref (ad k) :: rest) (h : q_bn f K = some r) (hdg : decode cc pc = .ok (.invokevirtual index, 3))
    (kk : ∀ (M1 : Mem) (a : UInt32) (H1 : Heap) (locs1 : List Loc), Wd D cy ad x1 s M1 H1 locs1 → K M1 a = some r → W p l e R s m args below meth c H1 locs1 (cells + mc) (slots + ms) Q (F0 m (pc + 3) ls (.float a :: rest))) : W p l e R s m args below meth c H locs cells slots Q (F0 m pc ls st0) :=
  q_callVN (g := q_vf) C0 hw ha hci hM hG hws hrm hd hnA hR hls hcat hf hst h hdg (fun M1 a H1 locs1 hw1 h1 => kk M1 a H1 locs1 hw1 h1)
theorem q_callVNd {β : Type} {y : MethodName} {ws ws' : List Cond} {rm : Room} {As : List Value} {nA : Nat} {f : Option (Mem × UInt64)} {K : Mem → UInt64 → Option β} {r : β} {mc ms maxL ci k index N : Nat} {C : String} {T : u_T} {fs : List Value} {bytes : ByteArray} {rt : Option FieldType} {st0 : List Value} {x1 : XX}
    (C0 : MX p l s m args meth c D cy ad cc own nL Ts ret) (hw : Wd D cy ad x s M H locs) (ha : At_ cy ad M x k (.inr (ci, fs))) (hci : vwCl[ci]? = some (C, T, N)) (hM : ∀ r1, f = some r1 → CN l y ws rm D cy ad (.ref (ad k) :: As) x M x1 r1.1 (q_vd r1.2) mc ms)
    (hG : GoodIn Ts (wsV own index C y ws)) (hws : ws = Cond.code y bytes maxL rt :: ws') (hrm : rm.cells = mc ∧ rm.slots = ms) (hd : y.cls = C ∧ y.cls ≠ "java/lang/invoke/MethodHandle" ∧ y.cls ≠ "java/lang/invoke/VarHandle" ∧ (parseMethodDescriptor y.desc).map (fun d => d.parameters.length) = some nA) (hnA : As.length = nA) (hR : rm.frames + 1 ≤ R.frames ∧ 8 + (maxL + 11) + rm.locals ≤ R.locals)
    (hls : ls.size = nL) (hcat : (rest.map fun v => v.category).sum ≤ 8) (hf : cells + mc ≤ R.cells ∧ slots + ms ≤ R.slots) (hst : st0 = As.reverse ++ .ref (ad k) :: rest) (h : q_bn f K = some r) (hdg : decode cc pc = .ok (.invokevirtual index, 3))
    (kk : ∀ (M1 : Mem) (a : UInt64) (H1 : Heap) (locs1 : List Loc), Wd D cy ad x1 s M1 H1 locs1 → K M1 a = some r → W p l e R s m args below meth c H1 locs1 (cells + mc) (slots + ms) Q (F0 m (pc + 3) ls (.double a :: rest))) : W p l e R s m args below meth c H locs cells slots Q (F0 m pc ls st0) :=
  q_callVN (g := q_vd) C0 hw ha hci hM hG hws hrm hd hnA hR hls hcat hf hst h hdg (fun M1 a H1 locs1 hw1 h1 => kk M1 a H1 locs1 hw1 h1)
theorem q_callSNi {β : Type} {y : MethodName} {ws ws' : List Cond} {rm : Room} {As : List Value} {nA : Nat} {f : Option (Mem × Int32)} {K : Mem → Int32 → Option β} {r : β} {mc ms maxL index : Nat} {bytes : ByteArray} {rt : Option FieldType} {st0 : List Value} {x1 : XX}
    (C0 : MX p l s m args meth c D cy ad cc own nL Ts ret) (hw : Wd D cy ad x s M H locs) (hM : ∀ r1, f = some r1 → CN l y ws rm D cy ad As x M x1 r1.1 (q_vi r1.2) mc ms)
    (hG : GoodIn Ts (va_wsS own index y ws)) (hws : ws = Cond.code y bytes maxL rt :: ws') (hrm : rm.cells = mc ∧ rm.slots = ms) (hd : y.cls ≠ "java/lang/invoke/MethodHandle" ∧ y.cls ≠ "java/lang/invoke/VarHandle" ∧ (parseMethodDescriptor y.desc).map (fun d => d.parameters.length) = some nA) (hnA : As.length = nA) (hR : rm.frames + 1 ≤ R.frames ∧ 8 + (maxL + 11) + rm.locals ≤ R.locals)
    (hls : ls.size = nL) (hcat : (rest.map fun v => v.category).sum ≤ 8) (hf : cells + mc ≤ R.cells ∧ slots + ms ≤ R.slots) (hst : st0 = As.reverse ++ rest) (h : q_bn f K = some r) (hdg : decode cc pc = .ok (.invokestatic index, 3))
    (kk : ∀ (M1 : Mem) (a : Int32) (H1 : Heap) (locs1 : List Loc), Wd D cy ad x1 s M1 H1 locs1 → K M1 a = some r → W p l e R s m args below meth c H1 locs1 (cells + mc) (slots + ms) Q (F0 m (pc + 3) ls (.int a :: rest))) : W p l e R s m args below meth c H locs cells slots Q (F0 m pc ls st0) :=
  q_callSN (g := q_vi) C0 hw hM hG hws hrm hd hnA hR hls hcat hf hst h hdg (fun M1 a H1 locs1 hw1 h1 => kk M1 a H1 locs1 hw1 h1)
theorem q_callSNv {β : Type} {y : MethodName} {ws ws' : List Cond} {rm : Room} {As : List Value} {nA : Nat} {f : Option (Mem × Unit)} {K : Mem → Unit → Option β} {r : β} {mc ms maxL index : Nat} {bytes : ByteArray} {rt : Option FieldType} {st0 : List Value} {x1 : XX}
    (C0 : MX p l s m args meth c D cy ad cc own nL Ts ret) (hw : Wd D cy ad x s M H locs) (hM : ∀ r1, f = some r1 → CN l y ws rm D cy ad As x M x1 r1.1 (q_vv r1.2) mc ms)
    (hG : GoodIn Ts (va_wsS own index y ws)) (hws : ws = Cond.code y bytes maxL rt :: ws') (hrm : rm.cells = mc ∧ rm.slots = ms) (hd : y.cls ≠ "java/lang/invoke/MethodHandle" ∧ y.cls ≠ "java/lang/invoke/VarHandle" ∧ (parseMethodDescriptor y.desc).map (fun d => d.parameters.length) = some nA) (hnA : As.length = nA) (hR : rm.frames + 1 ≤ R.frames ∧ 8 + (maxL + 11) + rm.locals ≤ R.locals)
    (hls : ls.size = nL) (hcat : (rest.map fun v => v.category).sum ≤ 8) (hf : cells + mc ≤ R.cells ∧ slots + ms ≤ R.slots) (hst : st0 = As.reverse ++ rest) (h : q_bn f K = some r) (hdg : decode cc pc = .ok (.invokestatic index, 3))
    (kk : ∀ (M1 : Mem) (H1 : Heap) (locs1 : List Loc), Wd D cy ad x1 s M1 H1 locs1 → K M1 () = some r → W p l e R s m args below meth c H1 locs1 (cells + mc) (slots + ms) Q (F0 m (pc + 3) ls (rest))) : W p l e R s m args below meth c H locs cells slots Q (F0 m pc ls st0) :=
  q_callSN (g := q_vv) C0 hw hM hG hws hrm hd hnA hR hls hcat hf hst h hdg (fun M1 a H1 locs1 hw1 h1 => kk M1 H1 locs1 hw1 h1)
theorem q_callSNl {β : Type} {y : MethodName} {ws ws' : List Cond} {rm : Room} {As : List Value} {nA : Nat} {f : Option (Mem × Int64)} {K : Mem → Int64 → Option β} {r : β} {mc ms maxL index : Nat} {bytes : ByteArray} {rt : Option FieldType} {st0 : List Value} {x1 : XX}
    (C0 : MX p l s m args meth c D cy ad cc own nL Ts ret) (hw : Wd D cy ad x s M H locs) (hM : ∀ r1, f = some r1 → CN l y ws rm D cy ad As x M x1 r1.1 (q_vl r1.2) mc ms)
    (hG : GoodIn Ts (va_wsS own index y ws)) (hws : ws = Cond.code y bytes maxL rt :: ws') (hrm : rm.cells = mc ∧ rm.slots = ms) (hd : y.cls ≠ "java/lang/invoke/MethodHandle" ∧ y.cls ≠ "java/lang/invoke/VarHandle" ∧ (parseMethodDescriptor y.desc).map (fun d => d.parameters.length) = some nA) (hnA : As.length = nA) (hR : rm.frames + 1 ≤ R.frames ∧ 8 + (maxL + 11) + rm.locals ≤ R.locals)
    (hls : ls.size = nL) (hcat : (rest.map fun v => v.category).sum ≤ 8) (hf : cells + mc ≤ R.cells ∧ slots + ms ≤ R.slots) (hst : st0 = As.reverse ++ rest) (h : q_bn f K = some r) (hdg : decode cc pc = .ok (.invokestatic index, 3))
    (kk : ∀ (M1 : Mem) (a : Int64) (H1 : Heap) (locs1 : List Loc), Wd D cy ad x1 s M1 H1 locs1 → K M1 a = some r → W p l e R s m args below meth c H1 locs1 (cells + mc) (slots + ms) Q (F0 m (pc + 3) ls (.long a :: rest))) : W p l e R s m args below meth c H locs cells slots Q (F0 m pc ls st0) :=
  q_callSN (g := q_vl) C0 hw hM hG hws hrm hd hnA hR hls hcat hf hst h hdg (fun M1 a H1 locs1 hw1 h1 => kk M1 a H1 locs1 hw1 h1)
theorem q_callSNf {β : Type} {y : MethodName} {ws ws' : List Cond} {rm : Room} {As : List Value} {nA : Nat} {f : Option (Mem × UInt32)} {K : Mem → UInt32 → Option β} {r : β} {mc ms maxL index : Nat} {bytes : ByteArray} {rt : Option FieldType} {st0 : List Value} {x1 : XX}
    (C0 : MX p l s m args meth c D cy ad cc own nL Ts ret) (hw : Wd D cy ad x s M H locs) (hM : ∀ r1, f = some r1 → CN l y ws rm D cy ad As x M x1 r1.1 (q_vf r1.2) mc ms)
    (hG : GoodIn Ts (va_wsS own index y ws)) (hws : ws = Cond.code y bytes maxL rt :: ws') (hrm : rm.cells = mc ∧ rm.slots = ms) (hd : y.cls ≠ "java/lang/invoke/MethodHandle" ∧ y.cls ≠ "java/lang/invoke/VarHandle" ∧ (parseMethodDescriptor y.desc).map (fun d => d.parameters.length) = some nA) (hnA : As.length = nA) (hR : rm.frames + 1 ≤ R.frames ∧ 8 + (maxL + 11) + rm.locals ≤ R.locals)
    (hls : ls.size = nL) (hcat : (rest.map fun v => v.category).sum ≤ 8) (hf : cells + mc ≤ R.cells ∧ slots + ms ≤ R.slots) (hst : st0 = As.reverse ++ rest) (h : q_bn f K = some r) (hdg : decode cc pc = .ok (.invokestatic index, 3))
    (kk : ∀ (M1 : Mem) (a : UInt32) (H1 : Heap) (locs1 : List Loc), Wd D cy ad x1 s M1 H1 locs1 → K M1 a = some r → W p l e R s m args below meth c H1 locs1 (cells + mc) (slots + ms) Q (F0 m (pc + 3) ls (.float a :: rest))) : W p l e R s m args below meth c H locs cells slots Q (F0 m pc ls st0) :=
  q_callSN (g := q_vf) C0 hw hM hG hws hrm hd hnA hR hls hcat hf hst h hdg (fun M1 a H1 locs1 hw1 h1 => kk M1 a H1 locs1 hw1 h1)
theorem q_callSNd {β : Type} {y : MethodName} {ws ws' : List Cond} {rm : Room} {As : List Value} {nA : Nat} {f : Option (Mem × UInt64)} {K : Mem → UInt64 → Option β} {r : β} {mc ms maxL index : Nat} {bytes : ByteArray} {rt : Option FieldType} {st0 : List Value} {x1 : XX}
    (C0 : MX p l s m args meth c D cy ad cc own nL Ts ret) (hw : Wd D cy ad x s M H locs) (hM : ∀ r1, f = some r1 → CN l y ws rm D cy ad As x M x1 r1.1 (q_vd r1.2) mc ms)
    (hG : GoodIn Ts (va_wsS own index y ws)) (hws : ws = Cond.code y bytes maxL rt :: ws') (hrm : rm.cells = mc ∧ rm.slots = ms) (hd : y.cls ≠ "java/lang/invoke/MethodHandle" ∧ y.cls ≠ "java/lang/invoke/VarHandle" ∧ (parseMethodDescriptor y.desc).map (fun d => d.parameters.length) = some nA) (hnA : As.length = nA) (hR : rm.frames + 1 ≤ R.frames ∧ 8 + (maxL + 11) + rm.locals ≤ R.locals)
    (hls : ls.size = nL) (hcat : (rest.map fun v => v.category).sum ≤ 8) (hf : cells + mc ≤ R.cells ∧ slots + ms ≤ R.slots) (hst : st0 = As.reverse ++ rest) (h : q_bn f K = some r) (hdg : decode cc pc = .ok (.invokestatic index, 3))
    (kk : ∀ (M1 : Mem) (a : UInt64) (H1 : Heap) (locs1 : List Loc), Wd D cy ad x1 s M1 H1 locs1 → K M1 a = some r → W p l e R s m args below meth c H1 locs1 (cells + mc) (slots + ms) Q (F0 m (pc + 3) ls (.double a :: rest))) : W p l e R s m args below meth c H locs cells slots Q (F0 m pc ls st0) :=
  q_callSN (g := q_vd) C0 hw hM hG hws hrm hd hnA hR hls hcat hf hst h hdg (fun M1 a H1 locs1 hw1 h1 => kk M1 a H1 locs1 hw1 h1)
theorem q_callVTi {β : Type} {y : MethodName} {ws ws' : List Cond} {rm : Room} {As : List Value} {nA : Nat} {f : Option (Mem × (Int32 ⊕ Nat))} {gb : β → Option Value} {K : Mem → Int32 → Option (Mem × (β ⊕ Nat))} {r : Mem × (β ⊕ Nat)} {mc ms mq mz maxL ci k index N : Nat} {C : String} {T : u_T} {fs : List Value} {bytes : ByteArray} {rt : Option FieldType} {st0 : List Value}
    (C0 : MX p l s m args meth c D cy ad cc own nL Ts ret) (ht : ∀ z ∈ c.exceptionTable.toList, False) (hw : Wd D cy ad x s M H locs) (ha : At_ cy ad M x k (.inr (ci, fs))) (hci : vwCl[ci]? = some (C, T, N)) (hM : ∀ r1, f = some r1 → CT l y ws rm D cy ad (.ref (ad k) :: As) x M r1.1 (q_ou q_vi r1.2) mc ms)
    (hG : GoodIn Ts (wsV own index C y ws)) (hws : ws = Cond.code y bytes maxL rt :: ws') (hrm : rm.cells = mc ∧ rm.slots = ms) (hd : y.cls = C ∧ y.cls ≠ "java/lang/invoke/MethodHandle" ∧ y.cls ≠ "java/lang/invoke/VarHandle" ∧ (parseMethodDescriptor y.desc).map (fun d => d.parameters.length) = some nA) (hnA : As.length = nA) (hR : rm.frames + 1 ≤ R.frames ∧ 8 + (maxL + 11) + rm.locals ≤ R.locals)
    (hls : ls.size = nL) (hcat : (rest.map fun v => v.category).sum ≤ 8) (hf : cells + mc ≤ R.cells ∧ slots + ms ≤ R.slots) (hm : cells + mc ≤ mq ∧ slots + ms ≤ mz) (hst : st0 = As.reverse ++ .ref (ad k) :: rest) (h : q_bx f K = some r) (hdg : decode cc pc = .ok (.invokevirtual index, 3))
    (kk : ∀ (M1 : Mem) (a : Int32) (H1 : Heap) (locs1 : List Loc), Wd D cy ad x s M1 H1 locs1 → K M1 a = some r → W p l e R s m args below meth c H1 locs1 (cells + mc) (slots + ms) (QT D cy ad below args s x gb r mq mz) (F0 m (pc + 3) ls (.int a :: rest))) : W p l e R s m args below meth c H locs cells slots (QT D cy ad below args s x gb r mq mz) (F0 m pc ls st0) :=
  q_callVT (g := q_vi) C0 ht hw ha hci hM hG hws hrm hd hnA hR hls hcat hf hm hst h hdg (fun M1 a H1 locs1 hw1 h1 => kk M1 a H1 locs1 hw1 h1)
theorem q_callVTv {β : Type} {y : MethodName} {ws ws' : List Cond} {rm : Room} {As : List Value} {nA : Nat} {f : Option (Mem × (Unit ⊕ Nat))} {gb : β → Option Value} {K : Mem → Unit → Option (Mem × (β ⊕ Nat))} {r : Mem × (β ⊕ Nat)} {mc ms mq mz maxL ci k index N : Nat} {C : String} {T : u_T} {fs : List Value} {bytes : ByteArray} {rt : Option FieldType} {st0 : List Value}
    (C0 : MX p l s m args meth c D cy ad cc own nL Ts ret) (ht : ∀ z ∈ c.exceptionTable.toList, False) (hw : Wd D cy ad x s M H locs) (ha : At_ cy ad M x k (.inr (ci, fs))) (hci : vwCl[ci]? = some (C, T, N)) (hM : ∀ r1, f = some r1 → CT l y ws rm D cy ad (.ref (ad k) :: As) x M r1.1 (q_ou q_vv r1.2) mc ms)
    (hG : GoodIn Ts (wsV own index C y ws)) (hws : ws = Cond.code y bytes maxL rt :: ws') (hrm : rm.cells = mc ∧ rm.slots = ms) (hd : y.cls = C ∧ y.cls ≠ "java/lang/invoke/MethodHandle" ∧ y.cls ≠ "java/lang/invoke/VarHandle" ∧ (parseMethodDescriptor y.desc).map (fun d => d.parameters.length) = some nA) (hnA : As.length = nA) (hR : rm.frames + 1 ≤ R.frames ∧ 8 + (maxL + 11) + rm.locals ≤ R.locals)
    (hls : ls.size = nL) (hcat : (rest.map fun v => v.category).sum ≤ 8) (hf : cells + mc ≤ R.cells ∧ slots + ms ≤ R.slots) (hm : cells + mc ≤ mq ∧ slots + ms ≤ mz) (hst : st0 = As.reverse ++ .ref (ad k) :: rest) (h : q_bx f K = some r) (hdg : decode cc pc = .ok (.invokevirtual index, 3))
    (kk : ∀ (M1 : Mem) (H1 : Heap) (locs1 : List Loc), Wd D cy ad x s M1 H1 locs1 → K M1 () = some r → W p l e R s m args below meth c H1 locs1 (cells + mc) (slots + ms) (QT D cy ad below args s x gb r mq mz) (F0 m (pc + 3) ls (rest))) : W p l e R s m args below meth c H locs cells slots (QT D cy ad below args s x gb r mq mz) (F0 m pc ls st0) :=
  q_callVT (g := q_vv) C0 ht hw ha hci hM hG hws hrm hd hnA hR hls hcat hf hm hst h hdg (fun M1 a H1 locs1 hw1 h1 => kk M1 H1 locs1 hw1 h1)
theorem q_callVTl {β : Type} {y : MethodName} {ws ws' : List Cond} {rm : Room} {As : List Value} {nA : Nat} {f : Option (Mem × (Int64 ⊕ Nat))} {gb : β → Option Value} {K : Mem → Int64 → Option (Mem × (β ⊕ Nat))} {r : Mem × (β ⊕ Nat)} {mc ms mq mz maxL ci k index N : Nat} {C : String} {T : u_T} {fs : List Value} {bytes : ByteArray} {rt : Option FieldType} {st0 : List Value}
    (C0 : MX p l s m args meth c D cy ad cc own nL Ts ret) (ht : ∀ z ∈ c.exceptionTable.toList, False) (hw : Wd D cy ad x s M H locs) (ha : At_ cy ad M x k (.inr (ci, fs))) (hci : vwCl[ci]? = some (C, T, N)) (hM : ∀ r1, f = some r1 → CT l y ws rm D cy ad (.ref (ad k) :: As) x M r1.1 (q_ou q_vl r1.2) mc ms)
    (hG : GoodIn Ts (wsV own index C y ws)) (hws : ws = Cond.code y bytes maxL rt :: ws') (hrm : rm.cells = mc ∧ rm.slots = ms) (hd : y.cls = C ∧ y.cls ≠ "java/lang/invoke/MethodHandle" ∧ y.cls ≠ "java/lang/invoke/VarHandle" ∧ (parseMethodDescriptor y.desc).map (fun d => d.parameters.length) = some nA) (hnA : As.length = nA) (hR : rm.frames + 1 ≤ R.frames ∧ 8 + (maxL + 11) + rm.locals ≤ R.locals)
    (hls : ls.size = nL) (hcat : (rest.map fun v => v.category).sum ≤ 8) (hf : cells + mc ≤ R.cells ∧ slots + ms ≤ R.slots) (hm : cells + mc ≤ mq ∧ slots + ms ≤ mz) (hst : st0 = As.reverse ++ .ref (ad k) :: rest) (h : q_bx f K = some r) (hdg : decode cc pc = .ok (.invokevirtual index, 3))
    (kk : ∀ (M1 : Mem) (a : Int64) (H1 : Heap) (locs1 : List Loc), Wd D cy ad x s M1 H1 locs1 → K M1 a = some r → W p l e R s m args below meth c H1 locs1 (cells + mc) (slots + ms) (QT D cy ad below args s x gb r mq mz) (F0 m (pc + 3) ls (.long a :: rest))) : W p l e R s m args below meth c H locs cells slots (QT D cy ad below args s x gb r mq mz) (F0 m pc ls st0) :=
  q_callVT (g := q_vl) C0 ht hw ha hci hM hG hws hrm hd hnA hR hls hcat hf hm hst h hdg (fun M1 a H1 locs1 hw1 h1 => kk M1 a H1 locs1 hw1 h1)
theorem q_callVTf {β : Type} {y : MethodName} {ws ws' : List Cond} {rm : Room} {As : List Value} {nA : Nat} {f : Option (Mem × (UInt32 ⊕ Nat))} {gb : β → Option Value} {K : Mem → UInt32 → Option (Mem × (β ⊕ Nat))} {r : Mem × (β ⊕ Nat)} {mc ms mq mz maxL ci k index N : Nat} {C : String} {T : u_T} {fs : List Value} {bytes : ByteArray} {rt : Option FieldType} {st0 : List Value}
    (C0 : MX p l s m args meth c D cy ad cc own nL Ts ret) (ht : ∀ z ∈ c.exceptionTable.toList, False) (hw : Wd D cy ad x s M H locs) (ha : At_ cy ad M x k (.inr (ci, fs))) (hci : vwCl[ci]? = some (C, T, N)) (hM : ∀ r1, f = some r1 → CT l y ws rm D cy ad (.ref (ad k) :: As) x M r1.1 (q_ou q_vf r1.2) mc ms)
    (hG : GoodIn Ts (wsV own index C y ws)) (hws : ws = Cond.code y bytes maxL rt :: ws') (hrm : rm.cells = mc ∧ rm.slots = ms) (hd : y.cls = C ∧ y.cls ≠ "java/lang/invoke/MethodHandle" ∧ y.cls ≠ "java/lang/invoke/VarHandle" ∧ (parseMethodDescriptor y.desc).map (fun d => d.parameters.length) = some nA) (hnA : As.length = nA) (hR : rm.frames + 1 ≤ R.frames ∧ 8 + (maxL + 11) + rm.locals ≤ R.locals)
    (hls : ls.size = nL) (hcat : (rest.map fun v => v.category).sum ≤ 8) (hf : cells + mc ≤ R.cells ∧ slots + ms ≤ R.slots) (hm : cells + mc ≤ mq ∧ slots + ms ≤ mz) (hst : st0 = As.reverse ++ .ref (ad k) :: rest) (h : q_bx f K = some r) (hdg : decode cc pc = .ok (.invokevirtual index, 3))
    (kk : ∀ (M1 : Mem) (a : UInt32) (H1 : Heap) (locs1 : List Loc), Wd D cy ad x s M1 H1 locs1 → K M1 a = some r → W p l e R s m args below meth c H1 locs1 (cells + mc) (slots + ms) (QT D cy ad below args s x gb r mq mz) (F0 m (pc + 3) ls (.float a :: rest))) : W p l e R s m args below meth c H locs cells slots (QT D cy ad below args s x gb r mq mz) (F0 m pc ls st0) :=
  q_callVT (g := q_vf) C0 ht hw ha hci hM hG hws hrm hd hnA hR hls hcat hf hm hst h hdg (fun M1 a H1 locs1 hw1 h1 => kk M1 a H1 locs1 hw1 h1)
theorem q_callVTd {β : Type} {y : MethodName} {ws ws' : List Cond} {rm : Room} {As : List Value} {nA : Nat} {f : Option (Mem × (UInt64 ⊕ Nat))} {gb : β → Option Value} {K : Mem → UInt64 → Option (Mem × (β ⊕ Nat))} {r : Mem × (β ⊕ Nat)} {mc ms mq mz maxL ci k index N : Nat} {C : String} {T : u_T} {fs : List Value} {bytes : ByteArray} {rt : Option FieldType} {st0 : List Value}
    (C0 : MX p l s m args meth c D cy ad cc own nL Ts ret) (ht : ∀ z ∈ c.exceptionTable.toList, False) (hw : Wd D cy ad x s M H locs) (ha : At_ cy ad M x k (.inr (ci, fs))) (hci : vwCl[ci]? = some (C, T, N)) (hM : ∀ r1, f = some r1 → CT l y ws rm D cy ad (.ref (ad k) :: As) x M r1.1 (q_ou q_vd r1.2) mc ms)
    (hG : GoodIn Ts (wsV own index C y ws)) (hws : ws = Cond.code y bytes maxL rt :: ws') (hrm : rm.cells = mc ∧ rm.slots = ms) (hd : y.cls = C ∧ y.cls ≠ "java/lang/invoke/MethodHandle" ∧ y.cls ≠ "java/lang/invoke/VarHandle" ∧ (parseMethodDescriptor y.desc).map (fun d => d.parameters.length) = some nA) (hnA : As.length = nA) (hR : rm.frames + 1 ≤ R.frames ∧ 8 + (maxL + 11) + rm.locals ≤ R.locals)
    (hls : ls.size = nL) (hcat : (rest.map fun v => v.category).sum ≤ 8) (hf : cells + mc ≤ R.cells ∧ slots + ms ≤ R.slots) (hm : cells + mc ≤ mq ∧ slots + ms ≤ mz) (hst : st0 = As.reverse ++ .ref (ad k) :: rest) (h : q_bx f K = some r) (hdg : decode cc pc = .ok (.invokevirtual index, 3))
    (kk : ∀ (M1 : Mem) (a : UInt64) (H1 : Heap) (locs1 : List Loc), Wd D cy ad x s M1 H1 locs1 → K M1 a = some r → W p l e R s m args below meth c H1 locs1 (cells + mc) (slots + ms) (QT D cy ad below args s x gb r mq mz) (F0 m (pc + 3) ls (.double a :: rest))) : W p l e R s m args below meth c H locs cells slots (QT D cy ad below args s x gb r mq mz) (F0 m pc ls st0) :=
  q_callVT (g := q_vd) C0 ht hw ha hci hM hG hws hrm hd hnA hR hls hcat hf hm hst h hdg (fun M1 a H1 locs1 hw1 h1 => kk M1 a H1 locs1 hw1 h1)
theorem q_callSTi {β : Type} {y : MethodName} {ws ws' : List Cond} {rm : Room} {As : List Value} {nA : Nat} {f : Option (Mem × (Int32 ⊕ Nat))} {gb : β → Option Value} {K : Mem → Int32 → Option (Mem × (β ⊕ Nat))} {r : Mem × (β ⊕ Nat)} {mc ms mq mz maxL index : Nat} {bytes : ByteArray} {rt : Option FieldType} {st0 : List Value}
    (C0 : MX p l s m args meth c D cy ad cc own nL Ts ret) (ht : ∀ z ∈ c.exceptionTable.toList, False) (hw : Wd D cy ad x s M H locs) (hM : ∀ r1, f = some r1 → CT l y ws rm D cy ad As x M r1.1 (q_ou q_vi r1.2) mc ms)
    (hG : GoodIn Ts (va_wsS own index y ws)) (hws : ws = Cond.code y bytes maxL rt :: ws') (hrm : rm.cells = mc ∧ rm.slots = ms) (hd : y.cls ≠ "java/lang/invoke/MethodHandle" ∧ y.cls ≠ "java/lang/invoke/VarHandle" ∧ (parseMethodDescriptor y.desc).map (fun d => d.parameters.length) = some nA) (hnA : As.length = nA) (hR : rm.frames + 1 ≤ R.frames ∧ 8 + (maxL + 11) + rm.locals ≤ R.locals)
    (hls : ls.size = nL) (hcat : (rest.map fun v => v.category).sum ≤ 8) (hf : cells + mc ≤ R.cells ∧ slots + ms ≤ R.slots) (hm : cells + mc ≤ mq ∧ slots + ms ≤ mz) (hst : st0 = As.reverse ++ rest) (h : q_bx f K = some r) (hdg : decode cc pc = .ok (.invokestatic index, 3))
    (kk : ∀ (M1 : Mem) (a : Int32) (H1 : Heap) (locs1 : List Loc), Wd D cy ad x s M1 H1 locs1 → K M1 a = some r → W p l e R s m args below meth c H1 locs1 (cells + mc) (slots + ms) (QT D cy ad below args s x gb r mq mz) (F0 m (pc + 3) ls (.int a :: rest))) : W p l e R s m args below meth c H locs cells slots (QT D cy ad below args s x gb r mq mz) (F0 m pc ls st0) :=
  q_callST (g := q_vi) C0 ht hw hM hG hws hrm hd hnA hR hls hcat hf hm hst h hdg (fun M1 a H1 locs1 hw1 h1 => kk M1 a H1 locs1 hw1 h1)
theorem q_callSTv {β : Type} {y : MethodName} {ws ws' : List Cond} {rm : Room} {As : List Value} {nA : Nat} {f : Option (Mem × (Unit ⊕ Nat))} {gb : β → Option Value} {K : Mem → Unit → Option (Mem × (β ⊕ Nat))} {r : Mem × (β ⊕ Nat)} {mc ms mq mz maxL index : Nat} {bytes : ByteArray} {rt : Option FieldType} {st0 : List Value}
    (C0 : MX p l s m args meth c D cy ad cc own nL Ts ret) (ht : ∀ z ∈ c.exceptionTable.toList, False) (hw : Wd D cy ad x s M H locs) (hM : ∀ r1, f = some r1 → CT l y ws rm D cy ad As x M r1.1 (q_ou q_vv r1.2) mc ms)
    (hG : GoodIn Ts (va_wsS own index y ws)) (hws : ws = Cond.code y bytes maxL rt :: ws') (hrm : rm.cells = mc ∧ rm.slots = ms) (hd : y.cls ≠ "java/lang/invoke/MethodHandle" ∧ y.cls ≠ "java/lang/invoke/VarHandle" ∧ (parseMethodDescriptor y.desc).map (fun d => d.parameters.length) = some nA) (hnA : As.length = nA) (hR : rm.frames + 1 ≤ R.frames ∧ 8 + (maxL + 11) + rm.locals ≤ R.locals)
    (hls : ls.size = nL) (hcat : (rest.map fun v => v.category).sum ≤ 8) (hf : cells + mc ≤ R.cells ∧ slots + ms ≤ R.slots) (hm : cells + mc ≤ mq ∧ slots + ms ≤ mz) (hst : st0 = As.reverse ++ rest) (h : q_bx f K = some r) (hdg : decode cc pc = .ok (.invokestatic index, 3))
    (kk : ∀ (M1 : Mem) (H1 : Heap) (locs1 : List Loc), Wd D cy ad x s M1 H1 locs1 → K M1 () = some r → W p l e R s m args below meth c H1 locs1 (cells + mc) (slots + ms) (QT D cy ad below args s x gb r mq mz) (F0 m (pc + 3) ls (rest))) : W p l e R s m args below meth c H locs cells slots (QT D cy ad below args s x gb r mq mz) (F0 m pc ls st0) :=
  q_callST (g := q_vv) C0 ht hw hM hG hws hrm hd hnA hR hls hcat hf hm hst h hdg (fun M1 a H1 locs1 hw1 h1 => kk M1 H1 locs1 hw1 h1)
theorem q_callSTl {β : Type} {y : MethodName} {ws ws' : List Cond} {rm : Room} {As : List Value} {nA : Nat} {f : Option (Mem × (Int64 ⊕ Nat))} {gb : β → Option Value} {K : Mem → Int64 → Option (Mem × (β ⊕ Nat))} {r : Mem × (β ⊕ Nat)} {mc ms mq mz maxL index : Nat} {bytes : ByteArray} {rt : Option FieldType} {st0 : List Value}
    (C0 : MX p l s m args meth c D cy ad cc own nL Ts ret) (ht : ∀ z ∈ c.exceptionTable.toList, False) (hw : Wd D cy ad x s M H locs) (hM : ∀ r1, f = some r1 → CT l y ws rm D cy ad As x M r1.1 (q_ou q_vl r1.2) mc ms)
    (hG : GoodIn Ts (va_wsS own index y ws)) (hws : ws = Cond.code y bytes maxL rt :: ws') (hrm : rm.cells = mc ∧ rm.slots = ms) (hd : y.cls ≠ "java/lang/invoke/MethodHandle" ∧ y.cls ≠ "java/lang/invoke/VarHandle" ∧ (parseMethodDescriptor y.desc).map (fun d => d.parameters.length) = some nA) (hnA : As.length = nA) (hR : rm.frames + 1 ≤ R.frames ∧ 8 + (maxL + 11) + rm.locals ≤ R.locals)
    (hls : ls.size = nL) (hcat : (rest.map fun v => v.category).sum ≤ 8) (hf : cells + mc ≤ R.cells ∧ slots + ms ≤ R.slots) (hm : cells + mc ≤ mq ∧ slots + ms ≤ mz) (hst : st0 = As.reverse ++ rest) (h : q_bx f K = some r) (hdg : decode cc pc = .ok (.invokestatic index, 3))
    (kk : ∀ (M1 : Mem) (a : Int64) (H1 : Heap) (locs1 : List Loc), Wd D cy ad x s M1 H1 locs1 → K M1 a = some r → W p l e R s m args below meth c H1 locs1 (cells + mc) (slots + ms) (QT D cy ad below args s x gb r mq mz) (F0 m (pc + 3) ls (.long a :: rest))) : W p l e R s m args below meth c H locs cells slots (QT D cy ad below args s x gb r mq mz) (F0 m pc ls st0) :=
  q_callST (g := q_vl) C0 ht hw hM hG hws hrm hd hnA hR hls hcat hf hm hst h hdg (fun M1 a H1 locs1 hw1 h1 => kk M1 a H1 locs1 hw1 h1)
theorem q_callSTf {β : Type} {y : MethodName} {ws ws' : List Cond} {rm : Room} {As : List Value} {nA : Nat} {f : Option (Mem × (UInt32 ⊕ Nat))} {gb : β → Option Value} {K : Mem → UInt32 → Option (Mem × (β ⊕ Nat))} {r : Mem × (β ⊕ Nat)} {mc ms mq mz maxL index : Nat} {bytes : ByteArray} {rt : Option FieldType} {st0 : List Value}
    (C0 : MX p l s m args meth c D cy ad cc own nL Ts ret) (ht : ∀ z ∈ c.exceptionTable.toList, False) (hw : Wd D cy ad x s M H locs) (hM : ∀ r1, f = some r1 → CT l y ws rm D cy ad As x M r1.1 (q_ou q_vf r1.2) mc ms)
    (hG : GoodIn Ts (va_wsS own index y ws)) (hws : ws = Cond.code y bytes maxL rt :: ws') (hrm : rm.cells = mc ∧ rm.slots = ms) (hd : y.cls ≠ "java/lang/invoke/MethodHandle" ∧ y.cls ≠ "java/lang/invoke/VarHandle" ∧ (parseMethodDescriptor y.desc).map (fun d => d.parameters.length) = some nA) (hnA : As.length = nA) (hR : rm.frames + 1 ≤ R.frames ∧ 8 + (maxL + 11) + rm.locals ≤ R.locals)
    (hls : ls.size = nL) (hcat : (rest.map fun v => v.category).sum ≤ 8) (hf : cells + mc ≤ R.cells ∧ slots + ms ≤ R.slots) (hm : cells + mc ≤ mq ∧ slots + ms ≤ mz) (hst : st0 = As.reverse ++ rest) (h : q_bx f K = some r) (hdg : decode cc pc = .ok (.invokestatic index, 3))
    (kk : ∀ (M1 : Mem) (a : UInt32) (H1 : Heap) (locs1 : List Loc), Wd D cy ad x s M1 H1 locs1 → K M1 a = some r → W p l e R s m args below meth c H1 locs1 (cells + mc) (slots + ms) (QT D cy ad below args s x gb r mq mz) (F0 m (pc + 3) ls (.float a :: rest))) : W p l e R s m args below meth c H locs cells slots (QT D cy ad below args s x gb r mq mz) (F0 m pc ls st0) :=
  q_callST (g := q_vf) C0 ht hw hM hG hws hrm hd hnA hR hls hcat hf hm hst h hdg (fun M1 a H1 locs1 hw1 h1 => kk M1 a H1 locs1 hw1 h1)
theorem q_callSTd {β : Type} {y : MethodName} {ws ws' : List Cond} {rm : Room} {As : List Value} {nA : Nat} {f : Option (Mem × (UInt64 ⊕ Nat))} {gb : β → Option Value} {K : Mem → UInt64 → Option (Mem × (β ⊕ Nat))} {r : Mem × (β ⊕ Nat)} {mc ms mq mz maxL index : Nat} {bytes : ByteArray} {rt : Option FieldType} {st0 : List Value}
    (C0 : MX p l s m args meth c D cy ad cc own nL Ts ret) (ht : ∀ z ∈ c.exceptionTable.toList, False) (hw : Wd D cy ad x s M H locs) (hM : ∀ r1, f = some r1 → CT l y ws rm D cy ad As x M r1.1 (q_ou q_vd r1.2) mc ms)
    (hG : GoodIn Ts (va_wsS own index y ws)) (hws : ws = Cond.code y bytes maxL rt :: ws') (hrm : rm.cells = mc ∧ rm.slots = ms) (hd : y.cls ≠ "java/lang/invoke/MethodHandle" ∧ y.cls ≠ "java/lang/invoke/VarHandle" ∧ (parseMethodDescriptor y.desc).map (fun d => d.parameters.length) = some nA) (hnA : As.length = nA) (hR : rm.frames + 1 ≤ R.frames ∧ 8 + (maxL + 11) + rm.locals ≤ R.locals)
    (hls : ls.size = nL) (hcat : (rest.map fun v => v.category).sum ≤ 8) (hf : cells + mc ≤ R.cells ∧ slots + ms ≤ R.slots) (hm : cells + mc ≤ mq ∧ slots + ms ≤ mz) (hst : st0 = As.reverse ++ rest) (h : q_bx f K = some r) (hdg : decode cc pc = .ok (.invokestatic index, 3))
    (kk : ∀ (M1 : Mem) (a : UInt64) (H1 : Heap) (locs1 : List Loc), Wd D cy ad x s M1 H1 locs1 → K M1 a = some r → W p l e R s m args below meth c H1 locs1 (cells + mc) (slots + ms) (QT D cy ad below args s x gb r mq mz) (F0 m (pc + 3) ls (.double a :: rest))) : W p l e R s m args below meth c H locs cells slots (QT D cy ad below args s x gb r mq mz) (F0 m pc ls st0) :=
  q_callST (g := q_vd) C0 ht hw hM hG hws hrm hd hnA hR hls hcat hf hm hst h hdg (fun M1 a H1 locs1 hw1 h1 => kk M1 a H1 locs1 hw1 h1)
theorem q_no {β : Type} {r : β} {G : Prop} (h : (none : Option β) = some r) : G := by cases h
theorem q_icmp_eq {y z : Int32} {off : Int} {tgt : Nat} {β : Type} {A B : Option β} {r : β} (hx : p.tables.exec = Jvm.exec) (hb : c.code = cc) (hdg : decode cc pc = .ok (.if_icmp .eq off, 3)) (ht : (pc : Int) + off = (tgt : Int)) (h : (if y = z then A else B) = some r) (kt : A = some r → W p l e R s m args below meth c H locs cells slots Q (F0 m tgt ls rest)) (kf : B = some r → W p l e R s m args below meth c H locs cells slots Q (F0 m (pc + 3) ls rest)) : W p l e R s m args below meth c H locs cells slots Q (F0 m pc ls (.int z :: .int y :: rest)) :=
  lv_icmp_eq hx hb hdg ht (fun q => kt ((if_pos q).symm.trans h)) (fun q => kf ((if_neg q).symm.trans h))
theorem q_if_eq {y : Int32} {off : Int} {tgt : Nat} {β : Type} {A B : Option β} {r : β} (hx : p.tables.exec = Jvm.exec) (hb : c.code = cc) (hdg : decode cc pc = .ok (.ifCond .eq off, 3)) (ht : (pc : Int) + off = (tgt : Int)) (h : (if y = (0 : Int32) then A else B) = some r) (kt : A = some r → W p l e R s m args below meth c H locs cells slots Q (F0 m tgt ls rest)) (kf : B = some r → W p l e R s m args below meth c H locs cells slots Q (F0 m (pc + 3) ls rest)) : W p l e R s m args below meth c H locs cells slots Q (F0 m pc ls (.int y :: rest)) :=
  lv_if_eq hx hb hdg ht (fun q => kt ((if_pos q).symm.trans h)) (fun q => kf ((if_neg q).symm.trans h))
theorem q_icmp_ne {y z : Int32} {off : Int} {tgt : Nat} {β : Type} {A B : Option β} {r : β} (hx : p.tables.exec = Jvm.exec) (hb : c.code = cc) (hdg : decode cc pc = .ok (.if_icmp .ne off, 3)) (ht : (pc : Int) + off = (tgt : Int)) (h : (if y = z then A else B) = some r) (kt : B = some r → W p l e R s m args below meth c H locs cells slots Q (F0 m tgt ls rest)) (kf : A = some r → W p l e R s m args below meth c H locs cells slots Q (F0 m (pc + 3) ls rest)) : W p l e R s m args below meth c H locs cells slots Q (F0 m pc ls (.int z :: .int y :: rest)) :=
  lv_icmp_ne hx hb hdg ht (fun q => kt ((if_neg q).symm.trans h)) (fun q => kf ((if_pos q).symm.trans h))
theorem q_if_ne {y : Int32} {off : Int} {tgt : Nat} {β : Type} {A B : Option β} {r : β} (hx : p.tables.exec = Jvm.exec) (hb : c.code = cc) (hdg : decode cc pc = .ok (.ifCond .ne off, 3)) (ht : (pc : Int) + off = (tgt : Int)) (h : (if y = (0 : Int32) then A else B) = some r) (kt : B = some r → W p l e R s m args below meth c H locs cells slots Q (F0 m tgt ls rest)) (kf : A = some r → W p l e R s m args below meth c H locs cells slots Q (F0 m (pc + 3) ls rest)) : W p l e R s m args below meth c H locs cells slots Q (F0 m pc ls (.int y :: rest)) :=
  lv_if_ne hx hb hdg ht (fun q => kt ((if_neg q).symm.trans h)) (fun q => kf ((if_pos q).symm.trans h))
theorem q_icmp_lt {y z : Int32} {off : Int} {tgt : Nat} {β : Type} {A B : Option β} {r : β} (hx : p.tables.exec = Jvm.exec) (hb : c.code = cc) (hdg : decode cc pc = .ok (.if_icmp .lt off, 3)) (ht : (pc : Int) + off = (tgt : Int)) (h : (if y < z then A else B) = some r) (kt : A = some r → W p l e R s m args below meth c H locs cells slots Q (F0 m tgt ls rest)) (kf : B = some r → W p l e R s m args below meth c H locs cells slots Q (F0 m (pc + 3) ls rest)) : W p l e R s m args below meth c H locs cells slots Q (F0 m pc ls (.int z :: .int y :: rest)) :=
  lv_icmp_lt hx hb hdg ht (fun q => kt ((if_pos q).symm.trans h)) (fun q => kf ((if_neg q).symm.trans h))
theorem q_if_lt {y : Int32} {off : Int} {tgt : Nat} {β : Type} {A B : Option β} {r : β} (hx : p.tables.exec = Jvm.exec) (hb : c.code = cc) (hdg : decode cc pc = .ok (.ifCond .lt off, 3)) (ht : (pc : Int) + off = (tgt : Int)) (h : (if y < (0 : Int32) then A else B) = some r) (kt : A = some r → W p l e R s m args below meth c H locs cells slots Q (F0 m tgt ls rest)) (kf : B = some r → W p l e R s m args below meth c H locs cells slots Q (F0 m (pc + 3) ls rest)) : W p l e R s m args below meth c H locs cells slots Q (F0 m pc ls (.int y :: rest)) :=
  lv_if_lt hx hb hdg ht (fun q => kt ((if_pos q).symm.trans h)) (fun q => kf ((if_neg q).symm.trans h))
theorem q_icmp_ge {y z : Int32} {off : Int} {tgt : Nat} {β : Type} {A B : Option β} {r : β} (hx : p.tables.exec = Jvm.exec) (hb : c.code = cc) (hdg : decode cc pc = .ok (.if_icmp .ge off, 3)) (ht : (pc : Int) + off = (tgt : Int)) (h : (if z ≤ y then A else B) = some r) (kt : A = some r → W p l e R s m args below meth c H locs cells slots Q (F0 m tgt ls rest)) (kf : B = some r → W p l e R s m args below meth c H locs cells slots Q (F0 m (pc + 3) ls rest)) : W p l e R s m args below meth c H locs cells slots Q (F0 m pc ls (.int z :: .int y :: rest)) :=
  lv_icmp_ge hx hb hdg ht (fun q => kt ((if_pos q).symm.trans h)) (fun q => kf ((if_neg q).symm.trans h))
theorem q_if_ge {y : Int32} {off : Int} {tgt : Nat} {β : Type} {A B : Option β} {r : β} (hx : p.tables.exec = Jvm.exec) (hb : c.code = cc) (hdg : decode cc pc = .ok (.ifCond .ge off, 3)) (ht : (pc : Int) + off = (tgt : Int)) (h : (if (0 : Int32) ≤ y then A else B) = some r) (kt : A = some r → W p l e R s m args below meth c H locs cells slots Q (F0 m tgt ls rest)) (kf : B = some r → W p l e R s m args below meth c H locs cells slots Q (F0 m (pc + 3) ls rest)) : W p l e R s m args below meth c H locs cells slots Q (F0 m pc ls (.int y :: rest)) :=
  lv_if_ge hx hb hdg ht (fun q => kt ((if_pos q).symm.trans h)) (fun q => kf ((if_neg q).symm.trans h))
theorem q_icmp_gt {y z : Int32} {off : Int} {tgt : Nat} {β : Type} {A B : Option β} {r : β} (hx : p.tables.exec = Jvm.exec) (hb : c.code = cc) (hdg : decode cc pc = .ok (.if_icmp .gt off, 3)) (ht : (pc : Int) + off = (tgt : Int)) (h : (if z < y then A else B) = some r) (kt : A = some r → W p l e R s m args below meth c H locs cells slots Q (F0 m tgt ls rest)) (kf : B = some r → W p l e R s m args below meth c H locs cells slots Q (F0 m (pc + 3) ls rest)) : W p l e R s m args below meth c H locs cells slots Q (F0 m pc ls (.int z :: .int y :: rest)) :=
  lv_icmp_gt hx hb hdg ht (fun q => kt ((if_pos q).symm.trans h)) (fun q => kf ((if_neg q).symm.trans h))
theorem q_if_gt {y : Int32} {off : Int} {tgt : Nat} {β : Type} {A B : Option β} {r : β} (hx : p.tables.exec = Jvm.exec) (hb : c.code = cc) (hdg : decode cc pc = .ok (.ifCond .gt off, 3)) (ht : (pc : Int) + off = (tgt : Int)) (h : (if (0 : Int32) < y then A else B) = some r) (kt : A = some r → W p l e R s m args below meth c H locs cells slots Q (F0 m tgt ls rest)) (kf : B = some r → W p l e R s m args below meth c H locs cells slots Q (F0 m (pc + 3) ls rest)) : W p l e R s m args below meth c H locs cells slots Q (F0 m pc ls (.int y :: rest)) :=
  lv_if_gt hx hb hdg ht (fun q => kt ((if_pos q).symm.trans h)) (fun q => kf ((if_neg q).symm.trans h))
theorem q_icmp_le {y z : Int32} {off : Int} {tgt : Nat} {β : Type} {A B : Option β} {r : β} (hx : p.tables.exec = Jvm.exec) (hb : c.code = cc) (hdg : decode cc pc = .ok (.if_icmp .le off, 3)) (ht : (pc : Int) + off = (tgt : Int)) (h : (if y ≤ z then A else B) = some r) (kt : A = some r → W p l e R s m args below meth c H locs cells slots Q (F0 m tgt ls rest)) (kf : B = some r → W p l e R s m args below meth c H locs cells slots Q (F0 m (pc + 3) ls rest)) : W p l e R s m args below meth c H locs cells slots Q (F0 m pc ls (.int z :: .int y :: rest)) :=
  lv_icmp_le hx hb hdg ht (fun q => kt ((if_pos q).symm.trans h)) (fun q => kf ((if_neg q).symm.trans h))
theorem q_if_le {y : Int32} {off : Int} {tgt : Nat} {β : Type} {A B : Option β} {r : β} (hx : p.tables.exec = Jvm.exec) (hb : c.code = cc) (hdg : decode cc pc = .ok (.ifCond .le off, 3)) (ht : (pc : Int) + off = (tgt : Int)) (h : (if y ≤ (0 : Int32) then A else B) = some r) (kt : A = some r → W p l e R s m args below meth c H locs cells slots Q (F0 m tgt ls rest)) (kf : B = some r → W p l e R s m args below meth c H locs cells slots Q (F0 m (pc + 3) ls rest)) : W p l e R s m args below meth c H locs cells slots Q (F0 m pc ls (.int y :: rest)) :=
  lv_if_le hx hb hdg ht (fun q => kt ((if_pos q).symm.trans h)) (fun q => kf ((if_neg q).symm.trans h))
theorem q_istore {i nL : Nat} {y : Int32} {lv : List (Nat × Value)} {lv' : Int32 → List (Nat × Value)} {β : Type} {K : Int32 → Option β} {r : β} (hx : p.tables.exec = Jvm.exec) (hb : c.code = cc) (hdg : decode cc pc = .ok (.istore i, 2)) (hl : lv_has ls nL lv) (hn : i < nL) (hf : ∀ z : Int32, (i, Value.int z) :: lv.filter (fun q => !(q.1 == i) && !(q.1 + 1 == i && q.2.category == 2)) = lv' z) (h : q_lt y K = some r) (kk : ∀ (z : Int32) (ls' : Array Slot), lv_has ls' nL (lv' z) → K z = some r → W p l e R s m args below meth c H locs cells slots Q (F0 m (pc + 2) ls' rest)) : W p l e R s m args below meth c H locs cells slots Q (F0 m pc ls (.int y :: rest)) :=
  lv_istore hx hb hdg hl hn (hf y) (fun ls' hl' => kk y ls' hl' h)
theorem q_istore_n {k : Fin 4} {i nL : Nat} {y : Int32} {lv : List (Nat × Value)} {lv' : Int32 → List (Nat × Value)} {β : Type} {K : Int32 → Option β} {r : β} (hx : p.tables.exec = Jvm.exec) (hb : c.code = cc) (hdg : decode cc pc = .ok (.istore_n k, 1)) (hi : (k : Nat) = i) (hl : lv_has ls nL lv) (hn : i < nL) (hf : ∀ z : Int32, (i, Value.int z) :: lv.filter (fun q => !(q.1 == i) && !(q.1 + 1 == i && q.2.category == 2)) = lv' z) (h : q_lt y K = some r) (kk : ∀ (z : Int32) (ls' : Array Slot), lv_has ls' nL (lv' z) → K z = some r → W p l e R s m args below meth c H locs cells slots Q (F0 m (pc + 1) ls' rest)) : W p l e R s m args below meth c H locs cells slots Q (F0 m pc ls (.int y :: rest)) :=
  lv_istore_n hx hb hdg hi hl hn (hf y) (fun ls' hl' => kk y ls' hl' h)
theorem q_lstore {i nL : Nat} {y : Int64} {lv : List (Nat × Value)} {lv' : Int64 → List (Nat × Value)} {β : Type} {K : Int64 → Option β} {r : β} (hx : p.tables.exec = Jvm.exec) (hb : c.code = cc) (hdg : decode cc pc = .ok (.lstore i, 2)) (hl : lv_has ls nL lv) (hn : i + 1 < nL) (hf : ∀ z : Int64, (i, Value.long z) :: lv.filter (fun q => !(q.1 == i) && (!(q.1 == i + 1) && !(q.1 + 1 == i && q.2.category == 2))) = lv' z) (h : q_lt y K = some r) (kk : ∀ (z : Int64) (ls' : Array Slot), lv_has ls' nL (lv' z) → K z = some r → W p l e R s m args below meth c H locs cells slots Q (F0 m (pc + 2) ls' rest)) : W p l e R s m args below meth c H locs cells slots Q (F0 m pc ls (.long y :: rest)) :=
  lv_lstore hx hb hdg hl hn (hf y) (fun ls' hl' => kk y ls' hl' h)
theorem q_lstore_n {k : Fin 4} {i nL : Nat} {y : Int64} {lv : List (Nat × Value)} {lv' : Int64 → List (Nat × Value)} {β : Type} {K : Int64 → Option β} {r : β} (hx : p.tables.exec = Jvm.exec) (hb : c.code = cc) (hdg : decode cc pc = .ok (.lstore_n k, 1)) (hi : (k : Nat) = i) (hl : lv_has ls nL lv) (hn : i + 1 < nL) (hf : ∀ z : Int64, (i, Value.long z) :: lv.filter (fun q => !(q.1 == i) && (!(q.1 == i + 1) && !(q.1 + 1 == i && q.2.category == 2))) = lv' z) (h : q_lt y K = some r) (kk : ∀ (z : Int64) (ls' : Array Slot), lv_has ls' nL (lv' z) → K z = some r → W p l e R s m args below meth c H locs cells slots Q (F0 m (pc + 1) ls' rest)) : W p l e R s m args below meth c H locs cells slots Q (F0 m pc ls (.long y :: rest)) :=
  lv_lstore_n hx hb hdg hi hl hn (hf y) (fun ls' hl' => kk y ls' hl' h)
theorem q_fstore {i nL : Nat} {y : UInt32} {lv : List (Nat × Value)} {lv' : UInt32 → List (Nat × Value)} {β : Type} {K : UInt32 → Option β} {r : β} (hx : p.tables.exec = Jvm.exec) (hb : c.code = cc) (hdg : decode cc pc = .ok (.fstore i, 2)) (hl : lv_has ls nL lv) (hn : i < nL) (hf : ∀ z : UInt32, (i, Value.float z) :: lv.filter (fun q => !(q.1 == i) && !(q.1 + 1 == i && q.2.category == 2)) = lv' z) (h : q_lt y K = some r) (kk : ∀ (z : UInt32) (ls' : Array Slot), lv_has ls' nL (lv' z) → K z = some r → W p l e R s m args below meth c H locs cells slots Q (F0 m (pc + 2) ls' rest)) : W p l e R s m args below meth c H locs cells slots Q (F0 m pc ls (.float y :: rest)) :=
  lv_fstore hx hb hdg hl hn (hf y) (fun ls' hl' => kk y ls' hl' h)
theorem q_fstore_n {k : Fin 4} {i nL : Nat} {y : UInt32} {lv : List (Nat × Value)} {lv' : UInt32 → List (Nat × Value)} {β : Type} {K : UInt32 → Option β} {r : β} (hx : p.tables.exec = Jvm.exec) (hb : c.code = cc) (hdg : decode cc pc = .ok (.fstore_n k, 1)) (hi : (k : Nat) = i) (hl : lv_has ls nL lv) (hn : i < nL) (hf : ∀ z : UInt32, (i, Value.float z) :: lv.filter (fun q => !(q.1 == i) && !(q.1 + 1 == i && q.2.category == 2)) = lv' z) (h : q_lt y K = some r) (kk : ∀ (z : UInt32) (ls' : Array Slot), lv_has ls' nL (lv' z) → K z = some r → W p l e R s m args below meth c H locs cells slots Q (F0 m (pc + 1) ls' rest)) : W p l e R s m args below meth c H locs cells slots Q (F0 m pc ls (.float y :: rest)) :=
  lv_fstore_n hx hb hdg hi hl hn (hf y) (fun ls' hl' => kk y ls' hl' h)
theorem q_dstore {i nL : Nat} {y : UInt64} {lv : List (Nat × Value)} {lv' : UInt64 → List (Nat × Value)} {β : Type} {K : UInt64 → Option β} {r : β} (hx : p.tables.exec = Jvm.exec) (hb : c.code = cc) (hdg : decode cc pc = .ok (.dstore i, 2)) (hl : lv_has ls nL lv) (hn : i + 1 < nL) (hf : ∀ z : UInt64, (i, Value.double z) :: lv.filter (fun q => !(q.1 == i) && (!(q.1 == i + 1) && !(q.1 + 1 == i && q.2.category == 2))) = lv' z) (h : q_lt y K = some r) (kk : ∀ (z : UInt64) (ls' : Array Slot), lv_has ls' nL (lv' z) → K z = some r → W p l e R s m args below meth c H locs cells slots Q (F0 m (pc + 2) ls' rest)) : W p l e R s m args below meth c H locs cells slots Q (F0 m pc ls (.double y :: rest)) :=
  lv_dstore hx hb hdg hl hn (hf y) (fun ls' hl' => kk y ls' hl' h)
theorem q_dstore_n {k : Fin 4} {i nL : Nat} {y : UInt64} {lv : List (Nat × Value)} {lv' : UInt64 → List (Nat × Value)} {β : Type} {K : UInt64 → Option β} {r : β} (hx : p.tables.exec = Jvm.exec) (hb : c.code = cc) (hdg : decode cc pc = .ok (.dstore_n k, 1)) (hi : (k : Nat) = i) (hl : lv_has ls nL lv) (hn : i + 1 < nL) (hf : ∀ z : UInt64, (i, Value.double z) :: lv.filter (fun q => !(q.1 == i) && (!(q.1 == i + 1) && !(q.1 + 1 == i && q.2.category == 2))) = lv' z) (h : q_lt y K = some r) (kk : ∀ (z : UInt64) (ls' : Array Slot), lv_has ls' nL (lv' z) → K z = some r → W p l e R s m args below meth c H locs cells slots Q (F0 m (pc + 1) ls' rest)) : W p l e R s m args below meth c H locs cells slots Q (F0 m pc ls (.double y :: rest)) :=
  lv_dstore_n hx hb hdg hi hl hn (hf y) (fun ls' hl' => kk y ls' hl' h)
theorem q_iinc {i nL k : Nat} {n : Int} {y cst : Int32} {lv : List (Nat × Value)} {lv' : Int32 → List (Nat × Value)} {β : Type} {K : Int32 → Option β} {r : β} (hx : p.tables.exec = Jvm.exec) (hb : c.code = cc) (hdg : decode cc pc = .ok (.iinc i n, 3)) (hl : lv_has ls nL lv) (hk : lv[k]? = some (i, .int y)) (hcst : Int32.ofInt n = cst) (hn : i < nL) (hf : ∀ z : Int32, (i, Value.int z) :: lv.filter (fun q => !(q.1 == i) && !(q.1 + 1 == i && q.2.category == 2)) = lv' z) (h : q_lt (y + cst) K = some r)
    (kk : ∀ (z : Int32) (ls' : Array Slot), lv_has ls' nL (lv' z) → K z = some r → W p l e R s m args below meth c H locs cells slots Q (F0 m (pc + 3) ls' rest)) : W p l e R s m args below meth c H locs cells slots Q (F0 m pc ls rest) :=
  lv_iinc hx hb hdg hl hk (by rw [hcst]) hn (hf (y + cst)) (fun ls' hl' => kk _ ls' hl' h)
def q_isZ (y : Int32) : Bool := decide (y = 0) || decide (y = 1)
def q_isC (y : Int32) : Bool := decide ((y.toUInt32 % 65536).toInt32 = y)
def q_isB (y : Int32) : Bool := decide (y.toInt8.toInt32 = y)
def q_isS (y : Int32) : Bool := decide (y.toInt16.toInt32 = y)
def q_n32 (y : UInt32) : Bool := decide ((y &&& 0x7fffffff : UInt32) ≤ 0x7f800000)
def q_n64 (y : UInt64) : Bool := decide ((y &&& 0x7fffffffffffffff : UInt64) ≤ 0x7ff0000000000000)
theorem q_isZ_in {y : Int32} (h : q_isZ y = true) : narrow .boolean (.int y) = .int y := by
  simp only [q_isZ, Bool.or_eq_true, decide_eq_true_eq] at h
  rcases h with rfl | rfl <;> rfl
theorem q_isC_in {y : Int32} (h : q_isC y = true) : narrow .char (.int y) = .int y ∧ fits .char (.int y) = true := by
  have h1 := of_decide_eq_true h
  rw [← h1]
  exact ⟨pk_nc y, pk_fc y⟩
theorem q_isB_in {y : Int32} (h : q_isB y = true) : narrow .byte (.int y) = .int y := by
  have h1 := of_decide_eq_true h
  rw [← h1]
  exact pk_nb y
theorem q_isS_in {y : Int32} (h : q_isS y = true) : narrow .short (.int y) = .int y := by
  have h1 := of_decide_eq_true h
  rw [← h1]
  exact pk_ns y
theorem q_n32_in {y : UInt32} (h : q_n32 y = true) : vf_n32 y := by
  unfold vf_n32
  exact of_decide_eq_true h
theorem q_n64_in {y : UInt64} (h : q_n64 y = true) : vf_n64 y := by
  unfold vf_n64
  exact of_decide_eq_true h
/-! throws -/
def q_B : List Cond := q_exs.map (fun E => .castable E E) ++ q_sups.map (fun E => .declares (Bundle.initS E))
theorem VK.words {args : Array Value} (h : VK s) : ∀ w ∈ q_B, w.before args s = true := by
  intro w hw
  rcases List.mem_append.mp hw with hw | hw
  · obtain ⟨E, hE, rfl⟩ := List.mem_map.mp hw
    exact va_Nw.use rfl (h.2.1 E hE)
  · obtain ⟨E, hE, rfl⟩ := List.mem_map.mp hw
    exact va_Nw.use rfl (h.2.2.1 E hE)
/-- what is the same of all throws of a class: its number, its name, the words that aren't good -/
def q_XP (n : Nat) (cls : String) (ws : List Cond) (k : List Cond) : Prop := q_xn n = cls ∧ Bundle.fit cls = true ∧ (∀ z ∈ (["java/lang/RuntimeException", "java/lang/Exception"] : List String), Bundle.fit z = true) ∧ (∀ w ∈ ws.filter (fun w => !goodWord w), w ∈ q_B) ∧ ∀ w ∈ k ++ ws, vx_ot w = true
theorem q_thr_end {β : Type} {g : β → Option Value} {n : Nat} {r : Mem × (β ⊕ Nat)} {t : State} (hw : Wd D cy ad x s M H locs) (h : some (M, (Sum.inr n : β ⊕ Nat)) = some r) (hsz : H.size ≤ t.heap.size) (hq : ∀ q : Nat, q < H.size → t.heap[q]? = H[q]?) : q_XT D cy ad x r.1 (q_ou g r.2) s.heap.size (q_xn n) s t := by
  cases h
  exact ⟨⟨n, rfl, rfl⟩, hw.1.kept (fun k q hk => hq q.1 ((hw.1 k q hk).lt)), Nat.le_trans hw.2.2.1 hsz, fun q h1 h2 => (hq q (Nat.lt_of_lt_of_le h1 hw.2.2.1)).trans (hw.2.2.2.1 q h1 h2)⟩
theorem q_thrS {β : Type} {g : β → Option Value} {n ik is ic mq mz : Nat} {cls text : String} {r : Mem × (β ⊕ Nat)} (C0 : MX p l s m args meth c D cy ad cc own nL Ts ret) (ht : ∀ z ∈ c.exceptionTable.toList, False) (hst : l.stackTraces = false) (hw : Wd D cy ad x s M H locs)
    (hp : q_XP n cls (vx_atS own ic cls ["java/lang/RuntimeException", "java/lang/Exception"]) [.classLink own ik cls, .initialized cls]) (hk : Cond.classLink own ik cls ∈ Ts) (hini : Cond.initialized cls ∈ Ts) (hs : (own, is, text) ∈ q_strs) (hat : ∀ w ∈ (vx_atS own ic cls ["java/lang/RuntimeException", "java/lang/Exception"]).filter goodWord, w ∈ Ts)
    (hls : ls.size = nL) (d0 : decode cc pc = .ok (.new ik, 3)) (d3 : decode cc (pc + 3) = .ok (.dup, 1)) (d4 : decode cc (pc + 4) = .ok (.ldc is, 2)) (d6 : decode cc (pc + 6) = .ok (.invokespecial ic, 3)) (d9 : decode cc (pc + 9) = .ok (.athrow, 1))
    (hR : 5 < R.frames ∧ (rest.map fun v => v.category).sum + 82 ≤ R.locals ∧ cells + 1 ≤ R.cells ∧ slots + 6 ≤ R.slots) (hm : cells + 1 ≤ mq ∧ slots + 6 ≤ mz) (h : some (M, (Sum.inr n : β ⊕ Nat)) = some r) :
    W p l e R s m args below meth c H locs cells slots (QT D cy ad below args s x g r mq mz) (F0 m pc ls rest) := by
  obtain ⟨hx, hb, hml, hown, hts, hr, hlk, hK, hZ, hV⟩ := C0
  obtain ⟨hn, hcls, hnm, hB, hg⟩ := hp
  obtain ⟨sa, hstr⟩ := hV.1 _ hs
  exact vx_throwS (A := AA ad s.heap.size) (names := ["java/lang/RuntimeException", "java/lang/Exception"]) hx hb hst hown hcls hnm (hts _ hk) (hts _ hini) hstr (vx_hat (fun w hw => hts _ (hat w hw)) hB hV.words) hg hZ.1 hZ.2 hw.2.2 (hls.trans hml.symm) d0 d3 d4 d6 d9 (fun z hz => (ht z hz).elim) hR.1 hR.2.1 hR.2.2.1 hR.2.2.2 hlk (fun t hvm hsz hq => by rw [← hn]; exact q_thr_end hw h hsz hq) hw.2.2.2.2 hm.1 hm.2
theorem q_thrSW {β : Type} {g : β → Option Value} {n ik is ic mq mz : Nat} {cls text : String} {r : Mem × (β ⊕ Nat)} (C0 : MX p l s m args meth c D cy ad cc own nL Ts ret) (ht : ∀ z ∈ c.exceptionTable.toList, False) (hst : l.stackTraces = false) (hw : Wd D cy ad x s M H locs)
    (hp : q_XP n cls (vx_atS own ic cls ["java/lang/RuntimeException", "java/lang/Exception"]) [.classLink own ik cls, .initialized cls]) (hk : Cond.classLink own ik cls ∈ Ts) (hini : Cond.initialized cls ∈ Ts) (hs : (own, is, text) ∈ q_strs) (hat : ∀ w ∈ (vx_atS own ic cls ["java/lang/RuntimeException", "java/lang/Exception"]).filter goodWord, w ∈ Ts)
    (hls : ls.size = nL) (d0 : decode cc pc = .ok (.new ik, 3)) (d3 : decode cc (pc + 3) = .ok (.dup, 1)) (d4 : decode cc (pc + 4) = .ok (.ldc_w is, 3)) (d6 : decode cc (pc + 7) = .ok (.invokespecial ic, 3)) (d9 : decode cc (pc + 10) = .ok (.athrow, 1))
    (hR : 5 < R.frames ∧ (rest.map fun v => v.category).sum + 82 ≤ R.locals ∧ cells + 1 ≤ R.cells ∧ slots + 6 ≤ R.slots) (hm : cells + 1 ≤ mq ∧ slots + 6 ≤ mz) (h : some (M, (Sum.inr n : β ⊕ Nat)) = some r) :
    W p l e R s m args below meth c H locs cells slots (QT D cy ad below args s x g r mq mz) (F0 m pc ls rest) := by
  obtain ⟨hx, hb, hml, hown, hts, hr, hlk, hK, hZ, hV⟩ := C0
  obtain ⟨hn, hcls, hnm, hB, hg⟩ := hp
  obtain ⟨sa, hstr⟩ := hV.1 _ hs
  exact vx_throwSW (A := AA ad s.heap.size) (names := ["java/lang/RuntimeException", "java/lang/Exception"]) hx hb hst hown hcls hnm (hts _ hk) (hts _ hini) hstr (vx_hat (fun w hw => hts _ (hat w hw)) hB hV.words) hg hZ.1 hZ.2 hw.2.2 (hls.trans hml.symm) d0 d3 d4 d6 d9 (fun z hz => (ht z hz).elim) hR.1 hR.2.1 hR.2.2.1 hR.2.2.2 hlk (fun t hvm hsz hq => by rw [← hn]; exact q_thr_end hw h hsz hq) hw.2.2.2.2 hm.1 hm.2
theorem at_m25 {cy : Nat → ClassId} {ad : Nat → Nat} {M : Mem} {x : XX} : At_ cy ad M x (cMA 25) (wI (cy 0) 4 (M 25 0)) := at_MA (v := 25) (by decide) (by decide)
theorem at_m26 {cy : Nat → ClassId} {ad : Nat → Nat} {M : Mem} {x : XX} : At_ cy ad M x (cMA 26) (wI (cy 0) 12 (M 26 0)) := at_MA (v := 26) (by decide) (by decide)
theorem at_m27 {cy : Nat → ClassId} {ad : Nat → Nat} {M : Mem} {x : XX} : At_ cy ad M x (cMA 27) (wI (cy 0) 10 (M 27 0)) := at_MA (v := 27) (by decide) (by decide)
theorem at_m28 {cy : Nat → ClassId} {ad : Nat → Nat} {M : Mem} {x : XX} : At_ cy ad M x (cMA 28) (wI (cy 0) 10 (M 28 0)) := at_MA (v := 28) (by decide) (by decide)
theorem at_m29 {cy : Nat → ClassId} {ad : Nat → Nat} {M : Mem} {x : XX} : At_ cy ad M x (cMA 29) (wI (cy 0) 10 (M 29 0)) := at_MA (v := 29) (by decide) (by decide)
theorem at_m30 {cy : Nat → ClassId} {ad : Nat → Nat} {M : Mem} {x : XX} : At_ cy ad M x (cMA 30) (wI (cy 0) 10 (M 30 0)) := at_MA (v := 30) (by decide) (by decide)
theorem at_m31 {cy : Nat → ClassId} {ad : Nat → Nat} {M : Mem} {x : XX} : At_ cy ad M x (cMA 31) (wI (cy 1) 10 (M 31 0)) := at_MA (v := 31) (by decide) (by decide)
theorem at_m32 {cy : Nat → ClassId} {ad : Nat → Nat} {M : Mem} {x : XX} : At_ cy ad M x (cMA 32) (wI (cy 0) 40 (M 32 0)) := at_MA (v := 32) (by decide) (by decide)
theorem at_m33 {cy : Nat → ClassId} {ad : Nat → Nat} {M : Mem} {x : XX} : At_ cy ad M x (cMA 33) (wI (cy 0) 60 (M 33 0)) := at_MA (v := 33) (by decide) (by decide)
theorem at_m34 {cy : Nat → ClassId} {ad : Nat → Nat} {M : Mem} {x : XX} : At_ cy ad M x (cMA 34) (wI (cy 0) 60 (M 34 0)) := at_MA (v := 34) (by decide) (by decide)
theorem at_m35 {cy : Nat → ClassId} {ad : Nat → Nat} {M : Mem} {x : XX} : At_ cy ad M x (cMA 35) (wI (cy 0) 60 (M 35 0)) := at_MA (v := 35) (by decide) (by decide)
theorem at_m36 {cy : Nat → ClassId} {ad : Nat → Nat} {M : Mem} {x : XX} : At_ cy ad M x (cMA 36) (wI (cy 0) 60 (M 36 0)) := at_MA (v := 36) (by decide) (by decide)
theorem at_m37 {cy : Nat → ClassId} {ad : Nat → Nat} {M : Mem} {x : XX} : At_ cy ad M x (cMA 37) (wI (cy 0) 60 (M 37 0)) := at_MA (v := 37) (by decide) (by decide)
theorem at_m38 {cy : Nat → ClassId} {ad : Nat → Nat} {M : Mem} {x : XX} : At_ cy ad M x (cMA 38) (wI (cy 0) 60 (M 38 0)) := at_MA (v := 38) (by decide) (by decide)
theorem at_m39 {cy : Nat → ClassId} {ad : Nat → Nat} {M : Mem} {x : XX} : At_ cy ad M x (cMA 39) (wI (cy 0) 60 (M 39 0)) := at_MA (v := 39) (by decide) (by decide)
theorem at_m40 {cy : Nat → ClassId} {ad : Nat → Nat} {M : Mem} {x : XX} : At_ cy ad M x (cMA 40) (wI (cy 0) 60 (M 40 0)) := at_MA (v := 40) (by decide) (by decide)
theorem at_m41 {cy : Nat → ClassId} {ad : Nat → Nat} {M : Mem} {x : XX} : At_ cy ad M x (cMA 41) (wI (cy 0) 60 (M 41 0)) := at_MA (v := 41) (by decide) (by decide)
theorem at_m42 {cy : Nat → ClassId} {ad : Nat → Nat} {M : Mem} {x : XX} : At_ cy ad M x (cMA 42) (wI (cy 0) 2400 (M 42 0)) := at_MA (v := 42) (by decide) (by decide)
theorem at_m43 {cy : Nat → ClassId} {ad : Nat → Nat} {M : Mem} {x : XX} : At_ cy ad M x (cMA 43) (wI (cy 0) 2400 (M 43 0)) := at_MA (v := 43) (by decide) (by decide)
theorem at_m44 {cy : Nat → ClassId} {ad : Nat → Nat} {M : Mem} {x : XX} : At_ cy ad M x (cMA 44) (wI (cy 0) 60 (M 44 0)) := at_MA (v := 44) (by decide) (by decide)
theorem at_m45 {cy : Nat → ClassId} {ad : Nat → Nat} {M : Mem} {x : XX} : At_ cy ad M x (cMA 45) (wI (cy 0) 40 (M 45 0)) := at_MA (v := 45) (by decide) (by decide)
theorem at_m46 {cy : Nat → ClassId} {ad : Nat → Nat} {M : Mem} {x : XX} : At_ cy ad M x (cMA 46) (wI (cy 0) 40 (M 46 0)) := at_MA (v := 46) (by decide) (by decide)
theorem at_m47 {cy : Nat → ClassId} {ad : Nat → Nat} {M : Mem} {x : XX} : At_ cy ad M x (cMA 47) (wI (cy 0) 40 (M 47 0)) := at_MA (v := 47) (by decide) (by decide)
theorem at_m48 {cy : Nat → ClassId} {ad : Nat → Nat} {M : Mem} {x : XX} : At_ cy ad M x (cMA 48) (wI (cy 0) 40 (M 48 0)) := at_MA (v := 48) (by decide) (by decide)
theorem at_m49 {cy : Nat → ClassId} {ad : Nat → Nat} {M : Mem} {x : XX} : At_ cy ad M x (cMA 49) (wI (cy 2) 120 (M 49 0)) := at_MA (v := 49) (by decide) (by decide)
theorem gf_Bag_keys {index : Nat} {j : Nat} (C0 : MX p l s m args meth c D cy ad cc own nL Ts ret) (hw : Wd D cy ad x s M H locs) (hj : j < 63) (hin : ∀ w ∈ wsX00, w ∈ Ts) (hl : Cond.fieldLink own index "Homewatcher$Bag" "keys" "[I" ∈ Ts) (hdg : decode cc pc = .ok (.getfield index, 3)) (kk : W p l e R s m args below meth c H locs cells slots Q (F0 m (pc + 3) ls (.ref (ad (cKeys j)) :: rest))) : W p l e R s m args below meth c H locs cells slots Q (F0 m pc ls (.ref (ad (cBag j)) :: rest)) :=
  q_get (C := RX0) (T := TX0) (N := 3) (kf := 0) (ci := 2) (fs := [.ref (ad (cKeys j)), .ref (ad (cCounts j)), .int (M 9 j 0)]) C0 hw (at_Bag hj) hin rfl (by decide) hl rfl rfl hdg kk
theorem gf_Bag_counts {index : Nat} {j : Nat} (C0 : MX p l s m args meth c D cy ad cc own nL Ts ret) (hw : Wd D cy ad x s M H locs) (hj : j < 63) (hin : ∀ w ∈ wsX00, w ∈ Ts) (hl : Cond.fieldLink own index "Homewatcher$Bag" "counts" "[I" ∈ Ts) (hdg : decode cc pc = .ok (.getfield index, 3)) (kk : W p l e R s m args below meth c H locs cells slots Q (F0 m (pc + 3) ls (.ref (ad (cCounts j)) :: rest))) : W p l e R s m args below meth c H locs cells slots Q (F0 m pc ls (.ref (ad (cBag j)) :: rest)) :=
  q_get (C := RX0) (T := TX0) (N := 3) (kf := 1) (ci := 2) (fs := [.ref (ad (cKeys j)), .ref (ad (cCounts j)), .int (M 9 j 0)]) C0 hw (at_Bag hj) hin rfl (by decide) hl rfl rfl hdg kk
theorem gf_Bag_size {index : Nat} {j : Nat} (C0 : MX p l s m args meth c D cy ad cc own nL Ts ret) (hw : Wd D cy ad x s M H locs) (hj : j < 63) (hin : ∀ w ∈ wsX00, w ∈ Ts) (hl : Cond.fieldLink own index "Homewatcher$Bag" "size" "I" ∈ Ts) (hdg : decode cc pc = .ok (.getfield index, 3)) (kk : W p l e R s m args below meth c H locs cells slots Q (F0 m (pc + 3) ls (.int (M 9 j 0) :: rest))) : W p l e R s m args below meth c H locs cells slots Q (F0 m pc ls (.ref (ad (cBag j)) :: rest)) :=
  q_get (C := RX0) (T := TX0) (N := 3) (kf := 2) (ci := 2) (fs := [.ref (ad (cKeys j)), .ref (ad (cCounts j)), .int (M 9 j 0)]) C0 hw (at_Bag hj) hin rfl (by decide) hl rfl rfl hdg kk
theorem pf_Bag_size {β : Type} {K : Mem → Option β} {r : β} {y : Int32} {index : Nat} {j : Nat} (C0 : MX p l s m args meth c D cy ad cc own nL Ts ret) (hw : Wd D cy ad x s M H locs) (hj : j < 63) (hin : ∀ w ∈ wsX00, w ∈ Ts) (hl : Cond.fieldLink own index "Homewatcher$Bag" "size" "I" ∈ Ts) (hdg : decode cc pc = .ok (.putfield index, 3)) (h : q_lt (up M 9 j 0 y) K = some r) (kk : ∀ (M1 : Mem) (H1 : Heap) (locs1 : List Loc), Wd D cy ad x s M1 H1 locs1 → K M1 = some r → W p l e R s m args below meth c H1 locs1 cells slots Q (F0 m (pc + 3) ls rest)) : W p l e R s m args below meth c H locs cells slots Q (F0 m pc ls (.int y :: .ref (ad (cBag j)) :: rest)) := by
  have he : At_ cy ad (up M 9 j 0 y) x (cBag j) (wBag ad (up M 9 j 0 y) j) := (at_Bag hj)
  refine q_put (v := 9) (j := j) (C := RX0) (T := TX0) (ty0 := tyX0) (N := 3) (kf := 2) (ci := 2) (fs := [.ref (ad (cKeys j)), .ref (ad (cCounts j)), .int (M 9 j 0)]) (ty := .int) C0 hw (show At_ cy ad M x (cBag j) (wBag ad M j) from (at_Bag hj)) (he.2.trans ?_) hin rfl tyX0_ok nmX0 (by decide) hl rfl rfl (by decide +kernel) ⟨rfl, rfl⟩ (Nat.le_of_ble_eq_true rfl) hdg h kk
  simp [wBag, up]
theorem gf_Hit_newer {index : Nat} {j : Nat} (C0 : MX p l s m args meth c D cy ad cc own nL Ts ret) (hw : Wd D cy ad x s M H locs) (hj : j < 40) (hin : ∀ w ∈ wsX10, w ∈ Ts) (hl : Cond.fieldLink own index "Homewatcher$Hit" "newer" "I" ∈ Ts) (hdg : decode cc pc = .ok (.getfield index, 3)) (kk : W p l e R s m args below meth c H locs cells slots Q (F0 m (pc + 3) ls (.int (M 55 j 0) :: rest))) : W p l e R s m args below meth c H locs cells slots Q (F0 m pc ls (.ref (ad (cHit j)) :: rest)) :=
  q_get (C := RX1) (T := TX1) (N := 4) (kf := 0) (ci := 3) (fs := [.int (M 55 j 0), .int (M 56 j 0), .int (M 57 j 0), .int (M 58 j 0)]) C0 hw (at_Hit hj) hin rfl (by decide) hl rfl rfl hdg kk
theorem pf_Hit_newer {β : Type} {K : Mem → Option β} {r : β} {y : Int32} {index : Nat} {j : Nat} (C0 : MX p l s m args meth c D cy ad cc own nL Ts ret) (hw : Wd D cy ad x s M H locs) (hj : j < 40) (hin : ∀ w ∈ wsX10, w ∈ Ts) (hl : Cond.fieldLink own index "Homewatcher$Hit" "newer" "I" ∈ Ts) (hdg : decode cc pc = .ok (.putfield index, 3)) (h : q_lt (up M 55 j 0 y) K = some r) (kk : ∀ (M1 : Mem) (H1 : Heap) (locs1 : List Loc), Wd D cy ad x s M1 H1 locs1 → K M1 = some r → W p l e R s m args below meth c H1 locs1 cells slots Q (F0 m (pc + 3) ls rest)) : W p l e R s m args below meth c H locs cells slots Q (F0 m pc ls (.int y :: .ref (ad (cHit j)) :: rest)) := by
  have he : At_ cy ad (up M 55 j 0 y) x (cHit j) (wHit (up M 55 j 0 y) j) := (at_Hit hj)
  refine q_put (v := 55) (j := j) (C := RX1) (T := TX1) (ty0 := tyX1) (N := 4) (kf := 0) (ci := 3) (fs := [.int (M 55 j 0), .int (M 56 j 0), .int (M 57 j 0), .int (M 58 j 0)]) (ty := .int) C0 hw (show At_ cy ad M x (cHit j) (wHit M j) from (at_Hit hj)) (he.2.trans ?_) hin rfl tyX1_ok nmX1 (by decide) hl rfl rfl (by decide +kernel) ⟨rfl, rfl⟩ (Nat.le_of_ble_eq_true rfl) hdg h kk
  simp [wHit, up]
theorem gf_Hit_other {index : Nat} {j : Nat} (C0 : MX p l s m args meth c D cy ad cc own nL Ts ret) (hw : Wd D cy ad x s M H locs) (hj : j < 40) (hin : ∀ w ∈ wsX10, w ∈ Ts) (hl : Cond.fieldLink own index "Homewatcher$Hit" "other" "I" ∈ Ts) (hdg : decode cc pc = .ok (.getfield index, 3)) (kk : W p l e R s m args below meth c H locs cells slots Q (F0 m (pc + 3) ls (.int (M 56 j 0) :: rest))) : W p l e R s m args below meth c H locs cells slots Q (F0 m pc ls (.ref (ad (cHit j)) :: rest)) :=
  q_get (C := RX1) (T := TX1) (N := 4) (kf := 1) (ci := 3) (fs := [.int (M 55 j 0), .int (M 56 j 0), .int (M 57 j 0), .int (M 58 j 0)]) C0 hw (at_Hit hj) hin rfl (by decide) hl rfl rfl hdg kk
theorem pf_Hit_other {β : Type} {K : Mem → Option β} {r : β} {y : Int32} {index : Nat} {j : Nat} (C0 : MX p l s m args meth c D cy ad cc own nL Ts ret) (hw : Wd D cy ad x s M H locs) (hj : j < 40) (hin : ∀ w ∈ wsX10, w ∈ Ts) (hl : Cond.fieldLink own index "Homewatcher$Hit" "other" "I" ∈ Ts) (hdg : decode cc pc = .ok (.putfield index, 3)) (h : q_lt (up M 56 j 0 y) K = some r) (kk : ∀ (M1 : Mem) (H1 : Heap) (locs1 : List Loc), Wd D cy ad x s M1 H1 locs1 → K M1 = some r → W p l e R s m args below meth c H1 locs1 cells slots Q (F0 m (pc + 3) ls rest)) : W p l e R s m args below meth c H locs cells slots Q (F0 m pc ls (.int y :: .ref (ad (cHit j)) :: rest)) := by
  have he : At_ cy ad (up M 56 j 0 y) x (cHit j) (wHit (up M 56 j 0 y) j) := (at_Hit hj)
  refine q_put (v := 56) (j := j) (C := RX1) (T := TX1) (ty0 := tyX1) (N := 4) (kf := 1) (ci := 3) (fs := [.int (M 55 j 0), .int (M 56 j 0), .int (M 57 j 0), .int (M 58 j 0)]) (ty := .int) C0 hw (show At_ cy ad M x (cHit j) (wHit M j) from (at_Hit hj)) (he.2.trans ?_) hin rfl tyX1_ok nmX1 (by decide) hl rfl rfl (by decide +kernel) ⟨rfl, rfl⟩ (Nat.le_of_ble_eq_true rfl) hdg h kk
  simp [wHit, up]
theorem gf_Hit_common {index : Nat} {j : Nat} (C0 : MX p l s m args meth c D cy ad cc own nL Ts ret) (hw : Wd D cy ad x s M H locs) (hj : j < 40) (hin : ∀ w ∈ wsX10, w ∈ Ts) (hl : Cond.fieldLink own index "Homewatcher$Hit" "common" "I" ∈ Ts) (hdg : decode cc pc = .ok (.getfield index, 3)) (kk : W p l e R s m args below meth c H locs cells slots Q (F0 m (pc + 3) ls (.int (M 57 j 0) :: rest))) : W p l e R s m args below meth c H locs cells slots Q (F0 m pc ls (.ref (ad (cHit j)) :: rest)) :=
  q_get (C := RX1) (T := TX1) (N := 4) (kf := 2) (ci := 3) (fs := [.int (M 55 j 0), .int (M 56 j 0), .int (M 57 j 0), .int (M 58 j 0)]) C0 hw (at_Hit hj) hin rfl (by decide) hl rfl rfl hdg kk
theorem pf_Hit_common {β : Type} {K : Mem → Option β} {r : β} {y : Int32} {index : Nat} {j : Nat} (C0 : MX p l s m args meth c D cy ad cc own nL Ts ret) (hw : Wd D cy ad x s M H locs) (hj : j < 40) (hin : ∀ w ∈ wsX10, w ∈ Ts) (hl : Cond.fieldLink own index "Homewatcher$Hit" "common" "I" ∈ Ts) (hdg : decode cc pc = .ok (.putfield index, 3)) (h : q_lt (up M 57 j 0 y) K = some r) (kk : ∀ (M1 : Mem) (H1 : Heap) (locs1 : List Loc), Wd D cy ad x s M1 H1 locs1 → K M1 = some r → W p l e R s m args below meth c H1 locs1 cells slots Q (F0 m (pc + 3) ls rest)) : W p l e R s m args below meth c H locs cells slots Q (F0 m pc ls (.int y :: .ref (ad (cHit j)) :: rest)) := by
  have he : At_ cy ad (up M 57 j 0 y) x (cHit j) (wHit (up M 57 j 0 y) j) := (at_Hit hj)
  refine q_put (v := 57) (j := j) (C := RX1) (T := TX1) (ty0 := tyX1) (N := 4) (kf := 2) (ci := 3) (fs := [.int (M 55 j 0), .int (M 56 j 0), .int (M 57 j 0), .int (M 58 j 0)]) (ty := .int) C0 hw (show At_ cy ad M x (cHit j) (wHit M j) from (at_Hit hj)) (he.2.trans ?_) hin rfl tyX1_ok nmX1 (by decide) hl rfl rfl (by decide +kernel) ⟨rfl, rfl⟩ (Nat.le_of_ble_eq_true rfl) hdg h kk
  simp [wHit, up]
theorem gf_Hit_losers {index : Nat} {j : Nat} (C0 : MX p l s m args meth c D cy ad cc own nL Ts ret) (hw : Wd D cy ad x s M H locs) (hj : j < 40) (hin : ∀ w ∈ wsX10, w ∈ Ts) (hl : Cond.fieldLink own index "Homewatcher$Hit" "losers" "I" ∈ Ts) (hdg : decode cc pc = .ok (.getfield index, 3)) (kk : W p l e R s m args below meth c H locs cells slots Q (F0 m (pc + 3) ls (.int (M 58 j 0) :: rest))) : W p l e R s m args below meth c H locs cells slots Q (F0 m pc ls (.ref (ad (cHit j)) :: rest)) :=
  q_get (C := RX1) (T := TX1) (N := 4) (kf := 3) (ci := 3) (fs := [.int (M 55 j 0), .int (M 56 j 0), .int (M 57 j 0), .int (M 58 j 0)]) C0 hw (at_Hit hj) hin rfl (by decide) hl rfl rfl hdg kk
theorem pf_Hit_losers {β : Type} {K : Mem → Option β} {r : β} {y : Int32} {index : Nat} {j : Nat} (C0 : MX p l s m args meth c D cy ad cc own nL Ts ret) (hw : Wd D cy ad x s M H locs) (hj : j < 40) (hin : ∀ w ∈ wsX10, w ∈ Ts) (hl : Cond.fieldLink own index "Homewatcher$Hit" "losers" "I" ∈ Ts) (hdg : decode cc pc = .ok (.putfield index, 3)) (h : q_lt (up M 58 j 0 y) K = some r) (kk : ∀ (M1 : Mem) (H1 : Heap) (locs1 : List Loc), Wd D cy ad x s M1 H1 locs1 → K M1 = some r → W p l e R s m args below meth c H1 locs1 cells slots Q (F0 m (pc + 3) ls rest)) : W p l e R s m args below meth c H locs cells slots Q (F0 m pc ls (.int y :: .ref (ad (cHit j)) :: rest)) := by
  have he : At_ cy ad (up M 58 j 0 y) x (cHit j) (wHit (up M 58 j 0 y) j) := (at_Hit hj)
  refine q_put (v := 58) (j := j) (C := RX1) (T := TX1) (ty0 := tyX1) (N := 4) (kf := 3) (ci := 3) (fs := [.int (M 55 j 0), .int (M 56 j 0), .int (M 57 j 0), .int (M 58 j 0)]) (ty := .int) C0 hw (show At_ cy ad M x (cHit j) (wHit M j) from (at_Hit hj)) (he.2.trans ?_) hin rfl tyX1_ok nmX1 (by decide) hl rfl rfl (by decide +kernel) ⟨rfl, rfl⟩ (Nat.le_of_ble_eq_true rfl) hdg h kk
  simp [wHit, up]
theorem gf_Task_room {index : Nat} {j : Nat} (C0 : MX p l s m args meth c D cy ad cc own nL Ts ret) (hw : Wd D cy ad x s M H locs) (hj : j < 10) (hin : ∀ w ∈ wsX20, w ∈ Ts) (hl : Cond.fieldLink own index "Homewatcher$Task" "room" "I" ∈ Ts) (hdg : decode cc pc = .ok (.getfield index, 3)) (kk : W p l e R s m args below meth c H locs cells slots Q (F0 m (pc + 3) ls (.int (M 50 j 0) :: rest))) : W p l e R s m args below meth c H locs cells slots Q (F0 m pc ls (.ref (ad (cTask j)) :: rest)) :=
  q_get (C := RX2) (T := TX2) (N := 5) (kf := 0) (ci := 4) (fs := [.int (M 50 j 0), .int (M 51 j 0), .int (M 52 j 0), .int (M 53 j 0), .int (M 54 j 0)]) C0 hw (at_Task hj) hin rfl (by decide) hl rfl rfl hdg kk
theorem pf_Task_room {β : Type} {K : Mem → Option β} {r : β} {y : Int32} {index : Nat} {j : Nat} (C0 : MX p l s m args meth c D cy ad cc own nL Ts ret) (hw : Wd D cy ad x s M H locs) (hj : j < 10) (hin : ∀ w ∈ wsX20, w ∈ Ts) (hl : Cond.fieldLink own index "Homewatcher$Task" "room" "I" ∈ Ts) (hdg : decode cc pc = .ok (.putfield index, 3)) (h : q_lt (up M 50 j 0 y) K = some r) (kk : ∀ (M1 : Mem) (H1 : Heap) (locs1 : List Loc), Wd D cy ad x s M1 H1 locs1 → K M1 = some r → W p l e R s m args below meth c H1 locs1 cells slots Q (F0 m (pc + 3) ls rest)) : W p l e R s m args below meth c H locs cells slots Q (F0 m pc ls (.int y :: .ref (ad (cTask j)) :: rest)) := by
  have he : At_ cy ad (up M 50 j 0 y) x (cTask j) (wTask (up M 50 j 0 y) j) := (at_Task hj)
  refine q_put (v := 50) (j := j) (C := RX2) (T := TX2) (ty0 := tyX2) (N := 5) (kf := 0) (ci := 4) (fs := [.int (M 50 j 0), .int (M 51 j 0), .int (M 52 j 0), .int (M 53 j 0), .int (M 54 j 0)]) (ty := .int) C0 hw (show At_ cy ad M x (cTask j) (wTask M j) from (at_Task hj)) (he.2.trans ?_) hin rfl tyX2_ok nmX2 (by decide) hl rfl rfl (by decide +kernel) ⟨rfl, rfl⟩ (Nat.le_of_ble_eq_true rfl) hdg h kk
  simp [wTask, up]
theorem gf_Task_due {index : Nat} {j : Nat} (C0 : MX p l s m args meth c D cy ad cc own nL Ts ret) (hw : Wd D cy ad x s M H locs) (hj : j < 10) (hin : ∀ w ∈ wsX20, w ∈ Ts) (hl : Cond.fieldLink own index "Homewatcher$Task" "due" "I" ∈ Ts) (hdg : decode cc pc = .ok (.getfield index, 3)) (kk : W p l e R s m args below meth c H locs cells slots Q (F0 m (pc + 3) ls (.int (M 51 j 0) :: rest))) : W p l e R s m args below meth c H locs cells slots Q (F0 m pc ls (.ref (ad (cTask j)) :: rest)) :=
  q_get (C := RX2) (T := TX2) (N := 5) (kf := 1) (ci := 4) (fs := [.int (M 50 j 0), .int (M 51 j 0), .int (M 52 j 0), .int (M 53 j 0), .int (M 54 j 0)]) C0 hw (at_Task hj) hin rfl (by decide) hl rfl rfl hdg kk
theorem pf_Task_due {β : Type} {K : Mem → Option β} {r : β} {y : Int32} {index : Nat} {j : Nat} (C0 : MX p l s m args meth c D cy ad cc own nL Ts ret) (hw : Wd D cy ad x s M H locs) (hj : j < 10) (hin : ∀ w ∈ wsX20, w ∈ Ts) (hl : Cond.fieldLink own index "Homewatcher$Task" "due" "I" ∈ Ts) (hdg : decode cc pc = .ok (.putfield index, 3)) (h : q_lt (up M 51 j 0 y) K = some r) (kk : ∀ (M1 : Mem) (H1 : Heap) (locs1 : List Loc), Wd D cy ad x s M1 H1 locs1 → K M1 = some r → W p l e R s m args below meth c H1 locs1 cells slots Q (F0 m (pc + 3) ls rest)) : W p l e R s m args below meth c H locs cells slots Q (F0 m pc ls (.int y :: .ref (ad (cTask j)) :: rest)) := by
  have he : At_ cy ad (up M 51 j 0 y) x (cTask j) (wTask (up M 51 j 0 y) j) := (at_Task hj)
  refine q_put (v := 51) (j := j) (C := RX2) (T := TX2) (ty0 := tyX2) (N := 5) (kf := 1) (ci := 4) (fs := [.int (M 50 j 0), .int (M 51 j 0), .int (M 52 j 0), .int (M 53 j 0), .int (M 54 j 0)]) (ty := .int) C0 hw (show At_ cy ad M x (cTask j) (wTask M j) from (at_Task hj)) (he.2.trans ?_) hin rfl tyX2_ok nmX2 (by decide) hl rfl rfl (by decide +kernel) ⟨rfl, rfl⟩ (Nat.le_of_ble_eq_true rfl) hdg h kk
  simp [wTask, up]
theorem gf_Task_full {index : Nat} {j : Nat} (C0 : MX p l s m args meth c D cy ad cc own nL Ts ret) (hw : Wd D cy ad x s M H locs) (hj : j < 10) (hin : ∀ w ∈ wsX20, w ∈ Ts) (hl : Cond.fieldLink own index "Homewatcher$Task" "full" "I" ∈ Ts) (hdg : decode cc pc = .ok (.getfield index, 3)) (kk : W p l e R s m args below meth c H locs cells slots Q (F0 m (pc + 3) ls (.int (M 52 j 0) :: rest))) : W p l e R s m args below meth c H locs cells slots Q (F0 m pc ls (.ref (ad (cTask j)) :: rest)) :=
  q_get (C := RX2) (T := TX2) (N := 5) (kf := 2) (ci := 4) (fs := [.int (M 50 j 0), .int (M 51 j 0), .int (M 52 j 0), .int (M 53 j 0), .int (M 54 j 0)]) C0 hw (at_Task hj) hin rfl (by decide) hl rfl rfl hdg kk
theorem pf_Task_full {β : Type} {K : Mem → Option β} {r : β} {y : Int32} {index : Nat} {j : Nat} (C0 : MX p l s m args meth c D cy ad cc own nL Ts ret) (hw : Wd D cy ad x s M H locs) (hj : j < 10) (hin : ∀ w ∈ wsX20, w ∈ Ts) (hl : Cond.fieldLink own index "Homewatcher$Task" "full" "I" ∈ Ts) (hdg : decode cc pc = .ok (.putfield index, 3)) (h : q_lt (up M 52 j 0 y) K = some r) (kk : ∀ (M1 : Mem) (H1 : Heap) (locs1 : List Loc), Wd D cy ad x s M1 H1 locs1 → K M1 = some r → W p l e R s m args below meth c H1 locs1 cells slots Q (F0 m (pc + 3) ls rest)) : W p l e R s m args below meth c H locs cells slots Q (F0 m pc ls (.int y :: .ref (ad (cTask j)) :: rest)) := by
  have he : At_ cy ad (up M 52 j 0 y) x (cTask j) (wTask (up M 52 j 0 y) j) := (at_Task hj)
  refine q_put (v := 52) (j := j) (C := RX2) (T := TX2) (ty0 := tyX2) (N := 5) (kf := 2) (ci := 4) (fs := [.int (M 50 j 0), .int (M 51 j 0), .int (M 52 j 0), .int (M 53 j 0), .int (M 54 j 0)]) (ty := .int) C0 hw (show At_ cy ad M x (cTask j) (wTask M j) from (at_Task hj)) (he.2.trans ?_) hin rfl tyX2_ok nmX2 (by decide) hl rfl rfl (by decide +kernel) ⟨rfl, rfl⟩ (Nat.le_of_ble_eq_true rfl) hdg h kk
  simp [wTask, up]
theorem gf_Task_rule {index : Nat} {j : Nat} (C0 : MX p l s m args meth c D cy ad cc own nL Ts ret) (hw : Wd D cy ad x s M H locs) (hj : j < 10) (hin : ∀ w ∈ wsX20, w ∈ Ts) (hl : Cond.fieldLink own index "Homewatcher$Task" "rule" "C" ∈ Ts) (hdg : decode cc pc = .ok (.getfield index, 3)) (kk : W p l e R s m args below meth c H locs cells slots Q (F0 m (pc + 3) ls (.int (M 53 j 0) :: rest))) : W p l e R s m args below meth c H locs cells slots Q (F0 m pc ls (.ref (ad (cTask j)) :: rest)) :=
  q_get (C := RX2) (T := TX2) (N := 5) (kf := 3) (ci := 4) (fs := [.int (M 50 j 0), .int (M 51 j 0), .int (M 52 j 0), .int (M 53 j 0), .int (M 54 j 0)]) C0 hw (at_Task hj) hin rfl (by decide) hl rfl rfl hdg kk
theorem pf_Task_rule {β : Type} {K : Mem → Option β} {r : β} {y : Int32} {index : Nat} {j : Nat} (C0 : MX p l s m args meth c D cy ad cc own nL Ts ret) (hw : Wd D cy ad x s M H locs) (hj : j < 10) (hn : narrow .char (.int y) = .int y ∧ fits .char (.int y) = true) (hin : ∀ w ∈ wsX20, w ∈ Ts) (hl : Cond.fieldLink own index "Homewatcher$Task" "rule" "C" ∈ Ts) (hdg : decode cc pc = .ok (.putfield index, 3)) (h : q_lt (up M 53 j 0 y) K = some r) (kk : ∀ (M1 : Mem) (H1 : Heap) (locs1 : List Loc), Wd D cy ad x s M1 H1 locs1 → K M1 = some r → W p l e R s m args below meth c H1 locs1 cells slots Q (F0 m (pc + 3) ls rest)) : W p l e R s m args below meth c H locs cells slots Q (F0 m pc ls (.int y :: .ref (ad (cTask j)) :: rest)) := by
  have he : At_ cy ad (up M 53 j 0 y) x (cTask j) (wTask (up M 53 j 0 y) j) := (at_Task hj)
  refine q_put (v := 53) (j := j) (C := RX2) (T := TX2) (ty0 := tyX2) (N := 5) (kf := 3) (ci := 4) (fs := [.int (M 50 j 0), .int (M 51 j 0), .int (M 52 j 0), .int (M 53 j 0), .int (M 54 j 0)]) (ty := .char) C0 hw (show At_ cy ad M x (cTask j) (wTask M j) from (at_Task hj)) (he.2.trans ?_) hin rfl tyX2_ok nmX2 (by decide) hl rfl rfl (by decide +kernel) hn (Nat.le_of_ble_eq_true rfl) hdg h kk
  simp [wTask, up]
theorem gf_Task_amount {index : Nat} {j : Nat} (C0 : MX p l s m args meth c D cy ad cc own nL Ts ret) (hw : Wd D cy ad x s M H locs) (hj : j < 10) (hin : ∀ w ∈ wsX20, w ∈ Ts) (hl : Cond.fieldLink own index "Homewatcher$Task" "amount" "I" ∈ Ts) (hdg : decode cc pc = .ok (.getfield index, 3)) (kk : W p l e R s m args below meth c H locs cells slots Q (F0 m (pc + 3) ls (.int (M 54 j 0) :: rest))) : W p l e R s m args below meth c H locs cells slots Q (F0 m pc ls (.ref (ad (cTask j)) :: rest)) :=
  q_get (C := RX2) (T := TX2) (N := 5) (kf := 4) (ci := 4) (fs := [.int (M 50 j 0), .int (M 51 j 0), .int (M 52 j 0), .int (M 53 j 0), .int (M 54 j 0)]) C0 hw (at_Task hj) hin rfl (by decide) hl rfl rfl hdg kk
theorem pf_Task_amount {β : Type} {K : Mem → Option β} {r : β} {y : Int32} {index : Nat} {j : Nat} (C0 : MX p l s m args meth c D cy ad cc own nL Ts ret) (hw : Wd D cy ad x s M H locs) (hj : j < 10) (hin : ∀ w ∈ wsX20, w ∈ Ts) (hl : Cond.fieldLink own index "Homewatcher$Task" "amount" "I" ∈ Ts) (hdg : decode cc pc = .ok (.putfield index, 3)) (h : q_lt (up M 54 j 0 y) K = some r) (kk : ∀ (M1 : Mem) (H1 : Heap) (locs1 : List Loc), Wd D cy ad x s M1 H1 locs1 → K M1 = some r → W p l e R s m args below meth c H1 locs1 cells slots Q (F0 m (pc + 3) ls rest)) : W p l e R s m args below meth c H locs cells slots Q (F0 m pc ls (.int y :: .ref (ad (cTask j)) :: rest)) := by
  have he : At_ cy ad (up M 54 j 0 y) x (cTask j) (wTask (up M 54 j 0 y) j) := (at_Task hj)
  refine q_put (v := 54) (j := j) (C := RX2) (T := TX2) (ty0 := tyX2) (N := 5) (kf := 4) (ci := 4) (fs := [.int (M 50 j 0), .int (M 51 j 0), .int (M 52 j 0), .int (M 53 j 0), .int (M 54 j 0)]) (ty := .int) C0 hw (show At_ cy ad M x (cTask j) (wTask M j) from (at_Task hj)) (he.2.trans ?_) hin rfl tyX2_ok nmX2 (by decide) hl rfl rfl (by decide +kernel) ⟨rfl, rfl⟩ (Nat.le_of_ble_eq_true rfl) hdg h kk
  simp [wTask, up]
theorem gf_Text_codes {index : Nat} {j : Nat} (C0 : MX p l s m args meth c D cy ad cc own nL Ts ret) (hw : Wd D cy ad x s M H locs) (hj : j < 61) (hin : ∀ w ∈ wsX30, w ∈ Ts) (hl : Cond.fieldLink own index "Homewatcher$Text" "codes" "[I" ∈ Ts) (hdg : decode cc pc = .ok (.getfield index, 3)) (kk : W p l e R s m args below meth c H locs cells slots Q (F0 m (pc + 3) ls (.ref (ad (cCodes j)) :: rest))) : W p l e R s m args below meth c H locs cells slots Q (F0 m pc ls (.ref (ad (cText j)) :: rest)) :=
  q_get (C := RX3) (T := TX3) (N := 2) (kf := 0) (ci := 5) (fs := [.ref (ad (cCodes j)), .int (M 8 j 0)]) C0 hw (at_Text hj) hin rfl (by decide) hl rfl rfl hdg kk
theorem gf_Text_signs {index : Nat} {j : Nat} (C0 : MX p l s m args meth c D cy ad cc own nL Ts ret) (hw : Wd D cy ad x s M H locs) (hj : j < 61) (hin : ∀ w ∈ wsX30, w ∈ Ts) (hl : Cond.fieldLink own index "Homewatcher$Text" "signs" "I" ∈ Ts) (hdg : decode cc pc = .ok (.getfield index, 3)) (kk : W p l e R s m args below meth c H locs cells slots Q (F0 m (pc + 3) ls (.int (M 8 j 0) :: rest))) : W p l e R s m args below meth c H locs cells slots Q (F0 m pc ls (.ref (ad (cText j)) :: rest)) :=
  q_get (C := RX3) (T := TX3) (N := 2) (kf := 1) (ci := 5) (fs := [.ref (ad (cCodes j)), .int (M 8 j 0)]) C0 hw (at_Text hj) hin rfl (by decide) hl rfl rfl hdg kk
theorem pf_Text_signs {β : Type} {K : Mem → Option β} {r : β} {y : Int32} {index : Nat} {j : Nat} (C0 : MX p l s m args meth c D cy ad cc own nL Ts ret) (hw : Wd D cy ad x s M H locs) (hj : j < 61) (hin : ∀ w ∈ wsX30, w ∈ Ts) (hl : Cond.fieldLink own index "Homewatcher$Text" "signs" "I" ∈ Ts) (hdg : decode cc pc = .ok (.putfield index, 3)) (h : q_lt (up M 8 j 0 y) K = some r) (kk : ∀ (M1 : Mem) (H1 : Heap) (locs1 : List Loc), Wd D cy ad x s M1 H1 locs1 → K M1 = some r → W p l e R s m args below meth c H1 locs1 cells slots Q (F0 m (pc + 3) ls rest)) : W p l e R s m args below meth c H locs cells slots Q (F0 m pc ls (.int y :: .ref (ad (cText j)) :: rest)) := by
  have he : At_ cy ad (up M 8 j 0 y) x (cText j) (wText ad (up M 8 j 0 y) j) := (at_Text hj)
  refine q_put (v := 8) (j := j) (C := RX3) (T := TX3) (ty0 := tyX3) (N := 2) (kf := 1) (ci := 5) (fs := [.ref (ad (cCodes j)), .int (M 8 j 0)]) (ty := .int) C0 hw (show At_ cy ad M x (cText j) (wText ad M j) from (at_Text hj)) (he.2.trans ?_) hin rfl tyX3_ok nmX3 (by decide) hl rfl rfl (by decide +kernel) ⟨rfl, rfl⟩ (Nat.le_of_ble_eq_true rfl) hdg h kk
  simp [wText, up]
theorem gf_Ver_pupil {index : Nat} {j : Nat} (C0 : MX p l s m args meth c D cy ad cc own nL Ts ret) (hw : Wd D cy ad x s M H locs) (hj : j < 60) (hin : ∀ w ∈ wsX40, w ∈ Ts) (hl : Cond.fieldLink own index "Homewatcher$Version" "pupil" "I" ∈ Ts) (hdg : decode cc pc = .ok (.getfield index, 3)) (kk : W p l e R s m args below meth c H locs cells slots Q (F0 m (pc + 3) ls (.int (M 10 j 0) :: rest))) : W p l e R s m args below meth c H locs cells slots Q (F0 m pc ls (.ref (ad (cVer j)) :: rest)) :=
  q_get (C := RX4) (T := TX4) (N := 10) (kf := 0) (ci := 6) (fs := [.int (M 10 j 0), .int (M 11 j 0), .int (M 12 j 0), .int (M 13 j 0), .int (M 14 j 0), .int (M 15 j 0), .int (M 16 j 0), .int (M 17 j 0), .ref (ad (cText j)), .ref (ad (cBag j))]) C0 hw (at_Ver hj) hin rfl (by decide) hl rfl rfl hdg kk
theorem pf_Ver_pupil {β : Type} {K : Mem → Option β} {r : β} {y : Int32} {index : Nat} {j : Nat} (C0 : MX p l s m args meth c D cy ad cc own nL Ts ret) (hw : Wd D cy ad x s M H locs) (hj : j < 60) (hin : ∀ w ∈ wsX40, w ∈ Ts) (hl : Cond.fieldLink own index "Homewatcher$Version" "pupil" "I" ∈ Ts) (hdg : decode cc pc = .ok (.putfield index, 3)) (h : q_lt (up M 10 j 0 y) K = some r) (kk : ∀ (M1 : Mem) (H1 : Heap) (locs1 : List Loc), Wd D cy ad x s M1 H1 locs1 → K M1 = some r → W p l e R s m args below meth c H1 locs1 cells slots Q (F0 m (pc + 3) ls rest)) : W p l e R s m args below meth c H locs cells slots Q (F0 m pc ls (.int y :: .ref (ad (cVer j)) :: rest)) := by
  have he : At_ cy ad (up M 10 j 0 y) x (cVer j) (wVer ad (up M 10 j 0 y) j) := (at_Ver hj)
  refine q_put (v := 10) (j := j) (C := RX4) (T := TX4) (ty0 := tyX4) (N := 10) (kf := 0) (ci := 6) (fs := [.int (M 10 j 0), .int (M 11 j 0), .int (M 12 j 0), .int (M 13 j 0), .int (M 14 j 0), .int (M 15 j 0), .int (M 16 j 0), .int (M 17 j 0), .ref (ad (cText j)), .ref (ad (cBag j))]) (ty := .int) C0 hw (show At_ cy ad M x (cVer j) (wVer ad M j) from (at_Ver hj)) (he.2.trans ?_) hin rfl tyX4_ok nmX4 (by decide) hl rfl rfl (by decide +kernel) ⟨rfl, rfl⟩ (Nat.le_of_ble_eq_true rfl) hdg h kk
  simp [wVer, up]
theorem gf_Ver_task {index : Nat} {j : Nat} (C0 : MX p l s m args meth c D cy ad cc own nL Ts ret) (hw : Wd D cy ad x s M H locs) (hj : j < 60) (hin : ∀ w ∈ wsX40, w ∈ Ts) (hl : Cond.fieldLink own index "Homewatcher$Version" "task" "I" ∈ Ts) (hdg : decode cc pc = .ok (.getfield index, 3)) (kk : W p l e R s m args below meth c H locs cells slots Q (F0 m (pc + 3) ls (.int (M 11 j 0) :: rest))) : W p l e R s m args below meth c H locs cells slots Q (F0 m pc ls (.ref (ad (cVer j)) :: rest)) :=
  q_get (C := RX4) (T := TX4) (N := 10) (kf := 1) (ci := 6) (fs := [.int (M 10 j 0), .int (M 11 j 0), .int (M 12 j 0), .int (M 13 j 0), .int (M 14 j 0), .int (M 15 j 0), .int (M 16 j 0), .int (M 17 j 0), .ref (ad (cText j)), .ref (ad (cBag j))]) C0 hw (at_Ver hj) hin rfl (by decide) hl rfl rfl hdg kk
theorem pf_Ver_task {β : Type} {K : Mem → Option β} {r : β} {y : Int32} {index : Nat} {j : Nat} (C0 : MX p l s m args meth c D cy ad cc own nL Ts ret) (hw : Wd D cy ad x s M H locs) (hj : j < 60) (hin : ∀ w ∈ wsX40, w ∈ Ts) (hl : Cond.fieldLink own index "Homewatcher$Version" "task" "I" ∈ Ts) (hdg : decode cc pc = .ok (.putfield index, 3)) (h : q_lt (up M 11 j 0 y) K = some r) (kk : ∀ (M1 : Mem) (H1 : Heap) (locs1 : List Loc), Wd D cy ad x s M1 H1 locs1 → K M1 = some r → W p l e R s m args below meth c H1 locs1 cells slots Q (F0 m (pc + 3) ls rest)) : W p l e R s m args below meth c H locs cells slots Q (F0 m pc ls (.int y :: .ref (ad (cVer j)) :: rest)) := by
  have he : At_ cy ad (up M 11 j 0 y) x (cVer j) (wVer ad (up M 11 j 0 y) j) := (at_Ver hj)
  refine q_put (v := 11) (j := j) (C := RX4) (T := TX4) (ty0 := tyX4) (N := 10) (kf := 1) (ci := 6) (fs := [.int (M 10 j 0), .int (M 11 j 0), .int (M 12 j 0), .int (M 13 j 0), .int (M 14 j 0), .int (M 15 j 0), .int (M 16 j 0), .int (M 17 j 0), .ref (ad (cText j)), .ref (ad (cBag j))]) (ty := .int) C0 hw (show At_ cy ad M x (cVer j) (wVer ad M j) from (at_Ver hj)) (he.2.trans ?_) hin rfl tyX4_ok nmX4 (by decide) hl rfl rfl (by decide +kernel) ⟨rfl, rfl⟩ (Nat.le_of_ble_eq_true rfl) hdg h kk
  simp [wVer, up]
theorem gf_Ver_parent {index : Nat} {j : Nat} (C0 : MX p l s m args meth c D cy ad cc own nL Ts ret) (hw : Wd D cy ad x s M H locs) (hj : j < 60) (hin : ∀ w ∈ wsX40, w ∈ Ts) (hl : Cond.fieldLink own index "Homewatcher$Version" "parent" "I" ∈ Ts) (hdg : decode cc pc = .ok (.getfield index, 3)) (kk : W p l e R s m args below meth c H locs cells slots Q (F0 m (pc + 3) ls (.int (M 12 j 0) :: rest))) : W p l e R s m args below meth c H locs cells slots Q (F0 m pc ls (.ref (ad (cVer j)) :: rest)) :=
  q_get (C := RX4) (T := TX4) (N := 10) (kf := 2) (ci := 6) (fs := [.int (M 10 j 0), .int (M 11 j 0), .int (M 12 j 0), .int (M 13 j 0), .int (M 14 j 0), .int (M 15 j 0), .int (M 16 j 0), .int (M 17 j 0), .ref (ad (cText j)), .ref (ad (cBag j))]) C0 hw (at_Ver hj) hin rfl (by decide) hl rfl rfl hdg kk
theorem pf_Ver_parent {β : Type} {K : Mem → Option β} {r : β} {y : Int32} {index : Nat} {j : Nat} (C0 : MX p l s m args meth c D cy ad cc own nL Ts ret) (hw : Wd D cy ad x s M H locs) (hj : j < 60) (hin : ∀ w ∈ wsX40, w ∈ Ts) (hl : Cond.fieldLink own index "Homewatcher$Version" "parent" "I" ∈ Ts) (hdg : decode cc pc = .ok (.putfield index, 3)) (h : q_lt (up M 12 j 0 y) K = some r) (kk : ∀ (M1 : Mem) (H1 : Heap) (locs1 : List Loc), Wd D cy ad x s M1 H1 locs1 → K M1 = some r → W p l e R s m args below meth c H1 locs1 cells slots Q (F0 m (pc + 3) ls rest)) : W p l e R s m args below meth c H locs cells slots Q (F0 m pc ls (.int y :: .ref (ad (cVer j)) :: rest)) := by
  have he : At_ cy ad (up M 12 j 0 y) x (cVer j) (wVer ad (up M 12 j 0 y) j) := (at_Ver hj)
  refine q_put (v := 12) (j := j) (C := RX4) (T := TX4) (ty0 := tyX4) (N := 10) (kf := 2) (ci := 6) (fs := [.int (M 10 j 0), .int (M 11 j 0), .int (M 12 j 0), .int (M 13 j 0), .int (M 14 j 0), .int (M 15 j 0), .int (M 16 j 0), .int (M 17 j 0), .ref (ad (cText j)), .ref (ad (cBag j))]) (ty := .int) C0 hw (show At_ cy ad M x (cVer j) (wVer ad M j) from (at_Ver hj)) (he.2.trans ?_) hin rfl tyX4_ok nmX4 (by decide) hl rfl rfl (by decide +kernel) ⟨rfl, rfl⟩ (Nat.le_of_ble_eq_true rfl) hdg h kk
  simp [wVer, up]
theorem gf_Ver_savedAt {index : Nat} {j : Nat} (C0 : MX p l s m args meth c D cy ad cc own nL Ts ret) (hw : Wd D cy ad x s M H locs) (hj : j < 60) (hin : ∀ w ∈ wsX40, w ∈ Ts) (hl : Cond.fieldLink own index "Homewatcher$Version" "savedAt" "I" ∈ Ts) (hdg : decode cc pc = .ok (.getfield index, 3)) (kk : W p l e R s m args below meth c H locs cells slots Q (F0 m (pc + 3) ls (.int (M 13 j 0) :: rest))) : W p l e R s m args below meth c H locs cells slots Q (F0 m pc ls (.ref (ad (cVer j)) :: rest)) :=
  q_get (C := RX4) (T := TX4) (N := 10) (kf := 3) (ci := 6) (fs := [.int (M 10 j 0), .int (M 11 j 0), .int (M 12 j 0), .int (M 13 j 0), .int (M 14 j 0), .int (M 15 j 0), .int (M 16 j 0), .int (M 17 j 0), .ref (ad (cText j)), .ref (ad (cBag j))]) C0 hw (at_Ver hj) hin rfl (by decide) hl rfl rfl hdg kk
theorem pf_Ver_savedAt {β : Type} {K : Mem → Option β} {r : β} {y : Int32} {index : Nat} {j : Nat} (C0 : MX p l s m args meth c D cy ad cc own nL Ts ret) (hw : Wd D cy ad x s M H locs) (hj : j < 60) (hin : ∀ w ∈ wsX40, w ∈ Ts) (hl : Cond.fieldLink own index "Homewatcher$Version" "savedAt" "I" ∈ Ts) (hdg : decode cc pc = .ok (.putfield index, 3)) (h : q_lt (up M 13 j 0 y) K = some r) (kk : ∀ (M1 : Mem) (H1 : Heap) (locs1 : List Loc), Wd D cy ad x s M1 H1 locs1 → K M1 = some r → W p l e R s m args below meth c H1 locs1 cells slots Q (F0 m (pc + 3) ls rest)) : W p l e R s m args below meth c H locs cells slots Q (F0 m pc ls (.int y :: .ref (ad (cVer j)) :: rest)) := by
  have he : At_ cy ad (up M 13 j 0 y) x (cVer j) (wVer ad (up M 13 j 0 y) j) := (at_Ver hj)
  refine q_put (v := 13) (j := j) (C := RX4) (T := TX4) (ty0 := tyX4) (N := 10) (kf := 3) (ci := 6) (fs := [.int (M 10 j 0), .int (M 11 j 0), .int (M 12 j 0), .int (M 13 j 0), .int (M 14 j 0), .int (M 15 j 0), .int (M 16 j 0), .int (M 17 j 0), .ref (ad (cText j)), .ref (ad (cBag j))]) (ty := .int) C0 hw (show At_ cy ad M x (cVer j) (wVer ad M j) from (at_Ver hj)) (he.2.trans ?_) hin rfl tyX4_ok nmX4 (by decide) hl rfl rfl (by decide +kernel) ⟨rfl, rfl⟩ (Nat.le_of_ble_eq_true rfl) hdg h kk
  simp [wVer, up]
theorem gf_Ver_handedAt {index : Nat} {j : Nat} (C0 : MX p l s m args meth c D cy ad cc own nL Ts ret) (hw : Wd D cy ad x s M H locs) (hj : j < 60) (hin : ∀ w ∈ wsX40, w ∈ Ts) (hl : Cond.fieldLink own index "Homewatcher$Version" "handedAt" "I" ∈ Ts) (hdg : decode cc pc = .ok (.getfield index, 3)) (kk : W p l e R s m args below meth c H locs cells slots Q (F0 m (pc + 3) ls (.int (M 14 j 0) :: rest))) : W p l e R s m args below meth c H locs cells slots Q (F0 m pc ls (.ref (ad (cVer j)) :: rest)) :=
  q_get (C := RX4) (T := TX4) (N := 10) (kf := 4) (ci := 6) (fs := [.int (M 10 j 0), .int (M 11 j 0), .int (M 12 j 0), .int (M 13 j 0), .int (M 14 j 0), .int (M 15 j 0), .int (M 16 j 0), .int (M 17 j 0), .ref (ad (cText j)), .ref (ad (cBag j))]) C0 hw (at_Ver hj) hin rfl (by decide) hl rfl rfl hdg kk
theorem pf_Ver_handedAt {β : Type} {K : Mem → Option β} {r : β} {y : Int32} {index : Nat} {j : Nat} (C0 : MX p l s m args meth c D cy ad cc own nL Ts ret) (hw : Wd D cy ad x s M H locs) (hj : j < 60) (hin : ∀ w ∈ wsX40, w ∈ Ts) (hl : Cond.fieldLink own index "Homewatcher$Version" "handedAt" "I" ∈ Ts) (hdg : decode cc pc = .ok (.putfield index, 3)) (h : q_lt (up M 14 j 0 y) K = some r) (kk : ∀ (M1 : Mem) (H1 : Heap) (locs1 : List Loc), Wd D cy ad x s M1 H1 locs1 → K M1 = some r → W p l e R s m args below meth c H1 locs1 cells slots Q (F0 m (pc + 3) ls rest)) : W p l e R s m args below meth c H locs cells slots Q (F0 m pc ls (.int y :: .ref (ad (cVer j)) :: rest)) := by
  have he : At_ cy ad (up M 14 j 0 y) x (cVer j) (wVer ad (up M 14 j 0 y) j) := (at_Ver hj)
  refine q_put (v := 14) (j := j) (C := RX4) (T := TX4) (ty0 := tyX4) (N := 10) (kf := 4) (ci := 6) (fs := [.int (M 10 j 0), .int (M 11 j 0), .int (M 12 j 0), .int (M 13 j 0), .int (M 14 j 0), .int (M 15 j 0), .int (M 16 j 0), .int (M 17 j 0), .ref (ad (cText j)), .ref (ad (cBag j))]) (ty := .int) C0 hw (show At_ cy ad M x (cVer j) (wVer ad M j) from (at_Ver hj)) (he.2.trans ?_) hin rfl tyX4_ok nmX4 (by decide) hl rfl rfl (by decide +kernel) ⟨rfl, rfl⟩ (Nat.le_of_ble_eq_true rfl) hdg h kk
  simp [wVer, up]
theorem gf_Ver_turn {index : Nat} {j : Nat} (C0 : MX p l s m args meth c D cy ad cc own nL Ts ret) (hw : Wd D cy ad x s M H locs) (hj : j < 60) (hin : ∀ w ∈ wsX40, w ∈ Ts) (hl : Cond.fieldLink own index "Homewatcher$Version" "turn" "I" ∈ Ts) (hdg : decode cc pc = .ok (.getfield index, 3)) (kk : W p l e R s m args below meth c H locs cells slots Q (F0 m (pc + 3) ls (.int (M 15 j 0) :: rest))) : W p l e R s m args below meth c H locs cells slots Q (F0 m pc ls (.ref (ad (cVer j)) :: rest)) :=
  q_get (C := RX4) (T := TX4) (N := 10) (kf := 5) (ci := 6) (fs := [.int (M 10 j 0), .int (M 11 j 0), .int (M 12 j 0), .int (M 13 j 0), .int (M 14 j 0), .int (M 15 j 0), .int (M 16 j 0), .int (M 17 j 0), .ref (ad (cText j)), .ref (ad (cBag j))]) C0 hw (at_Ver hj) hin rfl (by decide) hl rfl rfl hdg kk
theorem pf_Ver_turn {β : Type} {K : Mem → Option β} {r : β} {y : Int32} {index : Nat} {j : Nat} (C0 : MX p l s m args meth c D cy ad cc own nL Ts ret) (hw : Wd D cy ad x s M H locs) (hj : j < 60) (hin : ∀ w ∈ wsX40, w ∈ Ts) (hl : Cond.fieldLink own index "Homewatcher$Version" "turn" "I" ∈ Ts) (hdg : decode cc pc = .ok (.putfield index, 3)) (h : q_lt (up M 15 j 0 y) K = some r) (kk : ∀ (M1 : Mem) (H1 : Heap) (locs1 : List Loc), Wd D cy ad x s M1 H1 locs1 → K M1 = some r → W p l e R s m args below meth c H1 locs1 cells slots Q (F0 m (pc + 3) ls rest)) : W p l e R s m args below meth c H locs cells slots Q (F0 m pc ls (.int y :: .ref (ad (cVer j)) :: rest)) := by
  have he : At_ cy ad (up M 15 j 0 y) x (cVer j) (wVer ad (up M 15 j 0 y) j) := (at_Ver hj)
  refine q_put (v := 15) (j := j) (C := RX4) (T := TX4) (ty0 := tyX4) (N := 10) (kf := 5) (ci := 6) (fs := [.int (M 10 j 0), .int (M 11 j 0), .int (M 12 j 0), .int (M 13 j 0), .int (M 14 j 0), .int (M 15 j 0), .int (M 16 j 0), .int (M 17 j 0), .ref (ad (cText j)), .ref (ad (cBag j))]) (ty := .int) C0 hw (show At_ cy ad M x (cVer j) (wVer ad M j) from (at_Ver hj)) (he.2.trans ?_) hin rfl tyX4_ok nmX4 (by decide) hl rfl rfl (by decide +kernel) ⟨rfl, rfl⟩ (Nat.le_of_ble_eq_true rfl) hdg h kk
  simp [wVer, up]
theorem gf_Ver_withdrawn {index : Nat} {j : Nat} (C0 : MX p l s m args meth c D cy ad cc own nL Ts ret) (hw : Wd D cy ad x s M H locs) (hj : j < 60) (hin : ∀ w ∈ wsX40, w ∈ Ts) (hl : Cond.fieldLink own index "Homewatcher$Version" "withdrawn" "Z" ∈ Ts) (hdg : decode cc pc = .ok (.getfield index, 3)) (kk : W p l e R s m args below meth c H locs cells slots Q (F0 m (pc + 3) ls (.int (M 16 j 0) :: rest))) : W p l e R s m args below meth c H locs cells slots Q (F0 m pc ls (.ref (ad (cVer j)) :: rest)) :=
  q_get (C := RX4) (T := TX4) (N := 10) (kf := 6) (ci := 6) (fs := [.int (M 10 j 0), .int (M 11 j 0), .int (M 12 j 0), .int (M 13 j 0), .int (M 14 j 0), .int (M 15 j 0), .int (M 16 j 0), .int (M 17 j 0), .ref (ad (cText j)), .ref (ad (cBag j))]) C0 hw (at_Ver hj) hin rfl (by decide) hl rfl rfl hdg kk
theorem pf_Ver_withdrawn {β : Type} {K : Mem → Option β} {r : β} {y : Int32} {index : Nat} {j : Nat} (C0 : MX p l s m args meth c D cy ad cc own nL Ts ret) (hw : Wd D cy ad x s M H locs) (hj : j < 60) (hn : narrow .boolean (.int y) = .int y ∧ fits .boolean (.int y) = true) (hin : ∀ w ∈ wsX40, w ∈ Ts) (hl : Cond.fieldLink own index "Homewatcher$Version" "withdrawn" "Z" ∈ Ts) (hdg : decode cc pc = .ok (.putfield index, 3)) (h : q_lt (up M 16 j 0 y) K = some r) (kk : ∀ (M1 : Mem) (H1 : Heap) (locs1 : List Loc), Wd D cy ad x s M1 H1 locs1 → K M1 = some r → W p l e R s m args below meth c H1 locs1 cells slots Q (F0 m (pc + 3) ls rest)) : W p l e R s m args below meth c H locs cells slots Q (F0 m pc ls (.int y :: .ref (ad (cVer j)) :: rest)) := by
  have he : At_ cy ad (up M 16 j 0 y) x (cVer j) (wVer ad (up M 16 j 0 y) j) := (at_Ver hj)
  refine q_put (v := 16) (j := j) (C := RX4) (T := TX4) (ty0 := tyX4) (N := 10) (kf := 6) (ci := 6) (fs := [.int (M 10 j 0), .int (M 11 j 0), .int (M 12 j 0), .int (M 13 j 0), .int (M 14 j 0), .int (M 15 j 0), .int (M 16 j 0), .int (M 17 j 0), .ref (ad (cText j)), .ref (ad (cBag j))]) (ty := .boolean) C0 hw (show At_ cy ad M x (cVer j) (wVer ad M j) from (at_Ver hj)) (he.2.trans ?_) hin rfl tyX4_ok nmX4 (by decide) hl rfl rfl (by decide +kernel) hn (Nat.le_of_ble_eq_true rfl) hdg h kk
  simp [wVer, up]
theorem gf_Ver_told {index : Nat} {j : Nat} (C0 : MX p l s m args meth c D cy ad cc own nL Ts ret) (hw : Wd D cy ad x s M H locs) (hj : j < 60) (hin : ∀ w ∈ wsX40, w ∈ Ts) (hl : Cond.fieldLink own index "Homewatcher$Version" "told" "I" ∈ Ts) (hdg : decode cc pc = .ok (.getfield index, 3)) (kk : W p l e R s m args below meth c H locs cells slots Q (F0 m (pc + 3) ls (.int (M 17 j 0) :: rest))) : W p l e R s m args below meth c H locs cells slots Q (F0 m pc ls (.ref (ad (cVer j)) :: rest)) :=
  q_get (C := RX4) (T := TX4) (N := 10) (kf := 7) (ci := 6) (fs := [.int (M 10 j 0), .int (M 11 j 0), .int (M 12 j 0), .int (M 13 j 0), .int (M 14 j 0), .int (M 15 j 0), .int (M 16 j 0), .int (M 17 j 0), .ref (ad (cText j)), .ref (ad (cBag j))]) C0 hw (at_Ver hj) hin rfl (by decide) hl rfl rfl hdg kk
theorem pf_Ver_told {β : Type} {K : Mem → Option β} {r : β} {y : Int32} {index : Nat} {j : Nat} (C0 : MX p l s m args meth c D cy ad cc own nL Ts ret) (hw : Wd D cy ad x s M H locs) (hj : j < 60) (hin : ∀ w ∈ wsX40, w ∈ Ts) (hl : Cond.fieldLink own index "Homewatcher$Version" "told" "I" ∈ Ts) (hdg : decode cc pc = .ok (.putfield index, 3)) (h : q_lt (up M 17 j 0 y) K = some r) (kk : ∀ (M1 : Mem) (H1 : Heap) (locs1 : List Loc), Wd D cy ad x s M1 H1 locs1 → K M1 = some r → W p l e R s m args below meth c H1 locs1 cells slots Q (F0 m (pc + 3) ls rest)) : W p l e R s m args below meth c H locs cells slots Q (F0 m pc ls (.int y :: .ref (ad (cVer j)) :: rest)) := by
  have he : At_ cy ad (up M 17 j 0 y) x (cVer j) (wVer ad (up M 17 j 0 y) j) := (at_Ver hj)
  refine q_put (v := 17) (j := j) (C := RX4) (T := TX4) (ty0 := tyX4) (N := 10) (kf := 7) (ci := 6) (fs := [.int (M 10 j 0), .int (M 11 j 0), .int (M 12 j 0), .int (M 13 j 0), .int (M 14 j 0), .int (M 15 j 0), .int (M 16 j 0), .int (M 17 j 0), .ref (ad (cText j)), .ref (ad (cBag j))]) (ty := .int) C0 hw (show At_ cy ad M x (cVer j) (wVer ad M j) from (at_Ver hj)) (he.2.trans ?_) hin rfl tyX4_ok nmX4 (by decide) hl rfl rfl (by decide +kernel) ⟨rfl, rfl⟩ (Nat.le_of_ble_eq_true rfl) hdg h kk
  simp [wVer, up]
theorem gf_Ver_text {index : Nat} {j : Nat} (C0 : MX p l s m args meth c D cy ad cc own nL Ts ret) (hw : Wd D cy ad x s M H locs) (hj : j < 60) (hin : ∀ w ∈ wsX40, w ∈ Ts) (hl : Cond.fieldLink own index "Homewatcher$Version" "text" "LHomewatcher$Text;" ∈ Ts) (hdg : decode cc pc = .ok (.getfield index, 3)) (kk : W p l e R s m args below meth c H locs cells slots Q (F0 m (pc + 3) ls (.ref (ad (cText j)) :: rest))) : W p l e R s m args below meth c H locs cells slots Q (F0 m pc ls (.ref (ad (cVer j)) :: rest)) :=
  q_get (C := RX4) (T := TX4) (N := 10) (kf := 8) (ci := 6) (fs := [.int (M 10 j 0), .int (M 11 j 0), .int (M 12 j 0), .int (M 13 j 0), .int (M 14 j 0), .int (M 15 j 0), .int (M 16 j 0), .int (M 17 j 0), .ref (ad (cText j)), .ref (ad (cBag j))]) C0 hw (at_Ver hj) hin rfl (by decide) hl rfl rfl hdg kk
theorem gf_Ver_shingles {index : Nat} {j : Nat} (C0 : MX p l s m args meth c D cy ad cc own nL Ts ret) (hw : Wd D cy ad x s M H locs) (hj : j < 60) (hin : ∀ w ∈ wsX40, w ∈ Ts) (hl : Cond.fieldLink own index "Homewatcher$Version" "shingles" "LHomewatcher$Bag;" ∈ Ts) (hdg : decode cc pc = .ok (.getfield index, 3)) (kk : W p l e R s m args below meth c H locs cells slots Q (F0 m (pc + 3) ls (.ref (ad (cBag j)) :: rest))) : W p l e R s m args below meth c H locs cells slots Q (F0 m pc ls (.ref (ad (cVer j)) :: rest)) :=
  q_get (C := RX4) (T := TX4) (N := 10) (kf := 9) (ci := 6) (fs := [.int (M 10 j 0), .int (M 11 j 0), .int (M 12 j 0), .int (M 13 j 0), .int (M 14 j 0), .int (M 15 j 0), .int (M 16 j 0), .int (M 17 j 0), .ref (ad (cText j)), .ref (ad (cBag j))]) C0 hw (at_Ver hj) hin rfl (by decide) hl rfl rfl hdg kk
theorem gf_HW_offsets {index : Nat} (C0 : MX p l s m args meth c D cy ad cc own nL Ts ret) (hw : Wd D cy ad x s M H locs) (hin : ∀ w ∈ wsX50, w ∈ Ts) (hl : Cond.fieldLink own index "Homewatcher" "offsets" "[I" ∈ Ts) (hdg : decode cc pc = .ok (.getfield index, 3)) (kk : W p l e R s m args below meth c H locs cells slots Q (F0 m (pc + 3) ls (.ref (ad 1) :: rest))) : W p l e R s m args below meth c H locs cells slots Q (F0 m pc ls (.ref (ad 0) :: rest)) :=
  q_get (C := RX5) (T := TX5) (N := 17) (kf := 0) (ci := 7) (fs := [.ref (ad 1), .int (M 0 0 0), .ref (ad 2), .int (M 1 0 0), .ref (ad 3), .int (M 2 0 0), .int (M 3 0 0), .ref (ad (cText 60)), .ref (ad 6), .int (M 4 0 0), .int (M 5 0 0), .ref (ad (cBag 60)), .ref (ad (cBag 61)), .ref (ad (cBag 62)), .ref (ad 16), .int (M 6 0 0), .int (M 7 0 0)]) C0 hw at_HW hin rfl (by decide) hl rfl rfl hdg kk
theorem gf_HW_classCount {index : Nat} (C0 : MX p l s m args meth c D cy ad cc own nL Ts ret) (hw : Wd D cy ad x s M H locs) (hin : ∀ w ∈ wsX50, w ∈ Ts) (hl : Cond.fieldLink own index "Homewatcher" "classCount" "I" ∈ Ts) (hdg : decode cc pc = .ok (.getfield index, 3)) (kk : W p l e R s m args below meth c H locs cells slots Q (F0 m (pc + 3) ls (.int (M 0 0 0) :: rest))) : W p l e R s m args below meth c H locs cells slots Q (F0 m pc ls (.ref (ad 0) :: rest)) :=
  q_get (C := RX5) (T := TX5) (N := 17) (kf := 1) (ci := 7) (fs := [.ref (ad 1), .int (M 0 0 0), .ref (ad 2), .int (M 1 0 0), .ref (ad 3), .int (M 2 0 0), .int (M 3 0 0), .ref (ad (cText 60)), .ref (ad 6), .int (M 4 0 0), .int (M 5 0 0), .ref (ad (cBag 60)), .ref (ad (cBag 61)), .ref (ad (cBag 62)), .ref (ad 16), .int (M 6 0 0), .int (M 7 0 0)]) C0 hw at_HW hin rfl (by decide) hl rfl rfl hdg kk
theorem pf_HW_classCount {β : Type} {K : Mem → Option β} {r : β} {y : Int32} {index : Nat} (C0 : MX p l s m args meth c D cy ad cc own nL Ts ret) (hw : Wd D cy ad x s M H locs) (hin : ∀ w ∈ wsX50, w ∈ Ts) (hl : Cond.fieldLink own index "Homewatcher" "classCount" "I" ∈ Ts) (hdg : decode cc pc = .ok (.putfield index, 3)) (h : q_lt (up M 0 0 0 y) K = some r) (kk : ∀ (M1 : Mem) (H1 : Heap) (locs1 : List Loc), Wd D cy ad x s M1 H1 locs1 → K M1 = some r → W p l e R s m args below meth c H1 locs1 cells slots Q (F0 m (pc + 3) ls rest)) : W p l e R s m args below meth c H locs cells slots Q (F0 m pc ls (.int y :: .ref (ad 0) :: rest)) := by
  have he : At_ cy ad (up M 0 0 0 y) x 0 (wHW ad (up M 0 0 0 y)) := at_HW
  refine q_put (v := 0) (j := 0) (C := RX5) (T := TX5) (ty0 := tyX5) (N := 17) (kf := 1) (ci := 7) (fs := [.ref (ad 1), .int (M 0 0 0), .ref (ad 2), .int (M 1 0 0), .ref (ad 3), .int (M 2 0 0), .int (M 3 0 0), .ref (ad (cText 60)), .ref (ad 6), .int (M 4 0 0), .int (M 5 0 0), .ref (ad (cBag 60)), .ref (ad (cBag 61)), .ref (ad (cBag 62)), .ref (ad 16), .int (M 6 0 0), .int (M 7 0 0)]) (ty := .int) C0 hw (show At_ cy ad M x 0 (wHW ad M) from at_HW) (he.2.trans ?_) hin rfl tyX5_ok nmX5 (by decide) hl rfl rfl (by decide +kernel) ⟨rfl, rfl⟩ (Nat.le_of_ble_eq_true rfl) hdg h kk
  simp [wHW, up]
theorem gf_HW_classOfPupil {index : Nat} (C0 : MX p l s m args meth c D cy ad cc own nL Ts ret) (hw : Wd D cy ad x s M H locs) (hin : ∀ w ∈ wsX50, w ∈ Ts) (hl : Cond.fieldLink own index "Homewatcher" "classOfPupil" "[I" ∈ Ts) (hdg : decode cc pc = .ok (.getfield index, 3)) (kk : W p l e R s m args below meth c H locs cells slots Q (F0 m (pc + 3) ls (.ref (ad 2) :: rest))) : W p l e R s m args below meth c H locs cells slots Q (F0 m pc ls (.ref (ad 0) :: rest)) :=
  q_get (C := RX5) (T := TX5) (N := 17) (kf := 2) (ci := 7) (fs := [.ref (ad 1), .int (M 0 0 0), .ref (ad 2), .int (M 1 0 0), .ref (ad 3), .int (M 2 0 0), .int (M 3 0 0), .ref (ad (cText 60)), .ref (ad 6), .int (M 4 0 0), .int (M 5 0 0), .ref (ad (cBag 60)), .ref (ad (cBag 61)), .ref (ad (cBag 62)), .ref (ad 16), .int (M 6 0 0), .int (M 7 0 0)]) C0 hw at_HW hin rfl (by decide) hl rfl rfl hdg kk
theorem gf_HW_pupilCount {index : Nat} (C0 : MX p l s m args meth c D cy ad cc own nL Ts ret) (hw : Wd D cy ad x s M H locs) (hin : ∀ w ∈ wsX50, w ∈ Ts) (hl : Cond.fieldLink own index "Homewatcher" "pupilCount" "I" ∈ Ts) (hdg : decode cc pc = .ok (.getfield index, 3)) (kk : W p l e R s m args below meth c H locs cells slots Q (F0 m (pc + 3) ls (.int (M 1 0 0) :: rest))) : W p l e R s m args below meth c H locs cells slots Q (F0 m pc ls (.ref (ad 0) :: rest)) :=
  q_get (C := RX5) (T := TX5) (N := 17) (kf := 3) (ci := 7) (fs := [.ref (ad 1), .int (M 0 0 0), .ref (ad 2), .int (M 1 0 0), .ref (ad 3), .int (M 2 0 0), .int (M 3 0 0), .ref (ad (cText 60)), .ref (ad 6), .int (M 4 0 0), .int (M 5 0 0), .ref (ad (cBag 60)), .ref (ad (cBag 61)), .ref (ad (cBag 62)), .ref (ad 16), .int (M 6 0 0), .int (M 7 0 0)]) C0 hw at_HW hin rfl (by decide) hl rfl rfl hdg kk
theorem pf_HW_pupilCount {β : Type} {K : Mem → Option β} {r : β} {y : Int32} {index : Nat} (C0 : MX p l s m args meth c D cy ad cc own nL Ts ret) (hw : Wd D cy ad x s M H locs) (hin : ∀ w ∈ wsX50, w ∈ Ts) (hl : Cond.fieldLink own index "Homewatcher" "pupilCount" "I" ∈ Ts) (hdg : decode cc pc = .ok (.putfield index, 3)) (h : q_lt (up M 1 0 0 y) K = some r) (kk : ∀ (M1 : Mem) (H1 : Heap) (locs1 : List Loc), Wd D cy ad x s M1 H1 locs1 → K M1 = some r → W p l e R s m args below meth c H1 locs1 cells slots Q (F0 m (pc + 3) ls rest)) : W p l e R s m args below meth c H locs cells slots Q (F0 m pc ls (.int y :: .ref (ad 0) :: rest)) := by
  have he : At_ cy ad (up M 1 0 0 y) x 0 (wHW ad (up M 1 0 0 y)) := at_HW
  refine q_put (v := 1) (j := 0) (C := RX5) (T := TX5) (ty0 := tyX5) (N := 17) (kf := 3) (ci := 7) (fs := [.ref (ad 1), .int (M 0 0 0), .ref (ad 2), .int (M 1 0 0), .ref (ad 3), .int (M 2 0 0), .int (M 3 0 0), .ref (ad (cText 60)), .ref (ad 6), .int (M 4 0 0), .int (M 5 0 0), .ref (ad (cBag 60)), .ref (ad (cBag 61)), .ref (ad (cBag 62)), .ref (ad 16), .int (M 6 0 0), .int (M 7 0 0)]) (ty := .int) C0 hw (show At_ cy ad M x 0 (wHW ad M) from at_HW) (he.2.trans ?_) hin rfl tyX5_ok nmX5 (by decide) hl rfl rfl (by decide +kernel) ⟨rfl, rfl⟩ (Nat.le_of_ble_eq_true rfl) hdg h kk
  simp [wHW, up]
theorem gf_HW_tasks {index : Nat} (C0 : MX p l s m args meth c D cy ad cc own nL Ts ret) (hw : Wd D cy ad x s M H locs) (hin : ∀ w ∈ wsX50, w ∈ Ts) (hl : Cond.fieldLink own index "Homewatcher" "tasks" "[LHomewatcher$Task;" ∈ Ts) (hdg : decode cc pc = .ok (.getfield index, 3)) (kk : W p l e R s m args below meth c H locs cells slots Q (F0 m (pc + 3) ls (.ref (ad 3) :: rest))) : W p l e R s m args below meth c H locs cells slots Q (F0 m pc ls (.ref (ad 0) :: rest)) :=
  q_get (C := RX5) (T := TX5) (N := 17) (kf := 4) (ci := 7) (fs := [.ref (ad 1), .int (M 0 0 0), .ref (ad 2), .int (M 1 0 0), .ref (ad 3), .int (M 2 0 0), .int (M 3 0 0), .ref (ad (cText 60)), .ref (ad 6), .int (M 4 0 0), .int (M 5 0 0), .ref (ad (cBag 60)), .ref (ad (cBag 61)), .ref (ad (cBag 62)), .ref (ad 16), .int (M 6 0 0), .int (M 7 0 0)]) C0 hw at_HW hin rfl (by decide) hl rfl rfl hdg kk
theorem gf_HW_taskCount {index : Nat} (C0 : MX p l s m args meth c D cy ad cc own nL Ts ret) (hw : Wd D cy ad x s M H locs) (hin : ∀ w ∈ wsX50, w ∈ Ts) (hl : Cond.fieldLink own index "Homewatcher" "taskCount" "I" ∈ Ts) (hdg : decode cc pc = .ok (.getfield index, 3)) (kk : W p l e R s m args below meth c H locs cells slots Q (F0 m (pc + 3) ls (.int (M 2 0 0) :: rest))) : W p l e R s m args below meth c H locs cells slots Q (F0 m pc ls (.ref (ad 0) :: rest)) :=
  q_get (C := RX5) (T := TX5) (N := 17) (kf := 5) (ci := 7) (fs := [.ref (ad 1), .int (M 0 0 0), .ref (ad 2), .int (M 1 0 0), .ref (ad 3), .int (M 2 0 0), .int (M 3 0 0), .ref (ad (cText 60)), .ref (ad 6), .int (M 4 0 0), .int (M 5 0 0), .ref (ad (cBag 60)), .ref (ad (cBag 61)), .ref (ad (cBag 62)), .ref (ad 16), .int (M 6 0 0), .int (M 7 0 0)]) C0 hw at_HW hin rfl (by decide) hl rfl rfl hdg kk
theorem pf_HW_taskCount {β : Type} {K : Mem → Option β} {r : β} {y : Int32} {index : Nat} (C0 : MX p l s m args meth c D cy ad cc own nL Ts ret) (hw : Wd D cy ad x s M H locs) (hin : ∀ w ∈ wsX50, w ∈ Ts) (hl : Cond.fieldLink own index "Homewatcher" "taskCount" "I" ∈ Ts) (hdg : decode cc pc = .ok (.putfield index, 3)) (h : q_lt (up M 2 0 0 y) K = some r) (kk : ∀ (M1 : Mem) (H1 : Heap) (locs1 : List Loc), Wd D cy ad x s M1 H1 locs1 → K M1 = some r → W p l e R s m args below meth c H1 locs1 cells slots Q (F0 m (pc + 3) ls rest)) : W p l e R s m args below meth c H locs cells slots Q (F0 m pc ls (.int y :: .ref (ad 0) :: rest)) := by
  have he : At_ cy ad (up M 2 0 0 y) x 0 (wHW ad (up M 2 0 0 y)) := at_HW
  refine q_put (v := 2) (j := 0) (C := RX5) (T := TX5) (ty0 := tyX5) (N := 17) (kf := 5) (ci := 7) (fs := [.ref (ad 1), .int (M 0 0 0), .ref (ad 2), .int (M 1 0 0), .ref (ad 3), .int (M 2 0 0), .int (M 3 0 0), .ref (ad (cText 60)), .ref (ad 6), .int (M 4 0 0), .int (M 5 0 0), .ref (ad (cBag 60)), .ref (ad (cBag 61)), .ref (ad (cBag 62)), .ref (ad 16), .int (M 6 0 0), .int (M 7 0 0)]) (ty := .int) C0 hw (show At_ cy ad M x 0 (wHW ad M) from at_HW) (he.2.trans ?_) hin rfl tyX5_ok nmX5 (by decide) hl rfl rfl (by decide +kernel) ⟨rfl, rfl⟩ (Nat.le_of_ble_eq_true rfl) hdg h kk
  simp [wHW, up]
theorem gf_HW_now {index : Nat} (C0 : MX p l s m args meth c D cy ad cc own nL Ts ret) (hw : Wd D cy ad x s M H locs) (hin : ∀ w ∈ wsX50, w ∈ Ts) (hl : Cond.fieldLink own index "Homewatcher" "now" "I" ∈ Ts) (hdg : decode cc pc = .ok (.getfield index, 3)) (kk : W p l e R s m args below meth c H locs cells slots Q (F0 m (pc + 3) ls (.int (M 3 0 0) :: rest))) : W p l e R s m args below meth c H locs cells slots Q (F0 m pc ls (.ref (ad 0) :: rest)) :=
  q_get (C := RX5) (T := TX5) (N := 17) (kf := 6) (ci := 7) (fs := [.ref (ad 1), .int (M 0 0 0), .ref (ad 2), .int (M 1 0 0), .ref (ad 3), .int (M 2 0 0), .int (M 3 0 0), .ref (ad (cText 60)), .ref (ad 6), .int (M 4 0 0), .int (M 5 0 0), .ref (ad (cBag 60)), .ref (ad (cBag 61)), .ref (ad (cBag 62)), .ref (ad 16), .int (M 6 0 0), .int (M 7 0 0)]) C0 hw at_HW hin rfl (by decide) hl rfl rfl hdg kk
theorem pf_HW_now {β : Type} {K : Mem → Option β} {r : β} {y : Int32} {index : Nat} (C0 : MX p l s m args meth c D cy ad cc own nL Ts ret) (hw : Wd D cy ad x s M H locs) (hin : ∀ w ∈ wsX50, w ∈ Ts) (hl : Cond.fieldLink own index "Homewatcher" "now" "I" ∈ Ts) (hdg : decode cc pc = .ok (.putfield index, 3)) (h : q_lt (up M 3 0 0 y) K = some r) (kk : ∀ (M1 : Mem) (H1 : Heap) (locs1 : List Loc), Wd D cy ad x s M1 H1 locs1 → K M1 = some r → W p l e R s m args below meth c H1 locs1 cells slots Q (F0 m (pc + 3) ls rest)) : W p l e R s m args below meth c H locs cells slots Q (F0 m pc ls (.int y :: .ref (ad 0) :: rest)) := by
  have he : At_ cy ad (up M 3 0 0 y) x 0 (wHW ad (up M 3 0 0 y)) := at_HW
  refine q_put (v := 3) (j := 0) (C := RX5) (T := TX5) (ty0 := tyX5) (N := 17) (kf := 6) (ci := 7) (fs := [.ref (ad 1), .int (M 0 0 0), .ref (ad 2), .int (M 1 0 0), .ref (ad 3), .int (M 2 0 0), .int (M 3 0 0), .ref (ad (cText 60)), .ref (ad 6), .int (M 4 0 0), .int (M 5 0 0), .ref (ad (cBag 60)), .ref (ad (cBag 61)), .ref (ad (cBag 62)), .ref (ad 16), .int (M 6 0 0), .int (M 7 0 0)]) (ty := .int) C0 hw (show At_ cy ad M x 0 (wHW ad M) from at_HW) (he.2.trans ?_) hin rfl tyX5_ok nmX5 (by decide) hl rfl rfl (by decide +kernel) ⟨rfl, rfl⟩ (Nat.le_of_ble_eq_true rfl) hdg h kk
  simp [wHW, up]
theorem gf_HW_typed {index : Nat} (C0 : MX p l s m args meth c D cy ad cc own nL Ts ret) (hw : Wd D cy ad x s M H locs) (hin : ∀ w ∈ wsX50, w ∈ Ts) (hl : Cond.fieldLink own index "Homewatcher" "typed" "LHomewatcher$Text;" ∈ Ts) (hdg : decode cc pc = .ok (.getfield index, 3)) (kk : W p l e R s m args below meth c H locs cells slots Q (F0 m (pc + 3) ls (.ref (ad (cText 60)) :: rest))) : W p l e R s m args below meth c H locs cells slots Q (F0 m pc ls (.ref (ad 0) :: rest)) :=
  q_get (C := RX5) (T := TX5) (N := 17) (kf := 7) (ci := 7) (fs := [.ref (ad 1), .int (M 0 0 0), .ref (ad 2), .int (M 1 0 0), .ref (ad 3), .int (M 2 0 0), .int (M 3 0 0), .ref (ad (cText 60)), .ref (ad 6), .int (M 4 0 0), .int (M 5 0 0), .ref (ad (cBag 60)), .ref (ad (cBag 61)), .ref (ad (cBag 62)), .ref (ad 16), .int (M 6 0 0), .int (M 7 0 0)]) C0 hw at_HW hin rfl (by decide) hl rfl rfl hdg kk
theorem gf_HW_versions {index : Nat} (C0 : MX p l s m args meth c D cy ad cc own nL Ts ret) (hw : Wd D cy ad x s M H locs) (hin : ∀ w ∈ wsX50, w ∈ Ts) (hl : Cond.fieldLink own index "Homewatcher" "versions" "[LHomewatcher$Version;" ∈ Ts) (hdg : decode cc pc = .ok (.getfield index, 3)) (kk : W p l e R s m args below meth c H locs cells slots Q (F0 m (pc + 3) ls (.ref (ad 6) :: rest))) : W p l e R s m args below meth c H locs cells slots Q (F0 m pc ls (.ref (ad 0) :: rest)) :=
  q_get (C := RX5) (T := TX5) (N := 17) (kf := 8) (ci := 7) (fs := [.ref (ad 1), .int (M 0 0 0), .ref (ad 2), .int (M 1 0 0), .ref (ad 3), .int (M 2 0 0), .int (M 3 0 0), .ref (ad (cText 60)), .ref (ad 6), .int (M 4 0 0), .int (M 5 0 0), .ref (ad (cBag 60)), .ref (ad (cBag 61)), .ref (ad (cBag 62)), .ref (ad 16), .int (M 6 0 0), .int (M 7 0 0)]) C0 hw at_HW hin rfl (by decide) hl rfl rfl hdg kk
theorem gf_HW_versionCount {index : Nat} (C0 : MX p l s m args meth c D cy ad cc own nL Ts ret) (hw : Wd D cy ad x s M H locs) (hin : ∀ w ∈ wsX50, w ∈ Ts) (hl : Cond.fieldLink own index "Homewatcher" "versionCount" "I" ∈ Ts) (hdg : decode cc pc = .ok (.getfield index, 3)) (kk : W p l e R s m args below meth c H locs cells slots Q (F0 m (pc + 3) ls (.int (M 4 0 0) :: rest))) : W p l e R s m args below meth c H locs cells slots Q (F0 m pc ls (.ref (ad 0) :: rest)) :=
  q_get (C := RX5) (T := TX5) (N := 17) (kf := 9) (ci := 7) (fs := [.ref (ad 1), .int (M 0 0 0), .ref (ad 2), .int (M 1 0 0), .ref (ad 3), .int (M 2 0 0), .int (M 3 0 0), .ref (ad (cText 60)), .ref (ad 6), .int (M 4 0 0), .int (M 5 0 0), .ref (ad (cBag 60)), .ref (ad (cBag 61)), .ref (ad (cBag 62)), .ref (ad 16), .int (M 6 0 0), .int (M 7 0 0)]) C0 hw at_HW hin rfl (by decide) hl rfl rfl hdg kk
theorem pf_HW_versionCount {β : Type} {K : Mem → Option β} {r : β} {y : Int32} {index : Nat} (C0 : MX p l s m args meth c D cy ad cc own nL Ts ret) (hw : Wd D cy ad x s M H locs) (hin : ∀ w ∈ wsX50, w ∈ Ts) (hl : Cond.fieldLink own index "Homewatcher" "versionCount" "I" ∈ Ts) (hdg : decode cc pc = .ok (.putfield index, 3)) (h : q_lt (up M 4 0 0 y) K = some r) (kk : ∀ (M1 : Mem) (H1 : Heap) (locs1 : List Loc), Wd D cy ad x s M1 H1 locs1 → K M1 = some r → W p l e R s m args below meth c H1 locs1 cells slots Q (F0 m (pc + 3) ls rest)) : W p l e R s m args below meth c H locs cells slots Q (F0 m pc ls (.int y :: .ref (ad 0) :: rest)) := by
  have he : At_ cy ad (up M 4 0 0 y) x 0 (wHW ad (up M 4 0 0 y)) := at_HW
  refine q_put (v := 4) (j := 0) (C := RX5) (T := TX5) (ty0 := tyX5) (N := 17) (kf := 9) (ci := 7) (fs := [.ref (ad 1), .int (M 0 0 0), .ref (ad 2), .int (M 1 0 0), .ref (ad 3), .int (M 2 0 0), .int (M 3 0 0), .ref (ad (cText 60)), .ref (ad 6), .int (M 4 0 0), .int (M 5 0 0), .ref (ad (cBag 60)), .ref (ad (cBag 61)), .ref (ad (cBag 62)), .ref (ad 16), .int (M 6 0 0), .int (M 7 0 0)]) (ty := .int) C0 hw (show At_ cy ad M x 0 (wHW ad M) from at_HW) (he.2.trans ?_) hin rfl tyX5_ok nmX5 (by decide) hl rfl rfl (by decide +kernel) ⟨rfl, rfl⟩ (Nat.le_of_ble_eq_true rfl) hdg h kk
  simp [wHW, up]
theorem gf_HW_handings {index : Nat} (C0 : MX p l s m args meth c D cy ad cc own nL Ts ret) (hw : Wd D cy ad x s M H locs) (hin : ∀ w ∈ wsX50, w ∈ Ts) (hl : Cond.fieldLink own index "Homewatcher" "handings" "I" ∈ Ts) (hdg : decode cc pc = .ok (.getfield index, 3)) (kk : W p l e R s m args below meth c H locs cells slots Q (F0 m (pc + 3) ls (.int (M 5 0 0) :: rest))) : W p l e R s m args below meth c H locs cells slots Q (F0 m pc ls (.ref (ad 0) :: rest)) :=
  q_get (C := RX5) (T := TX5) (N := 17) (kf := 10) (ci := 7) (fs := [.ref (ad 1), .int (M 0 0 0), .ref (ad 2), .int (M 1 0 0), .ref (ad 3), .int (M 2 0 0), .int (M 3 0 0), .ref (ad (cText 60)), .ref (ad 6), .int (M 4 0 0), .int (M 5 0 0), .ref (ad (cBag 60)), .ref (ad (cBag 61)), .ref (ad (cBag 62)), .ref (ad 16), .int (M 6 0 0), .int (M 7 0 0)]) C0 hw at_HW hin rfl (by decide) hl rfl rfl hdg kk
theorem pf_HW_handings {β : Type} {K : Mem → Option β} {r : β} {y : Int32} {index : Nat} (C0 : MX p l s m args meth c D cy ad cc own nL Ts ret) (hw : Wd D cy ad x s M H locs) (hin : ∀ w ∈ wsX50, w ∈ Ts) (hl : Cond.fieldLink own index "Homewatcher" "handings" "I" ∈ Ts) (hdg : decode cc pc = .ok (.putfield index, 3)) (h : q_lt (up M 5 0 0 y) K = some r) (kk : ∀ (M1 : Mem) (H1 : Heap) (locs1 : List Loc), Wd D cy ad x s M1 H1 locs1 → K M1 = some r → W p l e R s m args below meth c H1 locs1 cells slots Q (F0 m (pc + 3) ls rest)) : W p l e R s m args below meth c H locs cells slots Q (F0 m pc ls (.int y :: .ref (ad 0) :: rest)) := by
  have he : At_ cy ad (up M 5 0 0 y) x 0 (wHW ad (up M 5 0 0 y)) := at_HW
  refine q_put (v := 5) (j := 0) (C := RX5) (T := TX5) (ty0 := tyX5) (N := 17) (kf := 10) (ci := 7) (fs := [.ref (ad 1), .int (M 0 0 0), .ref (ad 2), .int (M 1 0 0), .ref (ad 3), .int (M 2 0 0), .int (M 3 0 0), .ref (ad (cText 60)), .ref (ad 6), .int (M 4 0 0), .int (M 5 0 0), .ref (ad (cBag 60)), .ref (ad (cBag 61)), .ref (ad (cBag 62)), .ref (ad 16), .int (M 6 0 0), .int (M 7 0 0)]) (ty := .int) C0 hw (show At_ cy ad M x 0 (wHW ad M) from at_HW) (he.2.trans ?_) hin rfl tyX5_ok nmX5 (by decide) hl rfl rfl (by decide +kernel) ⟨rfl, rfl⟩ (Nat.le_of_ble_eq_true rfl) hdg h kk
  simp [wHW, up]
theorem gf_HW_shingleIndex {index : Nat} (C0 : MX p l s m args meth c D cy ad cc own nL Ts ret) (hw : Wd D cy ad x s M H locs) (hin : ∀ w ∈ wsX50, w ∈ Ts) (hl : Cond.fieldLink own index "Homewatcher" "shingleIndex" "LHomewatcher$Bag;" ∈ Ts) (hdg : decode cc pc = .ok (.getfield index, 3)) (kk : W p l e R s m args below meth c H locs cells slots Q (F0 m (pc + 3) ls (.ref (ad (cBag 60)) :: rest))) : W p l e R s m args below meth c H locs cells slots Q (F0 m pc ls (.ref (ad 0) :: rest)) :=
  q_get (C := RX5) (T := TX5) (N := 17) (kf := 11) (ci := 7) (fs := [.ref (ad 1), .int (M 0 0 0), .ref (ad 2), .int (M 1 0 0), .ref (ad 3), .int (M 2 0 0), .int (M 3 0 0), .ref (ad (cText 60)), .ref (ad 6), .int (M 4 0 0), .int (M 5 0 0), .ref (ad (cBag 60)), .ref (ad (cBag 61)), .ref (ad (cBag 62)), .ref (ad 16), .int (M 6 0 0), .int (M 7 0 0)]) C0 hw at_HW hin rfl (by decide) hl rfl rfl hdg kk
theorem gf_HW_indexAnew {index : Nat} (C0 : MX p l s m args meth c D cy ad cc own nL Ts ret) (hw : Wd D cy ad x s M H locs) (hin : ∀ w ∈ wsX50, w ∈ Ts) (hl : Cond.fieldLink own index "Homewatcher" "indexAnew" "LHomewatcher$Bag;" ∈ Ts) (hdg : decode cc pc = .ok (.getfield index, 3)) (kk : W p l e R s m args below meth c H locs cells slots Q (F0 m (pc + 3) ls (.ref (ad (cBag 61)) :: rest))) : W p l e R s m args below meth c H locs cells slots Q (F0 m pc ls (.ref (ad 0) :: rest)) :=
  q_get (C := RX5) (T := TX5) (N := 17) (kf := 12) (ci := 7) (fs := [.ref (ad 1), .int (M 0 0 0), .ref (ad 2), .int (M 1 0 0), .ref (ad 3), .int (M 2 0 0), .int (M 3 0 0), .ref (ad (cText 60)), .ref (ad 6), .int (M 4 0 0), .int (M 5 0 0), .ref (ad (cBag 60)), .ref (ad (cBag 61)), .ref (ad (cBag 62)), .ref (ad 16), .int (M 6 0 0), .int (M 7 0 0)]) C0 hw at_HW hin rfl (by decide) hl rfl rfl hdg kk
theorem gf_HW_shinglesAnew {index : Nat} (C0 : MX p l s m args meth c D cy ad cc own nL Ts ret) (hw : Wd D cy ad x s M H locs) (hin : ∀ w ∈ wsX50, w ∈ Ts) (hl : Cond.fieldLink own index "Homewatcher" "shinglesAnew" "LHomewatcher$Bag;" ∈ Ts) (hdg : decode cc pc = .ok (.getfield index, 3)) (kk : W p l e R s m args below meth c H locs cells slots Q (F0 m (pc + 3) ls (.ref (ad (cBag 62)) :: rest))) : W p l e R s m args below meth c H locs cells slots Q (F0 m pc ls (.ref (ad 0) :: rest)) :=
  q_get (C := RX5) (T := TX5) (N := 17) (kf := 13) (ci := 7) (fs := [.ref (ad 1), .int (M 0 0 0), .ref (ad 2), .int (M 1 0 0), .ref (ad 3), .int (M 2 0 0), .int (M 3 0 0), .ref (ad (cText 60)), .ref (ad 6), .int (M 4 0 0), .int (M 5 0 0), .ref (ad (cBag 60)), .ref (ad (cBag 61)), .ref (ad (cBag 62)), .ref (ad 16), .int (M 6 0 0), .int (M 7 0 0)]) C0 hw at_HW hin rfl (by decide) hl rfl rfl hdg kk
theorem gf_HW_hitRow {index : Nat} (C0 : MX p l s m args meth c D cy ad cc own nL Ts ret) (hw : Wd D cy ad x s M H locs) (hin : ∀ w ∈ wsX50, w ∈ Ts) (hl : Cond.fieldLink own index "Homewatcher" "hitRow" "[LHomewatcher$Hit;" ∈ Ts) (hdg : decode cc pc = .ok (.getfield index, 3)) (kk : W p l e R s m args below meth c H locs cells slots Q (F0 m (pc + 3) ls (.ref (ad 16) :: rest))) : W p l e R s m args below meth c H locs cells slots Q (F0 m pc ls (.ref (ad 0) :: rest)) :=
  q_get (C := RX5) (T := TX5) (N := 17) (kf := 14) (ci := 7) (fs := [.ref (ad 1), .int (M 0 0 0), .ref (ad 2), .int (M 1 0 0), .ref (ad 3), .int (M 2 0 0), .int (M 3 0 0), .ref (ad (cText 60)), .ref (ad 6), .int (M 4 0 0), .int (M 5 0 0), .ref (ad (cBag 60)), .ref (ad (cBag 61)), .ref (ad (cBag 62)), .ref (ad 16), .int (M 6 0 0), .int (M 7 0 0)]) C0 hw at_HW hin rfl (by decide) hl rfl rfl hdg kk
theorem gf_HW_hitCount {index : Nat} (C0 : MX p l s m args meth c D cy ad cc own nL Ts ret) (hw : Wd D cy ad x s M H locs) (hin : ∀ w ∈ wsX50, w ∈ Ts) (hl : Cond.fieldLink own index "Homewatcher" "hitCount" "I" ∈ Ts) (hdg : decode cc pc = .ok (.getfield index, 3)) (kk : W p l e R s m args below meth c H locs cells slots Q (F0 m (pc + 3) ls (.int (M 6 0 0) :: rest))) : W p l e R s m args below meth c H locs cells slots Q (F0 m pc ls (.ref (ad 0) :: rest)) :=
  q_get (C := RX5) (T := TX5) (N := 17) (kf := 15) (ci := 7) (fs := [.ref (ad 1), .int (M 0 0 0), .ref (ad 2), .int (M 1 0 0), .ref (ad 3), .int (M 2 0 0), .int (M 3 0 0), .ref (ad (cText 60)), .ref (ad 6), .int (M 4 0 0), .int (M 5 0 0), .ref (ad (cBag 60)), .ref (ad (cBag 61)), .ref (ad (cBag 62)), .ref (ad 16), .int (M 6 0 0), .int (M 7 0 0)]) C0 hw at_HW hin rfl (by decide) hl rfl rfl hdg kk
theorem pf_HW_hitCount {β : Type} {K : Mem → Option β} {r : β} {y : Int32} {index : Nat} (C0 : MX p l s m args meth c D cy ad cc own nL Ts ret) (hw : Wd D cy ad x s M H locs) (hin : ∀ w ∈ wsX50, w ∈ Ts) (hl : Cond.fieldLink own index "Homewatcher" "hitCount" "I" ∈ Ts) (hdg : decode cc pc = .ok (.putfield index, 3)) (h : q_lt (up M 6 0 0 y) K = some r) (kk : ∀ (M1 : Mem) (H1 : Heap) (locs1 : List Loc), Wd D cy ad x s M1 H1 locs1 → K M1 = some r → W p l e R s m args below meth c H1 locs1 cells slots Q (F0 m (pc + 3) ls rest)) : W p l e R s m args below meth c H locs cells slots Q (F0 m pc ls (.int y :: .ref (ad 0) :: rest)) := by
  have he : At_ cy ad (up M 6 0 0 y) x 0 (wHW ad (up M 6 0 0 y)) := at_HW
  refine q_put (v := 6) (j := 0) (C := RX5) (T := TX5) (ty0 := tyX5) (N := 17) (kf := 15) (ci := 7) (fs := [.ref (ad 1), .int (M 0 0 0), .ref (ad 2), .int (M 1 0 0), .ref (ad 3), .int (M 2 0 0), .int (M 3 0 0), .ref (ad (cText 60)), .ref (ad 6), .int (M 4 0 0), .int (M 5 0 0), .ref (ad (cBag 60)), .ref (ad (cBag 61)), .ref (ad (cBag 62)), .ref (ad 16), .int (M 6 0 0), .int (M 7 0 0)]) (ty := .int) C0 hw (show At_ cy ad M x 0 (wHW ad M) from at_HW) (he.2.trans ?_) hin rfl tyX5_ok nmX5 (by decide) hl rfl rfl (by decide +kernel) ⟨rfl, rfl⟩ (Nat.le_of_ble_eq_true rfl) hdg h kk
  simp [wHW, up]
theorem gf_HW_hitThreshold {index : Nat} (C0 : MX p l s m args meth c D cy ad cc own nL Ts ret) (hw : Wd D cy ad x s M H locs) (hin : ∀ w ∈ wsX50, w ∈ Ts) (hl : Cond.fieldLink own index "Homewatcher" "hitThreshold" "I" ∈ Ts) (hdg : decode cc pc = .ok (.getfield index, 3)) (kk : W p l e R s m args below meth c H locs cells slots Q (F0 m (pc + 3) ls (.int (M 7 0 0) :: rest))) : W p l e R s m args below meth c H locs cells slots Q (F0 m pc ls (.ref (ad 0) :: rest)) :=
  q_get (C := RX5) (T := TX5) (N := 17) (kf := 16) (ci := 7) (fs := [.ref (ad 1), .int (M 0 0 0), .ref (ad 2), .int (M 1 0 0), .ref (ad 3), .int (M 2 0 0), .int (M 3 0 0), .ref (ad (cText 60)), .ref (ad 6), .int (M 4 0 0), .int (M 5 0 0), .ref (ad (cBag 60)), .ref (ad (cBag 61)), .ref (ad (cBag 62)), .ref (ad 16), .int (M 6 0 0), .int (M 7 0 0)]) C0 hw at_HW hin rfl (by decide) hl rfl rfl hdg kk
theorem pf_HW_hitThreshold {β : Type} {K : Mem → Option β} {r : β} {y : Int32} {index : Nat} (C0 : MX p l s m args meth c D cy ad cc own nL Ts ret) (hw : Wd D cy ad x s M H locs) (hin : ∀ w ∈ wsX50, w ∈ Ts) (hl : Cond.fieldLink own index "Homewatcher" "hitThreshold" "I" ∈ Ts) (hdg : decode cc pc = .ok (.putfield index, 3)) (h : q_lt (up M 7 0 0 y) K = some r) (kk : ∀ (M1 : Mem) (H1 : Heap) (locs1 : List Loc), Wd D cy ad x s M1 H1 locs1 → K M1 = some r → W p l e R s m args below meth c H1 locs1 cells slots Q (F0 m (pc + 3) ls rest)) : W p l e R s m args below meth c H locs cells slots Q (F0 m pc ls (.int y :: .ref (ad 0) :: rest)) := by
  have he : At_ cy ad (up M 7 0 0 y) x 0 (wHW ad (up M 7 0 0 y)) := at_HW
  refine q_put (v := 7) (j := 0) (C := RX5) (T := TX5) (ty0 := tyX5) (N := 17) (kf := 16) (ci := 7) (fs := [.ref (ad 1), .int (M 0 0 0), .ref (ad 2), .int (M 1 0 0), .ref (ad 3), .int (M 2 0 0), .int (M 3 0 0), .ref (ad (cText 60)), .ref (ad 6), .int (M 4 0 0), .int (M 5 0 0), .ref (ad (cBag 60)), .ref (ad (cBag 61)), .ref (ad (cBag 62)), .ref (ad 16), .int (M 6 0 0), .int (M 7 0 0)]) (ty := .int) C0 hw (show At_ cy ad M x 0 (wHW ad M) from at_HW) (he.2.trans ?_) hin rfl tyX5_ok nmX5 (by decide) hl rfl rfl (by decide +kernel) ⟨rfl, rfl⟩ (Nat.le_of_ble_eq_true rfl) hdg h kk
  simp [wHW, up]
theorem gf_Mod_now {index : Nat} (C0 : MX p l s m args meth c D cy ad cc own nL Ts ret) (hw : Wd D cy ad x s M H locs) (hin : ∀ w ∈ wsX60, w ∈ Ts) (hl : Cond.fieldLink own index "HomewatcherModel" "now" "I" ∈ Ts) (hdg : decode cc pc = .ok (.getfield index, 3)) (kk : W p l e R s m args below meth c H locs cells slots Q (F0 m (pc + 3) ls (.int (M 60 0 0) :: rest))) : W p l e R s m args below meth c H locs cells slots Q (F0 m pc ls (.ref (ad 427) :: rest)) :=
  q_get (C := RX6) (T := TX6) (N := 35) (kf := 0) (ci := 8) (fs := (modFs ad M)) C0 hw at_Mod hin rfl (by decide) hl rfl rfl hdg kk
theorem pf_Mod_now {β : Type} {K : Mem → Option β} {r : β} {y : Int32} {index : Nat} (C0 : MX p l s m args meth c D cy ad cc own nL Ts ret) (hw : Wd D cy ad x s M H locs) (hin : ∀ w ∈ wsX60, w ∈ Ts) (hl : Cond.fieldLink own index "HomewatcherModel" "now" "I" ∈ Ts) (hdg : decode cc pc = .ok (.putfield index, 3)) (h : q_lt (up M 60 0 0 y) K = some r) (kk : ∀ (M1 : Mem) (H1 : Heap) (locs1 : List Loc), Wd D cy ad x s M1 H1 locs1 → K M1 = some r → W p l e R s m args below meth c H1 locs1 cells slots Q (F0 m (pc + 3) ls rest)) : W p l e R s m args below meth c H locs cells slots Q (F0 m pc ls (.int y :: .ref (ad 427) :: rest)) := by
  have he : At_ cy ad (up M 60 0 0 y) x 427 (wMod ad (up M 60 0 0 y)) := at_Mod
  refine q_put (v := 60) (j := 0) (C := RX6) (T := TX6) (ty0 := tyX6) (N := 35) (kf := 0) (ci := 8) (fs := (modFs ad M)) (ty := .int) C0 hw (show At_ cy ad M x 427 (wMod ad M) from at_Mod) (he.2.trans ?_) hin rfl tyX6_ok nmX6 (by decide) hl rfl rfl (by decide +kernel) ⟨rfl, rfl⟩ (Nat.le_of_ble_eq_true rfl) hdg h kk
  simp [wMod, modFs, up]
theorem gf_Mod_classes {index : Nat} (C0 : MX p l s m args meth c D cy ad cc own nL Ts ret) (hw : Wd D cy ad x s M H locs) (hin : ∀ w ∈ wsX60, w ∈ Ts) (hl : Cond.fieldLink own index "HomewatcherModel" "classes" "I" ∈ Ts) (hdg : decode cc pc = .ok (.getfield index, 3)) (kk : W p l e R s m args below meth c H locs cells slots Q (F0 m (pc + 3) ls (.int (M 61 0 0) :: rest))) : W p l e R s m args below meth c H locs cells slots Q (F0 m pc ls (.ref (ad 427) :: rest)) :=
  q_get (C := RX6) (T := TX6) (N := 35) (kf := 1) (ci := 8) (fs := (modFs ad M)) C0 hw at_Mod hin rfl (by decide) hl rfl rfl hdg kk
theorem pf_Mod_classes {β : Type} {K : Mem → Option β} {r : β} {y : Int32} {index : Nat} (C0 : MX p l s m args meth c D cy ad cc own nL Ts ret) (hw : Wd D cy ad x s M H locs) (hin : ∀ w ∈ wsX60, w ∈ Ts) (hl : Cond.fieldLink own index "HomewatcherModel" "classes" "I" ∈ Ts) (hdg : decode cc pc = .ok (.putfield index, 3)) (h : q_lt (up M 61 0 0 y) K = some r) (kk : ∀ (M1 : Mem) (H1 : Heap) (locs1 : List Loc), Wd D cy ad x s M1 H1 locs1 → K M1 = some r → W p l e R s m args below meth c H1 locs1 cells slots Q (F0 m (pc + 3) ls rest)) : W p l e R s m args below meth c H locs cells slots Q (F0 m pc ls (.int y :: .ref (ad 427) :: rest)) := by
  have he : At_ cy ad (up M 61 0 0 y) x 427 (wMod ad (up M 61 0 0 y)) := at_Mod
  refine q_put (v := 61) (j := 0) (C := RX6) (T := TX6) (ty0 := tyX6) (N := 35) (kf := 1) (ci := 8) (fs := (modFs ad M)) (ty := .int) C0 hw (show At_ cy ad M x 427 (wMod ad M) from at_Mod) (he.2.trans ?_) hin rfl tyX6_ok nmX6 (by decide) hl rfl rfl (by decide +kernel) ⟨rfl, rfl⟩ (Nat.le_of_ble_eq_true rfl) hdg h kk
  simp [wMod, modFs, up]
theorem gf_Mod_pupils {index : Nat} (C0 : MX p l s m args meth c D cy ad cc own nL Ts ret) (hw : Wd D cy ad x s M H locs) (hin : ∀ w ∈ wsX60, w ∈ Ts) (hl : Cond.fieldLink own index "HomewatcherModel" "pupils" "I" ∈ Ts) (hdg : decode cc pc = .ok (.getfield index, 3)) (kk : W p l e R s m args below meth c H locs cells slots Q (F0 m (pc + 3) ls (.int (M 62 0 0) :: rest))) : W p l e R s m args below meth c H locs cells slots Q (F0 m pc ls (.ref (ad 427) :: rest)) :=
  q_get (C := RX6) (T := TX6) (N := 35) (kf := 2) (ci := 8) (fs := (modFs ad M)) C0 hw at_Mod hin rfl (by decide) hl rfl rfl hdg kk
theorem pf_Mod_pupils {β : Type} {K : Mem → Option β} {r : β} {y : Int32} {index : Nat} (C0 : MX p l s m args meth c D cy ad cc own nL Ts ret) (hw : Wd D cy ad x s M H locs) (hin : ∀ w ∈ wsX60, w ∈ Ts) (hl : Cond.fieldLink own index "HomewatcherModel" "pupils" "I" ∈ Ts) (hdg : decode cc pc = .ok (.putfield index, 3)) (h : q_lt (up M 62 0 0 y) K = some r) (kk : ∀ (M1 : Mem) (H1 : Heap) (locs1 : List Loc), Wd D cy ad x s M1 H1 locs1 → K M1 = some r → W p l e R s m args below meth c H1 locs1 cells slots Q (F0 m (pc + 3) ls rest)) : W p l e R s m args below meth c H locs cells slots Q (F0 m pc ls (.int y :: .ref (ad 427) :: rest)) := by
  have he : At_ cy ad (up M 62 0 0 y) x 427 (wMod ad (up M 62 0 0 y)) := at_Mod
  refine q_put (v := 62) (j := 0) (C := RX6) (T := TX6) (ty0 := tyX6) (N := 35) (kf := 2) (ci := 8) (fs := (modFs ad M)) (ty := .int) C0 hw (show At_ cy ad M x 427 (wMod ad M) from at_Mod) (he.2.trans ?_) hin rfl tyX6_ok nmX6 (by decide) hl rfl rfl (by decide +kernel) ⟨rfl, rfl⟩ (Nat.le_of_ble_eq_true rfl) hdg h kk
  simp [wMod, modFs, up]
theorem gf_Mod_tasks {index : Nat} (C0 : MX p l s m args meth c D cy ad cc own nL Ts ret) (hw : Wd D cy ad x s M H locs) (hin : ∀ w ∈ wsX60, w ∈ Ts) (hl : Cond.fieldLink own index "HomewatcherModel" "tasks" "I" ∈ Ts) (hdg : decode cc pc = .ok (.getfield index, 3)) (kk : W p l e R s m args below meth c H locs cells slots Q (F0 m (pc + 3) ls (.int (M 63 0 0) :: rest))) : W p l e R s m args below meth c H locs cells slots Q (F0 m pc ls (.ref (ad 427) :: rest)) :=
  q_get (C := RX6) (T := TX6) (N := 35) (kf := 3) (ci := 8) (fs := (modFs ad M)) C0 hw at_Mod hin rfl (by decide) hl rfl rfl hdg kk
theorem pf_Mod_tasks {β : Type} {K : Mem → Option β} {r : β} {y : Int32} {index : Nat} (C0 : MX p l s m args meth c D cy ad cc own nL Ts ret) (hw : Wd D cy ad x s M H locs) (hin : ∀ w ∈ wsX60, w ∈ Ts) (hl : Cond.fieldLink own index "HomewatcherModel" "tasks" "I" ∈ Ts) (hdg : decode cc pc = .ok (.putfield index, 3)) (h : q_lt (up M 63 0 0 y) K = some r) (kk : ∀ (M1 : Mem) (H1 : Heap) (locs1 : List Loc), Wd D cy ad x s M1 H1 locs1 → K M1 = some r → W p l e R s m args below meth c H1 locs1 cells slots Q (F0 m (pc + 3) ls rest)) : W p l e R s m args below meth c H locs cells slots Q (F0 m pc ls (.int y :: .ref (ad 427) :: rest)) := by
  have he : At_ cy ad (up M 63 0 0 y) x 427 (wMod ad (up M 63 0 0 y)) := at_Mod
  refine q_put (v := 63) (j := 0) (C := RX6) (T := TX6) (ty0 := tyX6) (N := 35) (kf := 3) (ci := 8) (fs := (modFs ad M)) (ty := .int) C0 hw (show At_ cy ad M x 427 (wMod ad M) from at_Mod) (he.2.trans ?_) hin rfl tyX6_ok nmX6 (by decide) hl rfl rfl (by decide +kernel) ⟨rfl, rfl⟩ (Nat.le_of_ble_eq_true rfl) hdg h kk
  simp [wMod, modFs, up]
theorem gf_Mod_versions {index : Nat} (C0 : MX p l s m args meth c D cy ad cc own nL Ts ret) (hw : Wd D cy ad x s M H locs) (hin : ∀ w ∈ wsX60, w ∈ Ts) (hl : Cond.fieldLink own index "HomewatcherModel" "versions" "I" ∈ Ts) (hdg : decode cc pc = .ok (.getfield index, 3)) (kk : W p l e R s m args below meth c H locs cells slots Q (F0 m (pc + 3) ls (.int (M 64 0 0) :: rest))) : W p l e R s m args below meth c H locs cells slots Q (F0 m pc ls (.ref (ad 427) :: rest)) :=
  q_get (C := RX6) (T := TX6) (N := 35) (kf := 4) (ci := 8) (fs := (modFs ad M)) C0 hw at_Mod hin rfl (by decide) hl rfl rfl hdg kk
theorem pf_Mod_versions {β : Type} {K : Mem → Option β} {r : β} {y : Int32} {index : Nat} (C0 : MX p l s m args meth c D cy ad cc own nL Ts ret) (hw : Wd D cy ad x s M H locs) (hin : ∀ w ∈ wsX60, w ∈ Ts) (hl : Cond.fieldLink own index "HomewatcherModel" "versions" "I" ∈ Ts) (hdg : decode cc pc = .ok (.putfield index, 3)) (h : q_lt (up M 64 0 0 y) K = some r) (kk : ∀ (M1 : Mem) (H1 : Heap) (locs1 : List Loc), Wd D cy ad x s M1 H1 locs1 → K M1 = some r → W p l e R s m args below meth c H1 locs1 cells slots Q (F0 m (pc + 3) ls rest)) : W p l e R s m args below meth c H locs cells slots Q (F0 m pc ls (.int y :: .ref (ad 427) :: rest)) := by
  have he : At_ cy ad (up M 64 0 0 y) x 427 (wMod ad (up M 64 0 0 y)) := at_Mod
  refine q_put (v := 64) (j := 0) (C := RX6) (T := TX6) (ty0 := tyX6) (N := 35) (kf := 4) (ci := 8) (fs := (modFs ad M)) (ty := .int) C0 hw (show At_ cy ad M x 427 (wMod ad M) from at_Mod) (he.2.trans ?_) hin rfl tyX6_ok nmX6 (by decide) hl rfl rfl (by decide +kernel) ⟨rfl, rfl⟩ (Nat.le_of_ble_eq_true rfl) hdg h kk
  simp [wMod, modFs, up]
theorem gf_Mod_signs {index : Nat} (C0 : MX p l s m args meth c D cy ad cc own nL Ts ret) (hw : Wd D cy ad x s M H locs) (hin : ∀ w ∈ wsX60, w ∈ Ts) (hl : Cond.fieldLink own index "HomewatcherModel" "signs" "I" ∈ Ts) (hdg : decode cc pc = .ok (.getfield index, 3)) (kk : W p l e R s m args below meth c H locs cells slots Q (F0 m (pc + 3) ls (.int (M 65 0 0) :: rest))) : W p l e R s m args below meth c H locs cells slots Q (F0 m pc ls (.ref (ad 427) :: rest)) :=
  q_get (C := RX6) (T := TX6) (N := 35) (kf := 5) (ci := 8) (fs := (modFs ad M)) C0 hw at_Mod hin rfl (by decide) hl rfl rfl hdg kk
theorem pf_Mod_signs {β : Type} {K : Mem → Option β} {r : β} {y : Int32} {index : Nat} (C0 : MX p l s m args meth c D cy ad cc own nL Ts ret) (hw : Wd D cy ad x s M H locs) (hin : ∀ w ∈ wsX60, w ∈ Ts) (hl : Cond.fieldLink own index "HomewatcherModel" "signs" "I" ∈ Ts) (hdg : decode cc pc = .ok (.putfield index, 3)) (h : q_lt (up M 65 0 0 y) K = some r) (kk : ∀ (M1 : Mem) (H1 : Heap) (locs1 : List Loc), Wd D cy ad x s M1 H1 locs1 → K M1 = some r → W p l e R s m args below meth c H1 locs1 cells slots Q (F0 m (pc + 3) ls rest)) : W p l e R s m args below meth c H locs cells slots Q (F0 m pc ls (.int y :: .ref (ad 427) :: rest)) := by
  have he : At_ cy ad (up M 65 0 0 y) x 427 (wMod ad (up M 65 0 0 y)) := at_Mod
  refine q_put (v := 65) (j := 0) (C := RX6) (T := TX6) (ty0 := tyX6) (N := 35) (kf := 5) (ci := 8) (fs := (modFs ad M)) (ty := .int) C0 hw (show At_ cy ad M x 427 (wMod ad M) from at_Mod) (he.2.trans ?_) hin rfl tyX6_ok nmX6 (by decide) hl rfl rfl (by decide +kernel) ⟨rfl, rfl⟩ (Nat.le_of_ble_eq_true rfl) hdg h kk
  simp [wMod, modFs, up]
theorem gf_Mod_hits {index : Nat} (C0 : MX p l s m args meth c D cy ad cc own nL Ts ret) (hw : Wd D cy ad x s M H locs) (hin : ∀ w ∈ wsX60, w ∈ Ts) (hl : Cond.fieldLink own index "HomewatcherModel" "hits" "I" ∈ Ts) (hdg : decode cc pc = .ok (.getfield index, 3)) (kk : W p l e R s m args below meth c H locs cells slots Q (F0 m (pc + 3) ls (.int (M 66 0 0) :: rest))) : W p l e R s m args below meth c H locs cells slots Q (F0 m pc ls (.ref (ad 427) :: rest)) :=
  q_get (C := RX6) (T := TX6) (N := 35) (kf := 6) (ci := 8) (fs := (modFs ad M)) C0 hw at_Mod hin rfl (by decide) hl rfl rfl hdg kk
theorem pf_Mod_hits {β : Type} {K : Mem → Option β} {r : β} {y : Int32} {index : Nat} (C0 : MX p l s m args meth c D cy ad cc own nL Ts ret) (hw : Wd D cy ad x s M H locs) (hin : ∀ w ∈ wsX60, w ∈ Ts) (hl : Cond.fieldLink own index "HomewatcherModel" "hits" "I" ∈ Ts) (hdg : decode cc pc = .ok (.putfield index, 3)) (h : q_lt (up M 66 0 0 y) K = some r) (kk : ∀ (M1 : Mem) (H1 : Heap) (locs1 : List Loc), Wd D cy ad x s M1 H1 locs1 → K M1 = some r → W p l e R s m args below meth c H1 locs1 cells slots Q (F0 m (pc + 3) ls rest)) : W p l e R s m args below meth c H locs cells slots Q (F0 m pc ls (.int y :: .ref (ad 427) :: rest)) := by
  have he : At_ cy ad (up M 66 0 0 y) x 427 (wMod ad (up M 66 0 0 y)) := at_Mod
  refine q_put (v := 66) (j := 0) (C := RX6) (T := TX6) (ty0 := tyX6) (N := 35) (kf := 6) (ci := 8) (fs := (modFs ad M)) (ty := .int) C0 hw (show At_ cy ad M x 427 (wMod ad M) from at_Mod) (he.2.trans ?_) hin rfl tyX6_ok nmX6 (by decide) hl rfl rfl (by decide +kernel) ⟨rfl, rfl⟩ (Nat.le_of_ble_eq_true rfl) hdg h kk
  simp [wMod, modFs, up]
theorem gf_Mod_handed {index : Nat} (C0 : MX p l s m args meth c D cy ad cc own nL Ts ret) (hw : Wd D cy ad x s M H locs) (hin : ∀ w ∈ wsX60, w ∈ Ts) (hl : Cond.fieldLink own index "HomewatcherModel" "handed" "I" ∈ Ts) (hdg : decode cc pc = .ok (.getfield index, 3)) (kk : W p l e R s m args below meth c H locs cells slots Q (F0 m (pc + 3) ls (.int (M 67 0 0) :: rest))) : W p l e R s m args below meth c H locs cells slots Q (F0 m pc ls (.ref (ad 427) :: rest)) :=
  q_get (C := RX6) (T := TX6) (N := 35) (kf := 7) (ci := 8) (fs := (modFs ad M)) C0 hw at_Mod hin rfl (by decide) hl rfl rfl hdg kk
theorem pf_Mod_handed {β : Type} {K : Mem → Option β} {r : β} {y : Int32} {index : Nat} (C0 : MX p l s m args meth c D cy ad cc own nL Ts ret) (hw : Wd D cy ad x s M H locs) (hin : ∀ w ∈ wsX60, w ∈ Ts) (hl : Cond.fieldLink own index "HomewatcherModel" "handed" "I" ∈ Ts) (hdg : decode cc pc = .ok (.putfield index, 3)) (h : q_lt (up M 67 0 0 y) K = some r) (kk : ∀ (M1 : Mem) (H1 : Heap) (locs1 : List Loc), Wd D cy ad x s M1 H1 locs1 → K M1 = some r → W p l e R s m args below meth c H1 locs1 cells slots Q (F0 m (pc + 3) ls rest)) : W p l e R s m args below meth c H locs cells slots Q (F0 m pc ls (.int y :: .ref (ad 427) :: rest)) := by
  have he : At_ cy ad (up M 67 0 0 y) x 427 (wMod ad (up M 67 0 0 y)) := at_Mod
  refine q_put (v := 67) (j := 0) (C := RX6) (T := TX6) (ty0 := tyX6) (N := 35) (kf := 7) (ci := 8) (fs := (modFs ad M)) (ty := .int) C0 hw (show At_ cy ad M x 427 (wMod ad M) from at_Mod) (he.2.trans ?_) hin rfl tyX6_ok nmX6 (by decide) hl rfl rfl (by decide +kernel) ⟨rfl, rfl⟩ (Nat.le_of_ble_eq_true rfl) hdg h kk
  simp [wMod, modFs, up]
theorem gf_Mod_threshold {index : Nat} (C0 : MX p l s m args meth c D cy ad cc own nL Ts ret) (hw : Wd D cy ad x s M H locs) (hin : ∀ w ∈ wsX60, w ∈ Ts) (hl : Cond.fieldLink own index "HomewatcherModel" "threshold" "I" ∈ Ts) (hdg : decode cc pc = .ok (.getfield index, 3)) (kk : W p l e R s m args below meth c H locs cells slots Q (F0 m (pc + 3) ls (.int (M 68 0 0) :: rest))) : W p l e R s m args below meth c H locs cells slots Q (F0 m pc ls (.ref (ad 427) :: rest)) :=
  q_get (C := RX6) (T := TX6) (N := 35) (kf := 8) (ci := 8) (fs := (modFs ad M)) C0 hw at_Mod hin rfl (by decide) hl rfl rfl hdg kk
theorem pf_Mod_threshold {β : Type} {K : Mem → Option β} {r : β} {y : Int32} {index : Nat} (C0 : MX p l s m args meth c D cy ad cc own nL Ts ret) (hw : Wd D cy ad x s M H locs) (hin : ∀ w ∈ wsX60, w ∈ Ts) (hl : Cond.fieldLink own index "HomewatcherModel" "threshold" "I" ∈ Ts) (hdg : decode cc pc = .ok (.putfield index, 3)) (h : q_lt (up M 68 0 0 y) K = some r) (kk : ∀ (M1 : Mem) (H1 : Heap) (locs1 : List Loc), Wd D cy ad x s M1 H1 locs1 → K M1 = some r → W p l e R s m args below meth c H1 locs1 cells slots Q (F0 m (pc + 3) ls rest)) : W p l e R s m args below meth c H locs cells slots Q (F0 m pc ls (.int y :: .ref (ad 427) :: rest)) := by
  have he : At_ cy ad (up M 68 0 0 y) x 427 (wMod ad (up M 68 0 0 y)) := at_Mod
  refine q_put (v := 68) (j := 0) (C := RX6) (T := TX6) (ty0 := tyX6) (N := 35) (kf := 8) (ci := 8) (fs := (modFs ad M)) (ty := .int) C0 hw (show At_ cy ad M x 427 (wMod ad M) from at_Mod) (he.2.trans ?_) hin rfl tyX6_ok nmX6 (by decide) hl rfl rfl (by decide +kernel) ⟨rfl, rfl⟩ (Nat.le_of_ble_eq_true rfl) hdg h kk
  simp [wMod, modFs, up]
theorem gf_Mod_thrown {index : Nat} (C0 : MX p l s m args meth c D cy ad cc own nL Ts ret) (hw : Wd D cy ad x s M H locs) (hin : ∀ w ∈ wsX60, w ∈ Ts) (hl : Cond.fieldLink own index "HomewatcherModel" "thrown" "I" ∈ Ts) (hdg : decode cc pc = .ok (.getfield index, 3)) (kk : W p l e R s m args below meth c H locs cells slots Q (F0 m (pc + 3) ls (.int (M 69 0 0) :: rest))) : W p l e R s m args below meth c H locs cells slots Q (F0 m pc ls (.ref (ad 427) :: rest)) :=
  q_get (C := RX6) (T := TX6) (N := 35) (kf := 9) (ci := 8) (fs := (modFs ad M)) C0 hw at_Mod hin rfl (by decide) hl rfl rfl hdg kk
theorem pf_Mod_thrown {β : Type} {K : Mem → Option β} {r : β} {y : Int32} {index : Nat} (C0 : MX p l s m args meth c D cy ad cc own nL Ts ret) (hw : Wd D cy ad x s M H locs) (hin : ∀ w ∈ wsX60, w ∈ Ts) (hl : Cond.fieldLink own index "HomewatcherModel" "thrown" "I" ∈ Ts) (hdg : decode cc pc = .ok (.putfield index, 3)) (h : q_lt (up M 69 0 0 y) K = some r) (kk : ∀ (M1 : Mem) (H1 : Heap) (locs1 : List Loc), Wd D cy ad x s M1 H1 locs1 → K M1 = some r → W p l e R s m args below meth c H1 locs1 cells slots Q (F0 m (pc + 3) ls rest)) : W p l e R s m args below meth c H locs cells slots Q (F0 m pc ls (.int y :: .ref (ad 427) :: rest)) := by
  have he : At_ cy ad (up M 69 0 0 y) x 427 (wMod ad (up M 69 0 0 y)) := at_Mod
  refine q_put (v := 69) (j := 0) (C := RX6) (T := TX6) (ty0 := tyX6) (N := 35) (kf := 9) (ci := 8) (fs := (modFs ad M)) (ty := .int) C0 hw (show At_ cy ad M x 427 (wMod ad M) from at_Mod) (he.2.trans ?_) hin rfl tyX6_ok nmX6 (by decide) hl rfl rfl (by decide +kernel) ⟨rfl, rfl⟩ (Nat.le_of_ble_eq_true rfl) hdg h kk
  simp [wMod, modFs, up]
theorem gf_Mod_offsets {index : Nat} (C0 : MX p l s m args meth c D cy ad cc own nL Ts ret) (hw : Wd D cy ad x s M H locs) (hin : ∀ w ∈ wsX60, w ∈ Ts) (hl : Cond.fieldLink own index "HomewatcherModel" "offsets" "[I" ∈ Ts) (hdg : decode cc pc = .ok (.getfield index, 3)) (kk : W p l e R s m args below meth c H locs cells slots Q (F0 m (pc + 3) ls (.ref (ad (cMA 25)) :: rest))) : W p l e R s m args below meth c H locs cells slots Q (F0 m pc ls (.ref (ad 427) :: rest)) :=
  q_get (C := RX6) (T := TX6) (N := 35) (kf := 10) (ci := 8) (fs := (modFs ad M)) C0 hw at_Mod hin rfl (by decide) hl rfl rfl hdg kk
theorem gf_Mod_classOf {index : Nat} (C0 : MX p l s m args meth c D cy ad cc own nL Ts ret) (hw : Wd D cy ad x s M H locs) (hin : ∀ w ∈ wsX60, w ∈ Ts) (hl : Cond.fieldLink own index "HomewatcherModel" "classOf" "[I" ∈ Ts) (hdg : decode cc pc = .ok (.getfield index, 3)) (kk : W p l e R s m args below meth c H locs cells slots Q (F0 m (pc + 3) ls (.ref (ad (cMA 26)) :: rest))) : W p l e R s m args below meth c H locs cells slots Q (F0 m pc ls (.ref (ad 427) :: rest)) :=
  q_get (C := RX6) (T := TX6) (N := 35) (kf := 11) (ci := 8) (fs := (modFs ad M)) C0 hw at_Mod hin rfl (by decide) hl rfl rfl hdg kk
theorem gf_Mod_taskClass {index : Nat} (C0 : MX p l s m args meth c D cy ad cc own nL Ts ret) (hw : Wd D cy ad x s M H locs) (hin : ∀ w ∈ wsX60, w ∈ Ts) (hl : Cond.fieldLink own index "HomewatcherModel" "taskClass" "[I" ∈ Ts) (hdg : decode cc pc = .ok (.getfield index, 3)) (kk : W p l e R s m args below meth c H locs cells slots Q (F0 m (pc + 3) ls (.ref (ad (cMA 27)) :: rest))) : W p l e R s m args below meth c H locs cells slots Q (F0 m pc ls (.ref (ad 427) :: rest)) :=
  q_get (C := RX6) (T := TX6) (N := 35) (kf := 12) (ci := 8) (fs := (modFs ad M)) C0 hw at_Mod hin rfl (by decide) hl rfl rfl hdg kk
theorem gf_Mod_dues {index : Nat} (C0 : MX p l s m args meth c D cy ad cc own nL Ts ret) (hw : Wd D cy ad x s M H locs) (hin : ∀ w ∈ wsX60, w ∈ Ts) (hl : Cond.fieldLink own index "HomewatcherModel" "dues" "[I" ∈ Ts) (hdg : decode cc pc = .ok (.getfield index, 3)) (kk : W p l e R s m args below meth c H locs cells slots Q (F0 m (pc + 3) ls (.ref (ad (cMA 28)) :: rest))) : W p l e R s m args below meth c H locs cells slots Q (F0 m pc ls (.ref (ad 427) :: rest)) :=
  q_get (C := RX6) (T := TX6) (N := 35) (kf := 13) (ci := 8) (fs := (modFs ad M)) C0 hw at_Mod hin rfl (by decide) hl rfl rfl hdg kk
theorem gf_Mod_fulls {index : Nat} (C0 : MX p l s m args meth c D cy ad cc own nL Ts ret) (hw : Wd D cy ad x s M H locs) (hin : ∀ w ∈ wsX60, w ∈ Ts) (hl : Cond.fieldLink own index "HomewatcherModel" "fulls" "[I" ∈ Ts) (hdg : decode cc pc = .ok (.getfield index, 3)) (kk : W p l e R s m args below meth c H locs cells slots Q (F0 m (pc + 3) ls (.ref (ad (cMA 29)) :: rest))) : W p l e R s m args below meth c H locs cells slots Q (F0 m pc ls (.ref (ad 427) :: rest)) :=
  q_get (C := RX6) (T := TX6) (N := 35) (kf := 14) (ci := 8) (fs := (modFs ad M)) C0 hw at_Mod hin rfl (by decide) hl rfl rfl hdg kk
theorem gf_Mod_amounts {index : Nat} (C0 : MX p l s m args meth c D cy ad cc own nL Ts ret) (hw : Wd D cy ad x s M H locs) (hin : ∀ w ∈ wsX60, w ∈ Ts) (hl : Cond.fieldLink own index "HomewatcherModel" "amounts" "[I" ∈ Ts) (hdg : decode cc pc = .ok (.getfield index, 3)) (kk : W p l e R s m args below meth c H locs cells slots Q (F0 m (pc + 3) ls (.ref (ad (cMA 30)) :: rest))) : W p l e R s m args below meth c H locs cells slots Q (F0 m pc ls (.ref (ad 427) :: rest)) :=
  q_get (C := RX6) (T := TX6) (N := 35) (kf := 15) (ci := 8) (fs := (modFs ad M)) C0 hw at_Mod hin rfl (by decide) hl rfl rfl hdg kk
theorem gf_Mod_rules {index : Nat} (C0 : MX p l s m args meth c D cy ad cc own nL Ts ret) (hw : Wd D cy ad x s M H locs) (hin : ∀ w ∈ wsX60, w ∈ Ts) (hl : Cond.fieldLink own index "HomewatcherModel" "rules" "[C" ∈ Ts) (hdg : decode cc pc = .ok (.getfield index, 3)) (kk : W p l e R s m args below meth c H locs cells slots Q (F0 m (pc + 3) ls (.ref (ad (cMA 31)) :: rest))) : W p l e R s m args below meth c H locs cells slots Q (F0 m pc ls (.ref (ad 427) :: rest)) :=
  q_get (C := RX6) (T := TX6) (N := 35) (kf := 16) (ci := 8) (fs := (modFs ad M)) C0 hw at_Mod hin rfl (by decide) hl rfl rfl hdg kk
theorem gf_Mod_text {index : Nat} (C0 : MX p l s m args meth c D cy ad cc own nL Ts ret) (hw : Wd D cy ad x s M H locs) (hin : ∀ w ∈ wsX60, w ∈ Ts) (hl : Cond.fieldLink own index "HomewatcherModel" "text" "[I" ∈ Ts) (hdg : decode cc pc = .ok (.getfield index, 3)) (kk : W p l e R s m args below meth c H locs cells slots Q (F0 m (pc + 3) ls (.ref (ad (cMA 32)) :: rest))) : W p l e R s m args below meth c H locs cells slots Q (F0 m pc ls (.ref (ad 427) :: rest)) :=
  q_get (C := RX6) (T := TX6) (N := 35) (kf := 17) (ci := 8) (fs := (modFs ad M)) C0 hw at_Mod hin rfl (by decide) hl rfl rfl hdg kk
theorem gf_Mod_pupilOf {index : Nat} (C0 : MX p l s m args meth c D cy ad cc own nL Ts ret) (hw : Wd D cy ad x s M H locs) (hin : ∀ w ∈ wsX60, w ∈ Ts) (hl : Cond.fieldLink own index "HomewatcherModel" "pupilOf" "[I" ∈ Ts) (hdg : decode cc pc = .ok (.getfield index, 3)) (kk : W p l e R s m args below meth c H locs cells slots Q (F0 m (pc + 3) ls (.ref (ad (cMA 33)) :: rest))) : W p l e R s m args below meth c H locs cells slots Q (F0 m pc ls (.ref (ad 427) :: rest)) :=
  q_get (C := RX6) (T := TX6) (N := 35) (kf := 18) (ci := 8) (fs := (modFs ad M)) C0 hw at_Mod hin rfl (by decide) hl rfl rfl hdg kk
theorem gf_Mod_taskOf {index : Nat} (C0 : MX p l s m args meth c D cy ad cc own nL Ts ret) (hw : Wd D cy ad x s M H locs) (hin : ∀ w ∈ wsX60, w ∈ Ts) (hl : Cond.fieldLink own index "HomewatcherModel" "taskOf" "[I" ∈ Ts) (hdg : decode cc pc = .ok (.getfield index, 3)) (kk : W p l e R s m args below meth c H locs cells slots Q (F0 m (pc + 3) ls (.ref (ad (cMA 34)) :: rest))) : W p l e R s m args below meth c H locs cells slots Q (F0 m pc ls (.ref (ad 427) :: rest)) :=
  q_get (C := RX6) (T := TX6) (N := 35) (kf := 19) (ci := 8) (fs := (modFs ad M)) C0 hw at_Mod hin rfl (by decide) hl rfl rfl hdg kk
theorem gf_Mod_parents {index : Nat} (C0 : MX p l s m args meth c D cy ad cc own nL Ts ret) (hw : Wd D cy ad x s M H locs) (hin : ∀ w ∈ wsX60, w ∈ Ts) (hl : Cond.fieldLink own index "HomewatcherModel" "parents" "[I" ∈ Ts) (hdg : decode cc pc = .ok (.getfield index, 3)) (kk : W p l e R s m args below meth c H locs cells slots Q (F0 m (pc + 3) ls (.ref (ad (cMA 35)) :: rest))) : W p l e R s m args below meth c H locs cells slots Q (F0 m pc ls (.ref (ad 427) :: rest)) :=
  q_get (C := RX6) (T := TX6) (N := 35) (kf := 20) (ci := 8) (fs := (modFs ad M)) C0 hw at_Mod hin rfl (by decide) hl rfl rfl hdg kk
theorem gf_Mod_saved {index : Nat} (C0 : MX p l s m args meth c D cy ad cc own nL Ts ret) (hw : Wd D cy ad x s M H locs) (hin : ∀ w ∈ wsX60, w ∈ Ts) (hl : Cond.fieldLink own index "HomewatcherModel" "saved" "[I" ∈ Ts) (hdg : decode cc pc = .ok (.getfield index, 3)) (kk : W p l e R s m args below meth c H locs cells slots Q (F0 m (pc + 3) ls (.ref (ad (cMA 36)) :: rest))) : W p l e R s m args below meth c H locs cells slots Q (F0 m pc ls (.ref (ad 427) :: rest)) :=
  q_get (C := RX6) (T := TX6) (N := 35) (kf := 21) (ci := 8) (fs := (modFs ad M)) C0 hw at_Mod hin rfl (by decide) hl rfl rfl hdg kk
theorem gf_Mod_sizes {index : Nat} (C0 : MX p l s m args meth c D cy ad cc own nL Ts ret) (hw : Wd D cy ad x s M H locs) (hin : ∀ w ∈ wsX60, w ∈ Ts) (hl : Cond.fieldLink own index "HomewatcherModel" "sizes" "[I" ∈ Ts) (hdg : decode cc pc = .ok (.getfield index, 3)) (kk : W p l e R s m args below meth c H locs cells slots Q (F0 m (pc + 3) ls (.ref (ad (cMA 37)) :: rest))) : W p l e R s m args below meth c H locs cells slots Q (F0 m pc ls (.ref (ad 427) :: rest)) :=
  q_get (C := RX6) (T := TX6) (N := 35) (kf := 22) (ci := 8) (fs := (modFs ad M)) C0 hw at_Mod hin rfl (by decide) hl rfl rfl hdg kk
theorem gf_Mod_states {index : Nat} (C0 : MX p l s m args meth c D cy ad cc own nL Ts ret) (hw : Wd D cy ad x s M H locs) (hin : ∀ w ∈ wsX60, w ∈ Ts) (hl : Cond.fieldLink own index "HomewatcherModel" "states" "[I" ∈ Ts) (hdg : decode cc pc = .ok (.getfield index, 3)) (kk : W p l e R s m args below meth c H locs cells slots Q (F0 m (pc + 3) ls (.ref (ad (cMA 38)) :: rest))) : W p l e R s m args below meth c H locs cells slots Q (F0 m pc ls (.ref (ad 427) :: rest)) :=
  q_get (C := RX6) (T := TX6) (N := 35) (kf := 23) (ci := 8) (fs := (modFs ad M)) C0 hw at_Mod hin rfl (by decide) hl rfl rfl hdg kk
theorem gf_Mod_minutes {index : Nat} (C0 : MX p l s m args meth c D cy ad cc own nL Ts ret) (hw : Wd D cy ad x s M H locs) (hin : ∀ w ∈ wsX60, w ∈ Ts) (hl : Cond.fieldLink own index "HomewatcherModel" "minutes" "[I" ∈ Ts) (hdg : decode cc pc = .ok (.getfield index, 3)) (kk : W p l e R s m args below meth c H locs cells slots Q (F0 m (pc + 3) ls (.ref (ad (cMA 39)) :: rest))) : W p l e R s m args below meth c H locs cells slots Q (F0 m pc ls (.ref (ad 427) :: rest)) :=
  q_get (C := RX6) (T := TX6) (N := 35) (kf := 24) (ci := 8) (fs := (modFs ad M)) C0 hw at_Mod hin rfl (by decide) hl rfl rfl hdg kk
theorem gf_Mod_orders {index : Nat} (C0 : MX p l s m args meth c D cy ad cc own nL Ts ret) (hw : Wd D cy ad x s M H locs) (hin : ∀ w ∈ wsX60, w ∈ Ts) (hl : Cond.fieldLink own index "HomewatcherModel" "orders" "[I" ∈ Ts) (hdg : decode cc pc = .ok (.getfield index, 3)) (kk : W p l e R s m args below meth c H locs cells slots Q (F0 m (pc + 3) ls (.ref (ad (cMA 40)) :: rest))) : W p l e R s m args below meth c H locs cells slots Q (F0 m pc ls (.ref (ad 427) :: rest)) :=
  q_get (C := RX6) (T := TX6) (N := 35) (kf := 25) (ci := 8) (fs := (modFs ad M)) C0 hw at_Mod hin rfl (by decide) hl rfl rfl hdg kk
theorem gf_Mod_points {index : Nat} (C0 : MX p l s m args meth c D cy ad cc own nL Ts ret) (hw : Wd D cy ad x s M H locs) (hin : ∀ w ∈ wsX60, w ∈ Ts) (hl : Cond.fieldLink own index "HomewatcherModel" "points" "[I" ∈ Ts) (hdg : decode cc pc = .ok (.getfield index, 3)) (kk : W p l e R s m args below meth c H locs cells slots Q (F0 m (pc + 3) ls (.ref (ad (cMA 41)) :: rest))) : W p l e R s m args below meth c H locs cells slots Q (F0 m pc ls (.ref (ad 427) :: rest)) :=
  q_get (C := RX6) (T := TX6) (N := 35) (kf := 26) (ci := 8) (fs := (modFs ad M)) C0 hw at_Mod hin rfl (by decide) hl rfl rfl hdg kk
theorem gf_Mod_texts {index : Nat} (C0 : MX p l s m args meth c D cy ad cc own nL Ts ret) (hw : Wd D cy ad x s M H locs) (hin : ∀ w ∈ wsX60, w ∈ Ts) (hl : Cond.fieldLink own index "HomewatcherModel" "texts" "[I" ∈ Ts) (hdg : decode cc pc = .ok (.getfield index, 3)) (kk : W p l e R s m args below meth c H locs cells slots Q (F0 m (pc + 3) ls (.ref (ad (cMA 42)) :: rest))) : W p l e R s m args below meth c H locs cells slots Q (F0 m pc ls (.ref (ad 427) :: rest)) :=
  q_get (C := RX6) (T := TX6) (N := 35) (kf := 27) (ci := 8) (fs := (modFs ad M)) C0 hw at_Mod hin rfl (by decide) hl rfl rfl hdg kk
theorem gf_Mod_shingles {index : Nat} (C0 : MX p l s m args meth c D cy ad cc own nL Ts ret) (hw : Wd D cy ad x s M H locs) (hin : ∀ w ∈ wsX60, w ∈ Ts) (hl : Cond.fieldLink own index "HomewatcherModel" "shingles" "[I" ∈ Ts) (hdg : decode cc pc = .ok (.getfield index, 3)) (kk : W p l e R s m args below meth c H locs cells slots Q (F0 m (pc + 3) ls (.ref (ad (cMA 43)) :: rest))) : W p l e R s m args below meth c H locs cells slots Q (F0 m pc ls (.ref (ad 427) :: rest)) :=
  q_get (C := RX6) (T := TX6) (N := 35) (kf := 28) (ci := 8) (fs := (modFs ad M)) C0 hw at_Mod hin rfl (by decide) hl rfl rfl hdg kk
theorem gf_Mod_shingleCounts {index : Nat} (C0 : MX p l s m args meth c D cy ad cc own nL Ts ret) (hw : Wd D cy ad x s M H locs) (hin : ∀ w ∈ wsX60, w ∈ Ts) (hl : Cond.fieldLink own index "HomewatcherModel" "shingleCounts" "[I" ∈ Ts) (hdg : decode cc pc = .ok (.getfield index, 3)) (kk : W p l e R s m args below meth c H locs cells slots Q (F0 m (pc + 3) ls (.ref (ad (cMA 44)) :: rest))) : W p l e R s m args below meth c H locs cells slots Q (F0 m pc ls (.ref (ad 427) :: rest)) :=
  q_get (C := RX6) (T := TX6) (N := 35) (kf := 29) (ci := 8) (fs := (modFs ad M)) C0 hw at_Mod hin rfl (by decide) hl rfl rfl hdg kk
theorem gf_Mod_hitNew {index : Nat} (C0 : MX p l s m args meth c D cy ad cc own nL Ts ret) (hw : Wd D cy ad x s M H locs) (hin : ∀ w ∈ wsX60, w ∈ Ts) (hl : Cond.fieldLink own index "HomewatcherModel" "hitNew" "[I" ∈ Ts) (hdg : decode cc pc = .ok (.getfield index, 3)) (kk : W p l e R s m args below meth c H locs cells slots Q (F0 m (pc + 3) ls (.ref (ad (cMA 45)) :: rest))) : W p l e R s m args below meth c H locs cells slots Q (F0 m pc ls (.ref (ad 427) :: rest)) :=
  q_get (C := RX6) (T := TX6) (N := 35) (kf := 30) (ci := 8) (fs := (modFs ad M)) C0 hw at_Mod hin rfl (by decide) hl rfl rfl hdg kk
theorem gf_Mod_hitOld {index : Nat} (C0 : MX p l s m args meth c D cy ad cc own nL Ts ret) (hw : Wd D cy ad x s M H locs) (hin : ∀ w ∈ wsX60, w ∈ Ts) (hl : Cond.fieldLink own index "HomewatcherModel" "hitOld" "[I" ∈ Ts) (hdg : decode cc pc = .ok (.getfield index, 3)) (kk : W p l e R s m args below meth c H locs cells slots Q (F0 m (pc + 3) ls (.ref (ad (cMA 46)) :: rest))) : W p l e R s m args below meth c H locs cells slots Q (F0 m pc ls (.ref (ad 427) :: rest)) :=
  q_get (C := RX6) (T := TX6) (N := 35) (kf := 31) (ci := 8) (fs := (modFs ad M)) C0 hw at_Mod hin rfl (by decide) hl rfl rfl hdg kk
theorem gf_Mod_hitCommon {index : Nat} (C0 : MX p l s m args meth c D cy ad cc own nL Ts ret) (hw : Wd D cy ad x s M H locs) (hin : ∀ w ∈ wsX60, w ∈ Ts) (hl : Cond.fieldLink own index "HomewatcherModel" "hitCommon" "[I" ∈ Ts) (hdg : decode cc pc = .ok (.getfield index, 3)) (kk : W p l e R s m args below meth c H locs cells slots Q (F0 m (pc + 3) ls (.ref (ad (cMA 47)) :: rest))) : W p l e R s m args below meth c H locs cells slots Q (F0 m pc ls (.ref (ad 427) :: rest)) :=
  q_get (C := RX6) (T := TX6) (N := 35) (kf := 32) (ci := 8) (fs := (modFs ad M)) C0 hw at_Mod hin rfl (by decide) hl rfl rfl hdg kk
theorem gf_Mod_hitHeard {index : Nat} (C0 : MX p l s m args meth c D cy ad cc own nL Ts ret) (hw : Wd D cy ad x s M H locs) (hin : ∀ w ∈ wsX60, w ∈ Ts) (hl : Cond.fieldLink own index "HomewatcherModel" "hitHeard" "[I" ∈ Ts) (hdg : decode cc pc = .ok (.getfield index, 3)) (kk : W p l e R s m args below meth c H locs cells slots Q (F0 m (pc + 3) ls (.ref (ad (cMA 48)) :: rest))) : W p l e R s m args below meth c H locs cells slots Q (F0 m pc ls (.ref (ad 427) :: rest)) :=
  q_get (C := RX6) (T := TX6) (N := 35) (kf := 33) (ci := 8) (fs := (modFs ad M)) C0 hw at_Mod hin rfl (by decide) hl rfl rfl hdg kk
theorem gf_Mod_isLost {index : Nat} (C0 : MX p l s m args meth c D cy ad cc own nL Ts ret) (hw : Wd D cy ad x s M H locs) (hin : ∀ w ∈ wsX60, w ∈ Ts) (hl : Cond.fieldLink own index "HomewatcherModel" "isLost" "[Z" ∈ Ts) (hdg : decode cc pc = .ok (.getfield index, 3)) (kk : W p l e R s m args below meth c H locs cells slots Q (F0 m (pc + 3) ls (.ref (ad (cMA 49)) :: rest))) : W p l e R s m args below meth c H locs cells slots Q (F0 m pc ls (.ref (ad 427) :: rest)) :=
  q_get (C := RX6) (T := TX6) (N := 35) (kf := 34) (ci := 8) (fs := (modFs ad M)) C0 hw at_Mod hin rfl (by decide) hl rfl rfl hdg kk
set_option maxRecDepth 20000 in
theorem xp_214 : q_XP 1 "java/lang/IllegalArgumentException" (vx_atS RX5 214 "java/lang/IllegalArgumentException" ["java/lang/RuntimeException", "java/lang/Exception"]) [.classLink RX5 210 "java/lang/IllegalArgumentException", .initialized "java/lang/IllegalArgumentException"] := ⟨rfl, by decide +kernel, by decide +kernel, by decide +kernel, by decide +kernel⟩
set_option maxRecDepth 20000 in
theorem xp_74 : q_XP 2 "java/lang/IllegalStateException" (vx_atS RX5 74 "java/lang/IllegalStateException" ["java/lang/RuntimeException", "java/lang/Exception"]) [.classLink RX5 70 "java/lang/IllegalStateException", .initialized "java/lang/IllegalStateException"] := ⟨rfl, by decide +kernel, by decide +kernel, by decide +kernel, by decide +kernel⟩
set_option maxRecDepth 20000 in
theorem xp_134 : q_XP 3 "java/lang/IndexOutOfBoundsException" (vx_atS RX5 134 "java/lang/IndexOutOfBoundsException" ["java/lang/RuntimeException", "java/lang/Exception"]) [.classLink RX5 130 "java/lang/IndexOutOfBoundsException", .initialized "java/lang/IndexOutOfBoundsException"] := ⟨rfl, by decide +kernel, by decide +kernel, by decide +kernel, by decide +kernel⟩
set_option maxRecDepth 20000 in
theorem xp_167 : q_XP 5 "java/lang/UnsupportedOperationException" (vx_atS RX5 167 "java/lang/UnsupportedOperationException" ["java/lang/RuntimeException", "java/lang/Exception"]) [.classLink RX5 163 "java/lang/UnsupportedOperationException", .initialized "java/lang/UnsupportedOperationException"] := ⟨rfl, by decide +kernel, by decide +kernel, by decide +kernel, by decide +kernel⟩
set_option maxRecDepth 20000 in
theorem xp_334 : q_XP 6 "java/lang/ArithmeticException" (vx_atS RX5 334 "java/lang/ArithmeticException" ["java/lang/RuntimeException", "java/lang/Exception"]) [.classLink RX5 330 "java/lang/ArithmeticException", .initialized "java/lang/ArithmeticException"] := ⟨rfl, by decide +kernel, by decide +kernel, by decide +kernel, by decide +kernel⟩
abbrev nx_X : String := "java/util/NoSuchElementException"
def nx_all : List Cond := (Bundle.ownAtoms RX5 149 "java/util/NoSuchElementException" ["java/lang/RuntimeException", "java/lang/Exception"]).filter nx_ok ++ Bundle.passSAtoms "java/util/NoSuchElementException" "java/lang/RuntimeException" 13 nx_six
theorem nx_0 : decode nx_six 0 = .ok (.aload_n 0, 1) := by decide +kernel
theorem nx_1 : decode nx_six 1 = .ok (.aload_n 1, 1) := by decide +kernel
theorem nx_2 : decode nx_six 2 = .ok (.invokespecial 13, 3) := by decide +kernel
theorem nx_5 : decode nx_six 5 = .ok (.return_, 1) := by decide +kernel
set_option maxRecDepth 100000 in
theorem nx_s1 : ∀ w ∈ Bundle.throwableAtoms, w ∈ nx_all := by decide +kernel
set_option maxRecDepth 100000 in
theorem nx_s2 : ∀ w ∈ Bundle.throwableSAtoms, w ∈ nx_all := by decide +kernel
set_option maxRecDepth 100000 in
theorem nx_s3 : ∀ w ∈ Bundle.chainSAtoms "java/lang/RuntimeException" ["java/lang/Exception"], w ∈ nx_all := by decide +kernel
theorem nx_s4 : ∀ w ∈ Bundle.passSAtoms "java/util/NoSuchElementException" "java/lang/RuntimeException" 13 nx_six, w ∈ nx_all := fun _ h => List.mem_append_right _ h
set_option maxRecDepth 100000 in
theorem nx_s5 : ∀ w ∈ ([.methodLink RX5 149 (Bundle.initS nx_X), .instantiable nx_X 6, .castable nx_X nx_X, .selects nx_X Bundle.tFill0 Bundle.tFill0, .selects nx_X Bundle.tFill Bundle.tFill, .lays nx_X Bundle.tN "cause" "Ljava/lang/Throwable;", .lays nx_X Bundle.tN "stackTrace" Bundle.steD, .lays nx_X Bundle.tN "suppressedExceptions" Bundle.listD, .lays nx_X Bundle.tN "detailMessage" "Ljava/lang/String;", .isRef (.static Bundle.tN "UNASSIGNED_STACK" Bundle.steD), .isRef (.static Bundle.tN "SUPPRESSED_SENTINEL" Bundle.listD), .fieldLink Bundle.tN 198 Bundle.tN "backtrace" "Ljava/lang/Object;", .lays Bundle.tN Bundle.tN "backtrace" "Ljava/lang/Object;", .lays nx_X Bundle.tN "backtrace" "Ljava/lang/Object;"] : List Cond), w ∈ nx_all := by decide +kernel
set_option maxHeartbeats 4000000 in
set_option maxRecDepth 100000 in
/-- the constructor of NoSuchElementException with a text, then athrow: by the library's rows for Throwable, the first link of the chain by its own entry -/
theorem nx_ctor {T0 : State} (X : Stand p l e R s m args below meth c T0 locs cells slots) (hexec : p.tables.exec = Jvm.exec) (htr : e.platform.stackTraces = false) (hown : s.vm.findClass RX5 = some m.cls) (h : ∀ w ∈ nx_all, w.before args s = true)
    (hlocs : ∀ z ∈ locs, ∀ cell, s.heap[z.base]? = some cell → cell.vm.isStatics = false) {a : Addr} {cX : ClassId} {kX : Class} (hfoundX : s.vm.findClass nx_X = some cX) (hkX : s.vm.classes[cX]? = some kX) (hcell : T0.heap[a]? = some (freshCell cX kX)) (hnew : s.heap.size ≤ a)
    {msg : Value} (hmsg : msg.isRef = true) {g : JFrame} (hg : g.method = m) (hsize : g.locals.size = c.maxLocals) (hlocked : g.locked = none) (hentered : g.entered = []) (hstack : g.stack = msg :: .ref a :: .ref a :: rest)
    (hd6 : decode c.code g.pc = .ok (.invokespecial 149, 3)) (hd9 : decode c.code (g.pc + 3) = .ok (.athrow, 1)) (hout : ∀ z ∈ c.exceptionTable.toList, covers z (g.pc + 3) = false)
    (hRframes : 5 < R.frames) (hRlocals : 2 * g.monitorRoom + ((Value.ref a :: rest).map fun v => v.category).sum + 81 ≤ R.locals) (hlocks : meth.locks = false) :
    ∃ U : State, Steps p.tables e below (T0.setTop g) U ∧ U.status = .running ∧ Ended U below (.threw a) ∧ s.WarmedH U.vm ∧ s.sameButNew ({ U with vm := s.vm } : State) locs cells slots ∧ ∃ ce, U.heap[a]? = some ce ∧ ce.vm = .none ∧ s.vm.findClass nx_X = some ce.cls := by
  have howns : e.platform.frameOwnsMonitors = true := by rw [X.admits.platform]
  have hfin : e.platform.finalization = false := by rw [X.admits.platform]
  have hpl : e.platform.magicAccessors = ({} : Platform).magicAccessors := by rw [X.admits.platform]
  have a5 : ∀ {w : Cond} (i : Nat), ([.methodLink RX5 149 (Bundle.initS nx_X), .instantiable nx_X 6, .castable nx_X nx_X, .selects nx_X Bundle.tFill0 Bundle.tFill0, .selects nx_X Bundle.tFill Bundle.tFill, .lays nx_X Bundle.tN "cause" "Ljava/lang/Throwable;", .lays nx_X Bundle.tN "stackTrace" Bundle.steD, .lays nx_X Bundle.tN "suppressedExceptions" Bundle.listD, .lays nx_X Bundle.tN "detailMessage" "Ljava/lang/String;", .isRef (.static Bundle.tN "UNASSIGNED_STACK" Bundle.steD), .isRef (.static Bundle.tN "SUPPRESSED_SENTINEL" Bundle.listD), .fieldLink Bundle.tN 198 Bundle.tN "backtrace" "Ljava/lang/Object;", .lays Bundle.tN Bundle.tN "backtrace" "Ljava/lang/Object;", .lays nx_X Bundle.tN "backtrace" "Ljava/lang/Object;"] : List Cond)[i]? = some w → w.before args s = true := fun i hi => h _ (nx_s5 _ (List.mem_of_getElem? hi))
  obtain ⟨T, Z0, L, -, Y⟩ := ThrowableC.of_atoms (args := args) howns hfin hpl (fun z hz => h z (nx_s1 z hz))
  obtain ⟨Z, M0, LZ, LM, hnZ⟩ := Init0T.ofS_atoms (args := args) hpl L Y (fun z hz => h z (nx_s2 z hz))
  obtain ⟨P2, Ps, hlen, L2, hL, hP2m, hlink2, hlink⟩ := Bundle.chainS (args := args) hpl hnZ ["java/lang/Exception"] "java/lang/RuntimeException" (by decide +kernel) (by decide +kernel) (fun z hz => h z (nx_s3 z hz))
  obtain ⟨P1, L1, hP1m, hP1s⟩ := PassC.ofS_atoms (args := args) (s := s) hpl (X := nx_X) (Y := "java/lang/RuntimeException") (by decide +kernel) (by decide +kernel) nx_0 nx_1 nx_2 nx_5 (fun z hz => h z (nx_s4 z hz))
  have hlink1 : P1.sup = P2.m := Option.some.inj (hP1s.symm.trans hP2m)
  have hfound : s.vm.findClass nx_X = some P1.m.cls := findClass_of_methodNamed hP1m
  cases Option.some.inj (hfoundX.symm.trans hfound)
  obtain ⟨c1, kX', hc1, hk, hord, -, -, hn6⟩ := Cond.instantiable_spec (a5 1 rfl)
  cases Option.some.inj (hc1.symm.trans hfound)
  cases Option.some.inj (hkX.symm.trans hk)
  have hsel0 : selectMethod e.platform s.vm P1.m.cls T.fill0 = .method T.fill0 := by
    obtain ⟨c2, r2, m2, q1, q2, q3, q4, -⟩ := Cond.selects_spec (a5 3 rfl)
    cases Option.some.inj (q1.symm.trans hfound)
    cases Option.some.inj (q2.symm.trans (State.methodFound?_of_named Y.fill0 (by decide)))
    cases Option.some.inj (q3.symm.trans Y.fill0)
    rw [Launch.admits_selectMethod X.admits]; exact q4
  have hselF : selectMethod e.platform s.vm P1.m.cls T.fill = .method T.fill := by
    obtain ⟨c2, r2, m2, q1, q2, q3, q4, -⟩ := Cond.selects_spec (a5 4 rfl)
    cases Option.some.inj (q1.symm.trans hfound)
    cases Option.some.inj (q2.symm.trans (State.methodFound?_of_named Y.fill (by decide)))
    cases Option.some.inj (q3.symm.trans Y.fill)
    rw [Launch.admits_selectMethod X.admits]; exact q4
  obtain ⟨cellS0, hcS0, hiss⟩ := Y.statics
  obtain ⟨u0, hu0⟩ := Cond.staticRefV Y.unassigned L.unassignedStatic L.statics hcS0 hiss (a5 9 rfl)
  obtain ⟨sen, hsen⟩ := Cond.staticRefV Y.sentinel L.sentinelStatic L.statics hcS0 hiss (a5 10 rfl)
  obtain ⟨ci198, i198, fB, hk198, hg198, ha198, hsB, -, hnB, htB, hffB⟩ := Cond.ownField (t := .object "java/lang/Object") Y.found L.cls (by decide +kernel) (a5 11 rfl) (a5 12 rfl) e.platform hpl
  obtain ⟨cellS, hcS', heS, -, hkeep⟩ := X.same.2.2.2.2.2 T.aS cellS0 hcS0
  have hcellS : T0.heap[T.aS]? = some cellS := hcS'
  have hout' : ∀ i, (⟨T.aS, i⟩ : Loc) ∉ locs := fun i hmem => by
    have := hlocs _ hmem cellS0 hcS0
    rw [hiss] at this; cases this
  have hknownS : cellS.vm ≠ .unknown := by
    rw [heS]; intro hu
    rw [show cellS0.vm = .unknown from hu] at hiss
    cases hiss
  have hneS : T.aS ≠ a := Nat.ne_of_lt (Nat.lt_of_lt_of_le (Array.getElem?_eq_some_iff.mp hcS0).1 hnew)
  obtain ⟨iM, hffM⟩ := Y.msg
  obtain ⟨tyC, dC, hdC, hdnC⟩ := Cond.laysAt hfound hk Y.cause (a5 5 rfl)
  obtain ⟨tyS, dS, hdS, hdnS⟩ := Cond.laysAt hfound hk Y.stack (a5 6 rfl)
  obtain ⟨tyP, dP, hdP, hdnP⟩ := Cond.laysAt hfound hk Y.supp (a5 7 rfl)
  obtain ⟨tyM, dM, hdM, hdnM⟩ := Cond.laysAt hfound hk hffM (a5 8 rfl)
  obtain ⟨tyB, dB, hdB, hdnB⟩ := Cond.laysAt hfound hk hffB (a5 13 rfl)
  have bC := Cond.laysApart hdB hdC hdnB hdnC (by rw [hnB, Y.causeName]; decide)
  have bS := Cond.laysApart hdB hdS hdnB hdnS (by rw [hnB, Y.stackName]; decide)
  have bP := Cond.laysApart hdB hdP hdnB hdnP (by rw [hnB, Y.suppName]; decide)
  have hskip : SkipFacts T e.platform s (fun u => u) u0 ((preparedCellV T.toThrowableT (freshCell P1.m.cls kX) a u0 sen).withEntry T0.cur) :=
    ⟨{ ci198 := ci198, i198 := i198, fBack := fB }, ⟨hk198, hg198, ha198, hsB⟩, by
      have := fresh_default (c := P1.m.cls) tyB
      rw [htB] at this
      simpa [preparedCellV, Cell.setSlot, Cell.withEntry, Array.getElem?_setIfInBounds, bC, bS, bP, bC.symm, bS.symm, bP.symm, defaultValue] using this, fun _ _ => rfl⟩
  obtain ⟨tm, methC, cdC, kC, vm₁, hnC, -, -, -, -, -, -, -, hW₁, st1⟩ := Steps.initColdS (tb := p.tables) (e := e) (below := below) (s := s) (U := T0) X.here hexec X.warmed hpl hown (t := Bundle.initS nx_X) rfl rfl (by decide +kernel)
    (a5 0 rfl) (h (.instanceMethod (Bundle.initS nx_X)) (nx_s4 _ (by simp [Bundle.passSAtoms]))) (bytes := nx_six) (maxL := 2) (h (.code (Bundle.initS nx_X) nx_six 2 none) (nx_s4 _ (by simp [Bundle.passSAtoms])))
    (f := g) hg (a := a) (msg := msg) (rest := .ref a :: rest) hstack hd6
  cases Option.some.inj (hnC.symm.trans hP1m)
  have X₁ := X.noted hW₁
  obtain ⟨vm₂, X₂, st2⟩ := X₁.ctorMessageOffV hexec (g := { g with stack := .ref a :: rest }) hg hsize T L Z LZ M0 LM (P1 :: P2 :: Ps)
    (fun P hP => by rcases List.mem_cons.mp hP with rfl | hP; exact L1; rcases List.mem_cons.mp hP with rfl | hP; exact L2; exact hL P hP) ⟨hlink1, hlink2, hlink⟩ (u0 := u0) (sen := sen) (self := a) hmsg (cell := freshCell P1.m.cls kX) (cellS := cellS)
    hcell (fun _ => by simp) (by simp) rfl rfl hsel0 hselF hcellS hneS hknownS (by rw [hkeep _ (hout' _)]; exact hu0) (by rw [hkeep _ (hout' _)]; exact hsen)
    (Takes.of_laid hk hord tyC (by rw [Y.causeType]; rfl)) (Takes.of_laid hk hord tyS (by rw [Y.stackType]; exact fits_refV_array _ u0)) (Takes.of_laid hk hord tyP (by rw [Y.suppType]; exact fits_refV_object _ sen))
    (Takes.of_laid hk hord tyM (by rw [Y.msgType]; exact fits_refV_object _ ⟨msg, hmsg⟩)) Y.objLocals hskip htr [] hd6
    (by simp only [List.length_cons, hlen]; simpa using hRframes) (by simp only [List.length_cons, hlen]; simpa using hRlocals)
  obtain ⟨hwalk, hrun, hended, hWU, hsame⟩ := X₂.athrowLeaves hexec (g := { g with stack := .ref a :: rest, pc := g.pc + 3 }) hg hlocked hentered hout (a := a) (rest := rest) rfl hd9 hlocks
  have hlt : a < ((T0.setVm vm₁).setVm vm₂).heap.size := (Array.getElem?_eq_some_iff.mp hcell).1
  have hU := heapAt_setCell_self (s := (T0.setVm vm₁).setVm vm₂) (plainBareV T.toThrowableT (freshCell P1.m.cls kX) a u0 sen msg) hlt
  refine ⟨_, st1 _ (fun acts => ?_), hrun, hended, hWU, hsame.weaken (fun y hy hlt' => ?_) (Nat.le_refl _) (Nat.le_refl _), _, hU, rfl, hfound⟩
  · rw [doInvoke_state]
    exact st2 _ hwalk
  · rcases List.mem_append.mp hy with h1 | h1
    · exact h1
    · exfalso
      have hb : y.base = a := by
        simp only [List.mem_cons, List.not_mem_nil, or_false] at h1
        rcases h1 with rfl | rfl | rfl | rfl | rfl <;> rfl
      rw [hb] at hlt'
      exact Nat.not_lt.mpr hnew hlt'
set_option maxHeartbeats 4000000 in
theorem nx_throw {wide : Bool} {ik is mc ms sa : Nat} {text : String} {A : Nat → Prop} {free : Addr → Prop} {Qc : Array Value → State → Outcome → State → Prop} {XC : String → State → State → Prop} (hexec : p.tables.exec = Jvm.exec) (hb : c.code = cc) (hl : l.stackTraces = false)
    (hown : s.vm.findClass RX5 = some m.cls) (hk : (Cond.classLink RX5 ik "java/util/NoSuchElementException").before args s = true) (hini : (Cond.initialized "java/util/NoSuchElementException").before args s = true) (hstr : vk_R RX5 is text sa s) (hat : ∀ w ∈ nx_at, w.before args s = true)
    (hgood : ∀ w ∈ Cond.classLink RX5 ik "java/util/NoSuchElementException" :: Cond.initialized "java/util/NoSuchElementException" :: nx_at, vx_ot w = true)
    (hU : vx_Zq Bundle.tN "UNASSIGNED_STACK" Bundle.steD A s s.heap) (hN : vx_Zq Bundle.tN "SUPPRESSED_SENTINEL" Bundle.listD A s s.heap) (hS : va_S A s.heap H locs) (hsize : ls.size = c.maxLocals)
    (d0 : decode cc pc = .ok (.new ik, 3)) (d3 : decode cc (pc + 3) = .ok (.dup, 1)) (d4 : decode cc (pc + 4) = .ok (if wide then (.ldc_w is, 3) else (.ldc is, 2))) (d6 : decode cc (pc + (if wide then 7 else 6)) = .ok (.invokespecial 149, 3)) (d9 : decode cc (pc + (if wide then 7 else 6) + 3) = .ok (.athrow, 1))
    (hout : ∀ z ∈ c.exceptionTable.toList, covers z (pc + (if wide then 7 else 6) + 3) = false)
    (hRframes : 5 < R.frames) (hRlocals : (rest.map fun v => v.category).sum + 82 ≤ R.locals) (hRcells : cells + 1 ≤ R.cells) (hRslots : slots + 6 ≤ R.slots) (hlocks : meth.locks = false)
    (hx : ∀ t : State, s.vm.Alike t.vm → H.size ≤ t.heap.size → (∀ q : Nat, q < H.size → t.heap[q]? = H[q]?) → XC "java/util/NoSuchElementException" s t)
    (hf : ∀ z ∈ locs, free z.base) (hc : cells + 1 ≤ mc) (hs : slots + 6 ≤ ms) :
    W p l e R s m args below meth c H locs cells slots (vx_MQ below Qc XC args s mc ms free) (F0 m pc ls rest) := by
  intro T hT X
  have htr : e.platform.stackTraces = false := (show e.platform.stackTraces = l.stackTraces by rw [X.admits.platform]).trans hl
  have Y := vx_rebase X (R' := { frames := R.frames, locals := R.locals, cells := 1, slots := 6 }) (Nat.le_refl _) (Nat.le_refl _) hRcells hRslots
  obtain ⟨s', hA⟩ : ∃ z, z = (T.setVm s.vm).setFrames (.invoking m args :: below) := ⟨_, rfl⟩
  rw [← hA] at Y
  have hvm : s'.vm = s.vm := by rw [hA]; rfl
  have hhp : s'.heap = H := by rw [hA]; exact hT
  have hW0 : s.WarmedH s'.vm := by rw [hvm]; exact State.WarmedH.refl s
  have hat' : ∀ w ∈ nx_at, w.before args s' = true := fun w hw => vx_ot_at hW0 hvm.symm (hgood w (List.mem_cons_of_mem _ (List.mem_cons_of_mem _ hw))) (hat w hw)
  have hk' : (Cond.classLink RX5 ik nx_X).before args s' = true := vx_ot_at hW0 hvm.symm (hgood _ List.mem_cons_self) hk
  have hini' : (Cond.initialized nx_X).before args s' = true := vx_ot_at hW0 hvm.symm (hgood _ (List.mem_cons_of_mem _ List.mem_cons_self)) hini
  have hU' : vx_Zq Bundle.tN "UNASSIGNED_STACK" Bundle.steD A s' s'.heap := by rw [hhp]; exact vx_Zq.moved hW0.alike (hU.kept hS.2.1)
  have hN' : vx_Zq Bundle.tN "SUPPRESSED_SENTINEL" Bundle.listD A s' s'.heap := by rw [hhp]; exact vx_Zq.moved hW0.alike (hN.kept hS.2.1)
  have h : ∀ w ∈ nx_all, w.before args s' = true := vx_own (L := nx_all) hat' (vx_isRefq hU'.1) (vx_isRefq hN'.1) hU'.2.word hN'.2.word
  have hown' : s'.vm.findClass RX5 = some m.cls := by rw [hvm]; exact hown
  have hins : (Cond.instantiable nx_X 6).before args s' = true := h _ (nx_s5 _ (List.mem_of_getElem? (i := 1) rfl))
  obtain ⟨vm₁, cX, kX, hfX, hkX, -, -, X₁, st1⟩ := Y.newCold hexec (own := RX5) (C := nx_X) (index := ik) (n := 6) hown' hk' hins hini'
    (g := F0 m pc ls rest) rfl (by rw [hb]; exact d0) (Nat.le_refl _) (Nat.le_refl _)
  generalize hT1 : (T.setVm vm₁).pushCell { cls := cX, slots := kX.instanceTypes.map defaultValue, vm := .none } = T1 at X₁ st1
  have hcat : (Value.ref T.heap.size).category = 1 := rfl
  have hcellA : T1.heap[T.heap.size]? = some (freshCell cX kX) := by rw [← hT1]; exact State.heap_pushCell_size _ _
  have d3' : decode c.code (pc + 3) = .ok (.dup, 1) := by rw [hb]; exact d3
  have hstr' : vk_R RX5 is text sa s' := vk_R.warm hW0 hstr
  have key : ∀ off : Nat, decode cc (pc + off) = .ok (.invokespecial 149, 3) → decode cc (pc + off + 3) = .ok (.athrow, 1) → (∀ z ∈ c.exceptionTable.toList, covers z (pc + off + 3) = false) →
      (∀ target, Steps p.tables e below (T1.setTop { method := m, pc := pc + off, locals := ls, stack := .ref sa :: .ref T.heap.size :: .ref T.heap.size :: rest, locked := none }) target → Steps p.tables e below (T1.setTop { method := m, pc := pc + 4, locals := ls, stack := .ref T.heap.size :: .ref T.heap.size :: rest, locked := none }) target) →
      ∃ t, Steps p.tables e below (T.setTop (F0 m pc ls rest)) t ∧ vx_MQ below Qc XC args s mc ms free t := by
    intro off e6 e9 eo hld
    obtain ⟨U, hsteps, hrun, hend, hW, hsame, ce, hce, hcv, hcl9⟩ := nx_ctor X₁ hexec htr hown' h (fun x hx => nomatch hx) hfX hkX hcellA (by rw [hhp, hT]; exact Nat.le_refl _) (msg := .ref sa) rfl
      (g := { method := m, pc := pc + off, locals := ls, stack := .ref sa :: .ref T.heap.size :: .ref T.heap.size :: rest, locked := none }) rfl hsize rfl rfl (rest := rest) rfl
      (by rw [hb]; exact e6) (by rw [hb]; exact e9) eo hRframes (by simp only [List.map_cons, List.sum_cons, hcat]; show 2 * 0 + _ + 81 ≤ R.locals; omega) hlocks
    obtain ⟨f1, f2⟩ := vx_frame hsame
    rw [hhp] at f1 f2
    have hWs : s.WarmedH U.vm := State.WarmedH.trans hW0 hW
    have hcl : s.vm.findClass nx_X = some ce.cls := by
      rw [hvm] at hcl9
      exact hcl9
    have hall : s.sameButNew ({ U with vm := s.vm } : State) locs mc ms := by
      subst hA
      obtain ⟨e1, e2⟩ := hsame
      rw [State.setFrames_setFrames] at e1
      have h2 : (T.setVm s.vm).sameButNew ({ U with vm := s.vm } : State) [] (0 + 1) (0 + 6) := ⟨e1, e2⟩
      have h3 := X.same.trans h2
      rw [List.append_nil] at h3
      exact h3.mono hc hs
    refine ⟨U, ?_, .threw T.heap.size, hrun, hend, Or.inr ⟨T.heap.size, rfl, nx_X, ce, locs, hx U hWs.alike f1 (fun q hq => f2 q hq (fun z hz => nomatch hz)), hce, hcv, hcl, hWs, hall, hf⟩⟩
    refine st1 _ ?_
    show Steps p.tables e below (T1.setTop { method := m, pc := pc + 3, locals := ls, stack := .ref T.heap.size :: rest, locked := none }) _
    jvm_step X₁.here [X₁.here.top, hexec, d3', Value.category]
    exact hld _ hsteps
  cases wide with
  | false =>
    exact key 6 d6 d9 hout (X₁.ldcString hexec (own := RX5) (text := text) (index := is) (a := sa) hown' hstr'.1 hstr'.2
      (g := { method := m, pc := pc + 4, locals := ls, stack := .ref T.heap.size :: .ref T.heap.size :: rest, locked := none }) rfl (by rw [hb]; exact d4))
  | true =>
    exact key 7 d6 d9 hout (X₁.ldcStringW hexec (own := RX5) (text := text) (index := is) (a := sa) hown' hstr'.1 hstr'.2
      (g := { method := m, pc := pc + 4, locals := ls, stack := .ref T.heap.size :: .ref T.heap.size :: rest, locked := none }) rfl (by rw [hb]; exact d4))
set_option maxRecDepth 20000 in
theorem xp_149 : q_XP 4 "java/util/NoSuchElementException" nx_at [.classLink RX5 145 "java/util/NoSuchElementException", .initialized "java/util/NoSuchElementException"] := ⟨rfl, by decide +kernel, by decide +kernel, by decide +kernel, by decide +kernel⟩
theorem q_thrN {β : Type} {g : β → Option Value} {ik is ic mq mz : Nat} {text : String} {r : Mem × (β ⊕ Nat)} (C0 : MX p l s m args meth c D cy ad cc RX5 nL Ts ret) (ht : ∀ z ∈ c.exceptionTable.toList, False) (hst : l.stackTraces = false) (hw : Wd D cy ad x s M H locs)
    (hp : q_XP 4 "java/util/NoSuchElementException" nx_at [.classLink RX5 ik "java/util/NoSuchElementException", .initialized "java/util/NoSuchElementException"]) (hk : Cond.classLink RX5 ik "java/util/NoSuchElementException" ∈ Ts) (hini : Cond.initialized "java/util/NoSuchElementException" ∈ Ts) (hs : (RX5, is, text) ∈ q_strs) (hat : ∀ w ∈ nx_at.filter goodWord, w ∈ Ts)
    (hls : ls.size = nL) (d0 : decode cc pc = .ok (.new ik, 3)) (d3 : decode cc (pc + 3) = .ok (.dup, 1)) (d4 : decode cc (pc + 4) = .ok (.ldc is, 2)) (d6 : decode cc (pc + 6) = .ok (.invokespecial 149, 3)) (d9 : decode cc (pc + 9) = .ok (.athrow, 1))
    (hR : 5 < R.frames ∧ (rest.map fun v => v.category).sum + 82 ≤ R.locals ∧ cells + 1 ≤ R.cells ∧ slots + 6 ≤ R.slots) (hm : cells + 1 ≤ mq ∧ slots + 6 ≤ mz) (h : some (M, (Sum.inr 4 : β ⊕ Nat)) = some r) (hic : ic = 149 := by rfl) :
    W p l e R s m args below meth c H locs cells slots (QT D cy ad below args s x g r mq mz) (F0 m pc ls rest) := by
  obtain ⟨hx, hb, hml, hown, hts, hr, hlk, hK, hZ, hV⟩ := C0
  obtain ⟨hn, hcls, hnm, hB, hg⟩ := hp
  obtain ⟨sa, hstr⟩ := hV.1 _ hs
  exact nx_throw (wide := false) (A := AA ad s.heap.size) hx hb hst hown (hts _ hk) (hts _ hini) hstr (vx_hat (fun w hw => hts _ (hat w hw)) hB hV.words) hg hZ.1 hZ.2 hw.2.2 (hls.trans hml.symm) d0 d3 d4 d6 d9 (fun z hz => (ht z hz).elim) hR.1 hR.2.1 hR.2.2.1 hR.2.2.2 hlk (fun t hvm hsz hq => q_thr_end hw h hsz hq) hw.2.2.2.2 hm.1 hm.2
theorem q_thrNW {β : Type} {g : β → Option Value} {ik is ic mq mz : Nat} {text : String} {r : Mem × (β ⊕ Nat)} (C0 : MX p l s m args meth c D cy ad cc RX5 nL Ts ret) (ht : ∀ z ∈ c.exceptionTable.toList, False) (hst : l.stackTraces = false) (hw : Wd D cy ad x s M H locs)
    (hp : q_XP 4 "java/util/NoSuchElementException" nx_at [.classLink RX5 ik "java/util/NoSuchElementException", .initialized "java/util/NoSuchElementException"]) (hk : Cond.classLink RX5 ik "java/util/NoSuchElementException" ∈ Ts) (hini : Cond.initialized "java/util/NoSuchElementException" ∈ Ts) (hs : (RX5, is, text) ∈ q_strs) (hat : ∀ w ∈ nx_at.filter goodWord, w ∈ Ts)
    (hls : ls.size = nL) (d0 : decode cc pc = .ok (.new ik, 3)) (d3 : decode cc (pc + 3) = .ok (.dup, 1)) (d4 : decode cc (pc + 4) = .ok (.ldc_w is, 3)) (d6 : decode cc (pc + 7) = .ok (.invokespecial 149, 3)) (d9 : decode cc (pc + 10) = .ok (.athrow, 1))
    (hR : 5 < R.frames ∧ (rest.map fun v => v.category).sum + 82 ≤ R.locals ∧ cells + 1 ≤ R.cells ∧ slots + 6 ≤ R.slots) (hm : cells + 1 ≤ mq ∧ slots + 6 ≤ mz) (h : some (M, (Sum.inr 4 : β ⊕ Nat)) = some r) (hic : ic = 149 := by rfl) :
    W p l e R s m args below meth c H locs cells slots (QT D cy ad below args s x g r mq mz) (F0 m pc ls rest) := by
  obtain ⟨hx, hb, hml, hown, hts, hr, hlk, hK, hZ, hV⟩ := C0
  obtain ⟨hn, hcls, hnm, hB, hg⟩ := hp
  obtain ⟨sa, hstr⟩ := hV.1 _ hs
  exact nx_throw (wide := true) (A := AA ad s.heap.size) hx hb hst hown (hts _ hk) (hts _ hini) hstr (vx_hat (fun w hw => hts _ (hat w hw)) hB hV.words) hg hZ.1 hZ.2 hw.2.2 (hls.trans hml.symm) d0 d3 d4 d6 d9 (fun z hz => (ht z hz).elim) hR.1 hR.2.1 hR.2.2.1 hR.2.2.2 hlk (fun t hvm hsz hq => q_thr_end hw h hsz hq) hw.2.2.2.2 hm.1 hm.2
end QR
