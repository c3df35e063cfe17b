def sgn (j : Nat) : Nat := if j < 26 then 97 + j else if j = 26 then 32 else 128512 + (j - 27)
theorem sgn_of {c : Int32} (h : signC c) : ∃ j : Fin 107, c = nI (sgn j.val) := by
  rcases signC_r.mp h with h1 | rfl | h1
  · obtain ⟨q, q1, q2, rfl⟩ := inR_of (lo := 97) (hi := 122) (by decide) h1 (by decide)
    refine ⟨⟨q - 97, by omega⟩, congrArg nI ?_⟩
    unfold sgn
    rw [if_pos (by show q - 97 < 26; omega)]
    show q = 97 + (q - 97)
    omega
  · exact ⟨⟨26, by decide⟩, rfl⟩
  · obtain ⟨q, q1, q2, rfl⟩ := inR_of (lo := 128512) (hi := 128591) (by decide) h1 (by decide)
    refine ⟨⟨q - 128512 + 27, by omega⟩, congrArg nI ?_⟩
    unfold sgn
    rw [if_neg (by show ¬ q - 128512 + 27 < 26; omega), if_neg (by show ¬ q - 128512 + 27 = 26; omega)]
    show q = 128512 + (q - 128512 + 27 - 27)
    omega
def pv (c k : Int32) : Option Int32 := (fX3_part 0 M0 c k).map (fun r => r.2)
def cv (c k : Int32) : Option Int32 := (fX6_charOf 0 M0 c k).map (fun r => r.2)
theorem pv_e {F : Nat} {M : Mem} {c k : Int32} : fX3_part F M c k = (pv c k).map (fun y => (M, y)) := by
  unfold pv fX3_part fX3_part_36 q_gd
  simp only [q_lt_e]
  by_cases h1 : 65535 < c
  · simp only [if_pos h1]
    by_cases h2 : k = 0
    · simp only [if_pos h2]
      split <;> rfl
    · simp only [if_neg h2]
      split <;> rfl
  · simp only [if_neg h1]
    split <;> rfl
theorem cv_e {F : Nat} {M : Mem} {c k : Int32} : fX6_charOf F M c k = (cv c k).map (fun y => (M, y)) := by
  unfold cv fX6_charOf fX6_charOf_36
  simp only [q_lt_e]
  by_cases h1 : 65535 < c
  · simp only [if_pos h1]
    by_cases h2 : k = 0
    · simp only [if_pos h2]
      rfl
    · simp only [if_neg h2]
      rfl
  · simp only [if_neg h1]
    rfl
theorem pc_all : ∀ j : Fin 107, ∀ k : Fin 2, (pv (nI (sgn j.val)) (nI k.val)).isSome = true ∧ pv (nI (sgn j.val)) (nI k.val) = cv (nI (sgn j.val)) (nI k.val) := by decide +kernel
/-- both sides read the same char out of a sign -/
theorem e_part {F : Nat} {c : Int32} {k : Nat} (h : signC c) (hk : k < 2) : ∃ y, (∀ M : Mem, fX3_part F M c (nI k) = some (M, y)) ∧ ∀ M : Mem, fX6_charOf F M c (nI k) = some (M, y) := by
  obtain ⟨j, rfl⟩ := sgn_of h
  obtain ⟨h1, h2⟩ := pc_all j ⟨k, hk⟩
  obtain ⟨y, hy⟩ := Option.isSome_iff_exists.mp h1
  refine ⟨y, fun M => ?_, fun M => ?_⟩
  · rw [pv_e, show pv (nI (sgn j.val)) (nI k) = some y from hy]
    rfl
  · rw [cv_e, show cv (nI (sgn j.val)) (nI k) = some y from h2 ▸ hy]
    rfl
theorem isB_n (y : Int32) : q_isB y.toInt8.toInt32 = true := by
  unfold q_isB
  simp
theorem e_b14 {F n n' i j : Nat} {M M' : Mem} {c v q : Int32} {k : Mem → Nat → Int32 → Int32 → Option (Mem × Int32)} {k' : Mem → Int32 → Int32 → Int32 → Option (Mem × Int32)} (hs : signC c) (hj : j < 40) (hc : M 22 i j = c) : ∃ y, q_isB y = true ∧ fX3_sumBytes_14 F k (n + 3) M i v (nI j) 0 = k M i y (nI (j + 1)) ∧ fX6_byteSumOf_30 F k' (n' + 3) M' q v (nI j) c 0 = k' M' q y (nI (j + 1)) := by
  obtain ⟨y0, a0, b0⟩ := e_part (F := F) (k := 0) hs (by decide)
  obtain ⟨y1, a1, b1⟩ := e_part (F := F) (k := 1) hs (by decide)
  have a0 : ∀ M : Mem, fX3_part F M c 0 = some (M, y0) := a0
  have b0 : ∀ M : Mem, fX6_charOf F M c 0 = some (M, y0) := b0
  have a1 : ∀ M : Mem, fX3_part F M c 1 = some (M, y1) := a1
  have b1 : ∀ M : Mem, fX6_charOf F M c 1 = some (M, y1) := b1
  have o1 : (0 : Int32) + 1 = 1 := by decide
  have o2 : (1 : Int32) + 1 = 2 := by decide
  have l1 : ¬ (1 : Int32) ≤ 0 := by decide
  have l2 : ¬ (2 : Int32) ≤ 0 := by decide
  have l3 : ¬ (2 : Int32) ≤ 1 := by decide
  have l4 : (1 : Int32) ≤ 1 := by decide
  have l5 : (2 : Int32) ≤ 2 := by decide
  by_cases hw : c ≤ 65535
  · refine ⟨(v + y0).toInt8.toInt32, isB_n _, ?_, ?_⟩
    · simp only [fX3_sumBytes_14, q_ax_n hj, e_width, q_bn_p, hc, if_pos hw, if_neg l1, a0, q_lt_e, o1, if_pos l4, nI_1]
    · simp only [fX6_byteSumOf_30, e_charsOf, q_bn_p, if_pos hw, if_neg l1, b0, q_lt_e, o1, if_pos l4, nI_1]
  · refine ⟨((v + y0).toInt8.toInt32 + y1).toInt8.toInt32, isB_n _, ?_, ?_⟩
    · simp only [fX3_sumBytes_14, q_ax_n hj, e_width, q_bn_p, hc, if_neg hw, if_neg l2, a0, q_lt_e, o1, if_neg l3, a1, o2, if_pos l5, nI_1]
    · simp only [fX6_byteSumOf_30, e_charsOf, q_bn_p, if_neg hw, if_neg l2, b0, q_lt_e, o1, if_neg l3, b1, o2, if_pos l5, nI_1]
theorem e_bsum {F i u : Nat} {M M' : Mem} (hF : 10000 ≤ F) (hi : i < 60) (hu : u ≤ 40) (a : M 8 i 0 = nI u) (b : M' 37 0 i = nI u) (e : ∀ k, k < u → M 22 i k = M' 42 0 (40 * i + k) ∧ signC (M 22 i k)) : ∀ (d k n n' : Nat) (c : Int32), q_isB c = true → k + d = u → d < n → d < n' → ∃ y, q_isB y = true ∧ fX3_sumBytes_4 F n M i c (nI k) = some (M, y) ∧ fX6_byteSumOf_4 F n' M' (nI i) c (nI k) = some (M', y) := by
  intro d
  induction d with
  | zero =>
    intro k n n' c hB hk hn hn'
    obtain ⟨n, rfl⟩ := Nat.exists_eq_succ_of_ne_zero (Nat.ne_of_gt hn)
    obtain ⟨n', rfl⟩ := Nat.exists_eq_succ_of_ne_zero (Nat.ne_of_gt hn')
    have hle : nI u ≤ nI k := nI_le (by omega) (by omega)
    unfold fX3_sumBytes_4 fX6_byteSumOf_4
    rw [q_ax_n hi, a, b, if_pos hle, if_pos hle, q_gd_t hB, q_gd_t hB]
    exact ⟨c, hB, rfl, rfl⟩
  | succ d ih =>
    intro k n n' c hB hk hn hn'
    obtain ⟨n, rfl⟩ := Nat.exists_eq_succ_of_ne_zero (Nat.ne_of_gt (Nat.lt_of_le_of_lt (Nat.zero_le _) hn))
    obtain ⟨n', rfl⟩ := Nat.exists_eq_succ_of_ne_zero (Nat.ne_of_gt (Nat.lt_of_le_of_lt (Nat.zero_le _) hn'))
    have hlt : ¬ nI u ≤ nI k := nI_ge (by omega) (by omega)
    obtain ⟨f, hf⟩ : ∃ f, F = f + 3 := ⟨F - 3, by omega⟩
    obtain ⟨y, y0, y1, y2⟩ := e_b14 (F := F) (n := f) (n' := f) (M := M) (M' := M') (i := i) (q := nI i) (v := c) (k := fX3_sumBytes_4 F n) (k' := fX6_byteSumOf_4 F n') (e k (by omega)).2 (show k < 40 by omega) rfl
    rw [← hf] at y1 y2
    unfold fX3_sumBytes_4 fX6_byteSumOf_4
    rw [q_ax_n hi, a, b, if_neg hlt, if_neg hlt, idx40, q_ax_n (show 40 * i + k < 2400 by omega), q_lt_e, q_lt_e, q_lt_e, y1, ← (e k (by omega)).1, y2]
    exact ih (k + 1) n n' y y0 (by omega) (by omega) (by omega)
theorem k32 {F : Nat} {M : Mem} {x : XX} {s1 s2 s3 s4 s5 : Int32} (hF : 10000 ≤ F) (hi : Inv M) : ∃ r, fL_case32 F M x s1 s2 s3 s4 s5 = some r ∧ Inv r.1 := by
  obtain ⟨nc, np, nt, nw, ns, nv, nhd, nh, h⟩ := id hi
  have h60 := h.ver.le
  by_cases hr : isN nv s1
  · obtain ⟨q, hq1, hq2⟩ := isN_of (by omega) hr
    obtain ⟨u, hu, u1, u2, u3, -⟩ := (h.ver.v q hq1).size
    obtain ⟨y, y0, y1, y2⟩ := e_bsum (F := F) (M := M) (M' := up M 69 0 0 0) hF (show q < 60 by omega) hu u1 u2 u3 u 0 F F 0 rfl (by omega) (by omega) (by omega)
    have hC : fX5_byteSum F M s1 = some (M, Sum.inl y) := by
      unfold fX5_byteSum
      rw [e_needVersion h.ver.a hr, q_bx_inl, hq2, q_ax_n (show q < 60 by omega), show fX3_sumBytes F M q = some (M, y) from y1, q_bn_p, q_gd_t y0]
    have hM : fX6_byteSum F M s1 = some (up M 69 0 0 0, y) := by
      unfold fX6_byteSum fX6_byteSum_14
      rw [e_isVersion h.ver.b (by omega) hr, q_bn_p, z10, q_lt_e, if_pos (show up M 69 0 0 0 69 0 0 ≤ 0 by rw [up_s]; decide), hq2, show fX6_byteSumOf F (up M 69 0 0 0) (nI q) = some (up M 69 0 0 0, y) from y2, q_bn_p]
      unfold fX6_byteSum_33
      rw [q_gd_t y0]
    exact ⟨_, caseA (m := fun M => fX6_byteSum F M s1) (by unfold fL_byteSum; rw [hC]; rfl) hM rfl (fun _ => rfl), inv_69 hi rfl⟩
  · have hC : fX5_byteSum F M s1 = some (M, Sum.inr 3) := by
      unfold fX5_byteSum
      rw [e_needVersionX h.ver.a hr, q_bx_inr]
    have hM : fX6_byteSum F M s1 = some (up M 69 0 0 1, 0) := by
      unfold fX6_byteSum fX6_byteSum_14
      rw [e_isVersionX h.ver.b (by omega) hr, q_bn_p, z00, q_lt_e, if_neg (show ¬ up M 69 0 0 1 69 0 0 ≤ 0 by rw [up_s]; decide)]
      rfl
    exact ⟨_, caseA (m := fun M => fX6_byteSum F M s1) (by unfold fL_byteSum; rw [hC]; rfl) hM rfl (fun h => by cases h), inv_69 hi rfl⟩
