theorem caseL {F : Nat} {M1 M2 : Mem} {x2 : XX} {z : Int32} {y : Int64} {L : Option (Mem × (XX × Int32))} {m : Mem → Option (Mem × Int64)} (h1 : L = some (M1, (x2, z))) (h2 : m M1 = some (M2, y)) (h3 : M2 69 0 0 = z) (h4 : z = 0 → x2.1 = y) :
    (q_bw L fun M1 x2 z3 => q_lt (z3) fun z4 => q_bn (m M1) fun M5 z6 => q_lt (z6) fun z7 => q_bn (fX6_thrown F M5) fun M8 z9 => if z9 = z4 then (if z4 = (0 : Int32) then (if (lg_cmp (x2.1) z7) = (0 : Int32) then (some (M8, x2)) else (none)) else (some (M8, x2))) else (none)) = some (M2, x2) := by
  subst h1
  rw [q_bw_some, q_lt_e, h2, q_bn_some, q_lt_e]
  show (if M2 69 0 0 = z then _ else _) = _
  rw [if_pos h3]
  by_cases hz : z = 0
  · rw [if_pos hz, h4 hz, if_pos (lg_self _)]
  · rw [if_neg hz]
theorem k34 {F : Nat} {M : Mem} {x : XX} {s1 s2 s3 s4 s5 : Int32} (hF : 10000 ≤ F) (hi : Inv M) : ∃ r, fL_case34 F M x s1 s2 s3 s4 s5 = some r ∧ Inv r.1 := by
  obtain ⟨nc, np, nt, nw, ns, nv, nhd, nh, h⟩ := id hi
  have h60 := h.ver.le
  by_cases hr : isN nv s1
  · obtain ⟨q, hq1, hq2⟩ := isN_of (by omega) hr
    have hv := h.ver.v q hq1
    obtain ⟨u, hu, u1, u2, u3, -⟩ := hv.size
    obtain ⟨y, y0, y1, y2⟩ := e_bsum (F := F) (M := M) (M' := up M 69 0 0 0) hF (show q < 60 by omega) hu u1 u2 u3 u 0 F F 0 rfl (by omega) (by omega) (by omega)
    obtain ⟨z, hC, hM⟩ : ∃ z, fX5_packed F M s1 = some (M, Sum.inl z) ∧ fX6_packed F M s1 = some (up M 69 0 0 0, z) := by
      unfold fX5_packed fX6_packed fX6_packed_14
      rw [e_needVersion h.ver.a hr, q_bx_inl, e_isVersion h.ver.b (by omega) hr, q_bn_p, z10, q_lt_e, if_pos (show up M 69 0 0 0 69 0 0 ≤ 0 by rw [up_s]; decide), hq2, q_ax_n (show q < 60 by omega), show fX3_sumBytes F M q = some (M, y) from y1, show fX6_byteSumOf F (up M 69 0 0 0) (nI q) = some (up M 69 0 0 0, y) from y2, q_bn_p, q_bn_p]
      simp only [q_lt_e, q_ax_n (show q < 60 by omega), up_o (show 33 ≠ 69 by decide), up_o (show 34 ≠ 69 by decide), up_o (show 36 ≠ 69 by decide), ← hv.p.1, ← hv.t.1, ← hv.sav.1]
      exact ⟨_, rfl, rfl⟩
    exact ⟨_, caseL (m := fun M => fX6_packed F M s1) (by unfold fL_packed; rw [hC]; rfl) hM rfl (fun _ => rfl), inv_69 hi rfl⟩
  · have hC : fX5_packed F M s1 = some (M, Sum.inr 3) := by
      unfold fX5_packed
      rw [e_needVersionX h.ver.a hr, q_bx_inr]
    have hM : fX6_packed F M s1 = some (up M 69 0 0 1, 0) := by
      unfold fX6_packed fX6_packed_14
      rw [e_isVersionX h.ver.b (by omega) hr, q_bn_p, z00, q_lt_e, if_neg (show ¬ up M 69 0 0 1 69 0 0 ≤ 0 by rw [up_s]; decide)]
    exact ⟨_, caseL (m := fun M => fX6_packed F M s1) (by unfold fL_packed; rw [hC]; rfl) hM rfl (fun h => by cases h), inv_69 hi rfl⟩
theorem isS_n (y : Int32) : q_isS y.toInt16.toInt32 = true := by
  unfold q_isS
  simp
theorem e_s14 {F n n' i j : Nat} {M M' : Mem} {c v q : Int32} {k : Mem → Nat → Int32 → Int32 → Option (Mem × Int32)} {k' : Mem → Int32 → Int32 → Int32 → Option (Mem × Int32)} (hs : signC c) (hj : j < 40) (hc : M 22 i j = c) : ∃ y, q_isS y = true ∧ fX3_sumShorts_14 F k (n + 3) M i v (nI j) 0 = k M i y (nI (j + 1)) ∧ fX6_shortSum_54 F k' (n' + 3) M' q v (nI j) c 0 = k' M' q y (nI (j + 1)) := by
  obtain ⟨y0, a0, b0⟩ := e_part (F := F) (k := 0) hs (by decide)
  obtain ⟨y1, a1, b1⟩ := e_part (F := F) (k := 1) hs (by decide)
  have a0 : ∀ M : Mem, fX3_part F M c 0 = some (M, y0) := a0
  have b0 : ∀ M : Mem, fX6_charOf F M c 0 = some (M, y0) := b0
  have a1 : ∀ M : Mem, fX3_part F M c 1 = some (M, y1) := a1
  have b1 : ∀ M : Mem, fX6_charOf F M c 1 = some (M, y1) := b1
  have o1 : (0 : Int32) + 1 = 1 := by decide
  have o2 : (1 : Int32) + 1 = 2 := by decide
  have l1 : ¬ (1 : Int32) ≤ 0 := by decide
  have l2 : ¬ (2 : Int32) ≤ 0 := by decide
  have l3 : ¬ (2 : Int32) ≤ 1 := by decide
  have l4 : (1 : Int32) ≤ 1 := by decide
  have l5 : (2 : Int32) ≤ 2 := by decide
  have mc : ∀ w : Int32, 31 * w = w * 31 := fun w => Int32.mul_comm 31 w
  by_cases hw : c ≤ 65535
  · refine ⟨(v * 31 + y0).toInt16.toInt32, isS_n _, ?_, ?_⟩
    · simp only [fX3_sumShorts_14, q_ax_n hj, e_width, q_bn_p, hc, if_pos hw, if_neg l1, a0, q_lt_e, o1, if_pos l4, nI_1]
    · simp only [fX6_shortSum_54, e_charsOf, q_bn_p, if_pos hw, if_neg l1, b0, q_lt_e, o1, if_pos l4, nI_1, mc]
  · refine ⟨((v * 31 + y0).toInt16.toInt32 * 31 + y1).toInt16.toInt32, isS_n _, ?_, ?_⟩
    · simp only [fX3_sumShorts_14, q_ax_n hj, e_width, q_bn_p, hc, if_neg hw, if_neg l2, a0, q_lt_e, o1, if_neg l3, a1, o2, if_pos l5, nI_1]
    · simp only [fX6_shortSum_54, e_charsOf, q_bn_p, if_neg hw, if_neg l2, b0, q_lt_e, o1, if_neg l3, b1, o2, if_pos l5, nI_1, mc]
theorem e_ssum {F i u : Nat} {M M' : Mem} (hF : 10000 ≤ F) (hi : i < 60) (hu : u ≤ 40) (a : M 8 i 0 = nI u) (b : M' 37 0 i = nI u) (g : M' 69 0 0 = 0) (e : ∀ k, k < u → M 22 i k = M' 42 0 (40 * i + k) ∧ signC (M 22 i k)) : ∀ (d k n n' : Nat) (c : Int32), q_isS c = true → k + d = u → d < n → d < n' → ∃ y, q_isS y = true ∧ fX3_sumShorts_4 F n M i c (nI k) = some (M, y) ∧ fX6_shortSum_21 F n' M' (nI i) c (nI k) = some (M', y) := by
  intro d
  induction d with
  | zero =>
    intro k n n' c hB hk hn hn'
    obtain ⟨n, rfl⟩ := Nat.exists_eq_succ_of_ne_zero (Nat.ne_of_gt hn)
    obtain ⟨n', rfl⟩ := Nat.exists_eq_succ_of_ne_zero (Nat.ne_of_gt hn')
    have hle : nI u ≤ nI k := nI_le (by omega) (by omega)
    unfold fX3_sumShorts_4 fX6_shortSum_21 fX6_shortSum_90
    rw [if_pos g, q_ax_n hi, a, b, if_pos hle, if_pos hle, q_gd_t hB, q_gd_t hB]
    exact ⟨c, hB, rfl, rfl⟩
  | succ d ih =>
    intro k n n' c hB hk hn hn'
    obtain ⟨n, rfl⟩ := Nat.exists_eq_succ_of_ne_zero (Nat.ne_of_gt (Nat.lt_of_le_of_lt (Nat.zero_le _) hn))
    obtain ⟨n', rfl⟩ := Nat.exists_eq_succ_of_ne_zero (Nat.ne_of_gt (Nat.lt_of_le_of_lt (Nat.zero_le _) hn'))
    have hlt : ¬ nI u ≤ nI k := nI_ge (by omega) (by omega)
    obtain ⟨f, hf⟩ : ∃ f, F = f + 3 := ⟨F - 3, by omega⟩
    obtain ⟨y, y0, y1, y2⟩ := e_s14 (F := F) (n := f) (n' := f) (M := M) (M' := M') (i := i) (q := nI i) (v := c) (k := fX3_sumShorts_4 F n) (k' := fX6_shortSum_21 F n') (e k (by omega)).2 (show k < 40 by omega) rfl
    rw [← hf] at y1 y2
    unfold fX3_sumShorts_4 fX6_shortSum_21
    rw [if_pos g, q_ax_n hi, a, b, if_neg hlt, if_neg hlt, idx40, q_ax_n (show 40 * i + k < 2400 by omega), q_lt_e, q_lt_e, q_lt_e, y1, ← (e k (by omega)).1, y2]
    exact ih (k + 1) n n' y y0 (by omega) (by omega) (by omega)
theorem k33 {F : Nat} {M : Mem} {x : XX} {s1 s2 s3 s4 s5 : Int32} (hF : 10000 ≤ F) (hi : Inv M) : ∃ r, fL_case33 F M x s1 s2 s3 s4 s5 = some r ∧ Inv r.1 := by
  obtain ⟨nc, np, nt, nw, ns, nv, nhd, nh, h⟩ := id hi
  have h60 := h.ver.le
  by_cases hr : isN nv s1
  · obtain ⟨q, hq1, hq2⟩ := isN_of (by omega) hr
    obtain ⟨u, hu, u1, u2, u3, -⟩ := (h.ver.v q hq1).size
    obtain ⟨y, y0, y1, y2⟩ := e_ssum (F := F) (M := M) (M' := up M 69 0 0 0) hF (show q < 60 by omega) hu u1 u2 (up_s) u3 u 0 F F 0 rfl (by omega) (by omega) (by omega)
    have hC : fX5_shortSum F M s1 = some (M, Sum.inl y) := by
      unfold fX5_shortSum
      rw [e_needVersion h.ver.a hr, q_bx_inl, hq2, q_ax_n (show q < 60 by omega), show fX3_sumShorts F M q = some (M, y) from y1, q_bn_p, q_gd_t y0]
    have hM : fX6_shortSum F M s1 = some (up M 69 0 0 0, y) := by
      unfold fX6_shortSum fX6_shortSum_14
      rw [e_isVersion h.ver.b (by omega) hr, q_bn_p, z10, q_lt_e, q_lt_e, q_lt_e, hq2]
      exact y2
    exact ⟨_, caseA (m := fun M => fX6_shortSum F M s1) (by unfold fL_shortSum; rw [hC]; rfl) hM rfl (fun _ => rfl), inv_69 hi rfl⟩
  · have hC : fX5_shortSum F M s1 = some (M, Sum.inr 3) := by
      unfold fX5_shortSum
      rw [e_needVersionX h.ver.a hr, q_bx_inr]
    have hM : fX6_shortSum F M s1 = some (up M 69 0 0 1, 0) := by
      obtain ⟨n, rfl⟩ : ∃ n, F = n + 1 := ⟨F - 1, by omega⟩
      unfold fX6_shortSum fX6_shortSum_14
      rw [e_isVersionX h.ver.b (by omega) hr, q_bn_p, z00, q_lt_e, q_lt_e, q_lt_e, fX6_shortSum_21, if_neg (show ¬ up M 69 0 0 1 69 0 0 = 0 by rw [up_s]; decide)]
      rfl
    exact ⟨_, caseA (m := fun M => fX6_shortSum F M s1) (by unfold fL_shortSum; rw [hC]; rfl) hM rfl (fun h => by cases h), inv_69 hi rfl⟩
