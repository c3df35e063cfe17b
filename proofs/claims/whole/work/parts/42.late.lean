/-- how late a version was handed in, on both sides -/
theorem e_own {F nc np nt nw ns nv nhd nh a : Nat} {M : Mem} (h : InvN M nc np nt nw ns nv nhd nh) (ha : a < nv) : ∃ w, w < 2 ^ 31 ∧ fX5_minutesBehindDue F M (M 11 a 0) (M 14 a 0) = some (M, nI w) ∧ fX6_ownLate F M (nI a) = some (M, nI w) := by
  have h60 := h.ver.le
  have h10 := h.tsk.le
  have h4 := h.cls.le
  have hv := h.ver.v a ha
  obtain ⟨e1, t, ht, e2⟩ := hv.t
  obtain ⟨t1, t2, -, -, -⟩ := h.tsk.t t ht
  obtain ⟨⟨r, hr, e3⟩, -⟩ := h.tsk.rg t ht
  obtain ⟨o1, -, -⟩ := h.cls.off r hr
  unfold fX5_minutesBehindDue fX6_ownLate
  have e34 : M 34 0 a = nI t := by rw [← e1]; exact e2
  rw [e2, q_ax_n (show t < 10 by omega), e3, q_ax_n (show r < 4 by omega), q_ax_n (show a < 60 by omega), q_ax_n (show a < 60 by omega), e34, q_ax_n (show t < 10 by omega), ← t1, e3, q_ax_n (show r < 4 by omega), q_ax_n (show a < 60 by omega), e34, q_ax_n (show t < 10 by omega), ← hv.hnd, ← o1, ← t2]
  generalize M 14 a 0 + M 20 0 r - M 51 t 0 = y
  unfold fX6_greater fX6_greater_10
  by_cases hy : (0 : Int32) < y
  · obtain ⟨w, hw, ew⟩ := nI_of (x := y) (fun h9 => Int32.lt_irrefl (Int32.lt_trans h9 hy))
    refine ⟨w, hw, ?_, ?_⟩
    · rw [if_pos hy, ew]
    · rw [if_pos (Int32.le_of_lt hy), q_bn_p, ew]
  · refine ⟨0, by decide, ?_, ?_⟩
    · rw [if_neg hy]
      rfl
    · by_cases h0 : (0 : Int32) ≤ y
      · rw [if_pos h0, q_bn_p, show y = 0 from Int32.le_antisymm (Int32.not_lt.mp hy) h0]
        rfl
      · rw [if_neg h0, q_bn_p]
        rfl
theorem nI_if {v w : Nat} (hv : v < 2 ^ 31) (hw : w < 2 ^ 31) : (if nI w < nI v then nI w else nI v) = nI (if w < v then w else v) := by
  by_cases h : w < v
  · rw [if_pos h, if_pos (nI_lt h hv)]
  · rw [if_neg h, if_neg (nI_nlt (by omega) (by omega))]
theorem e_lesser {F v w : Nat} {M : Mem} (hv : v < 2 ^ 31) (hw : w < 2 ^ 31) : fX6_lesser F M (nI v) (nI w) = some (M, nI (if w < v then w else v)) := by
  unfold fX6_lesser fX6_lesser_10
  by_cases h : w ≤ v
  · rw [if_pos (nI_le h hv)]
    by_cases h2 : w < v
    · rw [if_pos h2]
    · rw [if_neg h2, show w = v by omega]
  · rw [if_neg (nI_ge (by omega) hw), if_neg (show ¬ w < v by omega)]
/-- the ancestors' lateness: parents go down -/
theorem e_up {F nc np nt nw ns nv nhd nh a u : Nat} {M : Mem} (hF : 10000 ≤ F) (h : InvN M nc np nt nw ns nv nhd nh) (ha : a < nv) (hu : M 44 0 a = nI u) : ∀ (b s n n' v : Nat) (p : Int32), (p = -1 ∨ ∃ q, q < b ∧ p = nI q) → b + s ≤ 60 → b < n → b < n' → b ≤ nv → v < 2 ^ 31 → ∃ y, y < 2 ^ 31 ∧ fX5_leastLate_32 F n M a (nI v) (nI u / 2) p (nI s) = some (M, nI y) ∧ fX6_lateOf_13 F n' M (nI a) (nI v) p = some (M, nI y) := by
  have h60 := h.ver.le
  have hstop : ∀ (s n n' v : Nat), 0 < n → 0 < n' → fX5_leastLate_32 F n M a (nI v) (nI u / 2) (-1) (nI s) = some (M, nI v) ∧ fX6_lateOf_13 F n' M (nI a) (nI v) (-1) = some (M, nI v) := fun s n n' v hn hn' => by
    obtain ⟨n, rfl⟩ := Nat.exists_eq_succ_of_ne_zero (Nat.ne_of_gt hn)
    obtain ⟨n', rfl⟩ := Nat.exists_eq_succ_of_ne_zero (Nat.ne_of_gt hn')
    refine ⟨?_, ?_⟩
    · rw [fX5_leastLate_32, if_pos rfl, ite_self]
      rfl
    · rw [fX6_lateOf_13, if_pos rfl]
  intro b
  induction b with
  | zero =>
    intro s n n' v p hp hs hn hn' hb hv
    rcases hp with rfl | ⟨q, hq, -⟩
    · obtain ⟨g1, g2⟩ := hstop s n n' v (by omega) (by omega)
      exact ⟨v, hv, g1, g2⟩
    · omega
  | succ b ih =>
    intro s n n' v p hp hs hn hn' hb hv
    rcases hp with rfl | ⟨q, hq, rfl⟩
    · obtain ⟨g1, g2⟩ := hstop s n n' v (by omega) (by omega)
      exact ⟨v, hv, g1, g2⟩
    · obtain ⟨n, rfl⟩ := Nat.exists_eq_succ_of_ne_zero (Nat.ne_of_gt (Nat.lt_of_le_of_lt (Nat.zero_le _) hn))
      obtain ⟨n', rfl⟩ := Nat.exists_eq_succ_of_ne_zero (Nat.ne_of_gt (Nat.lt_of_le_of_lt (Nat.zero_le _) hn'))
      have hqv : q < nv := by omega
      have hv1 := h.ver.v q hqv
      have hpar : M 12 q 0 = -1 ∨ ∃ q', q' < b ∧ M 12 q 0 = nI q' := by
        rcases hv1.par.2 with e | ⟨q', hq', e⟩
        · exact Or.inl e
        · exact Or.inr ⟨q', by omega, e⟩
      have hI := fun v' hv' => ih (s + 1) n n' v' (M 12 q 0) hpar (by omega) (by omega) (by omega) (by omega) hv'
      have hs60 : ¬ (60 : Int32) ≤ nI s := nI_ge (b := 60) (by omega) (by decide)
      obtain ⟨w, hw, w1, w2⟩ := e_own (F := F) h hqv
      rw [fX5_leastLate_32, fX6_lateOf_13, if_neg hs60, if_neg (nI_nm1 (by omega)), if_neg (nI_nm1 (by omega)), q_ax_n (show q < 60 by omega), q_ax_n (show q < 60 by omega), e_isThere hv1 h.clk.le, q_bn_p]
      unfold fX5_leastLate_97 fX6_lateOf_55
      simp only [q_lt_e, nI_1, q_ax_n (show q < 60 by omega), q_ax_n (show a < 60 by omega), ← hv1.par.1]
      by_cases hin : M 38 0 q = 1
      · rw [if_pos hin, if_pos hin, z10, e_ccV hF h.ver hqv ha, q_bn_p, e_cmV hF h.ver ha hqv rfl rfl, q_bn_p, hu, cmn_comm (a := a) (b := q)]
        by_cases hc : nI (cmn M q a) < nI u / 2
        · rw [if_pos hc, if_pos hc, ← hv1.par.1]
          exact hI v hv
        · rw [if_neg hc, if_neg hc, w1, q_bn_p, w2, q_bn_p, e_lesser hv hw, q_bn_p, nI_if hv hw, ← hv1.par.1]
          exact hI (if w < v then w else v) (by split <;> omega)
      · rw [if_neg hin, if_neg hin, z00]
        exact hI v hv
theorem e_late {F nc np nt nw ns nv nhd nh a : Nat} {M : Mem} (hF : 10000 ≤ F) (h : InvN M nc np nt nw ns nv nhd nh) (ha : a < nv) : ∃ y, y < 2 ^ 31 ∧ fX5_leastLate F M a = some (M, nI y) ∧ fX6_lateOf F M (nI a) = some (M, nI y) := by
  have h60 := h.ver.le
  have hv := h.ver.v a ha
  obtain ⟨u, hu, hB, g1, -⟩ := ver_bag h.ver ha
  obtain ⟨w, hw, w1, w2⟩ := e_own (F := F) h ha
  have hpar : M 12 a 0 = -1 ∨ ∃ q', q' < a ∧ M 12 a 0 = nI q' := by
    rcases hv.par.2 with e | ⟨q', hq', e⟩
    · exact Or.inl e
    · exact Or.inr ⟨q', hq', e⟩
  obtain ⟨y, y0, y1, y2⟩ := e_up hF h ha g1 a 0 F F w (M 12 a 0) hpar (by omega) (by omega) (by omega) (by omega) hw
  refine ⟨y, y0, ?_, ?_⟩
  · unfold fX5_leastLate
    rw [w1, q_bn_p, q_lt_e, q_lt_e, q_lt_e, q_lt_e, hB.a]
    exact y1
  · unfold fX6_lateOf
    rw [w2, q_bn_p, q_lt_e, q_ax_n (show a < 60 by omega), q_lt_e, ← hv.par.1]
    exact y2
theorem k17 {F : Nat} {M : Mem} {x : XX} {s1 s2 s3 s4 s5 : Int32} (hF : 10000 ≤ F) (hi : Inv M) : ∃ r, fL_case17 F M x s1 s2 s3 s4 s5 = some r ∧ Inv r.1 := by
  obtain ⟨nc, np, nt, nw, ns, nv, nhd, nh, h⟩ := id hi
  have h60 := h.ver.le
  by_cases hr : isN nv s1
  · obtain ⟨q, hq1, hq2⟩ := isN_of (by omega) hr
    by_cases hin : M 38 0 q = 1
    · obtain ⟨y, -, y1, y2⟩ := e_late (F := F) hF h hq1
      have hC : fX5_late F M s1 = some (M, Sum.inl (nI y)) := by
        unfold fX5_late
        rw [e_needVersion h.ver.a hr, q_bx_inl, hq2, q_ax_n (show q < 60 by omega), e_isThere (h.ver.v q hq1) h.clk.le, q_bn_p, if_pos hin, z10, q_ax_n (show q < 60 by omega), y1, q_bn_p]
      have hM : fX6_late F M s1 = some (up M 69 0 0 0, nI y) := by
        unfold fX6_late
        rw [e_isVersion h.ver.b (by omega) hr, q_bn_p, z10, hq2, q_ax_n (show q < 60 by omega), if_pos hin, y2, q_bn_p]
        rfl
      exact ⟨_, caseA (m := fun M => fX6_late F M s1) (by unfold fL_late; rw [hC]; rfl) hM rfl (fun _ => rfl), inv_69 hi rfl⟩
    · have hC : fX5_late F M s1 = some (M, Sum.inr 5) := by
        unfold fX5_late
        rw [e_needVersion h.ver.a hr, q_bx_inl, hq2, q_ax_n (show q < 60 by omega), e_isThere (h.ver.v q hq1) h.clk.le, q_bn_p, if_neg hin, z00]
      have hM : fX6_late F M s1 = some (up M 69 0 0 2, 0) := by
        unfold fX6_late
        rw [e_isVersion h.ver.b (by omega) hr, q_bn_p, z10, hq2, q_ax_n (show q < 60 by omega), if_neg hin]
        rfl
      exact ⟨_, caseA (m := fun M => fX6_late F M s1) (by unfold fL_late; rw [hC]; rfl) hM rfl (fun h => by cases h), inv_69 hi rfl⟩
  · have hC : fX5_late F M s1 = some (M, Sum.inr 3) := by
      unfold fX5_late
      rw [e_needVersionX h.ver.a hr, q_bx_inr]
    have hM : fX6_late F M s1 = some (up M 69 0 0 1, 0) := by
      unfold fX6_late
      rw [e_isVersionX h.ver.b (by omega) hr, q_bn_p, z00]
      rfl
    exact ⟨_, caseA (m := fun M => fX6_late F M s1) (by unfold fL_late; rw [hC]; rfl) hM rfl (fun h => by cases h), inv_69 hi rfl⟩
