/-! the mean mark -/
theorem e_mm17 {F nc np nt nw ns nv nhd nh p : Nat} {M : Mem} {k6 : Mem → Int32 → Int32 → Int32 → Option (Mem × (UInt64 ⊕ Nat))} {k6' : Mem → Int32 → Int32 → Int32 → Option (Mem × UInt64)} (hF : 10000 ≤ F) (h : InvN M nc np nt nw ns nv nhd nh) (hp : p < np) : ∀ (d t n n' c : Nat) (s : Int32), t + d = nt → d < n → d < n' → ∃ (s' : Int32) (c' : Nat), c' ≤ c + d ∧ fX5_meanMark_17 F k6 n M s (nI c) (nI p) (nI t) = k6 M s' (nI c') (nI (p + 1)) ∧ fX6_meanMark_17 F k6' n' M s (nI c) (nI p) (nI t) = k6' M s' (nI c') (nI (p + 1)) := by
  have h10 := h.tsk.le
  have h12 := h.pup.le
  intro d
  induction d with
  | zero =>
    intro t n n' c s ht hn hn'
    obtain ⟨n, rfl⟩ := Nat.exists_eq_succ_of_ne_zero (Nat.ne_of_gt hn)
    obtain ⟨n', rfl⟩ := Nat.exists_eq_succ_of_ne_zero (Nat.ne_of_gt hn')
    refine ⟨s, c, by omega, ?_, ?_⟩
    · rw [fX5_meanMark_17, h.tsk.a, if_pos (nI_le (by omega) (by omega)), q_lt_e, nI_1]
    · rw [fX6_meanMark_17, h.tsk.b, if_pos (nI_le (by omega) (by omega)), q_lt_e, nI_1]
  | succ d ih =>
    intro t n n' c s ht hn hn'
    obtain ⟨n, rfl⟩ := Nat.exists_eq_succ_of_ne_zero (Nat.ne_of_gt (Nat.lt_of_le_of_lt (Nat.zero_le _) hn))
    obtain ⟨n', rfl⟩ := Nat.exists_eq_succ_of_ne_zero (Nat.ne_of_gt (Nat.lt_of_le_of_lt (Nat.zero_le _) hn'))
    have htn : t < nt := by omega
    obtain ⟨t1, -⟩ := h.tsk.t t htn
    obtain ⟨p1, -⟩ := h.pup.cls p hp
    obtain ⟨z, hz, z1, z2⟩ := e_fz (M' := M) (p := nI p) (t := nI t) hF h (fun v _ => rfl)
    obtain ⟨y, y1, y2⟩ := e_mark (F := F) hF h hp htn
    rw [fX5_meanMark_17, fX6_meanMark_17, h.tsk.a, h.tsk.b, if_neg (nI_ge (by omega) (by omega)), if_neg (nI_ge (by omega) (by omega)), q_ax_n (show t < 10 by omega), q_ax_n (show t < 10 by omega), q_ax_n (show p < 12 by omega), q_ax_n (show p < 12 by omega), ← t1, ← p1]
    unfold fX5_meanMark_68 fX6_meanMark_65
    by_cases hr : M 50 t 0 = M 21 0 p
    · rw [if_pos hr, if_pos hr, z1, z2, q_bn_p, q_bn_p]
      rcases hz with rfl | rfl
      · rw [z00, z00, y1, y2, q_bn_p, q_bn_p, q_lt_e, q_lt_e, q_lt_e, q_lt_e, q_lt_e, q_lt_e, nI_1, nI_1]
        obtain ⟨s', c', b1, b2, b3⟩ := ih (t + 1) n n' (c + 1) (s + y) (by omega) (by omega) (by omega)
        exact ⟨s', c', by omega, b2, b3⟩
      · rw [z10, z10, q_lt_e, q_lt_e, nI_1]
        obtain ⟨s', c', b1, b2, b3⟩ := ih (t + 1) n n' c s (by omega) (by omega) (by omega)
        exact ⟨s', c', by omega, b2, b3⟩
    · rw [if_neg hr, if_neg hr, q_lt_e, q_lt_e, nI_1]
      obtain ⟨s', c', b1, b2, b3⟩ := ih (t + 1) n n' c s (by omega) (by omega) (by omega)
      exact ⟨s', c', by omega, b2, b3⟩
theorem e_mm6 {F nc np nt nw ns nv nhd nh : Nat} {M : Mem} (hF : 10000 ≤ F) (h : InvN M nc np nt nw ns nv nhd nh) : ∀ (d p n n' c : Nat) (s : Int32), p + d = np → d < n → d < n' → c ≤ 10 * p → (fX5_meanMark_6 F n M s (nI c) (nI p) = some (M, Sum.inr 6) ∧ fX6_meanMark_6 F n' M s (nI c) (nI p) = some (up M 69 0 0 1, FP.dconst0)) ∨ ∃ v : UInt64, Op.cmpValue (FP.dcmp v v) .l = (0 : Int32) ∧ fX5_meanMark_6 F n M s (nI c) (nI p) = some (M, Sum.inl v) ∧ fX6_meanMark_6 F n' M s (nI c) (nI p) = some (up M 69 0 0 0, v) := by
  have h10 := h.tsk.le
  have h12 := h.pup.le
  intro d
  induction d with
  | zero =>
    intro p n n' c s hp hn hn' hc
    obtain ⟨n, rfl⟩ := Nat.exists_eq_succ_of_ne_zero (Nat.ne_of_gt hn)
    obtain ⟨n', rfl⟩ := Nat.exists_eq_succ_of_ne_zero (Nat.ne_of_gt hn')
    rw [fX5_meanMark_6, fX6_meanMark_6, h.pup.a, h.pup.b, if_pos (nI_le (by omega) (by omega)), if_pos (nI_le (by omega) (by omega))]
    unfold fX6_meanMark_87
    simp only [q_lt_e]
    by_cases h0 : c = 0
    · rw [h0, if_pos (show nI 0 = 0 from rfl), if_pos (show nI 0 = 0 from rfl), if_neg (show ¬ up M 69 0 0 1 69 0 0 ≤ 0 by rw [up_s]; decide)]
      exact Or.inl ⟨rfl, rfl⟩
    · obtain ⟨g1, g2⟩ := fp_div (a := s) (n := c) (by omega) (by omega)
      have hne : ¬ nI c = 0 := nI_ne0 (by omega) (by omega)
      rw [if_neg hne, if_neg hne, if_pos (show up M 69 0 0 0 69 0 0 ≤ 0 by rw [up_s]; decide), q_gd_t g1, q_gd_t g1]
      exact Or.inr ⟨_, g2, rfl, rfl⟩
  | succ d ih =>
    intro p n n' c s hp hn hn' hc
    obtain ⟨n, rfl⟩ := Nat.exists_eq_succ_of_ne_zero (Nat.ne_of_gt (Nat.lt_of_le_of_lt (Nat.zero_le _) hn))
    obtain ⟨n', rfl⟩ := Nat.exists_eq_succ_of_ne_zero (Nat.ne_of_gt (Nat.lt_of_le_of_lt (Nat.zero_le _) hn'))
    obtain ⟨s', c', b1, b2, b3⟩ := e_mm17 (F := F) (p := p) (k6 := fX5_meanMark_6 F n) (k6' := fX6_meanMark_6 F n') hF h (by omega) nt 0 F F c s (by omega) (by omega) (by omega)
    have b2 : fX5_meanMark_17 F (fX5_meanMark_6 F n) F M s (nI c) (nI p) 0 = fX5_meanMark_6 F n M s' (nI c') (nI (p + 1)) := b2
    have b3 : fX6_meanMark_17 F (fX6_meanMark_6 F n') F M s (nI c) (nI p) 0 = fX6_meanMark_6 F n' M s' (nI c') (nI (p + 1)) := b3
    have hI := ih (p + 1) n n' c' s' (by omega) (by omega) (by omega) (by omega)
    rw [fX5_meanMark_6, fX6_meanMark_6, h.pup.a, h.pup.b, if_neg (nI_ge (by omega) (by omega)), if_neg (nI_ge (by omega) (by omega)), q_lt_e, q_lt_e, b2, b3]
    exact hI
theorem k36 {F : Nat} {M : Mem} {x : XX} {s1 s2 s3 s4 s5 : Int32} (hF : 10000 ≤ F) (hi : Inv M) : ∃ r, fL_case36 F M x s1 s2 s3 s4 s5 = some r ∧ Inv r.1 := by
  obtain ⟨nc, np, nt, nw, ns, nv, nhd, nh, h⟩ := id hi
  have h12 := h.pup.le
  rcases e_mm6 (F := F) hF h np 0 F F 0 0 (by omega) (by omega) (by omega) (Nat.zero_le _) with ⟨hC, hM⟩ | ⟨v, hv, hC, hM⟩
  · have hC : fX5_meanMark F M = some (M, Sum.inr 6) := hC
    have hM : fX6_meanMark F M = some (up M 69 0 0 1, FP.dconst0) := hM
    have hL : fL_meanMark F M x = some (M, (x, 1)) := by
      unfold fL_meanMark
      rw [hC]
      rfl
    refine ⟨(up M 69 0 0 1, x), ?_, inv_69 hi rfl⟩
    unfold fL_case36
    rw [hL, q_bw_some, q_lt_e, hM, q_bn_p, q_lt_e, show fX6_thrown F (up M 69 0 0 1) = some (up M 69 0 0 1, 1) from rfl, q_bn_p, if_pos rfl, z10]
  · have hC : fX5_meanMark F M = some (M, Sum.inl v) := hC
    have hM : fX6_meanMark F M = some (up M 69 0 0 0, v) := hM
    have hL : fL_meanMark F M x = some (M, ((x.1, v), 0)) := by
      unfold fL_meanMark
      rw [hC]
      rfl
    refine ⟨(up M 69 0 0 0, (x.1, v)), ?_, inv_69 hi rfl⟩
    unfold fL_case36
    rw [hL, q_bw_some, q_lt_e, hM, q_bn_p, q_lt_e, show fX6_thrown F (up M 69 0 0 0) = some (up M 69 0 0 0, 0) from rfl, q_bn_p, if_pos rfl, if_pos rfl, if_pos hv]
