theorem k24 {F : Nat} {M : Mem} {x : XX} {s1 s2 s3 s4 s5 : Int32} (hi : Inv M) : ∃ r, fL_case24 F M x s1 s2 s3 s4 s5 = some r ∧ Inv r.1 := by
  obtain ⟨nc, np, nt, nw, ns, nv, nhd, nh, h⟩ := id hi
  have h60 := h.ver.le
  by_cases hr : isN nv s1
  · obtain ⟨q, hq1, hq2⟩ := isN_of (by omega) hr
    obtain ⟨u, hu, u1, u2, u3, g, hg, gB, g1, g2⟩ := (h.ver.v q hq1).size
    have hbl : bl q = 37 := by unfold bl; rw [if_pos (by omega)]
    by_cases ht : isN g s2
    · obtain ⟨k, hk1, hk2⟩ := isN_of (by omega) ht
      have hC : fX5_shingle F M s1 s2 = some (M, Sum.inl (M 23 q k)) := by
        unfold fX5_shingle
        rw [e_needVersion h.ver.a hr, q_bx_inl, hq2, q_ax_n (show q < 60 by omega), if_neg ht.1, gB.a, if_pos ht.2, hbl, hk2, q_ax_n (show k < 37 by omega)]
      have hM : fX6_shingle F M s1 s2 = some (up M 69 0 0 0, M 23 q k) := by
        unfold fX6_shingle
        rw [e_isVersion h.ver.b (by omega) hr, q_bn_p, z10, hq2, q_ax_n (show q < 60 by omega), g1, e_in ((inR_pred (by omega)).mpr ht), q_bn_p, z10, hk2, idx40, q_ax_n (show 40 * q + k < 2400 by omega), g2 k hk1]
        rfl
      exact ⟨_, caseA (m := fun M => fX6_shingle F M s1 s2) (by unfold fL_shingle; rw [hC]; rfl) hM rfl (fun _ => rfl), inv_69 hi rfl⟩
    · have hC : fX5_shingle F M s1 s2 = some (M, Sum.inr 4) := by
        unfold fX5_shingle
        rw [e_needVersion h.ver.a hr, q_bx_inl, hq2, q_ax_n (show q < 60 by omega)]
        by_cases h0 : s2 < 0
        · rw [if_pos h0]
          rfl
        · rw [if_neg h0, gB.a, if_neg (fun h9 => ht ⟨h0, h9⟩)]
          rfl
      have hM : fX6_shingle F M s1 s2 = some (up M 69 0 0 2, 0) := by
        unfold fX6_shingle
        rw [e_isVersion h.ver.b (by omega) hr, q_bn_p, z10, hq2, q_ax_n (show q < 60 by omega), g1, e_inX (fun h9 => ht ((inR_pred (by omega)).mp h9)), q_bn_p, z00]
        rfl
      exact ⟨_, caseA (m := fun M => fX6_shingle F M s1 s2) (by unfold fL_shingle; rw [hC]; rfl) hM rfl (fun h => by cases h), inv_69 hi rfl⟩
  · have hC : fX5_shingle F M s1 s2 = some (M, Sum.inr 3) := by
      unfold fX5_shingle
      rw [e_needVersionX h.ver.a hr, q_bx_inr]
    have hM : fX6_shingle F M s1 s2 = some (up M 69 0 0 1, 0) := by
      unfold fX6_shingle
      rw [e_isVersionX h.ver.b (by omega) hr, q_bn_p, z00]
      rfl
    exact ⟨_, caseA (m := fun M => fX6_shingle F M s1 s2) (by unfold fL_shingle; rw [hC]; rfl) hM rfl (fun h => by cases h), inv_69 hi rfl⟩
theorem signC_r {c : Int32} : signC c ↔ inR c 97 122 ∨ c = 32 ∨ inR c 128512 128591 := by
  unfold signC inR
  simp only [i32_le]
theorem e_needSign {F : Nat} {M : Mem} {c : Int32} (h : signC c) : fX5_needSign F M c = some (M, Sum.inl ()) := by
  unfold fX5_needSign fX5_needSign_16 fX5_needSign_17 fX5_needSign_36 fX5_needSign_37 fX5_needSign_63
  simp only [q_lt_e]
  rcases signC_r.mp h with ⟨h1, h2⟩ | rfl | ⟨h1, h2⟩
  · simp only [if_neg h1, if_neg h2, z10, z00, ite_self]
  · rfl
  · simp only [if_neg h1, if_neg h2, z10, z00, ite_self]
theorem e_needSignX {F : Nat} {M : Mem} {c : Int32} (h : ¬ signC c) : fX5_needSign F M c = some (M, Sum.inr 1) := by
  rw [signC_r] at h
  rw [not_or, not_or] at h
  obtain ⟨h1, h2, h3⟩ := h
  unfold fX5_needSign fX5_needSign_16 fX5_needSign_17 fX5_needSign_36 fX5_needSign_37 fX5_needSign_63
  simp only [q_lt_e]
  unfold inR at h1 h3
  by_cases a1 : c < 97
  · by_cases a3 : c < 128512
    · simp only [if_pos a1, if_pos a3, z10, z00, if_neg h2, if_true]
    · have a4 : 128591 < c := Decidable.byContradiction fun h9 => h3 ⟨a3, h9⟩
      simp only [if_pos a1, if_neg a3, if_pos a4, z10, z00, if_neg h2, if_true]
  · have a2 : 122 < c := Decidable.byContradiction fun h9 => h1 ⟨a1, h9⟩
    by_cases a3 : c < 128512
    · simp only [if_neg a1, if_pos a2, if_pos a3, z10, z00, if_neg h2, if_true]
    · have a4 : 128591 < c := Decidable.byContradiction fun h9 => h3 ⟨a3, h9⟩
      simp only [if_neg a1, if_pos a2, if_neg a3, if_pos a4, z10, z00, if_neg h2, if_true]
theorem e_isSign {F : Nat} {M : Mem} {c : Int32} (h : signC c) : fX6_isSign F M c = some (M, 1) := by
  unfold fX6_isSign fX6_isSign_28
  rcases signC_r.mp h with h1 | rfl | h1
  · rw [e_in h1, q_bn_p, z10]
    rfl
  · rfl
  · by_cases h0 : inR c 97 122
    · rw [e_in h0, q_bn_p, z10]
      rfl
    · rw [e_inX h0, q_bn_p, z00, e_in h1, q_bn_p, z10, ite_self]
      rfl
theorem e_isSignX {F : Nat} {M : Mem} {c : Int32} (h : ¬ signC c) : fX6_isSign F M c = some (M, 0) := by
  rw [signC_r] at h
  rw [not_or, not_or] at h
  obtain ⟨h1, h2, h3⟩ := h
  unfold fX6_isSign
  rw [e_inX h1, q_bn_p, z00, if_neg h2, e_inX h3, q_bn_p, z00]
  rfl
