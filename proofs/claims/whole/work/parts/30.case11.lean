theorem e_width {F : Nat} {M : Mem} {c : Int32} : fX3_width F M c = some (M, if c ≤ 65535 then 1 else 2) := by
  unfold fX3_width fX3_width_11
  by_cases h : c ≤ 65535 <;> simp [h]
theorem e_charsOf {F : Nat} {M : Mem} {c : Int32} : fX6_charsOf F M c = some (M, if c ≤ 65535 then 1 else 2) := by
  unfold fX6_charsOf fX6_charsOf_11
  by_cases h : c ≤ 65535 <;> simp [h]
theorem nI_mul (a b : Nat) : nI a * nI b = nI (a * b) := (Int32.ofNat_mul a b).symm
theorem idx40 (i k : Nat) : (40 : Int32) * nI i + nI k = nI (40 * i + k) := by
  rw [show (40 : Int32) = nI 40 from rfl, nI_mul, nI_add]
/-- both sides count the chars of a version's text -/
theorem e_chars {F i u : Nat} {M M' : Mem} (hi : i < 60) (hu : u ≤ 40) (a : M 8 i 0 = nI u) (b : M' 37 0 i = nI u) (e : ∀ k, k < u → M 22 i k = M' 42 0 (40 * i + k)) : ∀ (d k n n' : Nat) (c : Int32), k + d = u → d < n → d < n' → ∃ y, fX3_countChars_4 F n M i c (nI k) = some (M, y) ∧ fX6_charsOfVersion_4 F n' M' (nI i) c (nI k) = some (M', y) := by
  intro d
  induction d with
  | zero =>
    intro k n n' c hk hn hn'
    obtain ⟨n, rfl⟩ := Nat.exists_eq_succ_of_ne_zero (Nat.ne_of_gt hn)
    obtain ⟨n', rfl⟩ := Nat.exists_eq_succ_of_ne_zero (Nat.ne_of_gt hn')
    have hle : nI u ≤ nI k := nI_le (by omega) (by omega)
    unfold fX3_countChars_4 fX6_charsOfVersion_4
    rw [q_ax_n hi, a, b, if_pos hle, if_pos hle]
    exact ⟨c, rfl, rfl⟩
  | succ d ih =>
    intro k n n' c hk hn hn'
    obtain ⟨n, rfl⟩ := Nat.exists_eq_succ_of_ne_zero (Nat.ne_of_gt (Nat.lt_of_le_of_lt (Nat.zero_le _) hn))
    obtain ⟨n', rfl⟩ := Nat.exists_eq_succ_of_ne_zero (Nat.ne_of_gt (Nat.lt_of_le_of_lt (Nat.zero_le _) hn'))
    have hlt : ¬ nI u ≤ nI k := nI_ge (by omega) (by omega)
    unfold fX3_countChars_4 fX6_charsOfVersion_4
    rw [q_ax_n hi, a, b, if_neg hlt, if_neg hlt, idx40, q_ax_n (show k < 40 by omega), q_ax_n (show 40 * i + k < 2400 by omega), e_width, e_charsOf, q_bn_p, q_bn_p, e k (by omega)]
    simp only [q_lt_e, nI_1]
    exact ih (k + 1) n n' _ (by omega) (by omega) (by omega)
theorem k11 {F : Nat} {M : Mem} {x : XX} {s1 s2 s3 s4 s5 : Int32} (hF : 10000 ≤ F) (hi : Inv M) : ∃ r, fL_case11 F M x s1 s2 s3 s4 s5 = some r ∧ Inv r.1 := by
  unfold fL_case11
  generalize (s2.toUInt32 % 65536).toInt32 = w
  obtain ⟨nc, np, nt, nw, ns, nv, nhd, nh, h⟩ := id hi
  have h60 := h.ver.le
  by_cases hr : isN nv s1
  · obtain ⟨q, hq1, hq2⟩ := isN_of (by omega) hr
    have hv := h.ver.v q hq1
    obtain ⟨u, hu, u1, u2, u3, g, hg, gB, g1, g2⟩ := hv.size
    by_cases hw : w = 99 ∨ w = 103 ∨ w = 104 ∨ w = 110 ∨ w = 112 ∨ w = 115 ∨ w = 117
    · obtain ⟨y, hC, hM⟩ : ∃ y, fX5_of F M s1 w = some (M, Sum.inl y) ∧ fX6_of F M s1 w = some (up M 69 0 0 0, y) := by
        unfold fX5_of fX6_of
        rw [e_needVersion h.ver.a hr, q_bx_inl, e_isVersion h.ver.b (by omega) hr, q_bn_p, z10, hq2]
        simp only [q_ax_n (show q < 60 by omega), e_tells, q_bn_p]
        rcases hw with rfl | rfl | rfl | rfl | rfl | rfl | rfl
        · obtain ⟨y, y1, y2⟩ := e_chars (F := F) (M := M) (M' := M) (show q < 60 by omega) hu u1 u2 (fun k hk => (u3 k hk).1) u 0 F F 0 (by omega) (by omega) (by omega)
          rw [if_pos rfl, if_pos rfl, show fX3_countChars F M q = some (M, y) from y1, show fX6_charsOfVersion F M (nI q) = some (M, y) from y2]
          exact ⟨y, rfl, rfl⟩
        · exact ⟨_, rfl, by rw [hv.told.1]; rfl⟩
        · exact ⟨_, rfl, by rw [hv.hnd]; rfl⟩
        · exact ⟨_, rfl, by rw [u1, u2]; rfl⟩
        · exact ⟨_, rfl, by rw [hv.par.1]; rfl⟩
        · exact ⟨_, rfl, by rw [hv.sav.1]; rfl⟩
        · exact ⟨_, rfl, by rw [gB.a, g1]; rfl⟩
      exact ⟨_, caseA (m := fun M => fX6_of F M s1 w) (by unfold fL_of; rw [hC]; rfl) hM rfl (fun _ => rfl), inv_69 hi rfl⟩
    · rw [not_or, not_or, not_or, not_or, not_or, not_or] at hw
      obtain ⟨w1, w2, w3, w4, w5, w6, w7⟩ := hw
      have hC : fX5_of F M s1 w = some (M, Sum.inr 1) := by
        unfold fX5_of
        rw [e_needVersion h.ver.a hr, q_bx_inl, hq2, q_ax_n (show q < 60 by omega)]
        simp only [if_neg w1, if_neg w2, if_neg w3, if_neg w4, if_neg w5, if_neg w6, if_neg w7, ite_self]
      have hM : fX6_of F M s1 w = some (up M 69 0 0 2, 0) := by
        unfold fX6_of
        rw [e_isVersion h.ver.b (by omega) hr, q_bn_p, z10]
        simp only [if_neg w1, if_neg w2, if_neg w3, if_neg w4, if_neg w5, if_neg w6, if_neg w7, ite_self]
        rfl
      exact ⟨_, caseA (m := fun M => fX6_of F M s1 w) (by unfold fL_of; rw [hC]; rfl) hM rfl (fun h => by cases h), inv_69 hi rfl⟩
  · have hC : fX5_of F M s1 w = some (M, Sum.inr 3) := by
      unfold fX5_of
      rw [e_needVersionX h.ver.a hr, q_bx_inr]
    have hM : fX6_of F M s1 w = some (up M 69 0 0 1, 0) := by
      unfold fX6_of
      rw [e_isVersionX h.ver.b (by omega) hr, q_bn_p, z00]
      rfl
    exact ⟨_, caseA (m := fun M => fX6_of F M s1 w) (by unfold fL_of; rw [hC]; rfl) hM rfl (fun h => by cases h), inv_69 hi rfl⟩
