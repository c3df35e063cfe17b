theorem e_isOpen {F i : Nat} {M : Mem} : fX1_isOpen F M i = some (M, if M 58 i 0 = -1 then 1 else 0) := by
  unfold fX1_isOpen
  by_cases h : M 58 i 0 = -1
  · rw [if_pos h, if_pos h]
    rfl
  · rw [if_neg h, if_neg h]
    rfl
theorem nI_nm1 {q : Nat} (h : q < 2 ^ 31) : ¬ nI q = -1 := fun h9 => by
  have h8 := nI_pos (n := q) h
  rw [h9] at h8
  exact h8 (by decide)
theorem e_next {F nv nh : Nat} {M : Mem} (h : Hts M nv nh) : ∀ (d i n n' : Nat) (b m : Int32), i + d = nh → d < n → d < n' → (b = -1 ∧ m = 0 ∨ ∃ q, q < nh ∧ b = nI q ∧ m = M 57 q 0) → (fX5_next_6 F n M b m (nI i) = some (M, Sum.inr 4) ∧ fX6_next_4 F n' M b (nI i) = some (up M 69 0 0 1, 0)) ∨ ∃ y, fX5_next_6 F n M b m (nI i) = some (M, Sum.inl y) ∧ fX6_next_4 F n' M b (nI i) = some (up M 69 0 0 0, y) := by
  have h40 := h.le
  intro d
  induction d with
  | zero =>
    intro i n n' b m hi hn hn' hb
    obtain ⟨n, rfl⟩ := Nat.exists_eq_succ_of_ne_zero (Nat.ne_of_gt hn)
    obtain ⟨n', rfl⟩ := Nat.exists_eq_succ_of_ne_zero (Nat.ne_of_gt hn')
    have hle : nI nh ≤ nI i := nI_le (by omega) (by omega)
    unfold fX5_next_6 fX6_next_4
    rw [h.a, h.b, if_pos hle, if_pos hle]
    rcases hb with ⟨rfl, rfl⟩ | ⟨q, hq, rfl, rfl⟩
    · exact Or.inl ⟨rfl, rfl⟩
    · rw [if_neg (nI_nm1 (by omega)), if_neg (nI_nm1 (by omega))]
      exact Or.inr ⟨_, rfl, rfl⟩
  | succ d ih =>
    intro i n n' b m hi hn hn' hb
    obtain ⟨n, rfl⟩ := Nat.exists_eq_succ_of_ne_zero (Nat.ne_of_gt (Nat.lt_of_le_of_lt (Nat.zero_le _) hn))
    obtain ⟨n', rfl⟩ := Nat.exists_eq_succ_of_ne_zero (Nat.ne_of_gt (Nat.lt_of_le_of_lt (Nat.zero_le _) hn'))
    have hlt : ¬ nI nh ≤ nI i := nI_ge (by omega) (by omega)
    obtain ⟨a1, a2, a3, a4, -, -, ⟨c, hc1, hc2, hc⟩, -⟩ := h.h i (by omega)
    unfold fX5_next_6 fX6_next_4
    rw [h.a, h.b, if_neg hlt, if_neg hlt, q_ax_n (show i < 40 by omega), q_ax_n (show i < 40 by omega), e_isOpen, q_bn_p]
    unfold fX5_next_51 fX6_next_46 fX6_next_42 fX6_next_47
    simp only [q_lt_e, nI_1, q_ax_n (show i < 40 by omega)]
    rw [← a4]
    by_cases ho : M 58 i 0 = -1
    · rw [if_pos ho, if_neg (show ¬ (1 : Int32) = 0 by decide), if_pos ho]
      rcases hb with ⟨rfl, rfl⟩ | ⟨q, hq, rfl, rfl⟩
      · have h9 : ¬ M 57 i 0 ≤ 0 := by
          rw [hc]
          exact nI_nle (by omega) (by omega)
        rw [if_neg h9, if_pos rfl]
        exact ih (i + 1) n n' _ _ (by omega) (by omega) (by omega) (Or.inr ⟨i, by omega, rfl, rfl⟩)
      · obtain ⟨-, -, b3, -⟩ := h.h q hq
        rw [if_neg (nI_nm1 (by omega)), q_ax_n (show q < 40 by omega), ← a3, ← b3]
        by_cases h9 : M 57 i 0 ≤ M 57 q 0
        · rw [if_pos h9, if_pos h9]
          exact ih (i + 1) n n' _ _ (by omega) (by omega) (by omega) (Or.inr ⟨q, hq, rfl, rfl⟩)
        · rw [if_neg h9, if_neg h9]
          exact ih (i + 1) n n' _ _ (by omega) (by omega) (by omega) (Or.inr ⟨i, by omega, rfl, rfl⟩)
    · rw [if_neg ho, if_pos rfl, if_neg ho]
      exact ih (i + 1) n n' _ _ (by omega) (by omega) (by omega) hb
theorem k31 {F : Nat} {M : Mem} {x : XX} {s1 s2 s3 s4 s5 : Int32} (hF : 10000 ≤ F) (hi : Inv M) : ∃ r, fL_case31 F M x s1 s2 s3 s4 s5 = some r ∧ Inv r.1 := by
  obtain ⟨nc, np, nt, nw, ns, nv, nhd, nh, h⟩ := id hi
  have h40 := h.hts.le
  rcases e_next (F := F) h.hts nh 0 F F (-1) 0 (by omega) (by omega) (by omega) (Or.inl ⟨rfl, rfl⟩) with ⟨hC, hM⟩ | ⟨y, hC, hM⟩
  · have hC : fX5_next F M = some (M, Sum.inr 4) := hC
    have hM : fX6_next F M = some (up M 69 0 0 1, 0) := hM
    exact ⟨_, caseA (m := fun M => fX6_next F M) (by unfold fL_next; rw [hC]; rfl) hM rfl (fun h => by cases h), inv_69 hi rfl⟩
  · have hC : fX5_next F M = some (M, Sum.inl y) := hC
    have hM : fX6_next F M = some (up M 69 0 0 0, y) := hM
    exact ⟨_, caseA (m := fun M => fX6_next F M) (by unfold fL_next; rw [hC]; rfl) hM rfl (fun _ => rfl), inv_69 hi rfl⟩
theorem nI_sub_0 {i : Nat} (h : i < 2 ^ 31) : inR (nI i) 0 (nI i) := ⟨nI_pos h, nI_nlt (Nat.le_refl _) h⟩
theorem k19 {F : Nat} {M : Mem} {x : XX} {s1 s2 s3 s4 s5 : Int32} (hi : Inv M) : ∃ r, fL_case19 F M x s1 s2 s3 s4 s5 = some r ∧ Inv r.1 := by
  obtain ⟨nc, np, nt, nw, ns, nv, nhd, nh, h⟩ := id hi
  have hv6 := h.ver.le
  by_cases hr : isN nv s1
  · obtain ⟨q, hq1, hq2⟩ := isN_of (by omega) hr
    by_cases hr2 : inR s2 0 100
    · obtain ⟨w, -, hw2, hw⟩ := inR_of (lo := 0) (hi := 100) (by decide) hr2 (by decide)
      have hC : fX5_points F M s1 s2 = some (up M 17 q 0 s2, Sum.inl (M 41 0 q)) := by
        unfold fX5_points
        rw [e_needVersion h.ver.a hr, q_bx_inl, e_needRange hr2, q_bx_inl, hq2, q_ax_n (show q < 60 by omega), q_lt_e, q_ax_n (show q < 60 by omega), q_lt_e, (h.ver.v q hq1).told.1]
      have hM : fX6_points F (up M 17 q 0 s2) s1 s2 = some (up (up (up M 17 q 0 s2) 41 0 q s2) 69 0 0 0, M 41 0 q) := by
        unfold fX6_points
        rw [e_isVersion (n := nv) (show up M 17 q 0 s2 64 0 0 = nI nv from h.ver.b) (by omega) hr, q_bn_p, if_neg (show ¬ (1 : Int32) = 0 by decide), e_in hr2, q_bn_p, if_neg (show ¬ (1 : Int32) = 0 by decide), hq2, q_ax_n (show q < 60 by omega), q_lt_e, q_ax_n (show q < 60 by omega), q_lt_e]
        rfl
      refine ⟨_, caseA (m := fun M => fX6_points F M s1 s2) (by unfold fL_points; rw [hC]; rfl) hM rfl (fun _ => rfl), inv_69 (M := up (up M 17 q 0 s2) 41 0 q s2) ?_ rfl⟩
      have e0 := up_fr (v := 41) (j := 0) (i := q) (y := s2) (up_fr (v := 17) (j := q) (i := 0) (y := s2) (fr_0 (M := M)))
      generalize hM2 : up (up M 17 q 0 s2) 41 0 q s2 = M2 at e0 ⊢
      have e17 : ∀ i, M2 17 i 0 = if i = q then s2 else M 17 i 0 := fun i => by rw [← hM2]; simp [up_e]
      have e41 : ∀ i, M2 41 0 i = if i = q then s2 else M 41 0 i := fun i => by rw [← hM2]; simp [up_e]
      have eV : ∀ v ∈ [4, 64, 5, 67, 10, 11, 12, 13, 14, 15, 16, 8, 22, 9, 23, 24, 33, 34, 35, 36, 39, 38, 40, 37, 42, 44, 43], M2 v = M v := fr e0 (by decide)
      refine ⟨nc, np, nt, nw, ns, nv, nhd, nh, Cls_of h.cls (fr e0 (by decide)), Pup_of h.pup (fr e0 (by decide)), Tsk_of h.tsk (fr e0 (by decide)), Clk_of h.clk (fr e0 (by decide)), Txt_fr h.txt e0 (by decide), ⟨by rw [eV 4 (by simp)]; exact h.ver.a, by rw [eV 64 (by simp)]; exact h.ver.b, h.ver.le, by rw [eV 5 (by simp), eV 67 (by simp), eV 14 (by simp)]; exact h.ver.h, fun i hin => ?_, fun i hin h60 => ?_⟩, Hts_of h.hts (fr e0 (by decide)), Lst_of h.lst (fr e0 (by decide)), Idx_of h.idx h.ver.le (fun v hv => by rw [fr e0 (K := [9, 23, 24]) (by decide) v hv]) ⟨e0 38 (by decide), fun j _ => ⟨by rw [e0 22 (by decide)], by rw [e0 8 (by decide)]⟩⟩⟩
      · obtain ⟨a1, a2, a3, a4, a5, a6, ⟨a7, w1, hw1, a8⟩, a9⟩ := h.ver.v i hin
        unfold Ver1 BagIs
        rw [eV 10 (by simp), eV 33 (by simp), eV 11 (by simp), eV 34 (by simp), eV 12 (by simp), eV 35 (by simp), eV 13 (by simp), eV 36 (by simp), eV 14 (by simp), eV 39 (by simp), eV 15 (by simp), eV 16 (by simp), eV 38 (by simp), eV 40 (by simp), eV 8 (by simp), eV 37 (by simp), eV 22 (by simp), eV 42 (by simp), eV 9 (by simp), eV 23 (by simp), eV 24 (by simp), eV 44 (by simp), eV 43 (by simp), e17, e41]
        refine ⟨a1, a2, a3, a4, a5, a6, ?_, a9⟩
        by_cases hj : i = q
        · rw [if_pos hj, if_pos hj]
          exact ⟨rfl, w, hw2, hw⟩
        · rw [if_neg hj, if_neg hj]
          exact ⟨a7, w1, hw1, a8⟩
      · rw [eV 14 (by simp), eV 15 (by simp), eV 16 (by simp), eV 38 (by simp), e17, e41, if_neg (by omega), if_neg (by omega)]
        exact h.ver.new i hin h60
    · have hC : fX5_points F M s1 s2 = some (M, Sum.inr 1) := by
        unfold fX5_points
        rw [e_needVersion h.ver.a hr, q_bx_inl, e_needRangeX hr2, q_bx_inr]
      have hM : fX6_points F M s1 s2 = some (up M 69 0 0 2, 0) := by
        unfold fX6_points
        rw [e_isVersion h.ver.b (by omega) hr, q_bn_p, if_neg (show ¬ (1 : Int32) = 0 by decide), e_inX hr2, q_bn_p, if_pos rfl]
        rfl
      exact ⟨_, caseA (m := fun M => fX6_points F M s1 s2) (by unfold fL_points; rw [hC]; rfl) hM rfl (fun h => by cases h), inv_69 hi rfl⟩
  · have hC : fX5_points F M s1 s2 = some (M, Sum.inr 3) := by
      unfold fX5_points
      rw [e_needVersionX h.ver.a hr, q_bx_inr]
    have hM : fX6_points F M s1 s2 = some (up M 69 0 0 1, 0) := by
      unfold fX6_points
      rw [e_isVersionX h.ver.b (by omega) hr, q_bn_p, if_pos rfl]
      rfl
    exact ⟨_, caseA (m := fun M => fX6_points F M s1 s2) (by unfold fL_points; rw [hC]; rfl) hM rfl (fun h => by cases h), inv_69 hi rfl⟩
