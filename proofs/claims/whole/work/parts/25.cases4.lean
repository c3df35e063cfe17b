theorem z10 {α : Sort _} {a b : α} : (if (1 : Int32) = 0 then a else b) = b := if_neg (by decide)
theorem z00 {α : Sort _} {a b : α} : (if (0 : Int32) = 0 then a else b) = a := if_pos rfl
theorem q_isOf {F i : Nat} {M : Mem} {p t : Int32} : fX4_isOf F M i p t = some (M, if M 10 i 0 = p ∧ M 11 i 0 = t then 1 else 0) := by
  unfold fX4_isOf
  by_cases h1 : M 10 i 0 = p
  · by_cases h2 : M 11 i 0 = t
    · rw [if_pos h1, if_pos h2, if_pos ⟨h1, h2⟩]
      rfl
    · rw [if_pos h1, if_neg h2, if_neg (fun h => h2 h.2)]
      rfl
  · rw [if_neg h1, if_neg (fun h => h1 h.1)]
    rfl
theorem nhd_le {M : Mem} {np nt nw nv nhd : Nat} (h : Ver M np nt nw nv nhd) : nhd ≤ 60 := by
  have h1 := List.length_filter_le (fun i => decide (M 14 i 0 ≠ -1)) (List.range nv)
  rw [List.length_range] at h1
  have h2 := h.h.2.2
  have h3 := h.le
  omega
/-- in the reference's words: the version is in -/
theorem in_turn {M : Mem} {np nt nw nhd i : Nat} (h : Ver1 M np nt nw nhd i) (hi : M 38 0 i = 1) : ∃ q, q < nhd ∧ M 15 i 0 = nI q ∧ M 40 0 i = nI (q + 1) := by
  rcases h.st with ⟨-, -, -, h4⟩ | ⟨-, h5, -⟩
  · rw [h4] at hi
    exact absurd hi (by decide)
  · exact h5
theorem e_find {F np nt nw nv nhd : Nat} {M : Mem} {p t : Int32} (h : Ver M np nt nw nv nhd) (hw : nw ≤ 1000000) : ∀ (d i n n' : Nat) (b m : Int32), i + d = nv → d < n → d < n' → (b = -1 ∧ m = -1 ∨ ∃ q, q < nv ∧ b = nI q ∧ m = M 15 q 0 ∧ M 38 0 q = 1 ∧ M 10 q 0 = p ∧ M 11 q 0 = t) → ∃ y, fX5_findCounting_8 F n M p t b m (nI i) = some (M, y) ∧ fX6_countingOf_5 F n' M p t b (nI i) = some (M, y) ∧ (y = -1 ∨ ∃ q, q < nv ∧ y = nI q ∧ M 38 0 q = 1 ∧ M 10 q 0 = p ∧ M 11 q 0 = t) := by
  have h60 := h.le
  have hh := nhd_le h
  intro d
  induction d with
  | zero =>
    intro i n n' b m hi hn hn' hb
    obtain ⟨n, rfl⟩ := Nat.exists_eq_succ_of_ne_zero (Nat.ne_of_gt hn)
    obtain ⟨n', rfl⟩ := Nat.exists_eq_succ_of_ne_zero (Nat.ne_of_gt hn')
    have hle : nI nv ≤ nI i := nI_le (by omega) (by omega)
    unfold fX5_findCounting_8 fX6_countingOf_5
    rw [h.a, h.b, if_pos hle, if_pos hle]
    refine ⟨b, rfl, rfl, ?_⟩
    rcases hb with ⟨rfl, -⟩ | ⟨q, h1, h2, -, h3⟩
    · exact Or.inl rfl
    · exact Or.inr ⟨q, h1, h2, h3⟩
  | succ d ih =>
    intro i n n' b m hi hn hn' hb
    obtain ⟨n, rfl⟩ := Nat.exists_eq_succ_of_ne_zero (Nat.ne_of_gt (Nat.lt_of_le_of_lt (Nat.zero_le _) hn))
    obtain ⟨n', rfl⟩ := Nat.exists_eq_succ_of_ne_zero (Nat.ne_of_gt (Nat.lt_of_le_of_lt (Nat.zero_le _) hn'))
    have hlt : ¬ nI nv ≤ nI i := nI_ge (by omega) (by omega)
    have hv := h.v i (by omega)
    unfold fX5_findCounting_8 fX6_countingOf_5
    rw [h.a, h.b, if_neg hlt, if_neg hlt, q_ax_n (show i < 60 by omega), q_ax_n (show i < 60 by omega), q_isOf, q_bn_p]
    unfold fX5_findCounting_64 fX6_countingOf_51 fX6_countingOf_52 fX6_countingOf_80 fX6_countingOf_85 fX6_countingOf_86
    simp only [q_lt_e, nI_1, q_ax_n (show i < 60 by omega), e_isThere hv hw, q_bn_p, ← hv.p.1, ← hv.t.1]
    by_cases hin : M 38 0 i = 1
    · by_cases hp : M 10 i 0 = p
      · by_cases ht : M 11 i 0 = t
        · simp only [if_pos (And.intro hp ht), if_pos hin, if_pos hp, if_pos ht, z10]
          obtain ⟨ti, hti, e1, e2⟩ := in_turn hv hin
          rcases hb with ⟨rfl, rfl⟩ | ⟨q, hq, rfl, rfl, hq3, hq4⟩
          · have h9 : ¬ M 15 i 0 ≤ -1 := by
              rw [e1, i32_le, Decidable.not_not]
              exact Int32.lt_of_lt_of_le (show (-1 : Int32) < 0 by decide) (nI_pos' (by omega))
            rw [if_neg h9, if_pos rfl]
            exact ih (i + 1) n n' _ _ (by omega) (by omega) (by omega) (Or.inr ⟨i, by omega, rfl, rfl, hin, hp, ht⟩)
          · obtain ⟨tq, htq, f1, f2⟩ := in_turn (h.v q hq) hq3
            rw [if_neg (nI_nm1 (by omega)), q_ax_n (show q < 60 by omega), e1, f1, e2, f2]
            by_cases h9 : ti ≤ tq
            · rw [if_pos (nI_le h9 (by omega)), if_pos (nI_le (by omega) (by omega))]
              exact ih (i + 1) n n' _ _ (by omega) (by omega) (by omega) (Or.inr ⟨q, hq, rfl, f1.symm, hq3, hq4⟩)
            · rw [if_neg (nI_ge (by omega) (by omega)), if_neg (nI_ge (by omega) (by omega))]
              exact ih (i + 1) n n' _ _ (by omega) (by omega) (by omega) (Or.inr ⟨i, by omega, rfl, e1.symm, hin, hp, ht⟩)
        · simp only [if_neg (show ¬ (M 10 i 0 = p ∧ M 11 i 0 = t) from fun h => ht h.2), if_pos hin, if_pos hp, if_neg ht, z00, if_true]
          exact ih (i + 1) n n' _ _ (by omega) (by omega) (by omega) hb
      · simp only [if_neg (show ¬ (M 10 i 0 = p ∧ M 11 i 0 = t) from fun h => hp h.1), if_pos hin, if_neg hp, z00, if_true]
        exact ih (i + 1) n n' _ _ (by omega) (by omega) (by omega) hb
    · simp only [if_neg hin, z00, if_true]
      have e : ∀ (X : Option (Mem × Int32)), (if (if M 10 i 0 = p ∧ M 11 i 0 = t then (1 : Int32) else 0) = 0 then X else X) = X := fun X => by
        by_cases hp : M 10 i 0 = p ∧ M 11 i 0 = t <;> simp [hp]
      rw [e]
      exact ih (i + 1) n n' _ _ (by omega) (by omega) (by omega) hb
theorem e_counting {F nc np nt nw ns nv nhd nh : Nat} {M : Mem} {p t : Int32} (hF : 10000 ≤ F) (h : InvN M nc np nt nw ns nv nhd nh) : ∃ y, fX5_findCounting F M p t = some (M, y) ∧ fX6_countingOf F M p t = some (M, y) ∧ (y = -1 ∨ ∃ q, q < nv ∧ y = nI q ∧ M 38 0 q = 1 ∧ M 10 q 0 = p ∧ M 11 q 0 = t) := by
  have h60 := h.ver.le
  exact e_find (F := F) h.ver h.clk.le nv 0 F F (-1) (-1) (by omega) (by omega) (by omega) (Or.inl ⟨rfl, rfl⟩)
theorem k20 {F : Nat} {M : Mem} {x : XX} {s1 s2 s3 s4 s5 : Int32} (hF : 10000 ≤ F) (hi : Inv M) : ∃ r, fL_case20 F M x s1 s2 s3 s4 s5 = some r ∧ Inv r.1 := by
  obtain ⟨nc, np, nt, nw, ns, nv, nhd, nh, h⟩ := id hi
  have h10 := h.tsk.le
  have h12 := h.pup.le
  have h60 := h.ver.le
  by_cases hp : isN np s1
  · by_cases ht : isN nt s2
    · obtain ⟨y, y1, y2, y3⟩ := e_counting (p := s1) (t := s2) hF h
      by_cases hy : y = -1
      · have hC : fX5_counting F M s1 s2 = some (M, Sum.inr 4) := by
          unfold fX5_counting
          rw [e_needPupil h.pup.a hp, q_bx_inl, e_needTask h.tsk.a ht, q_bx_inl, y1, q_bn_p, q_lt_e, if_pos hy]
        have hM : fX6_counting F M s1 s2 = some (up M 69 0 0 2, 0) := by
          unfold fX6_counting
          rw [e_isPupil h.pup.b (by omega) hp, q_bn_p, if_neg (show ¬ (1 : Int32) = 0 by decide), e_isTask h.tsk.b (by omega) ht, q_bn_p, if_neg (show ¬ (1 : Int32) = 0 by decide), y2, q_bn_p, q_lt_e, if_pos hy]
          rfl
        exact ⟨_, caseA (m := fun M => fX6_counting F M s1 s2) (by unfold fL_counting; rw [hC]; rfl) hM rfl (fun h => by cases h), inv_69 hi rfl⟩
      · have hC : fX5_counting F M s1 s2 = some (M, Sum.inl y) := by
          unfold fX5_counting
          rw [e_needPupil h.pup.a hp, q_bx_inl, e_needTask h.tsk.a ht, q_bx_inl, y1, q_bn_p, q_lt_e, if_neg hy]
        have hM : fX6_counting F M s1 s2 = some (up M 69 0 0 0, y) := by
          unfold fX6_counting
          rw [e_isPupil h.pup.b (by omega) hp, q_bn_p, if_neg (show ¬ (1 : Int32) = 0 by decide), e_isTask h.tsk.b (by omega) ht, q_bn_p, if_neg (show ¬ (1 : Int32) = 0 by decide), y2, q_bn_p, q_lt_e, if_neg hy]
          rfl
        exact ⟨_, caseA (m := fun M => fX6_counting F M s1 s2) (by unfold fL_counting; rw [hC]; rfl) hM rfl (fun _ => rfl), inv_69 hi rfl⟩
    · have hC : fX5_counting F M s1 s2 = some (M, Sum.inr 3) := by
        unfold fX5_counting
        rw [e_needPupil h.pup.a hp, q_bx_inl, e_needTaskX h.tsk.a ht, q_bx_inr]
      have hM : fX6_counting F M s1 s2 = some (up M 69 0 0 1, 0) := by
        unfold fX6_counting
        rw [e_isPupil h.pup.b (by omega) hp, q_bn_p, if_neg (show ¬ (1 : Int32) = 0 by decide), e_isTaskX h.tsk.b (by omega) ht, q_bn_p, if_pos rfl]
        rfl
      exact ⟨_, caseA (m := fun M => fX6_counting F M s1 s2) (by unfold fL_counting; rw [hC]; rfl) hM rfl (fun h => by cases h), inv_69 hi rfl⟩
  · have hC : fX5_counting F M s1 s2 = some (M, Sum.inr 3) := by
      unfold fX5_counting
      rw [e_needPupilX h.pup.a hp, q_bx_inr]
    have hM : fX6_counting F M s1 s2 = some (up M 69 0 0 1, 0) := by
      unfold fX6_counting
      rw [e_isPupilX h.pup.b (by omega) hp, q_bn_p, if_pos rfl]
      rfl
    exact ⟨_, caseA (m := fun M => fX6_counting F M s1 s2) (by unfold fL_counting; rw [hC]; rfl) hM rfl (fun h => by cases h), inv_69 hi rfl⟩
