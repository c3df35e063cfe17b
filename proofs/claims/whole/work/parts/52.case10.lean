theorem k10 {F : Nat} {M : Mem} {x : XX} {s1 s2 s3 s4 s5 : Int32} (hF : 10000 ≤ F) (hi : Inv M) : ∃ r, fL_case10 F M x s1 s2 s3 s4 s5 = some r ∧ Inv r.1 := by
  obtain ⟨nc, np, nt, nw, ns, nv, nhd, nh, h⟩ := id hi
  have h60 := h.ver.le
  have h10 := h.tsk.le
  have h12 := h.pup.le
  have hw := h.clk.le
  have bad : ∀ (n : Nat) (z : Int32), (n = 3 ∧ z = 1 ∨ n = 1 ∧ z = 2 ∨ n = 5 ∧ z = 3 ∨ n = 2 ∧ z = 4) → fX5_save F M s1 s2 s3 s4 = some (M, Sum.inr n) → fX6_save F M s1 s2 s3 s4 = some (up M 69 0 0 z, 0) → ∃ r, fL_case10 F M x s1 s2 s3 s4 s5 = some r ∧ Inv r.1 := fun n z hnz hC hM => by
    rcases hnz with ⟨rfl, rfl⟩ | ⟨rfl, rfl⟩ | ⟨rfl, rfl⟩ | ⟨rfl, rfl⟩
    · exact ⟨_, caseA (m := fun M => fX6_save F M s1 s2 s3 s4) (by unfold fL_save; rw [hC]; rfl) hM rfl (fun h => by cases h), inv_69 hi rfl⟩
    · exact ⟨_, caseA (m := fun M => fX6_save F M s1 s2 s3 s4) (by unfold fL_save; rw [hC]; rfl) hM rfl (fun h => by cases h), inv_69 hi rfl⟩
    · exact ⟨_, caseA (m := fun M => fX6_save F M s1 s2 s3 s4) (by unfold fL_save; rw [hC]; rfl) hM rfl (fun h => by cases h), inv_69 hi rfl⟩
    · exact ⟨_, caseA (m := fun M => fX6_save F M s1 s2 s3 s4) (by unfold fL_save; rw [hC]; rfl) hM rfl (fun h => by cases h), inv_69 hi rfl⟩
  by_cases hp : isN np s1
  · by_cases ht : isN nt s2
    · by_cases hpar : s3 = -1 ∨ isN nv s3
      · have hC0 : fX5_save F M s1 s2 s3 s4 = fX5_save_20 F M s1 s2 s3 s4 := by
          unfold fX5_save
          rw [e_needPupil h.pup.a hp, q_bx_inl, e_needTask h.tsk.a ht, q_bx_inl]
          by_cases g : s3 = -1
          · rw [if_pos g]
          · rw [if_neg g, e_needVersion h.ver.a (hpar.resolve_left g), q_bx_inl]
        have hM0 : ∀ M' : Mem, (∀ v ∈ [62, 63, 64, 60, 27, 26, 33, 34, 36], M' v = M v) → fX6_save F M' s1 s2 s3 s4 = fX6_save_35 F M' s1 s2 s3 s4 := fun M' e => by
          unfold fX6_save
          rw [e_isPupil (show M' 62 0 0 = nI np by rw [e 62 (by simp)]; exact h.pup.b) (by omega) hp, q_bn_p, z10, e_isTask (show M' 63 0 0 = nI nt by rw [e 63 (by simp)]; exact h.tsk.b) (by omega) ht, q_bn_p, z10]
          by_cases g : s3 = -1
          · rw [if_pos g]
          · rw [if_neg g, e_isVersion (show M' 64 0 0 = nI nv by rw [e 64 (by simp)]; exact h.ver.b) (by omega) (hpar.resolve_left g), q_bn_p, z10]
        obtain ⟨p, hp1, hp2⟩ := isN_of (by omega) hp
        obtain ⟨t, ht1, ht2⟩ := isN_of (by omega) ht
        obtain ⟨t1, -⟩ := h.tsk.t t ht1
        obtain ⟨p1, -⟩ := h.pup.cls p hp1
        by_cases hr : inR s4 0 (nI nw)
        · obtain ⟨ago, -, hago, eago⟩ := inR_of (lo := 0) (hi := nw) (by omega) hr (Nat.zero_le _)
          have hC1 : fX5_save_20 F M s1 s2 s3 s4 = if M 50 t 0 = M 21 0 p then (if s3 = (-1 : Int32) then (fX5_save_94 F M s1 s2 s3 s4) else (q_ax s3 60 fun j5 => q_bn (fX4_canPrecede F M j5 s1 s2 (nI nw - s4)) fun M6 z7 => if z7 = (0 : Int32) then (some (M6, Sum.inr 5)) else (fX5_save_94 F M6 s1 s2 s3 s4))) else some (M, Sum.inr 5) := by
            unfold fX5_save_20
            rw [h.clk.a, e_needRange hr, q_bx_inl, ht2, q_ax_n (show t < 10 by omega), hp2, q_ax_n (show p < 12 by omega), h.clk.a]
          have hM1 : ∀ M' : Mem, (∀ v ∈ [62, 63, 64, 60, 27, 26, 33, 34, 36], M' v = M v) → fX6_save_35 F M' s1 s2 s3 s4 = if M 50 t 0 = M 21 0 p then fX6_save_74 F M' 0 s1 s2 s3 s4 else fX6_save_74 F M' 1 s1 s2 s3 s4 := fun M' e => by
            unfold fX6_save_35
            rw [e 60 (by simp), h.clk.b, e_in hr, q_bn_p, z10, ht2, q_ax_n (show t < 10 by omega), hp2, q_ax_n (show p < 12 by omega), e 27 (by simp), e 26 (by simp), ← t1, ← p1]
          by_cases hroom : M 50 t 0 = M 21 0 p
          · by_cases hpre : s3 = -1 ∨ ∃ q, q < nv ∧ s3 = nI q ∧ (M 10 q 0 = s1 ∧ M 11 q 0 = s2) ∧ ¬ nI nw - s4 < M 13 q 0
            · have hC2 : fX5_save F M s1 s2 s3 s4 = fX5_save_94 F M s1 s2 s3 s4 := by
                rw [hC0, hC1, if_pos hroom]
                rcases hpre with g | ⟨q, hq, eq, g1, g2⟩
                · rw [if_pos g]
                · have hne : ¬ s3 = -1 := by
                    rw [eq]
                    exact nI_nm1 (by omega)
                  rw [if_neg hne]
                  conv => lhs; rw [eq]
                  rw [q_ax_n (show q < 60 by omega)]
                  unfold fX4_canPrecede
                  rw [q_isOf, if_pos g1, q_bn_p, z10, if_neg g2]
                  show q_bn (some (M, (1 : Int32))) _ = _
                  rw [q_bn_p, z10, eq]
              have hM2 : ∀ M' : Mem, (∀ v ∈ [62, 63, 64, 60, 27, 26, 33, 34, 36], M' v = M v) → fX6_save F M' s1 s2 s3 s4 = fX6_save_129 F M' s1 s2 s3 s4 0 := fun M' e => by
                rw [hM0 M' e, hM1 M' e, if_pos hroom]
                unfold fX6_save_74
                rw [q_lt_e]
                rcases hpre with g | ⟨q, hq, eq, g1, g2⟩
                · rw [if_pos g]
                · have hne : ¬ s3 = -1 := by
                    rw [eq]
                    exact nI_nm1 (by omega)
                  have hv1 := h.ver.v q hq
                  have q1 : M' 33 0 q = s1 := by rw [e 33 (by simp), ← hv1.p.1]; exact g1.1
                  have q2 : M' 34 0 q = s2 := by rw [e 34 (by simp), ← hv1.t.1]; exact g1.2
                  have q3 : M' 36 0 q ≤ M' 60 0 0 - s4 := by
                    rw [e 36 (by simp), e 60 (by simp), h.clk.b, ← hv1.sav.1]
                    exact Int32.not_lt.mp g2
                  rw [if_neg hne, if_pos rfl]
                  have hx : ∀ (k : Nat → Option (Mem × Int32)), q_ax s3 60 k = k q := fun k => by
                    rw [eq]
                    exact q_ax_n (show q < 60 by omega)
                  rw [hx, if_pos q1, hx, if_pos q2, hx, if_pos q3]
                  rfl
              by_cases h6 : nv < 60
              · obtain ⟨M2, M3, a1, a2, a3, a4⟩ := e_save (F := F) (s3 := s3) hF h hp1 ht1 (by
                  rcases hpre with g | ⟨q, hq, eq, -⟩
                  · exact Or.inl g
                  · exact Or.inr ⟨q, hq, eq⟩) hago h6
                rw [← hp2, ← ht2, ← eago] at a1 a2
                have hC := hC2.trans a1
                have hM := (hM2 M2 a3).trans a2
                exact ⟨_, caseA (m := fun M => fX6_save F M s1 s2 s3 s4) (by unfold fL_save; rw [hC]; rfl) hM rfl (fun _ => rfl), inv_69 a4 rfl⟩
              · refine bad 2 4 (by simp) ?_ ?_
                · rw [hC2]
                  unfold fX5_save_94
                  rw [h.ver.a, if_neg (show ¬ nI nv < 60 from nI_nlt (b := 60) (by omega) (by omega))]
                · rw [hM2 M (fun _ _ => rfl)]
                  unfold fX6_save_129
                  rw [if_pos rfl, h.ver.b, if_pos (show nI nv = 60 by rw [show nv = 60 by omega]; rfl)]
                  rfl
            · rw [not_or] at hpre
              obtain ⟨hne, hpre⟩ := hpre
              obtain ⟨q, hq, eq⟩ := isN_of (by omega) (hpar.resolve_left hne)
              have hv1 := h.ver.v q hq
              have hx : ∀ {α : Type} (k : Nat → Option α), q_ax s3 60 k = k q := fun k => by
                rw [eq]
                exact q_ax_n (show q < 60 by omega)
              refine bad 5 3 (by simp) ?_ ?_
              · rw [hC0, hC1, if_pos hroom, if_neg hne, hx]
                unfold fX4_canPrecede
                rw [q_isOf, q_bn_p]
                by_cases g1 : M 10 q 0 = s1 ∧ M 11 q 0 = s2
                · rw [if_pos g1, z10]
                  have g2 : nI nw - s4 < M 13 q 0 := Decidable.byContradiction fun h9 => hpre ⟨q, hq, eq, g1, h9⟩
                  rw [if_pos g2]
                  rfl
                · rw [if_neg g1, z00]
                  rfl
              · rw [hM0 M (fun _ _ => rfl), hM1 M (fun _ _ => rfl), if_pos hroom]
                unfold fX6_save_74
                have h129 : fX6_save_122 F M s1 s2 s3 s4 = some (up M 69 0 0 3, 0) := rfl
                rw [q_lt_e, if_neg hne, if_pos rfl, hx, ← hv1.p.1]
                by_cases g1 : M 10 q 0 = s1
                · rw [if_pos g1, hx, ← hv1.t.1]
                  by_cases g2 : M 11 q 0 = s2
                  · rw [if_pos g2, hx, ← hv1.sav.1, h.clk.b]
                    have g3 : ¬ M 13 q 0 ≤ nI nw - s4 := fun h9 => hpre ⟨q, hq, eq, ⟨g1, g2⟩, Int32.not_lt.mpr h9⟩
                    rw [if_neg g3, h129]
                  · rw [if_neg g2, h129]
                · rw [if_neg g1, h129]
          · refine bad 5 3 (by simp) ?_ ?_
            · rw [hC0, hC1, if_neg hroom]
            · rw [hM0 M (fun _ _ => rfl), hM1 M (fun _ _ => rfl), if_neg hroom]
              unfold fX6_save_74
              rw [q_lt_e]
              by_cases g : s3 = -1
              · rw [if_pos g]
                rfl
              · rw [if_neg g, z10]
                rfl
        · refine bad 1 2 (by simp) ?_ ?_
          · rw [hC0]
            unfold fX5_save_20
            rw [h.clk.a, e_needRangeX hr, q_bx_inr]
          · rw [hM0 M (fun _ _ => rfl)]
            unfold fX6_save_35
            rw [h.clk.b, e_inX hr, q_bn_p, z00]
            rfl
      · rw [not_or] at hpar
        refine bad 3 1 (by simp) ?_ ?_
        · unfold fX5_save
          rw [e_needPupil h.pup.a hp, q_bx_inl, e_needTask h.tsk.a ht, q_bx_inl, if_neg hpar.1, e_needVersionX h.ver.a hpar.2, q_bx_inr]
        · unfold fX6_save
          rw [e_isPupil h.pup.b (by omega) hp, q_bn_p, z10, e_isTask h.tsk.b (by omega) ht, q_bn_p, z10, if_neg hpar.1, e_isVersionX h.ver.b (by omega) hpar.2, q_bn_p, z00]
          rfl
    · refine bad 3 1 (by simp) ?_ ?_
      · unfold fX5_save
        rw [e_needPupil h.pup.a hp, q_bx_inl, e_needTaskX h.tsk.a ht, q_bx_inr]
      · unfold fX6_save
        rw [e_isPupil h.pup.b (by omega) hp, q_bn_p, z10, e_isTaskX h.tsk.b (by omega) ht, q_bn_p, z00]
        rfl
  · refine bad 3 1 (by simp) ?_ ?_
    · unfold fX5_save
      rw [e_needPupilX h.pup.a hp, q_bx_inr]
    · unfold fX6_save
      rw [e_isPupilX h.pup.b (by omega) hp, q_bn_p, z00]
      rfl
