abbrev isRule (w : Int32) : Prop := w = 104 ∨ w = 100 ∨ w = 103 ∨ w = 115
theorem e_needRule {F : Nat} {M : Mem} {w : Int32} (h : isRule w) : fX5_needRule F M w = some (M, Sum.inl ()) := by
  rcases h with rfl | rfl | rfl | rfl <;> rfl
theorem e_needRuleX {F : Nat} {M : Mem} {w : Int32} (h : ¬ isRule w) : fX5_needRule F M w = some (M, Sum.inr 1) := by
  unfold isRule at h
  rw [not_or, not_or, not_or] at h
  unfold fX5_needRule
  rw [if_neg h.1, if_neg h.2.1, if_neg h.2.2.1, if_neg h.2.2.2]
theorem k2 {F : Nat} {M : Mem} {x : XX} {s1 s2 s3 s4 s5 : Int32} (hi : Inv M) : ∃ r, fL_case2 F M x s1 s2 s3 s4 s5 = some r ∧ Inv r.1 := by
  unfold fL_case2
  generalize (s4.toUInt32 % 65536).toInt32 = w
  obtain ⟨nc, np, nt, nw, ns, nv, nhd, nh, h⟩ := id hi
  have hc4 := h.cls.le
  have h10 := h.tsk.le
  by_cases hr : isN nc s1
  · obtain ⟨r, hr1, hr2⟩ := isN_of (by omega) hr
    have hM0 : ∀ (M : Mem), M 61 0 0 = nI nc → fX6_task F M s1 s2 s3 w s5 = fX6_task_47 F M (if isRule w then 1 else 0) s1 s2 s3 w s5 := fun M hm => by
      unfold fX6_task
      rw [e_isClass hm hc4 hr, q_bn_p, if_neg (show ¬ (1 : Int32) = 0 by decide)]
      by_cases hw : isRule w
      · rw [if_pos hw]
        rcases hw with rfl | rfl | rfl | rfl <;> rfl
      · rw [if_neg hw]
        unfold isRule at hw
        rw [not_or, not_or, not_or] at hw
        rw [if_neg hw.1, if_neg hw.2.1, if_neg hw.2.2.1, if_neg hw.2.2.2]
    by_cases hok : inR s2 0 1000000 ∧ inR s3 1 100 ∧ inR s5 0 100 ∧ isRule w
    · obtain ⟨a1, a2, a3, a4⟩ := hok
      by_cases h4 : nt < 10
      · have hlt : nI nt < 10 := nI_lt (b := 10) h4 (by decide)
        have hne : ¬ nI nt = 10 := fun e => by have := (nI_eq (a := nt) (b := 10) (by omega) (by decide)).mp e; omega
        have hcw : q_isC w = true := by rcases a4 with rfl | rfl | rfl | rfl <;> decide
        have hnw : vp_nar .char w = w := by rcases a4 with rfl | rfl | rfl | rfl <;> rfl
        obtain ⟨M1, hM1⟩ : ∃ M1 : Mem, M1 = up (up (up (up (up (up M 50 nt 0 s1) 51 nt 0 s2) 52 nt 0 s3) 53 nt 0 w) 54 nt 0 s5) 2 0 0 (nI (nt + 1)) := ⟨_, rfl⟩
        obtain ⟨M2, hM2⟩ : ∃ M2 : Mem, M2 = up (up (up (up (up (up M1 27 0 nt s1) 28 0 nt s2) 29 0 nt s3) 31 0 nt w) 30 0 nt s5) 63 0 0 (nI (nt + 1)) := ⟨_, rfl⟩
        have hC : fX5_task F M s1 s2 s3 w s5 = some (M1, Sum.inl (nI nt)) := by
          unfold fX5_task
          rw [e_needClass h.cls.a hr, q_bx_inl, e_needRange a1, q_bx_inl, e_needRange a2, q_bx_inl, e_needRange a3, q_bx_inl, e_needRule a4, q_bx_inl, h.tsk.a, if_pos hlt, q_ax_n h4, hM1]
          simp [q_lt_e, q_gd_t hcw, up_e, h.tsk.a, nI_1, nI_pred]
        have b63 : M1 63 0 0 = nI nt := by rw [hM1]; exact h.tsk.b
        have hM : fX6_task F M1 s1 s2 s3 w s5 = some (up M2 69 0 0 0, nI nt) := by
          rw [hM0 M1 (by rw [hM1]; exact h.cls.b), if_pos a4]
          unfold fX6_task_47
          rw [q_lt_e, e_in a1, q_bn_p, if_neg (show ¬ (1 : Int32) = 0 by decide), e_in a2, q_bn_p, if_neg (show ¬ (1 : Int32) = 0 by decide), if_neg (show ¬ (1 : Int32) = 0 by decide), e_in a3, q_bn_p, if_neg (show ¬ (1 : Int32) = 0 by decide), b63, if_neg hne, hM2]
          simp [q_lt_e, up_e, b63, nI_1, nI_pred, e_tells, q_bn_p, q_ax_n h4, hnw]
        refine ⟨_, caseA (m := fun M => fX6_task F M s1 s2 s3 w s5) (by unfold fL_task; rw [hC]; rfl) hM rfl (fun _ => rfl), inv_69 (M := M2) ?_ rfl⟩
        have e0 : ∀ v, v ∉ [63, 30, 31, 29, 28, 27, 2, 54, 53, 52, 51, 50] → M2 v = M v := by
          rw [hM2, hM1]
          exact up_fr (up_fr (up_fr (up_fr (up_fr (up_fr (up_fr (up_fr (up_fr (up_fr (up_fr (up_fr fr_0)))))))))))
        obtain ⟨d, -, d1, d2⟩ := inR_of (lo := 0) (hi := 1000000) (by decide) a1 (by decide)
        obtain ⟨f, -, f1, f2⟩ := inR_of (lo := 1) (hi := 100) (by decide) a2 (by decide)
        obtain ⟨k, -, k1, k2⟩ := inR_of (lo := 0) (hi := 100) (by decide) a3 (by decide)
        have eo : ∀ i, i ≠ nt → M2 50 i 0 = M 50 i 0 ∧ M2 27 0 i = M 27 0 i ∧ M2 51 i 0 = M 51 i 0 ∧ M2 28 0 i = M 28 0 i ∧ M2 52 i 0 = M 52 i 0 ∧ M2 29 0 i = M 29 0 i ∧ M2 53 i 0 = M 53 i 0 ∧ M2 31 0 i = M 31 0 i ∧ M2 54 i 0 = M 54 i 0 ∧ M2 30 0 i = M 30 0 i := fun i hin => by
          rw [hM2, hM1]
          simp [up_e, hin]
        have en : M2 50 nt 0 = s1 ∧ M2 27 0 nt = s1 ∧ M2 51 nt 0 = s2 ∧ M2 28 0 nt = s2 ∧ M2 52 nt 0 = s3 ∧ M2 29 0 nt = s3 ∧ M2 53 nt 0 = w ∧ M2 31 0 nt = w ∧ M2 54 nt 0 = s5 ∧ M2 30 0 nt = s5 := by
          rw [hM2, hM1]
          simp [up_e]
        refine tail_fr (nt' := nt + 1) h e0 (by decide) (by omega) (by omega) (by omega) (Cls_of h.cls (fr e0 (by decide))) (Pup_of h.pup (fr e0 (by decide))) ⟨by rw [hM2, hM1]; rfl, by rw [hM2]; rfl, by omega, fun i hin => ?_, fun i hin => ?_⟩ (Clk_of h.clk (fr e0 (by decide))) (Txt_fr h.txt e0 (by decide))
        · by_cases hj : i = nt
          · subst hj
            obtain ⟨c1, c2, c3, c4, c5, c6, c7, c8, c9, c10⟩ := en
            rw [c1, c2, c3, c4, c5, c6, c7, c8, c9, c10]
            exact ⟨rfl, rfl, rfl, rfl, rfl⟩
          · obtain ⟨c1, c2, c3, c4, c5, c6, c7, c8, c9, c10⟩ := eo i hj
            rw [c1, c2, c3, c4, c5, c6, c7, c8, c9, c10]
            exact h.tsk.t i (by omega)
        · by_cases hj : i = nt
          · subst hj
            obtain ⟨c1, c2, c3, c4, c5, c6, c7, c8, c9, c10⟩ := en
            rw [c1, c3, c5, c7, c9]
            refine ⟨⟨r, hr1, hr2⟩, ⟨d, d1, d2⟩, ⟨f, f1, f2⟩, ⟨k, k1, k2⟩, ?_⟩
            rcases a4 with rfl | rfl | rfl | rfl <;> simp
          · obtain ⟨c1, c2, c3, c4, c5, c6, c7, c8, c9, c10⟩ := eo i hj
            rw [c1, c3, c5, c7, c9]
            exact h.tsk.rg i (by omega)
      · have hlt : ¬ nI nt < 10 := nI_nlt (b := 10) (by omega) (by omega)
        have hC : fX5_task F M s1 s2 s3 w s5 = some (M, Sum.inr 2) := by
          unfold fX5_task
          rw [e_needClass h.cls.a hr, q_bx_inl, e_needRange a1, q_bx_inl, e_needRange a2, q_bx_inl, e_needRange a3, q_bx_inl, e_needRule a4, q_bx_inl, h.tsk.a, if_neg hlt]
        have hM : fX6_task F M s1 s2 s3 w s5 = some (up M 69 0 0 3, 0) := by
          rw [hM0 M h.cls.b, if_pos a4]
          unfold fX6_task_47
          rw [q_lt_e, e_in a1, q_bn_p, if_neg (show ¬ (1 : Int32) = 0 by decide), e_in a2, q_bn_p, if_neg (show ¬ (1 : Int32) = 0 by decide), if_neg (show ¬ (1 : Int32) = 0 by decide), e_in a3, q_bn_p, if_neg (show ¬ (1 : Int32) = 0 by decide), h.tsk.b, if_pos (show nI nt = 10 by rw [show nt = 10 by omega]; rfl)]
          rfl
        exact ⟨_, caseA (m := fun M => fX6_task F M s1 s2 s3 w s5) (by unfold fL_task; rw [hC]; rfl) hM rfl (fun h => by cases h), inv_69 hi rfl⟩
    · have hC : fX5_task F M s1 s2 s3 w s5 = some (M, Sum.inr 1) := by
        unfold fX5_task
        rw [e_needClass h.cls.a hr, q_bx_inl]
        by_cases a1 : inR s2 0 1000000
        · rw [e_needRange a1, q_bx_inl]
          by_cases a2 : inR s3 1 100
          · rw [e_needRange a2, q_bx_inl]
            by_cases a3 : inR s5 0 100
            · rw [e_needRange a3, q_bx_inl, e_needRuleX (fun a4 => hok ⟨a1, a2, a3, a4⟩), q_bx_inr]
            · rw [e_needRangeX a3, q_bx_inr]
          · rw [e_needRangeX a2, q_bx_inr]
        · rw [e_needRangeX a1, q_bx_inr]
      have hM : fX6_task F M s1 s2 s3 w s5 = some (up M 69 0 0 2, 0) := by
        rw [hM0 M h.cls.b]
        unfold fX6_task_47
        rw [q_lt_e]
        by_cases a1 : inR s2 0 1000000
        · rw [e_in a1, q_bn_p, if_neg (show ¬ (1 : Int32) = 0 by decide)]
          by_cases a2 : inR s3 1 100
          · rw [e_in a2, q_bn_p, if_neg (show ¬ (1 : Int32) = 0 by decide)]
            by_cases a4 : isRule w
            · rw [if_pos a4, if_neg (show ¬ (1 : Int32) = 0 by decide), e_inX (fun a3 => hok ⟨a1, a2, a3, a4⟩), q_bn_p, if_pos rfl]
              rfl
            · rw [if_neg a4, if_pos rfl]
              rfl
          · rw [e_inX a2, q_bn_p, if_pos rfl]
            rfl
        · rw [e_inX a1, q_bn_p, if_pos rfl]
          rfl
      exact ⟨_, caseA (m := fun M => fX6_task F M s1 s2 s3 w s5) (by unfold fL_task; rw [hC]; rfl) hM rfl (fun h => by cases h), inv_69 hi rfl⟩
  · have hC : fX5_task F M s1 s2 s3 w s5 = some (M, Sum.inr 3) := by
      unfold fX5_task
      rw [e_needClassX h.cls.a hr, q_bx_inr]
    have hM : fX6_task F M s1 s2 s3 w s5 = some (up M 69 0 0 1, 0) := by
      unfold fX6_task
      rw [e_isClassX h.cls.b hc4 hr, q_bn_p, if_pos rfl]
      rfl
    exact ⟨_, caseA (m := fun M => fX6_task F M s1 s2 s3 w s5) (by unfold fL_task; rw [hC]; rfl) hM rfl (fun h => by cases h), inv_69 hi rfl⟩
