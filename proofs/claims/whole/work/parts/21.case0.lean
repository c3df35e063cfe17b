theorem q_bn_p {α β : Type} {M1 : Mem} {a : α} {k : Mem → α → Option β} : q_bn (some (M1, a)) k = k M1 a := rfl
theorem up_e {M : Mem} {v j i v' j' i' : Nat} {y : Int32} : up M v j i y v' j' i' = if v' = v ∧ j' = j ∧ i' = i then y else M v' j' i' := rfl
theorem inv_69 {M M' : Mem} {y : Int32} (h : Inv M) (e : M' = up M 69 0 0 y) : Inv M' := by
  obtain ⟨nc, np, nt, nw, ns, nv, nhd, nh, h⟩ := h
  have e0 : ∀ v, v ≠ 69 → M' v = M v := fun v hv => by rw [e]; exact up_o hv
  exact inv_tail h (Cls_of h.cls fun v hv => e0 v (by simp at hv; omega)) (Pup_of h.pup fun v hv => e0 v (by simp at hv; omega)) (Tsk_of h.tsk fun v hv => e0 v (by simp at hv; omega)) (Clk_of h.clk fun v hv => e0 v (by simp at hv; omega)) (Txt_of h.txt ⟨by rw [e0 8 (by decide)], e0 65 (by decide), by rw [e0 22 (by decide)], e0 32 (by decide)⟩) h.ver (fun v hv => e0 v (by simp at hv; omega)) (fun v hv j _ _ => by rw [e0 v (by simp [vvC] at hv; omega)]) (fun v hv => e0 v (by simp [vvM] at hv; omega)) (e0 10 (by decide)) (e0 11 (by decide))
theorem k0 {F : Nat} {M : Mem} {x : XX} {s1 s2 s3 s4 s5 : Int32} (hi : Inv M) : ∃ r, fL_case0 F M x s1 s2 s3 s4 s5 = some r ∧ Inv r.1 := by
  obtain ⟨nc, np, nt, nw, ns, nv, nhd, nh, h⟩ := id hi
  by_cases hr : inR s1 (-720) 720
  · by_cases h4 : nc < 4
    · have hC : fX5_classroom F M s1 = some (up (up M 20 0 nc s1) 0 0 0 (nI (nc + 1)), Sum.inl (nI nc)) := by
        unfold fX5_classroom
        rw [e_needRange hr, q_bx_inl, h.cls.a, if_pos (show nI nc < 4 from nI_lt (b := 4) h4 (by decide)), q_ax_n h4]
        simp [q_lt_e, up_e, h.cls.a, nI_1, nI_pred]
      have hM : fX6_classroom F (up (up M 20 0 nc s1) 0 0 0 (nI (nc + 1))) s1 = some (up (up (up (up (up M 20 0 nc s1) 0 0 0 (nI (nc + 1))) 25 0 nc s1) 61 0 0 (nI (nc + 1))) 69 0 0 0, nI nc) := by
        unfold fX6_classroom
        have hb : up (up M 20 0 nc s1) 0 0 0 (nI (nc + 1)) 61 0 0 = nI nc := h.cls.b
        rw [e_in hr, q_bn_p, if_neg (show ¬ (1 : Int32) = 0 by decide), hb, if_neg (show ¬ nI nc = 4 from fun e => by have := (nI_eq (a := nc) (b := 4) (by omega) (by decide)).mp e; omega), q_ax_n h4]
        simp [q_lt_e, up_e, h.cls.b, nI_1, nI_pred, e_tells, q_bn_p]
      refine ⟨_, caseA (m := fun M => fX6_classroom F M s1) (by unfold fL_classroom; rw [hC]; rfl) hM rfl (fun _ => rfl), ?_⟩
      refine inv_69 (M := up (up (up (up M 20 0 nc s1) 0 0 0 (nI (nc + 1))) 25 0 nc s1) 61 0 0 (nI (nc + 1))) ?_ rfl
      generalize hM2 : up (up (up (up M 20 0 nc s1) 0 0 0 (nI (nc + 1))) 25 0 nc s1) 61 0 0 (nI (nc + 1)) = M2
      have e0 : ∀ v, v ≠ 20 → v ≠ 0 → v ≠ 25 → v ≠ 61 → M2 v = M v := fun v h1 h2 h3 h4 => by rw [← hM2, up_o h4, up_o h3, up_o h2, up_o h1]
      refine inv_tail (nc' := nc + 1) h ⟨by rw [← hM2]; rfl, by rw [← hM2]; rfl, by omega, fun i hi => ?_⟩ ⟨by rw [e0 1 (by decide) (by decide) (by decide) (by decide)]; exact h.pup.a, by rw [e0 62 (by decide) (by decide) (by decide) (by decide)]; exact h.pup.b, h.pup.le, fun i hi => ?_⟩ ⟨by rw [e0 2 (by decide) (by decide) (by decide) (by decide)]; exact h.tsk.a, by rw [e0 63 (by decide) (by decide) (by decide) (by decide)]; exact h.tsk.b, h.tsk.le, ?_, fun i hi => ?_⟩ (Clk_of h.clk fun v hv => e0 v (by simp at hv; omega) (by simp at hv; omega) (by simp at hv; omega) (by simp at hv; omega)) (Txt_of h.txt ⟨by rw [e0 8 (by decide) (by decide) (by decide) (by decide)], e0 65 (by decide) (by decide) (by decide) (by decide), by rw [e0 22 (by decide) (by decide) (by decide) (by decide)], e0 32 (by decide) (by decide) (by decide) (by decide)⟩) h.ver (fun v hv => e0 v (by simp at hv; omega) (by simp at hv; omega) (by simp at hv; omega) (by simp at hv; omega)) (fun v hv j _ _ => by rw [e0 v (by simp [vvC] at hv; omega) (by simp [vvC] at hv; omega) (by simp [vvC] at hv; omega) (by simp [vvC] at hv; omega)]) (fun v hv => e0 v (by simp [vvM] at hv; omega) (by simp [vvM] at hv; omega) (by simp [vvM] at hv; omega) (by simp [vvM] at hv; omega)) (e0 10 (by decide) (by decide) (by decide) (by decide)) (e0 11 (by decide) (by decide) (by decide) (by decide))
      · rw [← hM2]
        simp only [up_e]
        by_cases hin : i = nc
        · subst hin
          have h1 : -720 ≤ s1.toInt := by
            have := hr.1
            rw [Int32.lt_iff_toInt_lt] at this
            have e : (-720 : Int32).toInt = -720 := rfl
            omega
          have h2 : s1.toInt ≤ 720 := by
            have := hr.2
            rw [Int32.lt_iff_toInt_lt] at this
            have e : (720 : Int32).toInt = 720 := rfl
            omega
          simp [h1, h2]
        · simp [hin]
          exact h.cls.off i (by omega)
      · rw [e0 21 (by decide) (by decide) (by decide) (by decide), e0 26 (by decide) (by decide) (by decide) (by decide)]
        obtain ⟨h1, r, h2, h3⟩ := h.pup.cls i hi
        exact ⟨h1, r, by omega, h3⟩
      · exact (Tsk_of h.tsk fun v hv => e0 v (by simp at hv; omega) (by simp at hv; omega) (by simp at hv; omega) (by simp at hv; omega)).t
      · obtain ⟨⟨r, h1, h2⟩, h3⟩ := (Tsk_of h.tsk fun v hv => e0 v (by simp at hv; omega) (by simp at hv; omega) (by simp at hv; omega) (by simp at hv; omega)).rg i hi
        exact ⟨⟨r, by omega, h2⟩, h3⟩
    · have hC : fX5_classroom F M s1 = some (M, Sum.inr 2) := by
        unfold fX5_classroom
        rw [e_needRange hr, q_bx_inl, h.cls.a, if_neg (show ¬ nI nc < 4 from nI_nlt (b := 4) (by omega) (by have := h.cls.le; omega))]
      have hM : fX6_classroom F M s1 = some (up M 69 0 0 2, 0) := by
        unfold fX6_classroom
        rw [e_in hr, q_bn_p, if_neg (show ¬ (1 : Int32) = 0 by decide), h.cls.b, if_pos (show nI nc = 4 by have := h.cls.le; rw [show nc = 4 by omega]; rfl)]
        rfl
      exact ⟨_, caseA (m := fun M => fX6_classroom F M s1) (by unfold fL_classroom; rw [hC]; rfl) hM rfl (fun h => by cases h), inv_69 hi rfl⟩
  · have hC : fX5_classroom F M s1 = some (M, Sum.inr 1) := by
      unfold fX5_classroom
      rw [e_needRangeX hr, q_bx_inr]
    have hM : fX6_classroom F M s1 = some (up M 69 0 0 1, 0) := by
      unfold fX6_classroom
      rw [e_inX hr, q_bn_p, if_pos rfl]
      rfl
    exact ⟨_, caseA (m := fun M => fX6_classroom F M s1) (by unfold fL_classroom; rw [hC]; rfl) hM rfl (fun h => by cases h), inv_69 hi rfl⟩
