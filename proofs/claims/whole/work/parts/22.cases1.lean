theorem fr {L K : List Nat} {M M' : Mem} (e : ∀ v, v ∉ L → M' v = M v) (hd : ∀ v ∈ K, v ∉ L) : ∀ v ∈ K, M' v = M v := fun v hv => e v (hd v hv)
theorem up_fr {L : List Nat} {M M' : Mem} {v j i : Nat} {y : Int32} (e : ∀ v, v ∉ L → M' v = M v) : ∀ w, w ∉ v :: L → up M' v j i y w = M w := fun w hw => by
  rw [List.mem_cons, not_or] at hw
  rw [up_o hw.1]
  exact e w hw.2
theorem fr_0 {M : Mem} : ∀ w, w ∉ ([] : List Nat) → M w = M w := fun _ _ => rfl
theorem Txt_fr {L : List Nat} {M M' : Mem} {ns : Nat} (h : Txt M ns) (e : ∀ v, v ∉ L → M' v = M v) (hd : ∀ v ∈ [8, 65, 22, 32], v ∉ L) : Txt M' ns := Txt_of h ⟨by rw [e 8 (hd 8 (by simp))], e 65 (hd 65 (by simp)), by rw [e 22 (hd 22 (by simp))], e 32 (hd 32 (by simp))⟩
theorem Ver1_mono {M : Mem} {np nt nw nhd np' nt' nw' nhd' i : Nat} (h : Ver1 M np nt nw nhd i) (h1 : np ≤ np') (h2 : nt ≤ nt') (h3 : nw ≤ nw') (h4 : nhd ≤ nhd') : Ver1 M np' nt' nw' nhd' i := by
  obtain ⟨⟨a1, q1, a2, a3⟩, ⟨b1, q2, b2, b3⟩, c, ⟨d1, q3, d2, d3⟩, e, f, g⟩ := h
  refine ⟨⟨a1, q1, by omega, a3⟩, ⟨b1, q2, by omega, b3⟩, c, ⟨d1, q3, by omega, d3⟩, e, ?_, g⟩
  rcases f with f | ⟨⟨q4, f1, f2⟩, ⟨q5, f3, f4⟩, f5⟩
  · exact Or.inl f
  · exact Or.inr ⟨⟨q4, by omega, f2⟩, ⟨q5, by omega, f4⟩, f5⟩
theorem Ver_mono {M : Mem} {np nt nw nv nhd np' nt' nw' : Nat} (h : Ver M np nt nw nv nhd) (h1 : np ≤ np') (h2 : nt ≤ nt') (h3 : nw ≤ nw') : Ver M np' nt' nw' nv nhd := ⟨h.a, h.b, h.le, h.h, fun i hi => Ver1_mono (h.v i hi) h1 h2 h3 (Nat.le_refl _), h.new⟩
def vvT : List Nat := [4, 64, 5, 67, 6, 66, 7, 68, 55, 45, 56, 46, 57, 47, 58, 48, 49] ++ vvC ++ vvM
/-- a step that leaves versions, hits and index -/
theorem tail_fr {L : List Nat} {M M' : Mem} {nc np nt nw ns nv nhd nh nc' np' nt' nw' ns' : Nat} (h : InvN M nc np nt nw ns nv nhd nh) (e : ∀ v, v ∉ L → M' v = M v) (hd : ∀ v ∈ vvT, v ∉ L) (g1 : np ≤ np') (g2 : nt ≤ nt') (g3 : nw ≤ nw') (h1 : Cls M' nc') (h2 : Pup M' nc' np') (h3 : Tsk M' nc' nt') (h4 : Clk M' nw') (h5 : Txt M' ns') : Inv M' :=
  inv_tail h h1 h2 h3 h4 h5 (Ver_mono h.ver g1 g2 g3) (fun v hv => e v (hd v (by unfold vvT; rw [List.append_assoc]; exact List.mem_append_left _ hv))) (fun v hv j _ _ => by rw [e v (hd v (by unfold vvT; exact List.mem_append_left _ (List.mem_append_right _ hv)))]) (fun v hv => e v (hd v (by unfold vvT; exact List.mem_append_right _ hv))) (e 10 (hd 10 (by simp [vvT, vvC]))) (e 11 (hd 11 (by simp [vvT, vvC])))
theorem k1 {F : Nat} {M : Mem} {x : XX} {s1 s2 s3 s4 s5 : Int32} (hi : Inv M) : ∃ r, fL_case1 F M x s1 s2 s3 s4 s5 = some r ∧ Inv r.1 := by
  obtain ⟨nc, np, nt, nw, ns, nv, nhd, nh, h⟩ := id hi
  have hc4 := h.cls.le
  have hp12 := h.pup.le
  by_cases hr : isN nc s1
  · by_cases h4 : np < 12
    · have hlt : nI np < 12 := nI_lt (b := 12) h4 (by decide)
      have hne : ¬ nI np = 12 := fun e => by have := (nI_eq (a := np) (b := 12) (by omega) (by decide)).mp e; omega
      have hC : fX5_pupil F M s1 = some (up (up M 21 0 np s1) 1 0 0 (nI (np + 1)), Sum.inl (nI np)) := by
        unfold fX5_pupil
        rw [e_needClass h.cls.a hr, q_bx_inl, h.pup.a, if_pos hlt, q_ax_n h4]
        simp [q_lt_e, up_e, h.pup.a, nI_1, nI_pred]
      have hM : fX6_pupil F (up (up M 21 0 np s1) 1 0 0 (nI (np + 1))) s1 = some (up (up (up (up (up M 21 0 np s1) 1 0 0 (nI (np + 1))) 26 0 np s1) 62 0 0 (nI (np + 1))) 69 0 0 0, nI np) := by
        unfold fX6_pupil
        have hb : up (up M 21 0 np s1) 1 0 0 (nI (np + 1)) 62 0 0 = nI np := h.pup.b
        rw [e_isClass (nc := nc) (show up (up M 21 0 np s1) 1 0 0 (nI (np + 1)) 61 0 0 = nI nc from h.cls.b) hc4 hr, q_bn_p, if_neg (show ¬ (1 : Int32) = 0 by decide), hb, if_neg hne, q_ax_n h4]
        simp [q_lt_e, up_e, h.pup.b, nI_1, nI_pred, e_tells, q_bn_p]
      refine ⟨_, caseA (m := fun M => fX6_pupil F M s1) (by unfold fL_pupil; rw [hC]; rfl) hM rfl (fun _ => rfl), ?_⟩
      refine inv_69 (M := up (up (up (up M 21 0 np s1) 1 0 0 (nI (np + 1))) 26 0 np s1) 62 0 0 (nI (np + 1))) ?_ rfl
      have e0 := up_fr (v := 62) (j := 0) (i := 0) (y := nI (np + 1)) (up_fr (v := 26) (j := 0) (i := np) (y := s1) (up_fr (v := 1) (j := 0) (i := 0) (y := nI (np + 1)) (up_fr (v := 21) (j := 0) (i := np) (y := s1) (fr_0 (M := M)))))
      obtain ⟨r, hr1, hr2⟩ := isN_of (by omega) hr
      refine tail_fr (np' := np + 1) h e0 (by decide) (by omega) (by omega) (by omega) (Cls_of h.cls (fr e0 (by decide))) ⟨rfl, rfl, by omega, fun i hin => ?_⟩ (Tsk_of h.tsk (fr e0 (by decide))) (Clk_of h.clk (fr e0 (by decide))) (Txt_fr h.txt e0 (by decide))
      simp only [up_e]
      by_cases hj : i = np
      · subst hj
        simp [hr2]
        exact ⟨r, hr1, rfl⟩
      · simp [hj]
        exact h.pup.cls i (by omega)
    · have hlt : ¬ nI np < 12 := nI_nlt (b := 12) (by omega) (by omega)
      have hC : fX5_pupil F M s1 = some (M, Sum.inr 2) := by
        unfold fX5_pupil
        rw [e_needClass h.cls.a hr, q_bx_inl, h.pup.a, if_neg hlt]
      have hM : fX6_pupil F M s1 = some (up M 69 0 0 2, 0) := by
        unfold fX6_pupil
        rw [e_isClass h.cls.b hc4 hr, q_bn_p, if_neg (show ¬ (1 : Int32) = 0 by decide), h.pup.b, if_pos (show nI np = 12 by rw [show np = 12 by omega]; rfl)]
        rfl
      exact ⟨_, caseA (m := fun M => fX6_pupil F M s1) (by unfold fL_pupil; rw [hC]; rfl) hM rfl (fun h => by cases h), inv_69 hi rfl⟩
  · have hC : fX5_pupil F M s1 = some (M, Sum.inr 3) := by
      unfold fX5_pupil
      rw [e_needClassX h.cls.a hr, q_bx_inr]
    have hM : fX6_pupil F M s1 = some (up M 69 0 0 1, 0) := by
      unfold fX6_pupil
      rw [e_isClassX h.cls.b hc4 hr, q_bn_p, if_pos rfl]
      rfl
    exact ⟨_, caseA (m := fun M => fX6_pupil F M s1) (by unfold fL_pupil; rw [hC]; rfl) hM rfl (fun h => by cases h), inv_69 hi rfl⟩
theorem inR_of {a : Int32} {lo hi : Nat} (hh : hi < 2 ^ 31) (h : inR a (nI lo) (nI hi)) (hl : lo ≤ hi) : ∃ q, lo ≤ q ∧ q ≤ hi ∧ a = nI q := by
  have h0 : ¬ a < 0 := fun h9 => h.1 (Int32.lt_of_lt_of_le h9 (nI_pos' (by omega)))
  obtain ⟨j, hj, rfl⟩ := nI_of h0
  refine ⟨j, ?_, ?_, rfl⟩
  · have := h.1
    rw [nI_ltI hj (by omega)] at this
    omega
  · have := h.2
    rw [nI_ltI hh hj] at this
    omega
theorem k3 {F : Nat} {M : Mem} {x : XX} {s1 s2 s3 s4 s5 : Int32} (hi : Inv M) : ∃ r, fL_case3 F M x s1 s2 s3 s4 s5 = some r ∧ Inv r.1 := by
  obtain ⟨nc, np, nt, nw, ns, nv, nhd, nh, h⟩ := id hi
  have hw := h.clk.le
  by_cases hr : inR s1 1 100000
  · obtain ⟨q, hq1, hq2, hq⟩ := inR_of (lo := 1) (hi := 100000) (by decide) hr (by decide)
    subst hq
    by_cases h4 : nw + q ≤ 1000000
    · have hle : nI (nw + q) ≤ 1000000 := nI_le (b := 1000000) h4 (by decide)
      have hC : fX5_pass F M (nI q) = some (up M 3 0 0 (nI (nw + q)), Sum.inl (nI (nw + q))) := by
        unfold fX5_pass
        rw [e_needRange hr, q_bx_inl, h.clk.a, nI_add, if_pos hle]
        simp [q_lt_e, up_e]
      have hM : fX6_pass F (up M 3 0 0 (nI (nw + q))) (nI q) = some (up (up (up M 3 0 0 (nI (nw + q))) 60 0 0 (nI (nw + q))) 69 0 0 0, nI (nw + q)) := by
        unfold fX6_pass
        have hb : up M 3 0 0 (nI (nw + q)) 60 0 0 = nI nw := h.clk.b
        rw [e_in hr, q_bn_p, if_neg (show ¬ (1 : Int32) = 0 by decide), hb, nI_add, if_pos hle]
        simp [q_lt_e, up_e, e_tells, q_bn_p]
      refine ⟨_, caseA (m := fun M => fX6_pass F M (nI q)) (by unfold fL_pass; rw [hC]; rfl) hM rfl (fun _ => rfl), ?_⟩
      refine inv_69 (M := up (up M 3 0 0 (nI (nw + q))) 60 0 0 (nI (nw + q))) ?_ rfl
      have e0 := up_fr (v := 60) (j := 0) (i := 0) (y := nI (nw + q)) (up_fr (v := 3) (j := 0) (i := 0) (y := nI (nw + q)) (fr_0 (M := M)))
      exact tail_fr (nw' := nw + q) h e0 (by decide) (by omega) (by omega) (by omega) (Cls_of h.cls (fr e0 (by decide))) (Pup_of h.pup (fr e0 (by decide))) (Tsk_of h.tsk (fr e0 (by decide))) ⟨rfl, rfl, h4⟩ (Txt_fr h.txt e0 (by decide))
    · have hle : ¬ nI (nw + q) ≤ 1000000 := nI_ge (a := 1000000) (by omega) (by omega)
      have hC : fX5_pass F M (nI q) = some (M, Sum.inr 2) := by
        unfold fX5_pass
        rw [e_needRange hr, q_bx_inl, h.clk.a, nI_add, if_neg hle]
      have hM : fX6_pass F M (nI q) = some (up M 69 0 0 2, 0) := by
        unfold fX6_pass
        rw [e_in hr, q_bn_p, if_neg (show ¬ (1 : Int32) = 0 by decide), h.clk.b, nI_add, if_neg hle]
        rfl
      exact ⟨_, caseA (m := fun M => fX6_pass F M (nI q)) (by unfold fL_pass; rw [hC]; rfl) hM rfl (fun h => by cases h), inv_69 hi rfl⟩
  · have hC : fX5_pass F M s1 = some (M, Sum.inr 1) := by
      unfold fX5_pass
      rw [e_needRangeX hr, q_bx_inr]
    have hM : fX6_pass F M s1 = some (up M 69 0 0 1, 0) := by
      unfold fX6_pass
      rw [e_inX hr, q_bn_p, if_pos rfl]
      rfl
    exact ⟨_, caseA (m := fun M => fX6_pass F M s1) (by unfold fL_pass; rw [hC]; rfl) hM rfl (fun h => by cases h), inv_69 hi rfl⟩
theorem k4 {F : Nat} {M : Mem} {x : XX} {s1 s2 s3 s4 s5 : Int32} (hi : Inv M) : ∃ r, fL_case4 F M x s1 s2 s3 s4 s5 = some r ∧ Inv r.1 := by
  obtain ⟨nc, np, nt, nw, ns, nv, nhd, nh, h⟩ := id hi
  have hc4 := h.cls.le
  by_cases hr : isN nc s1
  · obtain ⟨q, hq1, hq2⟩ := isN_of (by omega) hr
    have hC : fX5_clock F M s1 = some (M, Sum.inl (M 60 0 0 + M 25 0 q)) := by
      unfold fX5_clock
      rw [e_needClass h.cls.a hr, q_bx_inl, hq2, q_ax_n (show q < 4 by omega), h.clk.a, h.clk.b, (h.cls.off q hq1).1]
    have hM : fX6_clock F M s1 = some (up M 69 0 0 0, M 60 0 0 + M 25 0 q) := by
      unfold fX6_clock
      rw [e_isClass h.cls.b hc4 hr, q_bn_p, if_neg (show ¬ (1 : Int32) = 0 by decide), hq2, q_ax_n (show q < 4 by omega)]
      rfl
    exact ⟨_, caseA (m := fun M => fX6_clock F M s1) (by unfold fL_clock; rw [hC]; rfl) hM rfl (fun _ => rfl), inv_69 hi rfl⟩
  · have hC : fX5_clock F M s1 = some (M, Sum.inr 3) := by
      unfold fX5_clock
      rw [e_needClassX h.cls.a hr, q_bx_inr]
    have hM : fX6_clock F M s1 = some (up M 69 0 0 1, 0) := by
      unfold fX6_clock
      rw [e_isClassX h.cls.b hc4 hr, q_bn_p, if_pos rfl]
      rfl
    exact ⟨_, caseA (m := fun M => fX6_clock F M s1) (by unfold fL_clock; rw [hC]; rfl) hM rfl (fun h => by cases h), inv_69 hi rfl⟩
theorem k28 {F : Nat} {M : Mem} {x : XX} {s1 s2 s3 s4 s5 : Int32} (hi : Inv M) : ∃ r, fL_case28 F M x s1 s2 s3 s4 s5 = some r ∧ Inv r.1 := by
  obtain ⟨nc, np, nt, nw, ns, nv, nhd, nh, h⟩ := id hi
  have hC : fX5_hits F M = some (M, nI nh) := by
    unfold fX5_hits
    rw [h.hts.a]
  have hM : fX6_hits F M = some (up M 69 0 0 0, nI nh) := by
    unfold fX6_hits
    rw [e_tells, q_bn_p, h.hts.b]
  exact ⟨_, caseB (F := F) (m := fun M => fX6_hits F M) hC hM, inv_69 hi rfl⟩
theorem k8 {F : Nat} {M : Mem} {x : XX} {s1 s2 s3 s4 s5 : Int32} (hi : Inv M) : ∃ r, fL_case8 F M x s1 s2 s3 s4 s5 = some r ∧ Inv r.1 := by
  obtain ⟨nc, np, nt, nw, ns, nv, nhd, nh, h⟩ := id hi
  have hC : fX5_wipe F M = some (up M 8 60 0 0, nI ns) := by
    unfold fX5_wipe
    rw [h.txt.a]
    rfl
  have hM : fX6_wipe F (up M 8 60 0 0) = some (up (up (up M 8 60 0 0) 65 0 0 0) 69 0 0 0, nI ns) := by
    unfold fX6_wipe
    rw [show up M 8 60 0 0 65 0 0 = nI ns from h.txt.b]
    rfl
  refine ⟨_, caseB (F := F) (m := fun M => fX6_wipe F M) hC hM, inv_69 (M := up (up M 8 60 0 0) 65 0 0 0) ?_ rfl⟩
  have e0 := up_fr (v := 65) (j := 0) (i := 0) (y := 0) (up_fr (v := 8) (j := 60) (i := 0) (y := 0) (fr_0 (M := M)))
  refine inv_tail (ns' := 0) h (Cls_of h.cls (fr e0 (by decide))) (Pup_of h.pup (fr e0 (by decide))) (Tsk_of h.tsk (fr e0 (by decide))) (Clk_of h.clk (fr e0 (by decide))) ⟨rfl, rfl, by decide, fun i h => by omega⟩ h.ver (fr e0 (by decide)) (fun v hv j hj h9 => ?_) (fr e0 (by decide)) (e0 10 (by decide)) (e0 11 (by decide))
  by_cases h8 : v = 8
  · subst h8
    funext i
    have : j ≠ 60 := by have := h9 (Or.inl rfl); omega
    rw [up_o (by decide), up_j this]
  · rw [up_o (by intro h; subst h; exact absurd hv (by decide)), up_o h8]
theorem k27 {F : Nat} {M : Mem} {x : XX} {s1 s2 s3 s4 s5 : Int32} (hi : Inv M) : ∃ r, fL_case27 F M x s1 s2 s3 s4 s5 = some r ∧ Inv r.1 := by
  obtain ⟨nc, np, nt, nw, ns, nv, nhd, nh, h⟩ := id hi
  by_cases hr : inR s1 1 37
  · obtain ⟨q, hq1, hq2, hq⟩ := inR_of (lo := 1) (hi := 37) (by decide) hr (by decide)
    have hC : fX5_threshold F M s1 = some (up M 7 0 0 s1, Sum.inl (M 68 0 0)) := by
      unfold fX5_threshold
      rw [e_needRange hr, q_bx_inl, h.hts.th.1]
      rfl
    have hM : fX6_threshold F (up M 7 0 0 s1) s1 = some (up (up (up M 7 0 0 s1) 68 0 0 s1) 69 0 0 0, M 68 0 0) := by
      unfold fX6_threshold
      rw [e_in hr]
      rfl
    refine ⟨_, caseA (m := fun M => fX6_threshold F M s1) (by unfold fL_threshold; rw [hC]; rfl) hM rfl (fun _ => rfl), inv_69 (M := up (up M 7 0 0 s1) 68 0 0 s1) ?_ rfl⟩
    have e0 := up_fr (v := 68) (j := 0) (i := 0) (y := s1) (up_fr (v := 7) (j := 0) (i := 0) (y := s1) (fr_0 (M := M)))
    refine ⟨nc, np, nt, nw, ns, nv, nhd, nh, Cls_of h.cls (fr e0 (by decide)), Pup_of h.pup (fr e0 (by decide)), Tsk_of h.tsk (fr e0 (by decide)), Clk_of h.clk (fr e0 (by decide)), Txt_fr h.txt e0 (by decide), Ver_of h.ver (fr e0 (by decide)) (fun v hv j _ => by rw [fr e0 (K := vvC) (by decide) v hv]) (fun v hv => by rw [fr e0 (K := vvM) (by decide) v hv]), ⟨h.hts.a, h.hts.b, h.hts.le, ⟨rfl, q, hq1, hq2, hq⟩, h.hts.h, h.hts.new⟩, Lst_of h.lst (fr e0 (by decide)), Idx_of h.idx h.ver.le (fun v hv => by rw [fr e0 (K := [9, 23, 24]) (by decide) v hv]) ⟨e0 38 (by decide), fun j _ => ⟨by rw [e0 22 (by decide)], by rw [e0 8 (by decide)]⟩⟩⟩
  · have hC : fX5_threshold F M s1 = some (M, Sum.inr 1) := by
      unfold fX5_threshold
      rw [e_needRangeX hr, q_bx_inr]
    have hM : fX6_threshold F M s1 = some (up M 69 0 0 1, 0) := by
      unfold fX6_threshold
      rw [e_inX hr, q_bn_p, if_pos rfl]
      rfl
    exact ⟨_, caseA (m := fun M => fX6_threshold F M s1) (by unfold fL_threshold; rw [hC]; rfl) hM rfl (fun h => by cases h), inv_69 hi rfl⟩
