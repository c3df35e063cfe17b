theorem vcount_add {M M' : Mem} {nv q : Nat} (hq : q < nv) (hin : ¬ M 38 0 q = 1) (h0 : M' 38 0 q = 1) (e : ∀ i, i < nv → i ≠ q → M' 38 0 i = M 38 0 i) (e' : ∀ i, i < nv → M' 22 i = M 22 i ∧ M' 8 i = M 8 i) : vcount M' nv = fun x => vcount M nv x + hv (wcount (M 22 q) (M 8 q 0).toNatClampNeg) x := by
  funext x
  rw [vcount_sm, vcount_sm]
  have s1 : hv (wcount (M 22 q) (M 8 q 0).toNatClampNeg) x = sm nv (fun i => if i = q then hv (wcount (M 22 q) (M 8 q 0).toNatClampNeg) x else 0) := by rw [sm_at, if_pos hq]
  rw [s1, ← sm_add]
  refine sm_congr fun i hi => ?_
  unfold hd
  by_cases k : i = q
  · rw [if_pos k, k, if_pos h0, if_neg hin, Nat.zero_add, (e' q hq).1, (e' q hq).2]
  · rw [if_neg k, e i hi k, (e' i hi).1, (e' i hi).2, Nat.add_zero]
theorem e_hand {F nc np nt nw ns nv nhd nh q : Nat} {M : Mem} (hF : 10000 ≤ F) (h : InvN M nc np nt nw ns nv nhd nh) (hq : q < nv) (hno : M 14 q 0 = -1) (ht : nh + sm nv (mv M q) ≤ 40) : ∃ M2 M3 : Mem, fX5_hand F M (nI q) = some (M2, Sum.inl (nI (sm nv (mv M q)))) ∧ fX6_hand F M2 (nI q) = some (up M3 69 0 0 0, nI (sm nv (mv M q))) ∧ Inv M3 := by
  have h60 := h.ver.le
  have h40 := h.hts.le
  have hv1 := h.ver.v q hq
  have hw := h.clk.le
  have hnhd := nhd_le h.ver
  obtain ⟨u, hu, hB, g1, g2⟩ := ver_bag h.ver hq
  obtain ⟨w, hW⟩ := h.idx.i
  have hb60 := bl60
  have hbq := bl_v (a := q) (by omega)
  have hst : M 15 q 0 = -1 ∧ M 16 q 0 = 0 ∧ M 38 0 q = 0 := by
    rcases hv1.st with ⟨-, s⟩ | ⟨⟨k, hk, s1⟩, -, -⟩
    · exact s
    · rw [hno] at s1
      exact absurd s1.symm (nI_nm1 (by omega))
  have hn1 : ¬ M 38 0 q = 1 := by
    rw [hst.2.2]
    decide
  have hroom := idx_room h.ver hW hq hn1
  -- the class
  obtain ⟨M7, a1, a2, a3, a4, a5⟩ := e_addHits (F := F) hF h.ver hw hq ht nv 0 F M (by omega) (by omega) (fun _ _ => rfl) h.hts.a (fun _ _ => ⟨rfl, rfl, rfl⟩) (fun l hl => by omega)
  obtain ⟨M11, hM11⟩ : ∃ M11 : Mem, M11 = up (up (up M7 14 q 0 (nI nw)) 15 q 0 (nI nhd)) 5 0 0 (nI (nhd + 1)) := ⟨_, rfl⟩
  have m11 : ∀ v, v ∉ [5, 15, 14, 6, 55, 56, 57] → M11 v = M v := fun v hv => by
    simp only [List.mem_cons, List.not_mem_nil, or_false, not_or] at hv
    rw [hM11, up_o hv.1, up_o hv.2.1, up_o hv.2.2.1, a2 v (by simp [hv])]
  have m11h : ∀ v, v ∉ [5, 15, 14] → M11 v = M7 v := fun v hv => by
    simp only [List.mem_cons, List.not_mem_nil, or_false, not_or] at hv
    rw [hM11, up_o hv.1, up_o hv.2.1, up_o hv.2.2]
  have hW1 : BagIs M11 60 w (fun x => vcount M nv x + sm 0 (fun l => if x = M11 23 q l then 1 else 0)) := by
    have e0 : (fun x => vcount M nv x + sm 0 (fun l => if x = M11 23 q l then 1 else 0)) = vcount M nv := by
      funext x
      exact Nat.add_zero _
    rw [e0]
    exact BagIs_of hW (fun v hv => by rw [m11 v (by simp at hv ⊢; omega)])
  have hB1 : BagIs M11 q u (wcount (M 22 q) (M 8 q 0).toNatClampNeg) := BagIs_of hB (fun v hv => by rw [m11 v (by simp at hv ⊢; omega)])
  obtain ⟨M2, w2, d1, -, d2, d3, d4⟩ := e_adds (F := F) (m0 := vcount M nv) hF (show q ≠ 60 by omega) (by omega) (by omega) hB1 u 0 F w M11 (by omega) (by omega) rfl rfl hW1 (by omega)
  have m2 : ∀ v, v ∉ [9, 24, 23, 5, 15, 14, 6, 55, 56, 57] → M2 v = M v := fun v hv => by
    simp only [List.mem_cons, List.not_mem_nil, or_false, not_or] at hv
    rw [d3 v (by simp [hv]), m11 v (by simp [hv])]
  -- the reference
  obtain ⟨M8, b1, b2, b3, b4, b5⟩ := e_hits83 (F := F) (M' := M2) (r := nI (sm nv (mv M q))) hF h.ver h.hts hq ht (fr m2 (by decide)) nv 0 F M2 (by omega) (by omega) (fun _ _ => rfl) (by rw [m2 66 (by decide)]; exact h.hts.b) (fun _ _ => ⟨rfl, rfl, rfl, rfl⟩) (fun l hl => by omega)
  have c60 : M2 60 0 0 = nI nw := by rw [m2 60 (by decide)]; exact h.clk.b
  have c67 : M2 67 0 0 = nI nhd := by rw [m2 67 (by decide)]; exact h.ver.h.2.1
  rw [c60, c67, nI_1] at b1
  obtain ⟨M3, hM3⟩ : ∃ M3 : Mem, M3 = up (up (up (up M8 38 0 q 1) 39 0 q (nI nw)) 67 0 0 (nI (nhd + 1))) 40 0 q (nI (nhd + 1)) := ⟨_, rfl⟩
  rw [← hM3] at b1
  have m3 : ∀ v, v ∉ [40, 67, 39, 38, 66, 45, 46, 47, 48] → M3 v = M2 v := fun v hv => by
    simp only [List.mem_cons, List.not_mem_nil, or_false, not_or] at hv
    rw [hM3, up_o hv.1, up_o hv.2.1, up_o hv.2.2.1, up_o hv.2.2.2.1, b2 v (by simp [hv])]
  have m3h : ∀ v, v ∉ [40, 67, 39, 38] → M3 v = M8 v := fun v hv => by
    simp only [List.mem_cons, List.not_mem_nil, or_false, not_or] at hv
    rw [hM3, up_o hv.1, up_o hv.2.1, up_o hv.2.2.1, up_o hv.2.2.2]
  have mm : ∀ v, v ∉ [40, 67, 39, 38, 66, 45, 46, 47, 48, 9, 24, 23, 5, 15, 14, 6, 55, 56, 57] → M3 v = M v := fun v hv => by
    simp only [List.mem_cons, List.not_mem_nil, or_false, not_or] at hv
    rw [m3 v (by simp [hv]), m2 v (by simp [hv])]
  have m14 : ∀ i, M3 14 i 0 = if i = q then nI nw else M 14 i 0 := fun i => by
    rw [m3 14 (by decide), d3 14 (by decide), hM11, up_o (by decide), up_o (by decide)]
    by_cases k : i = q
    · rw [k, up_s, if_pos rfl]
    · rw [up_j k, if_neg k, a2 14 (by decide)]
  have m15 : ∀ i, M3 15 i 0 = if i = q then nI nhd else M 15 i 0 := fun i => by
    rw [m3 15 (by decide), d3 15 (by decide), hM11, up_o (by decide)]
    by_cases k : i = q
    · rw [k, up_s, if_pos rfl]
    · rw [up_j k, if_neg k, up_o (by decide), a2 15 (by decide)]
  have m38 : ∀ i, M3 38 0 i = if i = q then 1 else M 38 0 i := fun i => by
    rw [hM3, up_o (by decide), up_o (by decide), up_o (by decide)]
    by_cases k : i = q
    · rw [k, up_s, if_pos rfl]
    · rw [up_i k, if_neg k, b2 38 (by decide), m2 38 (by decide)]
  have m39 : ∀ i, M3 39 0 i = if i = q then nI nw else M 39 0 i := fun i => by
    rw [hM3, up_o (by decide), up_o (by decide)]
    by_cases k : i = q
    · rw [k, up_s, if_pos rfl]
    · rw [up_i k, if_neg k, up_o (by decide), b2 39 (by decide), m2 39 (by decide)]
  have m40 : ∀ i, M3 40 0 i = if i = q then nI (nhd + 1) else M 40 0 i := fun i => by
    rw [hM3]
    by_cases k : i = q
    · rw [k, up_s, if_pos rfl]
    · rw [up_i k, if_neg k, up_o (by decide), up_o (by decide), up_o (by decide), b2 40 (by decide), m2 40 (by decide)]
  have mbag : ∀ v ∈ [9, 23, 24], ∀ j, j ≠ 60 → M3 v j = M v j := fun v hv j hj => by
    rw [m3 v (by simp at hv ⊢; omega), d4 v j hj, m11 v (by simp at hv ⊢; omega)]
  have mcls : ∀ v ∈ [55, 56, 57, 6], M3 v = M7 v := fun v hv => by
    rw [m3 v (by simp at hv ⊢; omega), d3 v (by simp at hv ⊢; omega), m11h v (by simp at hv ⊢; omega)]
  have mrl : ∀ v ∈ [45, 46, 47, 48, 66], M3 v = M8 v := fun v hv => m3h v (by simp at hv ⊢; omega)
  have hV1 : ∀ i, i < nv → Ver1 M3 np nt nw (nhd + 1) i := fun i hi => by
    refine Ver1_st (h.ver.v i hi) (fun v hv => ?_) (fun v hv => by rw [mm v (by simp at hv ⊢; omega)]) ?_ ?_
    · by_cases k : v ∈ [9, 23, 24]
      · exact mbag v k i (by omega)
      · rw [mm v (by simp at hv k ⊢; omega)]
    · rw [m14, m39]
      by_cases k : i = q
      · rw [if_pos k, if_pos k]
      · rw [if_neg k, if_neg k]
        exact (h.ver.v i hi).hnd
    · rw [m14, m15, mm 16 (by decide), m38, m40]
      by_cases k : i = q
      · rw [if_pos k, if_pos k, if_pos k, if_pos k, k]
        exact Or.inr ⟨⟨nw, Nat.le_refl _, rfl⟩, ⟨nhd, by omega, rfl, rfl⟩, Or.inl ⟨hst.2.1, rfl⟩⟩
      · rw [if_neg k, if_neg k, if_neg k, if_neg k]
        rcases (h.ver.v i hi).st with s | ⟨s1, ⟨s, hs, s2⟩, s3⟩
        · exact Or.inl s
        · exact Or.inr ⟨s1, ⟨s, by omega, s2⟩, s3⟩
  have hlost : ∀ p t k, k < nh → (lostBy M3 p t k ↔ lostBy M p t k) := fun p t k hk => by
    unfold lostBy
    rw [mm 58 (by decide), mm 10 (by decide), mm 11 (by decide), mcls 55 (by simp), mcls 56 (by simp), (a4 k hk).1, (a4 k hk).2.1]
  have hnl : ∀ p t k, nh ≤ k → k < 40 → ¬ lostBy M3 p t k := fun p t k hk hk4 h9 => by
    obtain ⟨w9, hw9, ew, -⟩ := h9
    rw [mm 58 (by decide), h.hts.new k hk hk4] at ew
    exact nI_nm1 (by omega) ew.symm
  have hInv : Inv M3 := by
    refine ⟨nc, np, nt, nw, ns, nv, nhd + 1, nh + sm nv (mv M q), Cls_of h.cls (fr mm (by decide)), Pup_of h.pup (fr mm (by decide)), Tsk_of h.tsk (fr mm (by decide)), Clk_of h.clk (fr mm (by decide)), Txt_fr h.txt mm (by decide), ⟨by rw [mm 4 (by decide)]; exact h.ver.a, by rw [mm 64 (by decide)]; exact h.ver.b, h60, ⟨?_, ?_, ?_⟩, hV1, fun i hin h6 => ?_⟩, ⟨by rw [mcls 6 (by simp)]; exact a3, by rw [mrl 66 (by simp)]; exact b3, ht, by rw [mm 7 (by decide), mm 68 (by decide)]; exact h.hts.th, fun k hk => ?_, fun k hk hk4 => ?_⟩, fun p t hp ht9 => ?_, ⟨w2, ?_⟩⟩
    · rw [m3 5 (by decide), d3 5 (by decide), hM11, up_s]
    · rw [hM3, up_o (by decide), up_s]
    · have s0 := h.ver.h.2.2
      rw [len_sm] at s0 ⊢
      have s1 : sm nv (fun i => (if decide (M 14 i 0 ≠ -1) = true then 1 else 0) + (if i = q then 1 else 0)) ≤ sm nv (fun i => if decide (M3 14 i 0 ≠ -1) = true then 1 else 0) := sm_le fun i hi => by
        rw [m14]
        by_cases k : i = q
        · rw [if_pos k, if_pos k, k, hno, if_neg (show ¬ decide ((-1 : Int32) ≠ -1) = true by decide), if_pos (decide_eq_true (nI_nm1 (q := nw) (by omega)))]
          exact Nat.le_refl _
        · rw [if_neg k, if_neg k]
          exact Nat.le_refl _
      rw [sm_add, sm_at, if_pos hq] at s1
      omega
    · rw [m14, m15, mm 16 (by decide), mm 17 (by decide), m38, mm 41 (by decide), if_neg (by omega), if_neg (by omega), if_neg (by omega)]
      exact h.ver.new i hin h6
    · rw [mcls 55 (by simp), mrl 45 (by simp), mcls 56 (by simp), mrl 46 (by simp), mcls 57 (by simp), mrl 47 (by simp), mm 58 (by decide), mrl 48 (by simp)]
      by_cases g : k < nh
      · obtain ⟨x1, x2, x3⟩ := a4 k g
        obtain ⟨y1, y2, y3, y4⟩ := b4 k g
        rw [x1, x2, x3, y1, y2, y3, y4, m2 45 (by decide), m2 46 (by decide), m2 47 (by decide), m2 48 (by decide)]
        exact h.hts.h k g
      · obtain ⟨l, l1, l2, l3⟩ := sm_surj (f := mv M q) (fun i => mv_01) (c := k - nh) (n := nv) (by omega)
        have e9 : nh + sm l (mv M q) = k := by omega
        obtain ⟨x1, x2, x3⟩ := a5 l l1 l2
        obtain ⟨y1, y2, y3, y4⟩ := b5 l l1 l2
        rw [e9] at x1 x2 x3 y1 y2 y3 y4
        rw [x1, x2, x3, y1, y2, y3, y4, h.hts.new k (by omega) (by omega)]
        refine ⟨rfl, rfl, rfl, rfl, ⟨q, hq, rfl⟩, ⟨l, l1, rfl⟩, ⟨cmn M l q, ?_, cmn_le h.ver l1 hq, rfl⟩, Or.inl rfl⟩
        obtain ⟨th, th1, th2, th3⟩ := h.hts.th.2
        have hc : ¬ nI (cmn M l q) < M 7 0 0 := fun h9 => by
          unfold mv at l2
          rw [if_pos h9] at l2
          split at l2
          · split at l2
            · exact absurd l2 (by decide)
            · exact absurd l2 (by decide)
          · exact absurd l2 (by decide)
        rw [th3] at hc
        have := cmn_le h.ver l1 hq
        rw [nI_ltI (by omega) (by omega)] at hc
        omega
    · rw [mm 58 (by decide)]
      exact h.hts.new k (by omega) hk4
    · rw [mm 49 (by decide)]
      rcases h.lst p t hp ht9 with ⟨x1, k, x2, x3⟩ | ⟨x1, x2⟩
      · exact Or.inl ⟨x1, k, by omega, (hlost p t k x2).mpr x3⟩
      · refine Or.inr ⟨x1, fun ⟨k, y1, y2⟩ => ?_⟩
        by_cases g : k < nh
        · exact x2 ⟨k, g, (hlost p t k g).mp y2⟩
        · exact hnl p t k (by omega) (by omega) y2
    · rw [vcount_add hq hn1 (by rw [m38, if_pos rfl]) (fun i _ k => by rw [m38, if_neg k]) (fun i _ => ⟨by rw [mm 22 (by decide)], by rw [mm 8 (by decide)]⟩)]
      exact BagIs_of d2 (fun v hv => by rw [m3 v (by simp at hv ⊢; omega)])
  have hle : nI nh + nI (sm nv (mv M q)) ≤ 40 := by
    rw [nI_add]
    exact nI_le (b := 40) ht (by decide)
  refine ⟨M2, M3, ?_, ?_, hInv⟩
  · unfold fX5_hand
    rw [e_needVersion h.ver.a (isN_nI (by omega) hq), q_bx_inl, q_ax_n (show q < 60 by omega), if_pos hno, show fX5_countMatches F M q = some (M, nI (sm nv (mv M q))) from e_matches (F := F) hF h.ver hw hq nv 0 F (by omega) (by omega), q_bn_p, q_lt_e, h.hts.a, if_pos hle, show fX5_addHits F M (nI q) = some (M7, ()) by unfold fX5_addHits; rw [q_ax_n (show q < 60 by omega)]; exact a1, q_bn_p, q_lt_e, a2 3 (by decide), h.clk.a, q_lt_e, show up M7 14 q 0 (nI nw) 5 0 0 = nI nhd by rw [up_o (by decide), a2 5 (by decide)]; exact h.ver.h.1, q_lt_e, show up (up M7 14 q 0 (nI nw)) 15 q 0 (nI nhd) 5 0 0 = nI nhd by rw [up_o (by decide), up_o (by decide), a2 5 (by decide)]; exact h.ver.h.1, nI_1, ← hM11, show fX0_addKeysOf F M11 60 q = some (M2, ()) from d1, q_bn_p]
  · unfold fX6_hand
    rw [e_isVersion (show M2 64 0 0 = nI nv by rw [m2 64 (by decide)]; exact h.ver.b) (by omega) (isN_nI (by omega) hq), q_bn_p, z10, q_ax_n (show q < 60 by omega), if_pos (show M2 38 0 q = 0 by rw [m2 38 (by decide)]; exact hst.2.2), q_lt_e, q_lt_e]
    have := e_hits33 (F := F) (M' := M2) hF h.ver h.hts hq (fr m2 (by decide)) nv 0 F (by omega) (by omega)
    rw [if_pos hle] at this
    exact this.trans b1
theorem k14 {F : Nat} {M : Mem} {x : XX} {s1 s2 s3 s4 s5 : Int32} (hF : 10000 ≤ F) (hi : Inv M) : ∃ r, fL_case14 F M x s1 s2 s3 s4 s5 = some r ∧ Inv r.1 := by
  obtain ⟨nc, np, nt, nw, ns, nv, nhd, nh, h⟩ := id hi
  have h60 := h.ver.le
  have h40 := h.hts.le
  have hw := h.clk.le
  by_cases hr : isN nv s1
  · obtain ⟨q, hq, eq⟩ := isN_of (by omega) hr
    have hv1 := h.ver.v q hq
    by_cases hno : M 14 q 0 = -1
    · have h38 : M 38 0 q = 0 := by
        rcases hv1.st with ⟨-, -, -, s⟩ | ⟨⟨k, hk, s1⟩, -, -⟩
        · exact s
        · rw [hno] at s1
          exact absurd s1.symm (nI_nm1 (by omega))
      by_cases ht : nh + sm nv (mv M q) ≤ 40
      · obtain ⟨M2, M3, hC, hM, hI⟩ := e_hand hF h hq hno ht
        rw [← eq] at hC hM
        exact ⟨_, caseA (m := fun M => fX6_hand F M s1) (by unfold fL_hand; rw [hC]; rfl) hM rfl (fun _ => rfl), inv_69 hI rfl⟩
      · have hsm : sm nv (mv M q) ≤ 60 := by
          have : sm nv (mv M q) ≤ sm nv (fun _ => 1) := sm_le fun i _ => by
            rcases mv_01 (M := M) (q := q) (i := i) with z | z <;> omega
          rw [sm_const] at this
          omega
        have hle : ¬ nI nh + nI (sm nv (mv M q)) ≤ 40 := by
          rw [nI_add]
          exact nI_ge (a := 40) (by omega) (by omega)
        have hC : fX5_hand F M s1 = some (M, Sum.inr 2) := by
          unfold fX5_hand
          rw [e_needVersion h.ver.a hr, q_bx_inl, eq, q_ax_n (show q < 60 by omega), if_pos hno, show fX5_countMatches F M q = some (M, nI (sm nv (mv M q))) from e_matches (F := F) hF h.ver hw hq nv 0 F (by omega) (by omega), q_bn_p, q_lt_e, h.hts.a, if_neg hle]
        have hM : fX6_hand F M s1 = some (up M 69 0 0 3, 0) := by
          unfold fX6_hand
          rw [e_isVersion h.ver.b (by omega) hr, q_bn_p, z10, eq, q_ax_n (show q < 60 by omega), if_pos h38, q_lt_e, q_lt_e]
          have := e_hits33 (F := F) (M' := M) hF h.ver h.hts hq (fun _ _ => rfl) nv 0 F (by omega) (by omega)
          rw [if_neg hle] at this
          exact this
        exact ⟨_, caseA (m := fun M => fX6_hand F M s1) (by unfold fL_hand; rw [hC]; rfl) hM rfl (fun h => by cases h), inv_69 hi rfl⟩
    · have h38 : ¬ M 38 0 q = 0 := by
        rcases hv1.st with ⟨s, -⟩ | ⟨-, -, ⟨-, s⟩ | ⟨-, s⟩⟩
        · exact absurd s hno
        · rw [s]
          decide
        · rw [s]
          decide
      have hC : fX5_hand F M s1 = some (M, Sum.inr 5) := by
        unfold fX5_hand
        rw [e_needVersion h.ver.a hr, q_bx_inl, eq, q_ax_n (show q < 60 by omega), if_neg hno]
      have hM : fX6_hand F M s1 = some (up M 69 0 0 2, 0) := by
        unfold fX6_hand
        rw [e_isVersion h.ver.b (by omega) hr, q_bn_p, z10, eq, q_ax_n (show q < 60 by omega), if_neg h38]
        rfl
      exact ⟨_, caseA (m := fun M => fX6_hand F M s1) (by unfold fL_hand; rw [hC]; rfl) hM rfl (fun h => by cases h), inv_69 hi rfl⟩
  · have hC : fX5_hand F M s1 = some (M, Sum.inr 3) := by
      unfold fX5_hand
      rw [e_needVersionX h.ver.a hr, q_bx_inr]
    have hM : fX6_hand F M s1 = some (up M 69 0 0 1, 0) := by
      unfold fX6_hand
      rw [e_isVersionX h.ver.b (by omega) hr, q_bn_p, z00]
      rfl
    exact ⟨_, caseA (m := fun M => fX6_hand F M s1) (by unfold fL_hand; rw [hC]; rfl) hM rfl (fun h => by cases h), inv_69 hi rfl⟩
