/-- both sides count the open hits -/
theorem e_opens {F nh : Nat} {M M' : Mem} (h40 : nh ≤ 40) (a : M 6 0 0 = nI nh) (b : M' 66 0 0 = nI nh) (e : ∀ i, i < nh → M 58 i 0 = M' 48 0 i) : ∀ (d i n n' : Nat) (c : Int32), i + d = nh → d < n → d < n' → ∃ y, fX5_countOpenHits_4 F n M c (nI i) = some (M, y) ∧ fX6_hear_97 F n' M' c (nI i) = some (up M' 69 0 0 0, y) := by
  intro d
  induction d with
  | zero =>
    intro i n n' c hi hn hn'
    obtain ⟨n, rfl⟩ := Nat.exists_eq_succ_of_ne_zero (Nat.ne_of_gt hn)
    obtain ⟨n', rfl⟩ := Nat.exists_eq_succ_of_ne_zero (Nat.ne_of_gt hn')
    have hle : nI nh ≤ nI i := nI_le (by omega) (by omega)
    unfold fX5_countOpenHits_4 fX6_hear_97
    rw [a, b, if_pos hle, if_pos hle]
    exact ⟨c, rfl, rfl⟩
  | succ d ih =>
    intro i n n' c hi hn hn'
    obtain ⟨n, rfl⟩ := Nat.exists_eq_succ_of_ne_zero (Nat.ne_of_gt (Nat.lt_of_le_of_lt (Nat.zero_le _) hn))
    obtain ⟨n', rfl⟩ := Nat.exists_eq_succ_of_ne_zero (Nat.ne_of_gt (Nat.lt_of_le_of_lt (Nat.zero_le _) hn'))
    have hlt : ¬ nI nh ≤ nI i := nI_ge (by omega) (by omega)
    have hI := fun c' => ih (i + 1) n n' c' (by omega) (by omega) (by omega)
    unfold fX5_countOpenHits_4 fX6_hear_97
    rw [a, b, if_neg hlt, if_neg hlt, q_ax_n (show i < 40 by omega), q_ax_n (show i < 40 by omega), e_isOpen, q_bn_p, ← e i (by omega)]
    unfold fX5_countOpenHits_27 fX6_hear_123
    simp only [q_lt_e, nI_1]
    by_cases ho : M 58 i 0 = -1
    · simp only [if_pos ho, z10]
      exact hI _
    · simp only [if_neg ho, z00, Int32.add_zero]
      exact hI _
theorem nar_b1 : vp_nar .boolean (1 : Int32) = 1 := rfl
/-- the reference's mark that a pupil's task is lost -/
theorem e_loses {F q p t : Nat} {M : Mem} (hq : q < 60) (hp : p < 12) (ht : t < 10) (e1 : M 33 0 q = nI p) (e2 : M 34 0 q = nI t) : fX6_loses F M (nI q) = some (up M 49 0 (10 * p + t) 1, ()) := by
  unfold fX6_loses
  have e3 : (10 : Int32) * nI p + nI t = nI (10 * p + t) := by
    rw [show (10 : Int32) = nI 10 from rfl, show nI 10 * nI p = nI (10 * p) from (Int32.ofNat_mul 10 p).symm, nI_add]
  rw [q_ax_n hq, q_ax_n hq, e1, e2, e3, q_ax_n (by omega), q_lt_e, nar_b1]
theorem nI_inj {a b : Nat} (ha : a < 2 ^ 31) (hb : b < 2 ^ 31) (h : nI a = nI b) : a = b := (nI_eq ha hb).mp h
theorem e_hear {F nc np nt nw ns nv nhd nh q w : Nat} {M : Mem} (hF : 10000 ≤ F) (h : InvN M nc np nt nw ns nv nhd nh) (hq : q < nh) (hw : w ≤ 3) (ho : M 58 q 0 = -1) : ∃ (M3 : Mem) (y : Int32), fX5_hear F M (nI q) (nI w) = some (up M 58 q 0 (nI w), Sum.inl y) ∧ fX6_hear F (up M 58 q 0 (nI w)) (nI q) (nI w) = some (up M3 69 0 0 0, y) ∧ Inv M3 := by
  have h40 := h.hts.le
  have h60 := h.ver.le
  have h12 := h.pup.le
  have h10 := h.tsk.le
  obtain ⟨b1, b2, b3, b4, ⟨a, ha, ea⟩, ⟨b, hb, eb⟩, b7, -⟩ := h.hts.h q hq
  obtain ⟨ap, ⟨p1, hp1, p1e⟩⟩ := (h.ver.v a ha).p
  obtain ⟨at', ⟨t1, ht1, t1e⟩⟩ := (h.ver.v a ha).t
  obtain ⟨bp, ⟨p2, hp2, p2e⟩⟩ := (h.ver.v b hb).p
  obtain ⟨bt, ⟨t2, ht2, t2e⟩⟩ := (h.ver.v b hb).t
  obtain ⟨M2, hM2⟩ : ∃ M2 : Mem, M2 = up (up M 58 q 0 (nI w)) 48 0 q (nI w) := ⟨_, rfl⟩
  obtain ⟨M3, hM3⟩ : ∃ M3 : Mem, M3 = (if w / 2 = 1 then up (if w % 2 = 1 then up M2 49 0 (10 * p1 + t1) 1 else M2) 49 0 (10 * p2 + t2) 1 else (if w % 2 = 1 then up M2 49 0 (10 * p1 + t1) 1 else M2)) := ⟨_, rfl⟩
  have e2 : ∀ v, v ∉ [48, 58] → M2 v = M v := by
    rw [hM2]
    exact up_fr (up_fr fr_0)
  have e3 : ∀ v, v ∉ [49, 48, 58] → M3 v = M v := fun v hv => by
    simp only [List.mem_cons, List.not_mem_nil, not_or] at hv
    have e9 := e2 v (by simp [hv])
    rw [hM3]
    by_cases x1 : w / 2 = 1 <;> by_cases x2 : w % 2 = 1 <;> simp only [x1, x2, if_true, if_false] <;> simp only [up_o hv.1, e9]
  have e58 : ∀ i, M3 58 i 0 = if i = q then nI w else M 58 i 0 := fun i => by
    rw [hM3, hM2]
    by_cases x1 : w / 2 = 1 <;> by_cases x2 : w % 2 = 1 <;> simp [x1, x2, up_e]
  have e48 : ∀ i, M3 48 0 i = if i = q then nI w else M 48 0 i := fun i => by
    rw [hM3, hM2]
    by_cases x1 : w / 2 = 1 <;> by_cases x2 : w % 2 = 1 <;> simp [x1, x2, up_e]
  have e49 : ∀ l, M3 49 0 l = if (w % 2 = 1 ∧ l = 10 * p1 + t1) ∨ (w / 2 = 1 ∧ l = 10 * p2 + t2) then 1 else M 49 0 l := fun l => by
    rw [hM3, hM2]
    by_cases x1 : w / 2 = 1 <;> by_cases x2 : w % 2 = 1 <;> by_cases x3 : l = 10 * p1 + t1 <;> by_cases x4 : l = 10 * p2 + t2 <;> simp [x1, x2, x3, x4, up_e]
  obtain ⟨y, y1, y2⟩ := e_opens (F := F) (M := up M 58 q 0 (nI w)) (M' := M3) h40 h.hts.a (by rw [e3 66 (by decide)]; exact h.hts.b) (fun i hi => by
    rw [e48]
    by_cases hj : i = q
    · subst hj
      simp [up_e]
    · rw [if_neg hj, ← (h.hts.h i hi).2.2.2.1]
      simp [up_e, hj]) nh 0 F F 0 (by omega) (by omega) (by omega)
  have hrw : inR (nI w) 0 3 := ⟨nI_pos (by omega), nI_nlt (a := w) (b := w) (Nat.le_refl _) (by omega) |> fun _ => nI_nlt (a := 3) (b := w) hw (by decide)⟩
  refine ⟨M3, y, ?_, ?_, ?_⟩
  · unfold fX5_hear
    rw [e_needHit h.hts.a (isN_nI (by omega) hq), q_bx_inl, e_needRange hrw, q_bx_inl, q_ax_n (show q < 40 by omega), e_isOpen, q_bn_p, if_pos ho, z10, q_ax_n (show q < 40 by omega), q_lt_e]
    rw [show fX5_countOpenHits F (up M 58 q 0 (nI w)) = some (up M 58 q 0 (nI w), y) from y1]
    rfl
  · have hl1 : fX6_loses F M2 (nI a) = some (up M2 49 0 (10 * p1 + t1) 1, ()) := e_loses (by omega) (by omega) (by omega) (by rw [e2 33 (by decide), ← ap, p1e]) (by rw [e2 34 (by decide), ← at', t1e])
    have hl2 : ∀ M4 : Mem, M4 33 = M 33 → M4 34 = M 34 → fX6_loses F M4 (nI b) = some (up M4 49 0 (10 * p2 + t2) 1, ()) := fun M4 g1 g2 => e_loses (by omega) (by omega) (by omega) (by rw [g1, ← bp, p2e]) (by rw [g2, ← bt, t2e])
    have hlast : fX6_hear_92 F M3 = some (up M3 69 0 0 0, y) := y2
    have h75 : ∀ M4 : Mem, M4 33 = M 33 → M4 34 = M 34 → M4 46 = M 46 → M3 = (if w / 2 = 1 then up M4 49 0 (10 * p2 + t2) 1 else M4) → fX6_hear_75 F M4 (nI q) (nI w) = some (up M3 69 0 0 0, y) := fun M4 g1 g2 g3 g4 => by
      unfold fX6_hear_75
      by_cases x1 : w / 2 = 1
      · have : nI w / 2 = 1 := by rcases (show w = 2 ∨ w = 3 by omega) with rfl | rfl <;> decide
        rw [if_pos this, q_ax_n (show q < 40 by omega), g3, ← b2, eb, hl2 M4 g1 g2, q_bn_p]
        rw [if_pos x1] at g4
        rw [← g4]
        exact hlast
      · have : ¬ nI w / 2 = 1 := by rcases (show w = 0 ∨ w = 1 by omega) with rfl | rfl <;> decide
        rw [if_neg this]
        rw [if_neg x1] at g4
        rw [← g4]
        exact hlast
    unfold fX6_hear
    rw [show up M 58 q 0 (nI w) 66 0 0 = nI nh from h.hts.b, e_in ((inR_pred (by omega)).mpr (isN_nI (by omega) hq)), q_bn_p, z10, e_in hrw, q_bn_p, z10, q_ax_n (show q < 40 by omega), show up M 58 q 0 (nI w) 48 0 q = -1 from (b4.symm.trans ho), if_pos rfl, q_ax_n (show q < 40 by omega), q_lt_e, ← hM2]
    by_cases x2 : w % 2 = 1
    · have : nI w - nI w / 2 * 2 = 1 := by rcases (show w = 1 ∨ w = 3 by omega) with rfl | rfl <;> decide
      rw [if_pos this, q_ax_n (show q < 40 by omega), e2 45 (by decide), ← b1, ea, hl1, q_bn_p]
      refine h75 _ (by rw [up_o (by decide), e2 33 (by decide)]) (by rw [up_o (by decide), e2 34 (by decide)]) (by rw [up_o (by decide), e2 46 (by decide)]) ?_
      rw [hM3]
      simp only [x2, if_true]
    · have : ¬ nI w - nI w / 2 * 2 = 1 := by rcases (show w = 0 ∨ w = 2 by omega) with rfl | rfl <;> decide
      rw [if_neg this]
      refine h75 _ (e2 33 (by decide)) (e2 34 (by decide)) (e2 46 (by decide)) ?_
      rw [hM3]
      simp only [x2, if_false]
  · refine ⟨nc, np, nt, nw, ns, nv, nhd, nh, Cls_of h.cls (fr e3 (by decide)), Pup_of h.pup (fr e3 (by decide)), Tsk_of h.tsk (fr e3 (by decide)), Clk_of h.clk (fr e3 (by decide)), Txt_fr h.txt e3 (by decide), Ver_of h.ver (fr e3 (by decide)) (fun v hv j _ => by rw [fr e3 (K := vvC) (by decide) v hv]) (fun v hv => by rw [fr e3 (K := vvM) (by decide) v hv]), ⟨by rw [e3 6 (by decide)]; exact h.hts.a, by rw [e3 66 (by decide)]; exact h.hts.b, h40, by rw [e3 7 (by decide), e3 68 (by decide)]; exact h.hts.th, fun i hi => ?_, fun i hi hi4 => ?_⟩, fun p t hp ht => ?_, Idx_of h.idx h60 (fun v hv => by rw [fr e3 (K := [9, 23, 24]) (by decide) v hv]) ⟨e3 38 (by decide), fun j _ => ⟨by rw [e3 22 (by decide)], by rw [e3 8 (by decide)]⟩⟩⟩
    · obtain ⟨c1, c2, c3, c4, c5, c6, c7, c8⟩ := h.hts.h i hi
      rw [e3 55 (by decide), e3 45 (by decide), e3 56 (by decide), e3 46 (by decide), e3 57 (by decide), e3 47 (by decide), e58, e48]
      by_cases hj : i = q
      · rw [if_pos hj, if_pos hj]
        exact ⟨c1, c2, c3, rfl, c5, c6, c7, Or.inr ⟨w, hw, rfl⟩⟩
      · rw [if_neg hj, if_neg hj]
        exact ⟨c1, c2, c3, c4, c5, c6, c7, c8⟩
    · rw [e58, if_neg (by omega)]
      exact h.hts.new i hi hi4
    · have hL : ∀ i, lostBy M3 p t i ↔ (i ≠ q ∧ lostBy M p t i) ∨ (i = q ∧ ((w % 2 = 1 ∧ p = p1 ∧ t = t1) ∨ (w / 2 = 1 ∧ p = p2 ∧ t = t2))) := fun i => by
        unfold lostBy
        rw [e58, e3 10 (by decide), e3 11 (by decide), e3 55 (by decide), e3 56 (by decide)]
        by_cases hj : i = q
        · subst hj
          rw [if_pos rfl, ea, eb, nI_clamp (by omega), nI_clamp (by omega), p1e, t1e, p2e, t2e]
          constructor
          · rintro ⟨w', hw', ew, h9⟩
            have := nI_inj (by omega) (by omega) ew
            subst this
            refine Or.inr ⟨rfl, ?_⟩
            rcases h9 with ⟨g1, g2, g3⟩ | ⟨g1, g2, g3⟩
            · exact Or.inl ⟨g1, (nI_inj (by omega) (by omega) g2).symm, (nI_inj (by omega) (by omega) g3).symm⟩
            · exact Or.inr ⟨g1, (nI_inj (by omega) (by omega) g2).symm, (nI_inj (by omega) (by omega) g3).symm⟩
          · rintro (⟨h9, -⟩ | ⟨-, h9⟩)
            · exact absurd rfl h9
            · refine ⟨w, hw, rfl, ?_⟩
              rcases h9 with ⟨g1, rfl, rfl⟩ | ⟨g1, rfl, rfl⟩
              · exact Or.inl ⟨g1, rfl, rfl⟩
              · exact Or.inr ⟨g1, rfl, rfl⟩
        · rw [if_neg hj]
          constructor
          · exact fun h9 => Or.inl ⟨hj, h9⟩
          · rintro (⟨-, h9⟩ | ⟨h9, -⟩)
            · exact h9
            · exact absurd h9 hj
      have hnq : ¬ lostBy M p t q := by
        rintro ⟨w', hw', ew, -⟩
        rw [ho] at ew
        exact nI_nm1 (by omega) ew.symm
      rw [e49]
      by_cases hc : (w % 2 = 1 ∧ 10 * p + t = 10 * p1 + t1) ∨ (w / 2 = 1 ∧ 10 * p + t = 10 * p2 + t2)
      · rw [if_pos hc]
        refine Or.inl ⟨rfl, q, hq, (hL q).mpr (Or.inr ⟨rfl, ?_⟩)⟩
        rcases hc with ⟨g1, g2⟩ | ⟨g1, g2⟩
        · exact Or.inl ⟨g1, by omega, by omega⟩
        · exact Or.inr ⟨g1, by omega, by omega⟩
      · rw [if_neg hc]
        rcases h.lst p t hp ht with ⟨g1, i, hi, g2⟩ | ⟨g1, g2⟩
        · refine Or.inl ⟨g1, i, hi, (hL i).mpr (Or.inl ⟨fun e => ?_, g2⟩)⟩
          subst e
          exact hnq g2
        · refine Or.inr ⟨g1, fun ⟨i, hi, g3⟩ => ?_⟩
          rcases (hL i).mp g3 with ⟨-, g4⟩ | ⟨-, g4⟩
          · exact g2 ⟨i, hi, g4⟩
          · rcases g4 with ⟨f1, rfl, rfl⟩ | ⟨f1, rfl, rfl⟩
            · exact hc (Or.inl ⟨f1, rfl⟩)
            · exact hc (Or.inr ⟨f1, rfl⟩)
theorem k30 {F : Nat} {M : Mem} {x : XX} {s1 s2 s3 s4 s5 : Int32} (hF : 10000 ≤ F) (hi : Inv M) : ∃ r, fL_case30 F M x s1 s2 s3 s4 s5 = some r ∧ Inv r.1 := by
  obtain ⟨nc, np, nt, nw, ns, nv, nhd, nh, h⟩ := id hi
  have h40 := h.hts.le
  by_cases hr : isN nh s1
  · obtain ⟨q, hq1, hq2⟩ := isN_of (by omega) hr
    have hin := e_in (F := F) (M := M) ((inR_pred (by omega)).mpr hr)
    by_cases hr2 : inR s2 0 3
    · obtain ⟨w, -, hw2, hw⟩ := inR_of (lo := 0) (hi := 3) (by decide) hr2 (by decide)
      by_cases ho : M 58 q 0 = -1
      · obtain ⟨M3, y, hC, hM, hI⟩ := e_hear hF h hq1 hw2 ho
        rw [← hq2, ← hw] at hC hM
        exact ⟨_, caseA (m := fun M => fX6_hear F M s1 s2) (by unfold fL_hear; rw [hC]; rfl) hM rfl (fun _ => rfl), inv_69 hI rfl⟩
      · have hC : fX5_hear F M s1 s2 = some (M, Sum.inr 5) := by
          unfold fX5_hear
          rw [e_needHit h.hts.a hr, q_bx_inl, e_needRange hr2, q_bx_inl, hq2, q_ax_n (show q < 40 by omega), e_isOpen, q_bn_p, if_neg ho, z00]
        have hM : fX6_hear F M s1 s2 = some (up M 69 0 0 3, 0) := by
          unfold fX6_hear
          rw [h.hts.b, hin, q_bn_p, z10, e_in hr2, q_bn_p, z10, hq2, q_ax_n (show q < 40 by omega), ← (h.hts.h q hq1).2.2.2.1, if_neg ho]
          rfl
        exact ⟨_, caseA (m := fun M => fX6_hear F M s1 s2) (by unfold fL_hear; rw [hC]; rfl) hM rfl (fun h => by cases h), inv_69 hi rfl⟩
    · have hC : fX5_hear F M s1 s2 = some (M, Sum.inr 1) := by
        unfold fX5_hear
        rw [e_needHit h.hts.a hr, q_bx_inl, e_needRangeX hr2, q_bx_inr]
      have hM : fX6_hear F M s1 s2 = some (up M 69 0 0 2, 0) := by
        unfold fX6_hear
        rw [h.hts.b, hin, q_bn_p, z10, e_inX hr2, q_bn_p, z00]
        rfl
      exact ⟨_, caseA (m := fun M => fX6_hear F M s1 s2) (by unfold fL_hear; rw [hC]; rfl) hM rfl (fun h => by cases h), inv_69 hi rfl⟩
  · have hC : fX5_hear F M s1 s2 = some (M, Sum.inr 3) := by
      unfold fX5_hear
      rw [e_needHitX h.hts.a hr, q_bx_inr]
    have hM : fX6_hear F M s1 s2 = some (up M 69 0 0 1, 0) := by
      unfold fX6_hear
      rw [h.hts.b, e_inX (fun h9 => hr ((inR_pred (by omega)).mp h9)), q_bn_p, z00]
      rfl
    exact ⟨_, caseA (m := fun M => fX6_hear F M s1 s2) (by unfold fL_hear; rw [hC]; rfl) hM rfl (fun h => by cases h), inv_69 hi rfl⟩
