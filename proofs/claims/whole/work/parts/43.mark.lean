theorem e_takes {F i : Nat} {M : Mem} {b : Int32} : fX1_takesFrom F M i b = some (M, if M 58 i 0 = -1 then 0 else if M 58 i 0 &&& b = 0 then 0 else 1) := by
  unfold fX1_takesFrom
  rw [e_isOpen, q_bn_p]
  by_cases h : M 58 i 0 = -1
  · rw [if_pos h, z10, if_pos h]
    rfl
  · rw [if_neg h, z00, if_neg h]
    by_cases g : M 58 i 0 &&& b = 0
    · rw [if_pos g, if_pos g]
      rfl
    · rw [if_neg g, if_neg g]
      rfl
theorem and1 {w : Nat} (h : w ≤ 3) : (nI w &&& (1 : Int32) = 0) ↔ ¬ w % 2 = 1 := by
  rcases (show w = 0 ∨ w = 1 ∨ w = 2 ∨ w = 3 by omega) with rfl | rfl | rfl | rfl <;> decide
theorem and2 {w : Nat} (h : w ≤ 3) : (nI w &&& (2 : Int32) = 0) ↔ ¬ w / 2 = 1 := by
  rcases (show w = 0 ∨ w = 1 ∨ w = 2 ∨ w = 3 by omega) with rfl | rfl | rfl | rfl <;> decide
theorem e_lost {F np nt nw nv nhd nh p t : Nat} {M : Mem} (h : Ver M np nt nw nv nhd) (g : Hts M nv nh) : ∀ (d i n : Nat), i + d = nh → d < n → ∃ z, fX5_isLost_2 F n M (nI p) (nI t) (nI i) = some (M, z) ∧ ((z = 1 ∧ ∃ k, i ≤ k ∧ k < nh ∧ lostBy M p t k) ∨ (z = 0 ∧ ¬ ∃ k, i ≤ k ∧ k < nh ∧ lostBy M p t k)) := by
  have h60 := h.le
  have h40 := g.le
  intro d
  induction d with
  | zero =>
    intro i n hi hn
    obtain ⟨n, rfl⟩ := Nat.exists_eq_succ_of_ne_zero (Nat.ne_of_gt hn)
    rw [fX5_isLost_2, g.a, if_pos (nI_le (by omega) (by omega))]
    exact ⟨0, rfl, Or.inr ⟨rfl, fun h9 => (by obtain ⟨k, h1, h2, -⟩ := h9; omega)⟩⟩
  | succ d ih =>
    intro i n hi hn
    obtain ⟨n, rfl⟩ := Nat.exists_eq_succ_of_ne_zero (Nat.ne_of_gt (Nat.lt_of_le_of_lt (Nat.zero_le _) hn))
    obtain ⟨-, -, -, -, ⟨a, ha, ea⟩, ⟨b, hb, eb⟩, -, hl⟩ := g.h i (by omega)
    have ca : (M 55 i 0).toNatClampNeg = a := by rw [ea, nI_clamp (by omega)]
    have cb : (M 56 i 0).toNatClampNeg = b := by rw [eb, nI_clamp (by omega)]
    obtain ⟨z, z1, z2⟩ := ih (i + 1) n (by omega) (by omega)
    have hno : ¬ lostBy M p t i → ∃ z, fX5_isLost_2 F n M (nI p) (nI t) (nI (i + 1)) = some (M, z) ∧ ((z = 1 ∧ ∃ k, i ≤ k ∧ k < nh ∧ lostBy M p t k) ∨ (z = 0 ∧ ¬ ∃ k, i ≤ k ∧ k < nh ∧ lostBy M p t k)) := fun hn => by
      refine ⟨z, z1, ?_⟩
      rcases z2 with ⟨e, k, k1, k2, k3⟩ | ⟨e, k3⟩
      · exact Or.inl ⟨e, k, by omega, k2, k3⟩
      · refine Or.inr ⟨e, fun ⟨k, k1, k2, k4⟩ => ?_⟩
        by_cases hk : k = i
        · subst hk
          exact hn k4
        · exact k3 ⟨k, by omega, k2, k4⟩
    rw [fX5_isLost_2, g.a, if_neg (nI_ge (by omega) (by omega)), q_ax_n (show i < 40 by omega), e_takes, q_bn_p]
    unfold fX5_isLost_47 fX5_isLost_76
    simp only [e_takes, q_lt_e, nI_1, ea, eb, q_ax_n (show a < 60 by omega), q_ax_n (show b < 60 by omega), q_isOf, q_bn_p]
    rcases hl with ho | ⟨w, hw, ew⟩
    · simp only [ho, if_true, z00]
      refine hno (fun ⟨w, hw, e, _⟩ => ?_)
      rw [ho] at e
      exact nI_nm1 (by omega) e.symm
    · have hne : ¬ M 58 i 0 = -1 := by
        rw [ew]
        exact nI_nm1 (by omega)
      simp only [if_neg hne]
      rw [ew]
      have hlb : lostBy M p t i ↔ (w % 2 = 1 ∧ M 10 a 0 = nI p ∧ M 11 a 0 = nI t) ∨ (w / 2 = 1 ∧ M 10 b 0 = nI p ∧ M 11 b 0 = nI t) := by
        unfold lostBy
        rw [ca, cb]
        constructor
        · rintro ⟨w', hw', e', h9⟩
          rw [ew] at e'
          have := nI_inj (by omega) (by omega) e'
          subst this
          exact h9
        · exact fun h9 => ⟨w, hw, ew, h9⟩
      have hyes : lostBy M p t i → ∃ z, (some (M, (1 : Int32)) : Option (Mem × Int32)) = some (M, z) ∧ ((z = 1 ∧ ∃ k, i ≤ k ∧ k < nh ∧ lostBy M p t k) ∨ (z = 0 ∧ ¬ ∃ k, i ≤ k ∧ k < nh ∧ lostBy M p t k)) := fun h9 => ⟨1, rfl, Or.inl ⟨rfl, i, Nat.le_refl _, by omega, h9⟩⟩
      have hB : (¬ (w % 2 = 1 ∧ M 10 a 0 = nI p ∧ M 11 a 0 = nI t)) → ∃ z, (if (if nI w &&& (2 : Int32) = 0 then (0 : Int32) else 1) = 0 then fX5_isLost_2 F n M (nI p) (nI t) (nI (i + 1)) else if (if M 10 b 0 = nI p ∧ M 11 b 0 = nI t then (1 : Int32) else 0) = 0 then fX5_isLost_2 F n M (nI p) (nI t) (nI (i + 1)) else some (M, 1)) = some (M, z) ∧ ((z = 1 ∧ ∃ k, i ≤ k ∧ k < nh ∧ lostBy M p t k) ∨ (z = 0 ∧ ¬ ∃ k, i ≤ k ∧ k < nh ∧ lostBy M p t k)) := fun hA => by
        by_cases x2 : w / 2 = 1
        · rw [if_neg (show ¬ nI w &&& (2 : Int32) = 0 from fun h9 => (and2 hw).mp h9 x2), z10]
          by_cases y2 : M 10 b 0 = nI p ∧ M 11 b 0 = nI t
          · rw [if_pos y2, z10]
            exact hyes (hlb.mpr (Or.inr ⟨x2, y2⟩))
          · rw [if_neg y2, z00]
            exact hno (fun h9 => (hlb.mp h9).elim hA (fun h8 => y2 h8.2))
        · rw [if_pos ((and2 hw).mpr x2), z00]
          exact hno (fun h9 => (hlb.mp h9).elim hA (fun h8 => x2 h8.1))
      by_cases x1 : w % 2 = 1
      · rw [if_neg (show ¬ nI w &&& (1 : Int32) = 0 from fun h9 => (and1 hw).mp h9 x1), z10]
        by_cases y1 : M 10 a 0 = nI p ∧ M 11 a 0 = nI t
        · rw [if_pos y1, z10]
          exact hyes (hlb.mpr (Or.inl ⟨x1, y1⟩))
        · rw [if_neg y1, z00]
          exact hB (fun h9 => y1 h9.2)
      · rw [if_pos ((and1 hw).mpr x1), z00]
        exact hB (fun h9 => x1 h9.1)
theorem idx10 (i k : Nat) : (10 : Int32) * nI i + nI k = nI (10 * i + k) := by
  rw [show (10 : Int32) = nI 10 from rfl, nI_mul, nI_add]
theorem e_mark {F nc np nt nw ns nv nhd nh p t : Nat} {M : Mem} (hF : 10000 ≤ F) (h : InvN M nc np nt nw ns nv nhd nh) (hp : p < np) (ht : t < nt) : ∃ y, fX5_makeMark F M (nI p) (nI t) = some (M, y) ∧ fX6_markOf F M (nI p) (nI t) = some (M, y) := by
  have h60 := h.ver.le
  have h10 := h.tsk.le
  have h12 := h.pup.le
  have h40 := h.hts.le
  obtain ⟨c, c1, c2, c3⟩ := e_counting (p := nI p) (t := nI t) hF h
  obtain ⟨z, z1, z2⟩ := e_lost (F := F) (p := p) (t := t) h.ver h.hts nh 0 F (by omega) (by omega)
  have z1 : fX5_isLost F M (nI p) (nI t) = some (M, z) := z1
  have hz : (z = 0 ∧ M 49 0 (10 * p + t) = 0) ∨ (z = 1 ∧ M 49 0 (10 * p + t) = 1) := by
    rcases h.lst p t (by omega) (by omega) with ⟨g1, i, hi, g2⟩ | ⟨g1, g2⟩
    · rcases z2 with ⟨e, -⟩ | ⟨-, e⟩
      · exact Or.inr ⟨e, g1⟩
      · exact absurd ⟨i, Nat.zero_le _, hi, g2⟩ e
    · rcases z2 with ⟨-, k, -, k2, k3⟩ | ⟨e, -⟩
      · exact absurd ⟨k, k2, k3⟩ g2
      · exact Or.inl ⟨e, g1⟩
  unfold fX5_makeMark fX6_markOf
  rw [c1, c2, q_bn_p, q_bn_p, q_lt_e, q_lt_e, idx10, q_ax_n (show 10 * p + t < 120 by omega), z1, q_bn_p]
  by_cases hc : c = -1
  · rw [if_pos hc, if_pos hc, ite_self]
    exact ⟨0, rfl, rfl⟩
  · rw [if_neg hc, if_neg hc]
    rcases hz with ⟨e1, e2⟩ | ⟨e1, e2⟩
    · rw [if_pos e1, if_pos e2]
      obtain ⟨q, hq, eq, -⟩ := c3.resolve_left hc
      obtain ⟨y, y0, y1, y2⟩ := e_late (F := F) hF h hq
      obtain ⟨o, o1, o2⟩ := e_off (F := F) (w := y) h.tsk ht y0
      rw [eq, q_ax_n (show q < 60 by omega), q_ax_n (show t < 10 by omega), q_lt_e, q_ax_n (show t < 10 by omega), y1, q_bn_p, o1, q_bn_p, q_ax_n (show t < 10 by omega), q_ax_n (show q < 60 by omega), y2, q_bn_p, o2, q_bn_p, ← (h.ver.v q hq).told.1, ← (h.tsk.t t ht).2.2.1]
      generalize M 52 t 0 * M 17 q 0 / 100 - o = y
      unfold fX6_greater fX6_greater_10
      by_cases hy : (0 : Int32) < y
      · rw [if_pos hy, if_pos (Int32.le_of_lt hy)]
        exact ⟨_, rfl, rfl⟩
      · rw [if_neg hy]
        by_cases h0 : (0 : Int32) ≤ y
        · rw [if_pos h0, show y = 0 from Int32.le_antisymm (Int32.not_lt.mp hy) h0]
          exact ⟨_, rfl, rfl⟩
        · rw [if_neg h0]
          exact ⟨_, rfl, rfl⟩
    · rw [if_neg (show ¬ z = 0 by rw [e1]; decide), if_neg (show ¬ M 49 0 (10 * p + t) = 0 by rw [e2]; decide)]
      exact ⟨0, rfl, rfl⟩
theorem k21 {F : Nat} {M : Mem} {x : XX} {s1 s2 s3 s4 s5 : Int32} (hF : 10000 ≤ F) (hi : Inv M) : ∃ r, fL_case21 F M x s1 s2 s3 s4 s5 = some r ∧ Inv r.1 := by
  obtain ⟨nc, np, nt, nw, ns, nv, nhd, nh, h⟩ := id hi
  have h10 := h.tsk.le
  have h12 := h.pup.le
  by_cases hp : isN np s1
  · by_cases ht : isN nt s2
    · obtain ⟨z, hz, z1, z2⟩ := e_fz (M' := M) (p := s1) (t := s2) hF h (fun v _ => rfl)
      rcases hz with rfl | rfl
      · obtain ⟨p, hp1, hp2⟩ := isN_of (by omega) hp
        obtain ⟨t, ht1, ht2⟩ := isN_of (by omega) ht
        obtain ⟨y, y1, y2⟩ := e_mark (F := F) hF h hp1 ht1
        have hC : fX5_mark F M s1 s2 = some (M, Sum.inl y) := by
          unfold fX5_mark
          rw [e_needPupil h.pup.a hp, q_bx_inl, e_needTask h.tsk.a ht, q_bx_inl, z1, q_bn_p, z00, hp2, ht2, y1, q_bn_p]
        have hM : fX6_mark F M s1 s2 = some (up M 69 0 0 0, y) := by
          unfold fX6_mark
          rw [e_isPupil h.pup.b (by omega) hp, q_bn_p, z10, e_isTask h.tsk.b (by omega) ht, q_bn_p, z10, z2, q_bn_p, z00, hp2, ht2, y2, q_bn_p]
          rfl
        exact ⟨_, caseA (m := fun M => fX6_mark F M s1 s2) (by unfold fL_mark; rw [hC]; rfl) hM rfl (fun _ => rfl), inv_69 hi rfl⟩
      · have hC : fX5_mark F M s1 s2 = some (M, Sum.inr 5) := by
          unfold fX5_mark
          rw [e_needPupil h.pup.a hp, q_bx_inl, e_needTask h.tsk.a ht, q_bx_inl, z1, q_bn_p, z10]
        have hM : fX6_mark F M s1 s2 = some (up M 69 0 0 2, 0) := by
          unfold fX6_mark
          rw [e_isPupil h.pup.b (by omega) hp, q_bn_p, z10, e_isTask h.tsk.b (by omega) ht, q_bn_p, z10, z2, q_bn_p, z10]
          rfl
        exact ⟨_, caseA (m := fun M => fX6_mark F M s1 s2) (by unfold fL_mark; rw [hC]; rfl) hM rfl (fun h => by cases h), inv_69 hi rfl⟩
    · have hC : fX5_mark F M s1 s2 = some (M, Sum.inr 3) := by
        unfold fX5_mark
        rw [e_needPupil h.pup.a hp, q_bx_inl, e_needTaskX h.tsk.a ht, q_bx_inr]
      have hM : fX6_mark F M s1 s2 = some (up M 69 0 0 1, 0) := by
        unfold fX6_mark
        rw [e_isPupil h.pup.b (by omega) hp, q_bn_p, z10, e_isTaskX h.tsk.b (by omega) ht, q_bn_p, z00]
        rfl
      exact ⟨_, caseA (m := fun M => fX6_mark F M s1 s2) (by unfold fL_mark; rw [hC]; rfl) hM rfl (fun h => by cases h), inv_69 hi rfl⟩
  · have hC : fX5_mark F M s1 s2 = some (M, Sum.inr 3) := by
      unfold fX5_mark
      rw [e_needPupilX h.pup.a hp, q_bx_inr]
    have hM : fX6_mark F M s1 s2 = some (up M 69 0 0 1, 0) := by
      unfold fX6_mark
      rw [e_isPupilX h.pup.b (by omega) hp, q_bn_p, z00]
      rfl
    exact ⟨_, caseA (m := fun M => fX6_mark F M s1 s2) (by unfold fL_mark; rw [hC]; rfl) hM rfl (fun h => by cases h), inv_69 hi rfl⟩
