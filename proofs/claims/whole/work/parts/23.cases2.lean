theorem e_needPupil {F n : Nat} {M : Mem} {a : Int32} (h0 : M 1 0 0 = nI n) (h : isN n a) : fX5_needPupil F M a = some (M, Sum.inl ()) := by
  unfold fX5_needPupil
  rw [if_neg h.1, h0, if_pos h.2]
theorem e_needPupilX {F n : Nat} {M : Mem} {a : Int32} (h0 : M 1 0 0 = nI n) (h : ¬ isN n a) : fX5_needPupil F M a = some (M, Sum.inr 3) := by
  unfold fX5_needPupil
  by_cases h1 : a < 0
  · rw [if_pos h1]
    rfl
  · rw [if_neg h1, h0, if_neg (fun h2 => h ⟨h1, h2⟩)]
    rfl
theorem e_isPupil {F n : Nat} {M : Mem} {a : Int32} (h0 : M 62 0 0 = nI n) (hn : n ≤ 1000) (h : isN n a) : fX6_isPupil F M a = some (M, 1) := by
  unfold fX6_isPupil
  rw [h0, e_in ((inR_pred hn).mpr h)]
  rfl
theorem e_isPupilX {F n : Nat} {M : Mem} {a : Int32} (h0 : M 62 0 0 = nI n) (hn : n ≤ 1000) (h : ¬ isN n a) : fX6_isPupil F M a = some (M, 0) := by
  unfold fX6_isPupil
  rw [h0, e_inX (fun h9 => h ((inR_pred hn).mp h9))]
  rfl
theorem e_needTask {F n : Nat} {M : Mem} {a : Int32} (h0 : M 2 0 0 = nI n) (h : isN n a) : fX5_needTask F M a = some (M, Sum.inl ()) := by
  unfold fX5_needTask
  rw [if_neg h.1, h0, if_pos h.2]
theorem e_needTaskX {F n : Nat} {M : Mem} {a : Int32} (h0 : M 2 0 0 = nI n) (h : ¬ isN n a) : fX5_needTask F M a = some (M, Sum.inr 3) := by
  unfold fX5_needTask
  by_cases h1 : a < 0
  · rw [if_pos h1]
    rfl
  · rw [if_neg h1, h0, if_neg (fun h2 => h ⟨h1, h2⟩)]
    rfl
theorem e_isTask {F n : Nat} {M : Mem} {a : Int32} (h0 : M 63 0 0 = nI n) (hn : n ≤ 1000) (h : isN n a) : fX6_isTask F M a = some (M, 1) := by
  unfold fX6_isTask
  rw [h0, e_in ((inR_pred hn).mpr h)]
  rfl
theorem e_isTaskX {F n : Nat} {M : Mem} {a : Int32} (h0 : M 63 0 0 = nI n) (hn : n ≤ 1000) (h : ¬ isN n a) : fX6_isTask F M a = some (M, 0) := by
  unfold fX6_isTask
  rw [h0, e_inX (fun h9 => h ((inR_pred hn).mp h9))]
  rfl
theorem e_needVersion {F n : Nat} {M : Mem} {a : Int32} (h0 : M 4 0 0 = nI n) (h : isN n a) : fX5_needVersion F M a = some (M, Sum.inl ()) := by
  unfold fX5_needVersion
  rw [if_neg h.1, h0, if_pos h.2]
theorem e_needVersionX {F n : Nat} {M : Mem} {a : Int32} (h0 : M 4 0 0 = nI n) (h : ¬ isN n a) : fX5_needVersion F M a = some (M, Sum.inr 3) := by
  unfold fX5_needVersion
  by_cases h1 : a < 0
  · rw [if_pos h1]
    rfl
  · rw [if_neg h1, h0, if_neg (fun h2 => h ⟨h1, h2⟩)]
    rfl
theorem e_isVersion {F n : Nat} {M : Mem} {a : Int32} (h0 : M 64 0 0 = nI n) (hn : n ≤ 1000) (h : isN n a) : fX6_isVersion F M a = some (M, 1) := by
  unfold fX6_isVersion
  rw [h0, e_in ((inR_pred hn).mpr h)]
  rfl
theorem e_isVersionX {F n : Nat} {M : Mem} {a : Int32} (h0 : M 64 0 0 = nI n) (hn : n ≤ 1000) (h : ¬ isN n a) : fX6_isVersion F M a = some (M, 0) := by
  unfold fX6_isVersion
  rw [h0, e_inX (fun h9 => h ((inR_pred hn).mp h9))]
  rfl
theorem e_needHit {F n : Nat} {M : Mem} {a : Int32} (h0 : M 6 0 0 = nI n) (h : isN n a) : fX5_needHit F M a = some (M, Sum.inl ()) := by
  unfold fX5_needHit
  rw [if_neg h.1, h0, if_pos h.2]
theorem e_needHitX {F n : Nat} {M : Mem} {a : Int32} (h0 : M 6 0 0 = nI n) (h : ¬ isN n a) : fX5_needHit F M a = some (M, Sum.inr 3) := by
  unfold fX5_needHit
  by_cases h1 : a < 0
  · rw [if_pos h1]
    rfl
  · rw [if_neg h1, h0, if_neg (fun h2 => h ⟨h1, h2⟩)]
    rfl
theorem caseC {F : Nat} {M1 M2 : Mem} {x2 : XX} {z y : Int32} {L : Option (Mem × (XX × Int32))} {m : Mem → Option (Mem × Int32)} (h1 : L = some (M1, (x2, z))) (h2 : m M1 = some (M2, y)) (h3 : M2 69 0 0 = z) (h4 : z = 0 → x2.1 = if y = 0 then 0 else 1) :
    (q_bw L fun M1 x2 z3 => q_lt (z3) fun z4 => q_bn (m M1) fun M5 z6 => q_lt (z6) fun z7 => q_bn (fX6_thrown F M5) fun M8 z9 => if z9 = z4 then (if z4 = (0 : Int32) then (if z7 = (0 : Int32) then (if (lg_cmp (x2.1) (0 : Int64)) = (0 : Int32) then (some (M8, x2)) else (none)) else (if (lg_cmp (x2.1) (1 : Int64)) = (0 : Int32) then (some (M8, x2)) else (none))) else (some (M8, x2))) else (none)) = some (M2, x2) := by
  subst h1
  rw [q_bw_some, q_lt_e, h2, q_bn_some, q_lt_e]
  show (if M2 69 0 0 = z then _ else _) = _
  rw [if_pos h3]
  by_cases hz : z = 0
  · rw [if_pos hz, h4 hz]
    by_cases hy : y = 0
    · rw [if_pos hy, if_pos hy, if_pos (lg_self _)]
    · rw [if_neg hy, if_neg hy, if_pos (lg_self _)]
  · rw [if_neg hz]
/-- is a version in -/
theorem e_isThere {F np nt nw nhd i : Nat} {M : Mem} (h : Ver1 M np nt nw nhd i) (hw : nw ≤ 1000000) : fX4_isThere F M i = some (M, if M 38 0 i = 1 then 1 else 0) := by
  unfold fX4_isThere
  rcases h.st with ⟨h1, h2, h3, h4⟩ | ⟨⟨q, hq, h1⟩, -, h3⟩
  · rw [if_pos h1, h4]
    rfl
  · have hne : ¬ M 14 i 0 = -1 := fun h9 => by
      have h8 := nI_pos (n := q) (by omega)
      rw [← h1, h9] at h8
      exact h8 (by decide)
    rw [if_neg hne]
    rcases h3 with ⟨h4, h5⟩ | ⟨h4, h5⟩
    · rw [if_pos h4, h5]
      rfl
    · rw [if_neg (by rw [h4]; decide), h5]
      rfl
theorem k16 {F : Nat} {M : Mem} {x : XX} {s1 s2 s3 s4 s5 : Int32} (hi : Inv M) : ∃ r, fL_case16 F M x s1 s2 s3 s4 s5 = some r ∧ Inv r.1 := by
  obtain ⟨nc, np, nt, nw, ns, nv, nhd, nh, h⟩ := id hi
  have hv6 := h.ver.le
  by_cases hr : isN nv s1
  · obtain ⟨q, hq1, hq2⟩ := isN_of (by omega) hr
    have hC : fX5_isIn F M s1 = some (M, Sum.inl (if M 38 0 q = 1 then 1 else 0)) := by
      unfold fX5_isIn
      rw [e_needVersion h.ver.a hr, q_bx_inl, hq2, q_ax_n (show q < 60 by omega), e_isThere (h.ver.v q hq1) h.clk.le, q_bn_p]
      by_cases h9 : M 38 0 q = 1 <;> simp [h9, q_gd, q_isZ]
    have hM : fX6_isIn F M s1 = some (up M 69 0 0 0, if M 38 0 q = 1 then 1 else 0) := by
      unfold fX6_isIn fX6_isIn_14
      rw [e_isVersion h.ver.b (by omega) hr, q_bn_p, if_neg (show ¬ (1 : Int32) = 0 by decide), q_lt_e, if_pos (up_s), hq2, q_ax_n (show q < 60 by omega)]
      rw [show up M 69 0 0 0 38 0 q = M 38 0 q from rfl]
      by_cases h9 : M 38 0 q = 1
      · rw [if_pos h9, if_pos h9]
        rfl
      · rw [if_neg h9, if_neg h9]
        rfl
    by_cases h9 : M 38 0 q = 1
    · rw [if_pos h9] at hC hM
      exact ⟨_, caseC (m := fun M => fX6_isIn F M s1) (by unfold fL_isIn; rw [hC]; rfl) hM rfl (fun _ => rfl), inv_69 hi rfl⟩
    · rw [if_neg h9] at hC hM
      exact ⟨_, caseC (m := fun M => fX6_isIn F M s1) (by unfold fL_isIn; rw [hC]; rfl) hM rfl (fun _ => rfl), inv_69 hi rfl⟩
  · have hC : fX5_isIn F M s1 = some (M, Sum.inr 3) := by
      unfold fX5_isIn
      rw [e_needVersionX h.ver.a hr, q_bx_inr]
    have hM : fX6_isIn F M s1 = some (up M 69 0 0 1, 0) := by
      unfold fX6_isIn fX6_isIn_14
      rw [e_isVersionX h.ver.b (by omega) hr, q_bn_p, if_pos rfl, q_lt_e, if_neg (show ¬ up M 69 0 0 1 69 0 0 = 0 by rw [up_s]; decide)]
      rfl
    exact ⟨_, caseC (m := fun M => fX6_isIn F M s1) (by unfold fL_isIn; rw [hC]; rfl) hM rfl (fun h => by cases h), inv_69 hi rfl⟩
theorem k29 {F : Nat} {M : Mem} {x : XX} {s1 s2 s3 s4 s5 : Int32} (hi : Inv M) : ∃ r, fL_case29 F M x s1 s2 s3 s4 s5 = some r ∧ Inv r.1 := by
  unfold fL_case29
  generalize (s2.toUInt32 % 65536).toInt32 = w
  obtain ⟨nc, np, nt, nw, ns, nv, nhd, nh, h⟩ := id hi
  have h40 := h.hts.le
  by_cases hr : isN nh s1
  · obtain ⟨q, hq1, hq2⟩ := isN_of (by omega) hr
    obtain ⟨a1, a2, a3, a4, -⟩ := h.hts.h q hq1
    by_cases hw : w = 99 ∨ w = 104 ∨ w = 110 ∨ w = 111
    · obtain ⟨y, hC, hM⟩ : ∃ y, fX5_hit F M s1 w = some (M, Sum.inl y) ∧ fX6_hit F M s1 w = some (up M 69 0 0 0, y) := by
        unfold fX5_hit fX6_hit
        rw [e_needHit h.hts.a hr, q_bx_inl, h.hts.b, e_in ((inR_pred (by omega)).mpr hr), q_bn_p, if_neg (show ¬ (1 : Int32) = 0 by decide), hq2]
        simp only [q_ax_n (show q < 40 by omega), e_tells, q_bn_p]
        rcases hw with rfl | rfl | rfl | rfl
        · exact ⟨_, rfl, by rw [a3]; rfl⟩
        · exact ⟨_, rfl, by rw [a4]; rfl⟩
        · exact ⟨_, rfl, by rw [a1]; rfl⟩
        · exact ⟨_, rfl, by rw [a2]; rfl⟩
      exact ⟨_, caseA (m := fun M => fX6_hit F M s1 w) (by unfold fL_hit; rw [hC]; rfl) hM rfl (fun _ => rfl), inv_69 hi rfl⟩
    · rw [not_or, not_or, not_or] at hw
      have hC : fX5_hit F M s1 w = some (M, Sum.inr 1) := by
        unfold fX5_hit
        rw [e_needHit h.hts.a hr, q_bx_inl, hq2, q_ax_n (show q < 40 by omega), if_neg hw.1, if_neg hw.2.1, if_neg hw.2.2.1, if_neg hw.2.2.2]
      have hM : fX6_hit F M s1 w = some (up M 69 0 0 2, 0) := by
        unfold fX6_hit
        rw [h.hts.b, e_in ((inR_pred (by omega)).mpr hr), q_bn_p, if_neg (show ¬ (1 : Int32) = 0 by decide), if_neg hw.1, if_neg hw.2.1, if_neg hw.2.2.1, if_neg hw.2.2.2]
        rfl
      exact ⟨_, caseA (m := fun M => fX6_hit F M s1 w) (by unfold fL_hit; rw [hC]; rfl) hM rfl (fun h => by cases h), inv_69 hi rfl⟩
  · have hC : fX5_hit F M s1 w = some (M, Sum.inr 3) := by
      unfold fX5_hit
      rw [e_needHitX h.hts.a hr, q_bx_inr]
    have hM : fX6_hit F M s1 w = some (up M 69 0 0 1, 0) := by
      unfold fX6_hit
      rw [h.hts.b, e_inX (fun h9 => hr ((inR_pred (by omega)).mp h9)), q_bn_p, if_pos rfl]
      rfl
    exact ⟨_, caseA (m := fun M => fX6_hit F M s1 w) (by unfold fL_hit; rw [hC]; rfl) hM rfl (fun h => by cases h), inv_69 hi rfl⟩
/-- the points that are off -/
theorem e_off {F nc nt q w : Nat} {M : Mem} (h : Tsk M nc nt) (hq : q < nt) (hw : w < 2 ^ 31) : ∃ y, fX2_pointsOff F M q (nI w) = some (M, y) ∧ fX6_offOf F M (nI q) (nI w) = some (M, y) := by
  have h10 := h.le
  obtain ⟨-, -, -, t4, t5⟩ := h.t q hq
  unfold fX2_pointsOff fX6_offOf
  rw [q_ax_n (show q < 10 by omega), q_lt_e, q_ax_n (show q < 10 by omega), ← t4, ← t5]
  by_cases h0 : w = 0
  · subst h0
    exact ⟨0, rfl, rfl⟩
  · have hp : (0 : Int32) < nI w := by
      rw [show (0 : Int32) = nI 0 from rfl]
      exact nI_lt (by omega) hw
    rw [if_pos hp, if_neg (nI_ne0 (by omega) hw)]
    rcases (h.rg q hq).2.2.2.2 with e | e | e | e <;> rw [e]
    · exact ⟨_, rfl, rfl⟩
    · by_cases h9 : nI w ≤ M 54 q 0
      · exact ⟨0, by simp [h9, fX2_pointsOff_86], by simp [h9, fX6_offOf_85]⟩
      · exact ⟨10, by simp [h9, fX2_pointsOff_86], by simp [h9, fX6_offOf_85]⟩
    · exact ⟨_, rfl, rfl⟩
    · refine ⟨_, rfl, ?_⟩
      unfold fX6_lesser fX6_lesser_10
      by_cases h9 : nI w / 60 < 6
      · have h8 : nI w / 60 ≤ 6 := Int32.le_of_lt h9
        simp [h9, h8, q_bn_p]
      · by_cases h8 : nI w / 60 ≤ 6
        · have : nI w / 60 = 6 := Int32.le_antisymm h8 (Int32.not_lt.mp h9)
          simp [this, q_bn_p]
        · simp [h9, h8, q_bn_p]
theorem k18 {F : Nat} {M : Mem} {x : XX} {s1 s2 s3 s4 s5 : Int32} (hi : Inv M) : ∃ r, fL_case18 F M x s1 s2 s3 s4 s5 = some r ∧ Inv r.1 := by
  obtain ⟨nc, np, nt, nw, ns, nv, nhd, nh, h⟩ := id hi
  have h10 := h.tsk.le
  by_cases hr : isN nt s1
  · obtain ⟨q, hq1, hq2⟩ := isN_of (by omega) hr
    by_cases hr2 : inR s2 0 1000000
    · obtain ⟨w, -, hw2, hw⟩ := inR_of (lo := 0) (hi := 1000000) (by decide) hr2 (by decide)
      obtain ⟨y, hy1, hy2⟩ := e_off (F := F) (w := w) h.tsk hq1 (by omega)
      have hC : fX5_off F M s1 s2 = some (M, Sum.inl y) := by
        unfold fX5_off
        rw [e_needTask h.tsk.a hr, q_bx_inl, e_needRange hr2, q_bx_inl, hq2, q_ax_n (show q < 10 by omega), hw, hy1]
        rfl
      have hM : fX6_off F M s1 s2 = some (up M 69 0 0 0, y) := by
        unfold fX6_off
        rw [e_isTask h.tsk.b (by omega) hr, q_bn_p, if_neg (show ¬ (1 : Int32) = 0 by decide), e_in hr2, q_bn_p, if_neg (show ¬ (1 : Int32) = 0 by decide), hq2, hw, hy2]
        rfl
      exact ⟨_, caseA (m := fun M => fX6_off F M s1 s2) (by unfold fL_off; rw [hC]; rfl) hM rfl (fun _ => rfl), inv_69 hi rfl⟩
    · have hC : fX5_off F M s1 s2 = some (M, Sum.inr 1) := by
        unfold fX5_off
        rw [e_needTask h.tsk.a hr, q_bx_inl, e_needRangeX hr2, q_bx_inr]
      have hM : fX6_off F M s1 s2 = some (up M 69 0 0 2, 0) := by
        unfold fX6_off
        rw [e_isTask h.tsk.b (by omega) hr, q_bn_p, if_neg (show ¬ (1 : Int32) = 0 by decide), e_inX hr2, q_bn_p, if_pos rfl]
        rfl
      exact ⟨_, caseA (m := fun M => fX6_off F M s1 s2) (by unfold fL_off; rw [hC]; rfl) hM rfl (fun h => by cases h), inv_69 hi rfl⟩
  · have hC : fX5_off F M s1 s2 = some (M, Sum.inr 3) := by
      unfold fX5_off
      rw [e_needTaskX h.tsk.a hr, q_bx_inr]
    have hM : fX6_off F M s1 s2 = some (up M 69 0 0 1, 0) := by
      unfold fX6_off
      rw [e_isTaskX h.tsk.b (by omega) hr, q_bn_p, if_pos rfl]
      rfl
    exact ⟨_, caseA (m := fun M => fX6_off F M s1 s2) (by unfold fL_off; rw [hC]; rfl) hM rfl (fun h => by cases h), inv_69 hi rfl⟩
