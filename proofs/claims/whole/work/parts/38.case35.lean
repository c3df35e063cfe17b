theorem fp_in : ∀ b : Fin 60, ∀ a : Fin (b.val + 2), (q_n32 (FP.fdiv (FP.i2f (nI a.val)) (FP.i2f (nI (b.val + 1)))) && q_n64 (FP.f2d (FP.fdiv (FP.i2f (nI a.val)) (FP.i2f (nI (b.val + 1))))) && decide (Op.cmpValue (FP.dcmp (FP.f2d (FP.fdiv (FP.i2f (nI a.val)) (FP.i2f (nI (b.val + 1))))) (FP.f2d (FP.fdiv (FP.i2f (nI a.val)) (FP.i2f (nI (b.val + 1)))))) .l = (0 : Int32))) = true := by decide +kernel
def shr (t n : Nat) : UInt32 := FP.fdiv (FP.i2f (nI t)) (FP.i2f (nI n))
theorem shr_ok {t n : Nat} (h : t ≤ n) (h1 : 1 ≤ n) (h2 : n ≤ 60) : q_n32 (shr t n) = true ∧ q_n64 (FP.f2d (shr t n)) = true ∧ Op.cmpValue (FP.dcmp (FP.f2d (shr t n)) (FP.f2d (shr t n))) .l = (0 : Int32) := by
  have h3 := fp_in ⟨n - 1, by omega⟩ ⟨t, by show t < n - 1 + 2; omega⟩
  have h4 : n - 1 + 1 = n := by omega
  simp only [h4, Bool.and_eq_true, decide_eq_true_eq] at h3
  exact ⟨h3.1.1, h3.1.2, h3.2⟩
theorem e_share {F np nt nw nv nhd : Nat} {M : Mem} (h : Ver M np nt nw nv nhd) (hw : nw ≤ 1000000) (hn1 : 1 ≤ nv) : ∀ (d i n n' c : Nat), i + d = nv → d < n → d < n' → c ≤ i → ∃ t, t ≤ nv ∧ fX5_inShare_22 F n M (nI c) (nI i) = some (M, Sum.inl (shr t nv)) ∧ fX6_inShare_20 F n' (up M 69 0 0 0) (nI c) (nI i) = some (up M 69 0 0 0, shr t nv) := by
  have h60 := h.le
  intro d
  induction d with
  | zero =>
    intro i n n' c hi hn hn' hc
    obtain ⟨n, rfl⟩ := Nat.exists_eq_succ_of_ne_zero (Nat.ne_of_gt hn)
    obtain ⟨n', rfl⟩ := Nat.exists_eq_succ_of_ne_zero (Nat.ne_of_gt hn')
    have hle : nI nv ≤ nI i := nI_le (by omega) (by omega)
    have hs := (shr_ok (show c ≤ nv by omega) hn1 h60).1
    refine ⟨c, by omega, ?_, ?_⟩
    · unfold fX5_inShare_22
      rw [h.a, if_pos hle]
      exact q_gd_t hs
    · unfold fX6_inShare_20 fX6_inShare_71
      rw [show up M 69 0 0 0 64 0 0 = nI nv from h.b, if_pos hle, if_pos (show up M 69 0 0 0 69 0 0 ≤ 0 by rw [up_s]; decide)]
      exact q_gd_t hs
  | succ d ih =>
    intro i n n' c hi hn hn' hc
    obtain ⟨n, rfl⟩ := Nat.exists_eq_succ_of_ne_zero (Nat.ne_of_gt (Nat.lt_of_le_of_lt (Nat.zero_le _) hn))
    obtain ⟨n', rfl⟩ := Nat.exists_eq_succ_of_ne_zero (Nat.ne_of_gt (Nat.lt_of_le_of_lt (Nat.zero_le _) hn'))
    have hlt : ¬ nI nv ≤ nI i := nI_ge (by omega) (by omega)
    unfold fX5_inShare_22 fX6_inShare_20
    rw [h.a, show up M 69 0 0 0 64 0 0 = nI nv from h.b, if_neg hlt, if_neg hlt, q_ax_n (show i < 60 by omega), q_ax_n (show i < 60 by omega), e_isThere (h.v i (by omega)) hw, q_bn_p, show up M 69 0 0 0 38 0 i = M 38 0 i from rfl]
    unfold fX5_inShare_45 fX6_inShare_44
    simp only [q_lt_e, nI_1]
    by_cases hin : M 38 0 i = 1
    · simp only [if_pos hin, z10]
      exact ih (i + 1) n n' (c + 1) (by omega) (by omega) (by omega) (by omega)
    · simp only [if_neg hin, z00, Int32.add_zero]
      exact ih (i + 1) n n' c (by omega) (by omega) (by omega) (by omega)
theorem k35 {F : Nat} {M : Mem} {x : XX} {s1 s2 s3 s4 s5 : Int32} (hF : 10000 ≤ F) (hi : Inv M) : ∃ r, fL_case35 F M x s1 s2 s3 s4 s5 = some r ∧ Inv r.1 := by
  obtain ⟨nc, np, nt, nw, ns, nv, nhd, nh, h⟩ := id hi
  have h60 := h.ver.le
  by_cases h1 : 1 ≤ nv
  · obtain ⟨t, t1, t2, t3⟩ := e_share (F := F) h.ver h.clk.le h1 nv 0 F F 0 (by omega) (by omega) (by omega) (Nat.le_refl _)
    obtain ⟨g1, g2, g3⟩ := shr_ok t1 h1 h60
    have hne : ¬ nI nv = 0 := nI_ne0 (by omega) (by omega)
    have hC : fX5_inShare F M = some (M, Sum.inl (shr t nv)) := by
      unfold fX5_inShare
      rw [h.ver.a, if_neg hne]
      exact t2
    have hM : fX6_inShare F M = some (up M 69 0 0 0, shr t nv) := by
      unfold fX6_inShare fX6_inShare_13
      rw [h.ver.b, if_neg hne]
      exact t3
    have hL : fL_inShare F M x = some (M, ((x.1, FP.f2d (shr t nv)), 0)) := by
      unfold fL_inShare
      rw [hC, q_bh_inl, q_gd_t g2]
      rfl
    refine ⟨(up M 69 0 0 0, (x.1, FP.f2d (shr t nv))), ?_, inv_69 hi rfl⟩
    unfold fL_case35
    rw [hL, q_bw_some, q_lt_e, hM, q_bn_p, q_lt_e, show fX6_thrown F (up M 69 0 0 0) = some (up M 69 0 0 0, 0) from rfl, q_bn_p, if_pos rfl, if_pos rfl, q_gd_t g2, if_pos g3]
  · have h0 : nv = 0 := by omega
    subst h0
    obtain ⟨n, rfl⟩ : ∃ n, F = n + 1 := ⟨F - 1, by omega⟩
    have hC : fX5_inShare (n + 1) M = some (M, Sum.inr 6) := by
      unfold fX5_inShare
      rw [h.ver.a, if_pos (show nI 0 = 0 from rfl)]
    have hM : fX6_inShare (n + 1) M = some (up M 69 0 0 1, FP.fconst0) := by
      unfold fX6_inShare fX6_inShare_13
      rw [h.ver.b, if_pos (show nI 0 = 0 from rfl), q_lt_e, q_lt_e, q_lt_e, fX6_inShare_20, show up M 69 0 0 1 64 0 0 = nI 0 from h.ver.b, if_pos (by decide), if_neg (show ¬ up M 69 0 0 1 69 0 0 ≤ 0 by rw [up_s]; decide)]
      rfl
    have hL : fL_inShare (n + 1) M x = some (M, (x, 1)) := by
      unfold fL_inShare
      rw [hC]
      rfl
    refine ⟨(up M 69 0 0 1, x), ?_, inv_69 hi rfl⟩
    unfold fL_case35
    rw [hL, q_bw_some, q_lt_e, hM, q_bn_p, q_lt_e, show fX6_thrown (n + 1) (up M 69 0 0 1) = some (up M 69 0 0 1, 1) from rfl, q_bn_p, if_pos rfl, z10]
