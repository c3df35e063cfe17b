theorem pc_isC : ∀ j : Fin 107, ∀ k : Fin 2, (pv (nI (sgn j.val)) (nI k.val)).all q_isC = true := by decide +kernel
theorem e_partC {F : Nat} {c : Int32} {k : Nat} (h : signC c) (hk : k < 2) : ∃ y, q_isC y = true ∧ (y.toUInt32 % 65536).toInt32 = y ∧ (∀ M : Mem, fX3_part F M c (nI k) = some (M, y)) ∧ ∀ M : Mem, fX6_charOf F M c (nI k) = some (M, y) := by
  obtain ⟨j, rfl⟩ := sgn_of h
  obtain ⟨h1, h2⟩ := pc_all j ⟨k, hk⟩
  have h3 := pc_isC j ⟨k, hk⟩
  obtain ⟨y, hy⟩ := Option.isSome_iff_exists.mp h1
  rw [hy] at h3
  have h4 : q_isC y = true := h3
  refine ⟨y, h4, of_decide_eq_true h4, fun M => ?_, fun M => ?_⟩
  · rw [pv_e, show pv (nI (sgn j.val)) (nI k) = some y from hy]
    rfl
  · rw [cv_e, show cv (nI (sgn j.val)) (nI k) = some y from h2 ▸ hy]
    rfl
def wd (c : Int32) : Nat := if c ≤ 65535 then 1 else 2
theorem wd_e {c : Int32} : (if c ≤ 65535 then (1 : Int32) else 2) = nI (wd c) := by
  unfold wd
  by_cases h : c ≤ 65535
  · rw [if_pos h, if_pos h]
    rfl
  · rw [if_neg h, if_neg h]
    rfl
theorem wd_12 (c : Int32) : wd c = 1 ∨ wd c = 2 := by
  unfold wd
  by_cases h : c ≤ 65535
  · exact Or.inl (if_pos h)
  · exact Or.inr (if_neg h)
def tail (f : Nat → Int32) : Nat → Nat → Nat
  | _, 0 => 0
  | k, d + 1 => wd (f k) + tail f (k + 1) d
theorem tail_le (f : Nat → Int32) : ∀ d k, tail f k d ≤ 2 * d := by
  intro d
  induction d with
  | zero => exact fun k => Nat.le_refl _
  | succ d ih =>
    intro k
    have h1 := ih (k + 1)
    have h2 := wd_12 (f k)
    show wd (f k) + tail f (k + 1) d ≤ 2 * (d + 1)
    omega
theorem e_cnt {F u : Nat} {M : Mem} (hu : u ≤ 40) (a : M 8 60 0 = nI u) : ∀ (d k n c : Nat), k + d = u → d < n → fX3_countChars_4 F n M 60 (nI c) (nI k) = some (M, nI (c + tail (M 22 60) k d)) := by
  intro d
  induction d with
  | zero =>
    intro k n c hk hn
    obtain ⟨n, rfl⟩ := Nat.exists_eq_succ_of_ne_zero (Nat.ne_of_gt hn)
    unfold fX3_countChars_4
    rw [a, if_pos (nI_le (by omega) (by omega))]
    rfl
  | succ d ih =>
    intro k n c hk hn
    obtain ⟨n, rfl⟩ := Nat.exists_eq_succ_of_ne_zero (Nat.ne_of_gt (Nat.lt_of_le_of_lt (Nat.zero_le _) hn))
    unfold fX3_countChars_4
    rw [a, if_neg (nI_ge (by omega) (by omega)), q_ax_n (show k < 40 by omega), e_width, q_bn_p, q_lt_e, q_lt_e, wd_e, nI_add, nI_1, ih (k + 1) n _ (by omega) (by omega)]
    show some (M, nI (c + wd (M 22 60 k) + tail (M 22 60) (k + 1) d)) = some (M, nI (c + (wd (M 22 60 k) + tail (M 22 60) (k + 1) d)))
    rw [Nat.add_assoc]
theorem e_char {F u : Nat} {M : Mem} (hu : u ≤ 40) (a : M 8 60 0 = nI u) (b : M 65 0 0 = nI u) (e : ∀ k, k < u → M 22 60 k = M 32 0 k ∧ signC (M 32 0 k)) : ∀ (d k n n' p : Nat), k + d = u → d < n → d < n' → p < 2 ^ 31 → (p < tail (M 22 60) k d ∧ ∃ y, q_isC y = true ∧ fX3_charIn_4 F n M 60 (nI p) (nI k) = some (M, y) ∧ fX6_charAt_4 F n' M (nI p) (nI k) = some (up M 69 0 0 0, y)) ∨ (¬ p < tail (M 22 60) k d ∧ fX6_charAt_4 F n' M (nI p) (nI k) = some (up M 69 0 0 1, 0)) := by
  intro d
  induction d with
  | zero =>
    intro k n n' p hk hn hn' hp
    obtain ⟨n', rfl⟩ := Nat.exists_eq_succ_of_ne_zero (Nat.ne_of_gt hn')
    refine Or.inr ⟨Nat.not_lt_zero _, ?_⟩
    unfold fX6_charAt_4
    rw [b, if_pos (nI_le (by omega) (by omega))]
    rfl
  | succ d ih =>
    intro k n n' p hk hn hn' hp
    obtain ⟨n, rfl⟩ := Nat.exists_eq_succ_of_ne_zero (Nat.ne_of_gt (Nat.lt_of_le_of_lt (Nat.zero_le _) hn))
    obtain ⟨n', rfl⟩ := Nat.exists_eq_succ_of_ne_zero (Nat.ne_of_gt (Nat.lt_of_le_of_lt (Nat.zero_le _) hn'))
    have hlt : ¬ nI u ≤ nI k := nI_ge (by omega) (by omega)
    obtain ⟨e1, e2⟩ := e k (by omega)
    have hw := wd_12 (M 32 0 k)
    have ht : tail (M 22 60) k (d + 1) = wd (M 32 0 k) + tail (M 22 60) (k + 1) d := by rw [← e1]; rfl
    unfold fX3_charIn_4 fX6_charAt_4
    rw [a, b, if_neg hlt, if_neg hlt, if_neg (nI_pos hp), ht]
    simp only [q_ax_n (show k < 40 by omega), e_width, e_charsOf, q_bn_p, wd_e, e1, q_lt_e, nI_1]
    by_cases hle : wd (M 32 0 k) ≤ p
    · simp only [if_pos (nI_le hle hp), nI_sub hle]
      rcases ih (k + 1) n n' (p - wd (M 32 0 k)) (by omega) (by omega) (by omega) (by omega) with ⟨h1, h2⟩ | ⟨h1, h2⟩
      · exact Or.inl ⟨by omega, h2⟩
      · exact Or.inr ⟨by omega, h2⟩
    · have hg : ¬ nI (wd (M 32 0 k)) ≤ nI p := nI_ge (by omega) (by omega)
      obtain ⟨y, y1, y2, y3, y4⟩ := e_partC (F := F) (k := p) e2 (by omega)
      simp only [if_neg hg, y3, q_bn_p, up_o (show 32 ≠ 69 by decide), y4, y2, q_gd_t y1]
      exact Or.inl ⟨by omega, y, y1, rfl, rfl⟩
theorem k9 {F : Nat} {M : Mem} {x : XX} {s1 s2 s3 s4 s5 : Int32} (hF : 10000 ≤ F) (hi : Inv M) : ∃ r, fL_case9 F M x s1 s2 s3 s4 s5 = some r ∧ Inv r.1 := by
  obtain ⟨nc, np, nt, nw, ns, nv, nhd, nh, h⟩ := id hi
  have h40 := h.txt.le
  have hno : fX5_charAt F M s1 = some (M, Sum.inr 4) → fX6_charAt F M s1 = some (up M 69 0 0 1, 0) → ∃ r, fL_case9 F M x s1 s2 s3 s4 s5 = some r ∧ Inv r.1 := fun hC hM => ⟨_, caseA (m := fun M => fX6_charAt F M s1) (by unfold fL_charAt; rw [hC]; rfl) hM rfl (fun h => by cases h), inv_69 hi rfl⟩
  by_cases h0 : s1 < 0
  · refine hno ?_ ?_
    · unfold fX5_charAt
      rw [if_pos h0]
      rfl
    · obtain ⟨n, rfl⟩ : ∃ n, F = n + 1 := ⟨F - 1, by omega⟩
      unfold fX6_charAt
      rw [q_lt_e, q_lt_e, fX6_charAt_4, if_pos h0, ite_self]
      rfl
  · obtain ⟨p, hp, rfl⟩ := nI_of h0
    have ht := tail_le (M 22 60) ns 0
    have hcnt : fX3_countChars F M 60 = some (M, nI (tail (M 22 60) 0 ns)) := by
      have h9 := e_cnt (F := F) h40 h.txt.a ns 0 F 0 (by omega) (by omega)
      rw [Nat.zero_add] at h9
      exact h9
    rcases e_char (F := F) h40 h.txt.a h.txt.b h.txt.c ns 0 F F p (by omega) (by omega) (by omega) hp with ⟨h1, y, y1, y2, y3⟩ | ⟨h1, h2⟩
    · have hC : fX5_charAt F M (nI p) = some (M, Sum.inl y) := by
        unfold fX5_charAt
        rw [if_neg h0, hcnt, q_bn_p, if_pos (nI_lt h1 (by omega)), show fX3_charIn F M 60 (nI p) = some (M, y) from y2, q_bn_p, q_gd_t y1]
      have hM : fX6_charAt F M (nI p) = some (up M 69 0 0 0, y) := y3
      exact ⟨_, caseA (m := fun M => fX6_charAt F M (nI p)) (by unfold fL_charAt; rw [hC]; rfl) hM rfl (fun _ => rfl), inv_69 hi rfl⟩
    · refine hno ?_ h2
      unfold fX5_charAt
      rw [if_neg h0, hcnt, q_bn_p, if_neg (nI_nlt (by omega) hp)]
      rfl
