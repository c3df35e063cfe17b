/-- both sides count the chars of the typed text -/
theorem e_typed {F u : Nat} {M M' : Mem} (hu : u ≤ 40) (a : M 8 60 0 = nI u) (b : M' 65 0 0 = nI u) (e : ∀ k, k < u → M 22 60 k = M' 32 0 k) : ∀ (d k n n' : Nat) (c : Int32), k + d = u → d < n → d < n' → ∃ y, fX3_countChars_4 F n M 60 c (nI k) = some (M, y) ∧ fX6_chars_4 F n' M' c (nI k) = some (M', y) := by
  intro d
  induction d with
  | zero =>
    intro k n n' c hk hn hn'
    obtain ⟨n, rfl⟩ := Nat.exists_eq_succ_of_ne_zero (Nat.ne_of_gt hn)
    obtain ⟨n', rfl⟩ := Nat.exists_eq_succ_of_ne_zero (Nat.ne_of_gt hn')
    have hle : nI u ≤ nI k := nI_le (by omega) (by omega)
    unfold fX3_countChars_4 fX6_chars_4
    rw [a, b, if_pos hle, if_pos hle]
    exact ⟨c, rfl, rfl⟩
  | succ d ih =>
    intro k n n' c hk hn hn'
    obtain ⟨n, rfl⟩ := Nat.exists_eq_succ_of_ne_zero (Nat.ne_of_gt (Nat.lt_of_le_of_lt (Nat.zero_le _) hn))
    obtain ⟨n', rfl⟩ := Nat.exists_eq_succ_of_ne_zero (Nat.ne_of_gt (Nat.lt_of_le_of_lt (Nat.zero_le _) hn'))
    have hlt : ¬ nI u ≤ nI k := nI_ge (by omega) (by omega)
    unfold fX3_countChars_4 fX6_chars_4
    rw [a, b, if_neg hlt, if_neg hlt, q_ax_n (show k < 40 by omega), q_ax_n (show k < 40 by omega), e_width, e_charsOf, q_bn_p, q_bn_p, e k (by omega)]
    simp only [q_lt_e, nI_1]
    exact ih (k + 1) n n' _ (by omega) (by omega) (by omega)
theorem nI_dec (n : Nat) : nI (n + 1) + (-1 : Int32) = nI n := by
  have h := nI_pred n
  rw [Int32.sub_eq_add_neg] at h
  exact h
/-- the reference moves the signs behind a place up by one -/
theorem e_shift {F p : Nat} {c : Int32} (hp : p < 40) : ∀ (d n : Nat) (M : Mem), p + d < 40 → d < n → ∃ (M' : Mem) (n' : Nat), n ≤ n' + d + 1 ∧ fX6_insert_51 F n M (nI p) c (nI (p + d)) = (q_lt (up M' 32 0 p c) fun M2 => q_lt (up M2 65 0 0 ((M2 65 0 0) + (1 : Int32))) fun M3 => q_bn (fX6_chars F M3) fun M4 z5 => q_bn (fX6_tells F M4 z5) fun M6 z7 => some (M6, z7)) ∧ (∀ v, v ≠ 32 → M' v = M v) ∧ ∀ k, M' 32 0 k = if p < k ∧ k ≤ p + d then M 32 0 (k - 1) else M 32 0 k := by
  intro d
  induction d with
  | zero =>
    intro n M h4 hn
    obtain ⟨n, rfl⟩ := Nat.exists_eq_succ_of_ne_zero (Nat.ne_of_gt hn)
    refine ⟨M, n, by omega, ?_, fun _ _ => rfl, fun k => (if_neg (by omega)).symm⟩
    show fX6_insert_51 F (n + 1) M (nI p) c (nI p) = _
    rw [fX6_insert_51, if_pos (nI_le (Nat.le_refl p) (by omega)), q_ax_n hp]
  | succ d ih =>
    intro n M h4 hn
    obtain ⟨n, rfl⟩ := Nat.exists_eq_succ_of_ne_zero (Nat.ne_of_gt (Nat.lt_of_le_of_lt (Nat.zero_le _) hn))
    obtain ⟨M', n', h1, h2, h3, h5⟩ := ih n (up M 32 0 (p + d + 1) (M 32 0 (p + d))) (by omega) (by omega)
    refine ⟨M', n', by omega, ?_, fun v hv => by rw [h3 v hv, up_o hv], fun k => ?_⟩
    · show fX6_insert_51 F (n + 1) M (nI p) c (nI (p + d + 1)) = _
      rw [fX6_insert_51, if_neg (nI_ge (by omega) (by omega)), nI_pred, q_ax_n (show p + d < 40 by omega), q_ax_n (show p + d + 1 < 40 by omega), q_lt_e, q_lt_e, nI_dec]
      exact h2
    · rw [h5 k]
      by_cases k1 : p < k ∧ k ≤ p + d
      · have g1 : p < k ∧ k ≤ p + (d + 1) := by omega
        rw [if_pos k1, if_pos g1, up_i (by omega)]
      · rw [if_neg k1]
        by_cases k2 : k = p + d + 1
        · have g1 : p < k ∧ k ≤ p + (d + 1) := by omega
          rw [if_pos g1, k2, up_s]
          rfl
        · have g1 : ¬ (p < k ∧ k ≤ p + (d + 1)) := by omega
          rw [if_neg g1, up_i k2]
theorem k6 {F : Nat} {M : Mem} {x : XX} {s1 s2 s3 s4 s5 : Int32} (hF : 10000 ≤ F) (hi : Inv M) : ∃ r, fL_case6 F M x s1 s2 s3 s4 s5 = some r ∧ Inv r.1 := by
  obtain ⟨nc, np, nt, nw, ns, nv, nhd, nh, h⟩ := id hi
  have h40 := h.txt.le
  by_cases hr : inR s1 0 (nI ns)
  · obtain ⟨p, -, hp, hpe⟩ := inR_of (lo := 0) (hi := ns) (by omega) hr (Nat.zero_le _)
    have hle : s1 ≤ nI ns := i32_le.mpr hr.2
    by_cases hs : signC s2
    · by_cases h4 : ns < 40
      · obtain ⟨M1, p1, p2, p3, p4, p5⟩ := e_put (F := F) (c := s2) h.txt.a hp h4
        obtain ⟨M', n', -, q1, q2, q3⟩ := e_shift (F := F) (p := p) (c := s2) (by omega) (ns - p) F M1 (by omega) (by omega)
        rw [show p + (ns - p) = ns by omega] at q1 q3
        have m65 : M' 65 0 0 = nI ns := by rw [q2 65 (by decide), p2 65 (by decide)]; exact h.txt.b
        have m32 : ∀ k, M1 32 0 k = M 32 0 k := fun k => by rw [p2 32 (by decide)]
        obtain ⟨M3, hM3⟩ : ∃ M3 : Mem, M3 = up (up M' 32 0 p s2) 65 0 0 (nI (ns + 1)) := ⟨_, rfl⟩
        have e32 : ∀ k, M3 32 0 k = if k = p then s2 else if p < k ∧ k ≤ ns then M 32 0 (k - 1) else M 32 0 k := fun k => by
          rw [hM3, up_o (by decide)]
          by_cases hk : k = p
          · rw [if_pos hk, hk, up_s]
          · rw [if_neg hk, up_i hk, q3 k, m32, m32]
        have heq : ∀ k, k < ns + 1 → M1 22 60 k = M3 32 0 k ∧ signC (M3 32 0 k) := fun k hk => by
          rw [p5 k, e32 k]
          by_cases k1 : k = p
          · rw [if_pos k1, if_pos k1]
            exact ⟨rfl, hs⟩
          · rw [if_neg k1, if_neg k1]
            by_cases k2 : p < k ∧ k ≤ ns
            · rw [if_pos k2, if_pos k2]
              exact h.txt.c (k - 1) (by omega)
            · rw [if_neg k2, if_neg k2]
              exact h.txt.c k (by omega)
        obtain ⟨y, y1, y2⟩ := e_typed (F := F) (M := M1) (M' := M3) (u := ns + 1) (by omega) p4 (by rw [hM3]; rfl) (fun k hk => (heq k hk).1) (ns + 1) 0 F F 0 (by omega) (by omega) (by omega)
        have hC : fX5_insert F M s1 s2 = some (M1, Sum.inl y) := by
          unfold fX5_insert fX5_needRoomForSign
          rw [if_neg hr.1, h.txt.a, if_pos hle, e_needSign hs, q_bx_inl, h.txt.a, if_pos (show nI ns < 40 from nI_lt (b := 40) h4 (by decide)), q_bx_inl, hpe, p1, q_bn_p]
          rw [show fX3_countChars F M1 60 = some (M1, y) from y1, q_bn_p]
        have hM : fX6_insert F M1 s1 s2 = some (up M3 69 0 0 0, y) := by
          unfold fX6_insert
          have b65 : M1 65 0 0 = nI ns := by rw [p2 65 (by decide)]; exact h.txt.b
          rw [b65, e_in hr, q_bn_p, z10, e_isSign hs, q_bn_p, z10, b65, if_neg (show ¬ nI ns = 40 from fun e => by have := nI_inj (b := 40) (by omega) (by decide) e; omega), q_lt_e, hpe, q1, q_lt_e, q_lt_e, show up M' 32 0 p s2 65 0 0 = nI ns from m65, nI_1, ← hM3, show fX6_chars F M3 = some (M3, y) from y2, q_bn_p]
          rfl
        refine ⟨_, caseA (m := fun M => fX6_insert F M s1 s2) (by unfold fL_insert; rw [hC]; rfl) hM rfl (fun _ => rfl), inv_69 (M := M3) ?_ rfl⟩
        have e0 : ∀ v, v ∉ [65, 32, 8, 22] → M3 v = M v := fun v hv => by
          simp only [List.mem_cons, List.not_mem_nil, or_false, not_or] at hv
          rw [hM3, up_o hv.1, up_o hv.2.1, q2 v hv.2.1, p2 v (by simp [hv])]
        have e8 : M3 8 = M1 8 := by rw [hM3, up_o (by decide), up_o (by decide), q2 8 (by decide)]
        have e22 : M3 22 = M1 22 := by rw [hM3, up_o (by decide), up_o (by decide), q2 22 (by decide)]
        exact txt_step (ns' := ns + 1) h e0 (fun j hj => ⟨by rw [e8]; exact (p3 j hj).1, by rw [e22]; exact (p3 j hj).2⟩) ⟨by rw [e8]; exact p4, by rw [hM3]; rfl, by omega, fun i hin => by rw [e22]; exact heq i hin⟩
      · have hC : fX5_insert F M s1 s2 = some (M, Sum.inr 2) := by
          unfold fX5_insert fX5_needRoomForSign
          rw [if_neg hr.1, h.txt.a, if_pos hle, e_needSign hs, q_bx_inl, h.txt.a, if_neg (show ¬ nI ns < 40 from nI_nlt (b := 40) (by omega) (by omega)), q_bx_inr]
        have hM : fX6_insert F M s1 s2 = some (up M 69 0 0 3, 0) := by
          unfold fX6_insert
          rw [h.txt.b, e_in hr, q_bn_p, z10, e_isSign hs, q_bn_p, z10, h.txt.b, if_pos (show nI ns = 40 by rw [show ns = 40 by omega]; rfl)]
          rfl
        exact ⟨_, caseA (m := fun M => fX6_insert F M s1 s2) (by unfold fL_insert; rw [hC]; rfl) hM rfl (fun h => by cases h), inv_69 hi rfl⟩
    · have hC : fX5_insert F M s1 s2 = some (M, Sum.inr 1) := by
        unfold fX5_insert
        rw [if_neg hr.1, h.txt.a, if_pos hle, e_needSignX hs, q_bx_inr]
      have hM : fX6_insert F M s1 s2 = some (up M 69 0 0 2, 0) := by
        unfold fX6_insert
        rw [h.txt.b, e_in hr, q_bn_p, z10, e_isSignX hs, q_bn_p, z00]
        rfl
      exact ⟨_, caseA (m := fun M => fX6_insert F M s1 s2) (by unfold fL_insert; rw [hC]; rfl) hM rfl (fun h => by cases h), inv_69 hi rfl⟩
  · have hC : fX5_insert F M s1 s2 = some (M, Sum.inr 3) := by
      unfold fX5_insert fX5_insert_15
      by_cases h0 : s1 < 0
      · rw [if_pos h0]
      · rw [if_neg h0, h.txt.a, if_neg (fun h9 => hr ⟨h0, i32_le.mp h9⟩)]
    have hM : fX6_insert F M s1 s2 = some (up M 69 0 0 1, 0) := by
      unfold fX6_insert
      rw [h.txt.b, e_inX hr, q_bn_p, z00]
      rfl
    exact ⟨_, caseA (m := fun M => fX6_insert F M s1 s2) (by unfold fL_insert; rw [hC]; rfl) hM rfl (fun h => by cases h), inv_69 hi rfl⟩
