theorem half_40 : ∀ n : Fin 41, nI n.val / 2 = nI (n.val / 2) := by decide +kernel
theorem e_turn {F ns : Nat} (h1 : 1 ≤ ns) (h40 : ns ≤ 40) : ∀ (d l n : Nat) (M : Mem), 2 * l ≤ ns → ns ≤ 2 * l + d → d < n → ∃ M' : Mem, fX3_turn_9 F n M 60 (nI l) (nI (ns - 1 - l)) = some (M', ()) ∧ (∀ v, v ≠ 22 → M' v = M v) ∧ (∀ j, j ≠ 60 → M' 22 j = M 22 j) ∧ ∀ k, M' 22 60 k = if l ≤ k ∧ k ≤ ns - 1 - l then M 22 60 (ns - 1 - k) else M 22 60 k := by
  have hstop : ∀ (l n : Nat) (M : Mem), 2 * l ≤ ns → ns ≤ 2 * l + 1 → 0 < n → ∃ M' : Mem, fX3_turn_9 F n M 60 (nI l) (nI (ns - 1 - l)) = some (M', ()) ∧ (∀ v, v ≠ 22 → M' v = M v) ∧ (∀ j, j ≠ 60 → M' 22 j = M 22 j) ∧ ∀ k, M' 22 60 k = if l ≤ k ∧ k ≤ ns - 1 - l then M 22 60 (ns - 1 - k) else M 22 60 k := fun l n M g1 g2 hn => by
    obtain ⟨n, rfl⟩ := Nat.exists_eq_succ_of_ne_zero (Nat.ne_of_gt hn)
    refine ⟨M, ?_, fun _ _ => rfl, fun _ _ => rfl, fun k => ?_⟩
    · unfold fX3_turn_9
      rw [if_pos (nI_le (by omega) (by omega))]
    · by_cases hk : l ≤ k ∧ k ≤ ns - 1 - l
      · rw [if_pos hk, show ns - 1 - k = k by omega]
      · rw [if_neg hk]
  intro d
  induction d using Nat.strongRecOn with
  | ind d ih =>
    intro l n M g1 g2 hn
    by_cases g3 : ns ≤ 2 * l + 1
    · exact hstop l n M g1 g3 (by omega)
    · obtain ⟨n, rfl⟩ := Nat.exists_eq_succ_of_ne_zero (Nat.ne_of_gt (Nat.lt_of_le_of_lt (Nat.zero_le _) hn))
      obtain ⟨M', m1, m2, m3, m4⟩ := ih (d - 2) (by omega) (l + 1) n (up (up M 22 60 l (M 22 60 (ns - 1 - l))) 22 60 (ns - 1 - l) (M 22 60 l)) (by omega) (by omega) (by omega)
      refine ⟨M', ?_, fun v hv => by rw [m2 v hv, up_o hv, up_o hv], fun j hj => ?_, fun k => ?_⟩
      · unfold fX3_turn_9
        rw [if_neg (nI_ge (by omega) (by omega))]
        simp only [q_lt_e, nI_1, q_ax_n (show l < 40 by omega), q_ax_n (show ns - 1 - l < 40 by omega)]
        rw [show nI (ns - 1 - l) + (-1 : Int32) = nI (ns - 1 - (l + 1)) by rw [show ns - 1 - l = ns - 1 - (l + 1) + 1 by omega, nI_dec]]
        exact m1
      · rw [m3 j hj]
        funext i
        rw [up_j hj, up_j hj]
      · rw [m4 k]
        by_cases k1 : k = l
        · subst k1
          rw [if_neg (by omega), if_pos (by omega), up_i (by omega), up_s]
        · by_cases k2 : k = ns - 1 - l
          · rw [if_neg (by omega), if_pos (by omega), k2, up_s, show ns - 1 - (ns - 1 - l) = l by omega]
          · by_cases k3 : l + 1 ≤ k ∧ k ≤ ns - 1 - (l + 1)
            · rw [if_pos k3, if_pos (by omega), up_i (by omega), up_i (by omega)]
            · rw [if_neg k3, if_neg (by omega), up_i k2, up_i k1]
theorem e_rev {F ns : Nat} (h1 : 1 ≤ ns) (h40 : ns ≤ 40) : ∀ (d l n : Nat) (M : Mem), M 65 0 0 = nI ns → 2 * l ≤ ns → ns ≤ 2 * l + d → d < n → ∃ M' : Mem, fX6_reverse_2 F n M (nI l) = some (up M' 69 0 0 0, M' 32 0 0) ∧ (∀ v, v ≠ 32 → M' v = M v) ∧ ∀ k, M' 32 0 k = if l ≤ k ∧ k ≤ ns - 1 - l then M 32 0 (ns - 1 - k) else M 32 0 k := by
  have hh : nI ns / 2 = nI (ns / 2) := half_40 ⟨ns, by omega⟩
  intro d
  induction d using Nat.strongRecOn with
  | ind d ih =>
    intro l n M a g1 g2 hn
    obtain ⟨n, rfl⟩ := Nat.exists_eq_succ_of_ne_zero (Nat.ne_of_gt (Nat.lt_of_le_of_lt (Nat.zero_le _) hn))
    by_cases g3 : ns ≤ 2 * l + 1
    · refine ⟨M, ?_, fun _ _ => rfl, fun k => ?_⟩
      · unfold fX6_reverse_2 fX6_reverse_76
        rw [a, hh, if_pos (nI_le (by omega) (by omega)), if_neg (nI_ne0 (by omega) (by omega)), show (0 : Int32) = nI 0 from rfl, q_ax_n (show 0 < 40 by decide), e_tells]
        rfl
      · by_cases hk : l ≤ k ∧ k ≤ ns - 1 - l
        · rw [if_pos hk, show ns - 1 - k = k by omega]
        · rw [if_neg hk]
    · have hsub : nI ns - 1 - nI l = nI (ns - 1 - l) := by
        rw [show (1 : Int32) = nI 1 from rfl, nI_sub h1, nI_sub (by omega)]
      obtain ⟨M', m1, m2, m4⟩ := ih (d - 2) (by omega) (l + 1) n (up (up M 32 0 l (M 32 0 (ns - 1 - l))) 32 0 (ns - 1 - l) (M 32 0 l)) a (by omega) (by omega) (by omega)
      refine ⟨M', ?_, fun v hv => by rw [m2 v hv, up_o hv, up_o hv], fun k => ?_⟩
      · unfold fX6_reverse_2
        rw [a, hh, if_neg (nI_ge (by omega) (by omega))]
        simp only [q_lt_e, q_ax_n (show l < 40 by omega), hsub, q_ax_n (show ns - 1 - l < 40 by omega), show up M 32 0 l (M 32 0 (ns - 1 - l)) 65 0 0 = nI ns from a, nI_1]
        exact m1
      · rw [m4 k]
        by_cases k1 : k = l
        · subst k1
          rw [if_neg (by omega), if_pos (by omega), up_i (by omega), up_s]
        · by_cases k2 : k = ns - 1 - l
          · rw [if_neg (by omega), if_pos (by omega), k2, up_s, show ns - 1 - (ns - 1 - l) = l by omega]
          · by_cases k3 : l + 1 ≤ k ∧ k ≤ ns - 1 - (l + 1)
            · rw [if_pos k3, if_pos (by omega), up_i (by omega), up_i (by omega)]
            · rw [if_neg k3, if_neg (by omega), up_i k2, up_i k1]
theorem k7 {F : Nat} {M : Mem} {x : XX} {s1 s2 s3 s4 s5 : Int32} (hF : 10000 ≤ F) (hi : Inv M) : ∃ r, fL_case7 F M x s1 s2 s3 s4 s5 = some r ∧ Inv r.1 := by
  obtain ⟨nc, np, nt, nw, ns, nv, nhd, nh, h⟩ := id hi
  have h40 := h.txt.le
  by_cases h1 : 1 ≤ ns
  · obtain ⟨M1, m1, m2, m3, m4⟩ := e_turn (F := F) h1 h40 ns 0 F M (by omega) (by omega) (by omega)
    obtain ⟨M3, n1, n2, n4⟩ := e_rev (F := F) h1 h40 ns 0 F M1 (by rw [m2 65 (by decide)]; exact h.txt.b) (by omega) (by omega) (by omega)
    have heq : ∀ k, k < ns → M1 22 60 k = M3 32 0 k ∧ signC (M3 32 0 k) := fun k hk => by
      rw [m4 k, n4 k, if_pos (by omega), if_pos (by omega), m2 32 (by decide)]
      exact h.txt.c _ (by omega)
    have a1 : M1 8 60 0 = nI ns := by rw [m2 8 (by decide)]; exact h.txt.a
    have hC : fX5_reverse F M = some (M1, M3 32 0 0) := by
      unfold fX5_reverse fX5_reverse_30
      have ht : fX3_turn F M 60 = some (M1, ()) := by
        unfold fX3_turn
        rw [q_lt_e, q_lt_e, h.txt.a, show (1 : Int32) = nI 1 from rfl, nI_sub h1]
        exact m1
      rw [ht, q_bn_p, a1, if_neg (nI_nle (by omega) (by omega)), show (0 : Int32) = nI 0 from rfl, q_ax_n (show 0 < 40 by decide), (heq 0 (by omega)).1]
    have hM : fX6_reverse F M1 = some (up M3 69 0 0 0, M3 32 0 0) := n1
    refine ⟨_, caseB (F := F) (m := fun M => fX6_reverse F M) hC hM, inv_69 (M := M3) ?_ rfl⟩
    have e0 : ∀ v, v ∉ [65, 32, 8, 22] → M3 v = M v := fun v hv => by
      simp only [List.mem_cons, List.not_mem_nil, or_false, not_or] at hv
      rw [n2 v hv.2.1, m2 v hv.2.2.2]
    refine txt_step (ns' := ns) h e0 (fun j hj => ⟨by rw [n2 8 (by decide), m2 8 (by decide)], by rw [n2 22 (by decide)]; exact m3 j hj⟩) ⟨by rw [n2 8 (by decide)]; exact a1, by rw [n2 65 (by decide), m2 65 (by decide)]; exact h.txt.b, h40, fun i hin => by rw [n2 22 (by decide)]; exact heq i hin⟩
  · have h0 : ns = 0 := by omega
    subst h0
    obtain ⟨n, rfl⟩ : ∃ n, F = n + 1 := ⟨F - 1, by omega⟩
    have hC : fX5_reverse (n + 1) M = some (M, 0) := by
      unfold fX5_reverse fX3_turn
      rw [q_lt_e, q_lt_e, fX3_turn_9, h.txt.a, if_pos (by decide), q_bn_p, h.txt.a, if_pos (by decide)]
      rfl
    have hM : fX6_reverse (n + 1) M = some (up M 69 0 0 0, 0) := by
      unfold fX6_reverse
      rw [q_lt_e, fX6_reverse_2, h.txt.b, if_pos (by decide), if_pos (by decide)]
      rfl
    exact ⟨_, caseB (F := n + 1) (m := fun M => fX6_reverse (n + 1) M) hC hM, inv_69 hi rfl⟩
