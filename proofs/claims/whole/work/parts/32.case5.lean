theorem nI_sub {a b : Nat} (h : b ≤ a) : nI a - nI b = nI (a - b) := by
  have e : nI a = nI (a - b) + nI b := by rw [nI_add, Nat.sub_add_cancel h]
  rw [e, Int32.add_sub_cancel]
theorem q_ac_n {β : Type} {a b n n0 n1 : Nat} {k : Nat → Nat → Nat → Option β} (h0 : a + n ≤ n0) (h1 : b + n ≤ n1) (g0 : n0 < 2 ^ 31) (g1 : n1 < 2 ^ 31) : q_ac (nI a) (nI b) (nI n) n0 n1 k = k a b n := by
  have ca : (nI a).toNatClampNeg = a := nI_clamp (by omega)
  have cb : (nI b).toNatClampNeg = b := nI_clamp (by omega)
  have cn : (nI n).toNatClampNeg = n := nI_clamp (by omega)
  have pa : ¬ nI a < 0 := nI_pos (by omega)
  have pb : ¬ nI b < 0 := nI_pos (by omega)
  have pn : ¬ nI n < 0 := nI_pos (by omega)
  unfold q_ac q_acg
  rw [ca, cb, cn]
  simp [pa, pb, pn, h0, h1]
theorem e_put {F p ns : Nat} {M : Mem} {c : Int32} (a : M 8 60 0 = nI ns) (hp : p ≤ ns) (hn : ns < 40) : ∃ M1 : Mem, fX3_put F M 60 (nI p) c = some (M1, ()) ∧ (∀ v, v ∉ [8, 22] → M1 v = M v) ∧ (∀ j, j ≠ 60 → M1 8 j = M 8 j ∧ M1 22 j = M 22 j) ∧ M1 8 60 0 = nI (ns + 1) ∧ ∀ k, M1 22 60 k = if k = p then c else if p < k ∧ k ≤ ns then M 22 60 (k - 1) else M 22 60 k := by
  refine ⟨up (up (upA M 22 60 (va_cpy (M 22 60) (M 22 60) p (p + 1) (ns - p))) 22 60 p c) 8 60 0 (nI (ns + 1)), ?_, fun v hv => ?_, fun j hj => ⟨?_, ?_⟩, rfl, fun k => ?_⟩
  · unfold fX3_put
    rw [if_neg (nI_pos (by omega)), a, if_neg (nI_nlt hp (by omega)), if_pos (show nI ns < Int32.ofNat 40 from nI_lt (b := 40) hn (by decide)), nI_1, nI_sub hp, q_ac_n (by omega) (by omega) (by decide) (by decide), q_lt_e, q_ax_n (show p < 40 by omega)]
    simp only [q_lt_e]
    rw [show up (upA M 22 60 (va_cpy (M 22 60) (M 22 60) p (p + 1) (ns - p))) 22 60 p c 8 60 0 = nI ns from a, nI_1]
  · simp only [List.mem_cons, List.not_mem_nil, not_or] at hv
    rw [up_o hv.1, up_o hv.2.1, upA_o hv.2.1]
  · funext i
    simp [up, upA, hj]
  · funext i
    simp [up, upA, hj]
  · simp only [up_e, upA, va_cpy]
    by_cases hk : k = p
    · simp [hk]
    · by_cases h9 : p < k ∧ k ≤ ns
      · have h8 : p + 1 ≤ k ∧ k < p + 1 + (ns - p) := by omega
        simp only [hk, h9, h8, and_self, and_false, if_true, if_false]
        simp
        congr 1
        omega
      · have h8 : ¬ (p + 1 ≤ k ∧ k < p + 1 + (ns - p)) := by omega
        simp only [hk, h9, h8, and_false, if_true, if_false]
        simp
/-- a step that changes the typed text alone -/
theorem txt_step {M M2 : Mem} {nc np nt nw ns ns' nv nhd nh : Nat} (h : InvN M nc np nt nw ns nv nhd nh) (e0 : ∀ v, v ∉ [65, 32, 8, 22] → M2 v = M v) (e1 : ∀ j, j ≠ 60 → M2 8 j = M 8 j ∧ M2 22 j = M 22 j) (ht : Txt M2 ns') : Inv M2 := by
  refine inv_tail (ns' := ns') h (Cls_of h.cls (fr e0 (by decide))) (Pup_of h.pup (fr e0 (by decide))) (Tsk_of h.tsk (fr e0 (by decide))) (Clk_of h.clk (fr e0 (by decide))) ht h.ver (fr e0 (by decide)) (fun v hv j hj h9 => ?_) (fr e0 (by decide)) (e0 10 (by decide)) (e0 11 (by decide))
  by_cases h8 : v = 8
  · subst h8
    exact (e1 j (by have := h9 (Or.inl rfl); omega)).1
  · by_cases h22 : v = 22
    · subst h22
      exact (e1 j (by have := h9 (Or.inr rfl); omega)).2
    · have hq : v ∉ [65, 32, 8, 22] := fun h7 => by
        simp only [List.mem_cons, List.not_mem_nil, or_false] at h7
        rcases h7 with rfl | rfl | rfl | rfl
        · exact absurd hv (by decide)
        · exact absurd hv (by decide)
        · exact h8 rfl
        · exact h22 rfl
      rw [e0 v hq]
theorem k5 {F : Nat} {M : Mem} {x : XX} {s1 s2 s3 s4 s5 : Int32} (hi : Inv M) : ∃ r, fL_case5 F M x s1 s2 s3 s4 s5 = some r ∧ Inv r.1 := by
  obtain ⟨nc, np, nt, nw, ns, nv, nhd, nh, h⟩ := id hi
  have h40 := h.txt.le
  by_cases hs : signC s1
  · by_cases h4 : ns < 40
    · obtain ⟨M1, p1, p2, p3, p4, p5⟩ := e_put (F := F) (c := s1) h.txt.a (Nat.le_refl ns) h4
      have hC : fX5_type F M s1 = some (M1, Sum.inl (nI (ns + 1))) := by
        unfold fX5_type fX5_needRoomForSign
        rw [e_needSign hs, q_bx_inl, h.txt.a, if_pos (show nI ns < 40 from nI_lt (b := 40) h4 (by decide)), q_bx_inl, h.txt.a, p1, q_bn_p, p4]
      have hM : fX6_type F M1 s1 = some (up (up (up M1 32 0 ns s1) 65 0 0 (nI (ns + 1))) 69 0 0 0, nI (ns + 1)) := by
        unfold fX6_type
        rw [e_isSign hs, q_bn_p, z10, show M1 65 0 0 = nI ns by rw [p2 65 (by decide)]; exact h.txt.b, if_neg (show ¬ nI ns = 40 from fun e => by have := nI_inj (b := 40) (by omega) (by decide) e; omega), q_ax_n h4]
        simp [q_lt_e, up_e, p2 65 (by decide), h.txt.b, nI_1, e_tells, q_bn_p]
      refine ⟨_, caseA (m := fun M => fX6_type F M s1) (by unfold fL_type; rw [hC]; rfl) hM rfl (fun _ => rfl), inv_69 (M := up (up M1 32 0 ns s1) 65 0 0 (nI (ns + 1))) ?_ rfl⟩
      refine txt_step (ns' := ns + 1) h (up_fr (up_fr p2)) (fun j hj => ⟨by rw [up_o (by decide), up_o (by decide)]; exact (p3 j hj).1, by rw [up_o (by decide), up_o (by decide)]; exact (p3 j hj).2⟩) ⟨by rw [up_o (by decide), up_o (by decide)]; exact p4, rfl, by omega, fun i hin => ?_⟩
      rw [up_o (by decide), up_o (by decide), p5 i, up_o (show 32 ≠ 65 by decide)]
      by_cases hj : i = ns
      · subst hj
        rw [if_pos rfl, up_s]
        exact ⟨rfl, hs⟩
      · rw [if_neg hj, if_neg (by omega), up_i hj, p2 32 (by decide)]
        exact h.txt.c i (by omega)
    · have hC : fX5_type F M s1 = some (M, Sum.inr 2) := by
        unfold fX5_type fX5_needRoomForSign
        rw [e_needSign hs, q_bx_inl, h.txt.a, if_neg (show ¬ nI ns < 40 from nI_nlt (b := 40) (by omega) (by omega)), q_bx_inr]
      have hM : fX6_type F M s1 = some (up M 69 0 0 2, 0) := by
        unfold fX6_type
        rw [e_isSign hs, q_bn_p, z10, h.txt.b, if_pos (show nI ns = 40 by rw [show ns = 40 by omega]; rfl)]
        rfl
      exact ⟨_, caseA (m := fun M => fX6_type F M s1) (by unfold fL_type; rw [hC]; rfl) hM rfl (fun h => by cases h), inv_69 hi rfl⟩
  · have hC : fX5_type F M s1 = some (M, Sum.inr 1) := by
      unfold fX5_type
      rw [e_needSignX hs, q_bx_inr]
    have hM : fX6_type F M s1 = some (up M 69 0 0 1, 0) := by
      unfold fX6_type
      rw [e_isSignX hs, q_bn_p, z00]
      rfl
    exact ⟨_, caseA (m := fun M => fX6_type F M s1) (by unfold fL_type; rw [hC]; rfl) hM rfl (fun h => by cases h), inv_69 hi rfl⟩
