theorem e_parent {F np nt nw nv nhd : Nat} {M : Mem} {v : Int32} (h : Ver M np nt nw nv nhd) : ∀ (d i n : Nat), i + d = nv → d < n → ∃ z, fX5_isParent_2 F n M v (nI i) = some (M, z) ∧ ((z = 1 ∧ ∃ k, i ≤ k ∧ k < nv ∧ M 12 k 0 = v) ∨ (z = 0 ∧ ¬ ∃ k, i ≤ k ∧ k < nv ∧ M 12 k 0 = v)) := by
  have h60 := h.le
  intro d
  induction d with
  | zero =>
    intro i n hi hn
    obtain ⟨n, rfl⟩ := Nat.exists_eq_succ_of_ne_zero (Nat.ne_of_gt hn)
    have hle : nI nv ≤ nI i := nI_le (by omega) (by omega)
    unfold fX5_isParent_2
    rw [h.a, if_pos hle]
    exact ⟨0, rfl, Or.inr ⟨rfl, fun h9 => (by obtain ⟨k, h1, h2, -⟩ := h9; omega)⟩⟩
  | succ d ih =>
    intro i n hi hn
    obtain ⟨n, rfl⟩ := Nat.exists_eq_succ_of_ne_zero (Nat.ne_of_gt (Nat.lt_of_le_of_lt (Nat.zero_le _) hn))
    have hlt : ¬ nI nv ≤ nI i := nI_ge (by omega) (by omega)
    unfold fX5_isParent_2
    rw [h.a, if_neg hlt, q_ax_n (show i < 60 by omega)]
    by_cases e : M 12 i 0 = v
    · rw [if_pos e]
      exact ⟨1, rfl, Or.inl ⟨rfl, i, Nat.le_refl _, by omega, e⟩⟩
    · rw [if_neg e, q_lt_e, nI_1]
      obtain ⟨z, z1, z2⟩ := ih (i + 1) n (by omega) (by omega)
      refine ⟨z, z1, ?_⟩
      rcases z2 with ⟨e1, k, k1, k2, k3⟩ | ⟨e1, k3⟩
      · exact Or.inl ⟨e1, k, by omega, k2, k3⟩
      · refine Or.inr ⟨e1, fun ⟨k, k1, k2, k4⟩ => ?_⟩
        by_cases hk : k = i
        · subst hk
          exact e k4
        · exact k3 ⟨k, by omega, k2, k4⟩
/-- the reference's inner loop: no later version has it as its parent -/
theorem e_head1 {F np nt nw nv nhd : Nat} {M : Mem} {p t c v : Int32} {k27 : Mem → Int32 → Int32 → Int32 → Int32 → Option (Mem × Int32)} (h : Ver M np nt nw nv nhd) : ∀ (d i n : Nat) (w : Int32), i + d = nv → d < n → (w = 0 ∨ w = 1) → ∃ z : Int32, fX6_heads_71 F k27 n M p t c v w (nI i) = fX6_heads_121 F k27 M z c p t v ∧ ((z = 1 ∧ w = 1 ∧ ¬ ∃ k, i ≤ k ∧ k < nv ∧ M 12 k 0 = v) ∨ (z = 0 ∧ (w = 0 ∨ ∃ k, i ≤ k ∧ k < nv ∧ M 12 k 0 = v))) := by
  have h60 := h.le
  intro d
  induction d with
  | zero =>
    intro i n w hi hn hw
    obtain ⟨n, rfl⟩ := Nat.exists_eq_succ_of_ne_zero (Nat.ne_of_gt hn)
    have hle : nI nv ≤ nI i := nI_le (by omega) (by omega)
    unfold fX6_heads_71
    rw [h.b, if_pos hle]
    rcases hw with rfl | rfl
    · exact ⟨0, rfl, Or.inr ⟨rfl, Or.inl rfl⟩⟩
    · exact ⟨1, rfl, Or.inl ⟨rfl, rfl, fun h9 => (by obtain ⟨k, h1, h2, -⟩ := h9; omega)⟩⟩
  | succ d ih =>
    intro i n w hi hn hw
    obtain ⟨n, rfl⟩ := Nat.exists_eq_succ_of_ne_zero (Nat.ne_of_gt (Nat.lt_of_le_of_lt (Nat.zero_le _) hn))
    have hlt : ¬ nI nv ≤ nI i := nI_ge (by omega) (by omega)
    have hv := h.v i (by omega)
    unfold fX6_heads_71
    rw [h.b, if_neg hlt]
    unfold fX6_heads_101 fX6_heads_102
    simp only [q_lt_e, nI_1]
    rcases hw with rfl | rfl
    · rw [z00]
      obtain ⟨z, z1, z2⟩ := ih (i + 1) n 0 (by omega) (by omega) (Or.inl rfl)
      refine ⟨z, z1, ?_⟩
      rcases z2 with ⟨-, e, -⟩ | ⟨e, -⟩
      · exact absurd e (by decide)
      · exact Or.inr ⟨e, Or.inl rfl⟩
    · rw [z10, q_ax_n (show i < 60 by omega), ← hv.par.1]
      by_cases e : M 12 i 0 = v
      · rw [if_pos e]
        obtain ⟨z, z1, z2⟩ := ih (i + 1) n 0 (by omega) (by omega) (Or.inl rfl)
        refine ⟨z, z1, ?_⟩
        rcases z2 with ⟨-, e1, -⟩ | ⟨e1, -⟩
        · exact absurd e1 (by decide)
        · exact Or.inr ⟨e1, Or.inr ⟨i, Nat.le_refl _, by omega, e⟩⟩
      · rw [if_neg e]
        obtain ⟨z, z1, z2⟩ := ih (i + 1) n 1 (by omega) (by omega) (Or.inr rfl)
        refine ⟨z, z1, ?_⟩
        rcases z2 with ⟨e1, -, k3⟩ | ⟨e1, e2 | ⟨k, k1, k2, k3⟩⟩
        · refine Or.inl ⟨e1, rfl, fun ⟨k, k1, k2, k4⟩ => ?_⟩
          by_cases hk : k = i
          · subst hk
            exact e k4
          · exact k3 ⟨k, by omega, k2, k4⟩
        · exact absurd e2 (by decide)
        · exact Or.inr ⟨e1, Or.inr ⟨k, by omega, k2, k3⟩⟩
theorem e_heads {F np nt nw nv nhd : Nat} {M : Mem} {p t : Int32} (hF : 10000 ≤ F) (h : Ver M np nt nw nv nhd) : ∀ (d i n n' : Nat) (c : Int32), i + d = nv → d < n → d < n' → ∃ y, fX5_heads_15 F n M p t c (nI i) = some (M, Sum.inl y) ∧ fX6_heads_27 F n' M p t c (nI i) = some (up M 69 0 0 0, y) := by
  have h60 := h.le
  intro d
  induction d with
  | zero =>
    intro i n n' c hi hn hn'
    obtain ⟨n, rfl⟩ := Nat.exists_eq_succ_of_ne_zero (Nat.ne_of_gt hn)
    obtain ⟨n', rfl⟩ := Nat.exists_eq_succ_of_ne_zero (Nat.ne_of_gt hn')
    have hle : nI nv ≤ nI i := nI_le (by omega) (by omega)
    unfold fX5_heads_15 fX6_heads_27
    rw [h.a, h.b, if_pos hle, if_pos hle]
    exact ⟨c, rfl, rfl⟩
  | succ d ih =>
    intro i n n' c hi hn hn'
    obtain ⟨n, rfl⟩ := Nat.exists_eq_succ_of_ne_zero (Nat.ne_of_gt (Nat.lt_of_le_of_lt (Nat.zero_le _) hn))
    obtain ⟨n', rfl⟩ := Nat.exists_eq_succ_of_ne_zero (Nat.ne_of_gt (Nat.lt_of_le_of_lt (Nat.zero_le _) hn'))
    have hlt : ¬ nI nv ≤ nI i := nI_ge (by omega) (by omega)
    have hv := h.v i (by omega)
    have hI := fun c' => ih (i + 1) n n' c' (by omega) (by omega) (by omega)
    obtain ⟨z, z1, z2⟩ := e_parent (F := F) (v := nI i) h nv 0 F (by omega) (by omega)
    have z1 : fX5_isParent F M (nI i) = some (M, z) := z1
    -- a parent comes before its child
    have hpar : (∃ k, 0 ≤ k ∧ k < nv ∧ M 12 k 0 = nI i) ↔ ∃ k, i + 1 ≤ k ∧ k < nv ∧ M 12 k 0 = nI i := by
      refine ⟨fun ⟨k, _, k2, k3⟩ => ⟨k, ?_, k2, k3⟩, fun ⟨k, _, k2, k3⟩ => ⟨k, Nat.zero_le _, k2, k3⟩⟩
      rcases (h.v k k2).par.2 with e | ⟨q, hq, e⟩
      · rw [e] at k3
        exact absurd k3.symm (nI_nm1 (by omega))
      · rw [e] at k3
        have := (nI_eq (by omega) (by omega)).mp k3
        omega
    have hm : ∀ w : Int32, (w = 0 ∨ w = 1) → fX6_heads_63 F (fX6_heads_27 F n') M w p t c (nI i) = fX6_heads_27 F n' M p t (c + (if w = 1 ∧ z = 0 then 1 else 0)) (nI (i + 1)) := fun w hw => by
      unfold fX6_heads_63
      rw [q_lt_e, q_lt_e, nI_1]
      obtain ⟨y, y1, y2⟩ := e_head1 (F := F) (k27 := fX6_heads_27 F n') (p := p) (t := t) (c := c) (v := nI i) h (nv - (i + 1)) (i + 1) F w (by omega) (by omega) hw
      rw [y1]
      unfold fX6_heads_121
      rw [q_lt_e, q_lt_e, nI_1]
      have hy : y = if w = 1 ∧ z = 0 then 1 else 0 := by
        rcases y2 with ⟨rfl, rfl, q⟩ | ⟨rfl, q⟩
        · rcases z2 with ⟨-, r⟩ | ⟨rfl, -⟩
          · exact absurd (hpar.mp r) q
          · rfl
        · rcases q with rfl | q
          · rfl
          · rcases z2 with ⟨rfl, -⟩ | ⟨-, r⟩
            · simp
            · exact absurd (hpar.mpr q) r
      rw [hy]
    unfold fX5_heads_15 fX6_heads_27
    rw [h.a, h.b, if_neg hlt, if_neg hlt, q_ax_n (show i < 60 by omega), q_ax_n (show i < 60 by omega), q_isOf, q_bn_p]
    unfold fX5_heads_51 fX6_heads_62
    simp only [q_lt_e, nI_1, q_ax_n (show i < 60 by omega), q_bn_p, z1, ← hv.p.1, ← hv.t.1, hm 0 (Or.inl rfl), hm 1 (Or.inr rfl)]
    have h01 : ¬ ((0 : Int32) = 1 ∧ z = 0) := fun h => absurd h.1 (by decide)
    by_cases hp : M 10 i 0 = p
    · by_cases ht : M 11 i 0 = t
      · simp only [if_pos (And.intro hp ht), if_pos hp, if_pos ht, z10]
        by_cases hz : z = 0
        · simp only [if_pos hz, hz, and_self, if_true]
          exact hI _
        · simp only [if_neg hz, true_and, if_neg hz, Int32.add_zero]
          exact hI _
      · simp only [if_neg (show ¬ (M 10 i 0 = p ∧ M 11 i 0 = t) from fun h => ht h.2), if_pos hp, if_neg ht, z00, if_neg h01, Int32.add_zero]
        exact hI _
    · simp only [if_neg (show ¬ (M 10 i 0 = p ∧ M 11 i 0 = t) from fun h => hp h.1), if_neg hp, z00, if_neg h01, Int32.add_zero]
      exact hI _
theorem k13 {F : Nat} {M : Mem} {x : XX} {s1 s2 s3 s4 s5 : Int32} (hF : 10000 ≤ F) (hi : Inv M) : ∃ r, fL_case13 F M x s1 s2 s3 s4 s5 = some r ∧ Inv r.1 := by
  obtain ⟨nc, np, nt, nw, ns, nv, nhd, nh, h⟩ := id hi
  have h10 := h.tsk.le
  have h12 := h.pup.le
  have h60 := h.ver.le
  by_cases hp : isN np s1
  · by_cases ht : isN nt s2
    · obtain ⟨y, y1, y2⟩ := e_heads (F := F) (p := s1) (t := s2) hF h.ver nv 0 F F 0 (by omega) (by omega) (by omega)
      have hC : fX5_heads F M s1 s2 = some (M, Sum.inl y) := by
        unfold fX5_heads
        rw [e_needPupil h.pup.a hp, q_bx_inl, e_needTask h.tsk.a ht, q_bx_inl]
        exact y1
      have hM : fX6_heads F M s1 s2 = some (up M 69 0 0 0, y) := by
        unfold fX6_heads
        rw [e_isPupil h.pup.b (by omega) hp, q_bn_p, if_neg (show ¬ (1 : Int32) = 0 by decide), e_isTask h.tsk.b (by omega) ht, q_bn_p, if_neg (show ¬ (1 : Int32) = 0 by decide)]
        exact y2
      exact ⟨_, caseA (m := fun M => fX6_heads F M s1 s2) (by unfold fL_heads; rw [hC]; rfl) hM rfl (fun _ => rfl), inv_69 hi rfl⟩
    · have hC : fX5_heads F M s1 s2 = some (M, Sum.inr 3) := by
        unfold fX5_heads
        rw [e_needPupil h.pup.a hp, q_bx_inl, e_needTaskX h.tsk.a ht, q_bx_inr]
      have hM : fX6_heads F M s1 s2 = some (up M 69 0 0 1, 0) := by
        unfold fX6_heads
        rw [e_isPupil h.pup.b (by omega) hp, q_bn_p, if_neg (show ¬ (1 : Int32) = 0 by decide), e_isTaskX h.tsk.b (by omega) ht, q_bn_p, if_pos rfl]
        rfl
      exact ⟨_, caseA (m := fun M => fX6_heads F M s1 s2) (by unfold fL_heads; rw [hC]; rfl) hM rfl (fun h => by cases h), inv_69 hi rfl⟩
  · have hC : fX5_heads F M s1 s2 = some (M, Sum.inr 3) := by
      unfold fX5_heads
      rw [e_needPupilX h.pup.a hp, q_bx_inr]
    have hM : fX6_heads F M s1 s2 = some (up M 69 0 0 1, 0) := by
      unfold fX6_heads
      rw [e_isPupilX h.pup.b (by omega) hp, q_bn_p, if_pos rfl]
      rfl
    exact ⟨_, caseA (m := fun M => fX6_heads F M s1 s2) (by unfold fL_heads; rw [hC]; rfl) hM rfl (fun h => by cases h), inv_69 hi rfl⟩
