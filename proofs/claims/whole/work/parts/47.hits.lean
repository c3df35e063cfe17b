/-! handing in -/
theorem q_isThere {F i : Nat} {M : Mem} : fX4_isThere F M i = some (M, if M 14 i 0 = -1 then 0 else if M 16 i 0 = 0 then 1 else 0) := by
  unfold fX4_isThere
  by_cases x1 : M 14 i 0 = -1
  · rw [if_pos x1, if_pos x1]
    rfl
  · rw [if_neg x1, if_neg x1]
    by_cases x2 : M 16 i 0 = 0
    · rw [if_pos x2, if_pos x2]
      rfl
    · rw [if_neg x2, if_neg x2]
      rfl
/-- does a version make a hit -/
def mv (M : Mem) (q i : Nat) : Nat := if M 38 0 i = 1 then (if M 10 i 0 = M 10 q 0 then 0 else if nI (cmn M i q) < M 7 0 0 then 0 else 1) else 0
theorem mv_01 {M : Mem} {q i : Nat} : mv M q i = 0 ∨ mv M q i = 1 := by
  unfold mv
  split
  · split
    · exact Or.inl rfl
    · split
      · exact Or.inl rfl
      · exact Or.inr rfl
  · exact Or.inl rfl
theorem mv_of {M M' : Mem} {q i : Nat} (e : ∀ v ∈ [38, 10, 9, 23, 7], M' v = M v) : mv M' q i = mv M q i := by
  unfold mv
  rw [e 38 (by simp), e 10 (by simp), e 7 (by simp), cmn_of (e 9 (by simp)) (e 23 (by simp))]
theorem e_isMatch {F np nt nw nv nhd q i : Nat} {M : Mem} (hF : 10000 ≤ F) (h : Ver M np nt nw nv nhd) (hw : nw ≤ 1000000) (hq : q < nv) (hi : i < nv) : fX5_isMatch F M q i = some (M, nI (mv M q i)) := by
  unfold fX5_isMatch mv
  rw [e_isThere (h.v i hi) hw, q_bn_p]
  by_cases h1 : M 38 0 i = 1
  · rw [if_pos h1, z10, if_pos h1]
    by_cases h2 : M 10 i 0 = M 10 q 0
    · rw [if_pos h2, if_pos h2]
      rfl
    · rw [if_neg h2, if_neg h2, e_ccV hF h hi hq, q_bn_p]
      by_cases h3 : nI (cmn M i q) < M 7 0 0
      · rw [if_pos h3, if_pos h3]
        rfl
      · rw [if_neg h3, if_neg h3]
        rfl
  · rw [if_neg h1, z00, if_neg h1]
    rfl
theorem e_isHit {F np nt nw nv nhd nh q i : Nat} {M M' : Mem} (hF : 10000 ≤ F) (h : Ver M np nt nw nv nhd) (g : Hts M nv nh) (hq : q < nv) (hi : i < nv) (e : ∀ v ∈ [38, 33, 43, 44, 68], M' v = M v) : fX6_isHit F M' (nI q) (nI i) = some (M', nI (mv M q i)) := by
  have h60 := h.le
  unfold fX6_isHit mv
  rw [q_ax_n (show i < 60 by omega), e 38 (by simp)]
  by_cases h1 : M 38 0 i = 1
  · rw [if_pos h1, if_pos h1, q_ax_n (show i < 60 by omega), q_ax_n (show q < 60 by omega), e 33 (by simp), ← (h.v i hi).p.1, ← (h.v q hq).p.1]
    by_cases h2 : M 10 i 0 = M 10 q 0
    · rw [if_pos h2, if_pos h2]
      rfl
    · rw [if_neg h2, if_neg h2, e_cmV hF h hq hi (e 43 (by simp)) (e 44 (by simp)), q_bn_p, e 68 (by simp), ← g.th.1, cmn_comm (a := q) (b := i)]
      by_cases h3 : nI (cmn M i q) < M 7 0 0
      · rw [if_pos h3, if_pos h3]
        rfl
      · rw [if_neg h3, if_neg h3]
        rfl
  · rw [if_neg h1, if_neg h1]
    rfl
theorem e_matches {F np nt nw nv nhd q : Nat} {M : Mem} (hF : 10000 ≤ F) (h : Ver M np nt nw nv nhd) (hw : nw ≤ 1000000) (hq : q < nv) : ∀ (d i n : Nat), i + d = nv → d < n → fX5_countMatches_4 F n M q (nI (sm i (mv M q))) (nI i) = some (M, nI (sm nv (mv M q))) := by
  have h60 := h.le
  intro d
  induction d with
  | zero =>
    intro i n hi hn
    obtain ⟨n, rfl⟩ := Nat.exists_eq_succ_of_ne_zero (Nat.ne_of_gt hn)
    have : i = nv := by omega
    subst this
    rw [fX5_countMatches_4, h.a, if_pos (nI_le (Nat.le_refl _) (by omega))]
  | succ d ih =>
    intro i n hi hn
    obtain ⟨n, rfl⟩ := Nat.exists_eq_succ_of_ne_zero (Nat.ne_of_gt (Nat.lt_of_le_of_lt (Nat.zero_le _) hn))
    have hI := ih (i + 1) n (by omega) (by omega)
    rw [sm_s] at hI
    rw [fX5_countMatches_4, h.a, if_neg (nI_ge (by omega) (by omega)), q_ax_n (show i < 60 by omega), e_isMatch hF h hw hq (show i < nv by omega), q_bn_p]
    unfold fX5_countMatches_29
    rcases mv_01 (M := M) (q := q) (i := i) with z | z
    · rw [z] at hI ⊢
      rw [if_pos (show nI 0 = 0 from rfl), q_lt_e, nI_1]
      exact hI
    · rw [z] at hI ⊢
      rw [if_neg (show ¬ nI 1 = 0 by decide), q_lt_e, q_lt_e, nI_1, nI_1]
      exact hI
theorem sm_mono {f : Nat → Nat} {i n : Nat} (h : i ≤ n) : sm i f ≤ sm n f := by
  induction n with
  | zero =>
    rw [show i = 0 by omega]
    exact Nat.le_refl _
  | succ n ih =>
    by_cases e : i = n + 1
    · rw [e]
      exact Nat.le_refl _
    · have := ih (by omega)
      rw [sm_s]
      omega
theorem sm_surj {f : Nat → Nat} (h : ∀ i, f i = 0 ∨ f i = 1) {c : Nat} : ∀ {n : Nat}, c < sm n f → ∃ l, l < n ∧ f l = 1 ∧ sm l f = c := by
  intro n
  induction n with
  | zero =>
    intro hc
    exact absurd hc (Nat.not_lt_zero _)
  | succ n ih =>
    intro hc
    rw [sm_s] at hc
    by_cases g : c < sm n f
    · obtain ⟨l, h1, h2, h3⟩ := ih g
      exact ⟨l, by omega, h2, h3⟩
    · rcases h n with z | z
      · omega
      · exact ⟨n, by omega, z, by omega⟩
/-- the class's hits, as they are added -/
theorem e_addHits {F np nt nw nv nhd nh q : Nat} {M : Mem} (hF : 10000 ≤ F) (h : Ver M np nt nw nv nhd) (hw : nw ≤ 1000000) (hq : q < nv) (ht : nh + sm nv (mv M q) ≤ 40) : ∀ (d i n : Nat) (M1 : Mem), i + d = nv → d < n → (∀ v, v ∉ [6, 55, 56, 57] → M1 v = M v) → M1 6 0 0 = nI (nh + sm i (mv M q)) → (∀ k, k < nh → M1 55 k 0 = M 55 k 0 ∧ M1 56 k 0 = M 56 k 0 ∧ M1 57 k 0 = M 57 k 0) → (∀ l, l < i → mv M q l = 1 → M1 55 (nh + sm l (mv M q)) 0 = nI q ∧ M1 56 (nh + sm l (mv M q)) 0 = nI l ∧ M1 57 (nh + sm l (mv M q)) 0 = nI (cmn M l q)) → ∃ M' : Mem, fX5_addHits_9 F n M1 (nI q) q (nI i) = some (M', ()) ∧ (∀ v, v ∉ [6, 55, 56, 57] → M' v = M v) ∧ M' 6 0 0 = nI (nh + sm nv (mv M q)) ∧ (∀ k, k < nh → M' 55 k 0 = M 55 k 0 ∧ M' 56 k 0 = M 56 k 0 ∧ M' 57 k 0 = M 57 k 0) ∧ (∀ l, l < nv → mv M q l = 1 → M' 55 (nh + sm l (mv M q)) 0 = nI q ∧ M' 56 (nh + sm l (mv M q)) 0 = nI l ∧ M' 57 (nh + sm l (mv M q)) 0 = nI (cmn M l q)) := by
  have h60 := h.le
  intro d
  induction d with
  | zero =>
    intro i n M1 hi hn f1 f2 f3 f4
    obtain ⟨n, rfl⟩ := Nat.exists_eq_succ_of_ne_zero (Nat.ne_of_gt hn)
    have : i = nv := by omega
    subst this
    refine ⟨M1, ?_, f1, f2, f3, f4⟩
    rw [fX5_addHits_9, f1 4 (by decide), h.a, if_pos (nI_le (Nat.le_refl _) (by omega))]
    rfl
  | succ d ih =>
    intro i n M1 hi hn f1 f2 f3 f4
    obtain ⟨n, rfl⟩ := Nat.exists_eq_succ_of_ne_zero (Nat.ne_of_gt (Nat.lt_of_le_of_lt (Nat.zero_le _) hn))
    have hmono := sm_mono (f := mv M q) (show i ≤ nv by omega)
    have hV1 : Ver M1 np nt nw nv nhd := Ver_of h (fr f1 (by decide)) (fun v hv j _ => by rw [fr f1 (K := vvC) (by decide) v hv]) (fun v hv => by rw [fr f1 (K := vvM) (by decide) v hv])
    have hmv : ∀ l, mv M1 q l = mv M q l := fun l => mv_of (fr f1 (by decide))
    rw [fX5_addHits_9, f1 4 (by decide), h.a, if_neg (nI_ge (by omega) (by omega)), f2]
    by_cases hfull : 40 ≤ nh + sm i (mv M q)
    · rw [if_pos (show (40 : Int32) ≤ nI (nh + sm i (mv M q)) from nI_le (a := 40) hfull (by omega))]
      have e0 : sm nv (mv M q) = sm i (mv M q) := by omega
      refine ⟨M1, rfl, f1, by rw [f2, e0], f3, fun l hl hm => ?_⟩
      by_cases g : l < i
      · exact f4 l g hm
      · have a1 := sm_mono (f := mv M q) (show l + 1 ≤ nv by omega)
        have a2 := sm_mono (f := mv M q) (show i ≤ l by omega)
        rw [sm_s, hm] at a1
        omega
    · rw [if_neg (show ¬ (40 : Int32) ≤ nI (nh + sm i (mv M q)) from nI_ge (b := 40) (by omega) (by decide)), q_ax_n (show i < 60 by omega), e_isMatch hF hV1 hw hq (show i < nv by omega), q_bn_p, hmv]
      unfold fX5_addHits_94
      rcases mv_01 (M := M) (q := q) (i := i) with z | z
      · rw [z, if_pos (show nI 0 = 0 from rfl), q_lt_e, nI_1]
        refine ih (i + 1) n M1 (by omega) (by omega) f1 (by rw [sm_s, z]; exact f2) f3 (fun l hl hm => ?_)
        by_cases g : l = i
        · rw [g, z] at hm
          exact absurd hm (by decide)
        · exact f4 l (by omega) hm
      · have hj : nh + sm i (mv M q) < 40 := by omega
        rw [z, if_neg (show ¬ nI 1 = 0 by decide), f2, q_ax_n hj, q_lt_e, q_lt_e, q_ax_n (show i < 60 by omega)]
        obtain ⟨M6, hM6⟩ : ∃ M6 : Mem, M6 = up (up M1 55 (nh + sm i (mv M q)) 0 (nI q)) 56 (nh + sm i (mv M q)) 0 (nI i) := ⟨_, rfl⟩
        have f6 : ∀ v, v ∉ [6, 55, 56, 57] → M6 v = M v := fun v hv => by
          simp only [List.mem_cons, List.not_mem_nil, or_false, not_or] at hv
          rw [hM6, up_o hv.2.2.1, up_o hv.2.1, f1 v (by simp [hv])]
        have hV6 : Ver M6 np nt nw nv nhd := Ver_of h (fr f6 (by decide)) (fun v hv j _ => by rw [fr f6 (K := vvC) (by decide) v hv]) (fun v hv => by rw [fr f6 (K := vvM) (by decide) v hv])
        rw [← hM6, e_ccV hF hV6 (show i < nv by omega) hq, q_bn_p, q_lt_e, q_lt_e, q_lt_e, cmn_of (f6 9 (by decide)) (f6 23 (by decide)), show up M6 57 (nh + sm i (mv M q)) 0 (nI (cmn M i q)) 6 0 0 = nI (nh + sm i (mv M q)) by rw [up_o (by decide), hM6, up_o (by decide), up_o (by decide)]; exact f2, nI_1, nI_1]
        obtain ⟨M7, hM7⟩ : ∃ M7 : Mem, M7 = up (up M6 57 (nh + sm i (mv M q)) 0 (nI (cmn M i q))) 6 0 0 (nI (nh + sm i (mv M q) + 1)) := ⟨_, rfl⟩
        rw [← hM7]
        have e55 : ∀ k, M7 55 k 0 = if k = nh + sm i (mv M q) then nI q else M1 55 k 0 := fun k => by
          rw [hM7, hM6]
          simp [up_e]
        have e56 : ∀ k, M7 56 k 0 = if k = nh + sm i (mv M q) then nI i else M1 56 k 0 := fun k => by
          rw [hM7, hM6]
          simp [up_e]
        have e57 : ∀ k, M7 57 k 0 = if k = nh + sm i (mv M q) then nI (cmn M i q) else M1 57 k 0 := fun k => by
          rw [hM7, hM6]
          simp [up_e]
        refine ih (i + 1) n M7 (by omega) (by omega) (fun v hv => ?_) (by rw [hM7, up_s, sm_s, z]; rfl) (fun k hk => ?_) (fun l hl hm => ?_)
        · have h6 := f6 v hv
          simp only [List.mem_cons, List.not_mem_nil, or_false, not_or] at hv
          rw [hM7, up_o hv.1, up_o hv.2.2.2, h6]
        · rw [e55, e56, e57, if_neg (by omega), if_neg (by omega), if_neg (by omega)]
          exact f3 k hk
        · rw [e55, e56, e57]
          by_cases g : l = i
          · rw [g, if_pos rfl, if_pos rfl, if_pos rfl]
            exact ⟨rfl, rfl, rfl⟩
          · have a1 := sm_mono (f := mv M q) (show l + 1 ≤ i by omega)
            rw [sm_s, hm] at a1
            rw [if_neg (by omega), if_neg (by omega), if_neg (by omega)]
            exact f4 l (by omega) hm
/-- the reference counts the hits -/
theorem e_hits33 {F np nt nw nv nhd nh q : Nat} {M M' : Mem} (hF : 10000 ≤ F) (h : Ver M np nt nw nv nhd) (g : Hts M nv nh) (hq : q < nv) (e : ∀ v ∈ [38, 33, 43, 44, 68, 64, 66], M' v = M v) : ∀ (d i n : Nat), i + d = nv → d < n → fX6_hand_33 F n M' (nI q) (nI (sm i (mv M q))) (nI i) = if nI nh + nI (sm nv (mv M q)) ≤ 40 then fX6_hand_83 F F M' (nI q) (nI (sm nv (mv M q))) 0 else some (up M' 69 0 0 3, 0) := by
  have h60 := h.le
  intro d
  induction d with
  | zero =>
    intro i n hi hn
    obtain ⟨n, rfl⟩ := Nat.exists_eq_succ_of_ne_zero (Nat.ne_of_gt hn)
    have : i = nv := by omega
    subst this
    rw [fX6_hand_33, e 64 (by simp), e 66 (by simp), h.b, g.b, if_pos (nI_le (Nat.le_refl _) (by omega))]
    rfl
  | succ d ih =>
    intro i n hi hn
    obtain ⟨n, rfl⟩ := Nat.exists_eq_succ_of_ne_zero (Nat.ne_of_gt (Nat.lt_of_le_of_lt (Nat.zero_le _) hn))
    have hI := ih (i + 1) n (by omega) (by omega)
    rw [sm_s] at hI
    rw [fX6_hand_33, e 64 (by simp), h.b, if_neg (nI_ge (by omega) (by omega)), e_isHit hF h g hq (show i < nv by omega) (fun v hv => e v (by simp at hv ⊢; omega)), q_bn_p]
    unfold fX6_hand_56
    rcases mv_01 (M := M) (q := q) (i := i) with z | z
    · rw [z] at hI ⊢
      rw [if_pos (show nI 0 = 0 from rfl), q_lt_e, q_lt_e, nI_1, Int32.add_zero]
      exact hI
    · rw [z] at hI ⊢
      rw [if_neg (show ¬ nI 1 = 0 by decide), q_lt_e, q_lt_e, nI_1, nI_1]
      exact hI
/-- the reference's hits, as they are added -/
theorem e_hits83 {F np nt nw nv nhd nh q : Nat} {M M' : Mem} {r : Int32} (hF : 10000 ≤ F) (h : Ver M np nt nw nv nhd) (g : Hts M nv nh) (hq : q < nv) (ht : nh + sm nv (mv M q) ≤ 40) (e : ∀ v ∈ [38, 33, 43, 44, 68, 64], M' v = M v) : ∀ (d i n : Nat) (M1 : Mem), i + d = nv → d < n → (∀ v, v ∉ [66, 45, 46, 47, 48] → M1 v = M' v) → M1 66 0 0 = nI (nh + sm i (mv M q)) → (∀ k, k < nh → M1 45 0 k = M' 45 0 k ∧ M1 46 0 k = M' 46 0 k ∧ M1 47 0 k = M' 47 0 k ∧ M1 48 0 k = M' 48 0 k) → (∀ l, l < i → mv M q l = 1 → M1 45 0 (nh + sm l (mv M q)) = nI q ∧ M1 46 0 (nh + sm l (mv M q)) = nI l ∧ M1 47 0 (nh + sm l (mv M q)) = nI (cmn M l q) ∧ M1 48 0 (nh + sm l (mv M q)) = -1) → ∃ M2 : Mem, fX6_hand_83 F n M1 (nI q) r (nI i) = some (up (up (up (up (up M2 38 0 q 1) 39 0 q (M' 60 0 0)) 67 0 0 (M' 67 0 0 + 1)) 40 0 q (M' 67 0 0 + 1)) 69 0 0 0, r) ∧ (∀ v, v ∉ [66, 45, 46, 47, 48] → M2 v = M' v) ∧ M2 66 0 0 = nI (nh + sm nv (mv M q)) ∧ (∀ k, k < nh → M2 45 0 k = M' 45 0 k ∧ M2 46 0 k = M' 46 0 k ∧ M2 47 0 k = M' 47 0 k ∧ M2 48 0 k = M' 48 0 k) ∧ (∀ l, l < nv → mv M q l = 1 → M2 45 0 (nh + sm l (mv M q)) = nI q ∧ M2 46 0 (nh + sm l (mv M q)) = nI l ∧ M2 47 0 (nh + sm l (mv M q)) = nI (cmn M l q) ∧ M2 48 0 (nh + sm l (mv M q)) = -1) := by
  have h60 := h.le
  intro d
  induction d with
  | zero =>
    intro i n M1 hi hn f1 f2 f3 f4
    obtain ⟨n, rfl⟩ := Nat.exists_eq_succ_of_ne_zero (Nat.ne_of_gt hn)
    have : i = nv := by omega
    subst this
    refine ⟨M1, ?_, f1, f2, f3, f4⟩
    rw [fX6_hand_83, f1 64 (by decide), e 64 (by simp), h.b, if_pos (nI_le (Nat.le_refl _) (by omega)), q_ax_n (show q < 60 by omega), q_lt_e, q_ax_n (show q < 60 by omega), q_lt_e, show up M1 38 0 q 1 60 0 0 = M' 60 0 0 by rw [up_o (by decide), f1 60 (by decide)], q_lt_e, show up (up M1 38 0 q 1) 39 0 q (M' 60 0 0) 67 0 0 = M' 67 0 0 by rw [up_o (by decide), up_o (by decide), f1 67 (by decide)], q_ax_n (show q < 60 by omega), q_lt_e, up_s, e_tells, q_bn_p]
  | succ d ih =>
    intro i n M1 hi hn f1 f2 f3 f4
    obtain ⟨n, rfl⟩ := Nat.exists_eq_succ_of_ne_zero (Nat.ne_of_gt (Nat.lt_of_le_of_lt (Nat.zero_le _) hn))
    have hmono := sm_mono (f := mv M q) (show i + 1 ≤ nv by omega)
    rw [sm_s] at hmono
    have hE : ∀ v ∈ [38, 33, 43, 44, 68], M1 v = M v := fun v hv => by rw [f1 v (by simp at hv ⊢; omega), e v (by simp at hv ⊢; omega)]
    rw [fX6_hand_83, f1 64 (by decide), e 64 (by simp), h.b, if_neg (nI_ge (by omega) (by omega)), e_isHit hF h g hq (show i < nv by omega) hE, q_bn_p]
    unfold fX6_hand_155
    rcases mv_01 (M := M) (q := q) (i := i) with z | z
    · rw [z, if_pos (show nI 0 = 0 from rfl), q_lt_e, nI_1]
      refine ih (i + 1) n M1 (by omega) (by omega) f1 (by rw [sm_s, z]; exact f2) f3 (fun l hl hm => ?_)
      by_cases g : l = i
      · rw [g, z] at hm
        exact absurd hm (by decide)
      · exact f4 l (by omega) hm
    · have hj : nh + sm i (mv M q) < 40 := by omega
      obtain ⟨M6, hM6⟩ : ∃ M6 : Mem, M6 = up (up M1 45 0 (nh + sm i (mv M q)) (nI q)) 46 0 (nh + sm i (mv M q)) (nI i) := ⟨_, rfl⟩
      have g66 : ∀ (v k : Nat) (y : Int32), v ≠ 66 → up M1 v 0 k y 66 0 0 = nI (nh + sm i (mv M q)) := fun v k y hv => by
        rw [up_o (fun h => hv h.symm)]
        exact f2
      have g6 : M6 66 0 0 = nI (nh + sm i (mv M q)) := by
        rw [hM6, up_o (by decide), up_o (by decide)]
        exact f2
      rw [z, if_neg (show ¬ nI 1 = 0 by decide), f2, q_ax_n hj, q_lt_e, g66 45 _ _ (by decide), q_ax_n hj, q_lt_e, ← hM6, e_cmV hF h hq (show i < nv by omega) (by rw [hM6, up_o (by decide), up_o (by decide)]; exact hE 43 (by simp)) (by rw [hM6, up_o (by decide), up_o (by decide)]; exact hE 44 (by simp)), q_bn_p, g6, q_ax_n hj, q_lt_e, show up M6 47 0 (nh + sm i (mv M q)) (nI (cmn M q i)) 66 0 0 = nI (nh + sm i (mv M q)) by rw [up_o (by decide)]; exact g6, q_ax_n hj, q_lt_e, q_lt_e, q_lt_e, cmn_comm (a := q) (b := i), show up (up M6 47 0 (nh + sm i (mv M q)) (nI (cmn M i q))) 48 0 (nh + sm i (mv M q)) (-1) 66 0 0 = nI (nh + sm i (mv M q)) by rw [up_o (by decide), up_o (by decide)]; exact g6, nI_1, nI_1]
      obtain ⟨M7, hM7⟩ : ∃ M7 : Mem, M7 = up (up (up M6 47 0 (nh + sm i (mv M q)) (nI (cmn M i q))) 48 0 (nh + sm i (mv M q)) (-1)) 66 0 0 (nI (nh + sm i (mv M q) + 1)) := ⟨_, rfl⟩
      rw [← hM7]
      have e45 : ∀ k, M7 45 0 k = if k = nh + sm i (mv M q) then nI q else M1 45 0 k := fun k => by
        rw [hM7, hM6]
        simp [up_e]
      have e46 : ∀ k, M7 46 0 k = if k = nh + sm i (mv M q) then nI i else M1 46 0 k := fun k => by
        rw [hM7, hM6]
        simp [up_e]
      have e47 : ∀ k, M7 47 0 k = if k = nh + sm i (mv M q) then nI (cmn M i q) else M1 47 0 k := fun k => by
        rw [hM7, hM6]
        simp [up_e]
      have e48 : ∀ k, M7 48 0 k = if k = nh + sm i (mv M q) then -1 else M1 48 0 k := fun k => by
        rw [hM7, hM6]
        simp [up_e]
      refine ih (i + 1) n M7 (by omega) (by omega) (fun v hv => ?_) (by rw [hM7, up_s, sm_s, z]; rfl) (fun k hk => ?_) (fun l hl hm => ?_)
      · have h6 := f1 v hv
        simp only [List.mem_cons, List.not_mem_nil, or_false, not_or] at hv
        rw [hM7, up_o hv.1, up_o hv.2.2.2.2, up_o hv.2.2.2.1, hM6, up_o hv.2.2.1, up_o hv.2.1, h6]
      · rw [e45, e46, e47, e48, if_neg (by omega), if_neg (by omega), if_neg (by omega), if_neg (by omega)]
        exact f3 k hk
      · rw [e45, e46, e47, e48]
        by_cases g : l = i
        · rw [g, if_pos rfl, if_pos rfl, if_pos rfl, if_pos rfl]
          exact ⟨rfl, rfl, rfl, rfl⟩
        · have a1 := sm_mono (f := mv M q) (show l + 1 ≤ i by omega)
          rw [sm_s, hm] at a1
          rw [if_neg (by omega), if_neg (by omega), if_neg (by omega), if_neg (by omega)]
          exact f4 l (by omega) hm
