theorem shr1 : ∀ e : Fin 11, nI (2 ^ (e.val + 1)) >>> ((1 : Int32) &&& 31) = nI (2 ^ e.val) := by decide +kernel
/-- the search by halves: the place of a key among the sorted keys -/
theorem e_below {F j u N : Nat} {M : Mem} {key : Int32} (hN : bl j = N) (hu : u ≤ N) (hN2 : N ≤ 2220) (a : M 9 j 0 = nI u) (inc : ∀ k l, k < l → l < u → (M 23 j k).toInt < (M 23 j l).toInt) : ∀ (e b n : Nat), e ≤ 11 → e + 1 < n → b ≤ u → (∀ k, k < b → (M 23 j k).toInt < key.toInt) → (∀ k, b + 2 ^ (e + 1) - 1 ≤ k → k < u → key.toInt ≤ (M 23 j k).toInt) → ∃ p, p ≤ u ∧ fX0_countBelow_6 F n M j key (nI b) (nI (2 ^ e)) = some (M, nI p) ∧ (∀ k, k < p → (M 23 j k).toInt < key.toInt) ∧ ∀ k, p ≤ k → k < u → key.toInt ≤ (M 23 j k).toInt := by
  intro e
  induction e with
  | zero =>
    intro b n he hn hb h1 h2
    obtain ⟨n, rfl⟩ : ∃ m, n = m + 2 := ⟨n - 2, by omega⟩
    have hstop : ∀ c : Nat, fX0_countBelow_6 F (n + 1) M j key (nI c) 0 = some (M, nI c) := fun c => by
      unfold fX0_countBelow_6
      rw [if_pos (by decide)]
    unfold fX0_countBelow_6 fX0_countBelow_38
    rw [if_neg (show ¬ nI (2 ^ 0) ≤ 0 by decide), nI_add, a]
    simp only [q_lt_e, show nI (2 ^ 0) >>> ((1 : Int32) &&& 31) = 0 by decide, hstop]
    have h2' : ∀ k, b + 1 ≤ k → k < u → key.toInt ≤ (M 23 j k).toInt := fun k k1 k2 => h2 k (by omega) k2
    by_cases g1 : u < b + 2 ^ 0
    · rw [if_pos (nI_lt g1 (by omega))]
      exact ⟨b, hb, rfl, h1, fun k k1 k2 => by omega⟩
    · rw [if_neg (nI_nlt (by omega) (by omega)), show nI (b + 2 ^ 0) - 1 = nI b from nI_pred b, q_ax_n (show b < bl j by omega) (by omega)]
      by_cases g2 : key ≤ M 23 j b
      · rw [if_pos g2]
        refine ⟨b, hb, rfl, h1, fun k k1 k2 => ?_⟩
        by_cases k3 : k = b
        · subst k3
          exact Int32.le_iff_toInt_le.mp g2
        · exact h2' k (by omega) k2
      · rw [if_neg g2]
        refine ⟨b + 1, by omega, rfl, fun k k1 => ?_, h2'⟩
        by_cases k3 : k = b
        · subst k3
          exact Int32.lt_iff_toInt_lt.mp (Int32.not_le.mp g2)
        · exact h1 k (by omega)
  | succ e ih =>
    intro b n he hn hb h1 h2
    obtain ⟨n, rfl⟩ : ∃ m, n = m + 1 := ⟨n - 1, by omega⟩
    have hp : 2 ^ (e + 1) ≤ 2048 := Nat.pow_le_pow_right (by decide) he
    have hp1 : 1 ≤ 2 ^ (e + 1) := Nat.one_le_two_pow
    have hp2 : 2 ^ (e + 1 + 1) = 2 ^ (e + 1) + 2 ^ (e + 1) := by rw [Nat.pow_succ]; omega
    unfold fX0_countBelow_6 fX0_countBelow_38
    rw [if_neg (nI_nle (by omega) (by omega)), nI_add, a]
    simp only [q_lt_e, shr1 ⟨e, by omega⟩]
    by_cases g1 : u < b + 2 ^ (e + 1)
    · rw [if_pos (nI_lt g1 (by omega))]
      exact ih b n (by omega) (by omega) hb h1 (fun k k1 k2 => by omega)
    · rw [if_neg (nI_nlt (by omega) (by omega)), show nI (b + 2 ^ (e + 1)) - 1 = nI (b + 2 ^ (e + 1) - 1) from nI_sub (b := 1) (by omega), q_ax_n (show b + 2 ^ (e + 1) - 1 < bl j by omega) (by omega)]
      by_cases g2 : key ≤ M 23 j (b + 2 ^ (e + 1) - 1)
      · rw [if_pos g2]
        refine ih b n (by omega) (by omega) hb h1 (fun k k1 k2 => ?_)
        have g3 := Int32.le_iff_toInt_le.mp g2
        by_cases k3 : k = b + 2 ^ (e + 1) - 1
        · rw [k3]
          exact g3
        · have := inc (b + 2 ^ (e + 1) - 1) k (by omega) k2
          omega
      · rw [if_neg g2]
        have g3 := Int32.lt_iff_toInt_lt.mp (Int32.not_le.mp g2)
        refine ih (b + 2 ^ (e + 1)) n (by omega) (by omega) (by omega) (fun k k1 => ?_) (fun k k1 k2 => h2 k (by omega) k2)
        by_cases k3 : k = b + 2 ^ (e + 1) - 1
        · rw [k3]
          exact g3
        · have := inc k (b + 2 ^ (e + 1) - 1) (by omega) (by omega)
          omega
/-- a bag's place for a key -/
theorem e_place {F j u : Nat} {M : Mem} {m : Int32 → Nat} {key : Int32} (hF : 10000 ≤ F) (hN : bl j ≤ 2220) (h : BagIs M j u m) : ∃ p, p ≤ u ∧ fX0_countBelow F M j key = some (M, nI p) ∧ (∀ k, k < p → (M 23 j k).toInt < key.toInt) ∧ ∀ k, p ≤ k → k < u → key.toInt ≤ (M 23 j k).toInt := by
  have hu := h.le
  obtain ⟨p, p1, p2, p3, p4⟩ := e_below (F := F) (key := key) rfl hu hN h.a h.inc 11 0 F (Nat.le_refl _) (by omega) (Nat.zero_le _) (fun k hk => by omega) (fun k k1 k2 => by
    have : 2 ^ (11 + 1) = 4096 := by decide
    omega)
  exact ⟨p, p1, p2, p3, p4⟩
/-- a key that a bag has lies at its place -/
theorem bag_at {j u p : Nat} {M : Mem} {m : Int32 → Nat} {key : Int32} (h : BagIs M j u m) (h1 : ∀ k, k < p → (M 23 j k).toInt < key.toInt) (h2 : ∀ k, p ≤ k → k < u → key.toInt ≤ (M 23 j k).toInt) (hm : 0 < m key) : p < u ∧ M 23 j p = key := by
  obtain ⟨k, hk, e⟩ := h.has key hm
  have g1 : p ≤ k := Nat.le_of_not_lt fun h9 => by
    have := h1 k h9
    rw [e] at this
    omega
  by_cases g2 : k = p
  · subst g2
    exact ⟨hk, e⟩
  · have := h.inc p k (by omega) hk
    have := h2 p (Nat.le_refl _) (by omega)
    rw [e] at *
    omega
theorem e_countOf {F j u : Nat} {M : Mem} {m : Int32 → Nat} {key : Int32} (hF : 10000 ≤ F) (hN : bl j ≤ 2220) (h : BagIs M j u m) : fX0_countOf F M j key = some (M, nI (m key)) := by
  have hu := h.le
  obtain ⟨p, p1, p2, p3, p4⟩ := e_place (key := key) hF hN h
  have h0 : ¬ (p < u ∧ M 23 j p = key) → m key = 0 := fun hn => Nat.eq_zero_of_not_pos fun h9 => hn (bag_at h p3 p4 h9)
  unfold fX0_countOf fX0_countOf_33 fX0_countOf_34
  rw [p2, q_bn_p, q_lt_e, h.a]
  by_cases g1 : p < u
  · rw [if_neg (nI_ge g1 (by omega)), q_ax_n (show p < bl j by omega) (by omega)]
    by_cases g2 : M 23 j p = key
    · rw [if_pos g2, q_ax_n (show p < bl j by omega) (by omega), (h.cnt p g1).1, g2]
    · rw [if_neg g2, h0 (fun h9 => g2 h9.2)]
      rfl
  · rw [if_pos (nI_le (by omega) (by omega)), h0 (fun h9 => g1 h9.1)]
    rfl
/-- two bags of one count have the same keys -/
theorem bag_keys {j j' u u' : Nat} {M : Mem} {m : Int32 → Nat} (h : BagIs M j u m) (h' : BagIs M j' u' m) : ∀ k, k < u → k < u' ∧ M 23 j k = M 23 j' k := by
  intro k
  induction k using Nat.strongRecOn with
  | ind k ih =>
    intro hk
    have mono : ∀ {a v : Nat} (hb : BagIs M a v m) (x y : Nat), x ≤ y → y < v → (M 23 a x).toInt ≤ (M 23 a y).toInt := fun {a v} hb x y h1 h2 => by
      by_cases e : x = y
      · rw [e]
        exact Int.le_refl _
      · have := hb.inc x y (by omega) h2
        omega
    have hm := (h.cnt k hk).2
    obtain ⟨l, hl, e⟩ := h'.has _ hm
    have hkl : k ≤ l := Nat.le_of_not_lt fun h9 => by
      obtain ⟨-, e9⟩ := ih l h9 (by omega)
      have := h.inc l k h9 hk
      rw [e9, e] at this
      omega
    have hk' : k < u' := by omega
    have hm' := (h'.cnt k hk').2
    obtain ⟨l', hl', e'⟩ := h.has _ hm'
    have hkl' : k ≤ l' := Nat.le_of_not_lt fun h9 => by
      obtain ⟨-, e9⟩ := ih l' h9 (by omega)
      have := h'.inc l' k h9 hk'
      rw [← e9, e'] at this
      omega
    refine ⟨hk', Int32.toInt_inj.mp ?_⟩
    have g1 := mono h k l' hkl' hl'
    have g2 := mono h' k l hkl hl
    rw [e'] at g1
    rw [e] at g2
    omega
theorem e_isLike {F j j' u u' : Nat} {M : Mem} {m : Int32 → Nat} (hF : 10000 ≤ F) (hN : bl j ≤ 2220) (hN' : bl j' ≤ 2220) (h : BagIs M j u m) (h' : BagIs M j' u' m) : fX0_isLike F M j j' = some (M, 1) := by
  have hu := h.le
  have hu' := h'.le
  have hk := bag_keys h h'
  have hk' := bag_keys h' h
  have huu : u = u' := by
    rcases Nat.lt_trichotomy u u' with g | g | g
    · have := (hk' u g).1
      omega
    · exact g
    · have := (hk u' g).1
      omega
  subst huu
  have hl : ∀ (d k n : Nat), k + d = u → d < n → fX0_isLike_15 F n M j j' (nI k) = some (M, 1) := by
    intro d
    induction d with
    | zero =>
      intro k n hkd hn
      obtain ⟨n, rfl⟩ := Nat.exists_eq_succ_of_ne_zero (Nat.ne_of_gt hn)
      unfold fX0_isLike_15
      rw [h.a, if_pos (nI_le (by omega) (by omega))]
    | succ d ih =>
      intro k n hkd hn
      obtain ⟨n, rfl⟩ := Nat.exists_eq_succ_of_ne_zero (Nat.ne_of_gt (Nat.lt_of_le_of_lt (Nat.zero_le _) hn))
      have e1 := (hk k (by omega)).2
      have e2 : M 24 j k = M 24 j' k := by rw [(h.cnt k (by omega)).1, (h'.cnt k (by omega)).1, e1]
      unfold fX0_isLike_15
      rw [h.a, if_neg (nI_ge (by omega) (by omega)), q_ax_n (show k < bl j by omega) (by omega), q_ax_n (show k < bl j' by omega) (by omega), if_pos e1, q_ax_n (show k < bl j by omega) (by omega), q_ax_n (show k < bl j' by omega) (by omega), if_pos e2, q_lt_e, nI_1]
      exact ih (k + 1) n (by omega) (by omega)
  unfold fX0_isLike
  rw [h.a, h'.a, if_pos rfl, q_lt_e]
  exact hl u 0 F (by omega) (by omega)
