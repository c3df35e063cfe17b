theorem shr1 : ∀ e : Fin 11, nI (2 ^ (e.val + 1)) >>> ((1 : Int32) &&& 31) = nI (2 ^ e.val) := by decide +kernel
/-- the search by halves: the place of a key among the sorted keys -/
theorem e_below {F j u N : Nat} {M : Mem} {key : Int32} (hN : bl j = N) (hu : u ≤ N) (hN2 : N ≤ 2220) (a : M 9 j 0 = nI u) (inc : ∀ k l, k < l → l < u → (M 23 j k).toInt < (M 23 j l).toInt) : ∀ (e b n : Nat), e ≤ 11 → e + 1 < n → b ≤ u → (∀ k, k < b → (M 23 j k).toInt < key.toInt) → (∀ k, b + 2 ^ (e + 1) - 1 ≤ k → k < u → key.toInt ≤ (M 23 j k).toInt) → ∃ p, p ≤ u ∧ fX0_countBelow_6 F n M j key (nI b) (nI (2 ^ e)) = some (M, nI p) ∧ (∀ k, k < p → (M 23 j k).toInt < key.toInt) ∧ ∀ k, p ≤ k → k < u → key.toInt ≤ (M 23 j k).toInt := by
  intro e
  induction e with
  | zero =>
    intro b n he hn hb h1 h2
    obtain ⟨n, rfl⟩ : ∃ m, n = m + 2 := ⟨n - 2, by omega⟩
    have hstop : ∀ c : Nat, fX0_countBelow_6 F (n + 1) M j key (nI c) 0 = some (M, nI c) := fun c => by
      unfold fX0_countBelow_6
      rw [if_pos (by decide)]
    unfold fX0_countBelow_6 fX0_countBelow_38
    rw [if_neg (show ¬ nI (2 ^ 0) ≤ 0 by decide), nI_add, a]
    simp only [q_lt_e, show nI (2 ^ 0) >>> ((1 : Int32) &&& 31) = 0 by decide, hstop]
    have h2' : ∀ k, b + 1 ≤ k → k < u → key.toInt ≤ (M 23 j k).toInt := fun k k1 k2 => h2 k (by omega) k2
    by_cases g1 : u < b + 2 ^ 0
    · rw [if_pos (nI_lt g1 (by omega))]
      exact ⟨b, hb, rfl, h1, fun k k1 k2 => by omega⟩
    · rw [if_neg (nI_nlt (by omega) (by omega)), show nI (b + 2 ^ 0) - 1 = nI b from nI_pred b, q_ax_n (show b < bl j by omega) (by omega)]
      by_cases g2 : key ≤ M 23 j b
      · rw [if_pos g2]
        refine ⟨b, hb, rfl, h1, fun k k1 k2 => ?_⟩
        by_cases k3 : k = b
        · subst k3
          exact Int32.le_iff_toInt_le.mp g2
        · exact h2' k (by omega) k2
      · rw [if_neg g2]
        refine ⟨b + 1, by omega, rfl, fun k k1 => ?_, h2'⟩
        by_cases k3 : k = b
        · subst k3
          exact Int32.lt_iff_toInt_lt.mp (Int32.not_le.mp g2)
        · exact h1 k (by omega)
  | succ e ih =>
    intro b n he hn hb h1 h2
    obtain ⟨n, rfl⟩ : ∃ m, n = m + 1 := ⟨n - 1, by omega⟩
    have hp : 2 ^ (e + 1) ≤ 2048 := Nat.pow_le_pow_right (by decide) he
    have hp1 : 1 ≤ 2 ^ (e + 1) := Nat.one_le_two_pow
    have hp2 : 2 ^ (e + 1 + 1) = 2 ^ (e + 1) + 2 ^ (e + 1) := by rw [Nat.pow_succ]; omega
    unfold fX0_countBelow_6 fX0_countBelow_38
    rw [if_neg (nI_nle (by omega) (by omega)), nI_add, a]
    simp only [q_lt_e, shr1 ⟨e, by omega⟩]
    by_cases g1 : u < b + 2 ^ (e + 1)
    · rw [if_pos (nI_lt g1 (by omega))]
      exact ih b n (by omega) (by omega) hb h1 (fun k k1 k2 => by omega)
    · rw [if_neg (nI_nlt (by omega) (by omega)), show nI (b + 2 ^ (e + 1)) - 1 = nI (b + 2 ^ (e + 1) - 1) from nI_sub (b := 1) (by omega), q_ax_n (show b + 2 ^ (e + 1) - 1 < bl j by omega) (by omega)]
      by_cases g2 : key ≤ M 23 j (b + 2 ^ (e + 1) - 1)
      · rw [if_pos g2]
        refine ih b n (by omega) (by omega) hb h1 (fun k k1 k2 => ?_)
        have g3 := Int32.le_iff_toInt_le.mp g2
        by_cases k3 : k = b + 2 ^ (e + 1) - 1
        · rw [k3]
          exact g3
        · have := inc (b + 2 ^ (e + 1) - 1) k (by omega) k2
          omega
      · rw [if_neg g2]
        have g3 := Int32.lt_iff_toInt_lt.mp (Int32.not_le.mp g2)
        refine ih (b + 2 ^ (e + 1)) n (by omega) (by omega) (by omega) (fun k k1 => ?_) (fun k k1 k2 => h2 k (by omega) k2)
        by_cases k3 : k = b + 2 ^ (e + 1) - 1
        · rw [k3]
          exact g3
        · have := inc k (b + 2 ^ (e + 1) - 1) (by omega) (by omega)
          omega
