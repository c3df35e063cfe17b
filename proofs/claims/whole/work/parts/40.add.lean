theorem cpy_e {f : Nat → Int32} {p u k : Nat} (hp : p ≤ u) : va_cpy f f p (p + 1) (u - p) k = if p < k ∧ k ≤ u then f (k - 1) else f k := by
  unfold va_cpy
  by_cases h : p < k ∧ k ≤ u
  · have h8 : p + 1 ≤ k ∧ k < p + 1 + (u - p) := by omega
    rw [if_pos h, if_pos h8]
    congr 1
    omega
  · have h8 : ¬ (p + 1 ≤ k ∧ k < p + 1 + (u - p)) := by omega
    rw [if_neg h, if_neg h8]
/-- a key is added to a bag that has room -/
theorem e_add {F j u : Nat} {M : Mem} {m : Int32 → Nat} {key : Int32} (hF : 10000 ≤ F) (hN : bl j ≤ 2220) (h : BagIs M j u m) (hroom : m key = 0 → u < bl j) : ∃ (M' : Mem) (u' : Nat), fX0_add F M j key = some (M', ()) ∧ u' ≤ u + 1 ∧ BagIs M' j u' (fun x => if x = key then m x + 1 else m x) ∧ (∀ v, v ∉ [9, 24, 23] → M' v = M v) ∧ ∀ v j', j' ≠ j → M' v j' = M v j' := by
  have hu := h.le
  obtain ⟨p, p1, p2, p3, p4⟩ := e_place (key := key) hF hN h
  by_cases hc : p < u ∧ M 23 j p = key
  · obtain ⟨c1, c2⟩ := hc
    refine ⟨up M 24 j p (nI (m key + 1)), u, ?_, Nat.le_succ u, ⟨h.a, hu, h.inc, fun k hk => ?_, fun x hx => ?_⟩, fun v hv => up_o (fun h9 => hv (by simp [h9])), fun v j' hj => ?_⟩
    · unfold fX0_add
      rw [p2, q_bn_p, q_lt_e, h.a, if_neg (nI_ge c1 (by omega)), q_ax_n (show p < bl j by omega) (by omega), if_pos c2, q_ax_n (show p < bl j by omega) (by omega), q_ax_n (show p < bl j by omega) (by omega), (h.cnt p c1).1, c2, nI_1, q_lt_e]
    · show up M 24 j p (nI (m key + 1)) 24 j k = nI (if M 23 j k = key then m (M 23 j k) + 1 else m (M 23 j k)) ∧ 0 < (if M 23 j k = key then m (M 23 j k) + 1 else m (M 23 j k))
      by_cases e : k = p
      · rw [e, up_s, if_pos c2, c2]
        exact ⟨rfl, by omega⟩
      · have hne : ¬ M 23 j k = key := fun h9 => by
          rcases Nat.lt_trichotomy k p with g | g | g
          · have := p3 k g
            rw [h9] at this
            omega
          · exact e g
          · have := h.inc p k g hk
            rw [h9, c2] at this
            omega
        rw [up_i e, if_neg hne]
        exact h.cnt k hk
    · show ∃ k, k < u ∧ M 23 j k = x
      by_cases e : x = key
      · exact ⟨p, c1, by rw [e]; exact c2⟩
      · have hx : 0 < (if x = key then m x + 1 else m x) := hx
        rw [if_neg e] at hx
        exact h.has x hx
    · funext i
      simp [up, hj]
  · have h0 : m key = 0 := Nat.eq_zero_of_not_pos fun h9 => hc (bag_at h p3 p4 h9)
    have hr := hroom h0
    have hgt : ∀ k, p ≤ k → k < u → key.toInt < (M 23 j k).toInt := fun k k1 k2 => by
      have g1 := p4 k k1 k2
      by_cases e : k = p
      · by_cases e9 : M 23 j k = key
        · exact absurd ⟨by omega, by rw [← e]; exact e9⟩ hc
        · have : (M 23 j k).toInt ≠ key.toInt := fun h9 => e9 (Int32.toInt_inj.mp h9)
          omega
      · have := h.inc p k (by omega) k2
        have := p4 p (Nat.le_refl _) (by omega)
        omega
    obtain ⟨M', hM'⟩ : ∃ M' : Mem, M' = up (up (up (upA (upA M 23 j (va_cpy (M 23 j) (M 23 j) p (p + 1) (u - p))) 24 j (va_cpy (M 24 j) (M 24 j) p (p + 1) (u - p))) 23 j p key) 24 j p 1) 9 j 0 (nI (u + 1)) := ⟨_, rfl⟩
    have e23 : ∀ k, M' 23 j k = if k = p then key else if p < k ∧ k ≤ u then M 23 j (k - 1) else M 23 j k := fun k => by
      rw [hM', up_o (by decide), up_o (by decide)]
      by_cases e : k = p
      · rw [e, up_s, if_pos rfl]
      · rw [up_i e, if_neg e, upA_o (by decide)]
        show (if 23 = 23 ∧ j = j then va_cpy (M 23 j) (M 23 j) p (p + 1) (u - p) k else M 23 j k) = _
        rw [if_pos ⟨rfl, rfl⟩, cpy_e p1]
    have e24 : ∀ k, M' 24 j k = if k = p then 1 else if p < k ∧ k ≤ u then M 24 j (k - 1) else M 24 j k := fun k => by
      rw [hM', up_o (by decide)]
      by_cases e : k = p
      · rw [e, up_s, if_pos rfl]
      · rw [up_i e, if_neg e, up_o (by decide)]
        show (if 24 = 24 ∧ j = j then va_cpy (M 24 j) (M 24 j) p (p + 1) (u - p) k else _) = _
        rw [if_pos ⟨rfl, rfl⟩, cpy_e p1]
    refine ⟨M', u + 1, ?_, Nat.le_refl _, ⟨by rw [hM']; exact up_s, by omega, fun k l hkl hl => ?_, fun k hk => ?_, fun x hx => ?_⟩, fun v hv => ?_, fun v j' hj => ?_⟩
    · have h35 : fX0_add_35 F M j key (nI p) = some (M', ()) := by
        unfold fX0_add_35
        rw [h.a, if_pos (show nI u < Int32.ofNat (bl j) from nI_lt hr (by omega)), nI_1, nI_sub p1, q_ac_n (by omega) (by omega) (by omega) (by omega), q_lt_e, show upA M 23 j (va_cpy (M 23 j) (M 23 j) p (p + 1) (u - p)) 9 j 0 = nI u from h.a, nI_sub p1, q_ac_n (by omega) (by omega) (by omega) (by omega), q_lt_e, q_ax_n (show p < bl j by omega) (by omega), q_lt_e, q_ax_n (show p < bl j by omega) (by omega), q_lt_e, q_lt_e]
        rw [hM', show ∀ y : Int32, y = nI u → y + 1 = nI (u + 1) from fun y hy => by rw [hy, nI_1]]
        · rfl
        · exact h.a
      unfold fX0_add
      rw [p2, q_bn_p, q_lt_e, h.a]
      by_cases g1 : p < u
      · rw [if_neg (nI_ge g1 (by omega)), q_ax_n (show p < bl j by omega) (by omega), if_neg (fun h9 => hc ⟨g1, h9⟩)]
        exact h35
      · rw [if_pos (nI_le (by omega) (by omega))]
        exact h35
    · rw [e23, e23]
      by_cases a1 : k = p
      · rw [if_pos a1, if_neg (by omega), if_pos (by omega)]
        exact hgt (l - 1) (by omega) (by omega)
      · by_cases a2 : l = p
        · rw [if_neg a1, if_pos a2, if_neg (by omega)]
          exact p3 k (by omega)
        · rw [if_neg a1, if_neg a2]
          by_cases a3 : p < k ∧ k ≤ u
          · rw [if_pos a3, if_pos (by omega)]
            exact h.inc (k - 1) (l - 1) (by omega) (by omega)
          · rw [if_neg a3]
            by_cases a4 : p < l ∧ l ≤ u
            · rw [if_pos a4]
              exact h.inc k (l - 1) (by omega) (by omega)
            · rw [if_neg a4]
              exact h.inc k l hkl (by omega)
    · have hold : ∀ k, k < u → M 24 j k = nI (if M 23 j k = key then m (M 23 j k) + 1 else m (M 23 j k)) ∧ 0 < (if M 23 j k = key then m (M 23 j k) + 1 else m (M 23 j k)) := fun k hk => by
        have hc := h.cnt k hk
        have hne : ¬ M 23 j k = key := fun h9 => by
          rw [h9, h0] at hc
          omega
        rw [if_neg hne]
        exact hc
      show M' 24 j k = nI (if M' 23 j k = key then m (M' 23 j k) + 1 else m (M' 23 j k)) ∧ 0 < (if M' 23 j k = key then m (M' 23 j k) + 1 else m (M' 23 j k))
      rw [e23, e24]
      by_cases a1 : k = p
      · rw [if_pos a1, if_pos a1, if_pos rfl, h0]
        exact ⟨rfl, by decide⟩
      · rw [if_neg a1, if_neg a1]
        by_cases a3 : p < k ∧ k ≤ u
        · rw [if_pos a3, if_pos a3]
          exact hold (k - 1) (by omega)
        · rw [if_neg a3, if_neg a3]
          exact hold k (by omega)
    · have hx : 0 < (if x = key then m x + 1 else m x) := hx
      by_cases e : x = key
      · exact ⟨p, by omega, by rw [e23, if_pos rfl, e]⟩
      · rw [if_neg e] at hx
        obtain ⟨k, k1, k2⟩ := h.has x hx
        by_cases a1 : k < p
        · exact ⟨k, by omega, by rw [e23, if_neg (by omega), if_neg (by omega)]; exact k2⟩
        · exact ⟨k + 1, by omega, by rw [e23, if_neg (by omega), if_pos (by omega)]; exact k2⟩
    · simp only [List.mem_cons, List.not_mem_nil, or_false, not_or] at hv
      rw [hM', up_o hv.1, up_o hv.2.1, up_o hv.2.2, upA_o hv.2.1, upA_o hv.2.2]
    · rw [hM']
      funext i
      simp [up, upA, hj]
