/-! bags: a key is dropped; keys of another bag -/
theorem cpd_e {f : Nat → Int32} {p u k : Nat} (hp : p < u) : va_cpy f f (p + 1) p (u - 1 - p) k = if p ≤ k ∧ k < u - 1 then f (k + 1) else f k := by
  unfold va_cpy
  by_cases h : p ≤ k ∧ k < u - 1
  · have h8 : p ≤ k ∧ k < p + (u - 1 - p) := by omega
    rw [if_pos h, if_pos h8]
    congr 1
    omega
  · have h8 : ¬ (p ≤ k ∧ k < p + (u - 1 - p)) := by omega
    rw [if_neg h, if_neg h8]
theorem e_drop {F j u : Nat} {M : Mem} {m : Int32 → Nat} {key : Int32} (hF : 10000 ≤ F) (hN : bl j ≤ 2220) (h : BagIs M j u m) (hm : 0 < m key) (hb : m key < 2 ^ 31) : ∃ (M' : Mem) (u' : Nat), fX0_drop F M j key = some (M', ()) ∧ BagIs M' j u' (fun x => if x = key then m x - 1 else m x) ∧ (∀ v, v ∉ [9, 24, 23] → M' v = M v) ∧ ∀ v j', j' ≠ j → M' v j' = M v j' := by
  have hu := h.le
  obtain ⟨p, p1, p2, p3, p4⟩ := e_place (key := key) hF hN h
  obtain ⟨c1, c2⟩ := bag_at h p3 p4 hm
  have hne : ∀ k, k < u → k ≠ p → ¬ M 23 j k = key := fun k hk e h9 => by
    rcases Nat.lt_trichotomy k p with g | g | g
    · have := p3 k g
      rw [h9] at this
      omega
    · exact e g
    · have := h.inc p k g hk
      rw [h9, c2] at this
      omega
  have hcp : M 24 j p = nI (m key) := by
    have := (h.cnt p c1).1
    rw [c2] at this
    exact this
  have hsub : nI (m key) - 1 = nI (m key - 1) := nI_sub (b := 1) hm
  by_cases h1 : m key = 1
  · obtain ⟨M', hM'⟩ : ∃ M' : Mem, M' = upA (upA (up (up M 24 j p 0) 9 j 0 (nI (u - 1))) 23 j (va_cpy (M 23 j) (M 23 j) (p + 1) p (u - 1 - p))) 24 j (va_cpy (up M 24 j p 0 24 j) (up M 24 j p 0 24 j) (p + 1) p (u - 1 - p)) := ⟨_, rfl⟩
    have e23 : ∀ k, M' 23 j k = if p ≤ k ∧ k < u - 1 then M 23 j (k + 1) else M 23 j k := fun k => by
      rw [hM', upA_o (by decide)]
      show (if 23 = 23 ∧ j = j then va_cpy (M 23 j) (M 23 j) (p + 1) p (u - 1 - p) k else _) = _
      rw [if_pos ⟨rfl, rfl⟩, cpd_e c1]
    have e24 : ∀ k, k < u - 1 → M' 24 j k = if p ≤ k then M 24 j (k + 1) else M 24 j k := fun k hk => by
      rw [hM']
      show (if 24 = 24 ∧ j = j then va_cpy (up M 24 j p 0 24 j) (up M 24 j p 0 24 j) (p + 1) p (u - 1 - p) k else _) = _
      rw [if_pos ⟨rfl, rfl⟩, cpd_e c1]
      by_cases g : p ≤ k
      · rw [if_pos ⟨g, hk⟩, if_pos g, up_i (by omega)]
      · rw [if_neg (fun h9 => g h9.1), if_neg g, up_i (by omega)]
    refine ⟨M', u - 1, ?_, ⟨by rw [hM', upA_o (by decide), upA_o (by decide), up_s], by omega, fun k l hkl hl => ?_, fun k hk => ?_, fun x hx => ?_⟩, fun v hv => ?_, fun v j' hj => ?_⟩
    · unfold fX0_drop
      rw [p2, q_bn_p, q_lt_e, h.a, if_neg (nI_ge c1 (by omega)), q_ax_n (show p < bl j by omega) (by omega), if_pos c2, q_ax_n (show p < bl j by omega) (by omega), q_ax_n (show p < bl j by omega) (by omega), q_lt_e, hcp, hsub, h1, q_ax_n (show p < bl j by omega) (by omega), up_s, if_pos (show nI (1 - 1) = 0 from rfl), q_lt_e, show up M 24 j p (nI (1 - 1)) 9 j 0 = nI u from h.a, show nI u - 1 = nI (u - 1) from nI_sub (b := 1) (by omega), up_s, nI_1, nI_sub (show p ≤ u - 1 by omega), q_ac_n (by omega) (by omega) (by omega) (by omega), q_lt_e, upA_o (show 9 ≠ 23 by decide), up_s, nI_sub (show p ≤ u - 1 by omega), q_ac_n (by omega) (by omega) (by omega) (by omega), q_lt_e]
      rw [hM']
      rfl
    · rw [e23, e23]
      by_cases a3 : p ≤ k ∧ k < u - 1
      · rw [if_pos a3, if_pos (by omega)]
        exact h.inc (k + 1) (l + 1) (by omega) (by omega)
      · rw [if_neg a3]
        by_cases a4 : p ≤ l ∧ l < u - 1
        · rw [if_pos a4]
          exact h.inc k (l + 1) (by omega) (by omega)
        · rw [if_neg a4]
          exact h.inc k l hkl (by omega)
    · have hold : ∀ k, k < u → k ≠ p → M 24 j k = nI (if M 23 j k = key then m (M 23 j k) - 1 else m (M 23 j k)) ∧ 0 < (if M 23 j k = key then m (M 23 j k) - 1 else m (M 23 j k)) := fun k hk e => by
        rw [if_neg (hne k hk e)]
        exact h.cnt k hk
      show M' 24 j k = nI (if M' 23 j k = key then m (M' 23 j k) - 1 else m (M' 23 j k)) ∧ 0 < (if M' 23 j k = key then m (M' 23 j k) - 1 else m (M' 23 j k))
      by_cases g : p ≤ k
      · rw [show M' 23 j k = M 23 j (k + 1) by rw [e23, if_pos ⟨g, hk⟩], e24 k hk, if_pos g]
        exact hold (k + 1) (by omega) (by omega)
      · rw [show M' 23 j k = M 23 j k by rw [e23, if_neg (fun h9 => g h9.1)], e24 k hk, if_neg g]
        exact hold k (by omega) (by omega)
    · have hx : 0 < (if x = key then m x - 1 else m x) := hx
      by_cases e : x = key
      · rw [if_pos e, e, h1] at hx
        omega
      · rw [if_neg e] at hx
        obtain ⟨k, k1, k2⟩ := h.has x hx
        have hkp : k ≠ p := fun h9 => e (by rw [← k2, h9, c2])
        by_cases a1 : k < p
        · exact ⟨k, by omega, by rw [e23, if_neg (by omega)]; exact k2⟩
        · exact ⟨k - 1, by omega, by rw [e23, if_pos (by omega), show k - 1 + 1 = k by omega]; exact k2⟩
    · simp only [List.mem_cons, List.not_mem_nil, or_false, not_or] at hv
      rw [hM', upA_o hv.2.1, upA_o hv.2.2, up_o hv.1, up_o hv.2.1]
    · rw [hM']
      funext i
      simp [up, upA, hj]
  · refine ⟨up M 24 j p (nI (m key - 1)), u, ?_, ⟨h.a, hu, h.inc, fun k hk => ?_, fun x hx => ?_⟩, fun v hv => up_o (fun h9 => hv (by simp [h9])), fun v j' hj => ?_⟩
    · unfold fX0_drop
      rw [p2, q_bn_p, q_lt_e, h.a, if_neg (nI_ge c1 (by omega)), q_ax_n (show p < bl j by omega) (by omega), if_pos c2, q_ax_n (show p < bl j by omega) (by omega), q_ax_n (show p < bl j by omega) (by omega), q_lt_e, hcp, hsub, q_ax_n (show p < bl j by omega) (by omega), up_s, if_neg (nI_ne0 (by omega) (by omega))]
      rfl
    · show up M 24 j p (nI (m key - 1)) 24 j k = nI (if M 23 j k = key then m (M 23 j k) - 1 else m (M 23 j k)) ∧ 0 < (if M 23 j k = key then m (M 23 j k) - 1 else m (M 23 j k))
      by_cases e : k = p
      · rw [e, up_s, if_pos c2, c2]
        exact ⟨rfl, by omega⟩
      · rw [up_i e, if_neg (hne k hk e)]
        exact h.cnt k hk
    · show ∃ k, k < u ∧ M 23 j k = x
      have hx : 0 < (if x = key then m x - 1 else m x) := hx
      by_cases e : x = key
      · exact ⟨p, c1, by rw [e]; exact c2⟩
      · rw [if_neg e] at hx
        exact h.has x hx
    · funext i
      simp [up, hj]
/-- all keys of a bag are added to another one -/
theorem e_adds {F j j' u' : Nat} {M : Mem} {m0 m' : Int32 → Nat} (hF : 10000 ≤ F) (hj : j' ≠ j) (hN : bl j ≤ 2220) (hN' : bl j' ≤ 2220) (h' : BagIs M j' u' m') : ∀ (d i n u : Nat) (M0 : Mem), i + d = u' → d < n → M0 9 j' = M 9 j' → M0 23 j' = M 23 j' → BagIs M0 j u (fun x => m0 x + sm i (fun l => if x = M 23 j' l then 1 else 0)) → u + d ≤ bl j → ∃ (M1 : Mem) (u1 : Nat), fX0_addKeysOf_2 F n M0 j j' (nI i) = some (M1, ()) ∧ u1 ≤ u + d ∧ BagIs M1 j u1 (fun x => m0 x + hv m' x) ∧ (∀ v, v ∉ [9, 24, 23] → M1 v = M0 v) ∧ ∀ v k, k ≠ j → M1 v k = M0 v k := by
  have hu' := h'.le
  intro d
  induction d with
  | zero =>
    intro i n u M0 hi hn e9 e23 hB hr
    obtain ⟨n, rfl⟩ := Nat.exists_eq_succ_of_ne_zero (Nat.ne_of_gt hn)
    have : i = u' := by omega
    subst this
    refine ⟨M0, u, ?_, by omega, ?_, fun _ _ => rfl, fun _ _ _ => rfl⟩
    · rw [fX0_addKeysOf_2, e9, h'.a, if_pos (nI_le (Nat.le_refl _) (by omega))]
    · have : (fun x => m0 x + hv m' x) = (fun x => m0 x + sm i (fun l => if x = M 23 j' l then 1 else 0)) := by
        funext x
        rw [bag_hv h']
      rw [this]
      exact hB
  | succ d ih =>
    intro i n u M0 hi hn e9 e23 hB hr
    obtain ⟨n, rfl⟩ := Nat.exists_eq_succ_of_ne_zero (Nat.ne_of_gt (Nat.lt_of_le_of_lt (Nat.zero_le _) hn))
    obtain ⟨M1, u1, a1, a2, a3, a4, a5⟩ := e_add (key := M 23 j' i) hF hN hB (fun _ => by omega)
    have hfun : (fun x => if x = M 23 j' i then m0 x + sm i (fun l => if x = M 23 j' l then 1 else 0) + 1 else m0 x + sm i (fun l => if x = M 23 j' l then 1 else 0)) = (fun x => m0 x + sm (i + 1) (fun l => if x = M 23 j' l then 1 else 0)) := by
      funext x
      rw [sm_s]
      by_cases e : x = M 23 j' i
      · rw [if_pos e, if_pos e]
        omega
      · rw [if_neg e, if_neg e]
        omega
    have a3 : BagIs M1 j u1 (fun x => if x = M 23 j' i then m0 x + sm i (fun l => if x = M 23 j' l then 1 else 0) + 1 else m0 x + sm i (fun l => if x = M 23 j' l then 1 else 0)) := a3
    rw [hfun] at a3
    obtain ⟨M2, u2, b1, b2, b3, b4, b5⟩ := ih (i + 1) n u1 M1 (by omega) (by omega) (by rw [a5 9 j' hj, e9]) (by rw [a5 23 j' hj, e23]) a3 (by omega)
    refine ⟨M2, u2, ?_, by omega, b3, fun v hv => by rw [b4 v hv, a4 v hv], fun v k hk => by rw [b5 v k hk, a5 v k hk]⟩
    rw [fX0_addKeysOf_2, e9, h'.a, if_neg (nI_ge (by omega) (by omega)), q_ax_n (show i < bl j' by omega) (by omega), e23, a1, q_bn_p, q_lt_e, nI_1]
    exact b1
/-- all keys of a bag are dropped out of another one -/
theorem e_drops {F j j' u' : Nat} {M : Mem} {m0 m' : Int32 → Nat} (hF : 10000 ≤ F) (hj : j' ≠ j) (hN : bl j ≤ 2220) (hN' : bl j' ≤ 2220) (h' : BagIs M j' u' m') (hm : ∀ l, l < u' → 0 < m0 (M 23 j' l) ∧ m0 (M 23 j' l) < 2 ^ 31) : ∀ (d i n u : Nat) (M0 : Mem), i + d = u' → d < n → M0 9 j' = M 9 j' → M0 23 j' = M 23 j' → BagIs M0 j u (fun x => m0 x - sm i (fun l => if x = M 23 j' l then 1 else 0)) → ∃ (M1 : Mem) (u1 : Nat), fX0_dropKeysOf_2 F n M0 j j' (nI i) = some (M1, ()) ∧ BagIs M1 j u1 (fun x => m0 x - hv m' x) ∧ (∀ v, v ∉ [9, 24, 23] → M1 v = M0 v) ∧ ∀ v k, k ≠ j → M1 v k = M0 v k := by
  have hu' := h'.le
  intro d
  induction d with
  | zero =>
    intro i n u M0 hi hn e9 e23 hB
    obtain ⟨n, rfl⟩ := Nat.exists_eq_succ_of_ne_zero (Nat.ne_of_gt hn)
    have : i = u' := by omega
    subst this
    refine ⟨M0, u, ?_, ?_, fun _ _ => rfl, fun _ _ _ => rfl⟩
    · rw [fX0_dropKeysOf_2, e9, h'.a, if_pos (nI_le (Nat.le_refl _) (by omega))]
    · have : (fun x => m0 x - hv m' x) = (fun x => m0 x - sm i (fun l => if x = M 23 j' l then 1 else 0)) := by
        funext x
        rw [bag_hv h']
      rw [this]
      exact hB
  | succ d ih =>
    intro i n u M0 hi hn e9 e23 hB
    obtain ⟨n, rfl⟩ := Nat.exists_eq_succ_of_ne_zero (Nat.ne_of_gt (Nat.lt_of_le_of_lt (Nat.zero_le _) hn))
    have hz : sm i (fun l => if M 23 j' i = M 23 j' l then 1 else 0) = 0 := by
      refine sm_z fun l hl => if_neg fun e => ?_
      have := h'.inc l i hl (by omega)
      rw [e] at this
      omega
    obtain ⟨q1, q2⟩ := hm i (by omega)
    obtain ⟨M1, u1, a1, a3, a4, a5⟩ := e_drop (key := M 23 j' i) hF hN hB (by show 0 < m0 (M 23 j' i) - sm i (fun l => if M 23 j' i = M 23 j' l then 1 else 0); rw [hz]; exact q1) (by show m0 (M 23 j' i) - sm i (fun l => if M 23 j' i = M 23 j' l then 1 else 0) < 2 ^ 31; omega)
    have hfun : (fun x => if x = M 23 j' i then m0 x - sm i (fun l => if x = M 23 j' l then 1 else 0) - 1 else m0 x - sm i (fun l => if x = M 23 j' l then 1 else 0)) = (fun x => m0 x - sm (i + 1) (fun l => if x = M 23 j' l then 1 else 0)) := by
      funext x
      rw [sm_s]
      by_cases e : x = M 23 j' i
      · rw [if_pos e, if_pos e]
        omega
      · rw [if_neg e, if_neg e]
        omega
    have a3 : BagIs M1 j u1 (fun x => if x = M 23 j' i then m0 x - sm i (fun l => if x = M 23 j' l then 1 else 0) - 1 else m0 x - sm i (fun l => if x = M 23 j' l then 1 else 0)) := a3
    rw [hfun] at a3
    obtain ⟨M2, u2, b1, b3, b4, b5⟩ := ih (i + 1) n u1 M1 (by omega) (by omega) (by rw [a5 9 j' hj, e9]) (by rw [a5 23 j' hj, e23]) a3
    refine ⟨M2, u2, ?_, b3, fun v hv => by rw [b4 v hv, a4 v hv], fun v k hk => by rw [b5 v k hk, a5 v k hk]⟩
    rw [fX0_dropKeysOf_2, e9, h'.a, if_neg (nI_ge (by omega) (by omega)), q_ax_n (show i < bl j' by omega) (by omega), e23, a1, q_bn_p, q_lt_e, nI_1]
    exact b1
