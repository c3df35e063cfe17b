/-! saving: the reference's row of shingles -/
abbrev RowIs (r : Nat → Int32) (u : Nat) (m : Int32 → Nat) : Prop := (∀ k l, k < l → l < u → (r k).toInt < (r l).toInt) ∧ (∀ k, k < u → 0 < m (r k)) ∧ ∀ x, 0 < m x → ∃ k, k < u ∧ r k = x
theorem row_bag {M : Mem} {j u : Nat} {m : Int32 → Nat} (h : BagIs M j u m) : RowIs (M 23 j) u m := ⟨h.inc, fun k hk => (h.cnt k hk).2, h.has⟩
theorem row_keys {r r' : Nat → Int32} {u u' : Nat} {m : Int32 → Nat} (h : RowIs r u m) (h' : RowIs r' u' m) : ∀ k, k < u → k < u' ∧ r k = r' k := by
  intro k
  induction k using Nat.strongRecOn with
  | ind k ih =>
    intro hk
    have mono : ∀ {q : Nat → Int32} {v : Nat} (hb : RowIs q v m) (x y : Nat), x ≤ y → y < v → (q x).toInt ≤ (q y).toInt := fun {q v} hb x y h1 h2 => by
      by_cases e : x = y
      · rw [e]
        exact Int.le_refl _
      · have := hb.1 x y (by omega) h2
        omega
    have hm := h.2.1 k hk
    obtain ⟨l, hl, e⟩ := h'.2.2 _ hm
    have hkl : k ≤ l := Nat.le_of_not_lt fun h9 => by
      obtain ⟨-, e9⟩ := ih l h9 (by omega)
      have := h.1 l k h9 hk
      rw [e9, e] at this
      omega
    have hk' : k < u' := by omega
    have hm' := h'.2.1 k hk'
    obtain ⟨l', hl', e'⟩ := h.2.2 _ hm'
    have hkl' : k ≤ l' := Nat.le_of_not_lt fun h9 => by
      obtain ⟨-, e9⟩ := ih l' h9 (by omega)
      have := h'.1 l' k h9 hk'
      rw [← e9, e'] at this
      omega
    refine ⟨hk', Int32.toInt_inj.mp ?_⟩
    have g1 := mono h k l' hkl' hl'
    have g2 := mono h' k l hkl hl
    rw [e'] at g1
    rw [e] at g2
    omega
theorem row_eq {r r' : Nat → Int32} {u u' : Nat} {m : Int32 → Nat} (h : RowIs r u m) (h' : RowIs r' u' m) : u = u' ∧ ∀ k, k < u → r k = r' k := by
  have hk := row_keys h h'
  have hk' := row_keys h' h
  refine ⟨?_, fun k hk9 => (hk k hk9).2⟩
  rcases Nat.lt_trichotomy u u' with g | g | g
  · have := (hk' u g).1
    omega
  · exact g
  · have := (hk u' g).1
    omega
theorem row_same {r : Nat → Int32} {u p : Nat} {x : Int32} {m m' : Int32 → Nat} (h : RowIs r u m) (hp : p < u) (hx : r p = x) (hm : ∀ y, m' y = if y = x then m y + 1 else m y) : RowIs r u m' := by
  refine ⟨h.1, fun k hk => ?_, fun y hy => ?_⟩
  · have := h.2.1 k hk
    rw [hm]
    split <;> omega
  · rw [hm] at hy
    by_cases e : y = x
    · exact ⟨p, hp, by rw [e]; exact hx⟩
    · rw [if_neg e] at hy
      exact h.2.2 y hy
theorem row_ins {r r' : Nat → Int32} {u p : Nat} {x : Int32} {m m' : Int32 → Nat} (h : RowIs r u m) (hp : p ≤ u) (lo : ∀ k, k < p → (r k).toInt < x.toInt) (hi : ∀ k, p ≤ k → k < u → x.toInt < (r k).toInt) (e : ∀ k, k ≤ u → r' k = if k = p then x else if p < k ∧ k ≤ u then r (k - 1) else r k) (hm : ∀ y, m' y = if y = x then m y + 1 else m y) : RowIs r' (u + 1) m' := by
  have hle : ∀ y, m y ≤ m' y := fun y => by
    rw [hm]
    split <;> omega
  refine ⟨fun k l hkl hl => ?_, fun k hk => ?_, fun y hy => ?_⟩
  · rw [e k (by omega), e l (by omega)]
    by_cases a1 : k = p
    · rw [if_pos a1, if_neg (by omega), if_pos (by omega)]
      exact hi (l - 1) (by omega) (by omega)
    · by_cases a2 : l = p
      · rw [if_neg a1, if_pos a2, if_neg (by omega)]
        exact lo k (by omega)
      · rw [if_neg a1, if_neg a2]
        by_cases a3 : p < k ∧ k ≤ u
        · rw [if_pos a3, if_pos (by omega)]
          exact h.1 (k - 1) (l - 1) (by omega) (by omega)
        · rw [if_neg a3]
          by_cases a4 : p < l ∧ l ≤ u
          · rw [if_pos a4]
            exact h.1 k (l - 1) (by omega) (by omega)
          · rw [if_neg a4]
            exact h.1 k l hkl (by omega)
  · rw [e k (by omega)]
    by_cases a1 : k = p
    · rw [if_pos a1, hm, if_pos rfl]
      omega
    · rw [if_neg a1]
      by_cases a3 : p < k ∧ k ≤ u
      · rw [if_pos a3]
        exact Nat.lt_of_lt_of_le (h.2.1 (k - 1) (by omega)) (hle _)
      · rw [if_neg a3]
        exact Nat.lt_of_lt_of_le (h.2.1 k (by omega)) (hle _)
  · rw [hm] at hy
    by_cases g : y = x
    · exact ⟨p, by omega, by rw [e p hp, if_pos rfl, g]⟩
    · rw [if_neg g] at hy
      obtain ⟨k, k1, k2⟩ := h.2.2 y hy
      by_cases a1 : k < p
      · exact ⟨k, by omega, by rw [e k (by omega), if_neg (by omega), if_neg (by omega)]; exact k2⟩
      · exact ⟨k + 1, by omega, by rw [e (k + 1) (by omega), if_neg (by omega), if_pos (by omega)]; exact k2⟩
theorem e_f29 {F v u f n : Nat} {M : Mem} {k10 : Mem → Int32 → Int32 → Int32 → Int32 → Option (Mem × Unit)} (hv : v < 60) (hf : f + 4 ≤ 40) : fX6_finds_29 F k10 (n + 5) M (nI v) (nI (40 * v)) (nI u) (nI f) 0 0 = fX6_finds_71 F k10 F M (nI v) (nI (40 * v)) (nI u) (nI f) (win (fun k => M 42 0 (40 * v + k)) f) 0 := by
  have c0 : ¬ (4 : Int32) ≤ 0 := by decide
  have c1 : ¬ (4 : Int32) ≤ 1 := by decide
  have c2 : ¬ (4 : Int32) ≤ 2 := by decide
  have c3 : ¬ (4 : Int32) ≤ 3 := by decide
  have c4 : (4 : Int32) ≤ 4 := by decide
  have o1 : (0 : Int32) + 1 = 1 := by decide
  have o2 : (1 : Int32) + 1 = 2 := by decide
  have o3 : (2 : Int32) + 1 = 3 := by decide
  have o4 : (3 : Int32) + 1 = 4 := by decide
  have i0 : nI (40 * v) + nI f = nI (40 * v + f) := nI_add _ _
  have i1 : nI (40 * v + f) + 1 = nI (40 * v + f + 1) := nI_add _ 1
  have i2 : nI (40 * v + f) + 2 = nI (40 * v + f + 2) := nI_add _ 2
  have i3 : nI (40 * v + f) + 3 = nI (40 * v + f + 3) := nI_add _ 3
  simp only [fX6_finds_29, fX6_turned, q_bn_p, if_neg c0, if_neg c1, if_neg c2, if_neg c3, if_pos c4, i0, Int32.add_zero, o1, o2, o3, o4, i1, i2, i3, q_ax_n (show 40 * v + f < 2400 by omega), q_ax_n (show 40 * v + f + 1 < 2400 by omega), q_ax_n (show 40 * v + f + 2 < 2400 by omega), q_ax_n (show 40 * v + f + 3 < 2400 by omega), q_lt_e, dg_e]
  rfl
theorem e_f71 {F v u f : Nat} {M : Mem} {x : Int32} {k10 : Mem → Int32 → Int32 → Int32 → Int32 → Option (Mem × Unit)} (hv : v < 60) (hu : u ≤ 37) : ∀ (d s n : Nat), s + d = u → d < n → (∀ l, l < s → (M 43 0 (40 * v + l)).toInt < x.toInt) → ∃ s', s' ≤ u ∧ fX6_finds_71 F k10 n M (nI v) (nI (40 * v)) (nI u) (nI f) x (nI s) = fX6_finds_97 F k10 M (nI v) (nI (40 * v)) (nI u) (nI f) x (nI s') ∧ (∀ l, l < s' → (M 43 0 (40 * v + l)).toInt < x.toInt) ∧ (s' < u → x.toInt ≤ (M 43 0 (40 * v + s')).toInt) := by
  intro d
  induction d with
  | zero =>
    intro s n hs hn h
    obtain ⟨n, rfl⟩ := Nat.exists_eq_succ_of_ne_zero (Nat.ne_of_gt hn)
    refine ⟨s, by omega, ?_, h, fun h9 => by omega⟩
    rw [fX6_finds_71, if_pos (nI_le (by omega) (by omega))]
  | succ d ih =>
    intro s n hs hn h
    obtain ⟨n, rfl⟩ := Nat.exists_eq_succ_of_ne_zero (Nat.ne_of_gt (Nat.lt_of_le_of_lt (Nat.zero_le _) hn))
    by_cases g : x ≤ M 43 0 (40 * v + s)
    · refine ⟨s, by omega, ?_, h, fun _ => Int32.le_iff_toInt_le.mp g⟩
      rw [fX6_finds_71, if_neg (nI_ge (by omega) (by omega)), nI_add, q_ax_n (show 40 * v + s < 2400 by omega), if_pos g]
    · have g' := Int32.lt_iff_toInt_lt.mp (Int32.not_le.mp g)
      obtain ⟨s', h2, h3, h4, h5⟩ := ih (s + 1) n (by omega) (by omega) (fun l hl => by
        by_cases e : l = s
        · rw [e]
          exact g'
        · exact h l (by omega))
      refine ⟨s', h2, ?_, h4, h5⟩
      rw [fX6_finds_71, if_neg (nI_ge (by omega) (by omega)), nI_add, q_ax_n (show 40 * v + s < 2400 by omega), if_neg g, q_lt_e, nI_1]
      exact h3
theorem e_f123 {F v u f p : Nat} {x : Int32} {k10 : Mem → Int32 → Int32 → Int32 → Int32 → Option (Mem × Unit)} (hv : v < 60) (hp : p < 40) : ∀ (d n : Nat) (M : Mem), p + d < 40 → d < n → ∃ M' : Mem, fX6_finds_123 F k10 n M (nI v) (nI (40 * v)) (nI u) (nI f) x (nI p) (nI (p + d)) = k10 (up M' 43 0 (40 * v + p) x) (nI v) (nI (40 * v)) (nI (u + 1)) (nI (f + 1)) ∧ (∀ w, w ≠ 43 → M' w = M w) ∧ ∀ l, M' 43 0 l = if 40 * v + p < l ∧ l ≤ 40 * v + p + d then M 43 0 (l - 1) else M 43 0 l := by
  intro d
  induction d with
  | zero =>
    intro n M h4 hn
    obtain ⟨n, rfl⟩ := Nat.exists_eq_succ_of_ne_zero (Nat.ne_of_gt hn)
    refine ⟨M, ?_, fun _ _ => rfl, fun l => (if_neg (by omega)).symm⟩
    show fX6_finds_123 F k10 (n + 1) M (nI v) (nI (40 * v)) (nI u) (nI f) x (nI p) (nI p) = _
    rw [fX6_finds_123, if_pos (nI_le (Nat.le_refl p) (by omega)), nI_add, q_ax_n (show 40 * v + p < 2400 by omega), q_lt_e, q_lt_e, nI_1]
    unfold fX6_finds_170
    rw [q_lt_e, nI_1]
  | succ d ih =>
    intro n M h4 hn
    obtain ⟨n, rfl⟩ := Nat.exists_eq_succ_of_ne_zero (Nat.ne_of_gt (Nat.lt_of_le_of_lt (Nat.zero_le _) hn))
    obtain ⟨M', h2, h3, h5⟩ := ih n (up M 43 0 (40 * v + (p + d + 1)) (M 43 0 (40 * v + (p + d)))) (by omega) (by omega)
    refine ⟨M', ?_, fun w hw => by rw [h3 w hw, up_o hw], fun l => ?_⟩
    · show fX6_finds_123 F k10 (n + 1) M (nI v) (nI (40 * v)) (nI u) (nI f) x (nI p) (nI (p + d + 1)) = _
      rw [fX6_finds_123, if_neg (nI_ge (by omega) (by omega)), nI_add, show nI (40 * v + (p + d + 1)) - 1 = nI (40 * v + (p + d)) from nI_pred (40 * v + (p + d)), q_ax_n (show 40 * v + (p + d) < 2400 by omega), q_ax_n (show 40 * v + (p + d + 1) < 2400 by omega), q_lt_e, q_lt_e, nI_dec]
      exact h2
    · rw [h5 l]
      by_cases k1 : 40 * v + p < l ∧ l ≤ 40 * v + p + d
      · rw [if_pos k1, if_pos (by omega), up_i (by omega)]
      · rw [if_neg k1]
        by_cases k2 : l = 40 * v + (p + d + 1)
        · rw [if_pos (by omega), k2, up_s]
          rfl
        · rw [if_neg (by omega), up_i k2]
theorem e_f10 {F v sn : Nat} {g : Nat → Int32} (hF : 10000 ≤ F) (hv : v < 60) (hs : sn ≤ 40) : ∀ (d f n u : Nat) (M0 : Mem), f + d = sn - 3 → d < n → M0 37 0 v = nI sn → (fun k => M0 42 0 (40 * v + k)) = g → RowIs (fun l => M0 43 0 (40 * v + l)) u (fun x => sm f (fun k => if win g k = x then 1 else 0)) → u ≤ f → ∃ (M1 : Mem) (u1 : Nat), fX6_finds_10 F n M0 (nI v) (nI (40 * v)) (nI u) (nI f) = some (up M1 44 0 v (nI u1), ()) ∧ u1 ≤ 37 ∧ RowIs (fun l => M1 43 0 (40 * v + l)) u1 (wcount g sn) ∧ (∀ w, w ≠ 43 → M1 w = M0 w) ∧ ∀ l, l < 40 * v → M1 43 0 l = M0 43 0 l := by
  intro d
  induction d with
  | zero =>
    intro f n u M0 hf hn h37 h42 hR hu
    obtain ⟨n, rfl⟩ := Nat.exists_eq_succ_of_ne_zero (Nat.ne_of_gt hn)
    refine ⟨M0, u, ?_, by omega, ?_, fun _ _ => rfl, fun _ _ => rfl⟩
    · have n4 : nI f + 4 = nI (f + 4) := nI_add f 4
      rw [fX6_finds_10, q_ax_n hv, h37, n4, if_pos (nI_lt (by omega) (by omega)), q_ax_n hv, q_lt_e]
    · have : wcount g sn = (fun x => sm f (fun k => if win g k = x then 1 else 0)) := by
        funext x
        rw [wcount_sm, show sn - 3 = f by omega]
      rw [this]
      exact hR
  | succ d ih =>
    intro f n u M0 hf hn h37 h42 hR hu
    obtain ⟨n, rfl⟩ := Nat.exists_eq_succ_of_ne_zero (Nat.ne_of_gt (Nat.lt_of_le_of_lt (Nat.zero_le _) hn))
    obtain ⟨F0, hF0⟩ : ∃ F0, F = F0 + 5 := ⟨F - 5, by omega⟩
    have n4 : nI f + 4 = nI (f + 4) := nI_add f 4
    have hm : ∀ y, (fun x => sm (f + 1) (fun k => if win g k = x then 1 else 0)) y = if y = win g f then (fun x => sm f (fun k => if win g k = x then 1 else 0)) y + 1 else (fun x => sm f (fun k => if win g k = x then 1 else 0)) y := fun y => by
      show sm (f + 1) (fun k => if win g k = y then 1 else 0) = if y = win g f then sm f (fun k => if win g k = y then 1 else 0) + 1 else sm f (fun k => if win g k = y then 1 else 0)
      rw [sm_s]
      by_cases e : y = win g f
      · rw [if_pos e, if_pos e.symm]
      · rw [if_neg e, if_neg (fun h => e h.symm)]
        omega
    have h29 := e_f29 (F := F) (v := v) (u := u) (f := f) (n := F0) (M := M0) (k10 := fX6_finds_10 F n) hv (by omega)
    rw [← hF0, h42] at h29
    obtain ⟨s, s1, s2, s3, s4⟩ := e_f71 (F := F) (v := v) (u := u) (f := f) (M := M0) (x := win g f) (k10 := fX6_finds_10 F n) hv (by omega) u 0 F (by omega) (by omega) (fun l hl => by omega)
    have s2 : fX6_finds_71 F (fX6_finds_10 F n) F M0 (nI v) (nI (40 * v)) (nI u) (nI f) (win g f) 0 = fX6_finds_97 F (fX6_finds_10 F n) M0 (nI v) (nI (40 * v)) (nI u) (nI f) (win g f) (nI s) := s2
    have hstart : fX6_finds_10 F (n + 1) M0 (nI v) (nI (40 * v)) (nI u) (nI f) = fX6_finds_97 F (fX6_finds_10 F n) M0 (nI v) (nI (40 * v)) (nI u) (nI f) (win g f) (nI s) := by
      rw [fX6_finds_10, q_ax_n hv, h37, n4, if_neg (nI_nlt (by omega) (by omega)), q_lt_e, q_lt_e]
      exact h29.trans s2
    rw [hstart]
    -- the key is put in at its place
    have hins : (∀ k, s ≤ k → k < u → (win g f).toInt < (M0 43 0 (40 * v + k)).toInt) → ∃ (M1 : Mem) (u1 : Nat), fX6_finds_120 F (fX6_finds_10 F n) M0 (nI v) (nI (40 * v)) (nI u) (nI f) (win g f) (nI s) = some (up M1 44 0 v (nI u1), ()) ∧ u1 ≤ 37 ∧ RowIs (fun l => M1 43 0 (40 * v + l)) u1 (wcount g sn) ∧ (∀ w, w ≠ 43 → M1 w = M0 w) ∧ ∀ l, l < 40 * v → M1 43 0 l = M0 43 0 l := fun hgt => by
      obtain ⟨M', a1, a2, a3⟩ := e_f123 (F := F) (v := v) (u := u) (f := f) (p := s) (x := win g f) (k10 := fX6_finds_10 F n) hv (by omega) (u - s) F M0 (by omega) (by omega)
      rw [show s + (u - s) = u by omega] at a1
      obtain ⟨M6, hM6⟩ : ∃ M6 : Mem, M6 = up M' 43 0 (40 * v + s) (win g f) := ⟨_, rfl⟩
      rw [← hM6] at a1
      have e6 : ∀ w, w ≠ 43 → M6 w = M0 w := fun w hw => by rw [hM6, up_o hw, a2 w hw]
      have e43 : ∀ l, l ≠ 40 * v + s → M6 43 0 l = if 40 * v + s < l ∧ l ≤ 40 * v + s + (u - s) then M0 43 0 (l - 1) else M0 43 0 l := fun l hl => by rw [hM6, up_i hl, a3]
      have hR6 : RowIs (fun l => M6 43 0 (40 * v + l)) (u + 1) (fun x => sm (f + 1) (fun k => if win g k = x then 1 else 0)) := by
        refine row_ins (p := s) (x := win g f) hR s1 s3 hgt (fun k hk => ?_) hm
        show M6 43 0 (40 * v + k) = if k = s then win g f else if s < k ∧ k ≤ u then M0 43 0 (40 * v + (k - 1)) else M0 43 0 (40 * v + k)
        by_cases e : k = s
        · rw [if_pos e, e, hM6, up_s]
        · rw [if_neg e, e43 _ (by omega)]
          by_cases e2 : s < k ∧ k ≤ u
          · rw [if_pos e2, if_pos (by omega), show 40 * v + k - 1 = 40 * v + (k - 1) by omega]
          · rw [if_neg e2, if_neg (by omega)]
      obtain ⟨M1, u1, b1, b2, b3, b4, b5⟩ := ih (f + 1) n (u + 1) M6 (by omega) (by omega) (by rw [e6 37 (by decide)]; exact h37) (by rw [e6 42 (by decide)]; exact h42) hR6 (by omega)
      refine ⟨M1, u1, ?_, b2, b3, fun w hw => by rw [b4 w hw, e6 w hw], fun l hl => by rw [b5 l hl, e43 l (by omega), if_neg (by omega)]⟩
      unfold fX6_finds_120
      rw [q_lt_e]
      exact a1.trans b1
    rw [fX6_finds_97]
    by_cases hsu : s < u
    · rw [if_neg (nI_ge hsu (by omega)), nI_add, q_ax_n (show 40 * v + s < 2400 by omega)]
      by_cases he : M0 43 0 (40 * v + s) = win g f
      · rw [if_pos he]
        unfold fX6_finds_170
        rw [q_lt_e, nI_1]
        exact ih (f + 1) n u M0 (by omega) (by omega) h37 h42 (row_same hR hsu he hm) (by omega)
      · rw [if_neg he]
        refine hins (fun k k1 k2 => ?_)
        have g1 := s4 hsu
        have g2 : (M0 43 0 (40 * v + s)).toInt ≠ (win g f).toInt := fun h9 => he (Int32.toInt_inj.mp h9)
        by_cases e : k = s
        · rw [e]
          omega
        · have g3 : (M0 43 0 (40 * v + s)).toInt < (M0 43 0 (40 * v + k)).toInt := hR.1 s k (by omega) k2
          omega
    · rw [if_pos (nI_le (by omega) (by omega))]
      exact hins (fun k k1 k2 => by omega)
theorem e_finds {F v sn : Nat} {M : Mem} (hF : 10000 ≤ F) (hv : v < 60) (hs : sn ≤ 40) (h37 : M 37 0 v = nI sn) : ∃ (M1 : Mem) (u1 : Nat), fX6_finds F M (nI v) = some (up M1 44 0 v (nI u1), ()) ∧ u1 ≤ 37 ∧ RowIs (fun l => M1 43 0 (40 * v + l)) u1 (wcount (fun k => M 42 0 (40 * v + k)) sn) ∧ (∀ w, w ≠ 43 → M1 w = M w) ∧ ∀ l, l < 40 * v → M1 43 0 l = M 43 0 l := by
  obtain ⟨M1, u1, a1, a2⟩ := e_f10 (F := F) (v := v) (sn := sn) (g := fun k => M 42 0 (40 * v + k)) hF hv hs (sn - 3) 0 F 0 M (by omega) (by omega) h37 rfl ⟨fun k l _ h => by omega, fun k h => by omega, fun x hx => absurd hx (Nat.lt_irrefl 0)⟩ (Nat.le_refl _)
  refine ⟨M1, u1, ?_, a2⟩
  unfold fX6_finds
  rw [q_lt_e, q_lt_e, q_lt_e, show (40 : Int32) * nI v = nI (40 * v) from nI_mul 40 v]
  exact a1
theorem e_f221 {F v sn : Nat} (hv : v < 60) (hs : sn ≤ 40) : ∀ (d k n : Nat) (M0 : Mem), k + d = sn → d < n → M0 65 0 0 = nI sn → ∃ M1 : Mem, fX6_save_221 F n M0 (nI v) (nI k) = (q_bn (fX6_finds F M1 (nI v)) fun M1 _ => q_lt (up M1 64 0 0 ((M1 64 0 0) + (1 : Int32))) fun M3 => q_lt (up M3 65 0 0 (0 : Int32)) fun M4 => q_bn (fX6_tells F M4 (nI v)) fun M5 z6 => some (M5, z6)) ∧ (∀ w, w ≠ 42 → M1 w = M0 w) ∧ (∀ l, k ≤ l → l < sn → M1 42 0 (40 * v + l) = M0 32 0 l) ∧ ∀ l, l < 40 * v + k → M1 42 0 l = M0 42 0 l := by
  intro d
  induction d with
  | zero =>
    intro k n M0 hk hn h65
    obtain ⟨n, rfl⟩ := Nat.exists_eq_succ_of_ne_zero (Nat.ne_of_gt hn)
    refine ⟨M0, ?_, fun _ _ => rfl, fun l h1 h2 => by omega, fun _ _ => rfl⟩
    rw [fX6_save_221, h65, if_pos (nI_le (by omega) (by omega))]
  | succ d ih =>
    intro k n M0 hk hn h65
    obtain ⟨n, rfl⟩ := Nat.exists_eq_succ_of_ne_zero (Nat.ne_of_gt (Nat.lt_of_le_of_lt (Nat.zero_le _) hn))
    obtain ⟨M1, a1, a2, a3, a4⟩ := ih (k + 1) n (up M0 42 0 (40 * v + k) (M0 32 0 k)) (by omega) (by omega) (by rw [up_o (by decide)]; exact h65)
    refine ⟨M1, ?_, fun w hw => by rw [a2 w hw, up_o hw], fun l h1 h2 => ?_, fun l hl => ?_⟩
    · rw [fX6_save_221, h65, if_neg (nI_ge (by omega) (by omega)), q_ax_n (show k < 40 by omega), idx40, q_ax_n (show 40 * v + k < 2400 by omega), q_lt_e, q_lt_e, nI_1]
      exact a1
    · by_cases e : l = k
      · rw [e, a4 _ (by omega), up_s]
      · rw [a3 l (by omega) h2, up_o (by decide)]
    · rw [a4 l (by omega), up_i (by omega)]
