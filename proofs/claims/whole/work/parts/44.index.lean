/-! the index: who holds a shingle -/
/-- a version's share in a shingle's holders -/
def hd (M : Mem) (i : Nat) (x : Int32) : Nat := if M 38 0 i = 1 then hv (wcount (M 22 i) (M 8 i 0).toNatClampNeg) x else 0
theorem vcount_sm {M : Mem} {n : Nat} {x : Int32} : vcount M n x = sm n (fun i => hd M i x) := by
  unfold vcount
  rw [len_sm]
  refine sm_congr fun i _ => ?_
  unfold hd hv
  by_cases h1 : M 38 0 i = 1
  · by_cases h2 : 0 < wcount (M 22 i) (M 8 i 0).toNatClampNeg x <;> simp [h1, h2]
  · simp [h1]
theorem e_ho14 {F np nt nw nv nhd i u : Nat} {M : Mem} {x y : Int32} {k5 : Mem → Int32 → Int32 → Int32 → Int32 → Option (Mem × Int32)} (hi : i < 60) (hu : u ≤ 37) (g1 : M 44 0 i = nI u) : ∀ (d k n c : Nat), k + d = u → d < n → fX6_holdersOf_14 F k5 n M x y (nI (c + sm k (fun k => if M 38 0 i = 1 then (if M 43 0 (40 * i + k) = x then 1 else 0) else 0))) (nI i) (nI k) = k5 M x y (nI (c + sm u (fun k => if M 38 0 i = 1 then (if M 43 0 (40 * i + k) = x then 1 else 0) else 0))) (nI (i + 1)) := by
  intro d
  induction d with
  | zero =>
    intro k n c hk hn
    obtain ⟨n, rfl⟩ := Nat.exists_eq_succ_of_ne_zero (Nat.ne_of_gt hn)
    have : k = u := by omega
    subst this
    rw [fX6_holdersOf_14, q_ax_n hi, g1, if_pos (nI_le (Nat.le_refl _) (by omega)), q_lt_e, nI_1]
  | succ d ih =>
    intro k n c hk hn
    obtain ⟨n, rfl⟩ := Nat.exists_eq_succ_of_ne_zero (Nat.ne_of_gt (Nat.lt_of_le_of_lt (Nat.zero_le _) hn))
    have hI := ih (k + 1) n c (by omega) (by omega)
    rw [sm_s] at hI
    rw [fX6_holdersOf_14, q_ax_n hi, g1, if_neg (nI_ge (by omega) (by omega)), q_ax_n hi, idx40, q_ax_n (show 40 * i + k < 2400 by omega)]
    unfold fX6_holdersOf_59 fX6_holdersOf_60
    simp only [q_lt_e, nI_1, Int32.add_zero]
    by_cases h1 : M 38 0 i = 1
    · by_cases h2 : M 43 0 (40 * i + k) = x
      · simp only [if_pos h1, if_pos h2] at hI ⊢
        exact hI
      · simp only [if_pos h1, if_neg h2] at hI ⊢
        exact hI
    · simp only [if_neg h1] at hI ⊢
      exact hI
theorem ho_sum {np nt nw nv nhd i u : Nat} {M : Mem} {x : Int32} (hB : BagIs M i u (wcount (M 22 i) (M 8 i 0).toNatClampNeg)) (g2 : ∀ k, k < u → M 23 i k = M 43 0 (40 * i + k)) : sm u (fun k => if M 38 0 i = 1 then (if M 43 0 (40 * i + k) = x then 1 else 0) else 0) = hd M i x := by
  unfold hd
  by_cases h1 : M 38 0 i = 1
  · rw [if_pos h1, ← bag_hv hB x]
    refine sm_congr fun k hk => ?_
    rw [if_pos h1, ← g2 k hk]
    by_cases h2 : M 23 i k = x
    · rw [if_pos h2, if_pos h2.symm]
    · rw [if_neg h2, if_neg (fun h => h2 h.symm)]
  · rw [if_neg h1]
    exact sm_z fun k _ => if_neg h1
theorem e_ho5 {F np nt nw nv nhd l : Nat} {M : Mem} {x : Int32} (hF : 10000 ≤ F) (h : Ver M np nt nw nv nhd) (hl : l ≤ nv) : ∀ (d i n : Nat), i + d = l → d < n → fX6_holdersOf_5 F n M x (nI l) (nI (sm i (fun i => hd M i x))) (nI i) = some (M, nI (sm l (fun i => hd M i x))) := by
  have h60 := h.le
  intro d
  induction d with
  | zero =>
    intro i n hi hn
    obtain ⟨n, rfl⟩ := Nat.exists_eq_succ_of_ne_zero (Nat.ne_of_gt hn)
    have : i = l := by omega
    subst this
    rw [fX6_holdersOf_5, if_pos (nI_le (Nat.le_refl _) (by omega))]
  | succ d ih =>
    intro i n hi hn
    obtain ⟨n, rfl⟩ := Nat.exists_eq_succ_of_ne_zero (Nat.ne_of_gt (Nat.lt_of_le_of_lt (Nat.zero_le _) hn))
    obtain ⟨u, hu, hB, g1, g2⟩ := ver_bag h (show i < nv by omega)
    have hI := ih (i + 1) n (by omega) (by omega)
    have h14 := e_ho14 (F := F) (np := np) (nt := nt) (nw := nw) (nv := nv) (nhd := nhd) (x := x) (y := nI l) (k5 := fX6_holdersOf_5 F n) (show i < 60 by omega) hu g1 u 0 F (sm i (fun i => hd M i x)) (by omega) (by omega)
    rw [ho_sum (np := np) (nt := nt) (nw := nw) (nv := nv) (nhd := nhd) hB g2] at h14
    rw [fX6_holdersOf_5, if_neg (nI_ge (by omega) (by omega)), q_lt_e]
    exact h14.trans hI
theorem e_holders {F np nt nw nv nhd l : Nat} {M : Mem} {x : Int32} (hF : 10000 ≤ F) (h : Ver M np nt nw nv nhd) (hl : l ≤ nv) : fX6_holdersOf F M x (nI l) = some (M, nI (vcount M l x)) := by
  have h60 := h.le
  rw [vcount_sm]
  exact e_ho5 (F := F) hF h hl l 0 F (by omega) (by omega)
theorem bl60 : bl 60 = 2220 := rfl
theorem k26 {F : Nat} {M : Mem} {x : XX} {s1 s2 s3 s4 s5 : Int32} (hF : 10000 ≤ F) (hi : Inv M) : ∃ r, fL_case26 F M x s1 s2 s3 s4 s5 = some r ∧ Inv r.1 := by
  obtain ⟨nc, np, nt, nw, ns, nv, nhd, nh, h⟩ := id hi
  obtain ⟨u, hB⟩ := h.idx.i
  have hC : fX5_holders F M s1 = some (M, nI (vcount M nv s1)) := by
    unfold fX5_holders
    rw [e_countOf hF (by rw [bl60]; decide) hB, q_bn_p]
  have hM : fX6_holders F M s1 = some (up M 69 0 0 0, nI (vcount M nv s1)) := by
    unfold fX6_holders
    rw [h.ver.b, e_holders hF h.ver (Nat.le_refl _), q_bn_p]
    rfl
  refine ⟨_, caseB (F := F) (m := fun M => fX6_holders F M s1) (by rw [hC]) hM, inv_69 hi rfl⟩
/-- a sum that finds the first of several -/
theorem sm_first {f : Nat → Nat} : ∀ {n : Nat}, sm n (fun i => if 0 < f i ∧ sm i f = 0 then 1 else 0) = if 0 < sm n f then 1 else 0 := by
  intro n
  induction n with
  | zero => rfl
  | succ n ih =>
    rw [sm_s, ih, sm_s]
    by_cases h1 : 0 < sm n f
    · rw [if_pos h1, if_neg (by omega), if_pos (by omega)]
    · by_cases h2 : 0 < f n
      · rw [if_neg h1, if_pos ⟨h2, by omega⟩, if_pos (by omega)]
      · rw [if_neg h1, if_neg (by omega), if_neg (by omega)]
theorem hv_of_mem {M : Mem} {nv q : Nat} {x : Int32} (hq : q < nv) (hin : M 38 0 q = 1) (hx : 0 < wcount (M 22 q) (M 8 q 0).toNatClampNeg x) : 0 < vcount M nv x := by
  rw [vcount_sm]
  have g1 : sm nv (fun l => if l = q then 1 else 0) ≤ sm nv (fun i => hd M i x) := sm_le fun l _ => by
    by_cases e : l = q
    · rw [if_pos e, e]
      unfold hd hv
      rw [if_pos hin, if_pos hx]
      exact Nat.le_refl _
    · rw [if_neg e]
      exact Nat.zero_le _
  rw [sm_at, if_pos hq] at g1
  exact g1
/-- the index's keys, counted by the first version that holds each -/
theorem idx_count {np nt nw nv nhd u : Nat} {M : Mem} (h : Ver M np nt nw nv nhd) (hB : BagIs M 60 u (vcount M nv)) : u = sm nv (fun i => sm (M 9 i 0).toNatClampNeg (fun k => if M 38 0 i = 1 ∧ vcount M i (M 23 i k) = 0 then 1 else 0)) := by
  have h60 := h.le
  have e1 : u = sm u (fun t => sm nv (fun i => if 0 < hd M i (M 23 60 t) ∧ sm i (fun i => hd M i (M 23 60 t)) = 0 then 1 else 0)) := by
    have : sm u (fun t => sm nv (fun i => if 0 < hd M i (M 23 60 t) ∧ sm i (fun i => hd M i (M 23 60 t)) = 0 then 1 else 0)) = sm u (fun _ => 1) := sm_congr fun t ht => by
      have hc := (hB.cnt t ht).2
      rw [vcount_sm] at hc
      rw [sm_first (f := fun i => hd M i (M 23 60 t)), if_pos hc]
    rw [this, sm_const, Nat.mul_one]
  refine e1.trans ?_
  rw [sm_swap]
  refine sm_congr fun i hi => ?_
  obtain ⟨v, hv37, hV, -, -⟩ := ver_bag h hi
  rw [hV.a, nI_clamp (by omega)]
  by_cases h1 : M 38 0 i = 1
  · have e2 : ∀ t, t < u → (if 0 < hd M i (M 23 60 t) ∧ sm i (fun i => hd M i (M 23 60 t)) = 0 then 1 else 0) = sm v (fun k => (if M 23 60 t = M 23 i k then 1 else 0) * (if vcount M i (M 23 i k) = 0 then 1 else 0)) := fun t _ => by
      rw [← vcount_sm]
      by_cases z : vcount M i (M 23 60 t) = 0
      · have e3 : sm v (fun k => (if M 23 60 t = M 23 i k then 1 else 0) * (if vcount M i (M 23 i k) = 0 then 1 else 0)) = sm v (fun k => if M 23 60 t = M 23 i k then 1 else 0) := sm_congr fun k _ => by
          by_cases e : M 23 60 t = M 23 i k
          · rw [if_pos e, if_pos (by rw [← e]; exact z)]
          · rw [if_neg e, Nat.zero_mul]
        rw [e3, bag_hv hV]
        unfold hd
        rw [if_pos h1]
        unfold hv
        by_cases g : 0 < wcount (M 22 i) (M 8 i 0).toNatClampNeg (M 23 60 t)
        · rw [if_pos g, if_pos ⟨by decide, z⟩]
        · rw [if_neg g, if_neg (fun h9 => absurd h9.1 (by decide))]
      · rw [if_neg (fun h9 => z h9.2)]
        refine (sm_z fun k _ => ?_).symm
        by_cases e : M 23 60 t = M 23 i k
        · rw [if_neg (show ¬ vcount M i (M 23 i k) = 0 by rw [← e]; exact z), Nat.mul_zero]
        · rw [if_neg e, Nat.zero_mul]
    rw [sm_congr e2, sm_swap]
    refine sm_congr fun k hk => ?_
    rw [sm_mul]
    have hpos : 0 < vcount M nv (M 23 i k) := hv_of_mem hi h1 (hV.cnt k hk).2
    have e4 : sm u (fun t => if M 23 60 t = M 23 i k then 1 else 0) = 1 := by
      have : sm u (fun t => if M 23 60 t = M 23 i k then 1 else 0) = sm u (fun t => if M 23 i k = M 23 60 t then 1 else 0) := sm_congr fun t _ => by
        by_cases e : M 23 60 t = M 23 i k
        · rw [if_pos e, if_pos e.symm]
        · rw [if_neg e, if_neg (fun h => e h.symm)]
      rw [this, bag_hv hB]
      unfold hv
      rw [if_pos hpos]
    rw [e4, Nat.one_mul]
    by_cases z : vcount M i (M 23 i k) = 0
    · rw [if_pos z, if_pos ⟨h1, z⟩]
    · rw [if_neg z, if_neg (fun h9 => z h9.2)]
  · have e5 : ∀ t, t < u → (if 0 < hd M i (M 23 60 t) ∧ sm i (fun i => hd M i (M 23 60 t)) = 0 then 1 else 0) = 0 := fun t _ => if_neg (fun h9 => by
      have := h9.1
      unfold hd at this
      rw [if_neg h1] at this
      exact absurd this (by decide))
    rw [sm_congr e5, sm_zero]
    exact (sm_z fun k _ => if_neg (fun h9 => h1 h9.1)).symm
/-- the index never fills as long as a version is not in -/
theorem idx_room {np nt nw nv nhd u q : Nat} {M : Mem} (h : Ver M np nt nw nv nhd) (hB : BagIs M 60 u (vcount M nv)) (hq : q < nv) (hn : ¬ M 38 0 q = 1) : u + 37 ≤ 2220 := by
  have h60 := h.le
  have e1 := idx_count h hB
  have e2 : sm nv (fun i => sm (M 9 i 0).toNatClampNeg (fun k => if M 38 0 i = 1 ∧ vcount M i (M 23 i k) = 0 then 1 else 0) + (if i = q then 37 else 0)) ≤ sm nv (fun _ => 37) := sm_le fun i hi => by
    obtain ⟨v, hv37, hV, -, -⟩ := ver_bag h hi
    rw [hV.a, nI_clamp (by omega)]
    by_cases e : i = q
    · rw [if_pos e]
      have : sm v (fun k => if M 38 0 i = 1 ∧ vcount M i (M 23 i k) = 0 then 1 else 0) = 0 := sm_z fun k _ => if_neg (fun h9 => hn (by rw [← e]; exact h9.1))
      omega
    · rw [if_neg e]
      have : sm v (fun k => if M 38 0 i = 1 ∧ vcount M i (M 23 i k) = 0 then 1 else 0) ≤ sm v (fun _ => 1) := sm_le fun k _ => by split <;> omega
      rw [sm_const] at this
      omega
  rw [sm_add, sm_at, if_pos hq, sm_const, ← e1] at e2
  omega
theorem e_ix14 {F np nt nw nv nhd i u : Nat} {M : Mem} {k4 : Mem → Int32 → Int32 → Option (Mem × Int32)} (hF : 10000 ≤ F) (h : Ver M np nt nw nv nhd) (hi : i < nv) (hu : u ≤ 37) (g1 : M 44 0 i = nI u) : ∀ (d k n c : Nat), k + d = u → d < n → fX6_indexed_14 F k4 n M (nI (c + sm k (fun k => if M 38 0 i = 1 ∧ vcount M i (M 43 0 (40 * i + k)) = 0 then 1 else 0))) (nI i) (nI k) = k4 M (nI (c + sm u (fun k => if M 38 0 i = 1 ∧ vcount M i (M 43 0 (40 * i + k)) = 0 then 1 else 0))) (nI (i + 1)) := by
  have h60 := h.le
  intro d
  induction d with
  | zero =>
    intro k n c hk hn
    obtain ⟨n, rfl⟩ := Nat.exists_eq_succ_of_ne_zero (Nat.ne_of_gt hn)
    have : k = u := by omega
    subst this
    rw [fX6_indexed_14, q_ax_n (show i < 60 by omega), g1, if_pos (nI_le (Nat.le_refl _) (by omega)), q_lt_e, nI_1]
  | succ d ih =>
    intro k n c hk hn
    obtain ⟨n, rfl⟩ := Nat.exists_eq_succ_of_ne_zero (Nat.ne_of_gt (Nat.lt_of_le_of_lt (Nat.zero_le _) hn))
    have hI := ih (k + 1) n c (by omega) (by omega)
    rw [sm_s] at hI
    have hvle : vcount M i (M 43 0 (40 * i + k)) ≤ i := by
      unfold vcount
      have := List.length_filter_le (fun i_1 => decide (M 38 0 i_1 = 1) && decide (0 < wcount (M 22 i_1) (M 8 i_1 0).toNatClampNeg (M 43 0 (40 * i + k)))) (List.range i)
      rw [List.length_range] at this
      exact this
    rw [fX6_indexed_14, q_ax_n (show i < 60 by omega), g1, if_neg (nI_ge (by omega) (by omega)), q_ax_n (show i < 60 by omega), idx40, q_ax_n (show 40 * i + k < 2400 by omega), e_holders hF h (show i ≤ nv by omega), q_bn_p]
    unfold fX6_indexed_58 fX6_indexed_59
    simp only [q_lt_e, nI_1, Int32.add_zero]
    by_cases h1 : M 38 0 i = 1
    · by_cases h2 : vcount M i (M 43 0 (40 * i + k)) = 0
      · rw [if_pos ⟨h1, h2⟩] at hI
        rw [if_pos h1, if_pos (show nI (vcount M i (M 43 0 (40 * i + k))) = 0 by rw [h2]; rfl)]
        exact hI
      · rw [if_neg (fun h9 => h2 h9.2)] at hI
        rw [if_pos h1, if_neg (nI_ne0 (by omega) (by omega))]
        exact hI
    · rw [if_neg (fun h9 => h1 h9.1)] at hI
      rw [if_neg h1]
      exact hI
theorem e_ix4 {F np nt nw nv nhd : Nat} {M : Mem} (hF : 10000 ≤ F) (h : Ver M np nt nw nv nhd) : ∀ (d i n : Nat), i + d = nv → d < n → fX6_indexed_4 F n M (nI (sm i (fun i => sm (M 9 i 0).toNatClampNeg (fun k => if M 38 0 i = 1 ∧ vcount M i (M 23 i k) = 0 then 1 else 0)))) (nI i) = some (up M 69 0 0 0, nI (sm nv (fun i => sm (M 9 i 0).toNatClampNeg (fun k => if M 38 0 i = 1 ∧ vcount M i (M 23 i k) = 0 then 1 else 0)))) := by
  have h60 := h.le
  intro d
  induction d with
  | zero =>
    intro i n hi hn
    obtain ⟨n, rfl⟩ := Nat.exists_eq_succ_of_ne_zero (Nat.ne_of_gt hn)
    have : i = nv := by omega
    subst this
    rw [fX6_indexed_4, h.b, if_pos (nI_le (Nat.le_refl _) (by omega))]
    rfl
  | succ d ih =>
    intro i n hi hn
    obtain ⟨n, rfl⟩ := Nat.exists_eq_succ_of_ne_zero (Nat.ne_of_gt (Nat.lt_of_le_of_lt (Nat.zero_le _) hn))
    obtain ⟨u, hu, hB, g1, g2⟩ := ver_bag h (show i < nv by omega)
    have hI := ih (i + 1) n (by omega) (by omega)
    have h14 := e_ix14 (F := F) (k4 := fX6_indexed_4 F n) hF h (show i < nv by omega) hu g1 u 0 F (sm i (fun i => sm (M 9 i 0).toNatClampNeg (fun k => if M 38 0 i = 1 ∧ vcount M i (M 23 i k) = 0 then 1 else 0))) (by omega) (by omega)
    have e : sm (M 9 i 0).toNatClampNeg (fun k => if M 38 0 i = 1 ∧ vcount M i (M 23 i k) = 0 then 1 else 0) = sm u (fun k => if M 38 0 i = 1 ∧ vcount M i (M 43 0 (40 * i + k)) = 0 then 1 else 0) := by
      rw [hB.a, nI_clamp (by omega)]
      exact sm_congr fun k hk => by rw [g2 k hk]
    rw [sm_s, e] at hI
    rw [fX6_indexed_4, h.b, if_neg (nI_ge (by omega) (by omega)), q_lt_e]
    exact h14.trans hI
theorem k25 {F : Nat} {M : Mem} {x : XX} {s1 s2 s3 s4 s5 : Int32} (hF : 10000 ≤ F) (hi : Inv M) : ∃ r, fL_case25 F M x s1 s2 s3 s4 s5 = some r ∧ Inv r.1 := by
  obtain ⟨nc, np, nt, nw, ns, nv, nhd, nh, h⟩ := id hi
  have h60 := h.ver.le
  obtain ⟨u, hB⟩ := h.idx.i
  have hC : fX5_indexed F M = some (M, nI u) := by
    unfold fX5_indexed
    rw [hB.a]
  have hM : fX6_indexed F M = some (up M 69 0 0 0, nI u) := by
    have := e_ix4 (F := F) hF h.ver nv 0 F (by omega) (by omega)
    rw [← idx_count h.ver hB] at this
    exact this
  refine ⟨_, caseB (F := F) (m := fun M => fX6_indexed F M) (by rw [hC]) hM, inv_69 hi rfl⟩
