/-! sums; what two bags have in common -/
def sm : Nat → (Nat → Nat) → Nat
  | 0, _ => 0
  | k + 1, f => sm k f + f k
theorem sm_s {k : Nat} {f : Nat → Nat} : sm (k + 1) f = sm k f + f k := rfl
theorem sm_congr {f g : Nat → Nat} : ∀ {n : Nat}, (∀ k, k < n → f k = g k) → sm n f = sm n g := by
  intro n
  induction n with
  | zero => exact fun _ => rfl
  | succ n ih =>
    intro h
    rw [sm_s, sm_s, ih (fun k hk => h k (by omega)), h n (by omega)]
theorem sm_zero {n : Nat} : sm n (fun _ => 0) = 0 := by
  induction n with
  | zero => rfl
  | succ n ih => rw [sm_s, ih]
theorem sm_z {f : Nat → Nat} {n : Nat} (h : ∀ k, k < n → f k = 0) : sm n f = 0 := (sm_congr h).trans sm_zero
theorem sm_add {f g : Nat → Nat} {n : Nat} : sm n (fun k => f k + g k) = sm n f + sm n g := by
  induction n with
  | zero => rfl
  | succ n ih =>
    rw [sm_s, sm_s, sm_s, ih]
    omega
theorem sm_swap {g : Nat → Nat → Nat} {a b : Nat} : sm a (fun k => sm b (fun l => g k l)) = sm b (fun l => sm a (fun k => g k l)) := by
  induction a with
  | zero => exact sm_zero.symm
  | succ a ih =>
    rw [sm_s, ih, ← sm_add]
    rfl
theorem sm_le {f g : Nat → Nat} {n : Nat} (h : ∀ k, k < n → f k ≤ g k) : sm n f ≤ sm n g := by
  induction n with
  | zero => exact Nat.le_refl _
  | succ n ih =>
    have h1 := ih (fun k hk => h k (by omega))
    have h2 := h n (by omega)
    rw [sm_s, sm_s]
    omega
theorem sm_const {n c : Nat} : sm n (fun _ => c) = n * c := by
  induction n with
  | zero => exact (Nat.zero_mul c).symm
  | succ n ih => rw [sm_s, ih, Nat.succ_mul]
theorem sm_at {n l c : Nat} : sm n (fun k => if k = l then c else 0) = if l < n then c else 0 := by
  induction n with
  | zero => rfl
  | succ n ih =>
    rw [sm_s, ih]
    by_cases h1 : n = l
    · rw [if_pos h1, if_neg (show ¬ l < n by omega), if_pos (show l < n + 1 by omega), Nat.zero_add]
    · rw [if_neg h1, Nat.add_zero]
      by_cases h2 : l < n
      · rw [if_pos h2, if_pos (show l < n + 1 by omega)]
      · rw [if_neg h2, if_neg (show ¬ l < n + 1 by omega)]
theorem sm_mul {n c : Nat} {f : Nat → Nat} : sm n (fun k => f k * c) = sm n f * c := by
  induction n with
  | zero => exact (Nat.zero_mul c).symm
  | succ n ih => rw [sm_s, sm_s, ih, Nat.add_mul]
theorem len_sm {n : Nat} {p : Nat → Bool} : ((List.range n).filter p).length = sm n (fun i => if p i = true then 1 else 0) := by
  induction n with
  | zero => rfl
  | succ n ih =>
    rw [List.range_succ, List.filter_append, List.length_append, ih, sm_s]
    by_cases h : p n = true <;> simp [h]
/-- is a key there -/
def hv (m : Int32 → Nat) (x : Int32) : Nat := if 0 < m x then 1 else 0
theorem hv_le {m : Int32 → Nat} {x : Int32} : hv m x ≤ 1 := by
  unfold hv
  by_cases h : 0 < m x
  · rw [if_pos h]
    exact Nat.le_refl _
  · rw [if_neg h]
    exact Nat.zero_le _
theorem hv_sum {r : Nat → Int32} {u : Nat} {m : Int32 → Nat} (inc : ∀ k l, k < l → l < u → (r k).toInt < (r l).toInt) (pos : ∀ k, k < u → 0 < m (r k)) (has : ∀ x, 0 < m x → ∃ k, k < u ∧ r k = x) (x : Int32) : sm u (fun l => if x = r l then 1 else 0) = hv m x := by
  unfold hv
  by_cases h : 0 < m x
  · obtain ⟨l0, h1, h2⟩ := has x h
    rw [if_pos h]
    refine Eq.trans (sm_congr (g := fun k => if k = l0 then 1 else 0) fun l hl => ?_) (by rw [sm_at, if_pos h1])
    by_cases e : l = l0
    · rw [if_pos e, e, if_pos h2.symm]
    · rw [if_neg e, if_neg]
      intro h9
      rw [← h2] at h9
      rcases Nat.lt_trichotomy l l0 with g | g | g
      · have := inc l l0 g h1
        rw [h9] at this
        omega
      · exact e g
      · have := inc l0 l g hl
        rw [h9] at this
        omega
  · rw [if_neg h]
    exact sm_z fun l hl => if_neg (fun h9 => h (by rw [h9]; exact pos l hl))
theorem bag_hv {M : Mem} {j u : Nat} {m : Int32 → Nat} (h : BagIs M j u m) (x : Int32) : sm u (fun l => if x = M 23 j l then 1 else 0) = hv m x := hv_sum h.inc (fun k hk => (h.cnt k hk).2) h.has x
theorem e_cc16 {F j j' u' p : Nat} {M : Mem} {k7 : Mem → Nat → Nat → Int32 → Int32 → Int32 → Option (Mem × Int32)} {c : Int32} (hN : bl j ≤ 2220) (hN' : bl j' ≤ 2220) (a' : M 9 j' 0 = nI u') (hu' : u' ≤ bl j') (hp : p < bl j) : ∀ (d t n : Nat), t + d = u' → d < n → (∀ l, l < t → (M 23 j' l).toInt < (M 23 j p).toInt) → ∃ t', t ≤ t' ∧ t' ≤ u' ∧ fX0_countCommon_16 F k7 n M j j' c (nI t) (nI p) = fX0_countCommon_46 F k7 M j j' c (nI t') (nI p) ∧ (∀ l, l < t' → (M 23 j' l).toInt < (M 23 j p).toInt) ∧ (t' < u' → (M 23 j p).toInt ≤ (M 23 j' t').toInt) := by
  intro d
  induction d with
  | zero =>
    intro t n ht hn h
    obtain ⟨n, rfl⟩ := Nat.exists_eq_succ_of_ne_zero (Nat.ne_of_gt hn)
    refine ⟨t, Nat.le_refl _, by omega, ?_, h, fun h9 => by omega⟩
    rw [fX0_countCommon_16, a', if_pos (nI_le (by omega) (by omega))]
  | succ d ih =>
    intro t n ht hn h
    obtain ⟨n, rfl⟩ := Nat.exists_eq_succ_of_ne_zero (Nat.ne_of_gt (Nat.lt_of_le_of_lt (Nat.zero_le _) hn))
    by_cases g : M 23 j p ≤ M 23 j' t
    · refine ⟨t, Nat.le_refl _, by omega, ?_, h, fun _ => Int32.le_iff_toInt_le.mp g⟩
      rw [fX0_countCommon_16, a', if_neg (nI_ge (by omega) (by omega)), q_ax_n (show t < bl j' by omega) (by omega), q_ax_n hp (by omega), if_pos g]
    · have g' := Int32.lt_iff_toInt_lt.mp (Int32.not_le.mp g)
      obtain ⟨t', h1, h2, h3, h4, h5⟩ := ih (t + 1) n (by omega) (by omega) (fun l hl => by
        by_cases e : l = t
        · rw [e]
          exact g'
        · exact h l (by omega))
      refine ⟨t', by omega, h2, ?_, h4, h5⟩
      rw [fX0_countCommon_16, a', if_neg (nI_ge (by omega) (by omega)), q_ax_n (show t < bl j' by omega) (by omega), q_ax_n hp (by omega), if_neg g, q_lt_e, nI_1]
      exact h3
theorem e_cc7 {F j j' u u' : Nat} {M : Mem} {m m' : Int32 → Nat} (hF : 10000 ≤ F) (hN : bl j ≤ 2220) (hN' : bl j' ≤ 2220) (h : BagIs M j u m) (h' : BagIs M j' u' m') : ∀ (d p t n : Nat), p + d = u → d < n → t ≤ u' → (p < u → ∀ l, l < t → (M 23 j' l).toInt < (M 23 j p).toInt) → fX0_countCommon_7 F n M j j' (nI (sm p (fun k => hv m' (M 23 j k)))) (nI t) (nI p) = some (M, nI (sm u (fun k => hv m' (M 23 j k)))) := by
  have hu := h.le
  have hu' := h'.le
  intro d
  induction d with
  | zero =>
    intro p t n hp hn ht hb
    obtain ⟨n, rfl⟩ := Nat.exists_eq_succ_of_ne_zero (Nat.ne_of_gt hn)
    have : p = u := by omega
    subst this
    rw [fX0_countCommon_7, h.a, if_pos (nI_le (Nat.le_refl _) (by omega))]
  | succ d ih =>
    intro p t n hp hn ht hb
    obtain ⟨n, rfl⟩ := Nat.exists_eq_succ_of_ne_zero (Nat.ne_of_gt (Nat.lt_of_le_of_lt (Nat.zero_le _) hn))
    have hpu : p < u := by omega
    obtain ⟨t', h1, h2, h3, h4, h5⟩ := e_cc16 (F := F) (c := nI (sm p (fun k => hv m' (M 23 j k)))) (k7 := fX0_countCommon_7 F n) hN hN' h'.a hu' (show p < bl j by omega) (u' - t) t F (by omega) (by omega) (hb hpu)
    have hI := ih (p + 1) t' n (by omega) (by omega) h2 (fun h9 l hl => by
      have g1 := h4 l hl
      have g2 := h.inc p (p + 1) (by omega) h9
      omega)
    rw [fX0_countCommon_7, h.a, if_neg (nI_ge hpu (by omega)), h3, fX0_countCommon_46, h'.a]
    unfold fX0_countCommon_73
    by_cases g : t' < u'
    · rw [if_neg (nI_ge g (by omega)), q_ax_n (show t' < bl j' by omega) (by omega), q_ax_n (show p < bl j by omega) (by omega)]
      by_cases e : M 23 j' t' = M 23 j p
      · have hf : sm (p + 1) (fun k => hv m' (M 23 j k)) = sm p (fun k => hv m' (M 23 j k)) + 1 := by
          rw [sm_s]
          congr 1
          unfold hv
          rw [if_pos]
          rw [← e]
          exact (h'.cnt t' g).2
        rw [if_pos e, q_lt_e, q_lt_e, nI_1, nI_1, ← hf]
        exact hI
      · have hf : sm (p + 1) (fun k => hv m' (M 23 j k)) = sm p (fun k => hv m' (M 23 j k)) := by
          rw [sm_s]
          show _ + hv m' (M 23 j p) = _
          unfold hv
          rw [if_neg, Nat.add_zero]
          intro h9
          obtain ⟨l, hl, el⟩ := h'.has _ h9
          rcases Nat.lt_trichotomy l t' with q | q | q
          · have := h4 l q
            rw [el] at this
            omega
          · rw [q] at el
            exact e el
          · have g1 := h'.inc t' l q hl
            have g2 := h5 g
            rw [el] at g1
            omega
        rw [if_neg e, q_lt_e, nI_1, ← hf]
        exact hI
    · have hf : sm (p + 1) (fun k => hv m' (M 23 j k)) = sm p (fun k => hv m' (M 23 j k)) := by
        rw [sm_s]
        show _ + hv m' (M 23 j p) = _
        unfold hv
        rw [if_neg, Nat.add_zero]
        intro h9
        obtain ⟨l, hl, el⟩ := h'.has _ h9
        have := h4 l (by omega)
        rw [el] at this
        omega
      rw [if_pos (nI_le (by omega) (by omega)), q_lt_e, nI_1, ← hf]
      exact hI
theorem e_cc {F j j' u u' : Nat} {M : Mem} {m m' : Int32 → Nat} (hF : 10000 ≤ F) (hN : bl j ≤ 2220) (hN' : bl j' ≤ 2220) (h : BagIs M j u m) (h' : BagIs M j' u' m') : fX0_countCommon F M j j' = some (M, nI (sm u (fun k => hv m' (M 23 j k)))) := by
  have hu := h.le
  have := e_cc7 (F := F) hF hN hN' h h' u 0 0 F (by omega) (by omega) (Nat.zero_le _) (fun _ l hl => by omega)
  exact this
theorem e_cm19 {F a b k ub : Nat} {M : Mem} {k5 : Mem → Int32 → Int32 → Int32 → Int32 → Option (Mem × Int32)} (ha : a < 60) (hb : b < 60) (hk : k < 40) (hu : ub ≤ 40) (e : M 44 0 b = nI ub) : ∀ (d l n c : Nat), l + d = ub → d < n → fX6_common_19 F k5 n M (nI a) (nI b) (nI (c + sm l (fun l => if M 43 0 (40 * a + k) = M 43 0 (40 * b + l) then 1 else 0))) (nI k) (nI l) = k5 M (nI a) (nI b) (nI (c + sm ub (fun l => if M 43 0 (40 * a + k) = M 43 0 (40 * b + l) then 1 else 0))) (nI (k + 1)) := by
  intro d
  induction d with
  | zero =>
    intro l n c hl hn
    obtain ⟨n, rfl⟩ := Nat.exists_eq_succ_of_ne_zero (Nat.ne_of_gt hn)
    have : l = ub := by omega
    subst this
    rw [fX6_common_19, q_ax_n hb, e, if_pos (nI_le (Nat.le_refl _) (by omega)), q_lt_e, nI_1]
  | succ d ih =>
    intro l n c hl hn
    obtain ⟨n, rfl⟩ := Nat.exists_eq_succ_of_ne_zero (Nat.ne_of_gt (Nat.lt_of_le_of_lt (Nat.zero_le _) hn))
    have hI := ih (l + 1) n c (by omega) (by omega)
    rw [fX6_common_19, q_ax_n hb, e, if_neg (nI_ge (by omega) (by omega)), idx40, idx40, q_ax_n (show 40 * a + k < 2400 by omega), q_ax_n (show 40 * b + l < 2400 by omega)]
    unfold fX6_common_63
    by_cases g : M 43 0 (40 * a + k) = M 43 0 (40 * b + l)
    · rw [if_pos g, q_lt_e, q_lt_e, nI_1, nI_1]
      rw [sm_s, if_pos g] at hI
      exact hI
    · rw [if_neg g, q_lt_e, q_lt_e, nI_1, Int32.add_zero]
      rw [sm_s, if_neg g] at hI
      exact hI
theorem e_cm5 {F a b ua ub : Nat} {M : Mem} (hF : 10000 ≤ F) (ha : a < 60) (hb : b < 60) (hua : ua ≤ 40) (hu : ub ≤ 40) (e1 : M 44 0 a = nI ua) (e : M 44 0 b = nI ub) : ∀ (d k n : Nat), k + d = ua → d < n → fX6_common_5 F n M (nI a) (nI b) (nI (sm k (fun k => sm ub (fun l => if M 43 0 (40 * a + k) = M 43 0 (40 * b + l) then 1 else 0)))) (nI k) = some (M, nI (sm ua (fun k => sm ub (fun l => if M 43 0 (40 * a + k) = M 43 0 (40 * b + l) then 1 else 0)))) := by
  intro d
  induction d with
  | zero =>
    intro k n hk hn
    obtain ⟨n, rfl⟩ := Nat.exists_eq_succ_of_ne_zero (Nat.ne_of_gt hn)
    have : k = ua := by omega
    subst this
    rw [fX6_common_5, q_ax_n ha, e1, if_pos (nI_le (Nat.le_refl _) (by omega))]
  | succ d ih =>
    intro k n hk hn
    obtain ⟨n, rfl⟩ := Nat.exists_eq_succ_of_ne_zero (Nat.ne_of_gt (Nat.lt_of_le_of_lt (Nat.zero_le _) hn))
    have hI := ih (k + 1) n (by omega) (by omega)
    rw [fX6_common_5, q_ax_n ha, e1, if_neg (nI_ge (by omega) (by omega)), q_lt_e]
    have := e_cm19 (F := F) (k5 := fX6_common_5 F n) ha hb (show k < 40 by omega) hu e ub 0 F (sm k (fun k => sm ub (fun l => if M 43 0 (40 * a + k) = M 43 0 (40 * b + l) then 1 else 0))) (by omega) (by omega)
    exact this.trans hI
theorem e_cm {F a b ua ub : Nat} {M : Mem} (hF : 10000 ≤ F) (ha : a < 60) (hb : b < 60) (hua : ua ≤ 40) (hu : ub ≤ 40) (e1 : M 44 0 a = nI ua) (e : M 44 0 b = nI ub) : fX6_common F M (nI a) (nI b) = some (M, nI (sm ua (fun k => sm ub (fun l => if M 43 0 (40 * a + k) = M 43 0 (40 * b + l) then 1 else 0)))) :=
  e_cm5 (F := F) hF ha hb hua hu e1 e ua 0 F (by omega) (by omega)
/-- how many keys two bags have in common -/
def cmn (M : Mem) (a b : Nat) : Nat := sm (M 9 a 0).toNatClampNeg (fun k => sm (M 9 b 0).toNatClampNeg (fun l => if M 23 a k = M 23 b l then 1 else 0))
theorem cmn_comm {M : Mem} {a b : Nat} : cmn M a b = cmn M b a := by
  unfold cmn
  rw [sm_swap]
  refine sm_congr fun k _ => sm_congr fun l _ => ?_
  by_cases e : M 23 a l = M 23 b k
  · rw [if_pos e, if_pos e.symm]
  · rw [if_neg e, if_neg (fun h => e h.symm)]
theorem cmn_of {M M' : Mem} {a b : Nat} (e : M' 9 = M 9) (e' : M' 23 = M 23) : cmn M' a b = cmn M a b := by
  unfold cmn
  rw [e, e']
theorem cmn_e {M : Mem} {a b u u' : Nat} {m m' : Int32 → Nat} (hu : u < 2 ^ 31) (hu' : u' < 2 ^ 31) (h : BagIs M a u m) (h' : BagIs M b u' m') : cmn M a b = sm u (fun k => hv m' (M 23 a k)) := by
  unfold cmn
  rw [h.a, h'.a, nI_clamp hu, nI_clamp hu']
  exact sm_congr fun k _ => bag_hv h' _
theorem bl_v {a : Nat} (h : a < 60) : bl a = 37 := by
  unfold bl
  rw [if_pos (Or.inl h)]
theorem ver_bag {M : Mem} {np nt nw nv nhd a : Nat} (h : Ver M np nt nw nv nhd) (ha : a < nv) : ∃ u, u ≤ 37 ∧ BagIs M a u (wcount (M 22 a) (M 8 a 0).toNatClampNeg) ∧ M 44 0 a = nI u ∧ ∀ k, k < u → M 23 a k = M 43 0 (40 * a + k) := by
  obtain ⟨n, hn, e1, -, -, u, hu, hB, g1, g2⟩ := (h.v a ha).size
  rw [e1, nI_clamp (by omega)]
  exact ⟨u, hu, hB, g1, g2⟩
theorem e_ccV {F np nt nw nv nhd a b : Nat} {M : Mem} (hF : 10000 ≤ F) (h : Ver M np nt nw nv nhd) (ha : a < nv) (hb : b < nv) : fX0_countCommon F M a b = some (M, nI (cmn M a b)) := by
  have h60 := h.le
  obtain ⟨u, hu, hB, -, -⟩ := ver_bag h ha
  obtain ⟨u', hu', hB', -, -⟩ := ver_bag h hb
  have e1 := bl_v (a := a) (by omega)
  have e2 := bl_v (a := b) (by omega)
  rw [cmn_e (by omega) (by omega) hB hB']
  exact e_cc hF (by omega) (by omega) hB hB'
theorem e_cmV {F np nt nw nv nhd a b : Nat} {M M' : Mem} (hF : 10000 ≤ F) (h : Ver M np nt nw nv nhd) (ha : a < nv) (hb : b < nv) (e43 : M' 43 = M 43) (e44 : M' 44 = M 44) : fX6_common F M' (nI a) (nI b) = some (M', nI (cmn M a b)) := by
  have h60 := h.le
  obtain ⟨u, hu, hB, g1, g2⟩ := ver_bag h ha
  obtain ⟨u', hu', hB', g1', g2'⟩ := ver_bag h hb
  have := e_cm (F := F) (M := M') (a := a) (b := b) (ua := u) (ub := u') hF (by omega) (by omega) (by omega) (by omega) (by rw [e44]; exact g1) (by rw [e44]; exact g1')
  rw [this]
  unfold cmn
  rw [hB.a, hB'.a, nI_clamp (by omega), nI_clamp (by omega)]
  refine congrArg (fun y => some (M', nI y)) (sm_congr fun k hk => sm_congr fun l hl => ?_)
  rw [e43, g2 k hk, g2' l hl]
theorem cmn_le {np nt nw nv nhd a b : Nat} {M : Mem} (h : Ver M np nt nw nv nhd) (ha : a < nv) (hb : b < nv) : cmn M a b ≤ 37 := by
  obtain ⟨u, hu, hB, -, -⟩ := ver_bag h ha
  obtain ⟨u', hu', hB', -, -⟩ := ver_bag h hb
  rw [cmn_e (by omega) (by omega) hB hB']
  have : sm u (fun k => hv (wcount (M 22 b) (M 8 b 0).toNatClampNeg) (M 23 a k)) ≤ sm u (fun _ => 1) := sm_le fun k _ => hv_le
  rw [sm_const] at this
  omega
theorem k23 {F : Nat} {M : Mem} {x : XX} {s1 s2 s3 s4 s5 : Int32} (hF : 10000 ≤ F) (hi : Inv M) : ∃ r, fL_case23 F M x s1 s2 s3 s4 s5 = some r ∧ Inv r.1 := by
  obtain ⟨nc, np, nt, nw, ns, nv, nhd, nh, h⟩ := id hi
  have h60 := h.ver.le
  by_cases hp : isN nv s1
  · by_cases ht : isN nv s2
    · obtain ⟨a, ha, ea⟩ := isN_of (by omega) hp
      obtain ⟨b, hb, eb⟩ := isN_of (by omega) ht
      have hC : fX5_shared F M s1 s2 = some (M, Sum.inl (nI (cmn M a b))) := by
        unfold fX5_shared
        rw [e_needVersion h.ver.a hp, q_bx_inl, e_needVersion h.ver.a ht, q_bx_inl, ea, eb, q_ax_n (show a < 60 by omega), q_ax_n (show b < 60 by omega), e_ccV hF h.ver ha hb, q_bn_p]
      have hM : fX6_shared F M s1 s2 = some (up M 69 0 0 0, nI (cmn M a b)) := by
        unfold fX6_shared
        rw [e_isVersion h.ver.b (by omega) hp, q_bn_p, z10, e_isVersion h.ver.b (by omega) ht, q_bn_p, z10, ea, eb, e_cmV hF h.ver ha hb rfl rfl, q_bn_p]
        rfl
      exact ⟨_, caseA (m := fun M => fX6_shared F M s1 s2) (by unfold fL_shared; rw [hC]; rfl) hM rfl (fun _ => rfl), inv_69 hi rfl⟩
    · have hC : fX5_shared F M s1 s2 = some (M, Sum.inr 3) := by
        unfold fX5_shared
        rw [e_needVersion h.ver.a hp, q_bx_inl, e_needVersionX h.ver.a ht, q_bx_inr]
      have hM : fX6_shared F M s1 s2 = some (up M 69 0 0 1, 0) := by
        unfold fX6_shared
        rw [e_isVersion h.ver.b (by omega) hp, q_bn_p, z10, e_isVersionX h.ver.b (by omega) ht, q_bn_p, z00]
        rfl
      exact ⟨_, caseA (m := fun M => fX6_shared F M s1 s2) (by unfold fL_shared; rw [hC]; rfl) hM rfl (fun h => by cases h), inv_69 hi rfl⟩
  · have hC : fX5_shared F M s1 s2 = some (M, Sum.inr 3) := by
      unfold fX5_shared
      rw [e_needVersionX h.ver.a hp, q_bx_inr]
    have hM : fX6_shared F M s1 s2 = some (up M 69 0 0 1, 0) := by
      unfold fX6_shared
      rw [e_isVersionX h.ver.b (by omega) hp, q_bn_p, z00]
      rfl
    exact ⟨_, caseA (m := fun M => fX6_shared F M s1 s2) (by unfold fL_shared; rw [hC]; rfl) hM rfl (fun h => by cases h), inv_69 hi rfl⟩
