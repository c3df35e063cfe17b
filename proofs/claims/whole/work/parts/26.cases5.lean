theorem e_forks {F np nt nw nv nhd q : Nat} {M : Mem} (h : Ver M np nt nw nv nhd) (hq : q < nv) : ∀ (d i n n' : Nat) (c : Int32), i + d = nv → d < n → d < n' → ∃ y, fX5_forks_17 F n M (nI q) q c (nI i) = some (M, Sum.inl y) ∧ fX6_forks_18 F n' M (nI q) c (nI i) = some (up M 69 0 0 0, y) := by
  have h60 := h.le
  intro d
  induction d with
  | zero =>
    intro i n n' c hi hn hn'
    obtain ⟨n, rfl⟩ := Nat.exists_eq_succ_of_ne_zero (Nat.ne_of_gt hn)
    obtain ⟨n', rfl⟩ := Nat.exists_eq_succ_of_ne_zero (Nat.ne_of_gt hn')
    have hle : nI nv ≤ nI i := nI_le (by omega) (by omega)
    unfold fX5_forks_17 fX6_forks_18
    rw [h.a, h.b, if_pos hle, if_pos hle]
    exact ⟨c, rfl, rfl⟩
  | succ d ih =>
    intro i n n' c hi hn hn'
    obtain ⟨n, rfl⟩ := Nat.exists_eq_succ_of_ne_zero (Nat.ne_of_gt (Nat.lt_of_le_of_lt (Nat.zero_le _) hn))
    obtain ⟨n', rfl⟩ := Nat.exists_eq_succ_of_ne_zero (Nat.ne_of_gt (Nat.lt_of_le_of_lt (Nat.zero_le _) hn'))
    have hlt : ¬ nI nv ≤ nI i := nI_ge (by omega) (by omega)
    have hv := h.v i (by omega)
    have hw := h.v q hq
    have hI := fun c' => ih (i + 1) n n' c' (by omega) (by omega) (by omega)
    have hadd : ∀ c' : Int32, c' + 0 = c' := fun c' => Int32.add_zero c'
    unfold fX5_forks_17 fX6_forks_18
    rw [h.a, h.b, if_neg hlt, if_neg hlt, q_ax_n (show i < 60 by omega), q_ax_n (show i < 60 by omega)]
    unfold fX5_forks_72 fX6_forks_75 fX6_forks_76 fX6_forks_93 fX6_forks_94
    simp only [q_lt_e, nI_1, q_ax_n (show i < 60 by omega), q_ax_n (show q < 60 by omega), q_isOf, q_bn_p, ← hv.p.1, ← hv.t.1, ← hv.par.1, ← hw.p.1, ← hw.t.1, ← hw.par.1, hadd, z10, z00, if_true]
    have hid : (nI i = nI q) ↔ i = q := nI_eq (by omega) (by omega)
    by_cases e1 : i = q
    · subst e1
      simp only [if_true, z10, z00]
      exact hI c
    · have e1' : ¬ nI i = nI q := fun h => e1 (hid.mp h)
      simp only [if_neg e1']
      by_cases e2 : M 10 i 0 = M 10 q 0
      · by_cases e3 : M 11 i 0 = M 11 q 0
        · by_cases e4 : M 12 i 0 = M 12 q 0
          · simp only [if_pos (And.intro e2 e3), if_pos e2, if_pos e3, if_pos e4, z10, z00]
            exact hI _
          · simp only [if_pos (And.intro e2 e3), if_pos e2, if_pos e3, if_neg e4, z10, z00]
            exact hI _
        · simp only [if_neg (show ¬ (M 10 i 0 = M 10 q 0 ∧ M 11 i 0 = M 11 q 0) from fun h => e3 h.2), if_pos e2, if_neg e3, z10, z00]
          exact hI _
      · simp only [if_neg (show ¬ (M 10 i 0 = M 10 q 0 ∧ M 11 i 0 = M 11 q 0) from fun h => e2 h.1), if_neg e2, z10, z00]
        exact hI _
theorem k12 {F : Nat} {M : Mem} {x : XX} {s1 s2 s3 s4 s5 : Int32} (hF : 10000 ≤ F) (hi : Inv M) : ∃ r, fL_case12 F M x s1 s2 s3 s4 s5 = some r ∧ Inv r.1 := by
  obtain ⟨nc, np, nt, nw, ns, nv, nhd, nh, h⟩ := id hi
  have hv6 := h.ver.le
  by_cases hr : isN nv s1
  · obtain ⟨q, hq1, hq2⟩ := isN_of (by omega) hr
    obtain ⟨y, y1, y2⟩ := e_forks (F := F) h.ver hq1 nv 0 F F 0 (by omega) (by omega) (by omega)
    have hC : fX5_forks F M s1 = some (M, Sum.inl y) := by
      unfold fX5_forks
      rw [e_needVersion h.ver.a hr, q_bx_inl, hq2, q_ax_n (show q < 60 by omega)]
      exact y1
    have hM : fX6_forks F M s1 = some (up M 69 0 0 0, y) := by
      unfold fX6_forks
      rw [e_isVersion h.ver.b (by omega) hr, q_bn_p, if_neg (show ¬ (1 : Int32) = 0 by decide), hq2]
      exact y2
    exact ⟨_, caseA (m := fun M => fX6_forks F M s1) (by unfold fL_forks; rw [hC]; rfl) hM rfl (fun _ => rfl), inv_69 hi rfl⟩
  · have hC : fX5_forks F M s1 = some (M, Sum.inr 3) := by
      unfold fX5_forks
      rw [e_needVersionX h.ver.a hr, q_bx_inr]
    have hM : fX6_forks F M s1 = some (up M 69 0 0 1, 0) := by
      unfold fX6_forks
      rw [e_isVersionX h.ver.b (by omega) hr, q_bn_p, if_pos rfl]
      rfl
    exact ⟨_, caseA (m := fun M => fX6_forks F M s1) (by unfold fL_forks; rw [hC]; rfl) hM rfl (fun h => by cases h), inv_69 hi rfl⟩
/-- a hit that is open touches a pupil's task -/
def tch (M : Mem) (p t : Int32) (k : Nat) : Prop := M 58 k 0 = -1 ∧ ((M 10 (M 55 k 0).toNatClampNeg 0 = p ∧ M 11 (M 55 k 0).toNatClampNeg 0 = t) ∨ (M 10 (M 56 k 0).toNatClampNeg 0 = p ∧ M 11 (M 56 k 0).toNatClampNeg 0 = t))
theorem e_open {F np nt nw nv nhd nh : Nat} {M : Mem} {p t : Int32} (h : Ver M np nt nw nv nhd) (g : Hts M nv nh) : ∀ (d i n : Nat), i + d = nh → d < n → ∃ z, fX5_hasOpenHit_2 F n M p t (nI i) = some (M, z) ∧ ((z = 1 ∧ ∃ k, i ≤ k ∧ k < nh ∧ tch M p t k) ∨ (z = 0 ∧ ¬ ∃ k, i ≤ k ∧ k < nh ∧ tch M p t k)) := by
  have h60 := h.le
  have h40 := g.le
  intro d
  induction d with
  | zero =>
    intro i n hi hn
    obtain ⟨n, rfl⟩ := Nat.exists_eq_succ_of_ne_zero (Nat.ne_of_gt hn)
    have hle : nI nh ≤ nI i := nI_le (by omega) (by omega)
    unfold fX5_hasOpenHit_2
    rw [g.a, if_pos hle]
    exact ⟨0, rfl, Or.inr ⟨rfl, fun h9 => (by obtain ⟨k, h1, h2, -⟩ := h9; omega)⟩⟩
  | succ d ih =>
    intro i n hi hn
    obtain ⟨n, rfl⟩ := Nat.exists_eq_succ_of_ne_zero (Nat.ne_of_gt (Nat.lt_of_le_of_lt (Nat.zero_le _) hn))
    have hlt : ¬ nI nh ≤ nI i := nI_ge (by omega) (by omega)
    obtain ⟨-, -, -, -, ⟨a, ha, ea⟩, ⟨b, hb, eb⟩, -, -⟩ := g.h i (by omega)
    have ca : (M 55 i 0).toNatClampNeg = a := by rw [ea, nI_clamp (by omega)]
    have cb : (M 56 i 0).toNatClampNeg = b := by rw [eb, nI_clamp (by omega)]
    obtain ⟨z, z1, z2⟩ := ih (i + 1) n (by omega) (by omega)
    have hno : ¬ tch M p t i → ∃ z, fX5_hasOpenHit_2 F n M p t (nI (i + 1)) = some (M, z) ∧ ((z = 1 ∧ ∃ k, i ≤ k ∧ k < nh ∧ tch M p t k) ∨ (z = 0 ∧ ¬ ∃ k, i ≤ k ∧ k < nh ∧ tch M p t k)) := fun hn => by
      refine ⟨z, z1, ?_⟩
      rcases z2 with ⟨e, k, k1, k2, k3⟩ | ⟨e, k3⟩
      · exact Or.inl ⟨e, k, by omega, k2, k3⟩
      · refine Or.inr ⟨e, fun ⟨k, k1, k2, k4⟩ => ?_⟩
        by_cases hk : k = i
        · subst hk
          exact hn k4
        · exact k3 ⟨k, by omega, k2, k4⟩
    unfold fX5_hasOpenHit_2
    rw [g.a, if_neg hlt, q_ax_n (show i < 40 by omega), e_isOpen, q_bn_p]
    unfold fX5_hasOpenHit_64 fX5_hasOpenHit_62
    simp only [q_lt_e, nI_1, ea, eb, q_ax_n (show a < 60 by omega), q_ax_n (show b < 60 by omega), q_isOf, q_bn_p]
    by_cases ho : M 58 i 0 = -1
    · by_cases h1 : M 10 a 0 = p ∧ M 11 a 0 = t
      · simp only [if_pos ho, if_pos h1, z10]
        exact ⟨1, rfl, Or.inl ⟨rfl, i, Nat.le_refl _, by omega, ho, Or.inl (by rw [ca]; exact h1)⟩⟩
      · by_cases h2 : M 10 b 0 = p ∧ M 11 b 0 = t
        · simp only [if_pos ho, if_neg h1, if_pos h2, z10, z00]
          exact ⟨1, rfl, Or.inl ⟨rfl, i, Nat.le_refl _, by omega, ho, Or.inr (by rw [cb]; exact h2)⟩⟩
        · simp only [if_pos ho, if_neg h1, if_neg h2, z10, z00]
          refine hno (fun ⟨_, h9⟩ => ?_)
          rw [ca, cb] at h9
          exact h9.elim h1 h2
    · simp only [if_neg ho, z00]
      exact hno (fun h9 => ho h9.1)
theorem e_frozen {F np nt nw nv nhd nh : Nat} {M : Mem} {p t : Int32} (h : Ver M np nt nw nv nhd) (g : Hts M nv nh) : ∀ (d i n : Nat) (w : Int32), i + d = nh → d < n → (w = 0 ∨ w = 1) → ∃ z, fX6_isFrozenOf_5 F n M p t w (nI i) = some (M, z) ∧ ((z = 1 ∧ (w = 1 ∨ ∃ k, i ≤ k ∧ k < nh ∧ tch M p t k)) ∨ (z = 0 ∧ w = 0 ∧ ¬ ∃ k, i ≤ k ∧ k < nh ∧ tch M p t k)) := by
  have h60 := h.le
  have h40 := g.le
  intro d
  induction d with
  | zero =>
    intro i n w hi hn hw
    obtain ⟨n, rfl⟩ := Nat.exists_eq_succ_of_ne_zero (Nat.ne_of_gt hn)
    have hle : nI nh ≤ nI i := nI_le (by omega) (by omega)
    unfold fX6_isFrozenOf_5
    rw [g.b, if_pos hle]
    rcases hw with rfl | rfl
    · exact ⟨0, rfl, Or.inr ⟨rfl, rfl, fun h9 => (by obtain ⟨k, h1, h2, -⟩ := h9; omega)⟩⟩
    · exact ⟨1, rfl, Or.inl ⟨rfl, Or.inl rfl⟩⟩
  | succ d ih =>
    intro i n w hi hn hw
    obtain ⟨n, rfl⟩ := Nat.exists_eq_succ_of_ne_zero (Nat.ne_of_gt (Nat.lt_of_le_of_lt (Nat.zero_le _) hn))
    have hlt : ¬ nI nh ≤ nI i := nI_ge (by omega) (by omega)
    obtain ⟨b1, b2, -, b4, ⟨a, ha, ea⟩, ⟨b, hb, eb⟩, -, -⟩ := g.h i (by omega)
    have ca : (M 55 i 0).toNatClampNeg = a := by rw [ea, nI_clamp (by omega)]
    have cb : (M 56 i 0).toNatClampNeg = b := by rw [eb, nI_clamp (by omega)]
    have va := h.v a ha
    have vb := h.v b hb
    have hyes : (w = 1 ∨ tch M p t i) → ∃ z, fX6_isFrozenOf_5 F n M p t 1 (nI (i + 1)) = some (M, z) ∧ ((z = 1 ∧ (w = 1 ∨ ∃ k, i ≤ k ∧ k < nh ∧ tch M p t k)) ∨ (z = 0 ∧ w = 0 ∧ ¬ ∃ k, i ≤ k ∧ k < nh ∧ tch M p t k)) := fun hy => by
      obtain ⟨z, z1, z2⟩ := ih (i + 1) n 1 (by omega) (by omega) (Or.inr rfl)
      refine ⟨z, z1, ?_⟩
      rcases z2 with ⟨e, -⟩ | ⟨-, e, -⟩
      · refine Or.inl ⟨e, ?_⟩
        rcases hy with hy | hy
        · exact Or.inl hy
        · exact Or.inr ⟨i, Nat.le_refl _, by omega, hy⟩
      · exact absurd e (by decide)
    have hno : w = 0 → ¬ tch M p t i → ∃ z, fX6_isFrozenOf_5 F n M p t 0 (nI (i + 1)) = some (M, z) ∧ ((z = 1 ∧ (w = 1 ∨ ∃ k, i ≤ k ∧ k < nh ∧ tch M p t k)) ∨ (z = 0 ∧ w = 0 ∧ ¬ ∃ k, i ≤ k ∧ k < nh ∧ tch M p t k)) := fun hw0 hn => by
      obtain ⟨z, z1, z2⟩ := ih (i + 1) n 0 (by omega) (by omega) (Or.inl rfl)
      refine ⟨z, z1, ?_⟩
      rcases z2 with ⟨e, e2 | ⟨k, k1, k2, k3⟩⟩ | ⟨e, -, k3⟩
      · exact absurd e2 (by decide)
      · exact Or.inl ⟨e, Or.inr ⟨k, by omega, k2, k3⟩⟩
      · refine Or.inr ⟨e, hw0, fun ⟨k, k1, k2, k4⟩ => ?_⟩
        by_cases hk : k = i
        · subst hk
          exact hn k4
        · exact k3 ⟨k, by omega, k2, k4⟩
    unfold fX6_isFrozenOf_5
    rw [g.b, if_neg hlt, q_ax_n (show i < 40 by omega)]
    unfold fX6_isFrozenOf_50 fX6_isFrozenOf_51 fX6_isFrozenOf_89 fX6_isFrozenOf_90 fX6_isFrozenOf_117 fX6_isFrozenOf_121 fX6_isFrozenOf_122
    simp only [q_lt_e, nI_1, q_ax_n (show i < 40 by omega), ← b1, ← b2, ← b4, ea, eb, q_ax_n (show a < 60 by omega), q_ax_n (show b < 60 by omega), ← va.p.1, ← va.t.1, ← vb.p.1, ← vb.t.1, z10, z00, if_true]
    rcases hw with rfl | rfl
    · simp only [z00]
      by_cases ho : M 58 i 0 = -1
      · have hy := fun (h9 : (M 10 a 0 = p ∧ M 11 a 0 = t) ∨ (M 10 b 0 = p ∧ M 11 b 0 = t)) => hyes (Or.inr ⟨ho, by rw [ca, cb]; exact h9⟩)
        have hN := fun (h9 : ¬ ((M 10 a 0 = p ∧ M 11 a 0 = t) ∨ (M 10 b 0 = p ∧ M 11 b 0 = t))) => hno rfl (fun h8 => h9 (by have := h8.2; rw [ca, cb] at this; exact this))
        by_cases x1 : M 10 a 0 = p <;> by_cases x2 : M 11 a 0 = t <;> by_cases x3 : M 10 b 0 = p <;> by_cases x4 : M 11 b 0 = t <;> simp only [ho, x1, x2, x3, x4, if_true, if_false, z10, z00] <;> first | simpa using hy (Or.inl ⟨x1, x2⟩) | simpa using hy (Or.inr ⟨x3, x4⟩) | simpa using hN (by simp [x1, x2, x3, x4])
      · simp only [if_neg ho, ite_self]
        simpa using hno rfl (fun h9 => ho h9.1)
    · simp only [z10, ite_self]
      simpa using hyes (Or.inl rfl)
theorem e_fz {F nc np nt nw ns nv nhd nh : Nat} {M M' : Mem} {p t : Int32} (hF : 10000 ≤ F) (h : InvN M nc np nt nw ns nv nhd nh) (h' : ∀ v, v ≠ 69 → M' v = M v) : ∃ z, (z = 0 ∨ z = 1) ∧ fX5_hasOpenHit F M p t = some (M, z) ∧ fX6_isFrozenOf F M' p t = some (M', z) := by
  have h60 := h.ver.le
  have h40 := h.hts.le
  obtain ⟨z, z1, z2⟩ := e_open (F := F) (p := p) (t := t) h.ver h.hts nh 0 F (by omega) (by omega)
  have g1 : Ver M' np nt nw nv nhd := Ver_of h.ver (fun v hv => h' v (by simp at hv; omega)) (fun v hv j _ => by rw [h' v (by simp [vvC] at hv; omega)]) (fun v hv => by rw [h' v (by simp [vvM] at hv; omega)])
  have g2 : Hts M' nv nh := Hts_of h.hts (fun v hv => h' v (by simp at hv; omega))
  obtain ⟨w, w1, w2⟩ := e_frozen (F := F) (p := p) (t := t) g1 g2 nh 0 F 0 (by omega) (by omega) (Or.inl rfl)
  have e : ∀ k, tch M' p t k ↔ tch M p t k := fun k => by
    unfold tch
    rw [h' 58 (by decide), h' 10 (by decide), h' 11 (by decide), h' 55 (by decide), h' 56 (by decide)]
  have hzw : z = w ∧ (z = 0 ∨ z = 1) := by
    rcases z2 with ⟨rfl, k, k1, k2, k3⟩ | ⟨rfl, k3⟩
    · rcases w2 with ⟨rfl, -⟩ | ⟨-, -, q⟩
      · exact ⟨rfl, Or.inr rfl⟩
      · exact absurd ⟨k, k1, k2, (e k).mpr k3⟩ q
    · rcases w2 with ⟨-, q | ⟨k, k1, k2, q⟩⟩ | ⟨rfl, -⟩
      · exact absurd q (by decide)
      · exact absurd ⟨k, k1, k2, (e k).mp q⟩ k3
      · exact ⟨rfl, Or.inl rfl⟩
  exact ⟨z, hzw.2, z1, by rw [hzw.1]; exact w1⟩
theorem k22 {F : Nat} {M : Mem} {x : XX} {s1 s2 s3 s4 s5 : Int32} (hF : 10000 ≤ F) (hi : Inv M) : ∃ r, fL_case22 F M x s1 s2 s3 s4 s5 = some r ∧ Inv r.1 := by
  obtain ⟨nc, np, nt, nw, ns, nv, nhd, nh, h⟩ := id hi
  have h10 := h.tsk.le
  have h12 := h.pup.le
  by_cases hp : isN np s1
  · by_cases ht : isN nt s2
    · obtain ⟨z, hz, z1, z2⟩ := e_fz (M' := up M 69 0 0 0) (p := s1) (t := s2) hF h (fun v hv => up_o hv)
      have hC : fX5_isFrozen F M s1 s2 = some (M, Sum.inl z) := by
        unfold fX5_isFrozen
        rw [e_needPupil h.pup.a hp, q_bx_inl, e_needTask h.tsk.a ht, q_bx_inl, z1, q_bn_p]
        rcases hz with rfl | rfl <;> rfl
      have hM : fX6_isFrozen F M s1 s2 = some (up M 69 0 0 0, z) := by
        unfold fX6_isFrozen fX6_isFrozen_22
        rw [e_isPupil h.pup.b (by omega) hp, q_bn_p, if_neg (show ¬ (1 : Int32) = 0 by decide), e_isTask h.tsk.b (by omega) ht, q_bn_p, if_neg (show ¬ (1 : Int32) = 0 by decide), q_lt_e, if_pos (up_s), z2, q_bn_p]
        rcases hz with rfl | rfl <;> rfl
      rcases hz with rfl | rfl
      · exact ⟨_, caseC (m := fun M => fX6_isFrozen F M s1 s2) (by unfold fL_isFrozen; rw [hC]; rfl) hM rfl (fun _ => rfl), inv_69 hi rfl⟩
      · exact ⟨_, caseC (m := fun M => fX6_isFrozen F M s1 s2) (by unfold fL_isFrozen; rw [hC]; rfl) hM rfl (fun _ => rfl), inv_69 hi rfl⟩
    · have hC : fX5_isFrozen F M s1 s2 = some (M, Sum.inr 3) := by
        unfold fX5_isFrozen
        rw [e_needPupil h.pup.a hp, q_bx_inl, e_needTaskX h.tsk.a ht, q_bx_inr]
      have hM : fX6_isFrozen F M s1 s2 = some (up M 69 0 0 1, 0) := by
        unfold fX6_isFrozen fX6_isFrozen_21 fX6_isFrozen_22
        rw [e_isPupil h.pup.b (by omega) hp, q_bn_p, if_neg (show ¬ (1 : Int32) = 0 by decide), e_isTaskX h.tsk.b (by omega) ht, q_bn_p, if_pos rfl, q_lt_e, if_neg (show ¬ up M 69 0 0 1 69 0 0 = 0 by rw [up_s]; decide)]
        rfl
      exact ⟨_, caseC (m := fun M => fX6_isFrozen F M s1 s2) (by unfold fL_isFrozen; rw [hC]; rfl) hM rfl (fun h => by cases h), inv_69 hi rfl⟩
  · have hC : fX5_isFrozen F M s1 s2 = some (M, Sum.inr 3) := by
      unfold fX5_isFrozen
      rw [e_needPupilX h.pup.a hp, q_bx_inr]
    have hM : fX6_isFrozen F M s1 s2 = some (up M 69 0 0 1, 0) := by
      unfold fX6_isFrozen fX6_isFrozen_21 fX6_isFrozen_22
      rw [e_isPupilX h.pup.b (by omega) hp, q_bn_p, if_pos rfl, q_lt_e, if_neg (show ¬ up M 69 0 0 1 69 0 0 = 0 by rw [up_s]; decide)]
      rfl
    exact ⟨_, caseC (m := fun M => fX6_isFrozen F M s1 s2) (by unfold fL_isFrozen; rw [hC]; rfl) hM rfl (fun h => by cases h), inv_69 hi rfl⟩
