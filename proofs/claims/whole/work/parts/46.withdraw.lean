/-! withdrawing -/
theorem e_find2 {F nv : Nat} {M M' : Mem} {p t : Int32} (h60 : nv ≤ 60) (ga : M 4 0 0 = nI nv) (gb : M' 64 0 0 = nI nv) (hV : ∀ i, i < nv → fX4_isThere F M i = some (M, if M' 38 0 i = 1 then 1 else 0) ∧ M 10 i 0 = M' 33 0 i ∧ M 11 i 0 = M' 34 0 i ∧ (M' 38 0 i = 1 → ∃ q, q < 60 ∧ M 15 i 0 = nI q ∧ M' 40 0 i = nI (q + 1))) : ∀ (d i n n' : Nat) (b m : Int32), i + d = nv → d < n → d < n' → (b = -1 ∧ m = -1 ∨ ∃ q, q < nv ∧ b = nI q ∧ m = M 15 q 0 ∧ M' 38 0 q = 1) → ∃ y, fX5_findCounting_8 F n M p t b m (nI i) = some (M, y) ∧ fX6_countingOf_5 F n' M' p t b (nI i) = some (M', y) := by
  intro d
  induction d with
  | zero =>
    intro i n n' b m hi hn hn' hb
    obtain ⟨n, rfl⟩ := Nat.exists_eq_succ_of_ne_zero (Nat.ne_of_gt hn)
    obtain ⟨n', rfl⟩ := Nat.exists_eq_succ_of_ne_zero (Nat.ne_of_gt hn')
    have hle : nI nv ≤ nI i := nI_le (by omega) (by omega)
    unfold fX5_findCounting_8 fX6_countingOf_5
    rw [ga, gb, if_pos hle, if_pos hle]
    exact ⟨b, rfl, rfl⟩
  | succ d ih =>
    intro i n n' b m hi hn hn' hb
    obtain ⟨n, rfl⟩ := Nat.exists_eq_succ_of_ne_zero (Nat.ne_of_gt (Nat.lt_of_le_of_lt (Nat.zero_le _) hn))
    obtain ⟨n', rfl⟩ := Nat.exists_eq_succ_of_ne_zero (Nat.ne_of_gt (Nat.lt_of_le_of_lt (Nat.zero_le _) hn'))
    have hlt : ¬ nI nv ≤ nI i := nI_ge (by omega) (by omega)
    obtain ⟨v1, v2, v3, v4⟩ := hV i (by omega)
    unfold fX5_findCounting_8 fX6_countingOf_5
    rw [ga, gb, if_neg hlt, if_neg hlt, q_ax_n (show i < 60 by omega), q_ax_n (show i < 60 by omega), q_isOf, q_bn_p]
    unfold fX5_findCounting_64 fX6_countingOf_51 fX6_countingOf_52 fX6_countingOf_80 fX6_countingOf_85 fX6_countingOf_86
    simp only [q_lt_e, nI_1, q_ax_n (show i < 60 by omega), v1, q_bn_p, ← v2, ← v3]
    by_cases hin : M' 38 0 i = 1
    · by_cases hp : M 10 i 0 = p
      · by_cases ht : M 11 i 0 = t
        · simp only [if_pos (And.intro hp ht), if_pos hin, if_pos hp, if_pos ht, z10]
          obtain ⟨ti, hti, e1, e2⟩ := v4 hin
          rcases hb with ⟨rfl, rfl⟩ | ⟨q, hq, rfl, rfl, hq3⟩
          · have h9 : ¬ M 15 i 0 ≤ -1 := by
              rw [e1, i32_le, Decidable.not_not]
              exact Int32.lt_of_lt_of_le (show (-1 : Int32) < 0 by decide) (nI_pos' (by omega))
            rw [if_neg h9, if_pos rfl]
            exact ih (i + 1) n n' _ _ (by omega) (by omega) (by omega) (Or.inr ⟨i, by omega, rfl, rfl, hin⟩)
          · obtain ⟨tq, htq, f1, f2⟩ := (hV q hq).2.2.2 hq3
            rw [if_neg (nI_nm1 (by omega)), q_ax_n (show q < 60 by omega), e1, f1, e2, f2]
            by_cases h9 : ti ≤ tq
            · rw [if_pos (nI_le h9 (by omega)), if_pos (nI_le (by omega) (by omega))]
              exact ih (i + 1) n n' _ _ (by omega) (by omega) (by omega) (Or.inr ⟨q, hq, rfl, f1.symm, hq3⟩)
            · rw [if_neg (nI_ge (by omega) (by omega)), if_neg (nI_ge (by omega) (by omega))]
              exact ih (i + 1) n n' _ _ (by omega) (by omega) (by omega) (Or.inr ⟨i, by omega, rfl, e1.symm, hin⟩)
        · simp only [if_neg (show ¬ (M 10 i 0 = p ∧ M 11 i 0 = t) from fun h => ht h.2), if_pos hin, if_pos hp, if_neg ht, z00, if_true]
          exact ih (i + 1) n n' _ _ (by omega) (by omega) (by omega) hb
      · simp only [if_neg (show ¬ (M 10 i 0 = p ∧ M 11 i 0 = t) from fun h => hp h.1), if_pos hin, if_neg hp, z00, if_true]
        exact ih (i + 1) n n' _ _ (by omega) (by omega) (by omega) hb
    · simp only [if_neg hin, z00, if_true]
      have e : ∀ (X : Option (Mem × Int32)), (if (if M 10 i 0 = p ∧ M 11 i 0 = t then (1 : Int32) else 0) = 0 then X else X) = X := fun X => by
        by_cases hp : M 10 i 0 = p ∧ M 11 i 0 = t <;> simp [hp]
      rw [e]
      exact ih (i + 1) n n' _ _ (by omega) (by omega) (by omega) hb
theorem Ver1_st {M M' : Mem} {np nt nw nhd nhd' i : Nat} (h : Ver1 M np nt nw nhd i) (e : ∀ v ∈ [10, 11, 12, 13, 17, 8, 22, 9, 23, 24], M' v i = M v i) (e' : ∀ v ∈ [33, 34, 35, 36, 41, 37, 42, 44, 43], M' v 0 = M v 0) (hnd : M' 14 i 0 = M' 39 0 i) (st : (M' 14 i 0 = -1 ∧ M' 15 i 0 = -1 ∧ M' 16 i 0 = 0 ∧ M' 38 0 i = 0) ∨ ((∃ q, q ≤ nw ∧ M' 14 i 0 = nI q) ∧ (∃ q, q < nhd' ∧ M' 15 i 0 = nI q ∧ M' 40 0 i = nI (q + 1)) ∧ ((M' 16 i 0 = 0 ∧ M' 38 0 i = 1) ∨ (M' 16 i 0 = 1 ∧ M' 38 0 i = 2)))) : Ver1 M' np nt nw nhd' i := by
  obtain ⟨p, t, par, sav, -, -, told, size⟩ := h
  have a1 := e 10 (by simp); have a2 := e 11 (by simp); have a3 := e 12 (by simp); have a4 := e 13 (by simp); have a8 := e 17 (by simp); have a9 := e 8 (by simp); have a10 := e 22 (by simp); have a11 := e 9 (by simp); have a12 := e 23 (by simp); have a13 := e 24 (by simp)
  have b1 := e' 33 (by simp); have b2 := e' 34 (by simp); have b3 := e' 35 (by simp); have b4 := e' 36 (by simp); have b8 := e' 41 (by simp); have b9 := e' 37 (by simp); have b10 := e' 42 (by simp); have b11 := e' 44 (by simp); have b12 := e' 43 (by simp)
  refine ⟨by rw [a1, b1]; exact p, by rw [a2, b2]; exact t, by rw [a3, b3]; exact par, by rw [a4, b4]; exact sav, hnd, st, by rw [a8, b8]; exact told, ?_⟩
  unfold BagIs at size ⊢
  simp only [a9, a10, a11, a12, a13, b9, b10, b11, b12]
  exact size
theorem i_add {a b : Int32} (h1 : -1000000000 ≤ a.toInt) (h2 : a.toInt ≤ 1000000000) (h3 : -1000000000 ≤ b.toInt) (h4 : b.toInt ≤ 1000000000) : (a + b).toInt = a.toInt + b.toInt := by
  rw [Int32.toInt_add]
  exact Int.bmod_eq_of_le (by omega) (by omega)
theorem i_sub {a b : Int32} (h1 : -1000000000 ≤ a.toInt) (h2 : a.toInt ≤ 1000000000) (h3 : -1000000000 ≤ b.toInt) (h4 : b.toInt ≤ 1000000000) : (a - b).toInt = a.toInt - b.toInt := by
  rw [Int32.toInt_sub]
  exact Int.bmod_eq_of_le (by omega) (by omega)
/-- is a task due: on both sides -/
theorem e_due {F nc nt nw t : Nat} {M : Mem} (hc : Cls M nc) (hk : Tsk M nc nt) (hw : Clk M nw) (ht : t < nt) : ∃ y c r, r < 4 ∧ M 27 0 t = nI r ∧ fX5_minutesBehindDue F M (nI t) (M 3 0 0) = some (M, y) ∧ c = nI nw + M 25 0 r ∧ (y ≤ 0 ↔ c ≤ M 28 0 t) := by
  have h10 := hk.le
  have h4 := hc.le
  have hw9 := hw.le
  obtain ⟨t1, t2, -, -, -⟩ := hk.t t ht
  obtain ⟨⟨r, hr, e3⟩, ⟨d, hd, e4⟩, -⟩ := hk.rg t ht
  obtain ⟨o1, o2, o3⟩ := hc.off r hr
  refine ⟨if (0 : Int32) < nI nw + M 20 0 r - M 51 t 0 then nI nw + M 20 0 r - M 51 t 0 else 0, nI nw + M 25 0 r, r, by omega, by rw [← t1, e3], ?_, rfl, ?_⟩
  · unfold fX5_minutesBehindDue
    rw [q_ax_n (show t < 10 by omega), e3, q_ax_n (show r < 4 by omega), hw.a]
  · rw [← o1, ← t2, e4]
    have n1 : (nI nw).toInt = nw := nI_toInt (by omega)
    have n2 : (nI d).toInt = d := nI_toInt (by omega)
    have s1 : (nI nw + M 20 0 r).toInt = nw + (M 20 0 r).toInt := by rw [i_add (by omega) (by omega) (by omega) (by omega), n1]
    have s2 : (nI nw + M 20 0 r - nI d).toInt = nw + (M 20 0 r).toInt - d := by rw [i_sub (by omega) (by omega) (by omega) (by omega), s1, n2]
    have z : (0 : Int32).toInt = 0 := rfl
    rw [Int32.le_iff_toInt_le (x := nI nw + M 20 0 r), s1, n2]
    by_cases g : (0 : Int32) < nI nw + M 20 0 r - nI d
    · rw [if_pos g, Int32.le_iff_toInt_le, s2, z]
      omega
    · rw [if_neg g]
      rw [Int32.lt_iff_toInt_lt, s2, z] at g
      constructor
      · intro _
        omega
      · intro _
        exact Int32.le_refl _
/-- one version's share is taken out -/
theorem vcount_drop {M M' : Mem} {nv q : Nat} (hq : q < nv) (hin : M 38 0 q = 1) (h0 : ¬ M' 38 0 q = 1) (e : ∀ i, i < nv → i ≠ q → M' 38 0 i = M 38 0 i) (e' : ∀ i, i < nv → M' 22 i = M 22 i ∧ M' 8 i = M 8 i) : vcount M' nv = fun x => vcount M nv x - hv (wcount (M 22 q) (M 8 q 0).toNatClampNeg) x := by
  funext x
  have g : vcount M nv x = vcount M' nv x + hv (wcount (M 22 q) (M 8 q 0).toNatClampNeg) x := by
    rw [vcount_sm, vcount_sm]
    have s1 : hv (wcount (M 22 q) (M 8 q 0).toNatClampNeg) x = sm nv (fun i => if i = q then hv (wcount (M 22 q) (M 8 q 0).toNatClampNeg) x else 0) := by rw [sm_at, if_pos hq]
    rw [s1, ← sm_add]
    refine sm_congr fun i hi => ?_
    unfold hd
    by_cases k : i = q
    · rw [if_pos k, k, if_pos hin, if_neg h0, Nat.zero_add]
    · rw [if_neg k, e i hi k, (e' i hi).1, (e' i hi).2, Nat.add_zero]
  omega
theorem vcount_le {M : Mem} {n : Nat} {x : Int32} : vcount M n x ≤ n := by
  unfold vcount
  have := List.length_filter_le (fun i => decide (M 38 0 i = 1) && decide (0 < wcount (M 22 i) (M 8 i 0).toNatClampNeg x)) (List.range n)
  rw [List.length_range] at this
  exact this
theorem e_withdraw {F nc np nt nw ns nv nhd nh q : Nat} {M : Mem} (hF : 10000 ≤ F) (h : InvN M nc np nt nw ns nv nhd nh) (hq : q < nv) (hin : M 38 0 q = 1) (hdue : ∀ y, fX5_minutesBehindDue F M (M 11 q 0) (M 3 0 0) = some (M, y) → y ≤ 0) (hdue' : ∀ r, r < 4 → M 27 0 (M 34 0 q).toNatClampNeg = nI r → nI nw + M 25 0 r ≤ M 28 0 (M 34 0 q).toNatClampNeg) : ∃ (M2 M3 : Mem) (y : Int32), (y = 0 ∨ y = 1) ∧ fX5_withdraw F M (nI q) = some (M2, Sum.inl y) ∧ fX6_withdraw F M2 (nI q) = some (M3, y) ∧ M3 69 0 0 = 0 ∧ Inv M3 := by
  have h60 := h.ver.le
  have h10 := h.tsk.le
  have hv1 := h.ver.v q hq
  obtain ⟨e1, t, ht, e2⟩ := hv1.t
  obtain ⟨u, hu, hB, g1, g2⟩ := ver_bag h.ver hq
  obtain ⟨w, hW⟩ := h.idx.i
  have hb60 := bl60
  have hbq := bl_v (a := q) (by omega)
  have hst : M 14 q 0 ≠ -1 ∧ M 16 q 0 = 0 := by
    rcases hv1.st with ⟨-, -, -, s⟩ | ⟨⟨k, hk, s1⟩, -, s | s⟩
    · rw [hin] at s
      exact absurd s (by decide)
    · refine ⟨?_, s.1⟩
      rw [s1]
      have := h.clk.le
      exact nI_nm1 (by omega)
    · rw [s.2] at hin
      exact absurd hin (by decide)
  obtain ⟨M1, hM1⟩ : ∃ M1 : Mem, M1 = up M 16 q 0 1 := ⟨_, rfl⟩
  have m1 : ∀ v, v ≠ 16 → M1 v = M v := fun v hv => by rw [hM1, up_o hv]
  have hW1 : BagIs M1 60 w (fun x => vcount M nv x - sm 0 (fun l => if x = M1 23 q l then 1 else 0)) := by
    have e0 : (fun x => vcount M nv x - sm 0 (fun l => if x = M1 23 q l then 1 else 0)) = vcount M nv := by
      funext x
      exact Nat.sub_zero _
    rw [e0]
    exact BagIs_of hW (fun v hv => by rw [m1 v (by simp at hv; omega)])
  have hB1 : BagIs M1 q u (wcount (M 22 q) (M 8 q 0).toNatClampNeg) := BagIs_of hB (fun v hv => by rw [m1 v (by simp at hv; omega)])
  obtain ⟨M2, w2, d1, d2, d3, d4⟩ := e_drops (F := F) (m0 := vcount M nv) hF (show q ≠ 60 by omega) (by omega) (by omega) hB1 (fun l hl => ⟨hv_of_mem hq hin (hB1.cnt l hl).2, by have := vcount_le (M := M) (n := nv) (x := M1 23 q l); omega⟩) u 0 F w M1 (by omega) (by omega) rfl rfl hW1
  obtain ⟨M3, hM3⟩ : ∃ M3 : Mem, M3 = up (up M2 69 0 0 0) 38 0 q 2 := ⟨_, rfl⟩
  have m2 : ∀ v, v ∉ [16, 9, 24, 23] → M2 v = M v := fun v hv => by
    simp only [List.mem_cons, List.not_mem_nil, or_false, not_or] at hv
    rw [d3 v (by simp [hv]), m1 v hv.1]
  have m2j : ∀ v j, v ≠ 16 → j ≠ 60 → M2 v j = M v j := fun v j hv hj => by rw [d4 v j hj, m1 v hv]
  have m3 : ∀ v, v ∉ [38, 69, 16, 9, 24, 23] → M3 v = M v := fun v hv => by
    simp only [List.mem_cons, List.not_mem_nil, or_false, not_or] at hv
    rw [hM3, up_o hv.1, up_o hv.2.1, m2 v (by simp [hv])]
  have m3j : ∀ v j, v ≠ 38 → v ≠ 69 → M3 v j = M2 v j := fun v j h1 h2 => by rw [hM3, up_o h1, up_o h2]
  have m16 : ∀ i, M3 16 i 0 = if i = q then 1 else M 16 i 0 := fun i => by
    rw [m3j 16 i (by decide) (by decide), d3 16 (by decide), hM1]
    simp [up_e]
  have m38 : ∀ i, M3 38 0 i = if i = q then 2 else M 38 0 i := fun i => by
    rw [hM3]
    by_cases k : i = q
    · rw [k, up_s, if_pos rfl]
    · rw [up_i k, if_neg k, up_o (by decide), m2 38 (by decide)]
  have hV1 : ∀ i, i < nv → Ver1 M3 np nt nw nhd i := fun i hi => by
    refine Ver1_st (h.ver.v i hi) (fun v hv => ?_) (fun v hv => by rw [m3 v (by simp at hv ⊢; omega)]) (by rw [m3 14 (by decide), m3 39 (by decide)]; exact (h.ver.v i hi).hnd) ?_
    · have : v ≠ 16 ∧ v ≠ 38 ∧ v ≠ 69 := by simp at hv; omega
      rw [m3j v i this.2.1 this.2.2, m2j v i this.1 (by omega)]
    · rw [m3 14 (by decide), m3 15 (by decide), m3 40 (by decide), m16, m38]
      by_cases k : i = q
      · rw [if_pos k, if_pos k]
        rcases (h.ver.v i hi).st with ⟨s, -, -, -⟩ | ⟨s1, s2, -⟩
        · rw [k] at s
          exact absurd s hst.1
        · exact Or.inr ⟨s1, s2, Or.inr ⟨rfl, rfl⟩⟩
      · rw [if_neg k, if_neg k]
        exact (h.ver.v i hi).st
  have hInv : Inv M3 := by
    refine ⟨nc, np, nt, nw, ns, nv, nhd, nh, Cls_of h.cls (fr m3 (by decide)), Pup_of h.pup (fr m3 (by decide)), Tsk_of h.tsk (fr m3 (by decide)), Clk_of h.clk (fr m3 (by decide)), Txt_fr h.txt m3 (by decide), ⟨by rw [m3 4 (by decide)]; exact h.ver.a, by rw [m3 64 (by decide)]; exact h.ver.b, h60, by rw [m3 5 (by decide), m3 67 (by decide), m3 14 (by decide)]; exact h.ver.h, hV1, fun i hin h6 => ?_⟩, Hts_of h.hts (fr m3 (by decide)), Lst_of h.lst (fr m3 (by decide)), ⟨w2, ?_⟩⟩
    · rw [m3 14 (by decide), m3 15 (by decide), m16, m3 17 (by decide), m38, m3 41 (by decide), if_neg (by omega), if_neg (by omega)]
      exact h.ver.new i hin h6
    · rw [vcount_drop hq hin (by rw [m38, if_pos rfl]; decide) (fun i _ k => by rw [m38, if_neg k]) (fun i _ => ⟨by rw [m3 22 (by decide)], by rw [m3 8 (by decide)]⟩)]
      exact BagIs_of d2 (fun v hv => m3j v 60 (by simp at hv; omega) (by simp at hv; omega))
  have hthere : ∀ i, i < nv → fX4_isThere F M2 i = some (M2, if M3 38 0 i = 1 then 1 else 0) := fun i hi => by
    have a := e_isThere (F := F) (hV1 i hi) h.clk.le
    unfold fX4_isThere at a ⊢
    rw [m3j 14 i (by decide) (by decide), m3j 16 i (by decide) (by decide)] at a
    unfold fX4_isThere_19 fX4_isThere_20 at a ⊢
    generalize (if M3 38 0 i = 1 then (1 : Int32) else 0) = z at a ⊢
    have hz : q_isZ 0 = true ∧ q_isZ 1 = true := ⟨rfl, rfl⟩
    rw [q_gd_t hz.1, q_gd_t hz.2] at a ⊢
    by_cases x1 : M2 14 i 0 = -1
    · rw [if_pos x1] at a ⊢
      cases a
      rfl
    · rw [if_neg x1] at a ⊢
      by_cases x2 : M2 16 i 0 = 0
      · rw [if_pos x2] at a ⊢
        cases a
        rfl
      · rw [if_neg x2] at a ⊢
        cases a
        rfl
  obtain ⟨y, y1, y2⟩ := e_find2 (F := F) (M := M2) (M' := M3) (p := M 10 q 0) (t := M 11 q 0) h60 (by rw [m2 4 (by decide)]; exact h.ver.a) (by rw [m3 64 (by decide)]; exact h.ver.b) (fun i hi => ⟨hthere i hi, by rw [m2 10 (by decide), m3 33 (by decide)]; exact (h.ver.v i hi).p.1, by rw [m2 11 (by decide), m3 34 (by decide)]; exact (h.ver.v i hi).t.1, fun h9 => by
    obtain ⟨k, hk, k1, k2⟩ := in_turn (hV1 i hi) h9
    have := nhd_le h.ver
    exact ⟨k, by omega, by rw [m2 15 (by decide), ← m3 15 (by decide)]; exact k1, k2⟩⟩) nv 0 F F (-1) (-1) (by omega) (by omega) (by omega) (Or.inl ⟨rfl, rfl⟩)
  have y1 : fX5_findCounting F M2 (M 10 q 0) (M 11 q 0) = some (M2, y) := y1
  have y2 : fX6_countingOf F M3 (M 10 q 0) (M 11 q 0) = some (M3, y) := y2
  obtain ⟨z, c, r, r4, r1, r2, r3, -⟩ := e_due (F := F) h.cls h.tsk h.clk ht
  have hz : z ≤ 0 := hdue z (by rw [e2]; exact r2)
  have hM34 : M 34 0 q = nI t := by rw [← e1]; exact e2
  have hc := hdue' r r4 (by rw [hM34, nI_clamp (by omega)]; exact r1)
  rw [hM34, nI_clamp (by omega)] at hc
  refine ⟨M2, M3, if y = -1 then 0 else 1, by by_cases k : y = -1 <;> simp [k], ?_, ?_, by rw [hM3, up_o (by decide), up_s], hInv⟩
  · unfold fX5_withdraw
    rw [e_needVersion h.ver.a (isN_nI (by omega) hq), q_bx_inl, q_ax_n (show q < 60 by omega), e_isThere hv1 h.clk.le, q_bn_p, if_pos hin, z10, e2, r2, q_bn_p, if_pos hz, q_lt_e, ← hM1, show fX0_dropKeysOf F M1 60 q = some (M2, ()) from d1, q_bn_p, m2 10 (by decide), m2 11 (by decide), y1, q_bn_p]
    by_cases k : y = -1
    · rw [if_pos k, if_pos k]
      rfl
    · rw [if_neg k, if_neg k]
      rfl
  · have b34 : M2 34 0 q = nI t := by rw [m2 34 (by decide)]; exact hM34
    unfold fX6_withdraw fX6_clockOf
    rw [e_isVersion (show M2 64 0 0 = nI nv by rw [m2 64 (by decide)]; exact h.ver.b) (by omega) (isN_nI (by omega) hq), q_bn_p, z10, q_ax_n (show q < 60 by omega), if_pos (show M2 38 0 q = 1 by rw [m2 38 (by decide)]; exact hin), q_ax_n (show q < 60 by omega), b34, q_ax_n (show t < 10 by omega), show M2 27 0 t = nI r by rw [m2 27 (by decide)]; exact r1, q_ax_n r4, q_bn_p, q_ax_n (show q < 60 by omega), b34, q_ax_n (show t < 10 by omega), show M2 60 0 0 = nI nw by rw [m2 60 (by decide)]; exact h.clk.b, m2 25 (by decide), m2 28 (by decide), if_pos hc]
    unfold fX6_withdraw_52
    rw [q_lt_e, if_pos (show up M2 69 0 0 0 69 0 0 ≤ 0 by rw [up_s]; decide), q_ax_n (show q < 60 by omega), q_lt_e, ← hM3, q_ax_n (show q < 60 by omega), q_ax_n (show q < 60 by omega), m3 33 (by decide), m3 34 (by decide), ← hv1.p.1, ← e1, y2, q_bn_p]
    by_cases k : y = -1
    · rw [if_pos k, if_pos k]
      rfl
    · rw [if_neg k, if_neg k]
      rfl
theorem k15 {F : Nat} {M : Mem} {x : XX} {s1 s2 s3 s4 s5 : Int32} (hF : 10000 ≤ F) (hi : Inv M) : ∃ r, fL_case15 F M x s1 s2 s3 s4 s5 = some r ∧ Inv r.1 := by
  obtain ⟨nc, np, nt, nw, ns, nv, nhd, nh, h⟩ := id hi
  have h60 := h.ver.le
  have h10 := h.tsk.le
  by_cases hr : isN nv s1
  · obtain ⟨q, hq, eq⟩ := isN_of (by omega) hr
    have hv1 := h.ver.v q hq
    obtain ⟨e1, t, ht, e2⟩ := hv1.t
    have hM34 : M 34 0 q = nI t := by rw [← e1]; exact e2
    by_cases hin : M 38 0 q = 1
    · obtain ⟨z, c, r, r4, r1, r2, r3, r5⟩ := e_due (F := F) h.cls h.tsk h.clk ht
      by_cases hz : z ≤ 0
      · obtain ⟨M2, M3, y, hy, hC, hM, h69, hI⟩ := e_withdraw hF h hq hin (fun y hy => by
          rw [e2, r2] at hy
          cases hy
          exact hz) (fun r' hr' er => by
          rw [hM34, nI_clamp (by omega)] at er ⊢
          rw [r1] at er
          have := nI_inj (by omega) (by omega) er
          subst this
          rw [← r3]
          exact r5.mp hz)
        rw [← eq] at hC hM
        rcases hy with rfl | rfl
        · exact ⟨_, caseC (m := fun M => fX6_withdraw F M s1) (by unfold fL_withdraw; rw [hC]; rfl) hM h69 (fun _ => rfl), hI⟩
        · exact ⟨_, caseC (m := fun M => fX6_withdraw F M s1) (by unfold fL_withdraw; rw [hC]; rfl) hM h69 (fun _ => rfl), hI⟩
      · have hC : fX5_withdraw F M s1 = some (M, Sum.inr 5) := by
          unfold fX5_withdraw
          rw [e_needVersion h.ver.a hr, q_bx_inl, eq, q_ax_n (show q < 60 by omega), e_isThere hv1 h.clk.le, q_bn_p, if_pos hin, z10, e2, r2, q_bn_p, if_neg hz]
        have hM : fX6_withdraw F M s1 = some (up M 69 0 0 2, 0) := by
          unfold fX6_withdraw fX6_clockOf fX6_withdraw_47 fX6_withdraw_52
          rw [e_isVersion h.ver.b (by omega) hr, q_bn_p, z10, eq, q_ax_n (show q < 60 by omega), if_pos hin, q_ax_n (show q < 60 by omega), hM34, q_ax_n (show t < 10 by omega), r1, q_ax_n r4, q_bn_p, q_ax_n (show q < 60 by omega), hM34, q_ax_n (show t < 10 by omega), h.clk.b, if_neg (by rw [← r3]; exact fun h9 => hz (r5.mpr h9)), q_lt_e, if_neg (show ¬ up M 69 0 0 2 69 0 0 ≤ 0 by rw [up_s]; decide)]
        exact ⟨_, caseC (m := fun M => fX6_withdraw F M s1) (by unfold fL_withdraw; rw [hC]; rfl) hM rfl (fun h => by cases h), inv_69 hi rfl⟩
    · have hC : fX5_withdraw F M s1 = some (M, Sum.inr 5) := by
        unfold fX5_withdraw
        rw [e_needVersion h.ver.a hr, q_bx_inl, eq, q_ax_n (show q < 60 by omega), e_isThere hv1 h.clk.le, q_bn_p, if_neg hin, z00]
      have hM : fX6_withdraw F M s1 = some (up M 69 0 0 2, 0) := by
        unfold fX6_withdraw fX6_withdraw_47 fX6_withdraw_52
        rw [e_isVersion h.ver.b (by omega) hr, q_bn_p, z10, eq, q_ax_n (show q < 60 by omega), if_neg hin, q_lt_e, if_neg (show ¬ up M 69 0 0 2 69 0 0 ≤ 0 by rw [up_s]; decide)]
      exact ⟨_, caseC (m := fun M => fX6_withdraw F M s1) (by unfold fL_withdraw; rw [hC]; rfl) hM rfl (fun h => by cases h), inv_69 hi rfl⟩
  · have hC : fX5_withdraw F M s1 = some (M, Sum.inr 3) := by
      unfold fX5_withdraw
      rw [e_needVersionX h.ver.a hr, q_bx_inr]
    have hM : fX6_withdraw F M s1 = some (up M 69 0 0 1, 0) := by
      unfold fX6_withdraw fX6_withdraw_52
      rw [e_isVersionX h.ver.b (by omega) hr, q_bn_p, z00, q_lt_e, if_neg (show ¬ up M 69 0 0 1 69 0 0 ≤ 0 by rw [up_s]; decide)]
    exact ⟨_, caseC (m := fun M => fX6_withdraw F M s1) (by unfold fL_withdraw; rw [hC]; rfl) hM rfl (fun h => by cases h), inv_69 hi rfl⟩
