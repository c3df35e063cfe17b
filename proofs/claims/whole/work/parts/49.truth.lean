/-! the bag of a text; the check of it all -/
theorem dg_e {h c : Int32} : ((h <<< ((5 : Int32) &&& 31)) ||| ((h.toUInt32 >>> ((27 : Int32).toUInt32 &&& Int32.toUInt32 31)).toInt32)) ^^^ c = dg h c := by
  unfold dg
  rw [show (5 : Int32) &&& 31 = 5 by decide, show (27 : Int32).toUInt32 &&& Int32.toUInt32 31 = 27 by decide]
theorem wcount_sm {f : Nat → Int32} {n : Nat} {x : Int32} : wcount f n x = sm (n - 3) (fun k => if win f k = x then 1 else 0) := by
  unfold wcount
  rw [len_sm]
  refine sm_congr fun k _ => ?_
  by_cases e : win f k = x <;> simp [e]
theorem e_cut22 {F i j f n : Nat} {M : Mem} {k7 : Mem → Nat → Nat → Int32 → Option (Mem × Unit)} (hf : f + 4 ≤ 40) : fX3_cutInto_22 F k7 (n + 5) M i j (nI f) 0 (nI f) = q_bn (fX0_add F M j (win (M 22 i) f)) fun M1 _ => k7 M1 i j (nI (f + 1)) := by
  have c0 : ¬ nI (f + 4) ≤ nI f := nI_ge (by omega) (by omega)
  have c1 : ¬ nI (f + 4) ≤ nI (f + 1) := nI_ge (by omega) (by omega)
  have c2 : ¬ nI (f + 4) ≤ nI (f + 1 + 1) := nI_ge (by omega) (by omega)
  have c3 : ¬ nI (f + 4) ≤ nI (f + 1 + 1 + 1) := nI_ge (by omega) (by omega)
  have c4 : nI (f + 4) ≤ nI (f + 1 + 1 + 1 + 1) := nI_le (by omega) (by omega)
  have n4 : nI f + 4 = nI (f + 4) := nI_add f 4
  simp only [fX3_cutInto_22, n4, if_neg c0, if_neg c1, if_neg c2, if_neg c3, if_pos c4, q_ax_n (show f < 40 by omega), q_ax_n (show f + 1 < 40 by omega), q_ax_n (show f + 1 + 1 < 40 by omega), q_ax_n (show f + 1 + 1 + 1 < 40 by omega), q_lt_e, nI_1, dg_e]
  rfl
theorem e_cut7 {F i j sn : Nat} {g : Nat → Int32} (hF : 10000 ≤ F) (hj1 : 37 ≤ bl j) (hj2 : bl j ≤ 2220) (hs : sn ≤ 40) : ∀ (d f n u : Nat) (M0 : Mem), f + d = sn - 3 → d < n → M0 8 i 0 = nI sn → M0 22 i = g → BagIs M0 j u (fun x => sm f (fun k => if win g k = x then 1 else 0)) → u ≤ f → ∃ (M1 : Mem) (u1 : Nat), fX3_cutInto_7 F n M0 i j (nI f) = some (M1, ()) ∧ u1 ≤ 37 ∧ BagIs M1 j u1 (wcount g sn) ∧ (∀ v, v ∉ [9, 24, 23] → M1 v = M0 v) ∧ ∀ v j', j' ≠ j → M1 v j' = M0 v j' := by
  intro d
  induction d with
  | zero =>
    intro f n u M0 hf hn h8 h22 hB hu
    obtain ⟨n, rfl⟩ := Nat.exists_eq_succ_of_ne_zero (Nat.ne_of_gt hn)
    refine ⟨M0, u, ?_, by omega, ?_, fun _ _ => rfl, fun _ _ _ => rfl⟩
    · have n4 : nI f + 4 = nI (f + 4) := nI_add f 4
      rw [fX3_cutInto_7, h8, n4, if_pos (nI_lt (by omega) (by omega))]
    · have : wcount g sn = (fun x => sm f (fun k => if win g k = x then 1 else 0)) := by
        funext x
        rw [wcount_sm, show sn - 3 = f by omega]
      rw [this]
      exact hB
  | succ d ih =>
    intro f n u M0 hf hn h8 h22 hB hu
    obtain ⟨n, rfl⟩ := Nat.exists_eq_succ_of_ne_zero (Nat.ne_of_gt (Nat.lt_of_le_of_lt (Nat.zero_le _) hn))
    obtain ⟨F0, hF0⟩ : ∃ F0, F = F0 + 5 := ⟨F - 5, by omega⟩
    have n4 : nI f + 4 = nI (f + 4) := nI_add f 4
    obtain ⟨M1, u1, a1, a2, a3, a4, a5⟩ := e_add (key := win g f) hF hj2 hB (fun _ => by omega)
    have a3 : BagIs M1 j u1 (fun x => if x = win g f then sm f (fun k => if win g k = x then 1 else 0) + 1 else sm f (fun k => if win g k = x then 1 else 0)) := a3
    have hfun : (fun x => if x = win g f then sm f (fun k => if win g k = x then 1 else 0) + 1 else sm f (fun k => if win g k = x then 1 else 0)) = (fun x => sm (f + 1) (fun k => if win g k = x then 1 else 0)) := by
      funext x
      rw [sm_s]
      by_cases e : x = win g f
      · rw [if_pos e, if_pos e.symm]
      · rw [if_neg e, if_neg (fun h => e h.symm)]
        omega
    rw [hfun] at a3
    obtain ⟨M2, u2, b1, b2, b3, b4, b5⟩ := ih (f + 1) n u1 M1 (by omega) (by omega) (by rw [a4 8 (by decide)]; exact h8) (by rw [a4 22 (by decide)]; exact h22) a3 (by omega)
    refine ⟨M2, u2, ?_, b2, b3, fun v hv => by rw [b4 v hv, a4 v hv], fun v k hk => by rw [b5 v k hk, a5 v k hk]⟩
    have h22' := e_cut22 (F := F) (i := i) (j := j) (f := f) (n := F0) (M := M0) (k7 := fX3_cutInto_7 F n) (by omega)
    rw [← hF0, h22, a1, q_bn_p] at h22'
    rw [fX3_cutInto_7, h8, n4, if_neg (nI_nlt (by omega) (by omega)), q_lt_e, q_lt_e]
    exact h22'.trans b1
theorem e_cut {F i j sn : Nat} {M : Mem} (hF : 10000 ≤ F) (hj1 : 37 ≤ bl j) (hj2 : bl j ≤ 2220) (hs : sn ≤ 40) (h8 : M 8 i 0 = nI sn) : ∃ (M1 : Mem) (u1 : Nat), fX3_cutInto F M i j = some (M1, ()) ∧ u1 ≤ 37 ∧ BagIs M1 j u1 (wcount (M 22 i) sn) ∧ (∀ v, v ∉ [9, 24, 23] → M1 v = M v) ∧ ∀ v j', j' ≠ j → M1 v j' = M v j' := by
  obtain ⟨M0, hM0⟩ : ∃ M0 : Mem, M0 = up M 9 j 0 0 := ⟨_, rfl⟩
  have h0 : ∀ v, v ≠ 9 → M0 v = M v := fun v hv => by rw [hM0, up_o hv]
  have hB : BagIs M0 j 0 (fun x => sm 0 (fun k => if win (M 22 i) k = x then 1 else 0)) := ⟨by rw [hM0, up_s]; rfl, Nat.zero_le _, fun k l _ h => by omega, fun k h => by omega, fun x hx => absurd hx (Nat.lt_irrefl 0)⟩
  obtain ⟨M1, u1, a1, a2, a3, a4, a5⟩ := e_cut7 (F := F) (g := M 22 i) hF hj1 hj2 hs (sn - 3) 0 F 0 M0 (by omega) (by omega) (by rw [h0 8 (by decide)]; exact h8) (by rw [h0 22 (by decide)]) hB (Nat.le_refl _)
  refine ⟨M1, u1, ?_, a2, a3, fun v hv => ?_, fun v k hk => ?_⟩
  · unfold fX3_cutInto
    rw [q_lt_e, q_lt_e, ← hM0]
    exact a1
  · rw [a4 v hv, h0 v (by simp at hv; omega)]
  · rw [a5 v k hk, hM0]
    funext l
    simp [up, hk]
theorem inv_bags {M M' : Mem} {nc np nt nw ns nv nhd nh : Nat} (h : InvN M nc np nt nw ns nv nhd nh) (e : ∀ v, v ∉ [9, 24, 23] → M' v = M v) (e' : ∀ v j, j ≠ 61 → j ≠ 62 → M' v j = M v j) : InvN M' nc np nt nw ns nv nhd nh :=
  ⟨Cls_of h.cls (fr e (by decide)), Pup_of h.pup (fr e (by decide)), Tsk_of h.tsk (fr e (by decide)), Clk_of h.clk (fr e (by decide)), Txt_fr h.txt e (by decide), Ver_of h.ver (fr e (by decide)) (fun v _ j hj => e' v j (by omega) (by omega)) (fun v _ => e' v 0 (by omega) (by omega)), Hts_of h.hts (fr e (by decide)), Lst_of h.lst (fr e (by decide)), Idx_of h.idx h.ver.le (fun v _ => e' v 60 (by omega) (by omega)) ⟨e 38 (by decide), fun j _ => ⟨by rw [e 22 (by decide)], by rw [e 8 (by decide)]⟩⟩⟩
theorem bl61 : bl 61 = 2220 := rfl
theorem bl62 : bl 62 = 37 := rfl
theorem ver_txt {M : Mem} {np nt nw nv nhd i : Nat} (h : Ver M np nt nw nv nhd) (hi : i < nv) : ∃ n, n ≤ 40 ∧ M 8 i 0 = nI n := by
  obtain ⟨n, hn, e1, -⟩ := (h.v i hi).size
  exact ⟨n, hn, e1⟩
theorem e_ir10 {F nc np nt nw ns nv nhd nh : Nat} {M : Mem} (hF : 10000 ≤ F) (h : InvN M nc np nt nw ns nv nhd nh) : ∀ (d i n u : Nat) (M0 : Mem), i + d = nv → d < n → (∀ v, v ∉ [9, 24, 23] → M0 v = M v) → (∀ v j, j ≠ 61 → j ≠ 62 → M0 v j = M v j) → BagIs M0 61 u (fun x => sm i (fun l => hd M l x)) → u ≤ 37 * i → ∃ M1 : Mem, fX5_isIndexRight_10 F n M0 (nI i) = some (M1, 1) ∧ (∀ v, v ∉ [9, 24, 23] → M1 v = M v) ∧ ∀ v j, j ≠ 61 → j ≠ 62 → M1 v j = M v j := by
  have h60 := h.ver.le
  have b60 := bl60
  have b61 := bl61
  have b62 := bl62
  intro d
  induction d with
  | zero =>
    intro i n u M0 hi hn f1 f2 hB hu
    obtain ⟨n, rfl⟩ := Nat.exists_eq_succ_of_ne_zero (Nat.ne_of_gt hn)
    have : i = nv := by omega
    subst this
    obtain ⟨w, hW⟩ := h.idx.i
    have hW0 : BagIs M0 60 w (fun x => sm i (fun l => hd M l x)) := by
      have e0 : (fun x => sm i (fun l => hd M l x)) = vcount M i := by
        funext x
        rw [vcount_sm]
      rw [e0]
      exact BagIs_of hW (fun v _ => f2 v 60 (by omega) (by omega))
    refine ⟨M0, ?_, f1, f2⟩
    rw [fX5_isIndexRight_10, f1 4 (by decide), h.ver.a, if_pos (nI_le (Nat.le_refl _) (by omega)), e_isLike hF (by omega) (by omega) hW0 hB, q_bn_p]
    rfl
  | succ d ih =>
    intro i n u M0 hi hn f1 f2 hB hu
    obtain ⟨n, rfl⟩ := Nat.exists_eq_succ_of_ne_zero (Nat.ne_of_gt (Nat.lt_of_le_of_lt (Nat.zero_le _) hn))
    have hN0 := inv_bags h f1 f2
    rw [fX5_isIndexRight_10, f1 4 (by decide), h.ver.a, if_neg (nI_ge (by omega) (by omega)), q_ax_n (show i < 60 by omega), e_isThere (hN0.ver.v i (by omega)) h.clk.le, q_bn_p, f1 38 (by decide)]
    unfold fX5_isIndexRight_57
    by_cases hin : M 38 0 i = 1
    · obtain ⟨sn, hsn, e8⟩ := ver_txt hN0.ver (show i < nv by omega)
      obtain ⟨M5, u5, c1, c2, c3, c4, c5⟩ := e_cut (F := F) (i := i) (j := 62) hF (by omega) (by omega) hsn e8
      have hB5 : BagIs M5 61 u (fun x => sm i (fun l => hd M l x) + sm 0 (fun l => if x = M5 23 62 l then 1 else 0)) := by
        have e0 : (fun x => sm i (fun l => hd M l x) + sm 0 (fun l => if x = M5 23 62 l then 1 else 0)) = fun x => sm i (fun l => hd M l x) := by
          funext x
          exact Nat.add_zero _
        rw [e0]
        exact BagIs_of hB (fun v _ => c5 v 61 (by omega))
      obtain ⟨M7, u7, g1, g2, g3, g4, g5⟩ := e_adds (F := F) (j := 61) (j' := 62) (m0 := fun x => sm i (fun l => hd M l x)) hF (by omega) (by omega) (by omega) c3 u5 0 F u M5 (by omega) (by omega) rfl rfl hB5 (by omega)
      have e8M : M 8 i 0 = nI sn := by rw [← f1 8 (by decide)]; exact e8
      have hfun : (fun x => sm i (fun l => hd M l x) + hv (wcount (M0 22 i) sn) x) = (fun x => sm (i + 1) (fun l => hd M l x)) := by
        funext x
        rw [sm_s, f1 22 (by decide)]
        show _ = _ + hd M i x
        unfold hd
        rw [if_pos hin, e8M, nI_clamp (by omega)]
      have g3 : BagIs M7 61 u7 (fun x => sm i (fun l => hd M l x) + hv (wcount (M0 22 i) sn) x) := g3
      rw [hfun] at g3
      rw [if_pos hin, z10, q_ax_n (show i < 60 by omega), c1, q_bn_p, show fX0_addKeysOf F M5 61 62 = some (M7, ()) from g1, q_bn_p, q_lt_e, nI_1]
      exact ih (i + 1) n u7 M7 (by omega) (by omega) (fun v hv => by rw [g4 v hv, c4 v hv, f1 v hv]) (fun v j h1 h2 => by rw [g5 v j h1, c5 v j h2, f2 v j h1 h2]) g3 (by omega)
    · rw [if_neg hin, z00, q_lt_e, nI_1]
      refine ih (i + 1) n u M0 (by omega) (by omega) f1 f2 ?_ (by omega)
      have hfun : (fun x => sm (i + 1) (fun l => hd M l x)) = (fun x => sm i (fun l => hd M l x)) := by
        funext x
        rw [sm_s]
        show _ + hd M i x = _
        unfold hd
        rw [if_neg hin, Nat.add_zero]
      rw [hfun]
      exact hB
theorem e_ac12 {F nc np nt nw ns nv nhd nh p : Nat} {M : Mem} {k2 : Mem → Int32 → Option (Mem × Int32)} (hF : 10000 ≤ F) (h : InvN M nc np nt nw ns nv nhd nh) : ∀ (d t n : Nat), t + d = nt → d < n → fX5_areCountingRight_12 F k2 n M (nI p) (nI t) = k2 M (nI (p + 1)) := by
  have h60 := h.ver.le
  have h10 := h.tsk.le
  intro d
  induction d with
  | zero =>
    intro t n ht hn
    obtain ⟨n, rfl⟩ := Nat.exists_eq_succ_of_ne_zero (Nat.ne_of_gt hn)
    rw [fX5_areCountingRight_12, h.tsk.a, if_pos (nI_le (by omega) (by omega)), q_lt_e, nI_1]
  | succ d ih =>
    intro t n ht hn
    obtain ⟨n, rfl⟩ := Nat.exists_eq_succ_of_ne_zero (Nat.ne_of_gt (Nat.lt_of_le_of_lt (Nat.zero_le _) hn))
    have hI := ih (t + 1) n (by omega) (by omega)
    obtain ⟨y, y1, -, y3⟩ := e_counting (F := F) (p := nI p) (t := nI t) hF h
    rw [fX5_areCountingRight_12, h.tsk.a, if_neg (nI_ge (by omega) (by omega)), y1, q_bn_p, q_lt_e]
    unfold fX5_areCountingRight_46
    by_cases hy : y = -1
    · rw [if_pos hy, q_lt_e, nI_1]
      exact hI
    · obtain ⟨q, hq, eq, hin, -⟩ := y3.resolve_left hy
      have h16 : M 16 q 0 = 0 := by
        rcases (h.ver.v q hq).st with ⟨-, -, -, s⟩ | ⟨-, -, s | s⟩
        · rw [hin] at s
          exact absurd s (by decide)
        · exact s.1
        · rw [hin] at s
          exact absurd s.2 (by decide)
      rw [if_neg hy, eq, q_ax_n (show q < 60 by omega), if_pos h16, q_lt_e, nI_1]
      exact hI
theorem e_ac {F nc np nt nw ns nv nhd nh : Nat} {M : Mem} (hF : 10000 ≤ F) (h : InvN M nc np nt nw ns nv nhd nh) : ∀ (d p n : Nat), p + d = np → d < n → fX5_areCountingRight_2 F n M (nI p) = some (M, 1) := by
  have h10 := h.tsk.le
  have h12 := h.pup.le
  intro d
  induction d with
  | zero =>
    intro p n hp hn
    obtain ⟨n, rfl⟩ := Nat.exists_eq_succ_of_ne_zero (Nat.ne_of_gt hn)
    rw [fX5_areCountingRight_2, h.pup.a, if_pos (nI_le (by omega) (by omega))]
  | succ d ih =>
    intro p n hp hn
    obtain ⟨n, rfl⟩ := Nat.exists_eq_succ_of_ne_zero (Nat.ne_of_gt (Nat.lt_of_le_of_lt (Nat.zero_le _) hn))
    rw [fX5_areCountingRight_2, h.pup.a, if_neg (nI_ge (by omega) (by omega)), q_lt_e]
    exact (e_ac12 (F := F) (p := p) (k2 := fX5_areCountingRight_2 F n) hF h nt 0 F (by omega) (by omega)).trans (ih (p + 1) n (by omega) (by omega))
theorem e_am {F nc np nt nw ns nv nhd nh : Nat} {M : Mem} (hF : 10000 ≤ F) (h : InvN M nc np nt nw ns nv nhd nh) : ∀ (d i n : Nat) (M0 : Mem), i + d = nv → d < n → (∀ v, v ∉ [9, 24, 23] → M0 v = M v) → (∀ v j, j ≠ 61 → j ≠ 62 → M0 v j = M v j) → ∃ M1 : Mem, fX5_areMarksRight_2 F n M0 (nI i) = some (M1, 1) ∧ (∀ v, v ∉ [9, 24, 23] → M1 v = M v) ∧ ∀ v j, j ≠ 61 → j ≠ 62 → M1 v j = M v j := by
  have h60 := h.ver.le
  have b62 := bl62
  intro d
  induction d with
  | zero =>
    intro i n M0 hi hn f1 f2
    obtain ⟨n, rfl⟩ := Nat.exists_eq_succ_of_ne_zero (Nat.ne_of_gt hn)
    refine ⟨M0, ?_, f1, f2⟩
    rw [fX5_areMarksRight_2, f1 4 (by decide), h.ver.a, if_pos (nI_le (by omega) (by omega))]
  | succ d ih =>
    intro i n M0 hi hn f1 f2
    obtain ⟨n, rfl⟩ := Nat.exists_eq_succ_of_ne_zero (Nat.ne_of_gt (Nat.lt_of_le_of_lt (Nat.zero_le _) hn))
    have hN0 := inv_bags h f1 f2
    obtain ⟨sn, hsn, e8⟩ := ver_txt hN0.ver (show i < nv by omega)
    obtain ⟨u, hu, hB, -, -⟩ := ver_bag hN0.ver (show i < nv by omega)
    rw [e8, nI_clamp (by omega)] at hB
    have hbi := bl_v (a := i) (by omega)
    obtain ⟨M5, u5, c1, c2, c3, c4, c5⟩ := e_cut (F := F) (i := i) (j := 62) hF (by omega) (by omega) hsn e8
    have hB5 : BagIs M5 i u (wcount (M0 22 i) sn) := BagIs_of hB (fun v _ => c5 v i (by omega))
    rw [fX5_areMarksRight_2, f1 4 (by decide), h.ver.a, if_neg (nI_ge (by omega) (by omega)), q_ax_n (show i < 60 by omega), c1, q_bn_p, q_ax_n (show i < 60 by omega), e_isLike hF (by omega) (by omega) hB5 c3, q_bn_p, z10, q_lt_e, nI_1]
    exact ih (i + 1) n M5 (by omega) (by omega) (fun v hv => by rw [c4 v hv, f1 v hv]) (fun v j h1 h2 => by rw [c5 v j h2, f2 v j h1 h2])
theorem k37 {F : Nat} {M : Mem} {x : XX} {s1 s2 s3 s4 s5 : Int32} (hF : 10000 ≤ F) (hi : Inv M) : ∃ r, fL_case37 F M x s1 s2 s3 s4 s5 = some r ∧ Inv r.1 := by
  obtain ⟨nc, np, nt, nw, ns, nv, nhd, nh, h⟩ := id hi
  have h60 := h.ver.le
  have h12 := h.pup.le
  obtain ⟨M0, hM0⟩ : ∃ M0 : Mem, M0 = up M 9 61 0 0 := ⟨_, rfl⟩
  have hB : BagIs M0 61 0 (fun x => sm 0 (fun l => hd M l x)) := ⟨by rw [hM0, up_s]; rfl, Nat.zero_le _, fun k l _ h => by omega, fun k h => by omega, fun x hx => absurd hx (Nat.lt_irrefl 0)⟩
  obtain ⟨M1, a1, a2, a3⟩ := e_ir10 (F := F) hF h nv 0 F 0 M0 (by omega) (by omega) (fun v hv => by rw [hM0, up_o (by simp at hv; omega)]) (fun v j h1 h2 => by rw [hM0]; funext l; simp [up, h1]) hB (by omega)
  have hN1 := inv_bags h a2 a3
  have c1 : fX5_areCountingRight F M1 = some (M1, 1) := e_ac (F := F) hF hN1 np 0 F (by omega) (by omega)
  obtain ⟨M2, d1, d2, d3⟩ := e_am (F := F) hF hN1 nv 0 F M1 (by omega) (by omega) (fun _ _ => rfl) (fun _ _ _ _ => rfl)
  have hN2 := inv_bags hN1 d2 d3
  have hC : fX5_isTrue F M = some (M2, 1) := by
    unfold fX5_isTrue
    rw [show fX5_isIndexRight F M = some (M1, 1) by unfold fX5_isIndexRight; rw [q_lt_e, q_lt_e, ← hM0]; exact a1, q_bn_p, z10, c1, q_bn_p, z10, show fX5_areMarksRight F M1 = some (M2, 1) from d1, q_bn_p, z10]
    rfl
  have hM : fX6_isTrue F M2 = some (up M2 69 0 0 0, 1) := rfl
  exact ⟨_, caseB (F := F) (m := fun M => fX6_isTrue F M) (by rw [hC]) hM, inv_69 ⟨nc, np, nt, nw, ns, nv, nhd, nh, hN2⟩ rfl⟩
