theorem Ver1_pt {M M' : Mem} {np nt nw nhd i : Nat} (h : Ver1 M np nt nw nhd i) (e : ∀ v ∈ vvC, M' v i = M v i) (e' : ∀ v ∈ [33, 34, 35, 36, 39, 38, 40, 41, 37, 44], M' v 0 i = M v 0 i) (e42 : ∀ l, l < 40 * (i + 1) → M' 42 0 l = M 42 0 l ∧ M' 43 0 l = M 43 0 l) : Ver1 M' np nt nw nhd i := by
  obtain ⟨p, t, par, sav, hnd, st, told, size⟩ := h
  unfold vvC at e
  have a1 := e 10 (by simp); have a2 := e 11 (by simp); have a3 := e 12 (by simp); have a4 := e 13 (by simp); have a5 := e 14 (by simp); have a6 := e 15 (by simp); have a7 := e 16 (by simp); have a8 := e 17 (by simp); have a9 := e 8 (by simp); have a10 := e 22 (by simp); have a11 := e 9 (by simp); have a12 := e 23 (by simp); have a13 := e 24 (by simp)
  have b1 := e' 33 (by simp); have b2 := e' 34 (by simp); have b3 := e' 35 (by simp); have b4 := e' 36 (by simp); have b5 := e' 39 (by simp); have b6 := e' 38 (by simp); have b7 := e' 40 (by simp); have b8 := e' 41 (by simp); have b9 := e' 37 (by simp); have b11 := e' 44 (by simp)
  refine ⟨by rw [a1, b1]; exact p, by rw [a2, b2]; exact t, by rw [a3, b3]; exact par, by rw [a4, b4]; exact sav, by rw [a5, b5]; exact hnd, by rw [a5, a6, a7, b6, b7]; exact st, by rw [a8, b8]; exact told, ?_⟩
  obtain ⟨n, hn, n1, n2, n3, u, hu, hB, u1, u2⟩ := size
  refine ⟨n, hn, by rw [a9]; exact n1, by rw [b9]; exact n2, fun k hk => ?_, u, hu, ?_, by rw [b11]; exact u1, fun k hk => ?_⟩
  · rw [a10, (e42 (40 * i + k) (by omega)).1]
    exact n3 k hk
  · rw [a10]
    exact BagIs_of hB (fun v hv => by
      simp only [List.mem_cons, List.not_mem_nil, or_false] at hv
      rcases hv with rfl | rfl | rfl
      · exact a11
      · exact a12
      · exact a13)
  · rw [a12, (e42 (40 * i + k) (by omega)).2]
    exact u2 k hk
theorem cp40 {f g : Nat → Int32} {k : Nat} (h : k < 40) : va_cpy f g 0 0 40 k = f k := by
  unfold va_cpy
  rw [if_pos (by omega)]
  congr 1
  omega
theorem wcount_congr {f g : Nat → Int32} {n : Nat} (h : ∀ k, k < n → f k = g k) : wcount f n = wcount g n := by
  funext x
  rw [wcount_sm, wcount_sm]
  refine sm_congr fun k hk => ?_
  unfold win
  rw [h k (by omega), h (k + 1) (by omega), h (k + 2) (by omega), h (k + 3) (by omega)]
theorem e_save {F nc np nt nw ns nv nhd nh p t ago : Nat} {M : Mem} {s3 : Int32} (hF : 10000 ≤ F) (h : InvN M nc np nt nw ns nv nhd nh) (hp : p < np) (ht : t < nt) (hpar : s3 = -1 ∨ ∃ q, q < nv ∧ s3 = nI q) (hago : ago ≤ nw) (h6 : nv < 60) : ∃ M2 M3 : Mem, fX5_save_94 F M (nI p) (nI t) s3 (nI ago) = some (M2, Sum.inl (nI nv)) ∧ fX6_save_129 F M2 (nI p) (nI t) s3 (nI ago) 0 = some (up M3 69 0 0 0, nI nv) ∧ (∀ v ∈ [62, 63, 64, 60, 27, 26, 33, 34, 36], M2 v = M v) ∧ Inv M3 := by
  have h60 := h.ver.le
  have h40 := h.txt.le
  have hw := h.clk.le
  have hb60 := bl60
  have hbn := bl_v h6
  -- the class
  obtain ⟨M5, hM5⟩ : ∃ M5 : Mem, M5 = up (up (up (up M 10 nv 0 (nI p)) 11 nv 0 (nI t)) 12 nv 0 s3) 13 nv 0 (nI (nw - ago)) := ⟨_, rfl⟩
  obtain ⟨M6, hM6⟩ : ∃ M6 : Mem, M6 = up (upA M5 22 nv (va_cpy (M 22 60) (M5 22 nv) 0 0 40)) 8 nv 0 (nI ns) := ⟨_, rfl⟩
  have m5 : ∀ v, v ∉ [10, 11, 12, 13] → M5 v = M v := fun v hv => by
    simp only [List.mem_cons, List.not_mem_nil, or_false, not_or] at hv
    rw [hM5, up_o hv.2.2.2, up_o hv.2.2.1, up_o hv.2.1, up_o hv.1]
  have m6 : ∀ v, v ∉ [22, 8, 10, 11, 12, 13] → M6 v = M v := fun v hv => by
    simp only [List.mem_cons, List.not_mem_nil, or_false, not_or] at hv
    rw [hM6, up_o hv.2.1, upA_o hv.1, m5 v (by simp [hv])]
  have m6j : ∀ v j, j ≠ nv → M6 v j = M v j := fun v j hj => by
    rw [hM6, hM5]
    funext l
    simp [up, upA, hj]
  have t22 : ∀ k, k < 40 → M6 22 nv k = M 22 60 k := fun k hk => by
    rw [hM6, up_o (by decide)]
    show (if 22 = 22 ∧ nv = nv then va_cpy (M 22 60) (M5 22 nv) 0 0 40 k else _) = _
    rw [if_pos ⟨rfl, rfl⟩, cp40 hk]
  have t8 : M6 8 nv 0 = nI ns := by rw [hM6, up_s]
  obtain ⟨M7, w, c1, c2, c3, c4, c5⟩ := e_cut (F := F) (i := nv) (j := nv) hF (by omega) (by omega) h40 t8
  obtain ⟨M2, hM2⟩ : ∃ M2 : Mem, M2 = up (up M7 8 60 0 0) 4 0 0 (nI (nv + 1)) := ⟨_, rfl⟩
  have m2 : ∀ v, v ∉ [8, 4, 9, 24, 23, 22, 10, 11, 12, 13] → M2 v = M v := fun v hv => by
    simp only [List.mem_cons, List.not_mem_nil, or_false, not_or] at hv
    rw [hM2, up_o hv.2.1, up_o hv.1, c4 v (by simp [hv]), m6 v (by simp [hv])]
  have m2c : ∀ v j, v ≠ 4 → j ≠ nv → j < 60 ∨ v ≠ 8 → M2 v j = M v j := fun v j hv hj h8 => by
    rw [hM2, up_o hv]
    by_cases e : v = 8
    · rw [e]
      funext l
      rw [up_j (by omega), c4 8 (by decide), m6j 8 j hj]
    · rw [up_o e, c5 v j hj, m6j v j hj]
  have m2n : ∀ v, v ∉ [8, 4, 9, 24, 23] → M2 v = M6 v := fun v hv => by
    simp only [List.mem_cons, List.not_mem_nil, or_false, not_or] at hv
    rw [hM2, up_o hv.2.1, up_o hv.1, c4 v (by simp [hv])]
  have m2b : ∀ v, v ∈ [9, 23, 24] → M2 v = M7 v := fun v hv => by
    rw [hM2, up_o (by simp at hv; omega), up_o (by simp at hv; omega)]
  -- the reference
  have r60 : M2 60 0 0 = nI nw := by rw [m2 60 (by decide)]; exact h.clk.b
  have r64 : M2 64 0 0 = nI nv := by rw [m2 64 (by decide)]; exact h.ver.b
  have r65 : M2 65 0 0 = nI ns := by rw [m2 65 (by decide)]; exact h.txt.b
  obtain ⟨M13, hM13⟩ : ∃ M13 : Mem, M13 = up (up (up (up (up (up M2 33 0 nv (nI p)) 34 0 nv (nI t)) 35 0 nv s3) 36 0 nv (nI (nw - ago))) 37 0 nv (nI ns)) 39 0 nv (-1) := ⟨_, rfl⟩
  have m13 : ∀ v, v ∉ [33, 34, 35, 36, 37, 39] → M13 v = M2 v := fun v hv => by
    simp only [List.mem_cons, List.not_mem_nil, or_false, not_or] at hv
    rw [hM13, up_o hv.2.2.2.2.2, up_o hv.2.2.2.2.1, up_o hv.2.2.2.1, up_o hv.2.2.1, up_o hv.2.1, up_o hv.1]
  obtain ⟨M14, d1, d2, d3, d4⟩ := e_f221 (F := F) (v := nv) (sn := ns) h6 h40 ns 0 F M13 (by omega) (by omega) (by rw [m13 65 (by decide)]; exact r65)
  have r37 : M14 37 0 nv = nI ns := by
    rw [d2 37 (by decide), hM13, up_o (by decide), up_s]
  obtain ⟨M15, u1, f1, f2, f3, f4, f5⟩ := e_finds (F := F) (v := nv) (sn := ns) (M := M14) hF h6 h40 r37
  obtain ⟨M3, hM3⟩ : ∃ M3 : Mem, M3 = up (up (up M15 44 0 nv (nI u1)) 64 0 0 (nI (nv + 1))) 65 0 0 0 := ⟨_, rfl⟩
  have m3 : ∀ v, v ∉ [65, 64, 44, 43, 42, 33, 34, 35, 36, 37, 39] → M3 v = M2 v := fun v hv => by
    simp only [List.mem_cons, List.not_mem_nil, or_false, not_or] at hv
    rw [hM3, up_o hv.1, up_o hv.2.1, up_o hv.2.2.1, f4 v hv.2.2.2.1, d2 v hv.2.2.2.2.1, m13 v (by simp [hv])]
  have m3n : ∀ v, v ∉ [65, 64, 44, 43, 42] → M3 v = M13 v := fun v hv => by
    simp only [List.mem_cons, List.not_mem_nil, or_false, not_or] at hv
    rw [hM3, up_o hv.1, up_o hv.2.1, up_o hv.2.2.1, f4 v hv.2.2.2.1, d2 v hv.2.2.2.2]
  have mm : ∀ v, v ∉ [65, 64, 44, 43, 42, 33, 34, 35, 36, 37, 39, 8, 4, 9, 24, 23, 22, 10, 11, 12, 13] → M3 v = M v := fun v hv => by
    simp only [List.mem_cons, List.not_mem_nil, or_false, not_or] at hv
    rw [m3 v (by simp [hv]), m2 v (by simp [hv])]
  have m42 : ∀ l, l < 40 * nv → M3 42 0 l = M 42 0 l ∧ M3 43 0 l = M 43 0 l := fun l hl => by
    refine ⟨?_, ?_⟩
    · rw [hM3, up_o (by decide), up_o (by decide), up_o (by decide), f4 42 (by decide), d4 l (by omega), m13 42 (by decide), m2 42 (by decide)]
    · rw [hM3, up_o (by decide), up_o (by decide), up_o (by decide), f5 l hl, d2 43 (by decide), m13 43 (by decide), m2 43 (by decide)]
  have n42 : ∀ k, k < ns → M3 42 0 (40 * nv + k) = M 32 0 k := fun k hk => by
    rw [hM3, up_o (by decide), up_o (by decide), up_o (by decide), f4 42 (by decide), d3 k (Nat.zero_le _) hk, m13 32 (by decide), m2 32 (by decide)]
  have n43 : ∀ k, M3 43 0 (40 * nv + k) = M15 43 0 (40 * nv + k) := fun k => by
    rw [hM3, up_o (by decide), up_o (by decide), up_o (by decide)]
  have mi : ∀ v ∈ [33, 34, 35, 36, 37, 39], ∀ i, i ≠ nv → M3 v 0 i = M v 0 i := fun v hv i hi => by
    rw [m3n v (by simp at hv ⊢; omega), hM13]
    have : M2 v 0 i = M v 0 i := by rw [m2 v (by simp at hv ⊢; omega)]
    simp [up_e, hi]
    exact this
  have m44 : ∀ i, M3 44 0 i = if i = nv then nI u1 else M 44 0 i := fun i => by
    rw [hM3, up_o (by decide), up_o (by decide)]
    by_cases k : i = nv
    · rw [k, up_s, if_pos rfl]
    · rw [up_i k, if_neg k, f4 44 (by decide), d2 44 (by decide), m13 44 (by decide), m2 44 (by decide)]
  have mcl : ∀ v, v ∉ [65, 64, 44, 43, 42, 33, 34, 35, 36, 37, 39, 4] → ∀ j, j ≠ nv → (j < 60 ∨ v ≠ 8) → M3 v j = M v j := fun v hv j hj h8 => by
    simp only [List.mem_cons, List.not_mem_nil, or_false, not_or] at hv
    rw [m3 v (by simp [hv]), m2c v j hv.2.2.2.2.2.2.2.2.2.2.2 hj h8]
  have hnew := h.ver.new nv (Nat.le_refl _) h6
  -- the new version
  have hVn : Ver1 M3 np nt nw nhd nv := by
    have x10 : M3 10 nv 0 = nI p := by
      rw [m3 10 (by decide), m2n 10 (by decide), hM6, up_o (by decide), upA_o (by decide), hM5, up_o (by decide), up_o (by decide), up_o (by decide), up_s]
    have x11 : M3 11 nv 0 = nI t := by
      rw [m3 11 (by decide), m2n 11 (by decide), hM6, up_o (by decide), upA_o (by decide), hM5, up_o (by decide), up_o (by decide), up_s]
    have x12 : M3 12 nv 0 = s3 := by
      rw [m3 12 (by decide), m2n 12 (by decide), hM6, up_o (by decide), upA_o (by decide), hM5, up_o (by decide), up_s]
    have x13 : M3 13 nv 0 = nI (nw - ago) := by
      rw [m3 13 (by decide), m2n 13 (by decide), hM6, up_o (by decide), upA_o (by decide), hM5, up_s]
    have y33 : M3 33 0 nv = nI p := by rw [m3n 33 (by decide), hM13]; simp [up_e]
    have y34 : M3 34 0 nv = nI t := by rw [m3n 34 (by decide), hM13]; simp [up_e]
    have y35 : M3 35 0 nv = s3 := by rw [m3n 35 (by decide), hM13]; simp [up_e]
    have y36 : M3 36 0 nv = nI (nw - ago) := by rw [m3n 36 (by decide), hM13]; simp [up_e]
    have y37 : M3 37 0 nv = nI ns := by rw [m3n 37 (by decide), hM13]; simp [up_e]
    have y39 : M3 39 0 nv = -1 := by rw [m3n 39 (by decide), hM13]; simp [up_e]
    have x8 : M3 8 nv 0 = nI ns := by
      rw [m3 8 (by decide), hM2, up_o (by decide), up_j (by omega), c4 8 (by decide)]
      exact t8
    have x22 : ∀ k, k < ns → M3 22 nv k = M 22 60 k := fun k hk => by
      rw [m3 22 (by decide), m2n 22 (by decide)]
      exact t22 k (by omega)
    refine ⟨⟨by rw [x10, y33], p, hp, x10⟩, ⟨by rw [x11, y34], t, ht, x11⟩, ⟨by rw [x12, y35], by rw [x12]; exact hpar⟩, ⟨by rw [x13, y36], nw - ago, by omega, x13⟩, by rw [y39, mm 14 (by decide)]; exact hnew.1, ?_, ?_, ⟨ns, h40, x8, y37, fun k hk => ?_, w, c2, ?_, ?_, fun k hk => ?_⟩⟩
    · rw [mm 14 (by decide), mm 15 (by decide), mm 16 (by decide), mm 38 (by decide)]
      exact Or.inl ⟨hnew.1, hnew.2.1, hnew.2.2.1, hnew.2.2.2.2.1⟩
    · rw [mm 17 (by decide), mm 41 (by decide), hnew.2.2.2.1, hnew.2.2.2.2.2]
      exact ⟨rfl, 0, Nat.zero_le _, rfl⟩
    · rw [x22 k hk, n42 k hk]
      obtain ⟨z1, z2⟩ := h.txt.c k hk
      exact ⟨z1, by rw [z1]; exact z2⟩
    · have hB7 : BagIs M3 nv w (wcount (M6 22 nv) ns) := BagIs_of c3 (fun v hv => by rw [m3 v (by simp at hv ⊢; omega), m2b v hv])
      rw [wcount_congr (f := M3 22 nv) (g := M6 22 nv) (fun k hk => by rw [x22 k hk, t22 k (by omega)])]
      exact hB7
    · have he := row_eq (row_bag c3) (by
        have e9 : wcount (fun k => M14 42 0 (40 * nv + k)) ns = wcount (M6 22 nv) ns := wcount_congr (fun k hk => by
          rw [d3 k (Nat.zero_le _) hk, m13 32 (by decide), m2 32 (by decide), t22 k (by omega)]
          exact (h.txt.c k hk).1.symm)
        rw [e9] at f3
        exact f3)
      rw [m44, if_pos rfl, he.1]
    · have he := row_eq (row_bag c3) (by
        have e9 : wcount (fun k => M14 42 0 (40 * nv + k)) ns = wcount (M6 22 nv) ns := wcount_congr (fun k hk => by
          rw [d3 k (Nat.zero_le _) hk, m13 32 (by decide), m2 32 (by decide), t22 k (by omega)]
          exact (h.txt.c k hk).1.symm)
        rw [e9] at f3
        exact f3)
      rw [m3 23 (by decide), m2b 23 (by decide), n43]
      exact he.2 k hk
  have hVo : ∀ i, i < nv → Ver1 M3 np nt nw nhd i := fun i hi => by
    refine Ver1_pt (h.ver.v i hi) (fun v hv => mcl v (by simp [vvC] at hv ⊢; omega) i (by omega) (Or.inl (by omega))) (fun v hv => ?_) (fun l hl => m42 l (by omega))
    by_cases k : v ∈ [33, 34, 35, 36, 37, 39]
    · exact mi v k i (by omega)
    · by_cases k2 : v = 44
      · rw [k2, m44, if_neg (by omega)]
      · rw [mm v (by simp at hv k k2 ⊢; omega)]
  have hlost : ∀ p t k, k < nh → (lostBy M3 p t k ↔ lostBy M p t k) := fun p t k hk => by
    obtain ⟨-, -, -, -, ⟨a, ha, ea⟩, ⟨b, hb, eb⟩, -⟩ := h.hts.h k hk
    have g10 : ∀ j, j ≠ nv → M3 10 j 0 = M 10 j 0 := fun j hj => by rw [mcl 10 (by decide) j hj (Or.inr (by decide))]
    have g11 : ∀ j, j ≠ nv → M3 11 j 0 = M 11 j 0 := fun j hj => by rw [mcl 11 (by decide) j hj (Or.inr (by decide))]
    unfold lostBy
    rw [mm 58 (by decide), mm 55 (by decide), mm 56 (by decide), ea, eb, nI_clamp (by omega), nI_clamp (by omega), g10 a (by omega), g10 b (by omega), g11 a (by omega), g11 b (by omega)]
  have hInv : Inv M3 := by
    refine ⟨nc, np, nt, nw, 0, nv + 1, nhd, nh, Cls_of h.cls (fr mm (by decide)), Pup_of h.pup (fr mm (by decide)), Tsk_of h.tsk (fr mm (by decide)), Clk_of h.clk (fr mm (by decide)), ⟨?_, ?_, by omega, fun i hi => by omega⟩, ⟨?_, ?_, by omega, ⟨by rw [mm 5 (by decide)]; exact h.ver.h.1, by rw [mm 67 (by decide)]; exact h.ver.h.2.1, ?_⟩, fun i hi => ?_, fun i hin h69 => ?_⟩, ⟨by rw [mm 6 (by decide)]; exact h.hts.a, by rw [mm 66 (by decide)]; exact h.hts.b, h.hts.le, by rw [mm 7 (by decide), mm 68 (by decide)]; exact h.hts.th, fun k hk => ?_, fun k hk hk4 => by rw [mm 58 (by decide)]; exact h.hts.new k hk hk4⟩, fun p t hp ht9 => ?_, ?_⟩
    · rw [m3 8 (by decide), hM2, up_o (by decide), up_s]
      rfl
    · rw [hM3, up_s]
      rfl
    · rw [m3 4 (by decide), hM2, up_s]
    · rw [hM3, up_o (by decide), up_s]
    · have s0 := h.ver.h.2.2
      rw [len_sm] at s0 ⊢
      rw [mm 14 (by decide)]
      have := sm_mono (f := fun i => if decide (M 14 i 0 ≠ -1) = true then 1 else 0) (show nv ≤ nv + 1 by omega)
      omega
    · by_cases k : i = nv
      · rw [k]
        exact hVn
      · exact hVo i (by omega)
    · rw [mm 14 (by decide), mm 15 (by decide), mm 16 (by decide), mm 17 (by decide), mm 38 (by decide), mm 41 (by decide)]
      exact h.ver.new i (by omega) h69
    · obtain ⟨x1, x2, x3, x4, ⟨a, ha, ea⟩, ⟨b, hb, eb⟩, x7, x8⟩ := h.hts.h k hk
      rw [mm 55 (by decide), mm 45 (by decide), mm 56 (by decide), mm 46 (by decide), mm 57 (by decide), mm 47 (by decide), mm 58 (by decide), mm 48 (by decide)]
      exact ⟨x1, x2, x3, x4, ⟨a, by omega, ea⟩, ⟨b, by omega, eb⟩, x7, x8⟩
    · rw [mm 49 (by decide)]
      rcases h.lst p t hp ht9 with ⟨x1, k, x2, x3⟩ | ⟨x1, x2⟩
      · exact Or.inl ⟨x1, k, x2, (hlost p t k x2).mpr x3⟩
      · exact Or.inr ⟨x1, fun ⟨k, y1, y2⟩ => x2 ⟨k, y1, (hlost p t k y1).mp y2⟩⟩
    · obtain ⟨z, hZ⟩ := h.idx.i
      refine ⟨z, ?_⟩
      have e0 : vcount M3 (nv + 1) = vcount M nv := by
        funext x
        rw [vcount_sm, vcount_sm, sm_s]
        have z0 : hd M3 nv x = 0 := by
          unfold hd
          rw [if_neg (show ¬ M3 38 0 nv = 1 by rw [mm 38 (by decide), hnew.2.2.2.2.1]; decide)]
        show sm nv (fun i => hd M3 i x) + hd M3 nv x = _
        rw [z0, Nat.add_zero]
        refine sm_congr fun i hi => ?_
        unfold hd
        rw [mm 38 (by decide), mcl 22 (by decide) i (by omega) (Or.inr (by decide)), mcl 8 (by decide) i (by omega) (Or.inl (by omega))]
      rw [e0]
      exact BagIs_of hZ (fun v hv => mcl v (by simp at hv ⊢; omega) 60 (by omega) (Or.inr (by simp at hv; omega)))
  refine ⟨M2, M3, ?_, ?_, fun v hv => m2 v (by simp at hv ⊢; omega), hInv⟩
  · have hcp : ∀ (k : Nat → Nat → Nat → Option (Mem × Unit)), q_ac (0 : Int32) (0 : Int32) (Int32.ofNat 40) 40 40 k = k 0 0 40 := fun k => q_ac_n (a := 0) (b := 0) (n := 40) (by decide) (by decide) (by decide) (by decide)
    have hk : fX4_keep F M5 nv 60 = some (M7, ()) := by
      unfold fX4_keep fX3_copyFrom
      rw [hcp, q_lt_e, q_lt_e, q_bn_p, m5 22 (by decide), upA_o (show 8 ≠ 22 by decide), m5 8 (by decide), h.txt.a]
      rw [m5 22 (by decide)] at hM6
      rw [← hM6, c1, q_bn_p]
    unfold fX5_save_94
    rw [h.ver.a, if_pos (show nI nv < 60 from nI_lt (b := 60) h6 (by decide)), q_ax_n h6, q_lt_e, q_lt_e, q_lt_e, q_lt_e, show up (up (up M 10 nv 0 (nI p)) 11 nv 0 (nI t)) 12 nv 0 s3 3 0 0 = nI nw by rw [up_o (by decide), up_o (by decide), up_o (by decide)]; exact h.clk.a, nI_sub hago, ← hM5, hk, q_bn_p, q_lt_e, q_lt_e, show up M7 8 60 0 0 4 0 0 = nI nv by rw [up_o (by decide), c4 4 (by decide), m6 4 (by decide)]; exact h.ver.a, nI_1, ← hM2, show M2 4 0 0 = nI (nv + 1) by rw [hM2, up_s], nI_pred]
  · unfold fX6_save_129
    rw [if_pos rfl, r64, if_neg (show ¬ nI nv = 60 from fun e => by have := nI_inj (b := 60) (by omega) (by decide) e; omega), q_lt_e, q_ax_n h6, q_lt_e, q_ax_n h6, q_lt_e, q_ax_n h6, q_lt_e, q_ax_n h6, q_lt_e, show up (up (up M2 33 0 nv (nI p)) 34 0 nv (nI t)) 35 0 nv s3 60 0 0 = nI nw by rw [up_o (by decide), up_o (by decide), up_o (by decide)]; exact r60, nI_sub hago, q_ax_n h6, q_lt_e, show up (up (up (up M2 33 0 nv (nI p)) 34 0 nv (nI t)) 35 0 nv s3) 36 0 nv (nI (nw - ago)) 65 0 0 = nI ns by rw [up_o (by decide), up_o (by decide), up_o (by decide), up_o (by decide)]; exact r65, q_ax_n h6, q_lt_e, q_lt_e, ← hM13]
    refine Eq.trans d1 ?_
    rw [f1, q_bn_p, q_lt_e, q_lt_e, show up M15 44 0 nv (nI u1) 64 0 0 = nI nv by rw [up_o (by decide), f4 64 (by decide), d2 64 (by decide), m13 64 (by decide)]; exact r64, nI_1, ← hM3]
    rfl
