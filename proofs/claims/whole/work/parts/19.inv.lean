/-! the invariant of the numbers -/
theorem up_o {M : Mem} {v j i v' : Nat} {y : Int32} (h : v' ≠ v) : up M v j i y v' = M v' := by
  funext j' i'
  simp [up, h]
theorem upA_o {M : Mem} {v j v' : Nat} {f : Nat → Int32} (h : v' ≠ v) : upA M v j f v' = M v' := by
  funext j' i'
  simp [upA, h]
theorem up_s {M : Mem} {v j i : Nat} {y : Int32} : up M v j i y v j i = y := by simp [up]
theorem up_i {M : Mem} {v j i i' : Nat} {y : Int32} (h : i' ≠ i) : up M v j i y v j i' = M v j i' := by simp [up, h]
theorem up_j {M : Mem} {v j i j' i' : Nat} {y : Int32} (h : j' ≠ j) : up M v j i y v j' i' = M v j' i' := by simp [up, h]
theorem q_bn_some {α β : Type} {r : Mem × α} {k : Mem → α → Option β} : q_bn (some r) k = k r.1 r.2 := rfl
theorem q_bx_inl {α β : Type} {M1 : Mem} {a : α} {k : Mem → α → Option (Mem × (β ⊕ Nat))} : q_bx (some (M1, Sum.inl a)) k = k M1 a := rfl
theorem q_bx_inr {α β : Type} {M1 : Mem} {n : Nat} {k : Mem → α → Option (Mem × (β ⊕ Nat))} : q_bx (some (M1, Sum.inr n)) k = some (M1, Sum.inr n) := rfl
theorem q_bh_inl {α β : Type} {M1 : Mem} {a : α} {k : Mem → α → Option β} {kx : Mem → Nat → Option β} : q_bh (some (M1, Sum.inl a)) k kx = k M1 a := rfl
theorem q_bh_inr {α β : Type} {M1 : Mem} {n : Nat} {k : Mem → α → Option β} {kx : Mem → Nat → Option β} : q_bh (some (M1, Sum.inr n)) k kx = kx M1 n := rfl
theorem q_bw_some {β : Type} {M1 : Mem} {x : XX} {a : Int32} {k : Mem → XX → Int32 → Option β} : q_bw (some (M1, (x, a))) k = k M1 x a := rfl
theorem q_lt_e {α β : Type} (a : α) (k : α → β) : q_lt a k = k a := rfl
theorem q_ax_n {β : Type} {j n : Nat} {k : Nat → Option β} (h : j < n) (hn : n < 2 ^ 31 := by decide) : q_ax (nI j) n k = k j := by
  have hc : (nI j).toNatClampNeg = j := nI_clamp (by omega)
  have h0 : ¬ nI j < 0 := nI_pos (by omega)
  unfold q_ax q_ib
  rw [hc]
  simp [h0, h]
def signC (c : Int32) : Prop := (97 ≤ c ∧ c ≤ 122) ∨ c = 32 ∨ (128512 ≤ c ∧ c ≤ 128591)
abbrev Cls (M : Mem) (nc : Nat) : Prop := (M 0 0 0 = nI nc) ∧ (M 61 0 0 = nI nc) ∧ (nc ≤ 4) ∧ (∀ i, i < nc → M 20 0 i = M 25 0 i ∧ -720 ≤ (M 20 0 i).toInt ∧ (M 20 0 i).toInt ≤ 720)
theorem Cls.a {M : Mem} {nc : Nat} (h : Cls M nc) : M 0 0 0 = nI nc := h.1
theorem Cls.b {M : Mem} {nc : Nat} (h : Cls M nc) : M 61 0 0 = nI nc := h.2.1
theorem Cls.le {M : Mem} {nc : Nat} (h : Cls M nc) : nc ≤ 4 := h.2.2.1
theorem Cls.off {M : Mem} {nc : Nat} (h : Cls M nc) : ∀ i, i < nc → M 20 0 i = M 25 0 i ∧ -720 ≤ (M 20 0 i).toInt ∧ (M 20 0 i).toInt ≤ 720 := h.2.2.2
abbrev Pup (M : Mem) (nc np : Nat) : Prop := (M 1 0 0 = nI np) ∧ (M 62 0 0 = nI np) ∧ (np ≤ 12) ∧ (∀ i, i < np → M 21 0 i = M 26 0 i ∧ ∃ r, r < nc ∧ M 21 0 i = nI r)
theorem Pup.a {M : Mem} {nc np : Nat} (h : Pup M nc np) : M 1 0 0 = nI np := h.1
theorem Pup.b {M : Mem} {nc np : Nat} (h : Pup M nc np) : M 62 0 0 = nI np := h.2.1
theorem Pup.le {M : Mem} {nc np : Nat} (h : Pup M nc np) : np ≤ 12 := h.2.2.1
theorem Pup.cls {M : Mem} {nc np : Nat} (h : Pup M nc np) : ∀ i, i < np → M 21 0 i = M 26 0 i ∧ ∃ r, r < nc ∧ M 21 0 i = nI r := h.2.2.2
abbrev Tsk (M : Mem) (nc nt : Nat) : Prop := (M 2 0 0 = nI nt) ∧ (M 63 0 0 = nI nt) ∧ (nt ≤ 10) ∧ (∀ i, i < nt → M 50 i 0 = M 27 0 i ∧ M 51 i 0 = M 28 0 i ∧ M 52 i 0 = M 29 0 i ∧ M 53 i 0 = M 31 0 i ∧ M 54 i 0 = M 30 0 i) ∧ (∀ i, i < nt → (∃ r, r < nc ∧ M 50 i 0 = nI r) ∧ (∃ d, d ≤ 1000000 ∧ M 51 i 0 = nI d) ∧ (∃ f, f ≤ 100 ∧ M 52 i 0 = nI f) ∧ (∃ k, k ≤ 100 ∧ M 54 i 0 = nI k) ∧ (M 53 i 0 = 100 ∨ M 53 i 0 = 103 ∨ M 53 i 0 = 104 ∨ M 53 i 0 = 115))
theorem Tsk.a {M : Mem} {nc nt : Nat} (h : Tsk M nc nt) : M 2 0 0 = nI nt := h.1
theorem Tsk.b {M : Mem} {nc nt : Nat} (h : Tsk M nc nt) : M 63 0 0 = nI nt := h.2.1
theorem Tsk.le {M : Mem} {nc nt : Nat} (h : Tsk M nc nt) : nt ≤ 10 := h.2.2.1
theorem Tsk.t {M : Mem} {nc nt : Nat} (h : Tsk M nc nt) : ∀ i, i < nt → M 50 i 0 = M 27 0 i ∧ M 51 i 0 = M 28 0 i ∧ M 52 i 0 = M 29 0 i ∧ M 53 i 0 = M 31 0 i ∧ M 54 i 0 = M 30 0 i := h.2.2.2.1
theorem Tsk.rg {M : Mem} {nc nt : Nat} (h : Tsk M nc nt) : ∀ i, i < nt → (∃ r, r < nc ∧ M 50 i 0 = nI r) ∧ (∃ d, d ≤ 1000000 ∧ M 51 i 0 = nI d) ∧ (∃ f, f ≤ 100 ∧ M 52 i 0 = nI f) ∧ (∃ k, k ≤ 100 ∧ M 54 i 0 = nI k) ∧ (M 53 i 0 = 100 ∨ M 53 i 0 = 103 ∨ M 53 i 0 = 104 ∨ M 53 i 0 = 115) := h.2.2.2.2
abbrev Clk (M : Mem) (nw : Nat) : Prop := (M 3 0 0 = nI nw) ∧ (M 60 0 0 = nI nw) ∧ (nw ≤ 1000000)
theorem Clk.a {M : Mem} {nw : Nat} (h : Clk M nw) : M 3 0 0 = nI nw := h.1
theorem Clk.b {M : Mem} {nw : Nat} (h : Clk M nw) : M 60 0 0 = nI nw := h.2.1
theorem Clk.le {M : Mem} {nw : Nat} (h : Clk M nw) : nw ≤ 1000000 := h.2.2
abbrev Txt (M : Mem) (ns : Nat) : Prop := (M 8 60 0 = nI ns) ∧ (M 65 0 0 = nI ns) ∧ (ns ≤ 40) ∧ (∀ i, i < ns → M 22 60 i = M 32 0 i ∧ signC (M 32 0 i))
theorem Txt.a {M : Mem} {ns : Nat} (h : Txt M ns) : M 8 60 0 = nI ns := h.1
theorem Txt.b {M : Mem} {ns : Nat} (h : Txt M ns) : M 65 0 0 = nI ns := h.2.1
theorem Txt.le {M : Mem} {ns : Nat} (h : Txt M ns) : ns ≤ 40 := h.2.2.1
theorem Txt.c {M : Mem} {ns : Nat} (h : Txt M ns) : ∀ i, i < ns → M 22 60 i = M 32 0 i ∧ signC (M 32 0 i) := h.2.2.2
/-- a bag holds how often each key was added -/
abbrev BagIs (M : Mem) (j u : Nat) (m : Int32 → Nat) : Prop := (M 9 j 0 = nI u) ∧ (u ≤ bl j) ∧ (∀ k l, k < l → l < u → (M 23 j k).toInt < (M 23 j l).toInt) ∧ (∀ k, k < u → M 24 j k = nI (m (M 23 j k)) ∧ 0 < m (M 23 j k)) ∧ (∀ x, 0 < m x → ∃ k, k < u ∧ M 23 j k = x)
theorem BagIs.a {M : Mem} {j u : Nat} {m : Int32 → Nat} (h : BagIs M j u m) : M 9 j 0 = nI u := h.1
theorem BagIs.le {M : Mem} {j u : Nat} {m : Int32 → Nat} (h : BagIs M j u m) : u ≤ bl j := h.2.1
theorem BagIs.inc {M : Mem} {j u : Nat} {m : Int32 → Nat} (h : BagIs M j u m) : ∀ k l, k < l → l < u → (M 23 j k).toInt < (M 23 j l).toInt := h.2.2.1
theorem BagIs.cnt {M : Mem} {j u : Nat} {m : Int32 → Nat} (h : BagIs M j u m) : ∀ k, k < u → M 24 j k = nI (m (M 23 j k)) ∧ 0 < m (M 23 j k) := h.2.2.2.1
theorem BagIs.has {M : Mem} {j u : Nat} {m : Int32 → Nat} (h : BagIs M j u m) : ∀ x, 0 < m x → ∃ k, k < u ∧ M 23 j k = x := h.2.2.2.2
/-- one round of a digest -/
def dg (h c : Int32) : Int32 := ((h <<< 5) ||| (h.toUInt32 >>> 27).toInt32) ^^^ c
/-- the digest of the window of four that begins at k -/
def win (f : Nat → Int32) (k : Nat) : Int32 := (dg (dg (dg (dg 0 (f k)) (f (k + 1))) (f (k + 2))) (f (k + 3))) &&& 1048575
/-- how often a digest comes among the windows of n signs -/
def wcount (f : Nat → Int32) (n : Nat) (x : Int32) : Nat := ((List.range (n - 3)).filter (fun k => decide (win f k = x))).length
abbrev Ver1 (M : Mem) (np nt nw nhd i : Nat) : Prop := (M 10 i 0 = M 33 0 i ∧ ∃ q, q < np ∧ M 10 i 0 = nI q) ∧ (M 11 i 0 = M 34 0 i ∧ ∃ q, q < nt ∧ M 11 i 0 = nI q) ∧ (M 12 i 0 = M 35 0 i ∧ (M 12 i 0 = -1 ∨ ∃ q, q < i ∧ M 12 i 0 = nI q)) ∧ (M 13 i 0 = M 36 0 i ∧ ∃ q, q ≤ nw ∧ M 13 i 0 = nI q) ∧ (M 14 i 0 = M 39 0 i) ∧ ((M 14 i 0 = -1 ∧ M 15 i 0 = -1 ∧ M 16 i 0 = 0 ∧ M 38 0 i = 0) ∨ ((∃ q, q ≤ nw ∧ M 14 i 0 = nI q) ∧ (∃ q, q < nhd ∧ M 15 i 0 = nI q ∧ M 40 0 i = nI (q + 1)) ∧ ((M 16 i 0 = 0 ∧ M 38 0 i = 1) ∨ (M 16 i 0 = 1 ∧ M 38 0 i = 2)))) ∧ (M 17 i 0 = M 41 0 i ∧ ∃ q, q ≤ 100 ∧ M 17 i 0 = nI q) ∧ (∃ n, n ≤ 40 ∧ M 8 i 0 = nI n ∧ M 37 0 i = nI n ∧ (∀ k, k < n → M 22 i k = M 42 0 (40 * i + k) ∧ signC (M 22 i k)) ∧ ∃ u, u ≤ 37 ∧ BagIs M i u (wcount (M 22 i) n) ∧ M 44 0 i = nI u ∧ ∀ k, k < u → M 23 i k = M 43 0 (40 * i + k))
theorem Ver1.p {M : Mem} {np nt nw nhd i : Nat} (h : Ver1 M np nt nw nhd i) : M 10 i 0 = M 33 0 i ∧ ∃ q, q < np ∧ M 10 i 0 = nI q := h.1
theorem Ver1.t {M : Mem} {np nt nw nhd i : Nat} (h : Ver1 M np nt nw nhd i) : M 11 i 0 = M 34 0 i ∧ ∃ q, q < nt ∧ M 11 i 0 = nI q := h.2.1
theorem Ver1.par {M : Mem} {np nt nw nhd i : Nat} (h : Ver1 M np nt nw nhd i) : M 12 i 0 = M 35 0 i ∧ (M 12 i 0 = -1 ∨ ∃ q, q < i ∧ M 12 i 0 = nI q) := h.2.2.1
theorem Ver1.sav {M : Mem} {np nt nw nhd i : Nat} (h : Ver1 M np nt nw nhd i) : M 13 i 0 = M 36 0 i ∧ ∃ q, q ≤ nw ∧ M 13 i 0 = nI q := h.2.2.2.1
theorem Ver1.hnd {M : Mem} {np nt nw nhd i : Nat} (h : Ver1 M np nt nw nhd i) : M 14 i 0 = M 39 0 i := h.2.2.2.2.1
theorem Ver1.st {M : Mem} {np nt nw nhd i : Nat} (h : Ver1 M np nt nw nhd i) : (M 14 i 0 = -1 ∧ M 15 i 0 = -1 ∧ M 16 i 0 = 0 ∧ M 38 0 i = 0) ∨ ((∃ q, q ≤ nw ∧ M 14 i 0 = nI q) ∧ (∃ q, q < nhd ∧ M 15 i 0 = nI q ∧ M 40 0 i = nI (q + 1)) ∧ ((M 16 i 0 = 0 ∧ M 38 0 i = 1) ∨ (M 16 i 0 = 1 ∧ M 38 0 i = 2))) := h.2.2.2.2.2.1
theorem Ver1.told {M : Mem} {np nt nw nhd i : Nat} (h : Ver1 M np nt nw nhd i) : M 17 i 0 = M 41 0 i ∧ ∃ q, q ≤ 100 ∧ M 17 i 0 = nI q := h.2.2.2.2.2.2.1
theorem Ver1.size {M : Mem} {np nt nw nhd i : Nat} (h : Ver1 M np nt nw nhd i) : ∃ n, n ≤ 40 ∧ M 8 i 0 = nI n ∧ M 37 0 i = nI n ∧ (∀ k, k < n → M 22 i k = M 42 0 (40 * i + k) ∧ signC (M 22 i k)) ∧ ∃ u, u ≤ 37 ∧ BagIs M i u (wcount (M 22 i) n) ∧ M 44 0 i = nI u ∧ ∀ k, k < u → M 23 i k = M 43 0 (40 * i + k) := h.2.2.2.2.2.2.2
abbrev Ver (M : Mem) (np nt nw nv nhd : Nat) : Prop := (M 4 0 0 = nI nv) ∧ (M 64 0 0 = nI nv) ∧ (nv ≤ 60) ∧ (M 5 0 0 = nI nhd ∧ M 67 0 0 = nI nhd ∧ nhd ≤ ((List.range nv).filter (fun i => decide (M 14 i 0 ≠ -1))).length) ∧ (∀ i, i < nv → Ver1 M np nt nw nhd i) ∧ (∀ i, nv ≤ i → i < 60 → M 14 i 0 = -1 ∧ M 15 i 0 = -1 ∧ M 16 i 0 = 0 ∧ M 17 i 0 = 0 ∧ M 38 0 i = 0 ∧ M 41 0 i = 0)
theorem Ver.a {M : Mem} {np nt nw nv nhd : Nat} (h : Ver M np nt nw nv nhd) : M 4 0 0 = nI nv := h.1
theorem Ver.b {M : Mem} {np nt nw nv nhd : Nat} (h : Ver M np nt nw nv nhd) : M 64 0 0 = nI nv := h.2.1
theorem Ver.le {M : Mem} {np nt nw nv nhd : Nat} (h : Ver M np nt nw nv nhd) : nv ≤ 60 := h.2.2.1
theorem Ver.h {M : Mem} {np nt nw nv nhd : Nat} (h : Ver M np nt nw nv nhd) : M 5 0 0 = nI nhd ∧ M 67 0 0 = nI nhd ∧ nhd ≤ ((List.range nv).filter (fun i => decide (M 14 i 0 ≠ -1))).length := h.2.2.2.1
theorem Ver.v {M : Mem} {np nt nw nv nhd : Nat} (h : Ver M np nt nw nv nhd) : ∀ i, i < nv → Ver1 M np nt nw nhd i := h.2.2.2.2.1
theorem Ver.new {M : Mem} {np nt nw nv nhd : Nat} (h : Ver M np nt nw nv nhd) : ∀ i, nv ≤ i → i < 60 → M 14 i 0 = -1 ∧ M 15 i 0 = -1 ∧ M 16 i 0 = 0 ∧ M 17 i 0 = 0 ∧ M 38 0 i = 0 ∧ M 41 0 i = 0 := h.2.2.2.2.2
abbrev Hts (M : Mem) (nv nh : Nat) : Prop := (M 6 0 0 = nI nh) ∧ (M 66 0 0 = nI nh) ∧ (nh ≤ 40) ∧ (M 7 0 0 = M 68 0 0 ∧ ∃ q, 1 ≤ q ∧ q ≤ 37 ∧ M 7 0 0 = nI q) ∧ (∀ i, i < nh → M 55 i 0 = M 45 0 i ∧ M 56 i 0 = M 46 0 i ∧ M 57 i 0 = M 47 0 i ∧ M 58 i 0 = M 48 0 i ∧ (∃ q, q < nv ∧ M 55 i 0 = nI q) ∧ (∃ q, q < nv ∧ M 56 i 0 = nI q) ∧ (∃ q, 1 ≤ q ∧ q ≤ 37 ∧ M 57 i 0 = nI q) ∧ (M 58 i 0 = -1 ∨ ∃ q, q ≤ 3 ∧ M 58 i 0 = nI q)) ∧ (∀ i, nh ≤ i → i < 40 → M 58 i 0 = -1)
theorem Hts.a {M : Mem} {nv nh : Nat} (h : Hts M nv nh) : M 6 0 0 = nI nh := h.1
theorem Hts.b {M : Mem} {nv nh : Nat} (h : Hts M nv nh) : M 66 0 0 = nI nh := h.2.1
theorem Hts.le {M : Mem} {nv nh : Nat} (h : Hts M nv nh) : nh ≤ 40 := h.2.2.1
theorem Hts.th {M : Mem} {nv nh : Nat} (h : Hts M nv nh) : M 7 0 0 = M 68 0 0 ∧ ∃ q, 1 ≤ q ∧ q ≤ 37 ∧ M 7 0 0 = nI q := h.2.2.2.1
theorem Hts.h {M : Mem} {nv nh : Nat} (h : Hts M nv nh) : ∀ i, i < nh → M 55 i 0 = M 45 0 i ∧ M 56 i 0 = M 46 0 i ∧ M 57 i 0 = M 47 0 i ∧ M 58 i 0 = M 48 0 i ∧ (∃ q, q < nv ∧ M 55 i 0 = nI q) ∧ (∃ q, q < nv ∧ M 56 i 0 = nI q) ∧ (∃ q, 1 ≤ q ∧ q ≤ 37 ∧ M 57 i 0 = nI q) ∧ (M 58 i 0 = -1 ∨ ∃ q, q ≤ 3 ∧ M 58 i 0 = nI q) := h.2.2.2.2.1
theorem Hts.new {M : Mem} {nv nh : Nat} (h : Hts M nv nh) : ∀ i, nh ≤ i → i < 40 → M 58 i 0 = -1 := h.2.2.2.2.2
/-- who loses by a hit that was heard -/
def lostBy (M : Mem) (p t i : Nat) : Prop := ∃ w, w ≤ 3 ∧ M 58 i 0 = nI w ∧ ((w % 2 = 1 ∧ M 10 (M 55 i 0).toNatClampNeg 0 = nI p ∧ M 11 (M 55 i 0).toNatClampNeg 0 = nI t) ∨ (w / 2 = 1 ∧ M 10 (M 56 i 0).toNatClampNeg 0 = nI p ∧ M 11 (M 56 i 0).toNatClampNeg 0 = nI t))
abbrev Lst (M : Mem) (nh : Nat) : Prop := (∀ p t, p < 12 → t < 10 → (M 49 0 (10 * p + t) = 1 ∧ ∃ i, i < nh ∧ lostBy M p t i) ∨ (M 49 0 (10 * p + t) = 0 ∧ ¬ ∃ i, i < nh ∧ lostBy M p t i))
theorem Lst.l {M : Mem} {nh : Nat} (h : Lst M nh) : ∀ p t, p < 12 → t < 10 → (M 49 0 (10 * p + t) = 1 ∧ ∃ i, i < nh ∧ lostBy M p t i) ∨ (M 49 0 (10 * p + t) = 0 ∧ ¬ ∃ i, i < nh ∧ lostBy M p t i) := h
/-- how many of the versions that are in hold a key -/
def vcount (M : Mem) (nv : Nat) (x : Int32) : Nat := ((List.range nv).filter (fun i => decide (M 38 0 i = 1) && decide (0 < wcount (M 22 i) (M 8 i 0).toNatClampNeg x))).length
abbrev Idx (M : Mem) (nv : Nat) : Prop := (∃ u, BagIs M 60 u (vcount M nv))
theorem Idx.i {M : Mem} {nv : Nat} (h : Idx M nv) : ∃ u, BagIs M 60 u (vcount M nv) := h
abbrev InvN (M : Mem) (nc np nt nw ns nv nhd nh : Nat) : Prop := (Cls M nc) ∧ (Pup M nc np) ∧ (Tsk M nc nt) ∧ (Clk M nw) ∧ (Txt M ns) ∧ (Ver M np nt nw nv nhd) ∧ (Hts M nv nh) ∧ (Lst M nh) ∧ (Idx M nv)
theorem InvN.cls {M : Mem} {nc np nt nw ns nv nhd nh : Nat} (h : InvN M nc np nt nw ns nv nhd nh) : Cls M nc := h.1
theorem InvN.pup {M : Mem} {nc np nt nw ns nv nhd nh : Nat} (h : InvN M nc np nt nw ns nv nhd nh) : Pup M nc np := h.2.1
theorem InvN.tsk {M : Mem} {nc np nt nw ns nv nhd nh : Nat} (h : InvN M nc np nt nw ns nv nhd nh) : Tsk M nc nt := h.2.2.1
theorem InvN.clk {M : Mem} {nc np nt nw ns nv nhd nh : Nat} (h : InvN M nc np nt nw ns nv nhd nh) : Clk M nw := h.2.2.2.1
theorem InvN.txt {M : Mem} {nc np nt nw ns nv nhd nh : Nat} (h : InvN M nc np nt nw ns nv nhd nh) : Txt M ns := h.2.2.2.2.1
theorem InvN.ver {M : Mem} {nc np nt nw ns nv nhd nh : Nat} (h : InvN M nc np nt nw ns nv nhd nh) : Ver M np nt nw nv nhd := h.2.2.2.2.2.1
theorem InvN.hts {M : Mem} {nc np nt nw ns nv nhd nh : Nat} (h : InvN M nc np nt nw ns nv nhd nh) : Hts M nv nh := h.2.2.2.2.2.2.1
theorem InvN.lst {M : Mem} {nc np nt nw ns nv nhd nh : Nat} (h : InvN M nc np nt nw ns nv nhd nh) : Lst M nh := h.2.2.2.2.2.2.2.1
theorem InvN.idx {M : Mem} {nc np nt nw ns nv nhd nh : Nat} (h : InvN M nc np nt nw ns nv nhd nh) : Idx M nv := h.2.2.2.2.2.2.2.2
def Inv (M : Mem) : Prop := ∃ nc np nt nw ns nv nhd nh : Nat, InvN M nc np nt nw ns nv nhd nh
theorem wcount_0 (f : Nat → Int32) (x : Int32) : wcount f 0 x = 0 := rfl
theorem inv_0 : Inv M0 := by
  refine ⟨0, 0, 0, 0, 0, 0, 0, 0, ⟨rfl, rfl, by decide, fun i h => by omega⟩, ⟨rfl, rfl, by decide, fun i h => by omega⟩, ⟨rfl, rfl, by decide, fun i h => by omega, fun i h => by omega⟩, ⟨rfl, rfl, by decide⟩, ⟨rfl, rfl, by decide, fun i h => by omega⟩, ⟨rfl, rfl, by decide, ⟨rfl, rfl, by decide⟩, fun i h => by omega, fun i _ _ => ⟨rfl, rfl, rfl, rfl, rfl, rfl⟩⟩, ⟨rfl, rfl, by decide, ⟨rfl, 3, by decide, by decide, rfl⟩, fun i h => by omega, fun i _ _ => rfl⟩, fun p t _ _ => Or.inr ⟨rfl, fun h => ?_⟩, ⟨0, ⟨rfl, Nat.zero_le _, fun k l _ h => by omega, fun k h => by omega, fun x h => ?_⟩⟩⟩
  · obtain ⟨i, h, -⟩ := h
    omega
  · have : vcount M0 0 x = 0 := rfl
    omega
