/-! a quotient that is no NaN -/
def fpG (d : FP.Core.Datum) : Prop := (∃ s, d = .inf s) ∨ ∃ s c q, d = .fin s c q ∧ c < 9007199254740992 ∧ q ≤ 971
theorem fp_bound {s : Bool} {c : Nat} {q : Int} (h : c < 9007199254740992) : fpG (FP.Core.bound FP.Core.b64 s c q) := by
  unfold FP.Core.bound
  by_cases g : q ≤ FP.Core.b64.qmax
  · rw [if_pos g]
    exact Or.inr ⟨s, c, q, rfl, h, g⟩
  · rw [if_neg g]
    exact Or.inl ⟨s, rfl⟩
theorem fp_settle {s : Bool} {c : Nat} {q : Int} : fpG (FP.Core.settle FP.Core.b64 s c q) := by
  unfold FP.Core.settle
  by_cases g : c < 2 ^ FP.Core.b64.p
  · rw [if_pos g]
    exact fp_bound g
  · rw [if_neg g]
    exact fp_bound (by decide)
theorem fp_round {s : Bool} {A B : Nat} {e : Int} : fpG (FP.Core.roundRatio FP.Core.b64 s A B e) := by
  unfold FP.Core.roundRatio
  by_cases g : A = 0
  · rw [if_pos g]
    exact Or.inr ⟨s, 0, FP.Core.b64.qmin, rfl, by decide, by decide⟩
  · rw [if_neg g]
    unfold FP.Core.roundAt
    exact fp_settle
theorem fp_enc {d : FP.Core.Datum} (h : fpG d) : FP.Core.encode FP.Core.b64 d < 18446744073709551616 ∧ FP.Core.encode FP.Core.b64 d % 9223372036854775808 ≤ 9218868437227405312 := by
  have e : ∀ s e t, FP.Core.assemble FP.Core.b64 s e t = (s.toNat * 2048 + e) * 4503599627370496 + t := fun _ _ _ => rfl
  have ht : FP.Core.b64.tails = 4503599627370496 := rfl
  have hq : FP.Core.b64.qmin = -1074 := rfl
  have hx : FP.Core.b64.exps - 1 = 2047 := rfl
  rcases h with ⟨s, rfl⟩ | ⟨s, c, q, rfl, hc, hq9⟩
  · show FP.Core.assemble FP.Core.b64 s (FP.Core.b64.exps - 1) 0 < _ ∧ FP.Core.assemble FP.Core.b64 s (FP.Core.b64.exps - 1) 0 % _ ≤ _
    rw [e, hx]
    cases s <;> decide
  · unfold FP.Core.encode
    show (if c < FP.Core.b64.tails then FP.Core.assemble FP.Core.b64 s 0 c else FP.Core.assemble FP.Core.b64 s ((q - FP.Core.b64.qmin).toNat + 1) (c - FP.Core.b64.tails)) < _ ∧ (if c < FP.Core.b64.tails then FP.Core.assemble FP.Core.b64 s 0 c else FP.Core.assemble FP.Core.b64 s ((q - FP.Core.b64.qmin).toNat + 1) (c - FP.Core.b64.tails)) % _ ≤ _
    rw [e, e, ht, hq]
    have hs : s.toNat ≤ 1 := Bool.toNat_le s
    by_cases g : c < 4503599627370496
    · rw [if_pos g]
      omega
    · rw [if_neg g]
      have hk : (q - -1074).toNat ≤ 2045 := by omega
      omega
theorem fp_mask {v : UInt64} (h : v.toNat % 9223372036854775808 ≤ 9218868437227405312) : q_n64 v = true := by
  unfold q_n64
  refine decide_eq_true ?_
  rw [UInt64.le_iff_toNat_le, UInt64.toNat_and]
  have e : v.toNat &&& (0x7fffffffffffffff : UInt64).toNat = v.toNat % 9223372036854775808 := Nat.and_two_pow_sub_one_eq_mod v.toNat 63
  rw [e]
  exact h
theorem fp_dec {n : Nat} (h : n % 9223372036854775808 ≤ 9218868437227405312) : FP.Core.decode FP.Core.b64 n ≠ .nan := by
  have hE : FP.Core.fieldE FP.Core.b64 n = n / 4503599627370496 % 2048 := rfl
  have hT : FP.Core.fieldT FP.Core.b64 n = n % 4503599627370496 := rfl
  have hx : FP.Core.b64.exps - 1 = 2047 := rfl
  unfold FP.Core.decode
  rw [hE, hT, hx]
  by_cases g : n / 4503599627370496 % 2048 = 2047
  · rw [if_pos g, if_pos (by omega)]
    exact FP.Core.Datum.noConfusion
  · rw [if_neg g]
    by_cases g2 : n / 4503599627370496 % 2048 = 0
    · rw [if_pos g2]
      exact FP.Core.Datum.noConfusion
    · rw [if_neg g2]
      exact FP.Core.Datum.noConfusion
theorem fp_cmp (a : Int) : compare a a = .eq := by
  simp [compare, compareOfLessAndEq]
theorem fp_ord {x : FP.Core.Datum} (h : x ≠ .nan) : FP.Core.order x x = some .eq := by
  cases x with
  | nan => exact absurd rfl h
  | inf => exact congrArg some (fp_cmp _)
  | fin s c q => exact congrArg some (fp_cmp _)
/-- a datum that is no NaN, as bits -/
theorem fp_bits {d : FP.Core.Datum} (h : fpG d) : (UInt64.ofNat (FP.Core.encode FP.Core.b64 d)).toNat % 9223372036854775808 ≤ 9218868437227405312 := by
  obtain ⟨h1, h2⟩ := fp_enc h
  rw [UInt64.toNat_ofNat_of_lt' (by simpa using h1)]
  exact h2
theorem fp_ok {v : UInt64} (h : v.toNat % 9223372036854775808 ≤ 9218868437227405312) : q_n64 v = true ∧ Op.cmpValue (FP.dcmp v v) .l = (0 : Int32) := by
  refine ⟨fp_mask h, ?_⟩
  have e : FP.dcmp v v = some .eq := fp_ord (fp_dec h)
  rw [e]
  rfl
theorem fp_int (a : Int32) : FP.Core.decode FP.Core.b64 (FP.i2d a).toNat ≠ .nan := by
  refine fp_dec ?_
  have : FP.i2d a = UInt64.ofNat (FP.Core.encode FP.Core.b64 (FP.Core.roundRatio FP.Core.b64 (decide (a.toInt < 0)) a.toInt.natAbs 1 0)) := rfl
  rw [this]
  exact fp_bits fp_round
def fpD (d : FP.Core.Datum) : Bool := match d with
  | .fin _ c _ => !(c == 0)
  | _ => false
theorem fp_small : ∀ n : Fin 120, fpD (FP.Core.decode FP.Core.b64 (FP.i2d (nI (n.val + 1))).toNat) = true := by decide +kernel
theorem fp_div {a : Int32} {n : Nat} (h1 : 1 ≤ n) (h2 : n ≤ 120) : q_n64 (FP.ddiv (FP.i2d a) (FP.i2d (nI n))) = true ∧ Op.cmpValue (FP.dcmp (FP.ddiv (FP.i2d a) (FP.i2d (nI n))) (FP.ddiv (FP.i2d a) (FP.i2d (nI n)))) .l = (0 : Int32) := by
  have ha := fp_int a
  have hn := fp_small ⟨n - 1, by omega⟩
  have e9 : n - 1 + 1 = n := by omega
  simp only [e9] at hn
  refine fp_ok ?_
  have e : FP.ddiv (FP.i2d a) (FP.i2d (nI n)) = UInt64.ofNat (FP.Core.encode FP.Core.b64 (FP.Core.quotient FP.Core.b64 (FP.Core.decode FP.Core.b64 (FP.i2d a).toNat) (FP.Core.decode FP.Core.b64 (FP.i2d (nI n)).toNat))) := rfl
  rw [e]
  refine fp_bits ?_
  generalize FP.Core.decode FP.Core.b64 (FP.i2d a).toNat = x at ha ⊢
  generalize FP.Core.decode FP.Core.b64 (FP.i2d (nI n)).toNat = y at hn ⊢
  cases y with
  | nan => exact absurd hn (by decide)
  | inf s => exact absurd (show false = true from hn) (by decide)
  | fin t d r =>
    have hd : ¬ d = 0 := fun h9 => by
      rw [h9] at hn
      exact absurd (show false = true from hn) (by decide)
    cases x with
    | nan => exact absurd rfl ha
    | inf s => exact Or.inl ⟨s != t, rfl⟩
    | fin s c q =>
      show fpG (if d = 0 then (if c = 0 then .nan else .inf (s != t)) else FP.Core.roundRatio FP.Core.b64 (s != t) c d (q - r))
      rw [if_neg hd]
      exact fp_round
