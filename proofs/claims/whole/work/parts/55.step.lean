/-! one call of the script, whichever it is, keeps the invariant -/
theorem inv_step (M : Mem) (x : XX) (c s1 s2 s3 s4 s5 : Int32) (hi : Inv M) : ∃ r, q_op 100000 M x c s1 s2 s3 s4 s5 = some r ∧ Inv r.1 := by
  have hF : 10000 ≤ 100000 := by decide
  unfold q_op
  by_cases h0 : c = nI 0
  · rw [if_pos h0]
    exact k0 hi
  rw [if_neg h0]
  by_cases h1 : c = nI 1
  · rw [if_pos h1]
    exact k1 hi
  rw [if_neg h1]
  by_cases h2 : c = nI 2
  · rw [if_pos h2]
    exact k2 hi
  rw [if_neg h2]
  by_cases h3 : c = nI 3
  · rw [if_pos h3]
    exact k3 hi
  rw [if_neg h3]
  by_cases h4 : c = nI 4
  · rw [if_pos h4]
    exact k4 hi
  rw [if_neg h4]
  by_cases h5 : c = nI 5
  · rw [if_pos h5]
    exact k5 hi
  rw [if_neg h5]
  by_cases h6 : c = nI 6
  · rw [if_pos h6]
    exact k6 hF hi
  rw [if_neg h6]
  by_cases h7 : c = nI 7
  · rw [if_pos h7]
    exact k7 hF hi
  rw [if_neg h7]
  by_cases h8 : c = nI 8
  · rw [if_pos h8]
    exact k8 hi
  rw [if_neg h8]
  by_cases h9 : c = nI 9
  · rw [if_pos h9]
    exact k9 hF hi
  rw [if_neg h9]
  by_cases h10 : c = nI 10
  · rw [if_pos h10]
    exact k10 hF hi
  rw [if_neg h10]
  by_cases h11 : c = nI 11
  · rw [if_pos h11]
    exact k11 hF hi
  rw [if_neg h11]
  by_cases h12 : c = nI 12
  · rw [if_pos h12]
    exact k12 hF hi
  rw [if_neg h12]
  by_cases h13 : c = nI 13
  · rw [if_pos h13]
    exact k13 hF hi
  rw [if_neg h13]
  by_cases h14 : c = nI 14
  · rw [if_pos h14]
    exact k14 hF hi
  rw [if_neg h14]
  by_cases h15 : c = nI 15
  · rw [if_pos h15]
    exact k15 hF hi
  rw [if_neg h15]
  by_cases h16 : c = nI 16
  · rw [if_pos h16]
    exact k16 hi
  rw [if_neg h16]
  by_cases h17 : c = nI 17
  · rw [if_pos h17]
    exact k17 hF hi
  rw [if_neg h17]
  by_cases h18 : c = nI 18
  · rw [if_pos h18]
    exact k18 hi
  rw [if_neg h18]
  by_cases h19 : c = nI 19
  · rw [if_pos h19]
    exact k19 hi
  rw [if_neg h19]
  by_cases h20 : c = nI 20
  · rw [if_pos h20]
    exact k20 hF hi
  rw [if_neg h20]
  by_cases h21 : c = nI 21
  · rw [if_pos h21]
    exact k21 hF hi
  rw [if_neg h21]
  by_cases h22 : c = nI 22
  · rw [if_pos h22]
    exact k22 hF hi
  rw [if_neg h22]
  by_cases h23 : c = nI 23
  · rw [if_pos h23]
    exact k23 hF hi
  rw [if_neg h23]
  by_cases h24 : c = nI 24
  · rw [if_pos h24]
    exact k24 hi
  rw [if_neg h24]
  by_cases h25 : c = nI 25
  · rw [if_pos h25]
    exact k25 hF hi
  rw [if_neg h25]
  by_cases h26 : c = nI 26
  · rw [if_pos h26]
    exact k26 hF hi
  rw [if_neg h26]
  by_cases h27 : c = nI 27
  · rw [if_pos h27]
    exact k27 hi
  rw [if_neg h27]
  by_cases h28 : c = nI 28
  · rw [if_pos h28]
    exact k28 hi
  rw [if_neg h28]
  by_cases h29 : c = nI 29
  · rw [if_pos h29]
    exact k29 hi
  rw [if_neg h29]
  by_cases h30 : c = nI 30
  · rw [if_pos h30]
    exact k30 hF hi
  rw [if_neg h30]
  by_cases h31 : c = nI 31
  · rw [if_pos h31]
    exact k31 hF hi
  rw [if_neg h31]
  by_cases h32 : c = nI 32
  · rw [if_pos h32]
    exact k32 hF hi
  rw [if_neg h32]
  by_cases h33 : c = nI 33
  · rw [if_pos h33]
    exact k33 hF hi
  rw [if_neg h33]
  by_cases h34 : c = nI 34
  · rw [if_pos h34]
    exact k34 hF hi
  rw [if_neg h34]
  by_cases h35 : c = nI 35
  · rw [if_pos h35]
    exact k35 hF hi
  rw [if_neg h35]
  by_cases h36 : c = nI 36
  · rw [if_pos h36]
    exact k36 hF hi
  rw [if_neg h36]
  by_cases h37 : c = nI 37
  · rw [if_pos h37]
    exact k37 hF hi
  rw [if_neg h37]
  exact ⟨(M, x), rfl, hi⟩
