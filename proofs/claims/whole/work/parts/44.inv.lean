/-! the exchange goes back; it keeps the weights -/
theorem mu_both_neg {p q : Int} : mu_both (-p) (-q) = -mu_both p q := by
  unfold mu_both
  by_cases c1 : 0 < p <;> by_cases c2 : 0 < q <;> by_cases c3 : p < 0 <;> by_cases c4 : q < 0 <;> simp [c1, c2, c3, c4, Int.neg_mul, Int.mul_neg] <;> omega
