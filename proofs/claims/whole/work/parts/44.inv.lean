/-! the exchange goes back; it keeps the weights -/
theorem mu_both_neg {p q : Int} : mu_both (-p) (-q) = -mu_both p q := by
  unfold mu_both
  by_cases h1 : 0 < p ∧ 0 < q
  · rw [if_neg (by omega), if_pos (by omega), if_pos h1, Int.neg_neg, Int.mul_neg]
  · by_cases h2 : p < 0 ∧ q < 0
    · rw [if_pos (by omega), if_neg h1, if_pos h2, Int.neg_mul_neg, Int.neg_mul, Int.neg_neg]
    · rw [if_neg (by omega), if_neg (by omega), if_neg h1, if_neg h2]
      rfl
theorem mu_B_at {B : Nat → Nat → Int} {k i j : Nat} (hi : i ≠ k) (hj : j ≠ k) : mu_B B k i j = B i j + mu_both (B i k) (B k j) := by
  unfold mu_B
  rw [if_neg (by omega)]
theorem mu_B_l {B : Nat → Nat → Int} {k j : Nat} : mu_B B k k j = -B k j := by
  unfold mu_B
  rw [if_pos (Or.inl rfl)]
theorem mu_B_r {B : Nat → Nat → Int} {k i : Nat} : mu_B B k i k = -B i k := by
  unfold mu_B
  rw [if_pos (Or.inr rfl)]
theorem mu_B_inv {B : Nat → Nat → Int} {k : Nat} : mu_B (mu_B B k) k = B := by
  funext i j
  by_cases hi : i = k
  · subst hi
    rw [mu_B_l, mu_B_l, Int.neg_neg]
  · by_cases hj : j = k
    · subst hj
      rw [mu_B_r, mu_B_r, Int.neg_neg]
    · rw [mu_B_at hi hj, mu_B_at hi hj, mu_B_r, mu_B_l, mu_both_neg]
      omega
theorem mu_D_ne {n k i m : Nat} {B D : Nat → Nat → Int} (hi : i ≠ k) : mu_D n B D k i m = D i m := by
  unfold mu_D
  rw [if_neg hi]
theorem mu_D_at {n k m : Nat} {B D : Nat → Nat → Int} : mu_D n B D k k m = (if mu_gs B D k (-1) m n < mu_gs B D k 1 m n then mu_gs B D k 1 m n else mu_gs B D k (-1) m n) - D k m := by
  unfold mu_D
  rw [if_pos rfl]
theorem mu_gs_inv {n k m : Nat} {B D : Nat → Nat → Int} {s : Int} (h0 : B k k = 0) : ∀ i, mu_gs (mu_B B k) (mu_D n B D k) k s m i = mu_gs B D k (-s) m i
  | 0 => rfl
  | i + 1 => by
    simp only [mu_gs]
    rw [mu_gs_inv h0 i, mu_B_r]
    by_cases hi : i = k
    · subst hi
      rw [h0]
      simp
    · rw [mu_D_ne hi, show s * -B i k = -s * B i k by rw [Int.mul_neg, Int.neg_mul]]
theorem mu_D_inv {n k : Nat} {B D : Nat → Nat → Int} (h0 : B k k = 0) : mu_D n (mu_B B k) (mu_D n B D k) k = D := by
  funext i m
  by_cases hi : i = k
  · subst hi
    have e1 := mu_gs_inv (n := n) (D := D) (m := m) (s := 1) h0 n
    have e2 := mu_gs_inv (n := n) (D := D) (m := m) (s := -1) h0 n
    rw [Int.neg_neg] at e2
    rw [mu_D_at (D := mu_D n B D i), e1, e2, mu_D_at]
    generalize mu_gs B D i 1 m n = x
    generalize mu_gs B D i (-1) m n = y
    by_cases c : x < y
    · rw [if_pos c, if_neg (by omega)]
      omega
    · by_cases d : y < x
      · rw [if_neg c, if_pos d]
        omega
      · rw [if_neg c, if_neg d]
        omega
  · rw [mu_D_ne hi, mu_D_ne hi]
/-! weights -/
theorem mu_wt_sg {a b x y : Int} (ha : 1 ≤ a) (hb : 1 ≤ b) (h : a * x = -b * y) : (0 < x ↔ y < 0) ∧ (x < 0 ↔ 0 < y) ∧ (x = 0 ↔ y = 0) := by
  have p : ∀ {c z : Int}, 1 ≤ c → (0 < z → 0 < c * z) ∧ (z < 0 → c * z < 0) ∧ (z = 0 → c * z = 0) := by
    intro c z hc
    refine ⟨fun hz => Int.mul_pos (by omega) hz, fun hz => Int.mul_neg_of_pos_of_neg (by omega) hz, fun hz => by rw [hz, Int.mul_zero]⟩
  rw [Int.neg_mul] at h
  have x1 := p (z := x) ha
  have y1 := p (z := y) hb
  rcases Int.lt_trichotomy x 0 with hx | hx | hx <;> rcases Int.lt_trichotomy y 0 with hy | hy | hy
  · have := x1.2.1 hx; have := y1.2.1 hy; omega
  · have := x1.2.1 hx; have := y1.2.2 hy; omega
  · omega
  · have := x1.2.2 hx; have := y1.2.1 hy; omega
  · omega
  · have := x1.2.2 hx; have := y1.1 hy; omega
  · omega
  · have := x1.1 hx; have := y1.2.2 hy; omega
  · have := x1.1 hx; have := y1.1 hy; omega
theorem mu_wt_dg {n : Nat} {B : Nat → Nat → Int} {w : Nat → Int} (hw : ∀ i, i < n → 1 ≤ w i) (h : mu_wt n B w) {i : Nat} (hi : i < n) : B i i = 0 := by
  have h1 := h i hi i hi
  have h2 := mu_wt_sg (hw i hi) (hw i hi) h1
  omega
theorem mu_wt_both {a b c x x' y y' : Int} (ha : 1 ≤ a) (hb : 1 ≤ b) (hc : 1 ≤ c) (h1 : a * x = -b * x') (h2 : b * y = -c * y') : a * mu_both x y = -(c * mu_both y' x') := by
  have s1 := mu_wt_sg ha hb h1
  have s2 := mu_wt_sg hb hc h2
  have key : a * (x * y) = c * (y' * x') := by
    calc a * (x * y) = (a * x) * y := by rw [Int.mul_assoc]
      _ = (-b * x') * y := by rw [h1]
      _ = -(x' * (b * y)) := by rw [Int.neg_mul, Int.neg_mul, Int.mul_comm b x', Int.mul_assoc]
      _ = -(x' * (-c * y')) := by rw [h2]
      _ = c * (y' * x') := by rw [Int.neg_mul, Int.mul_neg, Int.neg_neg, Int.mul_comm x' (c * y'), Int.mul_assoc]
  unfold mu_both
  by_cases c1 : 0 < x ∧ 0 < y
  · rw [if_pos c1, if_neg (by omega), if_pos (by omega), key, Int.neg_mul, Int.mul_neg, Int.neg_neg]
  · by_cases c2 : x < 0 ∧ y < 0
    · rw [if_neg c1, if_pos c2, if_pos (by omega), Int.neg_mul, Int.mul_neg, key]
    · rw [if_neg c1, if_neg c2, if_neg (by omega), if_neg (by omega)]
      simp
theorem mu_wt_B {n k : Nat} {B : Nat → Nat → Int} {w : Nat → Int} (hw : ∀ i, i < n → 1 ≤ w i) (hk : k < n) (h : mu_wt n B w) : mu_wt n (mu_B B k) w := by
  intro i hi j hj
  have hij := h i hi j hj
  by_cases ci : i = k
  · subst ci
    rw [mu_B_l, mu_B_r, Int.mul_neg, hij, Int.neg_mul, Int.neg_mul, Int.mul_neg]
  · by_cases cj : j = k
    · subst cj
      rw [mu_B_l, mu_B_r, Int.mul_neg, hij, Int.neg_mul, Int.neg_mul, Int.mul_neg]
    · have e := mu_wt_both (hw i hi) (hw k hk) (hw j hj) (h i hi k hk) (h k hk j hj)
      rw [mu_B_at ci cj, mu_B_at cj ci, Int.mul_add, Int.mul_add, hij, e, Int.neg_mul, Int.neg_mul]
theorem mu_wt_B_iff {n k : Nat} {B : Nat → Nat → Int} {w : Nat → Int} (hw : ∀ i, i < n → 1 ≤ w i) (hk : k < n) : mu_wt n (mu_B B k) w ↔ mu_wt n B w :=
  ⟨fun h => by
    have := mu_wt_B hw hk h
    rwa [mu_B_inv] at this, mu_wt_B hw hk⟩
