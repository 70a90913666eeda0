/-! the reference begins -/
def pm_Qg (n : Nat) (X : Nat → Nat → Int) (i a b : Nat) (Y : Nat → Nat → Int) : Prop :=
  (∀ o, o ≠ 1 → Y o = X o) ∧ (∀ q, q < 1840 ∨ 1920 ≤ q → Y 1 q = X 1 q) ∧ (∀ r, r < i → Y 1 (1840 + r) = X 15 r ∧ Y 1 (1844 + r) = 1) ∧ (∀ r c, r < n → c < n → (r < a ∨ (r = a ∧ c < b)) → Y 1 (1848 + 4 * r + c) = X 14 (4 * r + c)) ∧ (∀ r c, r < 4 → c < 4 → Y 1 (1864 + 4 * r + c) = (if r = c ∧ r < i then -1 else 0) ∧ Y 1 (1880 + 4 * r + c) = (if r = c ∧ r < i then 1 else 0) ∧ Y 1 (1896 + 4 * r + c) = (if r = c ∧ r < i then 1 else 0)) ∧ ∀ j, 1912 ≤ j → j < 1920 → Y 1 j = 0
theorem pm_Qg_in {n : Nat} {X Y : Nat → Nat → Int} {i j : Nat} (hn4 : n ≤ 4) (hi : i < n) (hj : j < n) (h : pm_Qg n X (i + 1) i j Y) : pm_Qg n X (i + 1) i (j + 1) (gx_up Y 1 (1848 + 4 * i + j) (X 14 (4 * i + j))) := by
  obtain ⟨h1, h2, h3, h4, h5, h6⟩ := h
  refine ⟨fun o ho => ?_, fun q hq => ?_, fun r hr => ?_, fun r c hr hc hp => ?_, fun r c hr hc => ?_, fun q a b => ?_⟩
  · rw [gx_up_ne ho]; exact h1 o ho
  · rw [gx_up_at, if_neg (by omega)]; exact h2 q hq
  · rw [gx_up_at, gx_up_at, if_neg (by omega), if_neg (by omega)]; exact h3 r hr
  · rw [gx_up_at]
    by_cases e : 1848 + 4 * r + c = 1848 + 4 * i + j
    · rw [if_pos e]; exact congrArg (X 14) (by omega)
    · rw [if_neg e]; exact h4 r c hr hc (by omega)
  · obtain ⟨k1, k2, k3⟩ := h5 r c hr hc
    refine ⟨?_, ?_, ?_⟩
    · rw [gx_up_at, if_neg (show ¬ 1864 + 4 * r + c = 1848 + 4 * i + j by omega)]; exact k1
    · rw [gx_up_at, if_neg (show ¬ 1880 + 4 * r + c = 1848 + 4 * i + j by omega)]; exact k2
    · rw [gx_up_at, if_neg (show ¬ 1896 + 4 * r + c = 1848 + 4 * i + j by omega)]; exact k3
  · rw [gx_up_at, if_neg (by omega)]; exact h6 q a b
theorem pm_Qg_out {n : Nat} {X Y : Nat → Nat → Int} {i : Nat} (hn4 : n ≤ 4) (hi : i < n) (h : pm_Qg n X i i 0 Y) : pm_Qg n X (i + 1) i 0 (gx_up (gx_up (gx_up (gx_up (gx_up Y 1 (1840 + i) (X 15 i)) 1 (1844 + i) 1) 1 (1864 + 4 * i + i) (-1)) 1 (1880 + 4 * i + i) 1) 1 (1896 + 4 * i + i) 1) := by
  obtain ⟨h1, h2, h3, h4, h5, h6⟩ := h
  have at5 : ∀ q, gx_up (gx_up (gx_up (gx_up (gx_up Y 1 (1840 + i) (X 15 i)) 1 (1844 + i) 1) 1 (1864 + 4 * i + i) (-1)) 1 (1880 + 4 * i + i) 1) 1 (1896 + 4 * i + i) 1 1 q = if q = 1896 + 4 * i + i then 1 else if q = 1880 + 4 * i + i then 1 else if q = 1864 + 4 * i + i then -1 else if q = 1844 + i then 1 else if q = 1840 + i then X 15 i else Y 1 q := fun q => by rw [gx_up_at, gx_up_at, gx_up_at, gx_up_at, gx_up_at]
  have ne5 : ∀ o, o ≠ 1 → gx_up (gx_up (gx_up (gx_up (gx_up Y 1 (1840 + i) (X 15 i)) 1 (1844 + i) 1) 1 (1864 + 4 * i + i) (-1)) 1 (1880 + 4 * i + i) 1) 1 (1896 + 4 * i + i) 1 o = Y o := fun o ho => by rw [gx_up_ne ho, gx_up_ne ho, gx_up_ne ho, gx_up_ne ho, gx_up_ne ho]
  generalize gx_up (gx_up (gx_up (gx_up (gx_up Y 1 (1840 + i) (X 15 i)) 1 (1844 + i) 1) 1 (1864 + 4 * i + i) (-1)) 1 (1880 + 4 * i + i) 1) 1 (1896 + 4 * i + i) 1 = W at at5 ne5 ⊢
  refine ⟨fun o ho => (ne5 o ho).trans (h1 o ho), fun q hq => ?_, fun r hr => ?_, fun r c hr hc hp => ?_, fun r c hr hc => ?_, fun q a b => ?_⟩
  · rw [at5, if_neg (by omega), if_neg (by omega), if_neg (by omega), if_neg (by omega), if_neg (by omega)]; exact h2 q hq
  · refine ⟨?_, ?_⟩
    · rw [at5, if_neg (by omega), if_neg (by omega), if_neg (by omega), if_neg (by omega)]
      by_cases e : r = i
      · subst e; rw [if_pos rfl]
      · rw [if_neg (by omega)]; exact (h3 r (by omega)).1
    · rw [at5, if_neg (by omega), if_neg (by omega), if_neg (by omega)]
      by_cases e : r = i
      · subst e; rw [if_pos rfl]
      · rw [if_neg (by omega), if_neg (by omega)]; exact (h3 r (by omega)).2
  · rw [at5, if_neg (by omega), if_neg (by omega), if_neg (by omega), if_neg (by omega), if_neg (by omega)]; exact h4 r c hr hc (by omega)
  · obtain ⟨k1, k2, k3⟩ := h5 r c hr hc
    by_cases e : r = i ∧ c = i
    · have ec : r = c ∧ r < i + 1 := by omega
      rw [if_pos ec, if_pos ec]
      refine ⟨?_, ?_, ?_⟩
      · rw [at5, if_neg (by omega), if_neg (by omega), if_pos (by omega)]
      · rw [at5, if_neg (by omega), if_pos (by omega)]
      · rw [at5, if_pos (by omega)]
    · have ei : (r = c ∧ r < i + 1) ↔ (r = c ∧ r < i) := by omega
      simp only [ei]
      refine ⟨?_, ?_, ?_⟩
      · rw [at5, if_neg (by omega), if_neg (by omega), if_neg (by omega), if_neg (by omega), if_neg (by omega)]; exact k1
      · rw [at5, if_neg (by omega), if_neg (by omega), if_neg (by omega), if_neg (by omega), if_neg (by omega)]; exact k2
      · rw [at5, if_neg (by omega), if_neg (by omega), if_neg (by omega), if_neg (by omega), if_neg (by omega)]; exact k3
  · rw [at5, if_neg (by omega), if_neg (by omega), if_neg (by omega), if_neg (by omega), if_neg (by omega)]; exact h6 q a b
