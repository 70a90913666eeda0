/-! a whole text: both sides -/
theorem pc_tx_set (Z : Nat → Nat → Int) : gx_up (gx_up (gx_up Z 1 4 0) 1 2 0) 1 3 (-1) = pc_tx Z 0 (Z 1 5) 0 (-1) := by
  have h := pc_tx_id Z
  calc gx_up (gx_up (gx_up Z 1 4 0) 1 2 0) 1 3 (-1) = gx_up (gx_up (gx_up (pc_tx Z (Z 1 4) (Z 1 5) (Z 1 2) (Z 1 3)) 1 4 0) 1 2 0) 1 3 (-1) := by rw [h]
    _ = _ := by rw [pc_tx_u4, pc_tx_u2, pc_tx_u3]
theorem pm_tx_set (X : Nat → Nat → Int) : gx_up (gx_up (gx_up X 0 24 0) 0 25 0) 0 8 (-1) = pm_tx (gx_up X 0 8 (-1)) 0 0 (X 0 26) := by
  have h := pm_tx_id X
  calc gx_up (gx_up (gx_up X 0 24 0) 0 25 0) 0 8 (-1) = gx_up (gx_up (gx_up (pm_tx X (X 0 24) (X 0 25) (X 0 26)) 0 24 0) 0 25 0) 0 8 (-1) := by rw [h]
    _ = _ := by rw [pm_tx_u24, pm_tx_u25, pm_tx_u0 (by decide) (by decide) (by decide)]
theorem tx_read {A len : Nat} {Z X : Nat → Nat → Int} (hA : pc_S A = true) (hs : tx_s len Z X) :
    (∃ (k q : Nat) (Z' X' : Nat → Nat → Int) (a b a' : Int), 0 < k ∧ k < 5 ∧ q ≤ len ∧ f_TX_readInto (pc_h Z) 1 A = some (0, pc_h (pc_tx Z' a b (k : Int) (q : Int))) ∧ f_MD_letters (pm_h X) 0 = fb_MD_letters_43 (pm_h (pm_tx X' a' (k : Int) (q : Int))) 0 ∧ tx_F8 A Z Z' ∧ tx_G8 (gx_up X 0 8 (-1)) X') ∨
    (∃ (n : Nat) (Z' X' : Nat → Nat → Int) (a b a' l : Int), f_TX_readInto (pc_h Z) 1 A = some (1, pc_h (pc_tx Z' a b 0 (-1))) ∧ f_MD_letters (pm_h X) 0 = fb_MD_letters_43 (pm_h (pm_tx X' a' 0 l)) 0 ∧ tx_F8 A Z Z' ∧ tx_G8 (gx_up X 0 8 (-1)) X' ∧ tx_R A n len Z' X' ∧ tx_new A Z') := by
  have hA10 := pc_S_ge A hA
  obtain ⟨l1, l2⟩ := pc_L1
  obtain ⟨e0, e1, e2, e3, e4, e5⟩ := pc_r1
  have len100 := hs.2.2.1
  have gf : f_MD_letters_20 gx_fu = fb_MD_letters_20 (f_MD_letters_20 999999) := rfl
  have hs1 : tx_s len Z (gx_up X 0 8 (-1)) := by
    obtain ⟨s1, s2, s3, s4⟩ := hs
    refine ⟨s1, by rw [gx_up_at, if_neg (by decide)]; exact s2, s3, fun q hq => ?_⟩
    rw [gx_up_ne (by decide)]; exact s4 q hq
  unfold f_TX_readInto f_MD_letters
  rw [pc_put trivial l1 (by decide) e4, pc_put trivial l1 (by decide) e2, pc_put trivial l1 (by decide) e3, pc_tx_set, pc_cv l1, pm_put trivial (by decide) rfl, pm_put trivial (by decide) rfl, pm_put trivial (by decide) rfl, pm_tx_set, pm_cv]
  have h1 := tx_first (p := 0) (b := Z 1 5) (l := X 0 26) hA hs1 (by omega)
  rw [show ((0 : Nat) : Int) = 0 from rfl] at h1
  rcases h1 with ⟨k, q, Z', X', a, b', a', k0, k5, hq', f1, f2, hF, hG⟩ | ⟨n, p', Z', X', b', l', hp2, f1, f2, hF, hG, hR, hN⟩
  · rw [f1, f2, pl_call, pl_call, pl_gi (by decide) (by decide), if_pos (show (0 : Int) = 0 from rfl), gf]
    unfold fb_MD_letters_20
    rw [pm_get (by decide) rfl, pm_tx_25, if_neg (by omega)]
    exact Or.inl ⟨k, q, Z', X', a, b', a', k0, k5, hq', rfl, rfl, hF, hG⟩
  · rw [f1, f2, pl_call, pl_call, pl_gi (by decide) (by decide), if_neg (show ¬ (1 : Int) = 0 by decide)]
    have hs2 : tx_s len Z' X' := by
      obtain ⟨s1, s2, s3, s4⟩ := hs1
      refine ⟨by rw [hF 1 (by omega)]; exact s1, by rw [hG.2 7 (by decide)]; exact s2, s3, fun q hq => ?_⟩
      rw [hF 2 (by omega), hG.1 3 (by decide) (by decide) (by decide)]
      exact s4 q hq
    have h2 := tx_loop hA (len - p') p' 0 gx_fu gx_fu Z' X' b' l' hs2 hR (by omega) (by omega) (show len - p' + 1 < 1000000 by omega) (show len - p' + 1 < 1000000 by omega)
    rw [show ((0 : Nat) : Int) = 0 from rfl] at h2
    rcases h2 with ⟨k, q', Z2, X2, a, b2, a', k0, k5, hq', g1, g2, hF2, hG2⟩ | ⟨Z2, X2, a, b2, a', l2', g1, g2, hF2, hG2, hR2⟩
    · exact Or.inl ⟨k, q', Z2, X2, a, b2, a', k0, k5, hq', g1, g2, tx_F8_F hF hF2, tx_G8_G hG hG2⟩
    · exact Or.inr ⟨n, Z2, X2, a, b2, a', l2', g1, g2, tx_F8_F hF hF2, tx_G8_G hG hG2, hR2, tx_new_F hN hF2⟩
/-! the reference begins anew -/
/-- what the reference's row of the beginning holds -/
def pm_bg (n : Nat) (X : Nat → Nat → Int) (f : Nat → Int) : Prop :=
  (∀ i, i < n → f i = X 15 i ∧ f (4 + i) = 1) ∧ (∀ i j, i < n → j < n → f (8 + 4 * i + j) = X 14 (4 * i + j)) ∧ (∀ i j, i < 4 → j < 4 → f (24 + 4 * i + j) = (if i = j ∧ i < n then -1 else 0) ∧ f (40 + 4 * i + j) = (if i = j ∧ i < n then 1 else 0) ∧ f (56 + 4 * i + j) = (if i = j ∧ i < n then 1 else 0)) ∧ ∀ j, 72 ≤ j → j < 80 → f j = 0
