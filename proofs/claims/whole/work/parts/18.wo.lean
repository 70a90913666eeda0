/-! the reference's products and worth -/
/-- the worths of a row: positive, small -/
def mu_W (n : Nat) (f : Nat → Int) (x : Nat) (U V : Nat → Nat) : Prop := ∀ i, i < n → f (x + i) = (U i : Int) ∧ f (x + 4 + i) = (V i : Int) ∧ 0 < U i ∧ U i ≤ 1000000000 ∧ 0 < V i ∧ V i ≤ 1000000000
set_option maxHeartbeats 1000000 in
theorem pm_product (X : Nat → Nat → Int) {n x k : Nat} {a b sg : Int} {U V : Nat → Nat} {s0 : Nat × Nat × Bool} (hn : X 0 1 = (n : Int)) (hn4 : n ≤ 4) (ha : a = (x : Int)) (hb : b = (k : Int)) (hsg : sg = 1 ∨ sg = -1) (hk : k < n) (hx : x + 80 ≤ 2000) (hB : mu_bd n (pm_T X (x + 8))) (hW : mu_W n (X 1) x U V) :
    f_MD_product (pm_h (pm_f3 X s0)) 0 a b sg = some (0, pm_h (pm_f3 X (fr_P (pm_T X (x + 8)) k sg U V s0.2.2 n))) := by
  subst ha hb
  unfold f_MD_product
  rw [pm_put trivial (by decide) rfl, pm_f3_u13 (v := 1) (w := 1) rfl, pm_put trivial (by decide) rfl, pm_f3_u14 (v := 1) (w := 1) rfl]
  have hU : ∀ i, i < n → 0 < U i ∧ U i ≤ 1000000000 ∧ 0 < V i ∧ V i ≤ 1000000000 := fun i hi => (hW i hi).2.2
  have hn' : ∀ s, pm_f3 X s 0 1 = (n : Int) := fun s => by rw [pm_f3_j (by decide) (by decide) (by decide)]; exact hn
  refine pl_loop0 (A := fun fu i => f_MD_product_13 fu (pm_h (pm_f3 X (fr_P (pm_T X (x + 8)) k sg U V s0.2.2 i))) 0 (x : Int) (k : Int) sg (i : Int)) n (by omega) (fun i hi fu => ?_) (fun fu => ?_)
  · show fb_MD_product_13 (f_MD_product_13 fu) _ 0 _ _ _ _ = _
    unfold fb_MD_product_13
    rw [pm_get (by decide) rfl, hn', pl_gi (by omega) (by omega), if_pos (by omega)]
    have hb := hB i hi k hk
    have hsb : -99 ≤ sg * pm_T X (x + 8) i k ∧ sg * pm_T X (x + 8) i k ≤ 99 := by rcases hsg with e | e <;> subst e <;> omega
    obtain ⟨w1, w2, w3, w4, w5, w6⟩ := hW i hi
    have hok := fr_P_ok (B := pm_T X (x + 8)) (k := k) (sg := sg) (z := s0.2.2) hU i (by omega)
    have hbv : ∀ s : Nat × Nat × Bool, pm_f3 X s 1 (x + 8 + 4 * i + k) = pm_T X (x + 8) i k := fun s => by rw [pm_f3_o (by decide)]; rfl
    refine pl_loop0 (A := fun gu t => f_MD_product_25 (f_MD_product_13 fu) gu (pm_h (pm_f3 X (fr_I (U i) (V i) t (fr_P (pm_T X (x + 8)) k sg U V s0.2.2 i)))) 0 (x : Int) (k : Int) sg (i : Int) (t : Int)) (sg * pm_T X (x + 8) i k).toNat (by omega) (fun t ht gu => ?_) (fun gu => ?_)
    · show fb_MD_product_25 (f_MD_product_13 fu) (f_MD_product_25 (f_MD_product_13 fu) gu) _ 0 _ _ _ _ _ = _
      unfold fb_MD_product_25
      rw [pm_cv, pm_b _ (x := x) (i := i) (j := k) rfl rfl rfl (by omega), pl_call, hbv, pl_gi (by omega) (by omega), pl_gi (by omega) (by omega), if_pos (by omega), pm_gr (t := 1) (by decide) rfl (by decide), pm_ald (o := 1) (i := x + i) (by omega) (by show _ < 2000; omega), pm_gr (t := 1) (by decide) rfl (by decide), pm_ald (o := 1) (i := x + 4 + i) (by omega) (by show _ < 2000; omega), pm_f3_o (by decide), w1, w2, pm_cv, pm_times X rfl rfl (fr_I_ok w3 w5 w4 w6 _ _ hok) w3 w5 w4 w6, pl_call, ← fr_I_succ]
      rfl
    · show fb_MD_product_25 (f_MD_product_13 fu) (f_MD_product_25 (f_MD_product_13 fu) gu) _ 0 _ _ _ _ _ = _
      unfold fb_MD_product_25
      rw [pm_cv, pm_b _ (x := x) (i := i) (j := k) rfl rfl rfl (by omega), pl_call, hbv, pl_gi (by omega) (by omega), pl_gi (by omega) (by omega), if_neg (by omega)]
      rfl
  · show fb_MD_product_13 (f_MD_product_13 fu) _ 0 _ _ _ _ = _
    unfold fb_MD_product_13
    rw [pm_get (by decide) rfl, hn', pl_gi (by omega) (by omega), if_neg (by omega)]
/-- what a letter would be worth: the last numbers, and whether it is beyond -/
def fr_E (s1 s2 : Nat × Nat × Bool) (p q : Nat) : Nat × Nat × Bool := if s2.2.2 = true then s2 else fr_T (fr_S (s1.1 * s2.2.1 + s2.1 * s1.2.1) (s1.2.1 * s2.2.1)) p q
def fr_W (B : Nat → Nat → Int) (n k : Nat) (U V : Nat → Nat) : Nat × Nat × Bool := fr_E (fr_P B k 1 U V false n) (fr_P B k (-1) U V (fr_P B k 1 U V false n).2.2 n) (V k) (U k)
theorem fr_T_z {s : Nat × Nat × Bool} {p q : Nat} (h : s.2.2 = true) : (fr_T s p q).2.2 = true := by unfold fr_T; rw [if_pos h]; exact h
theorem fr_I_z {p q : Nat} : ∀ (t : Nat) (s : Nat × Nat × Bool), s.2.2 = true → (fr_I p q t s).2.2 = true
  | 0, _, h => h
  | t + 1, _, h => fr_I_z t _ (fr_T_z h)
theorem fr_P_z {B : Nat → Nat → Int} {k : Nat} {sg : Int} {U V : Nat → Nat} : ∀ i, (fr_P B k sg U V true i).2.2 = true
  | 0 => rfl
  | i + 1 => fr_I_z _ _ (fr_P_z i)
set_option maxHeartbeats 1000000 in
theorem pm_worth (X : Nat → Nat → Int) {n x k : Nat} {a b : Int} {U V : Nat → Nat} (hn : X 0 1 = (n : Int)) (hn4 : n ≤ 4) (ha : a = (x : Int)) (hb : b = (k : Int)) (hk : k < n) (hx : x + 80 ≤ 2000) (hB : mu_bd n (pm_T X (x + 8))) (hW : mu_W n (X 1) x U V) :
    f_MD_worth (pm_h X) 0 a b = some (if (fr_W (pm_T X (x + 8)) n k U V).2.2 = true then 0 else 1, pm_h (pm_f3 X (fr_W (pm_T X (x + 8)) n k U V))) := by
  subst ha hb
  unfold f_MD_worth
  have hU : ∀ i, i < n → 0 < U i ∧ U i ≤ 1000000000 ∧ 0 < V i ∧ V i ≤ 1000000000 := fun i hi => (hW i hi).2.2
  have e0 : ∀ (m : Nat) (s : Nat × Nat × Bool) (r : Option (Int × gx_H)), f_MD_product (pm_h (gx_up X 0 15 0)) 0 (x : Int) (k : Int) 1 = some (0, pm_h (pm_f3 X (fr_P (pm_T X (x + 8)) k 1 U V false n))) := by
    intro m s r
    have hX : ∀ o, o ≠ 0 → gx_up X 0 15 0 o = X o := fun o ho => gx_us_ne ho
    have h1 : f_MD_product (pm_h (gx_up X 0 15 0)) 0 (x : Int) (k : Int) 1 = f_MD_product (pm_h (pm_f3 X (1, 1, false))) 0 (x : Int) (k : Int) 1 := by
      unfold f_MD_product
      rw [pm_put trivial (by decide) rfl, pm_put trivial (by decide) rfl, pm_put trivial (by decide) rfl, pm_put trivial (by decide) rfl]
      congr 2
      funext o j
      unfold gx_up pm_f3 gx_us gx_u1
      by_cases e : o = 0
      · subst e
        by_cases e2 : j = 13
        · simp [e2]
        · by_cases e3 : j = 14
          · simp [e3]
          · by_cases e4 : j = 15
            · simp [e4]
            · simp [e2, e3, e4]
      · simp [e]
    rw [h1, pm_product X hn hn4 rfl rfl (Or.inl rfl) hk hx hB hW]
  rw [pm_put trivial (by decide) rfl, pm_cv, e0 0 (1, 1, false) none, pl_call]
  have hn' : ∀ s, pm_f3 X s 0 1 = (n : Int) := fun s => by rw [pm_f3_j (by decide) (by decide) (by decide)]; exact hn
  have hs1 := fr_P_ok (B := pm_T X (x + 8)) (k := k) (sg := 1) (z := false) hU n (Nat.le_refl _)
  have hs2 := fr_P_ok (B := pm_T X (x + 8)) (k := k) (sg := -1) (z := (fr_P (pm_T X (x + 8)) k 1 U V false n).2.2) hU n (Nat.le_refl _)
  unfold fr_W fr_E
  have hz := fun (h : (fr_P (pm_T X (x + 8)) k 1 U V false n).2.2 = true) => (by rw [h]; exact fr_P_z n : (fr_P (pm_T X (x + 8)) k (-1) U V (fr_P (pm_T X (x + 8)) k 1 U V false n).2.2 n).2.2 = true)
  rw [pm_get (by decide) rfl, pm_get (by decide) rfl, pm_f3_13, pm_f3_14, pm_cv, pm_product X hn hn4 rfl rfl (Or.inr rfl) hk hx hB hW, pl_call, pm_get (by decide) rfl, pm_f3_15]
  generalize fr_P (pm_T X (x + 8)) k 1 U V false n = s1 at *
  generalize fr_P (pm_T X (x + 8)) k (-1) U V s1.2.2 n = s2 at *
  by_cases h2 : s2.2.2 = true
  · simp only [h2, if_true, if_neg (show ¬ (1 : Int) = 0 by decide)]
  · have h1 : s1.2.2 = false := by
      cases h : s1.2.2 with
      | false => rfl
      | true => exact absurd (hz h) h2
    have b1 := hs1.2.2.1 h1
    have b2 := hs2.2.2.1 (by simpa using h2)
    have m1 := fr_mul_le b1.1 b2.2
    have m2 := fr_mul_le b2.1 b1.2
    have m3 := fr_mul_le b1.2 b2.2
    have p1 := Nat.mul_pos hs1.1 hs2.2.1
    have p2 := Nat.mul_pos hs1.2.1 hs2.2.1
    obtain ⟨w1, w2, w3, w4, w5, w6⟩ := hW k hk
    have ez : s2.2.2 = false := by simpa using h2
    simp only [ez, Bool.false_eq_true, if_false, if_true]
    have c1 : (s1.1 : Int) * (s2.2.1 : Int) + (s2.1 : Int) * (s1.2.1 : Int) = ((s1.1 * s2.2.1 + s2.1 * s1.2.1 : Nat) : Int) := by simp
    have c2 : (s1.2.1 : Int) * (s2.2.1 : Int) = ((s1.2.1 * s2.2.1 : Nat) : Int) := by simp
    rw [pm_get (by decide) rfl, pm_f3_14, pm_get (by decide) rfl, pm_f3_13, c1, pm_put (fr_l (by omega)) (by decide) rfl, pm_f3_u13 rfl, pm_get (by decide) rfl, pm_f3_14]
    show gq_put (gx_l ((s1.2.1 : Int) * (s2.2.1 : Int))) _ 0 1 14 ((s1.2.1 : Int) * (s2.2.1 : Int)) _ = _
    rw [c2, pm_put (fr_l (by omega)) (by decide) rfl, pm_f3_u14 rfl, pm_cv, ez, pm_shorten X (by omega) p2 (by omega) (by omega), pl_call]
    have hok := fr_S_ok (a := s1.1 * s2.2.1 + s2.1 * s1.2.1) (b := s1.2.1 * s2.2.1) (by omega) p2 (by omega) (by omega)
    have ef : ((fr_S (s1.1 * s2.2.1 + s2.1 * s1.2.1) (s1.2.1 * s2.2.1)).1, (fr_S (s1.1 * s2.2.1 + s2.1 * s1.2.1) (s1.2.1 * s2.2.1)).2.1, false || (fr_S (s1.1 * s2.2.1 + s2.1 * s1.2.1) (s1.2.1 * s2.2.1)).2.2) = fr_S (s1.1 * s2.2.1 + s2.1 * s1.2.1) (s1.2.1 * s2.2.1) := by simp
    rw [ef, pm_gr (t := 1) (by decide) rfl (by decide), pm_ald (o := 1) (i := x + 4 + k) (by omega) (by show _ < 2000; omega), pm_gr (t := 1) (by decide) rfl (by decide), pm_ald (o := 1) (i := x + k) (by omega) (by show _ < 2000; omega), pm_f3_o (by decide), w1, w2, pm_cv, pm_times X rfl rfl hok w5 w3 w6 w4, pl_call, pm_get (by decide) rfl, pm_f3_15]
    by_cases h3 : (fr_T (fr_S (s1.1 * s2.2.1 + s2.1 * s1.2.1) (s1.2.1 * s2.2.1)) (V k) (U k)).2.2 = true
    · simp only [h3, if_true, if_neg (show ¬ (1 : Int) = 0 by decide)]
    · have e3 : (fr_T (fr_S (s1.1 * s2.2.1 + s2.1 * s1.2.1) (s1.2.1 * s2.2.1)) (V k) (U k)).2.2 = false := by simpa using h3
      simp only [e3, Bool.false_eq_true, if_false, if_true]
