/-! fractions: Euclid, lowest terms; the reference's worth -/
def eu_s : Nat → Nat → Nat → Nat × Nat
  | 0, p, q => (p, q)
  | t + 1, p, q => eu_s t q (p % q)
theorem eu_half (p q : Nat) (hq : 0 < q) (hr : 0 < p % q) : 2 * (q % (p % q)) < q := by
  have h1 : p % q < q := Nat.mod_lt _ hq
  have h2 : q % (p % q) < p % q := Nat.mod_lt _ hr
  have h3 := Nat.div_add_mod q (p % q)
  have h4 : 1 ≤ q / (p % q) := (Nat.one_le_div_iff hr).mpr (Nat.le_of_lt h1)
  have h5 : (p % q) * 1 ≤ (p % q) * (q / (p % q)) := Nat.mul_le_mul_left _ h4
  omega
theorem eu_run : ∀ (n p q : Nat), q < 2 ^ n → ∃ t, t ≤ 2 * n ∧ (eu_s t p q).2 = 0 ∧ (∀ i, i < t → (eu_s i p q).2 ≠ 0) ∧ (eu_s t p q).1 = Nat.gcd p q := by
  intro n
  induction n with
  | zero =>
    intro p q hq
    have e : q = 0 := by omega
    subst e
    exact ⟨0, by omega, rfl, fun i hi => absurd hi (by omega), by simp [eu_s]⟩
  | succ n ih =>
    intro p q hq
    by_cases h0 : q = 0
    · subst h0
      exact ⟨0, by omega, rfl, fun i hi => absurd hi (by omega), by simp [eu_s]⟩
    · have hq0 : 0 < q := by omega
      have g1 : Nat.gcd p q = Nat.gcd q (p % q) := by rw [Nat.gcd_comm p q, Nat.gcd_rec q p, Nat.gcd_comm]
      by_cases h1 : p % q = 0
      · refine ⟨1, by omega, h1, fun i hi => ?_, ?_⟩
        · rw [show i = 0 by omega]; exact h0
        · rw [g1, h1]; simp [eu_s]
      · have hr0 : 0 < p % q := by omega
        have hh := eu_half p q hq0 hr0
        have g2 : Nat.gcd q (p % q) = Nat.gcd (p % q) (q % (p % q)) := by rw [Nat.gcd_comm q, Nat.gcd_rec (p % q) q, Nat.gcd_comm]
        obtain ⟨t, h2, h3, h4, h5⟩ := ih (p % q) (q % (p % q)) (by have : 2 ^ (n + 1) = 2 * 2 ^ n := by rw [Nat.pow_succ]; omega
                                                                   omega)
        refine ⟨t + 2, by omega, h3, fun i hi => ?_, ?_⟩
        · match i, hi with
          | 0, _ => exact h0
          | 1, _ => exact h1
          | i + 2, hi => exact h4 i (by omega)
        · rw [g1, g2]; exact h5
theorem eu_succ : ∀ (t p q : Nat), eu_s (t + 1) p q = ((eu_s t p q).2, (eu_s t p q).1 % (eu_s t p q).2)
  | 0, p, q => rfl
  | t + 1, p, q => eu_succ t q (p % q)
theorem eu_le : ∀ (t p q m : Nat), p ≤ m → q ≤ m → (eu_s t p q).1 ≤ m ∧ (eu_s t p q).2 ≤ m
  | 0, p, q, m, h1, h2 => ⟨h1, h2⟩
  | t + 1, p, q, m, h1, h2 => eu_le t q (p % q) m h2 (Nat.le_trans (Nat.mod_le _ _) h1)
/-- lowest terms, and whether a number is beyond -/
def fr_S (a b : Nat) : Nat × Nat × Bool := (a / Nat.gcd a b, b / Nat.gcd a b, decide (1000000000 < a / Nat.gcd a b ∨ 1000000000 < b / Nat.gcd a b))
def fr_T (s : Nat × Nat × Bool) (p q : Nat) : Nat × Nat × Bool := if s.2.2 = true then s else fr_S (s.1 * p) (s.2.1 * q)
def fr_I (p q : Nat) : Nat → Nat × Nat × Bool → Nat × Nat × Bool
  | 0, s => s
  | t + 1, s => fr_I p q t (fr_T s p q)
def fr_P (B : Nat → Nat → Int) (k : Nat) (sg : Int) (U V : Nat → Nat) (z : Bool) : Nat → Nat × Nat × Bool
  | 0 => (1, 1, z)
  | i + 1 => fr_I (U i) (V i) (sg * B i k).toNat (fr_P B k sg U V z i)
/-- positive, and small unless it is beyond -/
def fr_ok (s : Nat × Nat × Bool) : Prop := 0 < s.1 ∧ 0 < s.2.1 ∧ (s.2.2 = false → s.1 ≤ 1000000000 ∧ s.2.1 ≤ 1000000000) ∧ s.1 ≤ 4000000000000000000 ∧ s.2.1 ≤ 4000000000000000000
theorem fr_S_ok {a b : Nat} (ha : 0 < a) (hb : 0 < b) (ha2 : a ≤ 4000000000000000000) (hb2 : b ≤ 4000000000000000000) : fr_ok (fr_S a b) := by
  have hg : 0 < Nat.gcd a b := Nat.gcd_pos_of_pos_left _ ha
  have h1 : 0 < a / Nat.gcd a b := Nat.div_pos (Nat.le_of_dvd ha (Nat.gcd_dvd_left a b)) hg
  have h2 : 0 < b / Nat.gcd a b := Nat.div_pos (Nat.le_of_dvd hb (Nat.gcd_dvd_right a b)) hg
  have h3 : a / Nat.gcd a b ≤ a := Nat.div_le_self _ _
  have h4 : b / Nat.gcd a b ≤ b := Nat.div_le_self _ _
  refine ⟨h1, h2, fun h => ?_, Nat.le_trans h3 ha2, Nat.le_trans h4 hb2⟩
  have h5 : ¬ (1000000000 < a / Nat.gcd a b ∨ 1000000000 < b / Nat.gcd a b) := of_decide_eq_false h
  show a / Nat.gcd a b ≤ _ ∧ b / Nat.gcd a b ≤ _
  omega
theorem fr_mul_le {a b : Nat} (ha : a ≤ 1000000000) (hb : b ≤ 1000000000) : a * b ≤ 1000000000000000000 := Nat.mul_le_mul ha hb
theorem fr_T_ok {s : Nat × Nat × Bool} {p q : Nat} (h : fr_ok s) (hp : 0 < p) (hq : 0 < q) (hp2 : p ≤ 1000000000) (hq2 : q ≤ 1000000000) : fr_ok (fr_T s p q) := by
  unfold fr_T
  by_cases hz : s.2.2 = true
  · rw [if_pos hz]; exact h
  · rw [if_neg hz]
    have hs := h.2.2.1 (by simpa using hz)
    have e1 := fr_mul_le hs.1 hp2
    have e2 := fr_mul_le hs.2 hq2
    exact fr_S_ok (Nat.mul_pos h.1 hp) (Nat.mul_pos h.2.1 hq) (by omega) (by omega)
theorem fr_I_ok {p q : Nat} (hp : 0 < p) (hq : 0 < q) (hp2 : p ≤ 1000000000) (hq2 : q ≤ 1000000000) : ∀ (t : Nat) (s : Nat × Nat × Bool), fr_ok s → fr_ok (fr_I p q t s)
  | 0, s, h => h
  | t + 1, s, h => fr_I_ok hp hq hp2 hq2 t _ (fr_T_ok h hp hq hp2 hq2)
theorem fr_I_succ (p q : Nat) : ∀ (t : Nat) (s : Nat × Nat × Bool), fr_I p q (t + 1) s = fr_T (fr_I p q t s) p q
  | 0, s => rfl
  | t + 1, s => fr_I_succ p q t (fr_T s p q)
theorem fr_P_ok {B : Nat → Nat → Int} {k n : Nat} {sg : Int} {U V : Nat → Nat} {z : Bool} (hU : ∀ i, i < n → 0 < U i ∧ U i ≤ 1000000000 ∧ 0 < V i ∧ V i ≤ 1000000000) : ∀ i, i ≤ n → fr_ok (fr_P B k sg U V z i) := by
  intro i
  induction i with
  | zero => intro _; exact ⟨Nat.one_pos, Nat.one_pos, fun _ => ⟨Nat.le_of_ble_eq_true rfl, Nat.le_of_ble_eq_true rfl⟩, Nat.le_of_ble_eq_true rfl, Nat.le_of_ble_eq_true rfl⟩
  | succ i ih =>
    intro hi
    obtain ⟨h1, h2, h3, h4⟩ := hU i (by omega)
    exact fr_I_ok h1 h3 h2 h4 _ _ (ih (by omega))
/-- the three fields of the reference's fraction -/
def pm_f3 (X : Nat → Nat → Int) (s : Nat × Nat × Bool) : Nat → Nat → Int := gx_us X 0 (fun j => if j = 13 then (s.1 : Int) else if j = 14 then (s.2.1 : Int) else if j = 15 then (if s.2.2 = true then 1 else 0) else X 0 j)
theorem pm_f3_13 {X : Nat → Nat → Int} {s : Nat × Nat × Bool} : pm_f3 X s 0 13 = (s.1 : Int) := by simp [pm_f3, gx_us]
theorem pm_f3_14 {X : Nat → Nat → Int} {s : Nat × Nat × Bool} : pm_f3 X s 0 14 = (s.2.1 : Int) := by simp [pm_f3, gx_us]
theorem pm_f3_15 {X : Nat → Nat → Int} {s : Nat × Nat × Bool} : pm_f3 X s 0 15 = if s.2.2 = true then 1 else 0 := by simp [pm_f3, gx_us]
theorem pm_f3_j {X : Nat → Nat → Int} {s : Nat × Nat × Bool} {j : Nat} (h1 : j ≠ 13) (h2 : j ≠ 14) (h3 : j ≠ 15) : pm_f3 X s 0 j = X 0 j := by simp [pm_f3, gx_us, h1, h2, h3]
theorem pm_f3_o {X : Nat → Nat → Int} {s : Nat × Nat × Bool} {o : Nat} (h : o ≠ 0) : pm_f3 X s o = X o := by
  unfold pm_f3
  exact gx_us_ne h
theorem pm_f3_u13 {X : Nat → Nat → Int} {s : Nat × Nat × Bool} {v : Nat} {w : Int} (hw : w = (v : Int)) : gx_up (pm_f3 X s) 0 13 w = pm_f3 X (v, s.2) := by
  subst hw
  funext o j
  unfold gx_up pm_f3 gx_us gx_u1
  by_cases e : o = 0
  · subst e
    by_cases e2 : j = 13
    · simp [e2]
    · simp [e2]
  · simp [e]
theorem pm_f3_u14 {X : Nat → Nat → Int} {s : Nat × Nat × Bool} {v : Nat} {w : Int} (hw : w = (v : Int)) : gx_up (pm_f3 X s) 0 14 w = pm_f3 X (s.1, v, s.2.2) := by
  subst hw
  funext o j
  unfold gx_up pm_f3 gx_us gx_u1
  by_cases e : o = 0
  · subst e
    by_cases e2 : j = 13
    · simp [e2]
    · by_cases e3 : j = 14
      · simp [e3]
      · simp [e2, e3]
  · simp [e]
theorem pm_f3_u15 {X : Nat → Nat → Int} {s : Nat × Nat × Bool} {z : Bool} {w : Int} (hw : w = if z = true then 1 else 0) : gx_up (pm_f3 X s) 0 15 w = pm_f3 X (s.1, s.2.1, z) := by
  subst hw
  funext o j
  unfold gx_up pm_f3 gx_us gx_u1
  by_cases e : o = 0
  · subst e
    by_cases e2 : j = 13
    · simp [e2]
    · by_cases e3 : j = 14
      · simp [e3]
      · by_cases e4 : j = 15
        · simp [e4]
        · simp [e2, e3, e4]
  · simp [e]
theorem pm_f3_f3 {X : Nat → Nat → Int} {s t : Nat × Nat × Bool} : pm_f3 (pm_f3 X s) t = pm_f3 X t := by
  funext o j
  unfold pm_f3 gx_us
  by_cases e : o = 0
  · subst e
    by_cases e2 : j = 13
    · simp [e2]
    · by_cases e3 : j = 14
      · simp [e3]
      · by_cases e4 : j = 15
        · simp [e4]
        · simp [e2, e3, e4]
  · simp [e]
theorem gq_cmp_pos {a b : Int} : 0 < gq_cmp a b ↔ b < a := by
  unfold gq_cmp
  split
  · omega
  · split <;> omega
theorem gq_cmp_zero {a b : Int} : gq_cmp a b = 0 ↔ a = b := by
  unfold gq_cmp
  split
  · omega
  · split <;> omega
theorem fr_l {v : Nat} (h : v ≤ 4000000000000000000) : gx_l (v : Int) := by constructor <;> omega
set_option maxHeartbeats 1000000 in
theorem pm_shorten (X : Nat → Nat → Int) {a b : Nat} {z : Bool} (ha : 0 < a) (hb : 0 < b) (ha2 : a ≤ 4000000000000000000) (hb2 : b ≤ 4000000000000000000) : f_MD_shorten (pm_h (pm_f3 X (a, b, z))) 0 = some (0, pm_h (pm_f3 X ((fr_S a b).1, (fr_S a b).2.1, z || (fr_S a b).2.2))) := by
  unfold f_MD_shorten
  rw [pm_get (by decide) rfl, pm_get (by decide) rfl, pm_f3_13, pm_f3_14]
  obtain ⟨t, h1, h2, h3, h4⟩ := eu_run 64 a b (by omega)
  have hle := fun i => eu_le i a b 4000000000000000000 ha2 hb2
  refine pl_loop0 (A := fun fu i => f_MD_shorten_10 fu (pm_h (pm_f3 X (a, b, z))) 0 ((eu_s i a b).1 : Int) ((eu_s i a b).2 : Int)) t (by omega) (fun i hi fu => ?_) (fun fu => ?_)
  · show fb_MD_shorten_10 (f_MD_shorten_10 fu) _ 0 _ _ = _
    unfold fb_MD_shorten_10
    have hl := hle i
    have hq := h3 i hi
    rw [pl_gl (by omega) (by omega), if_neg (by rw [gq_cmp_zero]; omega), pl_gl (by omega) (by omega), gq_g_ok (by omega), ← Int.ofNat_tmod, eu_succ]
  · show fb_MD_shorten_10 (f_MD_shorten_10 fu) _ 0 _ _ = _
    unfold fb_MD_shorten_10 fb_MD_shorten_79
    have hg : 0 < Nat.gcd a b := Nat.gcd_pos_of_pos_left _ ha
    have hg2 : Nat.gcd a b ≤ a := Nat.le_of_dvd ha (Nat.gcd_dvd_left a b)
    have d1 : a / Nat.gcd a b ≤ a := Nat.div_le_self _ _
    have d2 : b / Nat.gcd a b ≤ b := Nat.div_le_self _ _
    rw [h2, h4, pl_gl (by omega) (by omega), if_pos (by rw [gq_cmp_zero]; rfl), pm_get (by decide) rfl, gq_g_ok (by omega), pl_gl (by omega) (by omega), pm_f3_13]
    rw [← Int.ofNat_tdiv, pm_put (fr_l (Nat.le_trans d1 ha2)) (by decide) rfl, pm_f3_u13 rfl, pm_get (by decide) rfl, pm_f3_14, ← Int.ofNat_tdiv, pm_put (fr_l (Nat.le_trans d2 hb2)) (by decide) rfl, pm_f3_u14 rfl, pm_get (by decide) rfl, pm_f3_15]
    cases z with
    | true =>
      simp only [if_true, if_neg (show ¬ (1 : Int) = 0 by decide)]
      rw [pm_put trivial (by decide) rfl, pm_f3_u15 (z := true) (w := 1) rfl]
      rfl
    | false =>
      simp only [Bool.false_eq_true, if_false, if_true]
      rw [pm_get (by decide) rfl, pm_f3_13]
      by_cases c1 : 1000000000 < a / Nat.gcd a b
      · rw [if_pos (by rw [gq_cmp_pos]; show (1000000000 : Int) < ((a / Nat.gcd a b : Nat) : Int); omega), pm_put trivial (by decide) rfl, pm_f3_u15 (z := true) (w := 1) rfl]
        simp only [fr_S, decide_eq_true (show 1000000000 < a / Nat.gcd a b ∨ 1000000000 < b / Nat.gcd a b from Or.inl c1)]
        rfl
      · rw [if_neg (by rw [gq_cmp_pos]; show ¬ (1000000000 : Int) < ((a / Nat.gcd a b : Nat) : Int); omega), pm_get (by decide) rfl, pm_f3_14]
        by_cases c2 : 1000000000 < b / Nat.gcd a b
        · rw [if_pos (by rw [gq_cmp_pos]; show (1000000000 : Int) < ((b / Nat.gcd a b : Nat) : Int); omega), pm_put trivial (by decide) rfl, pm_f3_u15 (z := true) (w := 1) rfl]
          simp only [fr_S, decide_eq_true (show 1000000000 < a / Nat.gcd a b ∨ 1000000000 < b / Nat.gcd a b from Or.inr c2)]
          rfl
        · rw [if_neg (by rw [gq_cmp_pos]; show ¬ (1000000000 : Int) < ((b / Nat.gcd a b : Nat) : Int); omega), pm_put trivial (by decide) rfl, pm_f3_u15 (z := false) (w := 0) rfl]
          simp only [fr_S, decide_eq_false (show ¬ (1000000000 < a / Nat.gcd a b ∨ 1000000000 < b / Nat.gcd a b) by omega)]
          rfl
theorem pm_times (X : Nat → Nat → Int) {s : Nat × Nat × Bool} {p q : Nat} {a b : Int} (ha : a = (p : Int)) (hb : b = (q : Int)) (h : fr_ok s) (hp : 0 < p) (hq : 0 < q) (hp2 : p ≤ 1000000000) (hq2 : q ≤ 1000000000) : f_MD_times (pm_h (pm_f3 X s)) 0 a b = some (0, pm_h (pm_f3 X (fr_T s p q))) := by
  subst ha hb
  unfold f_MD_times fr_T
  rw [pm_get (by decide) rfl, pm_f3_15]
  by_cases hz : s.2.2 = true
  · rw [if_pos hz, if_pos hz, if_neg (by decide)]
  · have hs := h.2.2.1 (by simpa using hz)
    have e1 := fr_mul_le hs.1 hp2
    have e2 := fr_mul_le hs.2 hq2
    rw [if_neg hz, if_neg hz, if_pos rfl, pm_get (by decide) rfl, pm_f3_13, ← Int.natCast_mul, pm_put (fr_l (by omega)) (by decide) rfl, pm_f3_u13 rfl, pm_get (by decide) rfl, pm_f3_14, ← Int.natCast_mul, pm_put (fr_l (Nat.le_trans e2 (by decide))) (by decide) rfl, pm_f3_u14 rfl, pm_cv]
    rw [pm_shorten X (Nat.mul_pos h.1 hp) (Nat.mul_pos h.2.1 hq) (by omega) (by omega), pl_call]
    have ez : s.2.2 = false := by simpa using hz
    show some ((0 : Int), pm_h (pm_f3 X (_, _, s.2.2 || _))) = _
    rw [ez]
    rfl
