/-! the component's fractions -/
def pc_F (Z : Nat → Nat → Int) (f a b : Nat) : Nat → Nat → Int := gx_us Z f (fun j => if j = 0 then (a : Int) else if j = 1 then (b : Int) else Z f j)
theorem pc_F_0 {Z : Nat → Nat → Int} {f a b : Nat} : pc_F Z f a b f 0 = (a : Int) := by unfold pc_F; rw [gx_us_eq]; rfl
theorem pc_F_1 {Z : Nat → Nat → Int} {f a b : Nat} : pc_F Z f a b f 1 = (b : Int) := by unfold pc_F; rw [gx_us_eq]; rfl
theorem pc_F_o {Z : Nat → Nat → Int} {f a b o : Nat} (h : o ≠ f) : pc_F Z f a b o = Z o := gx_us_ne h
theorem pc_F_u0 {Z : Nat → Nat → Int} {f a b v : Nat} {w : Int} (hw : w = (v : Int)) : gx_up (pc_F Z f a b) f 0 w = pc_F Z f v b := by
  subst hw
  unfold pc_F
  rw [gx_up_us]
  congr 1
  funext j
  unfold gx_u1
  by_cases h : j = 0
  · simp [h]
  · simp [h]
theorem pc_F_u1 {Z : Nat → Nat → Int} {f a b v : Nat} {w : Int} (hw : w = (v : Int)) : gx_up (pc_F Z f a b) f 1 w = pc_F Z f a v := by
  subst hw
  unfold pc_F
  rw [gx_up_us]
  congr 1
  funext j
  unfold gx_u1
  by_cases h : j = 1
  · subst h; simp
  · simp [h]
theorem pc_F_F {Z : Nat → Nat → Int} {f a b a' b' : Nat} : pc_F (pc_F Z f a b) f a' b' = pc_F Z f a' b' := by
  unfold pc_F
  funext o j
  by_cases e : o = f
  · subst e
    rw [gx_us_eq, gx_us_eq, gx_us_eq]
    by_cases h0 : j = 0
    · simp [h0]
    · by_cases h1 : j = 1
      · simp [h1]
      · simp [h0, h1]
  · rw [gx_us_ne e, gx_us_ne e, gx_us_ne e]
theorem pc_F_r : ∀ f, f = 6 ∨ f = 7 → pc_L[f]? = some (7, 2) ∧ pc_r f 0 = 0 ∧ pc_r f 1 = 0 := by
  intro f h
  rcases h with e | e <;> subst e <;> exact ⟨by decide +kernel, by decide +kernel, by decide +kernel⟩
theorem pc_FL {f : Nat} (h : f = 6 ∨ f = 7) : pc_L[f]? = some (4 + 3, 2) := (pc_F_r f h).1
theorem fb_small69 (Z : Nat → Nat → Int) {f a b : Nat} (hf : f = 6 ∨ f = 7) : fb_FR_isSmallInLowestTerms_69 (pc_h (pc_F Z f a b)) f = some (if 1000000000 < a ∨ 1000000000 < b then 0 else 1, pc_h (pc_F Z f a b)) := by
  obtain ⟨-, r0, r1⟩ := pc_F_r f hf
  unfold fb_FR_isSmallInLowestTerms_69 fb_FR_isSmallInLowestTerms_95
  rw [pc_get (pc_FL hf) (by decide) r0, pc_F_0]
  by_cases c1 : 1000000000 < a
  · rw [if_pos (by rw [gq_cmp_pos]; omega), if_pos (Or.inl c1)]
  · rw [if_neg (by rw [gq_cmp_pos]; omega), pc_get (pc_FL hf) (by decide) r1, pc_F_1]
    by_cases c2 : 1000000000 < b
    · rw [if_pos (by rw [gq_cmp_pos]; omega), if_pos (Or.inr c2)]
    · rw [if_neg (by rw [gq_cmp_pos]; omega), if_neg (by omega)]
set_option maxHeartbeats 1000000 in
theorem pc_small (Z : Nat → Nat → Int) {f a b : Nat} (hf : f = 6 ∨ f = 7) (ha : 0 < a) (hb : 0 < b) (ha2 : a ≤ 4000000000000000000) (hb2 : b ≤ 4000000000000000000) : f_FR_isSmallInLowestTerms (pc_h (pc_F Z f a b)) f = some (if (fr_S a b).2.2 = true then 0 else 1, pc_h (pc_F Z f (fr_S a b).1 (fr_S a b).2.1)) := by
  obtain ⟨-, r0, r1⟩ := pc_F_r f hf
  unfold f_FR_isSmallInLowestTerms
  rw [pc_get (pc_FL hf) (by decide) r0, pc_get (pc_FL hf) (by decide) r1, pc_F_0, pc_F_1]
  obtain ⟨t, h1, h2, h3, h4⟩ := eu_run 64 a b (by omega)
  have hle := fun i => eu_le i a b 4000000000000000000 ha2 hb2
  refine pl_loop0 (A := fun fu i => f_FR_isSmallInLowestTerms_13 fu (pc_h (pc_F Z f a b)) f ((eu_s i a b).1 : Int) ((eu_s i a b).2 : Int) (i : Int)) t (by omega) (fun i hi fu => ?_) (fun fu => ?_)
  · show fb_FR_isSmallInLowestTerms_13 (f_FR_isSmallInLowestTerms_13 fu) _ _ _ _ _ = _
    unfold fb_FR_isSmallInLowestTerms_13
    have hl := hle i
    have hq := h3 i hi
    rw [pl_gi (by omega) (by omega), if_pos (by omega), pl_gl (by omega) (by omega), if_neg (by rw [gq_cmp_zero]; omega), pl_gl (by omega) (by omega), gq_g_ok (by omega), ← Int.ofNat_tmod, eu_succ]
    rfl
  · show fb_FR_isSmallInLowestTerms_13 (f_FR_isSmallInLowestTerms_13 fu) _ _ _ _ _ = _
    unfold fb_FR_isSmallInLowestTerms_13 fb_FR_isSmallInLowestTerms_43
    have hg : 0 < Nat.gcd a b := Nat.gcd_pos_of_pos_left _ ha
    have hg2 : Nat.gcd a b ≤ a := Nat.le_of_dvd ha (Nat.gcd_dvd_left a b)
    have d1 : a / Nat.gcd a b ≤ a := Nat.div_le_self _ _
    have d2 : b / Nat.gcd a b ≤ b := Nat.div_le_self _ _
    have hfl : ∀ P : Prop, [Decidable P] → (P ↔ (1000000000 < a / Nat.gcd a b ∨ 1000000000 < b / Nat.gcd a b)) → (some ((if P then (0 : Int) else 1), pc_h (pc_F Z f (a / Nat.gcd a b) (b / Nat.gcd a b))) : Option (Int × gx_H)) = some (if (fr_S a b).2.2 = true then 0 else 1, pc_h (pc_F Z f (fr_S a b).1 (fr_S a b).2.1)) := by
      intro P _ hP
      unfold fr_S
      by_cases hp : P
      · rw [if_pos hp, if_pos (decide_eq_true (hP.mp hp))]
      · rw [if_neg hp, if_neg (by rw [decide_eq_false (fun z => hp (hP.mpr z))]; exact Bool.false_ne_true)]
    rw [h2, h4, pl_gi (by omega) (by omega), if_pos (by omega), pl_gl (by omega) (by omega), if_pos (by rw [gq_cmp_zero]; rfl), pl_gl (by omega) (by omega)]
    by_cases c : 1 < Nat.gcd a b
    · rw [if_pos (by rw [gq_cmp_pos]; omega), pc_get (pc_FL hf) (by decide) r0, gq_g_ok (by omega), pc_F_0, ← Int.ofNat_tdiv, pc_put (fr_l (Nat.le_trans d1 ha2)) (pc_FL hf) (by decide) r0, pc_F_u0 rfl, pc_get (pc_FL hf) (by decide) r1, pc_F_1, ← Int.ofNat_tdiv, pc_put (fr_l (Nat.le_trans d2 hb2)) (pc_FL hf) (by decide) r1, pc_F_u1 rfl, fb_small69 Z hf]
      exact hfl _ Iff.rfl
    · have e1 : Nat.gcd a b = 1 := by omega
      rw [if_neg (by rw [gq_cmp_pos]; omega), fb_small69 Z hf]
      have := hfl (1000000000 < a ∨ 1000000000 < b) (by rw [e1, Nat.div_one, Nat.div_one])
      rw [e1, Nat.div_one, Nat.div_one] at this
      exact this
theorem pc_multiply (Z : Nat → Nat → Int) {f p q : Nat} {s : Nat × Nat × Bool} {a b : Int} (hf : f = 6 ∨ f = 7) (ha : a = (p : Int)) (hb : b = (q : Int)) (h : fr_ok s) (hz : s.2.2 = false) (hp : 0 < p) (hq : 0 < q) (hp2 : p ≤ 1000000000) (hq2 : q ≤ 1000000000) : f_FR_multiply (pc_h (pc_F Z f s.1 s.2.1)) f a b = some (if (fr_T s p q).2.2 = true then 0 else 1, pc_h (pc_F Z f (fr_T s p q).1 (fr_T s p q).2.1)) := by
  subst ha hb
  obtain ⟨-, r0, r1⟩ := pc_F_r f hf
  have hs := h.2.2.1 hz
  have e1 := fr_mul_le hs.1 hp2
  have e2 := fr_mul_le hs.2 hq2
  have eT : fr_T s p q = fr_S (s.1 * p) (s.2.1 * q) := by unfold fr_T; rw [if_neg (by rw [hz]; decide)]
  unfold f_FR_multiply
  rw [eT, pc_get (pc_FL hf) (by decide) r0, pc_F_0, ← Int.natCast_mul, pc_put (fr_l (by omega)) (pc_FL hf) (by decide) r0, pc_F_u0 rfl, pc_get (pc_FL hf) (by decide) r1, pc_F_1, ← Int.natCast_mul, pc_put (fr_l (by omega)) (pc_FL hf) (by decide) r1, pc_F_u1 rfl, pc_cv (pc_FL hf), pc_small Z hf (Nat.mul_pos h.1 hp) (Nat.mul_pos h.2.1 hq) (by omega) (by omega), pl_call, gq_g_ok (by split <;> simp)]
/-- the worths of a state -/
def pc_W (n : Nat) (Z : Nat → Nat → Int) (S : Nat) (U V : Nat → Nat) : Prop := ∀ i, i < n → Z (S + 4) i = (U i : Int) ∧ Z (S + 5) i = (V i : Int) ∧ 0 < U i ∧ U i ≤ 1000000000 ∧ 0 < V i ∧ V i ≤ 1000000000
theorem pc_S_ge : ∀ s, pc_S s = true → 10 ≤ s := by
  intro s h
  have h1 : s ∈ ([10, 18, 26, 34, 42, 50, 58, 66, 74, 82, 90, 98, 106, 114, 122, 130, 138, 146, 154, 162, 202, 211, 219, 230, 238] : List Nat) := by simpa [pc_S] using h
  have h2 : ∀ x ∈ ([10, 18, 26, 34, 42, 50, 58, 66, 74, 82, 90, 98, 106, 114, 122, 130, 138, 146, 154, 162, 202, 211, 219, 230, 238] : List Nat), 10 ≤ x := by decide
  exact h2 s h1
set_option maxHeartbeats 1000000 in
theorem pc_multiplyAll (Z : Nat → Nat → Int) {f S k n : Nat} {a sg : Int} {U V : Nat → Nat} (hf : f = 6 ∨ f = 7) (hS : pc_S S = true) (hn : Z (S + 1) 0 = (n : Int)) (hn4 : n ≤ 4) (ha : a = (k : Int)) (hk : k < n) (hsg : sg = 1 ∨ sg = -1) (hB : mu_bd n (pc_T Z (S + 2))) (hW : pc_W n Z S U V) :
    ((fr_P (pc_T Z (S + 2)) k sg U V false n).2.2 = false → f_EX_multiplyAll (pc_h Z) f S a sg = some (1, pc_h (pc_F Z f (fr_P (pc_T Z (S + 2)) k sg U V false n).1 (fr_P (pc_T Z (S + 2)) k sg U V false n).2.1))) ∧
    ((fr_P (pc_T Z (S + 2)) k sg U V false n).2.2 = true → ∃ c d, f_EX_multiplyAll (pc_h Z) f S a sg = some (0, pc_h (pc_F Z f c d))) := by
  subst ha
  obtain ⟨g0, gh, g4, g5, g6, g7⟩ := pc_S_all S (pc_S_lt hS) hS
  obtain ⟨q0, q1, q2, q3, q4, q5⟩ := pc_S_ref S (pc_S_lt hS) hS
  obtain ⟨v0, v1, v2, w0, w1, w2⟩ := pc_H_all (S + 1) (pc_H_lt gh) gh
  have hge := pc_S_ge S hS
  have hfo : ∀ o, 10 ≤ o → o ≠ f := fun o ho => by rcases hf with e | e <;> omega
  obtain ⟨-, r0, r1⟩ := pc_F_r f hf
  have hU : ∀ i, i < n → 0 < U i ∧ U i ≤ 1000000000 ∧ 0 < V i ∧ V i ≤ 1000000000 := fun i hi => (hW i hi).2.2
  unfold f_EX_multiplyAll f_FR_becomeOne
  have e0 : gx_up (gx_up Z f 0 1) f 1 1 = pc_F Z f 1 1 := by
    rw [gx_up_up]
    unfold pc_F
    congr 1
    funext j
    unfold gx_u1
    by_cases h1 : j = 1
    · simp [h1]
    · by_cases h0 : j = 0
      · simp [h0]
      · simp [h0, h1]
  rw [pc_cv (pc_FL hf), pc_put trivial (pc_FL hf) (by decide) r0, pc_put trivial (pc_FL hf) (by decide) r1, pl_call, e0]
  -- the inner loop
  have inner : ∀ (fu : Nat) (i : Nat), i < n → ∀ (T d t gu : Nat), t + d = T → d < gu → ∀ (s : Nat × Nat × Bool), fr_ok s → (fr_I (U i) (V i) t s).2.2 = false → T < 1000 →
      ((fr_I (U i) (V i) T s).2.2 = false → f_EX_multiplyAll_40 (f_EX_multiplyAll_7 fu) gu (pc_h (pc_F Z f (fr_I (U i) (V i) t s).1 (fr_I (U i) (V i) t s).2.1)) f S (k : Int) sg (i : Int) (T : Int) (t : Int) = f_EX_multiplyAll_7 fu (pc_h (pc_F Z f (fr_I (U i) (V i) T s).1 (fr_I (U i) (V i) T s).2.1)) f S (k : Int) sg ((i : Int) + 1)) ∧
      ((fr_I (U i) (V i) T s).2.2 = true → ∃ c d, f_EX_multiplyAll_40 (f_EX_multiplyAll_7 fu) gu (pc_h (pc_F Z f (fr_I (U i) (V i) t s).1 (fr_I (U i) (V i) t s).2.1)) f S (k : Int) sg (i : Int) (T : Int) (t : Int) = some (0, pc_h (pc_F Z f c d))) := by
    intro fu i hi T d
    obtain ⟨x1, x2, x3, x4, x5, x6⟩ := hW i hi
    induction d with
    | zero =>
      intro t gu ht hg s hs hz hT
      obtain ⟨g, rfl⟩ : ∃ g, gu = g + 1 := ⟨gu - 1, by omega⟩
      have e : t = T := by omega
      subst e
      refine ⟨fun _ => ?_, fun h => by rw [hz] at h; cases h⟩
      show fb_EX_multiplyAll_40 (f_EX_multiplyAll_7 fu) (f_EX_multiplyAll_40 (f_EX_multiplyAll_7 fu) g) _ _ _ _ _ _ _ _ = _
      unfold fb_EX_multiplyAll_40
      rw [pl_gi (by omega) (by omega), pl_gi (by omega) (by omega), if_neg (by omega)]
    | succ d ih =>
      intro t gu ht hg s hs hz hT
      obtain ⟨g, rfl⟩ : ∃ g, gu = g + 1 := ⟨gu - 1, by omega⟩
      have hok := fr_I_ok x3 x5 x4 x6 t s hs
      have hstep : f_EX_multiplyAll_40 (f_EX_multiplyAll_7 fu) (g + 1) (pc_h (pc_F Z f (fr_I (U i) (V i) t s).1 (fr_I (U i) (V i) t s).2.1)) f S (k : Int) sg (i : Int) (T : Int) (t : Int) = if (fr_I (U i) (V i) (t + 1) s).2.2 = true then some (0, pc_h (pc_F Z f (fr_I (U i) (V i) (t + 1) s).1 (fr_I (U i) (V i) (t + 1) s).2.1)) else f_EX_multiplyAll_40 (f_EX_multiplyAll_7 fu) g (pc_h (pc_F Z f (fr_I (U i) (V i) (t + 1) s).1 (fr_I (U i) (V i) (t + 1) s).2.1)) f S (k : Int) sg (i : Int) (T : Int) ((t + 1 : Nat) : Int) := by
        show fb_EX_multiplyAll_40 (f_EX_multiplyAll_7 fu) (f_EX_multiplyAll_40 (f_EX_multiplyAll_7 fu) g) _ _ _ _ _ _ _ _ = _
        unfold fb_EX_multiplyAll_40
        rw [pl_gi (by omega) (by omega), pl_gi (by omega) (by omega), if_pos (by omega), pc_gr g0 (by decide) q1 (by omega), pc_ald (i := i) g4 rfl (by omega), pc_F_o (hfo _ (by omega)), x1, pc_gr g0 (by decide) q2 (by omega), pc_ald (i := i) g5 rfl (by omega), pc_F_o (hfo _ (by omega)), x2, pc_cv (pc_FL hf), pc_multiply Z hf rfl rfl hok hz x3 x5 x4 x6, pl_call, ← fr_I_succ]
        by_cases hb : (fr_I (U i) (V i) (t + 1) s).2.2 = true
        · rw [if_pos hb, if_pos hb, pl_gi (by decide) (by decide), if_pos rfl]
        · rw [if_neg hb, if_neg hb, pl_gi (by decide) (by decide), if_neg (by decide)]; rfl
      rw [hstep]
      by_cases hb : (fr_I (U i) (V i) (t + 1) s).2.2 = true
      · rw [if_pos hb]
        have hall : (fr_I (U i) (V i) T s).2.2 = true := by
          have : ∀ m, (fr_I (U i) (V i) (t + 1 + m) s).2.2 = true := by
            intro m
            induction m with
            | zero => exact hb
            | succ m ihm => rw [show t + 1 + (m + 1) = t + 1 + m + 1 by omega, fr_I_succ]; exact fr_T_z ihm
          have := this (T - (t + 1))
          rwa [show t + 1 + (T - (t + 1)) = T by omega] at this
        exact ⟨fun h => (by rw [hall] at h; cases h), fun _ => ⟨_, _, rfl⟩⟩
      · rw [if_neg hb]
        exact ih (t + 1) g (by omega) (by omega) s hs (by simpa using hb) hT
  -- the outer one
  have outer : ∀ (d i fu : Nat), i + d = n → d < fu → (fr_P (pc_T Z (S + 2)) k sg U V false i).2.2 = false →
      ((fr_P (pc_T Z (S + 2)) k sg U V false n).2.2 = false → f_EX_multiplyAll_7 fu (pc_h (pc_F Z f (fr_P (pc_T Z (S + 2)) k sg U V false i).1 (fr_P (pc_T Z (S + 2)) k sg U V false i).2.1)) f S (k : Int) sg (i : Int) = some (1, pc_h (pc_F Z f (fr_P (pc_T Z (S + 2)) k sg U V false n).1 (fr_P (pc_T Z (S + 2)) k sg U V false n).2.1))) ∧
      ((fr_P (pc_T Z (S + 2)) k sg U V false n).2.2 = true → ∃ c d, f_EX_multiplyAll_7 fu (pc_h (pc_F Z f (fr_P (pc_T Z (S + 2)) k sg U V false i).1 (fr_P (pc_T Z (S + 2)) k sg U V false i).2.1)) f S (k : Int) sg (i : Int) = some (0, pc_h (pc_F Z f c d))) := by
    intro d
    induction d with
    | zero =>
      intro i fu hi hf2 hz
      obtain ⟨g, rfl⟩ : ∃ g, fu = g + 1 := ⟨fu - 1, by omega⟩
      have e : i = n := by omega
      subst e
      refine ⟨fun _ => ?_, fun h => by rw [hz] at h; cases h⟩
      show fb_EX_multiplyAll_7 (f_EX_multiplyAll_7 g) _ _ _ _ _ _ = _
      unfold fb_EX_multiplyAll_7
      rw [pc_gr g0 (by decide) q0 (by omega), pc_get v0 (by decide) w0, pc_F_o (hfo _ (by omega)), hn, pl_gi (by omega) (by omega), if_neg (by omega)]
    | succ d ih =>
      intro i fu hi hf2 hz
      obtain ⟨g, rfl⟩ : ∃ g, fu = g + 1 := ⟨fu - 1, by omega⟩
      have hin : i < n := by omega
      have hb := hB i hin k hk
      have hsb : -99 ≤ sg * pc_T Z (S + 2) i k ∧ sg * pc_T Z (S + 2) i k ≤ 99 := by rcases hsg with e | e <;> subst e <;> omega
      have hok := fr_P_ok (B := pc_T Z (S + 2)) (k := k) (sg := sg) (z := false) hU i (by omega)
      have eP : fr_P (pc_T Z (S + 2)) k sg U V false (i + 1) = fr_I (U i) (V i) (sg * pc_T Z (S + 2) i k).toNat (fr_P (pc_T Z (S + 2)) k sg U V false i) := rfl
      have hrun : f_EX_multiplyAll_7 (g + 1) (pc_h (pc_F Z f (fr_P (pc_T Z (S + 2)) k sg U V false i).1 (fr_P (pc_T Z (S + 2)) k sg U V false i).2.1)) f S (k : Int) sg (i : Int) = f_EX_multiplyAll_40 (f_EX_multiplyAll_7 g) gx_fu (pc_h (pc_F Z f (fr_P (pc_T Z (S + 2)) k sg U V false i).1 (fr_P (pc_T Z (S + 2)) k sg U V false i).2.1)) f S (k : Int) sg (i : Int) (sg * pc_T Z (S + 2) i k) 0 := by
        show fb_EX_multiplyAll_7 (f_EX_multiplyAll_7 g) _ _ _ _ _ _ = _
        unfold fb_EX_multiplyAll_7 f_LE_cell
        rw [pc_gr g0 (by decide) q0 (by omega), pc_get v0 (by decide) w0, pc_F_o (hfo _ (by omega)), hn, pl_gi (by omega) (by omega), if_pos (by omega), pc_gr g0 (by decide) q0 (by omega), pc_gr v0 (by decide) w1 (by omega), pl_call, pc_ald (i := 4 * i + k) v1 (by omega) (by omega), pc_F_o (hfo _ (by omega))]
        rfl
      rw [hrun]
      by_cases hneg : sg * pc_T Z (S + 2) i k ≤ 0
      · -- nothing to multiply
        have e1 : (sg * pc_T Z (S + 2) i k).toNat = 0 := by omega
        rw [e1] at eP
        have eP' : fr_P (pc_T Z (S + 2)) k sg U V false (i + 1) = fr_P (pc_T Z (S + 2)) k sg U V false i := eP
        have hskip : f_EX_multiplyAll_40 (f_EX_multiplyAll_7 g) gx_fu (pc_h (pc_F Z f (fr_P (pc_T Z (S + 2)) k sg U V false i).1 (fr_P (pc_T Z (S + 2)) k sg U V false i).2.1)) f S (k : Int) sg (i : Int) (sg * pc_T Z (S + 2) i k) 0 = f_EX_multiplyAll_7 g (pc_h (pc_F Z f (fr_P (pc_T Z (S + 2)) k sg U V false (i + 1)).1 (fr_P (pc_T Z (S + 2)) k sg U V false (i + 1)).2.1)) f S (k : Int) sg ((i + 1 : Nat) : Int) := by
          show fb_EX_multiplyAll_40 (f_EX_multiplyAll_7 g) (f_EX_multiplyAll_40 (f_EX_multiplyAll_7 g) 999999) _ _ _ _ _ _ _ _ = _
          unfold fb_EX_multiplyAll_40
          rw [pl_gi (by omega) (by omega), pl_gi (by omega) (by omega), if_neg (by omega), eP']
          rfl
        rw [hskip]
        exact ih (i + 1) g (by omega) (by omega) (by rw [eP']; exact hz)
      · have eT : ((sg * pc_T Z (S + 2) i k).toNat : Int) = sg * pc_T Z (S + 2) i k := by omega
        have hin2 := inner g i hin (sg * pc_T Z (S + 2) i k).toNat (sg * pc_T Z (S + 2) i k).toNat 0 gx_fu (by omega) (show _ < 1000000 by omega) (fr_P (pc_T Z (S + 2)) k sg U V false i) hok hz (by omega)
        rw [eT] at hin2
        have e3 : fr_I (U i) (V i) 0 (fr_P (pc_T Z (S + 2)) k sg U V false i) = fr_P (pc_T Z (S + 2)) k sg U V false i := rfl
        rw [e3, ← eP] at hin2
        cases hbz : (fr_P (pc_T Z (S + 2)) k sg U V false (i + 1)).2.2 with
        | false =>
          have h5 := hin2.1 hbz
          rw [show ((0 : Nat) : Int) = 0 from rfl] at h5
          rw [h5]
          exact ih (i + 1) g (by omega) (by omega) hbz
        | true =>
          have hall : (fr_P (pc_T Z (S + 2)) k sg U V false n).2.2 = true := by
            have : ∀ m, (fr_P (pc_T Z (S + 2)) k sg U V false (i + 1 + m)).2.2 = true := by
              intro m
              induction m with
              | zero => exact hbz
              | succ m ihm => exact fr_I_z _ _ ihm
            have := this (n - (i + 1))
            rwa [show i + 1 + (n - (i + 1)) = n by omega] at this
          exact ⟨fun h => (by rw [hall] at h; cases h), fun _ => hin2.2 hbz⟩
  exact outer n 0 gx_fu (by omega) (show n < 1000000 by omega) rfl
