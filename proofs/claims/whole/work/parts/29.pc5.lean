/-! the component's exchanger: signs, degrees -/
def pc_SL : List Nat := [10, 18, 26, 34, 42, 50, 58, 66, 74, 82, 90, 98, 106, 114, 122, 130, 138, 146, 154, 162, 202, 211, 219, 230, 238]
theorem pc_S_ap0 : pc_SL.all (fun t => pc_SL.all (fun u => t == u || decide (t + 8 ≤ u) || decide (u + 8 ≤ t))) = true := by decide +kernel
theorem pc_S_mem {t : Nat} (h : pc_S t = true) : t ∈ pc_SL := by simpa [pc_S, pc_SL] using h
theorem pc_S_apart {t u : Nat} (ht : pc_S t = true) (hu : pc_S u = true) (hn : t ≠ u) : t + 8 ≤ u ∨ u + 8 ≤ t := by
  have h1 := List.all_eq_true.mp (List.all_eq_true.mp pc_S_ap0 t (pc_S_mem ht)) u (pc_S_mem hu)
  simp only [Bool.or_eq_true, beq_iff_eq, decide_eq_true_eq] at h1
  omega
theorem pc_signAfter (Z : Nat → Nat → Int) {S i j k n : Nat} {a b c : Int} (hS : pc_S S = true) (ha : a = (i : Int)) (hb : b = (k : Int)) (hc : c = (j : Int)) (hi : i < 4) (hj : j < 4) (hk : k < 4) (b1 : gx_i (pc_T Z (S + 6) k j)) (b2 : gx_i (pc_T Z (S + 2) k i)) : f_EX_signAfter (pc_h Z) S a b c = some (mu_C (pc_T Z (S + 2)) (pc_T Z (S + 6)) k i j, pc_h Z) := by
  subst ha hb hc
  obtain ⟨g0, gh, g4, g5, g6, g7⟩ := pc_S_all S (pc_S_lt hS) hS
  obtain ⟨q0, q1, q2, q3, q4, q5⟩ := pc_S_ref S (pc_S_lt hS) hS
  obtain ⟨v0, v1, v2, w0, w1, w2⟩ := pc_H_all (S + 1) (pc_H_lt gh) gh
  unfold f_EX_signAfter fb_EX_signAfter_67 f_LE_cell
  rw [pc_gr g0 (by decide) q3 (by omega), pl_call, pc_ald (i := 4 * k + j) g6 (by omega) (by omega), pl_gi (by omega) (by omega), pl_gi (by omega) (by omega)]
  unfold mu_C
  by_cases h1 : i = k
  · rw [if_pos (by omega), if_pos h1]; rfl
  · rw [if_neg (by omega), if_neg h1, pc_gr g0 (by decide) q0 (by omega), pc_gr v0 (by decide) w1 (by omega), pl_call, pc_ald (i := 4 * k + i) v1 (by omega) (by omega), pc_gr g0 (by decide) q3 (by omega), pl_call, pc_ald (i := 4 * i + j) g6 (by omega) (by omega)]
    have eC : Z (S + 6) (4 * k + j) = pc_T Z (S + 6) k j := rfl
    have eB : Z (S + 1 + 1) (4 * k + i) = pc_T Z (S + 2) k i := rfl
    have eO : Z (S + 6) (4 * i + j) = pc_T Z (S + 6) i j := rfl
    rw [eC, eB, eO]
    simp only [gq_g_ok b1, gq_g_ok b2]
    unfold mu_both
    generalize pc_T Z (S + 6) k j = p
    generalize pc_T Z (S + 2) k i = q
    by_cases c1 : 0 < p <;> by_cases c2 : 0 < q <;> by_cases c3 : p < 0 <;> by_cases c4 : q < 0 <;> simp [c1, c2, c3, c4, Int.sub_eq_add_neg, Int.neg_mul]
set_option maxHeartbeats 1000000 in
theorem pc_fillSigns (Z : Nat → Nat → Int) {A S k n : Nat} {a : Int} (hA : pc_S A = true) (hS : pc_S S = true) (hAS : A ≠ S) (hn : Z (S + 1) 0 = (n : Int)) (hn4 : n ≤ 4) (ha : a = (k : Int)) (hk : k < n) (hB : mu_bd n (pc_T Z (S + 2))) (hC : mu_bd n (pc_T Z (S + 6))) :
    f_EX_fillSigns (pc_h Z) A S a = some (0, pc_h (gx_us Z (A + 6) (pm_wr (Z (A + 6)) 0 (fun i j => i < n ∧ j < n) (mu_C (pc_T Z (S + 2)) (pc_T Z (S + 6)) k)))) := by
  subst ha
  obtain ⟨g0, gh, g4, g5, g6, g7⟩ := pc_S_all S (pc_S_lt hS) hS
  obtain ⟨q0, q1, q2, q3, q4, q5⟩ := pc_S_ref S (pc_S_lt hS) hS
  obtain ⟨a0, ah, a4, a5, a6, a7⟩ := pc_S_all A (pc_S_lt hA) hA
  obtain ⟨z0, z1, z2, z3, z4, z5⟩ := pc_S_ref A (pc_S_lt hA) hA
  obtain ⟨v0, v1, v2, w0, w1, w2⟩ := pc_H_all (S + 1) (pc_H_lt gh) gh
  have hap := pc_S_apart hA hS hAS
  unfold f_EX_fillSigns
  rw [pc_gr g0 (by decide) q0 (by omega), pc_get v0 (by decide) w0, hn]
  have hMd : ∀ i j, i < n → j < n → -9900 ≤ mu_C (pc_T Z (S + 2)) (pc_T Z (S + 6)) k i j ∧ mu_C (pc_T Z (S + 2)) (pc_T Z (S + 6)) k i j ≤ 9900 := fun i j hi hj => mu_C_bd hB hC hk hi hj
  have e0 : pc_h Z = pc_h (gx_us Z (A + 6) (pm_wr (Z (A + 6)) 0 (mu_to n 0 0) (mu_C (pc_T Z (S + 2)) (pc_T Z (S + 6)) k))) := by rw [gx_us_id (pm_wr_0 (fun r c _ _ => by omega))]
  rw [e0]
  refine pl_loop0 (A := fun fu i => f_EX_fillSigns_11 fu (pc_h (gx_us Z (A + 6) (pm_wr (Z (A + 6)) 0 (mu_to n i 0) (mu_C (pc_T Z (S + 2)) (pc_T Z (S + 6)) k)))) A S (k : Int) (n : Int) (i : Int)) n (by omega) (fun i hi fu => ?_) (fun fu => ?_)
  · show fb_EX_fillSigns_11 (f_EX_fillSigns_11 fu) _ _ _ _ _ _ = _
    unfold fb_EX_fillSigns_11
    rw [pl_gi (by omega) (by omega), pl_gi (by omega) (by omega), if_pos (by omega)]
    refine pl_loop0 (A := fun gu j => f_EX_fillSigns_20 (f_EX_fillSigns_11 fu) gu (pc_h (gx_us Z (A + 6) (pm_wr (Z (A + 6)) 0 (mu_to n i j) (mu_C (pc_T Z (S + 2)) (pc_T Z (S + 6)) k)))) A S (k : Int) (n : Int) (i : Int) (j : Int)) n (by omega) (fun j hj gu => ?_) (fun gu => ?_)
    · show fb_EX_fillSigns_20 (f_EX_fillSigns_11 fu) (f_EX_fillSigns_20 (f_EX_fillSigns_11 fu) gu) _ _ _ _ _ _ _ = _
      unfold fb_EX_fillSigns_20 f_LE_cell
      generalize hY : gx_us Z (A + 6) (pm_wr (Z (A + 6)) 0 (mu_to n i j) (mu_C (pc_T Z (S + 2)) (pc_T Z (S + 6)) k)) = Y
      have y2 : pc_T Y (S + 2) = pc_T Z (S + 2) := by unfold pc_T; rw [← hY, gx_us_ne (by omega)]
      have y6 : pc_T Y (S + 6) = pc_T Z (S + 6) := by unfold pc_T; rw [← hY, gx_us_ne (by omega)]
      have b1 := hC k hk j hj
      have b2 := hB k hk i hi
      have hv := hMd i j hi hj
      rw [pl_gi (by omega) (by omega), pl_gi (by omega) (by omega), if_pos (by omega), pc_gr a0 (by decide) z3 (by omega), pl_call, pc_signAfter Y (n := n) (i := i) (j := j) (k := k) hS rfl rfl rfl (by omega) (by omega) (by omega) (by rw [y6]; exact ⟨by omega, by omega⟩) (by rw [y2]; exact ⟨by omega, by omega⟩), pl_call, y2, y6, pc_ast (i := 4 * i + j) (Or.inl rfl) ⟨by omega, by omega⟩ a6 (by omega) (by omega), ← hY, gx_up_us]
      have e1 := pm_wr_step (f := Z (A + 6)) (a := 0) (i := i) (j := j) (P := mu_to n i j) (Q := mu_to n i (j + 1)) (M := mu_C (pc_T Z (S + 2)) (pc_T Z (S + 6)) k) (by omega) (by omega) rfl (fun r c hr hc => by omega)
      rw [Nat.zero_add] at e1
      rw [e1]
      rfl
    · show fb_EX_fillSigns_20 (f_EX_fillSigns_11 fu) (f_EX_fillSigns_20 (f_EX_fillSigns_11 fu) gu) _ _ _ _ _ _ _ = _
      unfold fb_EX_fillSigns_20
      rw [pl_gi (by omega) (by omega), pl_gi (by omega) (by omega), if_neg (by omega), pm_wr_cg (Q := mu_to n (i + 1) 0) (fun r c hr hc => by omega)]
      rfl
  · show fb_EX_fillSigns_11 (f_EX_fillSigns_11 fu) _ _ _ _ _ _ = _
    unfold fb_EX_fillSigns_11
    rw [pl_gi (by omega) (by omega), pl_gi (by omega) (by omega), if_neg (by omega), pm_wr_cg (Q := fun i j => i < n ∧ j < n) (fun r c hr hc => by omega)]
theorem mu_upb_iff {C : Nat → Nat → Int} {k : Nat} : ∀ n, mu_upb C k n = true ↔ ¬ ∀ m, m < n → ¬ 0 < C k m := by
  intro n
  induction n with
  | zero => simp [mu_upb]
  | succ n ih =>
    rw [mu_upb_le, Bool.or_eq_true, decide_eq_true_eq, ih]
    constructor
    · intro h hc
      rcases h with h | h
      · exact h (fun m hm => hc m (by omega))
      · exact hc n (by omega) h
    · intro h
      by_cases h2 : 0 < C k n
      · exact Or.inr h2
      · refine Or.inl (fun hc => h (fun m hm => ?_))
        by_cases e : m = n
        · subst e; exact h2
        · exact hc m (by omega)
theorem pc_hasPositiveSign (Z : Nat → Nat → Int) {S k n : Nat} {a : Int} (hS : pc_S S = true) (hn : Z (S + 1) 0 = (n : Int)) (hn4 : n ≤ 4) (ha : a = (k : Int)) (hk : k < n) : f_EX_hasPositiveSign (pc_h Z) S a = some (mu_b01 (mu_upb (pc_T Z (S + 6)) k n), pc_h Z) := by
  subst ha
  obtain ⟨g0, gh, g4, g5, g6, g7⟩ := pc_S_all S (pc_S_lt hS) hS
  obtain ⟨q0, q1, q2, q3, q4, q5⟩ := pc_S_ref S (pc_S_lt hS) hS
  obtain ⟨v0, v1, v2, w0, w1, w2⟩ := pc_H_all (S + 1) (pc_H_lt gh) gh
  unfold f_EX_hasPositiveSign
  have h := pl_srch0 (A := fun fu m => f_EX_hasPositiveSign_2 fu (pc_h Z) S (k : Int) (m : Int)) (out := some ((0 : Int), pc_h Z)) (bad := some (1, pc_h Z)) n (by omega) (fun m => ¬ 0 < pc_T Z (S + 6) k m) (fun m hm fu => ?_) (fun fu => ?_)
  · refine h.trans ?_
    cases hb : mu_upb (pc_T Z (S + 6)) k n with
    | true => rw [if_neg ((mu_upb_iff n).mp hb)]; rfl
    | false =>
      rw [if_pos (Classical.byContradiction fun hc => by rw [(mu_upb_iff n).mpr hc] at hb; cases hb)]
      rfl
  · show fb_EX_hasPositiveSign_2 (f_EX_hasPositiveSign_2 fu) _ _ _ _ = _
    unfold fb_EX_hasPositiveSign_2 f_LE_cell
    rw [pc_gr g0 (by decide) q0 (by omega), pc_get v0 (by decide) w0, hn, pl_gi (by omega) (by omega), if_pos (by omega), pc_gr g0 (by decide) q3 (by omega), pl_call, pc_ald (i := 4 * k + m) g6 (by omega) (by omega)]
    show (if 0 < pc_T Z (S + 6) k m then _ else _) = _
    by_cases c : 0 < pc_T Z (S + 6) k m
    · rw [if_pos c, if_neg (fun z => z c)]
    · rw [if_neg c, if_pos c]; rfl
  · show fb_EX_hasPositiveSign_2 (f_EX_hasPositiveSign_2 fu) _ _ _ _ = _
    unfold fb_EX_hasPositiveSign_2
    rw [pc_gr g0 (by decide) q0 (by omega), pc_get v0 (by decide) w0, hn, pl_gi (by omega) (by omega), if_neg (by omega)]
theorem pc_degreeAfter (Z : Nat → Nat → Int) {S k m n : Nat} {a b sg : Int} (hS : pc_S S = true) (hn : Z (S + 1) 0 = (n : Int)) (hn4 : n ≤ 4) (ha : a = (k : Int)) (hb : b = (m : Int)) (hsg : sg = 1 ∨ sg = -1) (hk : k < n) (hm : m < n) (hB : mu_bd n (pc_T Z (S + 2))) : f_EX_degreeAfter (pc_h Z) S a b sg = some (mu_gs (pc_T Z (S + 2)) (pc_T Z (S + 7)) k sg m n - pc_T Z (S + 7) k m, pc_h Z) := by
  subst ha hb
  obtain ⟨g0, gh, g4, g5, g6, g7⟩ := pc_S_all S (pc_S_lt hS) hS
  obtain ⟨q0, q1, q2, q3, q4, q5⟩ := pc_S_ref S (pc_S_lt hS) hS
  obtain ⟨v0, v1, v2, w0, w1, w2⟩ := pc_H_all (S + 1) (pc_H_lt gh) gh
  unfold f_EX_degreeAfter
  refine pl_loop0 (A := fun fu i => f_EX_degreeAfter_6 fu (pc_h Z) S (k : Int) (m : Int) sg (mu_gs (pc_T Z (S + 2)) (pc_T Z (S + 7)) k sg m i) (i : Int)) n (by omega) (fun i hi fu => ?_) (fun fu => ?_)
  · show fb_EX_degreeAfter_6 (f_EX_degreeAfter_6 fu) _ _ _ _ _ _ _ = _
    unfold fb_EX_degreeAfter_6 fb_EX_degreeAfter_60 f_LE_cell
    have hb := hB i hi k hk
    have hsb : -99 ≤ sg * pc_T Z (S + 2) i k ∧ sg * pc_T Z (S + 2) i k ≤ 99 := by rcases hsg with e | e <;> subst e <;> omega
    rw [pc_gr g0 (by decide) q0 (by omega), pc_get v0 (by decide) w0, hn, pl_gi (by omega) (by omega), if_pos (by omega), pc_gr g0 (by decide) q0 (by omega), pc_gr v0 (by decide) w1 (by omega), pl_call, pc_ald (i := 4 * i + k) v1 (by omega) (by omega)]
    have eB : Z (S + 1 + 1) (4 * i + k) = pc_T Z (S + 2) i k := rfl
    rw [eB, pl_gi (by omega) (by omega)]
    by_cases c : 0 < sg * pc_T Z (S + 2) i k
    · rw [if_pos c, pc_gr g0 (by decide) q4 (by omega), pl_call, pc_ald (i := 4 * i + m) g7 (by omega) (by omega)]
      simp only [mu_gs, if_pos c]
      rfl
    · rw [if_neg c]
      simp only [mu_gs, if_neg c, Int.add_zero]
      rfl
  · show fb_EX_degreeAfter_6 (f_EX_degreeAfter_6 fu) _ _ _ _ _ _ _ = _
    unfold fb_EX_degreeAfter_6 f_LE_cell
    rw [pc_gr g0 (by decide) q0 (by omega), pc_get v0 (by decide) w0, hn, pl_gi (by omega) (by omega), if_neg (by omega), pc_gr g0 (by decide) q4 (by omega), pl_call, pc_ald (i := 4 * k + m) g7 (by omega) (by omega)]
    rfl
set_option maxHeartbeats 1000000 in
theorem pc_fillDegrees (Z : Nat → Nat → Int) {A S k n : Nat} {a : Int} (hA : pc_S A = true) (hS : pc_S S = true) (hAS : A ≠ S) (hn : Z (S + 1) 0 = (n : Int)) (hn4 : n ≤ 4) (ha : a = (k : Int)) (hk : k < n) (hB : mu_bd n (pc_T Z (S + 2))) (hG : mu_bd n (pc_T Z (S + 7))) :
    f_EX_fillDegrees (pc_h Z) A S a = some (0, pc_h (gx_us Z (A + 7) (pm_wr (Z (A + 7)) 0 (fun i j => i < n ∧ j < n) (mu_G n (pc_T Z (S + 2)) (pc_T Z (S + 6)) (pc_T Z (S + 7)) k)))) := by
  subst ha
  obtain ⟨g0, gh, g4, g5, g6, g7⟩ := pc_S_all S (pc_S_lt hS) hS
  obtain ⟨q0, q1, q2, q3, q4, q5⟩ := pc_S_ref S (pc_S_lt hS) hS
  obtain ⟨a0, ah, a4, a5, a6, a7⟩ := pc_S_all A (pc_S_lt hA) hA
  obtain ⟨z0, z1, z2, z3, z4, z5⟩ := pc_S_ref A (pc_S_lt hA) hA
  obtain ⟨v0, v1, v2, w0, w1, w2⟩ := pc_H_all (S + 1) (pc_H_lt gh) gh
  have hap := pc_S_apart hA hS hAS
  have hmain : ∀ sg : Int, (sg = if mu_upb (pc_T Z (S + 6)) k n = true then -1 else 1) → fb_EX_fillDegrees_21 (pc_h Z) A S (k : Int) (n : Int) sg = some (0, pc_h (gx_us Z (A + 7) (pm_wr (Z (A + 7)) 0 (fun i j => i < n ∧ j < n) (mu_G n (pc_T Z (S + 2)) (pc_T Z (S + 6)) (pc_T Z (S + 7)) k)))) := by
    intro sg hsg
    have hsg1 : sg = 1 ∨ sg = -1 := by rw [hsg]; split <;> simp
    unfold fb_EX_fillDegrees_21
    generalize hMe : mu_G n (pc_T Z (S + 2)) (pc_T Z (S + 6)) (pc_T Z (S + 7)) k = M
    have e0 : pc_h Z = pc_h (gx_us Z (A + 7) (pm_wr (Z (A + 7)) 0 (mu_to n 0 0) M)) := by rw [gx_us_id (pm_wr_0 (fun r c _ _ => by omega))]
    rw [e0]
    refine pl_loop0 (A := fun fu i => f_EX_fillDegrees_26 fu (pc_h (gx_us Z (A + 7) (pm_wr (Z (A + 7)) 0 (mu_to n i 0) M))) A S (k : Int) (n : Int) sg (i : Int)) n (by omega) (fun i hi fu => ?_) (fun fu => ?_)
    · show fb_EX_fillDegrees_26 (f_EX_fillDegrees_26 fu) _ _ _ _ _ _ _ = _
      unfold fb_EX_fillDegrees_26
      rw [pl_gi (by omega) (by omega), pl_gi (by omega) (by omega), if_pos (by omega)]
      refine pl_loop0 (A := fun gu j => f_EX_fillDegrees_35 (f_EX_fillDegrees_26 fu) gu (pc_h (gx_us Z (A + 7) (pm_wr (Z (A + 7)) 0 (mu_to n i j) M))) A S (k : Int) (n : Int) sg (i : Int) (j : Int)) n (by omega) (fun j hj gu => ?_) (fun gu => ?_)
      · show fb_EX_fillDegrees_35 (f_EX_fillDegrees_26 fu) (f_EX_fillDegrees_35 (f_EX_fillDegrees_26 fu) gu) _ _ _ _ _ _ _ _ = _
        unfold fb_EX_fillDegrees_35 fb_EX_fillDegrees_82 f_LE_cell
        generalize hY : gx_us Z (A + 7) (pm_wr (Z (A + 7)) 0 (mu_to n i j) M) = Y
        have y1 : Y (S + 1) 0 = (n : Int) := by rw [← hY, gx_us_ne (by omega)]; exact hn
        have y2 : pc_T Y (S + 2) = pc_T Z (S + 2) := by unfold pc_T; rw [← hY, gx_us_ne (by omega)]
        have y7 : pc_T Y (S + 7) = pc_T Z (S + 7) := by unfold pc_T; rw [← hY, gx_us_ne (by omega)]
        have y7' : ∀ q, Y (S + 7) q = Z (S + 7) q := fun q => by rw [← hY, gx_us_ne (by omega)]
        have hbd := mu_D_bd hn4 hB hG hk hj
        have hgk := hG k hk j hj
        have hgi := hG i hi j hj
        have e1 := pm_wr_step (f := Z (A + 7)) (a := 0) (i := i) (j := j) (P := mu_to n i j) (Q := mu_to n i (j + 1)) (M := M) (by omega) (by omega) rfl (fun r c hr hc => by omega)
        rw [Nat.zero_add] at e1
        have hM : M i j = if i = k then mu_gs (pc_T Z (S + 2)) (pc_T Z (S + 7)) k sg j n - pc_T Z (S + 7) k j else pc_T Z (S + 7) i j := by rw [← hMe, hsg]; rfl
        rw [pl_gi (by omega) (by omega), pl_gi (by omega) (by omega), if_pos (by omega), pc_gr a0 (by decide) z4 (by omega), pl_call, pl_gi (by omega) (by omega), pl_gi (by omega) (by omega)]
        by_cases h1 : i = k
        · rw [if_pos h1] at hM
          have hv : -39303 ≤ M i j ∧ M i j ≤ 39303 := by
            rw [hM]
            rcases hsg1 with e | e <;> rw [e] <;> omega
          rw [if_pos (by omega), pc_degreeAfter Y (k := k) (m := j) hS y1 hn4 rfl rfl hsg1 hk hj (by rw [y2]; exact hB), pl_call, y2, y7, ← hM, pc_ast (i := 4 * i + j) (Or.inl rfl) ⟨by omega, by omega⟩ a7 (by omega) (by omega), ← hY, gx_up_us, e1]
          rfl
        · rw [if_neg h1] at hM
          have hM2 : Z (S + 7) (4 * i + j) = M i j := hM.symm
          rw [if_neg (by omega), pc_gr g0 (by decide) q4 (by omega), pl_call, pc_ald (i := 4 * i + j) g7 (by omega) (by omega), y7', hM2, pc_ast (i := 4 * i + j) (Or.inl rfl) ⟨by omega, by omega⟩ a7 (by omega) (by omega), ← hY, gx_up_us, e1]
          rfl
      · show fb_EX_fillDegrees_35 (f_EX_fillDegrees_26 fu) (f_EX_fillDegrees_35 (f_EX_fillDegrees_26 fu) gu) _ _ _ _ _ _ _ _ = _
        unfold fb_EX_fillDegrees_35
        rw [pl_gi (by omega) (by omega), pl_gi (by omega) (by omega), if_neg (by omega), pm_wr_cg (Q := mu_to n (i + 1) 0) (fun r c hr hc => by omega)]
        rfl
    · show fb_EX_fillDegrees_26 (f_EX_fillDegrees_26 fu) _ _ _ _ _ _ _ = _
      unfold fb_EX_fillDegrees_26
      rw [pl_gi (by omega) (by omega), pl_gi (by omega) (by omega), if_neg (by omega), pm_wr_cg (Q := fun i j => i < n ∧ j < n) (fun r c hr hc => by omega)]
  unfold f_EX_fillDegrees
  rw [pc_gr g0 (by decide) q0 (by omega), pc_get v0 (by decide) w0, hn, pc_hasPositiveSign Z hS hn hn4 rfl hk, pl_call, gq_g_ok (mu_b01_i _)]
  cases hb : mu_upb (pc_T Z (S + 6)) k n with
  | true => rw [if_neg (by decide)]; exact hmain (-1) (by rw [hb]; rfl)
  | false => rw [if_pos (show mu_b01 false = 0 from rfl)]; exact hmain 1 (by rw [hb]; rfl)
