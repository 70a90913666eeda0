/-! the component's states: copies, the beginning -/
theorem pc_copyH (Z : Nat → Nat → Int) {t u : Nat} (ht : pc_H t = true) (hu : pc_H u = true) (htu : t ≠ u) :
    ∃ Z', f_SH_copyFrom (pc_h Z) t u = some (0, pc_h Z') ∧ (∀ o, (o < t ∨ t + 3 ≤ o) → Z' o = Z o) ∧ Z' t 0 = Z u 0 ∧ (∀ j, j < 16 → Z' (t + 1) j = Z (u + 1) j) ∧ (∀ j, j < 16 → Z' (t + 2) j = Z (u + 2) j) := by
  obtain ⟨g0, g1, g2, r0, r1, r2⟩ := pc_H_all t (pc_H_lt ht) ht
  obtain ⟨v0, v1, v2, w0, w1, w2⟩ := pc_H_all u (pc_H_lt hu) hu
  have hap := pc_H_apart t (pc_H_lt ht) ht u (pc_H_lt hu) hu htu
  unfold f_SH_copyFrom
  rw [pc_get v0 (by decide) w0, pc_put trivial g0 (by decide) r0, pc_gr v0 (by decide) w1 (by omega), pc_gr g0 (by decide) r1 (by omega), pc_copy (m := 16) (c := 16) v1 g1 rfl (by decide) (by decide), pc_gr v0 (by decide) w2 (by omega), pc_gr g0 (by decide) r2 (by omega), pc_copy (m := 16) (c := 16) v2 g2 rfl (by decide) (by decide)]
  refine ⟨_, rfl, fun o ho => ?_, ?_, fun j hj => ?_, fun j hj => ?_⟩
  · rw [gx_us_ne (by omega), gx_us_ne (by omega), gx_up_ne (by omega)]
  · rw [gx_us_ne (by omega), gx_us_ne (by omega), gx_up_at, if_pos rfl]
  · rw [gx_us_ne (by omega), gx_us_eq, if_pos hj, gx_up_ne (by omega)]
  · rw [gx_us_eq, if_pos hj, gx_us_ne (by omega), gx_up_ne (by omega)]
/-- the state at A (in Z') is as the one at S (in Z) -/
def pc_eq (Z : Nat → Nat → Int) (S : Nat) (Z' : Nat → Nat → Int) (A : Nat) : Prop :=
  Z' (A + 1) 0 = Z (S + 1) 0 ∧ (∀ j, j < 16 → Z' (A + 2) j = Z (S + 2) j) ∧ (∀ j, j < 16 → Z' (A + 3) j = Z (S + 3) j) ∧ (∀ j, j < 4 → Z' (A + 4) j = Z (S + 4) j) ∧ (∀ j, j < 4 → Z' (A + 5) j = Z (S + 5) j) ∧ (∀ j, j < 16 → Z' (A + 6) j = Z (S + 6) j) ∧ (∀ j, j < 16 → Z' (A + 7) j = Z (S + 7) j) ∧ Z' A 5 = Z S 5
theorem pc_copyS (Z : Nat → Nat → Int) {A S : Nat} (hA : pc_S A = true) (hS : pc_S S = true) (hAS : A ≠ S) :
    ∃ Z', f_ST_copyFrom (pc_h Z) A S = some (0, pc_h Z') ∧ (∀ o, (o < A ∨ A + 8 ≤ o) → Z' o = Z o) ∧ pc_eq Z S Z' A := by
  obtain ⟨g0, gh, g4, g5, g6, g7⟩ := pc_S_all S (pc_S_lt hS) hS
  obtain ⟨q0, q1, q2, q3, q4, q5⟩ := pc_S_ref S (pc_S_lt hS) hS
  obtain ⟨a0, ah, a4, a5, a6, a7⟩ := pc_S_all A (pc_S_lt hA) hA
  obtain ⟨z0, z1, z2, z3, z4, z5⟩ := pc_S_ref A (pc_S_lt hA) hA
  obtain ⟨u0, u1, u2, t0, t1, t2⟩ := pc_H_all (A + 1) (pc_H_lt ah) ah
  have hap := pc_S_apart hA hS hAS
  obtain ⟨Z1, hr, ho, h0, h1, h2⟩ := pc_copyH Z (t := A + 1) (u := S + 1) ah gh (by omega)
  have hS1 : ∀ o, S ≤ o → o < S + 8 → Z1 o = Z o := fun o h1 h2 => ho o (by omega)
  unfold f_ST_copyFrom
  rw [pc_gr a0 (by decide) z0 (by omega), pc_gr g0 (by decide) q0 (by omega), pc_cv u0, hr, pl_call,
    pc_gr g0 (by decide) q1 (by omega), pc_gr a0 (by decide) z1 (by omega), pc_copy (m := 4) (c := 4) g4 a4 rfl (by decide) (by decide),
    pc_gr g0 (by decide) q2 (by omega), pc_gr a0 (by decide) z2 (by omega), pc_copy (m := 4) (c := 4) g5 a5 rfl (by decide) (by decide),
    pc_gr g0 (by decide) q3 (by omega), pc_gr a0 (by decide) z3 (by omega), pc_copy (m := 16) (c := 16) g6 a6 rfl (by decide) (by decide),
    pc_gr g0 (by decide) q4 (by omega), pc_gr a0 (by decide) z4 (by omega), pc_copy (m := 16) (c := 16) g7 a7 rfl (by decide) (by decide),
    pc_get g0 (by decide) q5, pc_put trivial a0 (by decide) z5]
  refine ⟨_, rfl, fun o h => ?_, ?_, fun j hj => ?_, fun j hj => ?_, fun j hj => ?_, fun j hj => ?_, fun j hj => ?_, fun j hj => ?_, ?_⟩
  · rw [gx_up_ne (by omega), gx_us_ne (by omega), gx_us_ne (by omega), gx_us_ne (by omega), gx_us_ne (by omega)]
    exact ho o (by omega)
  · rw [gx_up_ne (by omega), gx_us_ne (by omega), gx_us_ne (by omega), gx_us_ne (by omega), gx_us_ne (by omega)]
    exact h0
  · rw [gx_up_ne (by omega), gx_us_ne (by omega), gx_us_ne (by omega), gx_us_ne (by omega), gx_us_ne (by omega)]
    exact h1 j hj
  · rw [gx_up_ne (by omega), gx_us_ne (by omega), gx_us_ne (by omega), gx_us_ne (by omega), gx_us_ne (by omega)]
    exact h2 j hj
  · rw [gx_up_ne (by omega), gx_us_ne (by omega), gx_us_ne (by omega), gx_us_ne (by omega), gx_us_eq, if_pos hj, hS1 _ (by omega) (by omega)]
  · rw [gx_up_ne (by omega), gx_us_ne (by omega), gx_us_ne (by omega), gx_us_eq, if_pos hj, gx_us_ne (by omega), hS1 _ (by omega) (by omega)]
  · rw [gx_up_ne (by omega), gx_us_ne (by omega), gx_us_eq, if_pos hj, gx_us_ne (by omega), gx_us_ne (by omega), hS1 _ (by omega) (by omega)]
  · rw [gx_up_ne (by omega), gx_us_eq, if_pos hj, gx_us_ne (by omega), gx_us_ne (by omega), gx_us_ne (by omega), hS1 _ (by omega) (by omega)]
  · rw [gx_up_at, if_pos rfl, gx_us_ne (by omega), gx_us_ne (by omega), gx_us_ne (by omega), gx_us_ne (by omega), hS1 _ (by omega) (by omega)]
theorem pc_hang (Z : Nat → Nat → Int) {t i j : Nat} {a b u v : Int} (ht : pc_H t = true) (ha : a = (i : Int)) (hb : b = (j : Int)) (hi : i < 4) (hj : j < 4) (hu : gx_i u) (hv : gx_i (-v)) :
    f_SH_hang (pc_h Z) t a b u v = some (0, pc_h (gx_up (gx_up Z (t + 1) (4 * i + j) u) (t + 1) (4 * j + i) (-v))) := by
  subst ha hb
  obtain ⟨g0, g1, g2, r0, r1, r2⟩ := pc_H_all t (pc_H_lt ht) ht
  unfold f_SH_hang f_LE_cell
  rw [pc_gr g0 (by decide) r1 (by omega), pl_call, pc_ast (i := 4 * i + j) (Or.inl rfl) hu g1 (by omega) (by omega), pc_gr g0 (by decide) r1 (by omega), pl_call, pc_ast (i := 4 * j + i) (Or.inl rfl) hv g1 (by omega) (by omega)]
/-- mild: no two letters hang too strongly on one another -/
abbrev mu_mi (n : Nat) (B : Nat → Nat → Int) : Prop := ∀ i, i < n → ∀ j, j < i → ¬ B i j * B j i < -3
theorem pc_isMild (Z : Nat → Nat → Int) {t n : Nat} (ht : pc_H t = true) (hn : Z t 0 = (n : Int)) (hn4 : n ≤ 4) (hB : mu_bd n (pc_T Z (t + 1))) : f_SH_isMild (pc_h Z) t = some (if mu_mi n (pc_T Z (t + 1)) then 1 else 0, pc_h Z) := by
  obtain ⟨g0, g1, g2, r0, r1, r2⟩ := pc_H_all t (pc_H_lt ht) ht
  unfold f_SH_isMild
  have h := pl_srch0 (A := fun fu i => f_SH_isMild_2 fu (pc_h Z) t (i : Int)) (out := some ((1 : Int), pc_h Z)) (bad := some (0, pc_h Z)) n (by omega) (fun i => ∀ j, j < i → ¬ pc_T Z (t + 1) i j * pc_T Z (t + 1) j i < -3) (fun i hi fu => ?_) (fun fu => ?_)
  · refine h.trans ?_
    by_cases hb : mu_mi n (pc_T Z (t + 1))
    · rw [if_pos hb, if_pos hb]
    · rw [if_neg hb, if_neg hb]
  · show fb_SH_isMild_2 (f_SH_isMild_2 fu) _ _ _ = _
    unfold fb_SH_isMild_2
    rw [pc_get g0 (by decide) r0, hn, pl_gi (by omega) (by omega), if_pos (by omega)]
    refine pl_srch0 (A := fun gu j => f_SH_isMild_12 (f_SH_isMild_2 fu) gu (pc_h Z) t (i : Int) (j : Int)) i (by omega) (fun j => ¬ pc_T Z (t + 1) i j * pc_T Z (t + 1) j i < -3) (fun j hj gu => ?_) (fun gu => ?_)
    · show fb_SH_isMild_12 (f_SH_isMild_2 fu) (f_SH_isMild_12 (f_SH_isMild_2 fu) gu) _ _ _ _ = _
      unfold fb_SH_isMild_12 f_LE_cell
      have b1 := hB i hi j (by omega)
      have b2 := hB j (by omega) i hi
      have b3 := mu_mul 99 99 b1.1 b1.2 b2.1 b2.2
      rw [pl_gi (by omega) (by omega), pl_gi (by omega) (by omega), if_pos (by omega), pc_gr g0 (by decide) r1 (by omega), pl_call, pc_ald (i := 4 * i + j) g1 (by omega) (by omega), pc_gr g0 (by decide) r1 (by omega), pl_call, pc_ald (i := 4 * j + i) g1 (by omega) (by omega)]
      show gq_g (gx_i (pc_T Z (t + 1) i j * pc_T Z (t + 1) j i)) (if pc_T Z (t + 1) i j * pc_T Z (t + 1) j i < -3 then _ else _) = _
      rw [pl_gi (by omega) (by omega)]
      by_cases c : pc_T Z (t + 1) i j * pc_T Z (t + 1) j i < -3
      · rw [if_pos c, if_neg (fun z => z c)]
      · rw [if_neg c, if_pos c]; rfl
    · show fb_SH_isMild_12 (f_SH_isMild_2 fu) (f_SH_isMild_12 (f_SH_isMild_2 fu) gu) _ _ _ _ = _
      unfold fb_SH_isMild_12
      rw [pl_gi (by omega) (by omega), pl_gi (by omega) (by omega), if_neg (by omega)]
      rfl
  · show fb_SH_isMild_2 (f_SH_isMild_2 fu) _ _ _ = _
    unfold fb_SH_isMild_2
    rw [pc_get g0 (by decide) r0, hn, pl_gi (by omega) (by omega), if_neg (by omega)]
