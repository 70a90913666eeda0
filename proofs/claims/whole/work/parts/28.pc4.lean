/-! the component's exchanger: worth, signs, degrees -/
def pc_fr (Z Z' : Nat → Nat → Int) : Prop := ∀ o, o ≠ 6 → o ≠ 7 → Z' o = Z o
theorem pc_fr_F {Z : Nat → Nat → Int} {f a b : Nat} (hf : f = 6 ∨ f = 7) : pc_fr Z (pc_F Z f a b) := fun o h6 h7 => pc_F_o (by rcases hf with e | e <;> omega)
theorem pc_fr.trans {X Y Z : Nat → Nat → Int} (h : pc_fr X Y) (h2 : pc_fr Y Z) : pc_fr X Z := fun o h6 h7 => (h2 o h6 h7).trans (h o h6 h7)
set_option maxHeartbeats 2000000 in
theorem pc_findWorth (Z : Nat → Nat → Int) {S k n : Nat} {a : Int} {U V : Nat → Nat} (hS : pc_S S = true) (hn : Z (S + 1) 0 = (n : Int)) (hn4 : n ≤ 4) (ha : a = (k : Int)) (hk : k < n) (hB : mu_bd n (pc_T Z (S + 2))) (hW : pc_W n Z S U V) :
    ((fr_W (pc_T Z (S + 2)) n k U V).2.2 = false → ∃ Z', f_EX_findWorth (pc_h Z) 5 S a = some (1, pc_h Z') ∧ pc_fr Z Z' ∧ Z' 6 0 = ((fr_W (pc_T Z (S + 2)) n k U V).1 : Int) ∧ Z' 6 1 = ((fr_W (pc_T Z (S + 2)) n k U V).2.1 : Int) ∧ (fr_W (pc_T Z (S + 2)) n k U V).1 ≤ 1000000000 ∧ (fr_W (pc_T Z (S + 2)) n k U V).2.1 ≤ 1000000000) ∧
    ((fr_W (pc_T Z (S + 2)) n k U V).2.2 = true → ∃ Z', f_EX_findWorth (pc_h Z) 5 S a = some (0, pc_h Z') ∧ pc_fr Z Z') := by
  subst ha
  obtain ⟨g0, gh, g4, g5, g6, g7⟩ := pc_S_all S (pc_S_lt hS) hS
  obtain ⟨q0, q1, q2, q3, q4, q5⟩ := pc_S_ref S (pc_S_lt hS) hS
  have hge := pc_S_ge S hS
  have L5 : pc_L[5]? = some (3 + 3, 2) := by decide +kernel
  have r50 : pc_r 5 0 = 6 := by decide +kernel
  have r51 : pc_r 5 1 = 7 := by decide +kernel
  have L6 := pc_FL (Or.inl rfl : (6 : Nat) = 6 ∨ (6 : Nat) = 7)
  have L7 := pc_FL (Or.inr rfl : (7 : Nat) = 6 ∨ (7 : Nat) = 7)
  obtain ⟨-, r60, r61⟩ := pc_F_r 6 (Or.inl rfl)
  obtain ⟨-, r70, r71⟩ := pc_F_r 7 (Or.inr rfl)
  have hU : ∀ i, i < n → 0 < U i ∧ U i ≤ 1000000000 ∧ 0 < V i ∧ V i ≤ 1000000000 := fun i hi => (hW i hi).2.2
  have o1 := fr_P_ok (B := pc_T Z (S + 2)) (k := k) (sg := 1) (z := false) hU n (Nat.le_refl _)
  have o2 := fr_P_ok (B := pc_T Z (S + 2)) (k := k) (sg := -1) (z := (fr_P (pc_T Z (S + 2)) k 1 U V false n).2.2) hU n (Nat.le_refl _)
  have hzz := fun (h : (fr_P (pc_T Z (S + 2)) k 1 U V false n).2.2 = true) => (by rw [h]; exact fr_P_z n : (fr_P (pc_T Z (S + 2)) k (-1) U V (fr_P (pc_T Z (S + 2)) k 1 U V false n).2.2 n).2.2 = true)
  unfold f_EX_findWorth fb_EX_findWorth_68
  rw [pc_gr L5 (by decide) r50 (by decide)]
  have m1 := pc_multiplyAll Z (f := 6) (S := S) (k := k) (sg := 1) (a := (k : Int)) (Or.inl rfl) hS hn hn4 rfl hk (Or.inl rfl) hB hW
  have m2 : ∀ c d : Nat, (fr_P (pc_T Z (S + 2)) k 1 U V false n).2.2 = false → _ := fun c d _ => pc_multiplyAll (pc_F Z 6 c d) (f := 7) (S := S) (k := k) (n := n) (sg := -1) (a := (k : Int)) (U := U) (V := V) (Or.inr rfl) hS (by rw [pc_F_o (by omega)]; exact hn) hn4 rfl hk (Or.inr rfl) (by unfold pc_T; rw [pc_F_o (by omega)]; exact hB) (fun i hi => by rw [pc_F_o (by omega), pc_F_o (by omega)]; exact hW i hi)
  have eT : ∀ c d : Nat, pc_T (pc_F Z 6 c d) (S + 2) = pc_T Z (S + 2) := fun c d => by unfold pc_T; rw [pc_F_o (by omega)]
  unfold fr_W fr_E
  generalize hs1 : fr_P (pc_T Z (S + 2)) k 1 U V false n = s1 at *
  cases h1 : s1.2.2 with
  | true =>
    have hz2 := hzz h1
    rw [h1] at hz2
    obtain ⟨c, d, hr⟩ := m1.2 h1
    refine ⟨fun h => ?_, fun _ => ⟨pc_F Z 6 c d, ?_, pc_fr_F (Or.inl rfl)⟩⟩
    · rw [if_pos hz2, hz2] at h; cases h
    · rw [hr, pl_call, pl_gi (by decide) (by decide), if_pos (show (0 : Int) = 0 from rfl)]
  | false =>
    have hm2 := m2 s1.1 s1.2.1 h1
    rw [eT] at hm2
    rw [h1] at o2
    rw [m1.1 h1, pl_call, pl_gi (by decide) (by decide), if_neg (show ¬ (1 : Int) = 0 by decide), pc_gr L5 (by decide) r51 (by decide)]
    generalize hs2 : fr_P (pc_T Z (S + 2)) k (-1) U V false n = s2 at *
    cases h2 : s2.2.2 with
    | true =>
      obtain ⟨c, d, hr⟩ := hm2.2 h2
      refine ⟨fun h => ?_, fun _ => ⟨pc_F (pc_F Z 6 s1.1 s1.2.1) 7 c d, ?_, (pc_fr_F (Or.inl rfl)).trans (pc_fr_F (Or.inr rfl))⟩⟩
      · rw [if_pos rfl, h2] at h; cases h
      · rw [hr, pl_call, pl_gi (by decide) (by decide), if_pos (show (0 : Int) = 0 from rfl)]
    | false =>
      have b1 := o1.2.2.1 h1
      have b2 := o2.2.2.1 h2
      have e1 := fr_mul_le b1.1 b2.2
      have e2 := fr_mul_le b2.1 b1.2
      have e3 := fr_mul_le b1.2 b2.2
      have p1 := Nat.mul_pos o1.1 o2.2.1
      have p2 := Nat.mul_pos o1.2.1 o2.2.1
      obtain ⟨x1, x2, x3, x4, x5, x6⟩ := hW k hk
      -- the sum
      have hadd : f_FR_add (pc_h (pc_F (pc_F Z 6 s1.1 s1.2.1) 7 s2.1 s2.2.1)) 6 7 = some (if (fr_S (s1.1 * s2.2.1 + s2.1 * s1.2.1) (s1.2.1 * s2.2.1)).2.2 = true then 0 else 1, pc_h (pc_F (pc_F Z 7 s2.1 s2.2.1) 6 (fr_S (s1.1 * s2.2.1 + s2.1 * s1.2.1) (s1.2.1 * s2.2.1)).1 (fr_S (s1.1 * s2.2.1 + s2.1 * s1.2.1) (s1.2.1 * s2.2.1)).2.1)) := by
        have esw : pc_F (pc_F Z 6 s1.1 s1.2.1) 7 s2.1 s2.2.1 = pc_F (pc_F Z 7 s2.1 s2.2.1) 6 s1.1 s1.2.1 := by
          funext o
          by_cases h6 : o = 6
          · subst h6; rw [pc_F_o (by decide)]; unfold pc_F; rw [gx_us_eq, gx_us_eq]; rfl
          · by_cases h7 : o = 7
            · subst h7; rw [pc_F_o (f := 6) (by decide)]; unfold pc_F; rw [gx_us_eq, gx_us_eq]; rfl
            · rw [pc_F_o h7, pc_F_o h6, pc_F_o h6, pc_F_o h7]
        rw [esw]
        unfold f_FR_add
        have c1 : (s1.1 : Int) * (s2.2.1 : Int) + (s2.1 : Int) * (s1.2.1 : Int) = ((s1.1 * s2.2.1 + s2.1 * s1.2.1 : Nat) : Int) := by simp
        have c2 : (s1.2.1 : Int) * (s2.2.1 : Int) = ((s1.2.1 * s2.2.1 : Nat) : Int) := by simp
        rw [pc_get L6 (by decide) r60, pc_get L7 (by decide) r71, pc_get L7 (by decide) r70, pc_get L6 (by decide) r61, pc_F_0, pc_F_1, pc_F_o (by decide), pc_F_0, pc_F_1, c1, pc_put (fr_l (by omega)) L6 (by decide) r60, pc_F_u0 rfl, pc_get L6 (by decide) r61, pc_get L7 (by decide) r71, pc_F_1, pc_F_o (by decide), pc_F_1, c2, pc_put (fr_l (by omega)) L6 (by decide) r61, pc_F_u1 rfl, pc_cv L6, pc_small _ (Or.inl rfl) (by omega) p2 (by omega) (by omega), pl_call, gq_g_ok (by split <;> simp)]
      have hok := fr_S_ok (a := s1.1 * s2.2.1 + s2.1 * s1.2.1) (b := s1.2.1 * s2.2.1) (by omega) p2 (by omega) (by omega)
      rw [hm2.1 h2, pl_call, pl_gi (by decide) (by decide), if_neg (show ¬ (1 : Int) = 0 by decide), pc_gr L5 (by decide) r50 (by decide), pc_gr L5 (by decide) r51 (by decide), pc_cv L6, hadd, pl_call]
      generalize hs3 : fr_S (s1.1 * s2.2.1 + s2.1 * s1.2.1) (s1.2.1 * s2.2.1) = s3 at *
      have F3 : pc_fr Z (pc_F (pc_F Z 7 s2.1 s2.2.1) 6 s3.1 s3.2.1) := (pc_fr_F (Or.inr rfl)).trans (pc_fr_F (Or.inl rfl))
      simp only [Bool.false_eq_true, if_false]
      cases h3 : s3.2.2 with
      | true =>
        refine ⟨fun h => ?_, fun _ => ⟨_, ?_, F3⟩⟩
        · rw [fr_T_z h3] at h; cases h
        · rw [if_pos rfl, pl_gi (by decide) (by decide), if_pos (show (0 : Int) = 0 from rfl)]
      | false =>
        have hrun : ∀ (Y : Nat → Nat → Int), Y = pc_F Z 7 s2.1 s2.2.1 → f_FR_multiply (pc_h (pc_F Y 6 s3.1 s3.2.1)) 6 (V k : Int) (U k : Int) = some (if (fr_T s3 (V k) (U k)).2.2 = true then 0 else 1, pc_h (pc_F Y 6 (fr_T s3 (V k) (U k)).1 (fr_T s3 (V k) (U k)).2.1)) := fun Y _ => pc_multiply Y (Or.inl rfl) rfl rfl hok h3 x5 x3 x6 x4
        rw [if_neg Bool.false_ne_true, pl_gi (by decide) (by decide), if_neg (show ¬ (1 : Int) = 0 by decide), pc_gr L5 (by decide) r50 (by decide), pc_gr g0 (by decide) q2 (by omega), pc_ald (i := k) g5 rfl (by omega), F3 _ (by omega) (by omega), x2, pc_gr g0 (by decide) q1 (by omega), pc_ald (i := k) g4 rfl (by omega), F3 _ (by omega) (by omega), x1, pc_cv L6, hrun _ rfl, pl_call]
        have hokT := fr_T_ok hok x5 x3 x6 x4
        generalize fr_T s3 (V k) (U k) = s4 at *
        have F4 : pc_fr Z (pc_F (pc_F Z 7 s2.1 s2.2.1) 6 s4.1 s4.2.1) := (pc_fr_F (Or.inr rfl)).trans (pc_fr_F (Or.inl rfl))
        cases h4 : s4.2.2 with
        | true => exact ⟨fun h => (by cases h), fun _ => ⟨_, by rw [if_pos rfl, pl_gi (by decide) (by decide), if_pos (show (0 : Int) = 0 from rfl)], F4⟩⟩
        | false => exact ⟨fun _ => ⟨_, by rw [if_neg Bool.false_ne_true, pl_gi (by decide) (by decide), if_neg (show ¬ (1 : Int) = 0 by decide)], F4, pc_F_0, pc_F_1, (hokT.2.2.1 h4).1, (hokT.2.2.1 h4).2⟩, fun h => by cases h⟩
