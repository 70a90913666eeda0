/-! the component fills a state with what is so behind an exchange -/
/-- a state (at S) is well made for n letters -/
def pc_ok (n : Nat) (Z : Nat → Nat → Int) (S : Nat) (U V : Nat → Nat) : Prop := Z (S + 1) 0 = (n : Int) ∧ mu_bd n (pc_T Z (S + 2)) ∧ mu_bd n (pc_T Z (S + 3)) ∧ mu_bd n (pc_T Z (S + 6)) ∧ mu_bd n (pc_T Z (S + 7)) ∧ pc_W n Z S U V ∧ (0 ≤ Z S 5 ∧ Z S 5 ≤ 99999)
/-- what may change: one state, the fractions -/
def pc_fA (A : Nat) (Z Z' : Nat → Nat → Int) : Prop := ∀ o, o ≠ 6 → o ≠ 7 → (o < A ∨ A + 8 ≤ o) → Z' o = Z o
theorem pc_fA.trans {A : Nat} {X Y Z : Nat → Nat → Int} (h : pc_fA A X Y) (h2 : pc_fA A Y Z) : pc_fA A X Z := fun o h6 h7 ho => (h2 o h6 h7 ho).trans (h o h6 h7 ho)
def pc_made (n k : Nat) (Z : Nat → Nat → Int) (S : Nat) (Z' : Nat → Nat → Int) (A : Nat) (U V : Nat → Nat) : Prop :=
  Z' (A + 1) 0 = (n : Int) ∧ mu_q n (pc_T Z' (A + 2)) (mu_B (pc_T Z (S + 2)) k) ∧ mu_q n (pc_T Z' (A + 3)) (mu_D n (pc_T Z (S + 2)) (pc_T Z (S + 3)) k) ∧ mu_q n (pc_T Z' (A + 6)) (mu_C (pc_T Z (S + 2)) (pc_T Z (S + 6)) k) ∧ mu_q n (pc_T Z' (A + 7)) (mu_G n (pc_T Z (S + 2)) (pc_T Z (S + 6)) (pc_T Z (S + 7)) k) ∧
  (∀ i, i < n → Z' (A + 4) i = if i = k then ((fr_W (pc_T Z (S + 2)) n k U V).1 : Int) else Z (S + 4) i) ∧ (∀ i, i < n → Z' (A + 5) i = if i = k then ((fr_W (pc_T Z (S + 2)) n k U V).2.1 : Int) else Z (S + 5) i) ∧ Z' A 5 = if Z S 5 < 99999 then Z S 5 + 1 else 99999
theorem mu_D_fr {n k : Nat} {B D : Nat → Nat → Int} (hD : mu_bd n D) (hk : k < n) : mu_bd n (mu_D n B D k) ↔ mu_fr (mu_D n B D k) k n := by
  constructor
  · exact fun h c hc => h k hk c hc
  · intro h i hi j hj
    by_cases e : i = k
    · subst e; exact h j hj
    · have : mu_D n B D k i j = D i j := by unfold mu_D; rw [if_neg e]
      rw [this]; exact hD i hi j hj
theorem mu_G_fr {n k : Nat} {B C G : Nat → Nat → Int} (hG : mu_bd n G) (hk : k < n) : mu_bd n (mu_G n B C G k) ↔ mu_fr (mu_G n B C G k) k n := by
  constructor
  · exact fun h c hc => h k hk c hc
  · intro h i hi j hj
    by_cases e : i = k
    · subst e; exact h j hj
    · have : mu_G n B C G k i j = G i j := by unfold mu_G; rw [if_neg e]
      rw [this]; exact hG i hi j hj
/-- what mu_can asks beside the weights -/
def mu_cae (n : Nat) (B D C G : Nat → Nat → Int) (U V : Nat → Nat) (k : Nat) : Prop := (fr_W B n k U V).2.2 = false ∧ mu_bd n (mu_B B k) ∧ mu_fr (mu_D n B D k) k n ∧ mu_bd n (mu_C B C k) ∧ mu_fr (mu_G n B C G k) k n
set_option maxHeartbeats 4000000 in
theorem pc_fill (Z : Nat → Nat → Int) {A S k n : Nat} {a : Int} {U V : Nat → Nat} (hA : pc_S A = true) (hS : pc_S S = true) (hAS : A ≠ S) (hn4 : n ≤ 4) (ha : a = (k : Int)) (hk : k < n) (hok : pc_ok n Z S U V) :
    (mu_cae n (pc_T Z (S + 2)) (pc_T Z (S + 3)) (pc_T Z (S + 6)) (pc_T Z (S + 7)) U V k → ∃ Z', f_EX_fill (pc_h Z) 5 A S a = some (1, pc_h Z') ∧ pc_fA A Z Z' ∧ pc_made n k Z S Z' A U V) ∧
    (¬ mu_cae n (pc_T Z (S + 2)) (pc_T Z (S + 3)) (pc_T Z (S + 6)) (pc_T Z (S + 7)) U V k → ∃ Z', f_EX_fill (pc_h Z) 5 A S a = some (0, pc_h Z') ∧ pc_fA A Z Z') := by
  subst ha
  obtain ⟨hn, hB, hD, hC, hG, hW, hx⟩ := hok
  obtain ⟨g0, gh, g4, g5, g6, g7⟩ := pc_S_all S (pc_S_lt hS) hS
  obtain ⟨q0, q1, q2, q3, q4, q5⟩ := pc_S_ref S (pc_S_lt hS) hS
  obtain ⟨a0, ah, a4, a5, a6, a7⟩ := pc_S_all A (pc_S_lt hA) hA
  obtain ⟨z0, z1, z2, z3, z4, z5⟩ := pc_S_ref A (pc_S_lt hA) hA
  obtain ⟨v0, v1, v2, w0, w1, w2⟩ := pc_H_all (S + 1) (pc_H_lt gh) gh
  obtain ⟨u0, u1, u2, t0, t1, t2⟩ := pc_H_all (A + 1) (pc_H_lt ah) ah
  have hap := pc_S_apart hA hS hAS
  have hgA := pc_S_ge A hA
  have hgS := pc_S_ge S hS
  have L5 : pc_L[5]? = some (3 + 3, 2) := by decide +kernel
  have r50 : pc_r 5 0 = 6 := by decide +kernel
  have L6 := pc_FL (Or.inl rfl : (6 : Nat) = 6 ∨ (6 : Nat) = 7)
  obtain ⟨-, r60, r61⟩ := pc_F_r 6 (Or.inl rfl)
  have hfw := pc_findWorth Z hS hn hn4 rfl hk hB hW
  unfold f_EX_fill
  rw [pc_cv L5]
  generalize hs : fr_W (pc_T Z (S + 2)) n k U V = s at hfw
  cases hz : s.2.2 with
  | true =>
    obtain ⟨Z1, hr, hf⟩ := hfw.2 hz
    refine ⟨fun h => ?_, fun _ => ⟨Z1, ?_, fun o h6 h7 _ => hf o h6 h7⟩⟩
    · have := h.1
      rw [hs, hz] at this
      cases this
    · rw [hr, pl_call, pl_gi (by decide) (by decide), if_pos (show (0 : Int) = 0 from rfl)]
  | false =>
    obtain ⟨Z1, hr, hf, f60, f61, sl1, sl2⟩ := hfw.1 hz
    have F1 : pc_fA A Z Z1 := fun o h6 h7 _ => hf o h6 h7
    have hS1 : ∀ o, S ≤ o → o < S + 8 → Z1 o = Z o := fun o h1 h2 => hf o (by omega) (by omega)
    have T1 : ∀ o, S ≤ o → o < S + 8 → pc_T Z1 o = pc_T Z o := fun o h1 h2 => by unfold pc_T; rw [hS1 o h1 h2]
    rw [hr, pl_call, pl_gi (by decide) (by decide), if_neg (show ¬ (1 : Int) = 0 by decide), pc_gr a0 (by decide) z0 (by omega), pc_gr g0 (by decide) q0 (by omega), pc_cv u0]
    have hbe := pc_becomeExchanged Z1 (t := A + 1) (u := S + 1) (k := k) (n := n) ah gh (by omega) (by rw [hS1 _ (by omega) (by omega)]; exact hn) hn4 rfl hk (by rw [T1 _ (by omega) (by omega)]; exact hB) (by rw [T1 _ (by omega) (by omega)]; exact hD)
    have eT2 : pc_T Z1 (S + 1 + 1) = pc_T Z (S + 2) := T1 (S + 2) (by omega) (by omega)
    have eT3 : pc_T Z1 (S + 1 + 2) = pc_T Z (S + 3) := T1 (S + 3) (by omega) (by omega)
    rw [eT2, eT3] at hbe
    rw [hbe, pl_call]
    have hX1 := pc_X_1 Z1 (A + 1) (S + 1) k n (fun i j => i < n ∧ j < n)
    have hX2 := pc_X_2 Z1 (A + 1) (S + 1) k n (fun i j => i < n ∧ j < n)
    have hX0 := pc_X_0 Z1 (A + 1) (S + 1) k n (fun i j => i < n ∧ j < n)
    have hXo := fun (o : Nat) (h : o < A + 1 ∨ A + 1 + 3 ≤ o) => pc_X_o Z1 (A + 1) (S + 1) k n (fun i j => i < n ∧ j < n) h
    generalize pc_X Z1 (A + 1) (S + 1) k n (fun i j => i < n ∧ j < n) = Z2 at hX1 hX2 hX0 hXo ⊢
    rw [eT2] at hX1 hX2
    rw [eT3] at hX2
    have F2 : pc_fA A Z Z2 := fun o h6 h7 ho => (hXo o (by omega)).trans (F1 o h6 h7 ho)
    have hS2 : ∀ o, S ≤ o → o < S + 8 → Z2 o = Z o := fun o h1 h2 => (hXo o (by omega)).trans (hS1 o h1 h2)
    have T2 : ∀ o, S ≤ o → o < S + 8 → pc_T Z2 o = pc_T Z o := fun o h1 h2 => by unfold pc_T; rw [hS2 o h1 h2]
    by_cases hc1 : mu_bd n (mu_B (pc_T Z (S + 2)) k) ∧ mu_bd n (mu_D n (pc_T Z (S + 2)) (pc_T Z (S + 3)) k)
    · rw [if_pos hc1, pl_gi (by decide) (by decide), if_neg (show ¬ (1 : Int) = 0 by decide), pc_gr g0 (by decide) q0 (by omega), pc_get v0 (by decide) w0, hS2 _ (by omega) (by omega), hn]
      have hsg := pc_fillSigns Z2 (n := n) (k := k) hA hS hAS (by rw [hS2 _ (by omega) (by omega)]; exact hn) hn4 rfl hk (by rw [T2 _ (by omega) (by omega)]; exact hB) (by rw [T2 _ (by omega) (by omega)]; exact hC)
      rw [T2 (S + 2) (by omega) (by omega), T2 (S + 6) (by omega) (by omega)] at hsg
      rw [hsg, pl_call]
      generalize hZ3 : gx_us Z2 (A + 6) (pm_wr (Z2 (A + 6)) 0 (fun i j => i < n ∧ j < n) (mu_C (pc_T Z (S + 2)) (pc_T Z (S + 6)) k)) = Z3
      have o3 : ∀ o, o ≠ A + 6 → Z3 o = Z2 o := fun o ho => by rw [← hZ3, gx_us_ne ho]
      have e3 : Z3 (A + 6) = pm_wr (Z2 (A + 6)) 0 (fun i j => i < n ∧ j < n) (mu_C (pc_T Z (S + 2)) (pc_T Z (S + 6)) k) := by rw [← hZ3, gx_us_eq]
      have F3 : pc_fA A Z Z3 := fun o h6 h7 ho => (o3 o (by omega)).trans (F2 o h6 h7 ho)
      have hS3 : ∀ o, S ≤ o → o < S + 8 → Z3 o = Z o := fun o h1 h2 => (o3 o (by omega)).trans (hS2 o h1 h2)
      have T3 : ∀ o, S ≤ o → o < S + 8 → pc_T Z3 o = pc_T Z o := fun o h1 h2 => by unfold pc_T; rw [hS3 o h1 h2]
      have hdg := pc_fillDegrees Z3 (n := n) (k := k) hA hS hAS (by rw [hS3 _ (by omega) (by omega)]; exact hn) hn4 rfl hk (by rw [T3 _ (by omega) (by omega)]; exact hB) (by rw [T3 _ (by omega) (by omega)]; exact hG)
      rw [T3 (S + 2) (by omega) (by omega), T3 (S + 6) (by omega) (by omega), T3 (S + 7) (by omega) (by omega)] at hdg
      rw [hdg, pl_call]
      generalize hZ4 : gx_us Z3 (A + 7) (pm_wr (Z3 (A + 7)) 0 (fun i j => i < n ∧ j < n) (mu_G n (pc_T Z (S + 2)) (pc_T Z (S + 6)) (pc_T Z (S + 7)) k)) = Z4
      have o4 : ∀ o, o ≠ A + 7 → Z4 o = Z3 o := fun o ho => by rw [← hZ4, gx_us_ne ho]
      have e4 : Z4 (A + 7) = pm_wr (Z3 (A + 7)) 0 (fun i j => i < n ∧ j < n) (mu_G n (pc_T Z (S + 2)) (pc_T Z (S + 6)) (pc_T Z (S + 7)) k) := by rw [← hZ4, gx_us_eq]
      have F4 : pc_fA A Z Z4 := fun o h6 h7 ho => (o4 o (by omega)).trans (F3 o h6 h7 ho)
      have hS4 : ∀ o, S ≤ o → o < S + 8 → Z4 o = Z o := fun o h1 h2 => (o4 o (by omega)).trans (hS3 o h1 h2)
      have qC : mu_q n (pc_T Z4 (A + 6)) (mu_C (pc_T Z (S + 2)) (pc_T Z (S + 6)) k) := fun i hi j hj => by
        unfold pc_T
        rw [o4 _ (by omega), e3, show 4 * i + j = 0 + 4 * i + j by omega, pm_wr_in (by omega) (by omega), if_pos ⟨hi, hj⟩]
        rfl
      have qG : mu_q n (pc_T Z4 (A + 7)) (mu_G n (pc_T Z (S + 2)) (pc_T Z (S + 6)) (pc_T Z (S + 7)) k) := fun i hi j hj => by
        unfold pc_T
        rw [e4, show 4 * i + j = 0 + 4 * i + j by omega, pm_wr_in (by omega) (by omega), if_pos ⟨hi, hj⟩]
        rfl
      rw [pc_gr a0 (by decide) z3 (by omega), pc_beyond Z4 a6 rfl hn4, pl_call]
      by_cases hc2 : mu_bd n (mu_C (pc_T Z (S + 2)) (pc_T Z (S + 6)) k)
      · rw [if_pos ((mu_q_bd qC).mpr hc2), pl_gi (by decide) (by decide), if_pos (show (0 : Int) = 0 from rfl), pc_gr a0 (by decide) z4 (by omega), pc_beyond Z4 a7 rfl hn4, pl_call]
        by_cases hc3 : mu_bd n (mu_G n (pc_T Z (S + 2)) (pc_T Z (S + 6)) (pc_T Z (S + 7)) k)
        · rw [if_pos ((mu_q_bd qG).mpr hc3), pl_gi (by decide) (by decide), if_pos (show (0 : Int) = 0 from rfl), pc_gr g0 (by decide) q1 (by omega), pc_gr a0 (by decide) z1 (by omega), pc_copy (m := 4) (c := 4) g4 a4 rfl (by decide) (by decide), pc_gr g0 (by decide) q2 (by omega), pc_gr a0 (by decide) z2 (by omega), pc_copy (m := 4) (c := 4) g5 a5 rfl (by decide) (by decide)]
          generalize hZ5 : gx_us (gx_us Z4 (A + 4) (fun j => if j < 4 then Z4 (S + 4) j else Z4 (A + 4) j)) (A + 5) (fun j => if j < 4 then gx_us Z4 (A + 4) (fun j => if j < 4 then Z4 (S + 4) j else Z4 (A + 4) j) (S + 5) j else gx_us Z4 (A + 4) (fun j => if j < 4 then Z4 (S + 4) j else Z4 (A + 4) j) (A + 5) j) = Z5
          have o5 : ∀ o, o ≠ A + 4 → o ≠ A + 5 → Z5 o = Z4 o := fun o h4 h5 => by rw [← hZ5, gx_us_ne h5, gx_us_ne h4]
          have e54 : ∀ j, j < 4 → Z5 (A + 4) j = Z (S + 4) j := fun j hj => by
            rw [← hZ5, gx_us_ne (by omega), gx_us_eq, if_pos hj, hS4 _ (by omega) (by omega)]
          have e55 : ∀ j, j < 4 → Z5 (A + 5) j = Z (S + 5) j := fun j hj => by
            rw [← hZ5, gx_us_eq, if_pos hj, gx_us_ne (by omega), hS4 _ (by omega) (by omega)]
          have k60 : Z5 6 0 = (s.1 : Int) := by
            rw [o5 _ (by omega) (by omega), o4 _ (by omega), o3 _ (by omega), hXo _ (by omega)]; exact f60
          have k61 : Z5 6 1 = (s.2.1 : Int) := by
            rw [o5 _ (by omega) (by omega), o4 _ (by omega), o3 _ (by omega), hXo _ (by omega)]; exact f61
          have kS5 : Z5 S 5 = Z S 5 := by rw [o5 _ (by omega) (by omega), hS4 _ (by omega) (by omega)]
          rw [pc_gr a0 (by decide) z1 (by omega), pc_gr L5 (by decide) r50 (by decide), pc_get L6 (by decide) r60, k60, pc_ast (i := k) (Or.inl rfl) ⟨by omega, by omega⟩ a4 rfl (by omega), pc_gr a0 (by decide) z2 (by omega), pc_gr L5 (by decide) r50 (by decide), pc_get L6 (by decide) r61]
          have k61' : gx_up Z5 (A + 4) k (s.1 : Int) 6 1 = (s.2.1 : Int) := by rw [gx_up_ne (by omega)]; exact k61
          rw [k61', pc_ast (i := k) (Or.inl rfl) ⟨by omega, by omega⟩ a5 rfl (by omega), pc_get g0 (by decide) q5]
          generalize hZ6 : gx_up (gx_up Z5 (A + 4) k (s.1 : Int)) (A + 5) k (s.2.1 : Int) = Z6
          have o6 : ∀ o, o ≠ A + 4 → o ≠ A + 5 → Z6 o = Z5 o := fun o h4 h5 => by rw [← hZ6, gx_up_ne h5, gx_up_ne h4]
          have kS6 : Z6 S 5 = Z S 5 := by rw [o6 _ (by omega) (by omega)]; exact kS5
          have emin : (if 99999 < Z S 5 + 1 then 99999 else Z S 5 + 1) = if Z S 5 < 99999 then Z S 5 + 1 else 99999 := by
            by_cases h : Z S 5 < 99999
            · rw [if_neg (by omega), if_pos h]
            · rw [if_pos (by omega), if_neg h]
          have ebd : gx_i (if Z S 5 < 99999 then Z S 5 + 1 else 99999) := by split <;> constructor <;> omega
          rw [kS6, pl_gi (by omega) (by omega), emin, pc_put ebd a0 (by decide) z5]
          refine ⟨fun _ => ⟨gx_up Z6 A 5 (if Z S 5 < 99999 then Z S 5 + 1 else 99999), rfl, ?_, ?_⟩, fun h => ?_⟩
          · intro o h6 h7 ho
            rw [gx_up_ne (by omega), o6 _ (by omega) (by omega), o5 _ (by omega) (by omega)]
            exact F4 o h6 h7 ho
          · have oo : ∀ o, o ≠ A → o ≠ A + 4 → o ≠ A + 5 → gx_up Z6 A 5 (if Z S 5 < 99999 then Z S 5 + 1 else 99999) o = Z4 o := fun o h0 h4 h5 => by rw [gx_up_ne h0, o6 _ h4 h5, o5 _ h4 h5]
            refine ⟨?_, fun i hi j hj => ?_, fun i hi j hj => ?_, fun i hi j hj => ?_, fun i hi j hj => ?_, fun i hi => ?_, fun i hi => ?_, ?_⟩
            · rw [oo _ (by omega) (by omega) (by omega), o4 _ (by omega), o3 _ (by omega)]; exact hX0
            · unfold pc_T
              rw [oo _ (by omega) (by omega) (by omega), o4 _ (by omega), o3 _ (by omega), show A + 2 = A + 1 + 1 by omega, hX1, show 4 * i + j = 0 + 4 * i + j by omega, pm_wr_in (by omega) (by omega), if_pos ⟨hi, hj⟩]
              rfl
            · unfold pc_T
              rw [oo _ (by omega) (by omega) (by omega), o4 _ (by omega), o3 _ (by omega), show A + 3 = A + 1 + 2 by omega, hX2, show 4 * i + j = 0 + 4 * i + j by omega, pm_wr_in (by omega) (by omega), if_pos ⟨hi, hj⟩]
              rfl
            · have := qC i hi j hj
              unfold pc_T at this ⊢
              rw [oo _ (by omega) (by omega) (by omega)]
              exact this
            · have := qG i hi j hj
              unfold pc_T at this ⊢
              rw [oo _ (by omega) (by omega) (by omega)]
              exact this
            · rw [gx_up_ne (by omega), ← hZ6, gx_up_ne (by omega), gx_up_at, hs]
              by_cases e : i = k
              · rw [if_pos e, if_pos e]
              · rw [if_neg e, if_neg e]; exact e54 i (by omega)
            · rw [gx_up_ne (by omega), ← hZ6, gx_up_at, hs]
              by_cases e : i = k
              · rw [if_pos e, if_pos e]
              · rw [if_neg e, if_neg e, gx_up_ne (by omega)]; exact e55 i (by omega)
            · rw [gx_up_at, if_pos rfl]
          · exact absurd ⟨by rw [hs]; exact hz, hc1.1, (mu_D_fr hD hk).mp hc1.2, hc2, (mu_G_fr hG hk).mp hc3⟩ h
        · rw [if_neg (fun z => hc3 ((mu_q_bd qG).mp z)), pl_gi (by decide) (by decide), if_neg (show ¬ (1 : Int) = 0 by decide)]
          exact ⟨fun h => absurd ((mu_G_fr hG hk).mpr h.2.2.2.2) hc3, fun _ => ⟨Z4, rfl, F4⟩⟩
      · rw [if_neg (fun z => hc2 ((mu_q_bd qC).mp z)), pl_gi (by decide) (by decide), if_neg (show ¬ (1 : Int) = 0 by decide)]
        exact ⟨fun h => absurd h.2.2.2.1 hc2, fun _ => ⟨Z4, rfl, F4⟩⟩
    · rw [if_neg hc1, pl_gi (by decide) (by decide), if_pos (show (0 : Int) = 0 from rfl)]
      exact ⟨fun h => absurd ⟨h.2.1, (mu_D_fr hD hk).mpr h.2.2.1⟩ hc1, fun _ => ⟨Z2, rfl, F2⟩⟩
