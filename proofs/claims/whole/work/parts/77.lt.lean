/-! letters, both sides: the call -/
theorem m_letters {Z X : Nat → Nat → Int} (h : rl Z X) : rl_call (f_LE_letters (pc_h Z) 0) (f_MD_letters (pm_h X) 0) := by
  obtain ⟨n, B0, A, P, K, O, len, kb, hC, hG⟩ := h
  obtain ⟨⟨hn2, hn4, hX⟩, ⟨zA, zP, hp⟩, -, -, -, ⟨h6, h6a, -⟩, -, hs, ⟨hts, t5⟩, ⟨b1, b2, b3, b4⟩, -⟩ := id hC
  obtain ⟨l1, -⟩ := pc_L1
  obtain ⟨-, e1, e2, -, -, -⟩ := pc_r1
  have hS : pc_S P = true := by rcases hp with q | q <;> rw [q.2] <;> decide
  have xx : ∀ o, o ≠ 0 → gx_up X 0 8 (-1) o = X o := fun o ho => gx_up_ne ho
  have x0 : ∀ j, j ≠ 8 → gx_up X 0 8 (-1) 0 j = X 0 j := fun j hj => by rw [gx_up_at, if_neg hj]
  unfold f_LE_letters
  rw [pc_gr pc_L0 (by decide) pc_r0.1 (by decide), pc_grv pc_L0 (by decide) pc_r0'.2.1 zP, pc_cv l1]
  rcases tx_read hS hts with ⟨k, q, Z', X', a, b, a', k0, k5, hq, f1, f2, hF, hG8⟩ | ⟨m, Z', X', a, b, a', l, f1, f2, hF, hG8, hR, hN⟩
  · rw [f1, f2, pl_call, pc_gr pc_L0 (by decide) pc_r0.1 (by decide), pc_put trivial l1 (by decide) e1, pl_gi (by decide) (by decide), if_pos rfl, pc_gr pc_L0 (by decide) pc_r0.1 (by decide), pc_get l1 (by decide) e2, gx_up_at, if_neg (by decide), pc_tx_2]
    unfold fb_MD_letters_43
    have g25 : gx_up (pm_tx X' a' (k : Int) (q : Int)) 0 7 0 0 25 = (k : Int) := by rw [gx_up_at, if_neg (by decide), pm_tx_25]
    have g26 : gx_up (pm_tx X' a' (k : Int) (q : Int)) 0 7 0 0 26 = (q : Int) := by rw [gx_up_at, if_neg (by decide), pm_tx_26]
    have g25' : gx_up (gx_up (pm_tx X' a' (k : Int) (q : Int)) 0 7 0) 0 8 (q : Int) 0 25 = (k : Int) := by rw [gx_up_at, if_neg (by decide), g25]
    rw [pm_put trivial (by decide) rfl, pm_get (by decide) rfl, g25, if_neg (by omega), pm_get (by decide) rfl, g26, pm_put trivial (by decide) rfl, pm_get (by decide) rfl, g25']
    refine ⟨_, _, _, rfl, rfl, ?_⟩
    generalize hZ1 : gx_up (pc_tx Z' a b (k : Int) (q : Int)) 1 1 0 = Z1
    generalize hX1 : gx_up (gx_up (pm_tx X' a' (k : Int) (q : Int)) 0 7 0) 0 8 (q : Int) = X1
    have zo : ∀ o, o ≠ 1 → (o < P ∨ P + 8 ≤ o) → Z1 o = Z o := fun o h1 h2 => by rw [← hZ1, gx_up_ne h1, pc_tx_o h1]; exact hF o h2
    have z1 : Z1 1 1 = 0 ∧ Z1 1 3 = (q : Int) := ⟨by rw [← hZ1, gx_up_at, if_pos rfl], by rw [← hZ1, gx_up_at, if_neg (by decide), pc_tx_3]⟩
    have xo : ∀ o, o ≠ 0 → o ≠ 14 → o ≠ 15 → X1 o = X o := fun o h1 h2 h3 => by rw [← hX1, gx_up_ne h1, gx_up_ne h1, pm_tx_o h1, hG8.1 o h1 h2 h3, xx o h1]
    have xj : ∀ j, j < 24 → j ≠ 7 → j ≠ 8 → X1 0 j = X 0 j := fun j h1 h2 h3 => by rw [← hX1, gx_up_at, if_neg h3, gx_up_at, if_neg h2, pm_tx_j (by omega) (by omega) (by omega), hG8.2 j (by omega), x0 j h3]
    have x78 : X1 0 7 = 0 ∧ X1 0 8 = (q : Int) := ⟨by rw [← hX1, gx_up_at, if_neg (by decide), gx_up_at, if_pos rfl], by rw [← hX1, gx_up_at, if_pos rfl]⟩
    have m1 : ∀ o, o ≠ 1 → gx_us Z 1 (Z1 1) o = Z o := fun o ho => gx_us_ne ho
    have m2 : gx_us Z 1 (Z1 1) 1 = Z1 1 := gx_us_eq
    have hCm : rl_C n B0 A P K O 0 kb (gx_us Z 1 (Z1 1)) X1 := by
      refine rl_C_io hC (fun o _ ho _ _ _ _ => m1 o ho) (fun j _ => by rw [m1 0 (by decide)]) (xo 1 (by decide) (by decide) (by decide)) (xo 2 (by decide) (by decide) (by decide)) (fun j hj => xj j (by omega) (by omega) (by omega)) ?_ ⟨⟨?_, x78.1, by decide, fun q hq => by omega⟩, ?_⟩ ⟨?_, ?_, b3, fun e he => ?_⟩
      · rw [m1 0 (by decide), xj 4 (by decide) (by decide) (by decide)]; exact hs
      · rw [m2]; exact z1.1
      · rw [m2, x78.2]; exact z1.2
      · rw [m1 170 (by decide)]; exact b1
      · rw [xj 11 (by decide) (by decide) (by decide)]; exact b2
      · rw [m1 171 (by decide), m1 172 (by decide), xo 4 (by decide) (by decide) (by decide), xo 5 (by decide) (by decide) (by decide)]; exact b4 e he
    refine ⟨n, B0, A, P, K, O, 0, kb, rl_C_z hCm ⟨fun o h1 h2 h3 h4 h5 h6 => ?_, fun j h1 h2 => ?_⟩, rl_G_cg hG (fun o h1 h2 => zo o (by omega) (by omega)) ?_ ?_ ⟨zo _ (by omega) (by omega), zo _ (by omega) (by omega)⟩⟩
    · by_cases c : o = 1
      · subst c; exact m2.symm
      · rw [m1 o c]; exact zo o c h4
    · rw [m1 0 (by decide), zo 0 (by decide) (by omega)]
    · rw [zo 0 (by decide) (by omega)]
    · rw [zo 0 (by decide) (by omega)]
  · rw [f1, f2, pl_call, pc_gr pc_L0 (by decide) pc_r0.1 (by decide), pc_put trivial l1 (by decide) e1, pl_gi (a := 1) (by decide) (by decide), if_neg (show ¬ (1 : Int) = 0 by decide), pc_cv pc_L0]
    unfold fb_MD_letters_43
    have g25 : gx_up (pm_tx X' a' 0 l) 0 7 0 0 25 = 0 := by rw [gx_up_at, if_neg (by decide), pm_tx_25]
    rw [pm_put trivial (by decide) rfl, pm_get (by decide) rfl, g25, if_pos rfl, pm_cv]
    generalize hZ1 : gx_up (pc_tx Z' a b 0 (-1)) 1 1 0 = Z1
    generalize hX1 : gx_up (pm_tx X' a' 0 l) 0 7 0 = X1
    have zz : ∀ o, o ≠ 1 → Z1 o = Z' o := fun o h1 => by rw [← hZ1, gx_up_ne h1, pc_tx_o h1]
    have zo : ∀ o, o ≠ 1 → (o < P ∨ P + 8 ≤ o) → Z1 o = Z o := fun o h1 h2 => (zz o h1).trans (hF o h2)
    have z1 : Z1 1 1 = 0 ∧ Z1 1 3 = -1 := ⟨by rw [← hZ1, gx_up_at, if_pos rfl], by rw [← hZ1, gx_up_at, if_neg (by decide), pc_tx_3]⟩
    have xz : ∀ o, o ≠ 0 → X1 o = X' o := fun o h1 => by rw [← hX1, gx_up_ne h1, pm_tx_o h1]
    have x27 : X1 0 27 = X' 0 27 := by rw [← hX1, gx_up_at, if_neg (by decide), pm_tx_j (by omega) (by omega) (by omega)]
    have xj : ∀ j, j < 24 → j ≠ 7 → X1 0 j = gx_up X 0 8 (-1) 0 j := fun j h1 h2 => by rw [← hX1, gx_up_at, if_neg h2, pm_tx_j (by omega) (by omega) (by omega), hG8.2 j (by omega)]
    have x7 : X1 0 7 = 0 := by rw [← hX1, gx_up_at, if_pos rfl]
    obtain ⟨⟨m2, m4⟩, r1, r2, r3, r4, r5⟩ := hR
    have tT : pc_T Z1 (P + 2) = pc_T Z' (P + 2) := by unfold pc_T; rw [zz (P + 2) (by omega)]
    have hT : tx_T (pc_T Z1 (P + 2)) := by rw [tT]; exact r5
    have hn : Z1 (P + 1) 0 = (m : Int) := by rw [zz _ (by omega)]; exact r1
    have hN1 : tx_new P Z1 := by
      unfold tx_new at hN ⊢
      rw [zz P (by omega), zz (P + 5) (by omega), zz (P + 3) (by omega), zz (P + 6) (by omega), zz (P + 7) (by omega)]
      exact hN
    have a1 : Z1 0 13 = (A : Int) := by rw [zo 0 (by decide) (by omega)]; exact zA
    have a2 : Z1 0 14 = (P : Int) := by rw [zo 0 (by decide) (by omega)]; exact zP
    obtain ⟨Y, y0, y⟩ := pc_beginAs Z1 a1 a2 hp hn m4 (fun i hi j hj => by have := hT i (by omega) j (by omega); exact ⟨by omega, by omega⟩) (fun i hi => (hT i (by omega) i (by omega)).2.2.1 rfl)
    obtain ⟨X2, x20, x2⟩ := pm_begin X1 (n := m) (x27.trans r2) m4
    rw [y0, pl_call, x20, pl_call, pm_get (by decide) rfl, x2.2.1, pc_grv pc_L0 (by decide) pc_r0'.1 y.2.1]
    obtain ⟨s1, s2, -⟩ := pc_S_all P (pc_S_lt hS) hS
    obtain ⟨q0, -⟩ := pc_S_ref P (pc_S_lt hS) hS
    obtain ⟨g0, -, -, w0, -⟩ := pc_H_all (P + 1) (pc_H_lt s2) s2
    have yn : Y (P + 1) 0 = (m : Int) := by rw [y.1 (P + 1) (by omega) (by omega) (by omega) (by omega) (by omega) (by omega) (by omega)]; exact hn
    rw [pc_gr s1 (by decide) q0 (by omega), pc_get g0 (by decide) w0, yn]
    refine ⟨_, Y, X2, rfl, rfl, rl_begun (O := O) m2 m4 hp hn hN1 (fun j hj => ?_) (fun i hi => ?_) hT ⟨?_, h6a⟩ ⟨?_, ?_, ?_⟩ ⟨⟨z1.1, x7, by decide, fun q hq => by omega⟩, ?_⟩ y x2⟩
    · rw [xz 14 (by decide), zz _ (by omega)]; exact r3 j hj
    · rw [xz 15 (by decide), zz _ (by omega)]; exact r4 i (by omega)
    · rw [zo 8 (by decide) (by omega)]; exact h6
    · rw [zo 0 (by decide) (by omega), xj 4 (by decide) (by decide), x0 4 (by decide)]; exact hs.1
    · rw [xj 4 (by decide) (by decide), x0 4 (by decide)]; exact hs.2.1
    · rw [xj 4 (by decide) (by decide), x0 4 (by decide)]; exact hs.2.2
    · rw [z1.2, xj 8 (by decide) (by decide), gx_up_at, if_pos rfl]
