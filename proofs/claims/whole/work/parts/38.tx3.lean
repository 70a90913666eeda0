/-! the clause of the table, the clause of a worth: both sides -/
theorem tx_R_hang {A n len i j : Nat} {Z X : Nat → Nat → Int} {u v : Int} (hR : tx_R A n len Z X) (hi : i < 4) (hj : j < 4) (hij : i ≠ j) (hu : 0 ≤ u ∧ u ≤ 3) (hv : 0 ≤ v ∧ v ≤ 3) (huv : u = 0 ↔ v = 0) :
    tx_R A n len (gx_up (gx_up Z (A + 2) (4 * i + j) u) (A + 2) (4 * j + i) (-v)) (gx_up (gx_up X 14 (4 * i + j) u) 14 (4 * j + i) (-v)) := by
  obtain ⟨h1, h2, h3, h4, h5, h6⟩ := hR
  refine ⟨h1, ?_, ?_, fun q hq => ?_, fun q hq => ?_, ?_⟩
  · rw [gx_up_ne (by omega), gx_up_ne (by omega)]; exact h2
  · rw [gx_up_ne (by omega), gx_up_ne (by omega)]; exact h3
  · rw [gx_up_at, gx_up_at, gx_up_at, gx_up_at, h4 q hq]
  · rw [gx_up_ne (by omega), gx_up_ne (by omega), gx_up_ne (by omega), gx_up_ne (by omega)]; exact h5 q hq
  · have eB : ∀ r c, r < 4 → c < 4 → pc_T (gx_up (gx_up Z (A + 2) (4 * i + j) u) (A + 2) (4 * j + i) (-v)) (A + 2) r c = if r = j ∧ c = i then -v else if r = i ∧ c = j then u else pc_T Z (A + 2) r c := by
      intro r c hr hc
      unfold pc_T
      rw [gx_up_at, gx_up_at]
      by_cases e : r = j ∧ c = i
      · rw [if_pos e, if_pos (by omega)]
      · rw [if_neg e, if_neg (by omega)]
        by_cases e2 : r = i ∧ c = j
        · rw [if_pos e2, if_pos (by omega)]
        · rw [if_neg e2, if_neg (by omega)]
    intro r hr c hc
    rw [eB r c hr hc, eB c r hc hr]
    obtain ⟨o1, o2, o3, o4⟩ := h6 r hr c hc
    by_cases e : r = j ∧ c = i
    · rw [if_pos e, if_neg (by omega), if_pos (by omega)]
      exact ⟨by omega, by omega, by omega, by omega⟩
    · rw [if_neg e]
      by_cases e2 : r = i ∧ c = j
      · rw [if_pos e2, if_pos (by omega)]
        exact ⟨by omega, by omega, by omega, by omega⟩
      · rw [if_neg e2, if_neg (by omega), if_neg (by omega)]
        exact ⟨o1, o2, o3, o4⟩
theorem tx_out_g {A n len p : Nat} {Z X : Nat → Nat → Int} {x y : Option (Int × gx_H)} (h : tx_out A n len p Z X x y) : tx_out A n len p Z X (gq_call x (fun r h => gq_g ((r : Int) = 0 ∨ (r : Int) = 1) (some (r, h)))) y := by
  rcases h with ⟨k, q, Z', X', a, b, a', h1, h2, h3, h4, h5, h6⟩ | ⟨p', Z', X', b, l, h1, h2, h3, h4, h5⟩
  · subst h4
    exact Or.inl ⟨k, q, Z', X', a, b, a', h1, h2, h3, rfl, h5, h6⟩
  · subst h3
    exact Or.inr ⟨p', Z', X', b, l, h1, h2, rfl, h4, h5⟩
theorem tx_out_le {A n len p p0 : Nat} {Z X : Nat → Nat → Int} {x y : Option (Int × gx_H)} (h : tx_out A n len p Z X x y) (hp : p0 ≤ p) : tx_out A n len p0 Z X x y := by
  rcases h with h | ⟨p', Z', X', b, l, h1, h2⟩
  · exact Or.inl h
  · exact Or.inr ⟨p', Z', X', b, l, by omega, h2⟩
set_option maxHeartbeats 4000000 in
theorem tx_hang {A n len p : Nat} {Z X : Nat → Nat → Int} {b l : Int} (hA : pc_S A = true) (hs : tx_s len Z X) (hR : tx_R A n len Z X) (hp : p ≤ len) :
    tx_out A n len p Z X (f_TX_readHang (pc_h (pc_tx Z (p : Int) b 0 (-1))) 1 (A + 1)) (gq_call (f_MD_readTable (pm_h (pm_tx X (p : Int) 0 l)) 0) (fun _ h => fb_MD_readClause_98 h 0)) := by
  have hA10 := pc_S_ge A hA
  obtain ⟨a0, ah, a4, a5, a6, a7⟩ := pc_S_all A (pc_S_lt hA) hA
  obtain ⟨u0, u1, u2, t0, t1, t2⟩ := pc_H_all (A + 1) (pc_H_lt ah) ah
  obtain ⟨l1, l2⟩ := pc_L1
  have hR0 := hR
  obtain ⟨hn, hc, h27, -, -, -⟩ := hR
  have len100 := hs.2.2.1
  have kc : ∀ a b c d, pc_tx Z a b c d (A + 1) 0 = (n : Int) := fun a b c d => by rw [pc_tx_o (by omega)]; exact hc
  have k27 : ∀ a w l, pm_tx X a w l 0 27 = (n : Int) := fun a w l => by rw [pm_tx_j (by decide) (by decide) (by decide)]; exact h27
  unfold f_TX_readHang f_MD_readTable
  rw [pc_get u0 (by decide) t0, kc, pc_cv l1, pm_get (by decide) rfl, k27, pm_cv]
  rcases tx_fig (b := b) (l := l) (lo := 0) (hi := (n : Int) - 1) hs hp (by decide) ⟨by omega, by omega⟩ with ⟨q1, g1, g2, g3, g4, e1, e2⟩ | ⟨k, q, a, k0, k5, hq, e1, e2⟩
  case inr =>
    rw [e1, e2, pl_call, pl_call, pl_gi (by decide) (by decide), if_pos rfl, pm_cv, pm_passw X (by omega) (by decide), pl_call, pm_get (by decide) rfl, k27, pm_cv, pm_figw X (by omega), pl_call, pl_gi (by decide) (by decide), pl_gi (by decide) (by decide), if_pos rfl, rt40w X (by omega) (by decide), pl_call, pm_endw X (by omega) (by omega)]
    exact Or.inl ⟨k, q, Z, X, _, _, _, k0, k5, hq, rfl, rfl, tx_F.rf, tx_G.rf⟩
  obtain ⟨i, hi⟩ : ∃ i : Nat, Z 2 q1 - 48 = (i : Int) := ⟨(Z 2 q1 - 48).toNat, by omega⟩
  rw [hi] at e1 e2 g4
  rw [e1, e2, pl_call, pl_call, pl_gi (by omega) (by omega), if_neg (by omega), pc_get u0 (by decide) t0, kc, pc_cv l1, pm_cv, pm_pass0 X (by omega), pl_call, pm_get (by decide) rfl, k27, pm_cv]
  rcases tx_fig (p := q1 + 1) (b := (q1 : Int)) (l := l) (lo := 0) (hi := (n : Int) - 1) hs (by omega) (by decide) ⟨by omega, by omega⟩ with ⟨q2, g5, g6, g7, g8, e3, e4⟩ | ⟨k, q, a, k0, k5, hq, e3, e4⟩
  case inr =>
    rw [e3, e4, pl_call, pl_call, pl_gi (by decide) (by decide), if_pos rfl, pl_gi (by omega) (by omega), pl_gi (by decide) (by decide), rt40w X (by omega) (by decide), rt40w X (by omega) (by decide)]
    have hh : (if (i : Int) = 0 then some ((0 : Int), pm_h (pm_tx X (q : Int) (k : Int) (q : Int))) else some (0, pm_h (pm_tx X (q : Int) (k : Int) (q : Int)))) = some (0, pm_h (pm_tx X (q : Int) (k : Int) (q : Int))) := by split <;> rfl
    rw [hh, pl_call, pm_endw X (by omega) (by omega)]
    exact Or.inl ⟨k, q, Z, X, _, _, _, k0, k5, hq, rfl, rfl, tx_F.rf, tx_G.rf⟩
  obtain ⟨j, hj⟩ : ∃ j : Nat, Z 2 q2 - 48 = (j : Int) := ⟨(Z 2 q2 - 48).toNat, by omega⟩
  rw [hj] at e3 e4 g8
  rw [e3, e4, pl_call, pl_call, pl_gi (by omega) (by omega), if_neg (by omega), pl_gi (by omega) (by omega), pl_gi (by omega) (by omega)]
  by_cases hij : i = j
  · rw [if_pos (by omega), if_pos (by omega), pc_cv l1, pc_blame Z (k := 4) (v := 4) rfl (by decide), pl_call]
    unfold fb_MD_readTable_40
    rw [pm_cv, pm_pass1 X, pl_call, pm_cv, pm_figw X (by decide), pl_call, pm_cv, pm_passw X (by decide) (by decide), pl_call, pm_cv, pm_figw X (by decide), pl_call, pl_gi (by decide) (by decide), if_pos rfl, rt73w X (by decide) (by decide) (by decide), pl_call, pm_endw X (by decide) (by omega)]
    exact Or.inl ⟨4, q2, Z, X, _, _, _, by decide, by decide, by omega, rfl, rfl, tx_F.rf, tx_G.rf⟩
  rw [if_neg (by omega), if_neg (by omega), pc_cv l1]
  unfold fb_MD_readTable_40
  rw [pm_cv, pm_pass0 X (by omega), pl_call, pm_cv]
  rcases tx_fig (p := q2 + 1) (b := (q2 : Int)) (l := l) (lo := 0) (hi := 3) hs (by omega) (by decide) (by decide) with ⟨q3, g9, g10, g11, g12, e5, e6⟩ | ⟨k, q, a, k0, k5, hq, e5, e6⟩
  case inr =>
    rw [e5, e6, pl_call, pl_call, pl_gi (by decide) (by decide), if_pos rfl, pm_cv, pm_passw X (by omega) (by decide), pl_call, pm_cv, pm_figw X (by omega), pl_call, pl_gi (by decide) (by decide), if_pos rfl, rt73w X (by omega) (by decide) (by decide), pl_call, pm_endw X (by omega) (by omega)]
    exact Or.inl ⟨k, q, Z, X, _, _, _, k0, k5, hq, rfl, rfl, tx_F.rf, tx_G.rf⟩
  obtain ⟨u, hu⟩ : ∃ j : Nat, Z 2 q3 - 48 = (j : Int) := ⟨(Z 2 q3 - 48).toNat, by omega⟩
  rw [hu] at e5 e6 g12
  rw [e5, e6, pl_call, pl_call, pl_gi (by omega) (by omega), if_neg (by omega), pc_cv l1, pm_cv, pm_pass0 X (by omega), pl_call, pm_cv]
  rcases tx_fig (p := q3 + 1) (b := (q3 : Int)) (l := l) (lo := 0) (hi := 3) hs (by omega) (by decide) (by decide) with ⟨q4, g13, g14, g15, g16, e7, e8⟩ | ⟨k, q, a, k0, k5, hq, e7, e8⟩
  case inr =>
    rw [e7, e8, pl_call, pl_call, pl_gi (by decide) (by decide), if_pos rfl, pl_gi (by omega) (by omega), rt73w X (by omega) (by decide) (by decide), rt73w X (by omega) (by decide) (by decide)]
    have hh : (if (u : Int) = 0 then some ((0 : Int), pm_h (pm_tx X (q : Int) (k : Int) (q : Int))) else some (0, pm_h (pm_tx X (q : Int) (k : Int) (q : Int)))) = some (0, pm_h (pm_tx X (q : Int) (k : Int) (q : Int))) := by split <;> rfl
    rw [hh, pl_call, pm_endw X (by omega) (by omega)]
    exact Or.inl ⟨k, q, Z, X, _, _, _, k0, k5, hq, rfl, rfl, tx_F.rf, tx_G.rf⟩
  obtain ⟨v, hv⟩ : ∃ j : Nat, Z 2 q4 - 48 = (j : Int) := ⟨(Z 2 q4 - 48).toNat, by omega⟩
  rw [hv] at e7 e8 g16
  rw [e7, e8, pl_call, pl_call, pl_gi (by omega) (by omega), if_neg (by omega), pl_gi (by omega) (by omega)]
  -- the pair
  have good : (u = 0 ↔ v = 0) → tx_out A n len p Z X (gq_cv (pc_h (pc_tx Z ((q4 + 1 : Nat) : Int) (q4 : Int) 0 (-1))) (A + 1) 8 (f_SH_hang (pc_h (pc_tx Z ((q4 + 1 : Nat) : Int) (q4 : Int) 0 (-1))) (A + 1) (i : Int) (j : Int) (u : Int) (v : Int)) (fun r3 h4 => gq_cv h4 1 10 (f_TX_readEnd h4 1) (fun r5 h6 => gq_g ((r5 : Int) = 0 ∨ (r5 : Int) = 1) (some (r5, h6))))) (gq_call (fb_MD_readTable_91 (pm_h (pm_tx X (q4 : Int) 0 l)) 0 (i : Int) (j : Int) (u : Int) (v : Int) 0 0) (fun _ h => fb_MD_readClause_98 h 0)) := by
    intro huv
    unfold fb_MD_readTable_91
    rw [pc_cv u0, pc_hang (pc_tx Z ((q4 + 1 : Nat) : Int) (q4 : Int) 0 (-1)) (t := A + 1) (i := i) (j := j) ah rfl rfl (by omega) (by omega) ⟨by omega, by omega⟩ ⟨by omega, by omega⟩, pl_call, pc_tx_up (by omega), pc_tx_up (by omega), pc_cv l1,
      pm_cv, pm_pass0 X (by omega), pl_call, pm_get (by decide) rfl, pm_tx_25, if_pos rfl, pm_gr (t := 14) (by decide) rfl (by decide), pm_ast (o := 14) (i := 4 * i + j) ⟨by omega, by omega⟩ (by omega) (by show _ < 16; omega), pm_tx_up (by decide), pm_gr (t := 14) (by decide) rfl (by decide), pm_ast (o := 14) (i := 4 * j + i) ⟨by omega, by omega⟩ (by omega) (by show _ < 16; omega), pm_tx_up (by decide), pl_call]
    have hR' := tx_R_hang (u := (u : Int)) (v := (v : Int)) (i := i) (j := j) hR0 (by omega) (by omega) hij ⟨by omega, by omega⟩ ⟨by omega, by omega⟩ (by omega)
    have hF : tx_F A Z (gx_up (gx_up Z (A + 1 + 1) (4 * i + j) (u : Int)) (A + 1 + 1) (4 * j + i) (-(v : Int))) := fun o h1 h2 => by rw [gx_up_ne (by omega), gx_up_ne (by omega)]
    have hG : tx_G X (gx_up (gx_up X 14 (4 * i + j) (u : Int)) 14 (4 * j + i) (-(v : Int))) := fun o h1 h2 => by rw [gx_up_ne (by omega), gx_up_ne (by omega)]
    exact tx_out_g (tx_end hA10 (tx_s_F hA10 hs hF hG) hR' (by omega) (by omega) hF hG)
  have bad : tx_out A n len p Z X (gq_cv (pc_h (pc_tx Z ((q4 + 1 : Nat) : Int) (q4 : Int) 0 (-1))) 1 10 (f_TX_blame (pc_h (pc_tx Z ((q4 + 1 : Nat) : Int) (q4 : Int) 0 (-1))) 1 4) (fun r8 h9 => gq_g ((r8 : Int) = 0 ∨ (r8 : Int) = 1) (some (r8, h9)))) (gq_call (fb_MD_readTable_91 (pm_h (pm_tx X (q4 : Int) 0 l)) 0 (i : Int) (j : Int) (u : Int) (v : Int) 0 1) (fun _ h => fb_MD_readClause_98 h 0)) := by
    unfold fb_MD_readTable_91
    rw [pc_cv l1, pc_blame Z (k := 4) (v := 4) rfl (by decide), pl_call, pm_cv, pm_pass1 X, pl_call, pm_get (by decide) rfl, pm_tx_25, if_neg (by decide), pl_call, pm_endw X (by decide) (by omega)]
    exact Or.inl ⟨4, q4, Z, X, _, _, _, by decide, by decide, by omega, rfl, rfl, tx_F.rf, tx_G.rf⟩
  unfold fb_TX_readHang_91 fb_TX_readHang_101 fb_MD_readTable_73 fb_MD_readTable_83
  simp only [pl_gi (show (-2147483648 : Int) ≤ (v : Int) by omega) (show (v : Int) ≤ 2147483647 by omega), pl_gi (show (-2147483648 : Int) ≤ 1 by decide) (show (1 : Int) ≤ 2147483647 by decide), pl_gi (show (-2147483648 : Int) ≤ 0 by decide) (show (0 : Int) ≤ 2147483647 by decide)]
  rw [if_neg (show ¬ (0 : Int) = 1 by decide), if_neg (show ¬ (0 : Int) = 1 by decide)]
  by_cases hu0 : (u : Int) = 0
  · rw [if_pos hu0, if_pos hu0]
    by_cases hv0 : (v : Int) = 0
    · rw [if_pos hv0, if_pos hv0, if_pos trivial, if_pos trivial]
      exact good (by omega)
    · rw [if_neg hv0, if_neg hv0, if_neg (by decide), if_neg (by decide)]
      exact bad
  · rw [if_neg hu0, if_neg hu0]
    by_cases hv0 : (v : Int) = 0
    · rw [if_pos hv0, if_pos hv0]
      exact bad
    · rw [if_neg hv0, if_neg hv0, if_pos trivial, if_pos trivial]
      exact good (by omega)
set_option maxHeartbeats 2000000 in
theorem tx_worth {A n len p : Nat} {Z X : Nat → Nat → Int} {b l : Int} (hA : pc_S A = true) (hs : tx_s len Z X) (hR : tx_R A n len Z X) (hp : p ≤ len) :
    tx_out A n len p Z X (f_TX_readWorth (pc_h (pc_tx Z (p : Int) b 0 (-1))) 1 A) (gq_call (f_MD_readWorth (pm_h (pm_tx X (p : Int) 0 l)) 0) (fun _ h => fb_MD_readClause_98 h 0)) := by
  have hA10 := pc_S_ge A hA
  obtain ⟨a0, ah, a4, a5, a6, a7⟩ := pc_S_all A (pc_S_lt hA) hA
  obtain ⟨z0, z1, z2, z3, z4, z5⟩ := pc_S_ref A (pc_S_lt hA) hA
  obtain ⟨u0, u1, u2, t0, t1, t2⟩ := pc_H_all (A + 1) (pc_H_lt ah) ah
  obtain ⟨l1, l2⟩ := pc_L1
  obtain ⟨hn, hc, h27, h4, h5, h6⟩ := hR
  have len100 := hs.2.2.1
  have kc : ∀ a b c d, pc_tx Z a b c d (A + 1) 0 = (n : Int) := fun a b c d => by rw [pc_tx_o (by omega)]; exact hc
  have k27 : ∀ a w l, pm_tx X a w l 0 27 = (n : Int) := fun a w l => by rw [pm_tx_j (by decide) (by decide) (by decide)]; exact h27
  unfold f_TX_readWorth f_MD_readWorth
  rw [pc_gr a0 (by decide) z0 (by omega), pc_get u0 (by decide) t0, kc, pc_cv l1, pm_get (by decide) rfl, k27, pm_cv]
  rcases tx_fig (b := b) (l := l) (lo := 0) (hi := (n : Int) - 1) hs hp (by decide) ⟨by omega, by omega⟩ with ⟨q1, g1, g2, g3, g4, e1, e2⟩ | ⟨k, q, a, k0, k5, hq, e1, e2⟩
  case inr =>
    rw [e1, e2, pl_call, pl_call, pl_gi (by decide) (by decide), if_pos rfl, pm_cv, pm_passw X (by omega) (by decide), pl_call, pm_cv, pm_figw X (by omega), pl_call, pm_cv, pm_passw X (by omega) (by decide), pl_call, pm_get (by decide) rfl, pm_tx_25, if_neg (by omega), pl_call, pm_endw X (by omega) (by omega)]
    exact Or.inl ⟨k, q, Z, X, _, _, _, k0, k5, hq, rfl, rfl, tx_F.rf, tx_G.rf⟩
  obtain ⟨i, hi⟩ : ∃ i : Nat, Z 2 q1 - 48 = (i : Int) := ⟨(Z 2 q1 - 48).toNat, by omega⟩
  rw [hi] at e1 e2 g4
  rw [e1, e2, pl_call, pl_call, pl_gi (by omega) (by omega), if_neg (by omega), pc_cv l1, pm_cv, pm_pass0 X (by omega), pl_call, pm_cv]
  rcases tx_fig (p := q1 + 1) (b := (q1 : Int)) (l := l) (lo := 1) (hi := 9) hs (by omega) (by decide) (by decide) with ⟨q2, g5, g6, g7, g8, e3, e4⟩ | ⟨k, q, a, k0, k5, hq, e3, e4⟩
  case inr =>
    rw [e3, e4, pl_call, pl_call, pl_gi (by decide) (by decide), if_pos rfl, pm_cv, pm_passw X (by omega) (by decide), pl_call, pm_get (by decide) rfl, pm_tx_25, if_neg (by omega), pl_call, pm_endw X (by omega) (by omega)]
    exact Or.inl ⟨k, q, Z, X, _, _, _, k0, k5, hq, rfl, rfl, tx_F.rf, tx_G.rf⟩
  obtain ⟨v, hv⟩ : ∃ j : Nat, Z 2 q2 - 48 = (j : Int) := ⟨(Z 2 q2 - 48).toNat, by omega⟩
  rw [hv] at e3 e4 g7 g8
  rw [e3, e4, pl_call, pl_call, pl_gi (by omega) (by omega), if_neg (by omega), pc_gr a0 (by decide) z1 (by omega), pc_ast (i := i) (Or.inl rfl) trivial a4 rfl (by omega), pc_tx_up (by omega), pc_cv l1, pm_cv, pm_pass0 X (by omega), pl_call, pm_get (by decide) rfl, pm_tx_25, if_pos rfl, pm_gr (t := 15) (by decide) rfl (by decide), pm_ast (o := 15) (i := i) ⟨by omega, by omega⟩ rfl (by show i < 4; omega), pm_tx_up (by decide), pl_call]
  have hF : tx_F A Z (gx_up Z (A + 4) i (v : Int)) := fun o h1 h2 => by rw [gx_up_ne (by omega)]
  have hG : tx_G X (gx_up X 15 i (v : Int)) := fun o h1 h2 => by rw [gx_up_ne (by omega)]
  have hR' : tx_R A n len (gx_up Z (A + 4) i (v : Int)) (gx_up X 15 i (v : Int)) := by
    refine ⟨hn, ?_, ?_, fun q hq => ?_, fun q hq => ?_, ?_⟩
    · rw [gx_up_ne (by omega)]; exact hc
    · rw [gx_up_ne (by omega)]; exact h27
    · rw [gx_up_ne (by omega), gx_up_ne (by omega)]; exact h4 q hq
    · rw [gx_up_at, gx_up_at]
      by_cases e : q = i
      · rw [if_pos e, if_pos e]; exact ⟨rfl, by omega, by omega⟩
      · rw [if_neg e, if_neg e]; exact h5 q hq
    · have : pc_T (gx_up Z (A + 4) i (v : Int)) (A + 2) = pc_T Z (A + 2) := by unfold pc_T; rw [gx_up_ne (by omega)]
      rw [this]; exact h6
  exact tx_out_g (tx_end hA10 (tx_s_F hA10 hs hF hG) hR' (by omega) (by omega) hF hG)
