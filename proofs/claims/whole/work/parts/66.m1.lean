/-! calls, both sides: texts, books, seeds, tables, rows -/
theorem rl_C_io {n A P K O len kb len' kb' : Nat} {B0 Z X Z' X' : Nat → Nat → Int} (h : rl_C n B0 A P K O len kb Z X) (z : ∀ o, o ≠ 0 → o ≠ 1 → o ≠ 2 → o ≠ 170 → o ≠ 171 → o ≠ 172 → Z' o = Z o) (z0 : ∀ j, j ≠ 15 → Z' 0 j = Z 0 j) (x1 : X' 1 = X 1) (x2 : X' 2 = X 2) (x0 : ∀ j, j = 1 ∨ j = 2 ∨ j = 3 → X' 0 j = X 0 j) (hs : Z' 0 15 = X' 0 4 ∧ 0 ≤ X' 0 4 ∧ X' 0 4 < 2147483648) (ht : tx_s len' Z' X' ∧ Z' 1 3 = X' 0 8) (hb : Z' 170 2 = (kb' : Int) ∧ X' 0 11 = (kb' : Int) ∧ kb' ≤ 20 ∧ ∀ e, e < kb' → Z' 171 e = X' 4 e ∧ Z' 172 e = X' 5 e ∧ 0 ≤ Z' 171 e ∧ gx_i (Z' 171 e)) : rl_C n B0 A P K O len' kb' Z' X' := by
  obtain ⟨⟨h1, h1a, h1b⟩, ⟨h2, h2', h2p⟩, h3, h4, h5, ⟨h6, h6a, h6b, h6c, h6d, h6e⟩, ⟨h7, h7a, h7b, h7c⟩, -, -, -, s⟩ := h
  have zs : ∀ S, (10 ≤ S ∧ S ≤ 162) ∨ 202 ≤ S → ∀ o, S ≤ o → o < S + 8 → Z' o = Z o := fun S hS o a b => z o (by omega) (by omega) (by omega) (by omega) (by omega) (by omega)
  have xs : ∀ x : Nat, ∀ j, x ≤ j → j < x + 80 → X' 1 j = X 1 j := fun x j _ _ => by rw [x1]
  have e7 : Z' 227 = Z 227 := z 227 (by decide) (by decide) (by decide) (by decide) (by decide) (by decide)
  have e8 : Z' 8 = Z 8 := z 8 (by decide) (by decide) (by decide) (by decide) (by decide) (by decide)
  refine ⟨⟨h1, h1a, (x0 1 (by omega)).trans h1b⟩, ⟨(z0 13 (by decide)).trans h2, (z0 14 (by decide)).trans h2', h2p⟩, h3, rl_st_cg h1a (zs A (by omega)) (xs 0) h4, rl_st_cg h1a (zs 202 (by omega)) (xs 1840) h5, ⟨by rw [e8]; exact h6, h6a, by rw [e8]; exact h6b, (x0 2 (by omega)).trans h6c, h6d, fun e he => rl_st_cg h1a (zs _ (by omega)) (xs _) (h6e e he)⟩, ⟨by rw [e7]; exact h7, by rw [e7]; exact h7a, by rw [e7, x0 3 (by omega)]; exact h7b, fun i hi hk => ?_⟩, hs, ht, hb, ?_⟩
  · rw [e7] at hk
    obtain ⟨q1, q2⟩ := h7c i hi hk
    rw [z 228 (by decide) (by decide) (by decide) (by decide) (by decide) (by decide), x2]
    exact ⟨rl_st_cg h1a (zs _ (by omega)) (xs _) q1, q2⟩
  · unfold rl_sc
    rw [z 3 (by decide) (by decide) (by decide) (by decide) (by decide) (by decide), z 4 (by decide) (by decide) (by decide) (by decide) (by decide) (by decide)]
    exact s
theorem rl_G_io {n A P K O len kb : Nat} {B0 Z X Z' : Nat → Nat → Int} (h : rl_C n B0 A P K O len kb Z X) (hG : rl_G n B0 A Z) (z : ∀ o, o ≠ 0 → o ≠ 1 → o ≠ 2 → o ≠ 170 → o ≠ 171 → o ≠ 172 → Z' o = Z o) (z0 : ∀ j, j ≠ 15 → Z' 0 j = Z 0 j) : rl_G n B0 A Z' := by
  have hp := h.2.1.2.2
  exact rl_G_cg hG (fun o a b => z o (by omega) (by omega) (by omega) (by omega) (by omega) (by omega)) (z0 16 (by decide)) (z0 17 (by decide)) ⟨z _ (by omega) (by omega) (by omega) (by omega) (by omega) (by omega), z _ (by omega) (by omega) (by omega) (by omega) (by omega) (by omega)⟩
theorem m_seed {Z X : Nat → Nat → Int} {v : Int} (h : rl Z X) (hv : gx_i v) : rl_call (f_LE_seed (pc_h Z) 0 v) (f_MD_seed (pm_h X) 0 v) := by
  obtain ⟨n, B0, A, P, K, O, len, kb, hC, hG⟩ := h
  unfold f_LE_seed f_MD_seed
  rw [gq_g_ok hv, gq_g_ok hv]
  by_cases c : v < 0
  · rw [if_pos c, if_pos c]
    exact ⟨_, Z, X, rfl, rfl, n, B0, A, P, K, O, len, kb, hC, hG⟩
  · rw [if_neg c, if_neg c, pc_get pc_L0 (by decide) pc_r0'.2.2.1, pc_put trivial pc_L0 (by decide) pc_r0'.2.2.1, pm_get (by decide) rfl, pm_put trivial (by decide) rfl, hC.2.2.2.2.2.2.2.1.1]
    have z : ∀ o, o ≠ 0 → o ≠ 1 → o ≠ 2 → o ≠ 170 → o ≠ 171 → o ≠ 172 → gx_up Z 0 15 v o = Z o := fun o a _ _ _ _ _ => gx_up_ne a
    have z0 : ∀ j, j ≠ 15 → gx_up Z 0 15 v 0 j = Z 0 j := fun j hj => by rw [gx_up_at, if_neg hj]
    obtain ⟨-, -, -, -, -, -, -, -, ⟨⟨t1, t2, t3, t4⟩, t5⟩, ⟨b1, b2, b3, b4⟩, -⟩ := id hC
    refine ⟨_, _, _, rfl, rfl, n, B0, A, P, K, O, len, kb, rl_C_io hC z z0 (gx_up_ne (by decide)) (gx_up_ne (by decide)) (fun j hj => by rw [gx_up_at, if_neg (by omega)]) ?_ ⟨⟨?_, ?_, t3, fun q hq => ?_⟩, ?_⟩ ⟨?_, ?_, b3, fun e he => ?_⟩, rl_G_io hC hG z z0⟩
    · rw [gx_up_at, if_pos rfl, gx_up_at, if_pos rfl]; exact ⟨rfl, by omega, by omega⟩
    · rw [gx_up_ne (by decide)]; exact t1
    · rw [gx_up_at, if_neg (by decide)]; exact t2
    · rw [gx_up_ne (by decide), gx_up_ne (by decide)]; exact t4 q hq
    · rw [gx_up_ne (by decide), gx_up_at, if_neg (by decide)]; exact t5
    · rw [gx_up_ne (by decide)]; exact b1
    · rw [gx_up_at, if_neg (by decide)]; exact b2
    · rw [gx_up_ne (by decide), gx_up_ne (by decide), gx_up_ne (by decide), gx_up_ne (by decide)]; exact b4 e he
theorem m_tear {Z X : Nat → Nat → Int} (h : rl Z X) : rl_call (f_LE_tear (pc_h Z) 0) (f_MD_tear (pm_h X) 0) := by
  obtain ⟨n, B0, A, P, K, O, len, kb, hC, hG⟩ := h
  obtain ⟨l0, -, -⟩ := pc_L170
  obtain ⟨-, -, e2⟩ := pc_r170
  obtain ⟨-, -, -, -, -, -, -, hs, ⟨⟨t1, t2, t3, t4⟩, t5⟩, ⟨b1, b2, b3, b4⟩, -⟩ := id hC
  unfold f_LE_tear f_MD_tear
  rw [pc_gr pc_L0 (by decide) pc_r0.2.2.2.2.1 (by decide), pc_get l0 (by decide) e2, pc_gr pc_L0 (by decide) pc_r0.2.2.2.2.1 (by decide), pc_put trivial l0 (by decide) e2, pm_get (by decide) rfl, pm_put trivial (by decide) rfl, b1, b2]
  have z : ∀ o, o ≠ 0 → o ≠ 1 → o ≠ 2 → o ≠ 170 → o ≠ 171 → o ≠ 172 → gx_up Z 170 2 0 o = Z o := fun o _ _ _ a _ _ => gx_up_ne a
  have z0 : ∀ j, j ≠ 15 → gx_up Z 170 2 0 0 j = Z 0 j := fun j hj => by rw [gx_up_ne (by decide)]
  refine ⟨_, _, _, rfl, rfl, n, B0, A, P, K, O, len, 0, rl_C_io hC z z0 (gx_up_ne (by decide)) (gx_up_ne (by decide)) (fun j hj => by rw [gx_up_at, if_neg (by omega)]) ?_ ⟨⟨?_, ?_, t3, fun q hq => ?_⟩, ?_⟩ ⟨?_, ?_, by decide, fun e he => by omega⟩, rl_G_io hC hG z z0⟩
  · rw [gx_up_ne (by decide), gx_up_at, if_neg (by decide)]; exact hs
  · rw [gx_up_ne (by decide)]; exact t1
  · rw [gx_up_at, if_neg (by decide)]; exact t2
  · rw [gx_up_ne (by decide), gx_up_ne (by decide)]; exact t4 q hq
  · rw [gx_up_ne (by decide), gx_up_at, if_neg (by decide)]; exact t5
  · rw [gx_up_at, if_pos rfl]; rfl
  · rw [gx_up_at, if_pos rfl]; rfl
theorem m_fault {Z X : Nat → Nat → Int} (h : rl Z X) : rl_call (f_LE_fault (pc_h Z) 0) (f_MD_fault (pm_h X) 0) := by
  obtain ⟨n, B0, A, P, K, O, len, kb, hC, hG⟩ := h
  obtain ⟨l0, -⟩ := pc_L1
  obtain ⟨-, -, -, e3, -, -⟩ := pc_r1
  unfold f_LE_fault f_MD_fault
  rw [pc_gr pc_L0 (by decide) pc_r0.1 (by decide), pc_get l0 (by decide) e3, pm_get (by decide) rfl, hC.2.2.2.2.2.2.2.2.1.2]
  exact ⟨_, Z, X, rfl, rfl, n, B0, A, P, K, O, len, kb, hC, hG⟩
theorem m_feed {Z X : Nat → Nat → Int} {v : Int} (h : rl Z X) (hv : gx_i v) : rl_call (f_LE_feed (pc_h Z) 0 v) (f_MD_feed (pm_h X) 0 v) := by
  obtain ⟨n, B0, A, P, K, O, len, kb, hC, hG⟩ := h
  obtain ⟨l0, l1⟩ := pc_L1
  obtain ⟨e0, e1, -, -, -, -⟩ := pc_r1
  obtain ⟨-, -, -, -, -, -, -, hs, ⟨⟨t1, t2, t3, t4⟩, t5⟩, ⟨b1, b2, b3, b4⟩, -⟩ := id hC
  have stay : ∀ r, rl_call (some (r, pc_h Z)) (some (r, pm_h X)) := fun r => ⟨r, Z, X, rfl, rfl, n, B0, A, P, K, O, len, kb, hC, hG⟩
  unfold f_LE_feed f_MD_feed
  rw [gq_g_ok hv, pm_in _ hv (by decide) (by decide), pl_call]
  by_cases c : v < 0
  · rw [if_pos c, if_neg (by omega), pl_gi (by decide) (by decide), if_pos rfl]
    exact stay _
  rw [if_neg c]
  by_cases c2 : 255 < v
  · rw [if_pos c2, if_neg (by omega), pl_gi (by decide) (by decide), if_pos rfl]
    exact stay _
  rw [if_neg c2, if_pos (show (0 : Int) ≤ v ∧ v ≤ 255 by omega), pl_gi (by decide) (by decide), if_neg (by decide), pc_gr pc_L0 (by decide) pc_r0.1 (by decide), pc_cv l0, pm_get (by decide) rfl, t2]
  unfold f_TX_append
  rw [pc_get l0 (by decide) e1, t1]
  by_cases d : len = 100
  · subst d
    rw [if_neg (by decide), pl_call, pl_gi (by decide) (by decide), if_pos rfl, if_pos (by decide)]
    exact stay _
  · rw [if_pos (by omega), if_neg (by omega), pc_gr l0 (by decide) e0 (by decide), pc_get l0 (by decide) e1, t1, pc_ast (i := len) (Or.inl rfl) hv l1 rfl (by omega), pc_get l0 (by decide) e1, gx_up_ne (o' := 1) (by decide), t1, pc_put ⟨by omega, by omega⟩ l0 (by decide) e1, pl_call, pl_gi (by decide) (by decide), if_neg (by decide), pc_gr pc_L0 (by decide) pc_r0.1 (by decide), pc_get l0 (by decide) e1, gx_up_at, if_pos rfl, pm_gr (t := 3) (by decide) rfl (by decide), pm_get (by decide) rfl, t2, pm_ast (o := 3) (i := len) hv rfl (by show _ < 100; omega), pm_get (by decide) rfl, gx_up_ne (o' := 0) (by decide), t2, pm_put ⟨by omega, by omega⟩ (by decide) rfl, pm_get (by decide) rfl, gx_up_at, if_pos rfl]
    have z : ∀ o, o ≠ 0 → o ≠ 1 → o ≠ 2 → o ≠ 170 → o ≠ 171 → o ≠ 172 → gx_up (gx_up Z 2 len v) 1 1 ((len : Int) + 1) o = Z o := fun o _ a b _ _ _ => by rw [gx_up_ne a, gx_up_ne b]
    have z0 : ∀ j, j ≠ 15 → gx_up (gx_up Z 2 len v) 1 1 ((len : Int) + 1) 0 j = Z 0 j := fun j hj => by rw [gx_up_ne (by decide), gx_up_ne (by decide)]
    refine ⟨_, _, _, rfl, rfl, n, B0, A, P, K, O, len + 1, kb, rl_C_io hC z z0 (by rw [gx_up_ne (by decide), gx_up_ne (by decide)]) (by rw [gx_up_ne (by decide), gx_up_ne (by decide)]) (fun j hj => by rw [gx_up_at, if_neg (by omega), gx_up_ne (by decide)]) ?_ ⟨⟨?_, ?_, by omega, fun q hq => ?_⟩, ?_⟩ ⟨?_, ?_, b3, fun e he => ?_⟩, rl_G_io hC hG z z0⟩
    · rw [gx_up_ne (by decide), gx_up_ne (by decide), gx_up_at, if_neg (by decide), gx_up_ne (by decide)]; exact hs
    · rw [gx_up_at, if_pos rfl]; omega
    · rw [gx_up_at, if_pos rfl]; omega
    · have w2 : gx_up (gx_up Z 2 len v) 1 1 ((len : Int) + 1) 2 q = if q = len then v else Z 2 q := by rw [gx_up_ne (by decide), gx_up_at]
      have x3 : gx_up (gx_up X 3 len v) 0 7 ((len : Int) + 1) 3 q = if q = len then v else X 3 q := by rw [gx_up_ne (by decide), gx_up_at]
      rw [w2, x3]
      by_cases y : q = len
      · rw [if_pos y, if_pos y]; exact ⟨rfl, by omega, by omega⟩
      · rw [if_neg y, if_neg y]; exact t4 q (by omega)
    · rw [gx_up_at, if_neg (by decide), gx_up_ne (by decide), gx_up_at, if_neg (by decide), gx_up_ne (by decide)]; exact t5
    · rw [gx_up_ne (by decide), gx_up_ne (by decide)]; exact b1
    · rw [gx_up_at, if_neg (by decide), gx_up_ne (by decide)]; exact b2
    · rw [gx_up_ne (by decide), gx_up_ne (by decide), gx_up_ne (by decide), gx_up_ne (by decide), gx_up_ne (by decide), gx_up_ne (by decide), gx_up_ne (by decide), gx_up_ne (by decide)]; exact b4 e he
theorem m_write {Z X : Nat → Nat → Int} {v d : Int} (h : rl Z X) (hv : gx_i v) (hd : gx_i d) : rl_call (f_LE_write (pc_h Z) 0 v d) (f_MD_write (pm_h X) 0 v d) := by
  obtain ⟨n, B0, A, P, K, O, len, kb, hC, hG⟩ := h
  obtain ⟨l0, l1, l2⟩ := pc_L170
  obtain ⟨e0, e1, e2⟩ := pc_r170
  obtain ⟨⟨hn2, hn4, hX⟩, ⟨zA, zP, hp⟩, -, ⟨hE, -⟩, -, -, -, hs, ⟨⟨t1, t2, t3, t4⟩, t5⟩, ⟨b1, b2, b3, b4⟩, -⟩ := id hC
  have hS : pc_S A = true := by rcases hp with q | q <;> rw [q.1] <;> decide
  have stay : ∀ r, rl_call (some (r, pc_h Z)) (some (r, pm_h X)) := fun r => ⟨r, Z, X, rfl, rfl, n, B0, A, P, K, O, len, kb, hC, hG⟩
  unfold f_LE_write f_MD_write
  rw [pc_cv pc_L0, pc_noLetter Z hS zA hE.1 hv, pl_call, pm_cv, pm_isLetter X hX hn4 hv, pl_call]
  by_cases c : 0 ≤ v ∧ v < (n : Int)
  · rw [if_pos c, if_pos c, pl_gi (by decide) (by decide), if_pos rfl, pl_gi (by decide) (by decide), if_neg (by decide), pc_gr pc_L0 (by decide) pc_r0.2.2.2.2.1 (by decide), pc_cv l0, pc_append Z b1 b3 hv hd, pm_get (by decide) rfl, b2]
    by_cases f : kb = 20
    · subst f
      rw [if_neg (by decide), pl_call, pl_gi (by decide) (by decide), if_pos rfl, if_pos (by decide)]
      exact stay _
    · rw [if_pos (by omega), pl_call, pl_gi (by decide) (by decide), if_neg (by decide), pc_gr pc_L0 (by decide) pc_r0.2.2.2.2.1 (by decide), pc_get l0 (by decide) e2, gx_up_at, if_pos rfl, if_neg (by omega), pm_gr (t := 4) (by decide) rfl (by decide), pm_get (by decide) rfl, b2, pm_ast (o := 4) (i := kb) hv rfl (by show _ < 20; omega), pm_gr (t := 5) (by decide) rfl (by decide), pm_get (by decide) rfl, gx_up_ne (o' := 0) (by decide), b2, pm_ast (o := 5) (i := kb) hd rfl (by show _ < 20; omega), pm_get (by decide) rfl, gx_up_ne (o' := 0) (by decide), gx_up_ne (o' := 0) (by decide), b2, pm_put ⟨by omega, by omega⟩ (by decide) rfl, pm_get (by decide) rfl, gx_up_at, if_pos rfl]
      have z : ∀ o, o ≠ 0 → o ≠ 1 → o ≠ 2 → o ≠ 170 → o ≠ 171 → o ≠ 172 → gx_up (gx_up (gx_up Z 171 kb v) 172 kb d) 170 2 ((kb : Int) + 1) o = Z o := fun o _ _ _ a b c => by rw [gx_up_ne a, gx_up_ne c, gx_up_ne b]
      have z0 : ∀ j, j ≠ 15 → gx_up (gx_up (gx_up Z 171 kb v) 172 kb d) 170 2 ((kb : Int) + 1) 0 j = Z 0 j := fun j hj => by rw [gx_up_ne (by decide), gx_up_ne (by decide), gx_up_ne (by decide)]
      refine ⟨_, _, _, rfl, rfl, n, B0, A, P, K, O, len, kb + 1, rl_C_io hC z z0 (by rw [gx_up_ne (by decide), gx_up_ne (by decide), gx_up_ne (by decide)]) (by rw [gx_up_ne (by decide), gx_up_ne (by decide), gx_up_ne (by decide)]) (fun j hj => by rw [gx_up_at, if_neg (by omega), gx_up_ne (by decide), gx_up_ne (by decide)]) ?_ ⟨⟨?_, ?_, t3, fun q hq => ?_⟩, ?_⟩ ⟨?_, ?_, by omega, fun e he => ?_⟩, rl_G_io hC hG z z0⟩
      · rw [gx_up_ne (by decide), gx_up_ne (by decide), gx_up_ne (by decide), gx_up_at, if_neg (by decide), gx_up_ne (by decide), gx_up_ne (by decide)]; exact hs
      · rw [gx_up_ne (by decide), gx_up_ne (by decide), gx_up_ne (by decide)]; exact t1
      · rw [gx_up_at, if_neg (by decide), gx_up_ne (by decide), gx_up_ne (by decide)]; exact t2
      · rw [gx_up_ne (by decide), gx_up_ne (by decide), gx_up_ne (by decide), gx_up_ne (by decide), gx_up_ne (by decide), gx_up_ne (by decide)]; exact t4 q hq
      · rw [gx_up_ne (by decide), gx_up_ne (by decide), gx_up_ne (by decide), gx_up_at, if_neg (by decide), gx_up_ne (by decide), gx_up_ne (by decide)]; exact t5
      · rw [gx_up_at, if_pos rfl]; omega
      · rw [gx_up_at, if_pos rfl]; omega
      · have w1 : gx_up (gx_up (gx_up Z 171 kb v) 172 kb d) 170 2 ((kb : Int) + 1) 171 e = if e = kb then v else Z 171 e := by rw [gx_up_ne (by decide), gx_up_ne (by decide), gx_up_at]
        have w2 : gx_up (gx_up (gx_up Z 171 kb v) 172 kb d) 170 2 ((kb : Int) + 1) 172 e = if e = kb then d else Z 172 e := by rw [gx_up_ne (by decide), gx_up_at, gx_up_ne (by decide)]
        have u1 : gx_up (gx_up (gx_up X 4 kb v) 5 kb d) 0 11 ((kb : Int) + 1) 4 e = if e = kb then v else X 4 e := by rw [gx_up_ne (by decide), gx_up_ne (by decide), gx_up_at]
        have u2 : gx_up (gx_up (gx_up X 4 kb v) 5 kb d) 0 11 ((kb : Int) + 1) 5 e = if e = kb then d else X 5 e := by rw [gx_up_ne (by decide), gx_up_at, gx_up_ne (by decide)]
        rw [w1, w2, u1, u2]
        by_cases y : e = kb
        · rw [if_pos y, if_pos y, if_pos y, if_pos y]
          exact ⟨rfl, rfl, c.1, hv⟩
        · rw [if_neg y, if_neg y, if_neg y, if_neg y]
          exact b4 e (by omega)
  · rw [if_neg c, if_neg c, pl_gi (by decide) (by decide), if_neg (by decide), pl_gi (by decide) (by decide), if_pos rfl]
    exact stay _
theorem m_table {Z X : Nat → Nat → Int} {v w : Int} (h : rl Z X) (hv : gx_i v) (hw : gx_i w) : rl_call (f_LE_table (pc_h Z) 0 v w) (f_MD_table (pm_h X) 0 v w) := by
  obtain ⟨n, B0, A, P, K, O, len, kb, hC, hG⟩ := h
  obtain ⟨⟨hn2, hn4, hX⟩, ⟨zA, zP, hp⟩, -, ⟨hE, -⟩, -⟩ := id hC
  have hS : pc_S A = true := by rcases hp with q | q <;> rw [q.1] <;> decide
  obtain ⟨s1, s2, -⟩ := pc_S_all A (pc_S_lt hS) hS
  obtain ⟨q0, -⟩ := pc_S_ref A (pc_S_lt hS) hS
  obtain ⟨g0, g1, g2, r0, r1, r2⟩ := pc_H_all (A + 1) (pc_H_lt s2) s2
  have stay : ∀ r, rl_call (some (r, pc_h Z)) (some (r, pm_h X)) := fun r => ⟨r, Z, X, rfl, rfl, n, B0, A, P, K, O, len, kb, hC, hG⟩
  unfold f_LE_table f_MD_table
  rw [pc_cv pc_L0, pc_noLetter Z hS zA hE.1 hv, pl_call, pm_cv, pm_isLetter X hX hn4 hv, pl_call]
  by_cases c : 0 ≤ v ∧ v < (n : Int)
  · rw [if_pos c, if_pos c, pl_gi (by decide) (by decide), if_pos rfl, pl_gi (by decide) (by decide), if_neg (by decide), pc_cv pc_L0, pc_noLetter Z hS zA hE.1 hw, pl_call, pm_cv, pm_isLetter X hX hn4 hw, pl_call]
    by_cases d : 0 ≤ w ∧ w < (n : Int)
    · obtain ⟨i, hi⟩ : ∃ i : Nat, v = (i : Int) := ⟨v.toNat, by omega⟩
      obtain ⟨j, hj⟩ : ∃ j : Nat, w = (j : Int) := ⟨w.toNat, by omega⟩
      subst hi hj
      have e := hE.2.1 i (by omega) j (by omega)
      unfold f_LE_cell
      rw [if_pos d, if_pos d, pl_gi (by decide) (by decide), if_pos rfl, pl_gi (by decide) (by decide), if_neg (by decide), pc_grv pc_L0 (by decide) pc_r0'.1 zA, pc_gr s1 (by decide) q0 (by omega), pc_gr g0 (by decide) r1 (by omega), pl_call, pc_ald (i := 4 * i + j) g1 (by omega) (by omega), pm_cv, pm_b X (a := 0) (x := 0) (i := i) (j := j) rfl rfl rfl (by omega), pl_call, show Z (A + 1 + 1) (4 * i + j) = X 1 (0 + 8 + 4 * i + j) from e]
      exact stay _
    · rw [if_neg d, if_neg d, pl_gi (by decide) (by decide), if_neg (by decide), pl_gi (by decide) (by decide), if_pos rfl]
      exact stay _
  · rw [if_neg c, if_neg c, pl_gi (by decide) (by decide), if_neg (by decide), pl_gi (by decide) (by decide), if_pos rfl]
    exact stay _
theorem m_row {Z X : Nat → Nat → Int} {v u w : Int} (h : rl Z X) (hv : gx_i v) (hu : gx_i u) (hw : gx_i w) : rl_call (f_LE_row (pc_h Z) 0 v u w) (f_MD_row (pm_h X) 0 v u w) := by
  obtain ⟨n, B0, A, P, K, O, len, kb, hC, hG⟩ := h
  obtain ⟨⟨hn2, hn4, hX⟩, ⟨zA, zP, hp⟩, -, ⟨hE, -⟩, -⟩ := id hC
  have hS : pc_S A = true := by rcases hp with q | q <;> rw [q.1] <;> decide
  obtain ⟨s1, s2, -, -, s6, s7⟩ := pc_S_all A (pc_S_lt hS) hS
  obtain ⟨q0, -, -, q3, q4, -⟩ := pc_S_ref A (pc_S_lt hS) hS
  obtain ⟨g0, g1, g2, r0, r1, r2⟩ := pc_H_all (A + 1) (pc_H_lt s2) s2
  have stay : ∀ r, rl_call (some (r, pc_h Z)) (some (r, pm_h X)) := fun r => ⟨r, Z, X, rfl, rfl, n, B0, A, P, K, O, len, kb, hC, hG⟩
  unfold f_LE_row f_MD_row
  rw [pc_cv pc_L0, pc_noLetter Z hS zA hE.1 hv, pl_call, pm_cv, pm_isLetter X hX hn4 hv, pl_call]
  by_cases c : 0 ≤ v ∧ v < (n : Int)
  · rw [if_pos c, if_pos c, pl_gi (by decide) (by decide), if_pos rfl, pl_gi (by decide) (by decide), if_neg (by decide), pc_cv pc_L0, pc_noLetter Z hS zA hE.1 hw, pl_call, pm_in _ hu (by decide) (by decide), pl_call]
    by_cases d : 0 ≤ w ∧ w < (n : Int)
    · obtain ⟨i, hi⟩ : ∃ i : Nat, v = (i : Int) := ⟨v.toNat, by omega⟩
      obtain ⟨j, hj⟩ : ∃ j : Nat, w = (j : Int) := ⟨w.toNat, by omega⟩
      subst hi hj
      unfold f_LE_cell fb_MD_row_56
      rw [if_pos d, pl_gi (by decide) (by decide), if_pos rfl, gq_g_ok hu]
      by_cases u0 : u = 0
      · subst u0
        rw [if_pos rfl, if_pos (show (0 : Int) ≤ 0 ∧ (0 : Int) ≤ 2 by decide), pl_gi (by decide) (by decide), if_neg (by decide), pm_cv, pm_isLetter X hX hn4 hw, pl_call, if_pos d, pl_gi (by decide) (by decide), if_neg (by decide), pm_gr (t := 1) (by decide) rfl (by decide), gq_g_ok hu, if_pos rfl, pc_grv pc_L0 (by decide) pc_r0'.1 zA, pc_gr s1 (by decide) q0 (by omega), pc_gr g0 (by decide) r2 (by omega), pl_call, pc_ald (i := 4 * i + j) g2 (by omega) (by omega), pm_ald (o := 1) (i := 0 + 24 + 4 * i + j) (by omega) (by show _ < 2000; omega), show Z (A + 1 + 2) (4 * i + j) = X 1 (0 + 24 + 4 * i + j) from hE.2.2.1 i (by omega) j (by omega)]
        exact stay _
      · by_cases u1 : u = 1
        · subst u1
          rw [if_neg u0, if_pos rfl, if_pos (show (0 : Int) ≤ 1 ∧ (1 : Int) ≤ 2 by decide), pl_gi (by decide) (by decide), if_neg (by decide), pm_cv, pm_isLetter X hX hn4 hw, pl_call, if_pos d, pl_gi (by decide) (by decide), if_neg (by decide), pm_gr (t := 1) (by decide) rfl (by decide), gq_g_ok hu, if_neg u0, if_pos rfl, pc_grv pc_L0 (by decide) pc_r0'.1 zA, pc_gr s1 (by decide) q3 (by omega), pl_call, pc_ald (i := 4 * i + j) s6 (by omega) (by omega), pm_ald (o := 1) (i := 0 + 40 + 4 * i + j) (by omega) (by show _ < 2000; omega), show Z (A + 6) (4 * i + j) = X 1 (0 + 40 + 4 * i + j) from hE.2.2.2.1 i (by omega) j (by omega)]
          exact stay _
        · by_cases u2 : u = 2
          · subst u2
            rw [if_neg u0, if_neg u1, if_pos rfl, if_pos (show (0 : Int) ≤ 2 ∧ (2 : Int) ≤ 2 by decide), pl_gi (by decide) (by decide), if_neg (by decide), pm_cv, pm_isLetter X hX hn4 hw, pl_call, if_pos d, pl_gi (by decide) (by decide), if_neg (by decide), pm_gr (t := 1) (by decide) rfl (by decide), gq_g_ok hu, if_neg u0, if_neg u1, pc_grv pc_L0 (by decide) pc_r0'.1 zA, pc_gr s1 (by decide) q4 (by omega), pl_call, pc_ald (i := 4 * i + j) s7 (by omega) (by omega), pm_ald (o := 1) (i := 0 + 56 + 4 * i + j) (by omega) (by show _ < 2000; omega), show Z (A + 7) (4 * i + j) = X 1 (0 + 56 + 4 * i + j) from hE.2.2.2.2.1 i (by omega) j (by omega)]
            exact stay _
          · rw [if_neg u0, if_neg u1, if_neg u2, if_neg (by omega), pl_gi (by decide) (by decide), if_pos rfl]
            exact stay _
    · rw [if_neg d, pl_gi (by decide) (by decide), if_neg (by decide)]
      by_cases e : 0 ≤ u ∧ u ≤ 2
      · rw [if_pos e, pl_gi (by decide) (by decide), if_neg (by decide), pm_cv, pm_isLetter X hX hn4 hw, pl_call, if_neg d, pl_gi (by decide) (by decide), if_pos rfl]
        exact stay _
      · rw [if_neg e, pl_gi (by decide) (by decide), if_pos rfl]
        exact stay _
  · rw [if_neg c, if_neg c, pl_gi (by decide) (by decide), if_neg (by decide), pl_gi (by decide) (by decide), if_pos rfl]
    exact stay _
