/-! rows of stands, what is told -/
theorem m_standRow {Z X : Nat → Nat → Int} {v u w : Int} (h : rl Z X) (hv : gx_i v) (hu : gx_i u) (hw : gx_i w) : rl_call (f_LE_standRow (pc_h Z) 0 v u w) (f_MD_standRow (pm_h X) 0 v u w) := by
  obtain ⟨n, B0, A, P, K, O, len, kb, hC, hG⟩ := h
  obtain ⟨l0, l1, l2, l3, l4, l5⟩ := pc_LW
  obtain ⟨e0, e1, e2, e3, e4, e5⟩ := pc_rW
  obtain ⟨⟨hn2, hn4, hX⟩, -⟩ := id hC
  obtain ⟨o, fl, Z', X', E1, E2, hz, hC', hG', hc⟩ := both_open hC hG
  obtain ⟨⟨-, -, hX'⟩, ⟨zA, zP, hp⟩, -, ⟨hE, -⟩, -⟩ := id hC'
  have hS : pc_S A = true := by rcases hp with q | q <;> rw [q.1] <;> decide
  have done : ∀ r, rl_call (some (r, pc_h Z')) (some (r, pm_h X')) := fun r => ⟨r, Z', X', rfl, rfl, n, B0, A, P, K, O, len, kb, hC', hG'⟩
  have early : ∀ r, rl_call (some (r, pc_h Z')) (some (r, pm_h X)) := fun r => ⟨r, Z', X, rfl, rfl, n, B0, A, P, K, O, len, kb, rl_C_z hC hz, hG'⟩
  unfold f_LE_standRow f_MD_standRow
  rw [pc_cv pc_L0, E1, pl_call, pm_cv, pm_isLetter X hX hn4 hu, pl_call]
  by_cases d : 0 ≤ u ∧ u < (n : Int)
  · obtain ⟨k, hk⟩ : ∃ k : Nat, u = (k : Int) := ⟨u.toNat, by omega⟩
    subst hk
    have hk : k < n := by omega
    rw [if_pos d]
    rw [pl_gi (a := 1) (by decide) (by decide), if_neg (show ¬ (1 : Int) = 0 by decide), pm_cv, E2, pl_call]
    rcases hc with ⟨q1, q2⟩ | ⟨q1, q2, N, hN0, hN, w1, w2, w3, -, -, w4, w5, w6, -⟩
    · rw [q1, q2, pl_gi (by decide) (by decide), if_neg (by decide), pl_gi (by decide) (by decide), if_pos rfl]
      exact done _
    · rw [q1, q2, pl_gi (by decide) (by decide), if_pos rfl, pl_gi (by decide) (by decide), if_neg (by decide), pc_gr pc_L0 (by decide) pc_r0.2.2.2.2.2.2.1 (by decide), pc_cv l0, pc_lacks Z' w1 hv, pl_call, pm_get (by decide) rfl, w2, pm_in _ hv (by decide) ⟨by omega, by omega⟩, pl_call]
      by_cases c : 0 ≤ v ∧ v < (N : Int)
      · obtain ⟨t, ht⟩ : ∃ t : Nat, v = (t : Int) := ⟨v.toNat, by omega⟩
        subst ht
        have ht : t < N := by omega
        obtain ⟨g, hg, g1, g2, -⟩ := w4 t ht
        rw [if_pos c, pl_gi (by decide) (by decide), if_pos rfl, pc_cv pc_L0, pc_noLetter Z' hS zA hE.1 hu, pl_call, if_pos d, pl_gi (by decide) (by decide), if_pos rfl, pc_cv pc_L0, pc_noLetter Z' hS zA hE.1 hw, pl_call, if_pos (show (0 : Int) ≤ (t : Int) ∧ (t : Int) ≤ (N : Int) - 1 by omega), pl_gi (a := 1) (by decide) (by decide), if_neg (show ¬ (1 : Int) = 0 by decide), pm_get (by decide) rfl, hX', pm_in _ hw (by decide) ⟨by omega, by omega⟩, pl_call]
        by_cases f : 0 ≤ w ∧ w < (n : Int)
        · obtain ⟨m, hm⟩ : ∃ m : Nat, w = (m : Int) := ⟨w.toNat, by omega⟩
          subst hm
          have hm : m < n := by omega
          have val : X' 8 (16 * t + 4 * k + m) = (wl_nd X' t).2 k m := rfl
          rw [if_pos f, pl_gi (by decide) (by decide), if_pos rfl, pc_gr pc_L0 (by decide) pc_r0.2.2.2.2.2.1 (by decide), pc_gr pc_L0 (by decide) pc_r0.2.2.2.2.2.2.1 (by decide), pc_gr l0 (by decide) e1 (by decide), pc_ald (i := t) l1 rfl (by omega), g1, pc_cv pc_L173, pc_rowNumber Z' (g := g) (k := k) (m := m) (A := (wl_nd X' t).2) w6 hn4 rfl hg rfl hk rfl hm (fun q hq => w5 t ht k hk q hq) (g2 k hk), pl_call, if_pos (show (0 : Int) ≤ (m : Int) ∧ (m : Int) ≤ (n : Int) - 1 by omega), pl_gi (by decide) (by decide), if_neg (show ¬ (1 : Int) = 0 by decide), pm_gr (t := 8) (by decide) rfl (by decide), pm_ald (o := 8) (i := 16 * t + 4 * k + m) (by omega) (by show _ < 3200; omega), val]
          exact done _
        · rw [if_neg f, pl_gi (by decide) (by decide), if_neg (by decide), if_neg (show ¬ (0 ≤ w ∧ w ≤ (n : Int) - 1) by omega), pl_gi (by decide) (by decide), if_pos rfl]
          exact done _
      · rw [if_neg c, pl_gi (by decide) (by decide), if_neg (by decide), if_neg (show ¬ (0 ≤ v ∧ v ≤ (N : Int) - 1) by omega), pl_gi (by decide) (by decide), if_pos rfl]
        exact done _
  · rw [if_neg d]
    rw [pl_gi (a := 0) (by decide) (by decide), if_pos (show (0 : Int) = 0 from rfl)]
    rcases hc with ⟨q1, q2⟩ | ⟨q1, q2, N, hN0, hN, w1, w2, w3, -⟩
    · rw [q1, pl_gi (by decide) (by decide), if_neg (by decide)]
      exact early _
    · rw [q1, pl_gi (by decide) (by decide), if_pos rfl, pc_gr pc_L0 (by decide) pc_r0.2.2.2.2.2.2.1 (by decide), pc_cv l0, pc_lacks Z' w1 hv, pl_call]
      by_cases c : 0 ≤ v ∧ v < (N : Int)
      · rw [if_pos c, pl_gi (by decide) (by decide), if_pos rfl, pc_cv pc_L0, pc_noLetter Z' hS zA hE.1 hu, pl_call, if_neg d, pl_gi (by decide) (by decide), if_neg (by decide)]
        exact early _
      · rw [if_neg c, pl_gi (by decide) (by decide), if_neg (by decide)]
        exact early _
theorem m_told {Z X : Nat → Nat → Int} {u : Int} (h : rl Z X) (hu : gx_i u) : rl_call (f_LE_told (pc_h Z) 0 u) (f_MD_told (pm_h X) 0 u) := by
  obtain ⟨n, B0, A, P, K, O, len, kb, hC, hG⟩ := h
  obtain ⟨⟨hn2, hn4, hX⟩, ⟨zA, zP, hp⟩, -, ⟨hE, hV⟩, -, ⟨h6, h6a, h6b, h6c, h6d, h6e⟩, -, -, ⟨⟨t1, t2, t3, t4⟩, t5⟩, ⟨b1, b2, b3, b4⟩, hsc⟩ := id hC
  have hS : pc_S A = true := by rcases hp with q | q <;> rw [q.1] <;> decide
  obtain ⟨s1, s2, s4, s5, s6, s7⟩ := pc_S_all A (pc_S_lt hS) hS
  obtain ⟨q0, q1, q2, -, -, q5⟩ := pc_S_ref A (pc_S_lt hS) hS
  obtain ⟨g0, g1, g2, r0, r1, r2⟩ := pc_H_all (A + 1) (pc_H_lt s2) s2
  obtain ⟨l0, l1, l2, l3, l4, l5⟩ := pc_LW
  obtain ⟨e0, e1, e2, e3, e4, e5⟩ := pc_rW
  obtain ⟨i0, i1, i2, i3, -⟩ := pc_rG
  obtain ⟨⟨U, V, hR⟩, -⟩ := id hV
  have stay : ∀ r, rl_call (some (r, pc_h Z)) (some (r, pm_h X)) := fun r => ⟨r, Z, X, rfl, rfl, n, B0, A, P, K, O, len, kb, hC, hG⟩
  obtain ⟨o, fl, Z', X', E1, E2, hz, hC', hG', hc⟩ := both_open hC hG
  have done : ∀ r, rl_call (some (r, pc_h Z')) (some (r, pm_h X')) := fun r => ⟨r, Z', X', rfl, rfl, n, B0, A, P, K, O, len, kb, hC', hG'⟩
  unfold f_LE_told f_MD_told
  rw [gq_g_ok hu, gq_g_ok hu]
  by_cases u0 : u = 0
  · rw [if_pos u0, if_pos u0, pc_grv pc_L0 (by decide) pc_r0'.1 zA, pc_gr s1 (by decide) q0 (by omega), pc_get g0 (by decide) r0, hE.1, pm_get (by decide) rfl, hX]
    exact stay _
  rw [if_neg u0, if_neg u0]
  by_cases u1 : u = 1
  · rw [if_pos u1, if_pos u1, pc_gr pc_L0 (by decide) pc_r0.1 (by decide), pc_get pc_L1.1 (by decide) pc_r1.2.1, t1, pm_get (by decide) rfl, t2]
    exact stay _
  rw [if_neg u1, if_neg u1]
  by_cases u2 : u = 2
  · rw [if_pos u2, if_pos u2, pc_gr pc_L0 (by decide) pc_r0.2.1 (by decide), pc_get pc_L3 (by decide) pc_r3.1, pm_cv]
    obtain ⟨w1, w2⟩ := rl_well hV
    rcases pm_isWell X hX hn4 hn2 hR.1 with ⟨m, hm, hw, hlow, e⟩ | ⟨hno, m, e⟩
    · rw [e, pl_call, pl_gi (a := 1) (by decide) (by decide), if_neg (show ¬ (1 : Int) = 0 by decide)]
      have z : ¬ Z 3 0 = 0 := fun z => by
        have := (rl_sc_1 hsc).2.mpr ⟨m, hm, (w1 m).mp hw⟩
        rw [z] at this
        exact absurd this (by decide)
      rw [if_neg z]
      exact ⟨_, Z, _, rfl, rfl, rl_stay hC hG (pm_S_o (by decide))⟩
    · rw [e, pl_call, pl_gi (a := 0) (by decide) (by decide), if_pos (show (0 : Int) = 0 from rfl)]
      have z : Z 3 0 = 0 := by
        rcases hsc with ⟨a1, m', a2, a3, a4, a5⟩ | ⟨a1, -⟩
        · exact absurd ((w1 m').mpr a4) (hno m' a2)
        · exact a1
      rw [if_pos z]
      exact ⟨_, Z, _, rfl, rfl, rl_stay hC hG (pm_S_o (by decide))⟩
  rw [if_neg u2, if_neg u2]
  by_cases u3 : u = 3
  · rw [if_pos u3, if_pos u3, pc_grv pc_L0 (by decide) pc_r0'.1 zA, pc_get s1 (by decide) q5, pm_gr (t := 1) (by decide) rfl (by decide), pm_ald (a := 72) (o := 1) (i := 72) rfl (by decide), hE.2.2.2.2.2.2]
    exact stay _
  rw [if_neg u3, if_neg u3]
  unfold f_MD_ofStands
  by_cases u4 : u = 4
  · subst u4
    rw [if_pos rfl, if_pos rfl, pc_cv pc_L0, E1, pl_call, pm_cv, pm_cv, E2, pl_call]
    rcases hc with ⟨q1, q2⟩ | ⟨q1, q2, N, hN0, hN, w1, w2, w3, -⟩
    · rw [q1, q2, pl_gi (by decide) (by decide), if_neg (by decide), pl_gi (by decide) (by decide), if_pos rfl, pl_call]
      exact done _
    · rw [q1, q2, pl_gi (by decide) (by decide), if_pos rfl, pl_gi (by decide) (by decide), if_neg (by decide), gq_g_ok hu, if_pos rfl, pc_gr pc_L0 (by decide) pc_r0.2.2.2.2.2.2.1 (by decide), pc_get l0 (by decide) e0, w1, pm_get (by decide) rfl, w2, pl_call]
      exact done _
  rw [if_neg u4, if_neg u4]
  by_cases u5 : u = 5
  · subst u5
    rw [if_pos rfl, if_pos rfl, pc_cv pc_L0, E1, pl_call, pm_cv, pm_cv, E2, pl_call]
    rcases hc with ⟨q1, q2⟩ | ⟨q1, q2, N, hN0, hN, w1, w2, w3, -, -, -, -, -, cnt, c1, c2⟩
    · rw [q1, q2, pl_gi (by decide) (by decide), if_neg (by decide), pl_gi (by decide) (by decide), if_pos rfl, pl_call]
      exact done _
    · rw [q1, q2, pl_gi (by decide) (by decide), if_pos rfl, pl_gi (by decide) (by decide), if_neg (by decide), gq_g_ok hu, if_neg (by decide), if_pos rfl, pc_gr pc_L0 (by decide) pc_r0.2.2.2.2.2.1 (by decide), pc_get pc_L173 (by decide) i2, c1, pm_cv, c2, pl_call, pl_call]
      exact done _
  rw [if_neg u5, if_neg u5]
  by_cases u6 : u = 6
  · subst u6
    rw [if_pos rfl, if_pos rfl, pc_cv pc_L0, E1, pl_call, pm_cv, pm_cv, E2, pl_call]
    rcases hc with ⟨q1, q2⟩ | ⟨q1, q2, N, hN0, hN, w1, w2, w3, w4, w5, -⟩
    · rw [q1, q2, pl_gi (by decide) (by decide), if_neg (by decide), pl_gi (by decide) (by decide), if_pos rfl, pl_call]
      exact done _
    · rw [q1, q2, pl_gi (by decide) (by decide), if_pos rfl, pl_gi (by decide) (by decide), if_neg (by decide), gq_g_ok hu, if_neg (by decide), if_neg (by decide), pc_gr pc_L0 (by decide) pc_r0.2.2.2.2.2.2.1 (by decide), pc_cv l0, pc_far Z' w1 hN0 hN, pl_call, pm_cv, pm_far X' w2 hN0 hN w5 w4 (fun t ht => (w3 t ht).2.2.2), pl_call, pl_call, (w3 (N - 1) (by omega)).1]
      exact done _
  rw [if_neg u6, if_neg u6]
  by_cases u7 : u = 7
  · rw [if_pos u7, if_pos u7, pc_gr pc_L0 (by decide) pc_r0.2.2.2.2.1 (by decide), pc_get pc_L170.1 (by decide) pc_r170.2.2, b1, pm_get (by decide) rfl, b2]
    exact stay _
  rw [if_neg u7, if_neg u7]
  by_cases u8 : u = 8
  · obtain ⟨r, w1, w2⟩ := both_wrong hC
    rw [if_pos u8, if_pos u8, pc_gr pc_L0 (by decide) pc_r0.2.2.2.2.1 (by decide), pc_grv pc_L0 (by decide) pc_r0'.1 zA, pc_gr s1 (by decide) q0 (by omega), pc_cv pc_L170.1, w1, pl_call, pm_cv, w2, pl_call]
    exact stay _
  rw [if_neg u8, if_neg u8]
  by_cases u9 : u = 9
  · rw [if_pos u9, if_pos u9, pc_gr pc_L0 (by decide) pc_r0.2.2.2.1 (by decide), pc_get pc_L8 (by decide) pc_r8.2.2, h6b, pm_get (by decide) rfl, h6c]
    exact stay _
  rw [if_neg u9, if_neg u9]
  exact stay _
