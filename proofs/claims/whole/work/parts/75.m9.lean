/-! by turns, both sides -/
/-- as ranked the rows are like: by their codes, by their numbers -/
theorem tu_iff {n : Nat} {D D' : Nat → Nat → Int} (hn2 : 2 ≤ n) (hD : mu_bd n D) (hD' : mu_bd n D') : (∀ p, p < n → mu_cd D (mu_rk n D p) n = mu_cd D' (mu_rk n D' p) n) ↔ ∀ p, p < n → ∀ m, m < n → D (mu_rk n D p) m = D' (mu_rk n D' p) m := by
  constructor
  · intro h p hp
    exact (mu_cd_inj n (fun m hm => hD _ (mu_rk_lt n D p (by omega)) m hm) (fun m hm => hD' _ (mu_rk_lt n D' p (by omega)) m hm)).mp (h p hp)
  · intro h p hp
    exact mu_cd_cg n (h p hp)
theorem tu_rk {n p m : Nat} {D D' : Nat → Nat → Int} (hn2 : 2 ≤ n) (h : mu_q n D D') (hm : m < n) : D (mu_rk n D p) m = D' (mu_rk n D' p) m := by
  rw [mu_rk_q h]
  exact h _ (mu_rk_lt n D' p (by omega)) m hm
theorem both_turns {n S i j : Nat} {Z0 X0 : Nat → Nat → Int} (hn2 : 2 ≤ n) (hn4 : n ≤ 4) (hi : i < n) (hj : j < n) (hS : pc_H S = true) (hS2 : 202 ≤ S) (hZn : Z0 S 0 = (n : Int)) (hXn : X0 0 1 = (n : Int)) (hD0 : mu_bd n (pm_T X0 24)) (h200 : ∀ p, p < n → Z0 200 p = mu_cd (pm_T X0 24) (mu_rk n (pm_T X0 24) p) n) :
    ∀ (d t fu gu b a : Nat) (Z X : Nat → Nat → Int), t + d = 21 → 1 ≤ t → d < fu → d < gu → ((b = 194 ∧ a = 197) ∨ (b = 197 ∧ a = 194)) → (∀ q, (q < 193 ∨ 201 < q) → Z q = Z0 q) → Z 200 = Z0 200 → pm_S X0 X → Z b 0 = (n : Int) → st_E n (pc_T Z (b + 1), pc_T Z (b + 2)) (pm_T X 1928, pm_T X 1944) → mu_bd n (pm_T X 1928) → mu_bd n (pm_T X 1944) →
    ∃ (r : Int) (Z' X' : Nat → Nat → Int), f_TU_count_29 fu (pc_h Z) 193 S (i : Int) (j : Int) b a (t : Int) = some (r, pc_h Z') ∧ f_MD_byTurns_43 gu (pm_h X) 0 (i : Int) (j : Int) (t : Int) = some (r, pm_h X') ∧ (∀ q, (q < 193 ∨ 201 < q) → Z' q = Z0 q) ∧ pm_S X0 X' := by
  obtain ⟨l0, l1, l2⟩ := pc_LT
  obtain ⟨e0, e1, e2, e3⟩ := pc_rT
  obtain ⟨g0, g1, g2, r0, r1, r2⟩ := pc_H_all S (pc_H_lt hS) hS
  intro d
  induction d with
  | zero =>
    intro t fu gu b a Z X ht ht1 hf hg hba hz h2 hx hb hE hB hD
    obtain ⟨f, rfl⟩ : ∃ f, fu = f + 1 := ⟨fu - 1, by omega⟩
    obtain ⟨g, rfl⟩ : ∃ g, gu = g + 1 := ⟨gu - 1, by omega⟩
    refine ⟨-1, Z, X, ?_, ?_, hz, hx⟩
    · show fb_TU_count_29 (f_TU_count_29 f) _ _ _ _ _ _ _ _ = _
      unfold fb_TU_count_29
      rw [pl_gi (by omega) (by omega), if_pos (by omega)]
    · show fb_MD_byTurns_43 (f_MD_byTurns_43 g) _ _ _ _ _ = _
      unfold fb_MD_byTurns_43
      rw [pl_gi (by omega) (by omega), if_pos (by omega)]
  | succ d ih =>
    intro t fu gu b a Z X ht ht1 hf hg hba hz h2 hx hb hE hB hD
    obtain ⟨f, rfl⟩ : ∃ f, fu = f + 1 := ⟨fu - 1, by omega⟩
    obtain ⟨g, rfl⟩ : ∃ g, gu = g + 1 := ⟨gu - 1, by omega⟩
    have hHb : pc_H b = true := by rcases hba with q | q <;> rw [q.1] <;> decide
    have hHa : pc_H a = true := by rcases hba with q | q <;> rw [q.2] <;> decide
    obtain ⟨ga0, -, -, ra0, -, -⟩ := pc_H_all a (pc_H_lt hHa) hHa
    have x1 : X 0 1 = (n : Int) := (hx.2.2 1 (Or.inl rfl)).trans hXn
    -- one turn at letter k
    have turn : ∀ k, k < n → ∃ (r : Int) (Z' X' : Nat → Nat → Int), fb_TU_count_53 (f_TU_count_29 f) (pc_h Z) 193 S (i : Int) (j : Int) b a (t : Int) a b (k : Int) = some (r, pc_h Z') ∧ fb_MD_byTurns_62 (f_MD_byTurns_43 g) (pm_h X) 0 (i : Int) (j : Int) (t : Int) 0 (k : Int) = some (r, pm_h X') ∧ (∀ q, (q < 193 ∨ 201 < q) → Z' q = Z0 q) ∧ pm_S X0 X' := by
      intro k hk
      obtain ⟨f1, Z1, E1, a0, a1, a2, a3, a4⟩ := pc_become Z (t := a) (u := b) (k := k) hHa hHb (by omega) hb hn4 rfl hk ((mu_q_bd hE.1).mpr hB) ((mu_q_bd hE.2).mpr hD)
      obtain ⟨f2, X1, E2, b0, b1, b2, b3, b4⟩ := pm_steps X (k := k) x1 hn4 rfl hk hB hD
      have mv := st_mv_E hE hk
      have same : f1 = f2 := by
        have iff : f1 = 1 ↔ f2 = 1 := a1.trans (Iff.trans ⟨fun z => ⟨(mu_q_bd mv.1).mp z.1, (mu_q_bd mv.2).mp z.2⟩, fun z => ⟨(mu_q_bd mv.1).mpr z.1, (mu_q_bd mv.2).mpr z.2⟩⟩ b1.symm)
        rcases a0 with q | q <;> rcases b0 with q' | q'
        · omega
        · have := iff.mpr q'; omega
        · have := iff.mp q; omega
        · omega
      subst same
      have z1 : ∀ q, (q < 193 ∨ 201 < q) → Z1 q = Z0 q := fun q hq => (a2 q (by omega)).trans (hz q hq)
      have S1 : pm_S X0 X1 := hx.trans ⟨fun q hq => b3 q (by omega), fun o ho => b2 o (by omega) (by omega), fun q _ => by rw [b2 0 (by decide) (by decide)]⟩
      unfold fb_TU_count_53 fb_MD_byTurns_62
      rw [pc_cv ga0, E1, pl_call, pm_cv, E2, pl_call, pl_gi (by omega) (by omega), pl_gi (by omega) (by omega)]
      by_cases c : f1 = 0
      · rw [if_pos c, if_pos c]
        exact ⟨-1, Z1, X1, rfl, rfl, z1, S1⟩
      have ok := b1.mp (by omega)
      have hE1 : st_E n (pc_T Z1 (a + 1), pc_T Z1 (a + 2)) (pm_T X1 1928, pm_T X1 1944) := a4.trans (mv.trans b4.symm)
      have hB1 : mu_bd n (pm_T X1 1928) := (mu_q_bd b4.1).mpr ok.1
      have hD1 : mu_bd n (pm_T X1 1944) := (mu_q_bd b4.2).mpr ok.2
      have x11 : X1 0 1 = (n : Int) := (S1.2.2 1 (Or.inl rfl)).trans hXn
      obtain ⟨Z2, E3, y1, y2⟩ := pc_fillRanked Z1 (t := a) (o := 201) l2 (Or.inr rfl) hHa a3 hn4 hn2 ((mu_q_bd hE1.2).mpr hD1)
      have z2 : ∀ q, (q < 193 ∨ 201 < q) → Z2 q = Z0 q := fun q hq => (y1 q (by omega)).trans (z1 q hq)
      have z200 : Z2 200 = Z0 200 := by rw [y1 200 (by decide), a2 200 (by omega)]; exact h2
      have s0 : Z2 S 0 = (n : Int) := by rw [z2 S (by omega)]; exact hZn
      have alike := pc_areAlike Z2 (n := n) rfl hn4
      have home := pm_isHome X1 x11 hn4 hn2
      have q24 : mu_q n (pm_T X0 24) (pm_T X1 24) := (S1.T hn4 (by decide)).symm
      have iff : (∀ p, p < n → Z2 200 p = Z2 201 p) ↔ (∀ p, p < n → ∀ m, m < n → pm_T X1 24 (mu_rk n (pm_T X1 24) p) m = pm_T X1 1944 (mu_rk n (pm_T X1 1944) p) m) := by
        rw [← tu_iff hn2 ((mu_q_bd q24).mp hD0) hD1]
        have c200 : ∀ p, p < n → Z2 200 p = mu_cd (pm_T X1 24) (mu_rk n (pm_T X1 24) p) n := fun p hp => by
          rw [z200, h200 p hp]
          exact mu_cd_cg n fun m hm => tu_rk hn2 q24 hm
        have c201 : ∀ p, p < n → Z2 201 p = mu_cd (pm_T X1 1944) (mu_rk n (pm_T X1 1944) p) n := fun p hp => by
          rw [y2 p hp]
          exact mu_cd_cg n fun m hm => tu_rk hn2 hE1.2 hm
        exact ⟨fun z p hp => by rw [← c200 p hp, ← c201 p hp]; exact z p hp, fun z p hp => by rw [c200 p hp, c201 p hp]; exact z p hp⟩
      rw [if_neg c, if_neg c, pc_gr l0 (by decide) e3 (by decide), E3, pl_call, pc_gr l0 (by decide) e2 (by decide), pc_gr l0 (by decide) e3 (by decide), pc_get g0 (by decide) r0, s0, pm_cv]
      by_cases w : ∀ p, p < n → Z2 200 p = Z2 201 p
      · rw [alike.1 w, home.1 (iff.mp w), pl_call, pl_call, pl_gi (by decide) (by decide), if_neg (by decide), if_neg (by decide)]
        exact ⟨(t : Int), Z2, X1, rfl, rfl, z2, S1⟩
      · rw [alike.2 w, home.2 (fun z => w (iff.mpr z)), pl_call, pl_call, pl_gi (by decide) (by decide), if_pos rfl, if_pos rfl]
        have t1 : pc_T Z2 (a + 1) = pc_T Z1 (a + 1) := by unfold pc_T; rw [y1 (a + 1) (by omega)]
        have t2 : pc_T Z2 (a + 2) = pc_T Z1 (a + 2) := by unfold pc_T; rw [y1 (a + 2) (by omega)]
        exact ih (t + 1) f g a b Z2 X1 (by omega) (by omega) (by omega) (by omega) (by omega) z2 z200 S1 (by rw [y1 a (by omega)]; exact a3) (by rw [t1, t2]; exact hE1) hB1 hD1
    have tm : (t : Int).tmod 2 = ((t % 2 : Nat) : Int) := by
      rw [Int.tmod_eq_emod_of_nonneg (by omega)]
      omega
    show ∃ (r : Int) (Z' X' : Nat → Nat → Int), fb_TU_count_29 (f_TU_count_29 f) _ _ _ _ _ _ _ _ = _ ∧ fb_MD_byTurns_43 (f_MD_byTurns_43 g) _ _ _ _ _ = _ ∧ _ ∧ _
    unfold fb_TU_count_29 fb_MD_byTurns_43
    rw [pl_gi (a := (t : Int)) (by omega) (by omega), if_neg (show ¬ (20 : Int) < (t : Int) by omega), pl_gi (a := (t : Int)) (by omega) (by omega), if_neg (show ¬ (20 : Int) < (t : Int) by omega), tm, pl_gi (by omega) (by omega), pl_gi (by omega) (by omega)]
    by_cases c : ((t % 2 : Nat) : Int) = 1
    · rw [if_pos c, if_pos c]
      exact turn i hi
    · rw [if_neg c, if_neg c]
      exact turn j hj
theorem m_byTurns {Z X : Nat → Nat → Int} {v w : Int} (h : rl Z X) (hv : gx_i v) (hw : gx_i w) : rl_call (f_LE_byTurns (pc_h Z) 0 v w) (f_MD_byTurns (pm_h X) 0 v w) := by
  obtain ⟨n, B0, A, P, K, O, len, kb, hC, hG⟩ := h
  obtain ⟨⟨hn2, hn4, hX⟩, ⟨zA, zP, hp⟩, -, ⟨hE, hV⟩, -, -, -, -, -, -, hsc⟩ := id hC
  have hS : pc_S A = true := by rcases hp with q | q <;> rw [q.1] <;> decide
  obtain ⟨s1, s2, -⟩ := pc_S_all A (pc_S_lt hS) hS
  obtain ⟨q0, -⟩ := pc_S_ref A (pc_S_lt hS) hS
  obtain ⟨l0, l1, l2⟩ := pc_LT
  obtain ⟨e0, e1, e2, e3⟩ := pc_rT
  obtain ⟨g0, -⟩ := pc_H_all 194 (by decide) pc_HT.1
  obtain ⟨⟨U, V, hR⟩, -⟩ := id hV
  have hA2 : 202 ≤ A + 1 := by omega
  have stay : ∀ r, rl_call (some (r, pc_h Z)) (some (r, pm_h X)) := fun r => ⟨r, Z, X, rfl, rfl, n, B0, A, P, K, O, len, kb, hC, hG⟩
  unfold f_LE_byTurns f_MD_byTurns
  rw [pc_cv pc_L0, pc_noLetter Z hS zA hE.1 hv, pl_call, pm_cv, pm_isLetter X hX hn4 hv, pl_call]
  by_cases c : ¬ (0 ≤ v ∧ v < (n : Int))
  · rw [if_neg c, if_neg c, pl_gi (by decide) (by decide), if_neg (by decide), pl_gi (by decide) (by decide), if_pos rfl]
    exact stay _
  have c' : 0 ≤ v ∧ v < (n : Int) := Classical.byContradiction c
  rw [if_pos c', if_pos c', pl_gi (by decide) (by decide), if_pos rfl, pl_gi (by decide) (by decide), if_neg (by decide), pc_cv pc_L0, pc_noLetter Z hS zA hE.1 hw, pl_call, pm_cv, pm_isLetter X hX hn4 hw, pl_call]
  by_cases d : ¬ (0 ≤ w ∧ w < (n : Int))
  · rw [if_neg d, if_neg d, pl_gi (by decide) (by decide), if_neg (by decide), pl_gi (by decide) (by decide), if_pos rfl]
    exact stay _
  have d' : 0 ≤ w ∧ w < (n : Int) := Classical.byContradiction d
  rw [if_pos d', if_pos d', pl_gi (a := 0) (by decide) (by decide), if_pos (show (0 : Int) = 0 from rfl), gq_g_ok hv, gq_g_ok hw, pl_gi (a := 1) (by decide) (by decide), if_neg (show ¬ (1 : Int) = 0 by decide), gq_g_ok hv, gq_g_ok hw]
  by_cases e : v = w
  · rw [if_pos e, if_pos e]
    exact stay _
  rw [if_neg e, if_neg e, pc_gr pc_L0 (by decide) pc_r0.2.1 (by decide), pc_get pc_L3 (by decide) pc_r3.1, pm_cv]
  obtain ⟨i, hi⟩ : ∃ i : Nat, v = (i : Int) := ⟨v.toNat, by omega⟩
  obtain ⟨j, hj⟩ : ∃ j : Nat, w = (j : Int) := ⟨w.toNat, by omega⟩
  subst hi hj
  have hi : i < n := by omega
  have hj : j < n := by omega
  obtain ⟨w1, w2⟩ := rl_well hV
  rcases pm_isWell X hX hn4 hn2 hR.1 with ⟨m, hm, hwt, hlow, E⟩ | ⟨hno, m, E⟩
  · have z : ¬ Z 3 0 = 0 := fun z => by
      have := (rl_sc_1 hsc).2.mpr ⟨m, hm, (w1 m).mp hwt⟩
      rw [z] at this
      exact absurd this (by decide)
    rw [E, pl_call, pl_gi (a := 1) (by decide) (by decide), if_neg (show ¬ (1 : Int) = 0 by decide), if_neg z, pm_cv, pm_copy _ (a := 0) (b := 1920) (x := 0) (y := 1920) rfl rfl (by decide) (by decide) (Or.inl (by decide)), pl_call]
    generalize hX1 : pm_w6 X n m = X1
    have S1 : pm_S X X1 := by rw [← hX1]; exact pm_S_o (by decide)
    generalize hX2 : gx_us X1 1 (pm_cp (X1 1) 0 1920 80) = X2
    have S2 : pm_S X X2 := S1.trans (by rw [← hX2]; exact pm_S_w (fun j hj => by unfold pm_cp; rw [if_neg (by omega)]))
    have T2 : ∀ c, c + 16 ≤ 80 → mu_q n (pm_T X2 (1920 + c)) (pm_T X c) := fun c hc a ha b hb => by
      show X2 1 (1920 + c + 4 * a + b) = X 1 (c + 4 * a + b)
      rw [← hX2, gx_us_eq]
      unfold pm_cp
      rw [if_pos (by omega), show 0 + (1920 + c + 4 * a + b - 1920) = c + 4 * a + b by omega]
      exact S1.1 _ (by omega)
    have n2 : X2 0 1 = (n : Int) := (S2.2.2 1 (Or.inl rfl)).trans hX
    -- the class begins
    obtain ⟨Z1, F1, y1, y2⟩ := pc_fillRanked Z (t := A + 1) (o := 200) l1 (Or.inl rfl) s2 hE.1 hn4 hn2 ((mu_q_bd hE.2.2.1).mpr hR.2.1)
    obtain ⟨Z2, F2, z1, z2, z3, z4⟩ := pc_copyH Z1 (t := 194) (u := A + 1) pc_HT.1 s2 (by omega)
    have zz : ∀ q, (q < 193 ∨ 201 < q) → Z2 q = Z q := fun q hq => (z1 q (by omega)).trans (y1 q (by omega))
    have q24 : mu_q n (pm_T X 24) (pm_T X2 24) := (S2.T hn4 (by decide)).symm
    have run := both_turns (n := n) (S := A + 1) (i := i) (j := j) (Z0 := Z2) (X0 := X2) hn2 hn4 hi hj s2 hA2 (by rw [zz (A + 1) (by omega)]; exact hE.1) n2 ((mu_q_bd q24).mp hR.2.1) (fun p hp => by
      rw [z1 200 (by decide), y2 p hp]
      exact mu_cd_cg n fun m hm => tu_rk hn2 (hE.2.2.1.trans q24) hm) 20 1 gx_fu gx_fu 194 197 Z2 X2 (by decide) (by decide) (by decide) (by decide) (Or.inl ⟨rfl, rfl⟩) (fun _ _ => rfl) rfl pm_S.rf (by rw [z2, y1 (A + 1) (by omega)]; exact hE.1) ⟨?_, ?_⟩ ((mu_q_bd (T2 8 (by decide))).mpr hR.1) ((mu_q_bd (T2 24 (by decide))).mpr hR.2.1)
    · obtain ⟨r, Z', X', R1, R2, R3, R4⟩ := run
      unfold f_TU_count
      have R1' : f_TU_count_29 gx_fu (pc_h Z2) 193 (A + 1) (i : Int) (j : Int) 194 197 1 = some (r, pc_h Z') := R1
      have R2' : f_MD_byTurns_43 gx_fu (pm_h X2) 0 (i : Int) (j : Int) 1 = some (r, pm_h X') := R2
      rw [pc_gr pc_L0 (by decide) pc_r0.2.2.2.2.2.2.2.1 (by decide), pc_grv pc_L0 (by decide) pc_r0'.1 zA, pc_gr s1 (by decide) q0 (by omega), pc_cv l0, pc_gr l0 (by decide) e2 (by decide), F1, pl_call, pc_gr l0 (by decide) e0 (by decide), pc_gr l0 (by decide) e1 (by decide), pc_cv g0, F2, pl_call, R1', pl_call, R2']
      have zf : ∀ q, (q < 193 ∨ 201 < q) → Z' q = Z q := fun q hq => (R3 q hq).trans (zz q hq)
      have e173 : ∀ q, 173 ≤ q → q ≤ 192 → Z' q = Z q := fun q _ b => zf q (by omega)
      refine ⟨r, Z', X', rfl, rfl, n, B0, A, P, K, O, len, kb, rl_C_S (rl_C_z hC ⟨fun q _ _ _ _ d _ => zf q (by omega), fun j _ _ => by rw [zf 0 (by decide)]⟩) (S2.trans R4), rl_G_cg hG e173 (by rw [zf 0 (by decide)]) (by rw [zf 0 (by decide)]) ⟨zf _ (by omega), zf _ (by omega)⟩⟩
    · refine mu_q.trans (fun a ha b hb => ?_) (T2 8 (by decide)).symm
      show Z2 (194 + 1) (4 * a + b) = X 1 (8 + 4 * a + b)
      rw [z3 _ (by omega), y1 (A + 1 + 1) (by omega)]
      exact hE.2.1 a ha b hb
    · refine mu_q.trans (fun a ha b hb => ?_) (T2 24 (by decide)).symm
      show Z2 (194 + 2) (4 * a + b) = X 1 (24 + 4 * a + b)
      rw [z4 _ (by omega), y1 (A + 1 + 2) (by omega)]
      exact hE.2.2.1 a ha b hb
  · have z : Z 3 0 = 0 := by
      rcases hsc with ⟨a1, m', a2, a3, a4, a5⟩ | ⟨a1, -⟩
      · exact absurd ((w1 m').mpr a4) (hno m' a2)
      · exact a1
    rw [E, pl_call, pl_gi (a := 0) (by decide) (by decide), if_pos (show (0 : Int) = 0 from rfl), if_pos z]
    exact ⟨_, Z, _, rfl, rfl, rl_stay hC hG (pm_S_o (by decide))⟩
