/-! stands, both sides: open or not -/
theorem pc_find0 (Z : Nat → Nat → Int) {t n : Nat} (ht : pc_H t = true) (hn : Z t 0 = (n : Int)) : ∃ Y, f_GR_find (pc_h Z) 173 t 0 = some (0, pc_h Y) ∧ (∀ o, o ≠ 173 → Y o = Z o) ∧ Y 173 3 = 1 := by
  obtain ⟨e0, e1, e2, e3, e4, e5, e6, e7, e8, e9, e10, e11, e12⟩ := pc_rG
  obtain ⟨g0, g1, g2, r0, r1, r2⟩ := pc_H_all t (pc_H_lt ht) ht
  unfold f_GR_find
  rw [pc_get g0 (by decide) r0, hn, pc_put trivial pc_L173 (by decide) e1, pc_put trivial pc_L173 (by decide) e0, pc_put trivial pc_L173 (by decide) e3, pl_gi (by decide) (by decide), if_pos rfl]
  exact ⟨_, rfl, fun o ho => by rw [gx_up_ne ho, gx_up_ne ho, gx_up_ne ho], by rw [gx_up_at, if_pos rfl]⟩
/-- a closed graph of a table that is well: it is little, and nothing is unlike -/
theorem rl_ok_of {n N : Nat} {B0 : Nat → Nat → Int} {nd : Nat → st_t} {a : st_t} {ks : List Nat} (hn2 : 2 ≤ n) (hn4 : n ≤ 4) (hb : ∀ i j, i < n → j < n → -3 ≤ B0 i j ∧ B0 i j ≤ 3) (hw : mu_well n B0) (hk : ∀ k ∈ ks, k < n) (ha : st_E n a (rc_R n B0 ks)) (hD : mu_bd n a.2) (hN : 0 < N) (h0 : st_E n (nd 0) (st_cn n a)) (hc : ∀ t k, t < N → k < n → ∃ r, r < N ∧ ∃ s : Nat → Nat, mu_pm n n s ∧ mu_tn n s (nd r).1 (mu_B (nd t).1 k)) (hm : ∀ t, t < N → mu_mi n (nd t).1) : rl_ok n B0 := by
  obtain ⟨m, hm1, hm2⟩ := id hw
  rcases fin_main hn2 hn4 hb (fun i _ => (mu_dg_in n m i).1) hm2 with bad | fin
  · exfalso
    have b1 := mu_bad_back hk bad
    have b2 : mu_bad n a.1 := mu_bad_q ha.1.symm b1
    refine gr_notbad hc hm ⟨0, hN, mu_pl n a.2, mu_pl_pm hD, fun i hi j hj => ?_⟩ b2
    have pm := mu_pl_pm hD
    rw [h0.1 _ (pm.1 i hi) _ (pm.1 j hj)]
    exact st_cn_back hn2 hn4 hD i hi j hj
  · exact ⟨hw, fin⟩
theorem rl_ok_w {n : Nat} {B0 : Nat → Nat → Int} (h : rl_ok n B0) : mu_fin n B0 ∧ ∃ w : Nat → Int, (∀ i, i < n → 1 ≤ w i) ∧ mu_wt n B0 w := by
  obtain ⟨⟨m, -, h2⟩, h3⟩ := h
  exact ⟨h3, mu_dg n m, fun i _ => (mu_dg_in n m i).1, h2⟩
/-- the class's stands, ready -/
def rl_W (n : Nat) (B0 : Nat → Nat → Int) (a : st_t) (Z : Nat → Nat → Int) : Prop := ∃ (N : Nat) (gn : Nat → st_t) (gl : Nat → Nat → Nat) (W : Nat) (st fr bw : Nat → Nat) (ld : Nat → Nat → Nat), gr_full n (rl_ok n B0) B0 Z N gn ∧ wk_G n Z N gn gl ∧ wk_A n Z N gn gl W st fr bw ld W 0 ∧ st_E n (gn (st 0)) (st_cn n a)
theorem gr_gl {n N : Nat} {G : Prop} {B0 Z : Nat → Nat → Int} {gn : Nat → st_t} (h : gr_full n G B0 Z N gn) (g : G) : ∃ gl, wk_G n Z N gn gl := by
  have hx : ∀ t k, ∃ r : Nat, t < N → k < n → r < N ∧ Z 174 (4 * t + k) = (r : Int) ∧ st_E n (st_go n (gn t) k) (gn r) := fun t k => by
    by_cases c : t < N ∧ k < n
    · rcases h.1.2.2.2.2.2 t k c.1 c.2 with q | ⟨r, h1, h2, h3⟩
      · exact absurd q (h.2.2.1 t k c.1 c.2)
      · exact ⟨r, fun _ _ => ⟨h1, h2, h3.2 g⟩⟩
    · exact ⟨0, fun a b => absurd ⟨a, b⟩ c⟩
  refine ⟨fun t k => Classical.choose (hx t k), h.1.1, h.1.2.1, h.1.2.2.1, h.1.2.2.2.2.1, fun t k ht hk => ?_⟩
  have q := Classical.choose_spec (hx t k) ht hk
  exact ⟨q.2.1, q.1, q.2.2⟩
/-- isOpen, when the graph stands -/
theorem cls_33 {n A : Nat} {B0 Z : Nat → Nat → Int} (hn2 : 2 ≤ n) (hn4 : n ≤ 4) (hp : A = 230 ∨ A = 238) (zA : Z 0 13 = (A : Int)) (hG : rl_G n B0 A Z) (h16 : Z 0 16 = 0) (hB : mu_bd n (pc_T Z (A + 2))) (hD : mu_bd n (pc_T Z (A + 3))) (hr : rc_S n B0 (pc_T Z (A + 2), pc_T Z (A + 3))) :
    ∃ (o : Int) (Z' : Nat → Nat → Int), fb_LE_isOpen_33 (pc_h Z) 0 = some (o, pc_h Z') ∧ (∀ q, q ≠ 0 → (q < 173 ∨ 192 < q) → Z' q = Z q) ∧ (∀ j, j ≠ 16 → j ≠ 17 → Z' 0 j = Z 0 j) ∧ rl_G n B0 A Z' ∧ ((o = 1 ∧ ¬ rl_ok n B0) ∨ (o = 0 ∧ rl_ok n B0 ∧ rl_W n B0 (pc_T Z (A + 2), pc_T Z (A + 3)) Z')) := by
  obtain ⟨e0, e1, e2, e3, e4, e5, e6, e7, e8, e9, e10, e11, e12⟩ := pc_rG
  have hS : pc_S A = true := by rcases hp with q | q <;> rw [q] <;> decide
  obtain ⟨s1, s2, -⟩ := pc_S_all A (pc_S_lt hS) hS
  obtain ⟨q0, -⟩ := pc_S_ref A (pc_S_lt hS) hS
  obtain ⟨a1, a2, a3, a4⟩ := id hG
  unfold fb_LE_isOpen_33
  rw [pc_get pc_L0 (by decide) pc_r0'.2.2.2.2]
  rcases a4 h16 with ⟨o1, ng⟩ | ⟨o0, g, N, gn, gf, wk⟩
  · have out : ∃ (o : Int) (Z' : Nat → Nat → Int), gq_g ((1 : Int) = 0 ∨ (1 : Int) = 1) (some ((1 : Int), pc_h Z)) = some (o, pc_h Z') ∧ (∀ q, q ≠ 0 → (q < 173 ∨ 192 < q) → Z' q = Z q) ∧ (∀ j, j ≠ 16 → j ≠ 17 → Z' 0 j = Z 0 j) ∧ rl_G n B0 A Z' ∧ ((o = 1 ∧ ¬ rl_ok n B0) ∨ (o = 0 ∧ rl_ok n B0 ∧ rl_W n B0 (pc_T Z (A + 2), pc_T Z (A + 3)) Z')) := ⟨1, Z, gq_g_ok (Or.inr rfl), fun _ _ _ => rfl, fun _ _ _ => rfl, hG, Or.inl ⟨rfl, ng⟩⟩
    by_cases c : Z 0 17 = 0
    · rw [if_pos c, pc_gr pc_L0 (by decide) pc_r0.2.2.2.2.2.1 (by decide), pc_get pc_L173 (by decide) e3, o1]
      exact out
    · rw [if_neg c, pc_gr pc_L0 (by decide) pc_r0.2.2.2.2.2.1 (by decide), pc_get pc_L173 (by decide) e3, o1, if_neg (by decide), pc_gr pc_L0 (by decide) pc_r0.2.2.2.2.2.1 (by decide), pc_get pc_L173 (by decide) e3, o1]
      exact out
  · by_cases c : Z 0 17 = 0
    · obtain ⟨gl, W, st, fr, bw, ld, w1, w2, w3⟩ := wk c
      rw [if_pos c, pc_gr pc_L0 (by decide) pc_r0.2.2.2.2.2.1 (by decide), pc_get pc_L173 (by decide) e3, o0]
      exact ⟨0, Z, gq_g_ok (Or.inl rfl), fun _ _ _ => rfl, fun _ _ _ => rfl, hG, Or.inr ⟨rfl, g, N, gn, gl, W, st, fr, bw, ld, gf, w1, w2, w3⟩⟩
    · obtain ⟨hf, w, hw, hwt⟩ := rl_ok_w g
      obtain ⟨gl, hgl⟩ := gr_gl gf g
      have n0 := (gf.1.2.2.2.1 0 gf.2.1).2.2.2.2 g
      have hin := rc_all hn2 hn4 hw hwt hf (nd := gn) (N := N) (t0 := 0) (fun t k ht hk => ⟨gl t k, (hgl.2.2.2.2 t k ht hk).2⟩) gf.2.1 n0.1 n0.2 hr
      obtain ⟨r, Y1, E1, hr1, y1, er⟩ := pc_standOf Z (t := A + 1) s2 (by omega) hn4 hn2 hB hD gf.1 hin
      have hgl1 : wk_G n Y1 N gn gl := by
        obtain ⟨b1, b2, b3, b4, b5⟩ := hgl
        exact ⟨by rw [y1 173 (by decide)]; exact b1, by rw [y1 173 (by decide)]; exact b2, b3, b4, fun t k ht hk => by rw [y1 174 (by decide)]; exact b5 t k ht hk⟩
      obtain ⟨Y2, W, st, fr, bw, ld, E2, y2, wA, w0⟩ := pc_number Y1 hn4 hgl1 rfl hr1
      rw [if_neg c, pc_gr pc_L0 (by decide) pc_r0.2.2.2.2.2.1 (by decide), pc_get pc_L173 (by decide) e3, o0, if_pos rfl, pc_gr pc_L0 (by decide) pc_r0.2.2.2.2.2.2.1 (by decide), pc_gr pc_L0 (by decide) pc_r0.2.2.2.2.2.1 (by decide), pc_gr pc_L0 (by decide) pc_r0.2.2.2.2.2.1 (by decide), pc_grv pc_L0 (by decide) pc_r0'.1 zA, pc_gr s1 (by decide) q0 (by omega), pc_cv pc_L173, E1, pl_call, pc_cv pc_LW.1, E2, pl_call, pc_put trivial pc_L0 (by decide) pc_r0'.2.2.2.2, pc_gr pc_L0 (by decide) pc_r0.2.2.2.2.2.1 (by decide), pc_get pc_L173 (by decide) e3]
      generalize hZ : gx_up Y2 0 17 0 = Z'
      have zo : ∀ q, q ≠ 0 → Z' q = Y2 q := fun q hq => by rw [← hZ, gx_up_ne hq]
      have zz : ∀ q, q ≠ 0 → (q < 176 ∨ 179 < q) → (q < 187 ∨ 192 < q) → Z' q = Z q := fun q a b c => by rw [zo q a, y2 q c, y1 q b]
      have z0 : ∀ j, Z' 0 j = if j = 17 then 0 else Z 0 j := fun j => by rw [← hZ, gx_up_at, y2 0 (by decide), y1 0 (by decide)]
      have t1 : pc_T Z' (A + 2) = pc_T Z (A + 2) := by unfold pc_T; rw [zz (A + 2) (by omega) (by omega) (by omega)]
      have t2 : pc_T Z' (A + 3) = pc_T Z (A + 3) := by unfold pc_T; rw [zz (A + 3) (by omega) (by omega) (by omega)]
      have gf' : gr_full n (rl_ok n B0) B0 Z' N gn := gr_full_cg gf (fun q hq => zz q (by omega) (by omega) (by omega))
      have hgl' : wk_G n Z' N gn gl := by
        obtain ⟨b1, b2, b3, b4, b5⟩ := hgl
        have e173 : Z' 173 = Z 173 := zz 173 (by decide) (by decide) (by decide)
        exact ⟨by rw [e173]; exact b1, by rw [e173]; exact b2, b3, b4, fun t k ht hk => by rw [zz 174 (by decide) (by decide) (by decide)]; exact b5 t k ht hk⟩
      have wA' : wk_A n Z' N gn gl W st fr bw ld W 0 := wk_A_cg wA (fun q a b => zo q (by omega))
      have er' : st_E n (gn (st 0)) (st_cn n (pc_T Z (A + 2), pc_T Z (A + 3))) := by rw [w0]; exact er.symm
      have o0' : Z' 173 3 = 0 := by rw [zz 173 (by decide) (by decide) (by decide)]; exact o0
      rw [o0']
      refine ⟨0, Z', gq_g_ok (Or.inl rfl), fun q a b => zz q a (by omega) (by omega), fun j a b => by rw [z0, if_neg b], ⟨?_, Or.inl (by rw [z0, if_pos rfl]), fun z => ?_, fun _ => Or.inr ⟨o0', g, N, gn, gf', fun _ => ⟨gl, W, st, fr, bw, ld, hgl', wA', by rw [t1, t2]; exact er'⟩⟩⟩, Or.inr ⟨rfl, g, N, gn, gl, W, st, fr, bw, ld, gf', hgl', wA', er'⟩⟩
      · rw [z0, if_neg (by decide)]; exact a1
      · rw [z0, if_neg (by decide), h16] at z
        exact absurd z (by decide)
/-- isOpen, the whole -/
theorem cls_open {n A P K O len kb : Nat} {B0 Z X : Nat → Nat → Int} (hC : rl_C n B0 A P K O len kb Z X) (hG : rl_G n B0 A Z) :
    ∃ (o : Int) (Z' : Nat → Nat → Int), f_LE_isOpen (pc_h Z) 0 = some (o, pc_h Z') ∧ (∀ q, q ≠ 0 → (q < 173 ∨ 192 < q) → Z' q = Z q) ∧ (∀ j, j ≠ 16 → j ≠ 17 → Z' 0 j = Z 0 j) ∧ rl_G n B0 A Z' ∧ ((o = 1 ∧ ¬ rl_ok n B0) ∨ (o = 0 ∧ rl_ok n B0 ∧ rl_W n B0 (pc_T Z (A + 2), pc_T Z (A + 3)) Z')) := by
  obtain ⟨⟨hn2, hn4, hX⟩, ⟨zA, zP, hp⟩, hb0, ⟨hE, hV⟩, -, -, -, -, -, -, hsc⟩ := id hC
  have hS : pc_S A = true := by rcases hp with q | q <;> rw [q.1] <;> decide
  obtain ⟨s1, s2, -⟩ := pc_S_all A (pc_S_lt hS) hS
  obtain ⟨q0, -⟩ := pc_S_ref A (pc_S_lt hS) hS
  obtain ⟨⟨U, V, hR⟩, ks, hk, -, hks⟩ := id hV
  have hB : mu_bd n (pc_T Z (A + 2)) := (mu_q_bd hE.2.1).mpr hR.1
  have hD : mu_bd n (pc_T Z (A + 3)) := (mu_q_bd hE.2.2.1).mpr hR.2.1
  have ea : st_E n (pc_T Z (A + 2), pc_T Z (A + 3)) (rc_R n B0 ks) := st_E.trans (b := (pm_T X (0 + 8), pm_T X (0 + 24))) ⟨hE.2.1, hE.2.2.1⟩ hks
  have hr : rc_S n B0 (pc_T Z (A + 2), pc_T Z (A + 3)) := ⟨ks, _, hk, st_rn_E st_rn.rf ea.symm⟩
  have hA : A = 230 ∨ A = 238 := by omega
  have hA2 : A + 2 ≠ 0 ∧ 186 < A + 2 ∧ A + 3 ≠ 0 ∧ 186 < A + 3 := by omega
  obtain ⟨sc0, sc1⟩ := rl_sc_1 hsc
  obtain ⟨a1, a2, a3, a4⟩ := id hG
  unfold f_LE_isOpen
  rw [pc_get pc_L0 (by decide) pc_r0'.2.2.2.1]
  by_cases c : Z 0 16 = 0
  · rw [if_pos c]
    exact cls_33 hn2 hn4 hA zA hG c hB hD hr
  · rw [if_neg c, pc_gr pc_L0 (by decide) pc_r0.2.2.2.2.2.1 (by decide), pc_grv pc_L0 (by decide) pc_r0'.1 zA, pc_gr s1 (by decide) q0 (by omega), pc_gr pc_L0 (by decide) pc_r0.2.1 (by decide), pc_get pc_L3 (by decide) pc_r3.1, pc_cv pc_L173]
    have h17 : Z 0 17 = 1 := a3 (by omega)
    -- the graph found
    have found : ∃ Y, f_GR_find (pc_h Z) 173 (A + 1) (Z 3 0) = some (0, pc_h Y) ∧ (∀ q, (q < 173 ∨ 186 < q) → Y q = Z q) ∧ ((Y 173 3 = 1 ∧ ¬ rl_ok n B0) ∨ (Y 173 3 = 0 ∧ rl_ok n B0 ∧ ∃ (N : Nat) (gn : Nat → st_t), gr_full n (rl_ok n B0) B0 Y N gn)) := by
      by_cases w : Z 3 0 = 0
      · rw [w]
        obtain ⟨Y, E, y1, y2⟩ := pc_find0 Z s2 hE.1
        exact ⟨Y, E, fun q hq => y1 q (by omega), Or.inl ⟨y2, fun g => by have := sc1.mpr g.1; omega⟩⟩
      · have hwell : mu_well n B0 := sc1.mp (by omega)
        obtain ⟨Y, E, y1, y2, y3⟩ := pc_find Z (t := A + 1) (v := Z 3 0) (G := rl_ok n B0) (B0 := B0) s2 (by omega) hE.1 hn4 hn2 hB hD sc0 rl_ok_w (fun g => sc1.mpr g.1) (fun _ => hr)
        refine ⟨Y, E, y1, ?_⟩
        rcases y3 with q | ⟨o0, N, gn, gf, e0⟩
        · exact Or.inl q
        · refine Or.inr ⟨o0, rl_ok_of (N := N) (nd := gn) (a := (pc_T Z (A + 2), pc_T Z (A + 3))) hn2 hn4 hb0 hwell hk ea hD gf.2.1 e0 (fun t k ht hk => ?_) (fun t ht => (gf.1.2.2.2.1 t ht).2.2.2.1), N, gn, gf⟩
          rcases gf.1.2.2.2.2.2 t k ht hk with q | ⟨r, h1, -, h3⟩
          · exact absurd q (gf.2.2.1 t k ht hk)
          · exact ⟨r, h1, h3.1⟩
    obtain ⟨Y, E, y1, y2⟩ := found
    rw [E, pl_call, pc_put trivial pc_L0 (by decide) pc_r0'.2.2.2.1]
    generalize hZ1 : gx_up Y 0 16 0 = Z1
    have zo : ∀ q, q ≠ 0 → Z1 q = Y q := fun q hq => by rw [← hZ1, gx_up_ne hq]
    have z0 : ∀ j, Z1 0 j = if j = 16 then 0 else Z 0 j := fun j => by rw [← hZ1, gx_up_at, y1 0 (by decide)]
    have t1 : pc_T Z1 (A + 2) = pc_T Z (A + 2) := by unfold pc_T; rw [zo (A + 2) hA2.1, y1 (A + 2) (Or.inr hA2.2.1)]
    have t2 : pc_T Z1 (A + 3) = pc_T Z (A + 3) := by unfold pc_T; rw [zo (A + 3) hA2.2.2.1, y1 (A + 3) (Or.inr hA2.2.2.2)]
    have z17 : Z1 0 17 = 1 := by rw [z0, if_neg (by decide)]; exact h17
    have z16 : Z1 0 16 = 0 := by rw [z0, if_pos rfl]
    have hG1 : rl_G n B0 A Z1 := by
      refine ⟨Or.inl z16, Or.inr z17, fun _ => z17, fun _ => ?_⟩
      rcases y2 with ⟨q1, q2⟩ | ⟨q1, q2, N, gn, q3⟩
      · exact Or.inl ⟨by rw [zo 173 (by decide)]; exact q1, q2⟩
      · exact Or.inr ⟨by rw [zo 173 (by decide)]; exact q1, q2, N, gn, gr_full_cg q3 (fun q hq => zo q (by omega)), fun z => absurd z (by rw [z17]; decide)⟩
    obtain ⟨o, Z', E2, w1, w2, w3, w4⟩ := cls_33 hn2 hn4 hA (by rw [z0, if_neg (by decide)]; exact zA) hG1 z16 (by rw [t1]; exact hB) (by rw [t2]; exact hD) (by rw [t1, t2]; exact hr)
    rw [t1, t2] at w4
    exact ⟨o, Z', E2, fun q a b => by rw [w1 q a b, zo q a, y1 q (by omega)], fun j a b => by rw [w2 j a b, z0, if_neg a], w3, w4⟩
