/-! deeds, both sides: exchange, start, drift, undo, images -/
theorem pc_L229 : pc_L[229]? = some (0, 4) := by decide +kernel
theorem pc_placeNow (Z : Nat → Nat → Int) {A n i : Nat} {a : Int} (hS : pc_S A = true) (hA2 : 170 ≤ A) (hA : Z 0 13 = (A : Int)) (hA3 : A ≠ 229 ∧ A + 1 ≠ 229 ∧ A + 3 ≠ 229) (hn : Z (A + 1) 0 = (n : Int)) (hn4 : n ≤ 4) (ha : a = (i : Int)) (hi : i < n) (hD : mu_bd n (pc_T Z (A + 3))) : ∃ Y, f_LE_placeNow (pc_h Z) 0 a = some ((mu_pl n (pc_T Z (A + 3)) i : Int), pc_h Y) ∧ ∀ o, o ≠ 229 → Y o = Z o := by
  subst ha
  obtain ⟨s1, s2, -⟩ := pc_S_all A (pc_S_lt hS) hS
  obtain ⟨q0, -⟩ := pc_S_ref A (pc_S_lt hS) hS
  obtain ⟨g0, g1, g2, r0, r1, r2⟩ := pc_H_all (A + 1) (pc_H_lt s2) s2
  unfold f_LE_placeNow
  rw [pc_grv pc_L0 (by decide) pc_r0'.1 hA, pc_gr s1 (by decide) q0 (by omega), pc_get g0 (by decide) r0, hn]
  have hh := pl_inv (A := fun fu j Y => f_LE_placeNow_13 fu (pc_h Y) 0 (i : Int) (n : Int) (j : Int)) (out := fun Y => some ((mu_pl n (pc_T Z (A + 3)) i : Int), pc_h Y)) (Q := fun j Y => (∀ o, o ≠ 229 → Y o = Z o) ∧ ∀ c, c < j → Y 229 c = mu_cd (pc_T Z (A + 3)) c n) n (by omega) (fun j hj Y hQ fu => ?_) (fun fu Y hQ => ?_) Z ⟨fun _ _ => rfl, fun c hc => by omega⟩
  · obtain ⟨Y, ⟨h1, h2⟩, e⟩ := hh
    exact ⟨Y, e, h1⟩
  · have y0 : Y 0 13 = (A : Int) := by rw [hQ.1 0 (by decide)]; exact hA
    have y1 : Y (A + 1) 0 = (n : Int) := by rw [hQ.1 _ hA3.2.1]; exact hn
    have yT : pc_T Y (A + 1 + 2) = pc_T Z (A + 3) := by unfold pc_T; rw [show A + 1 + 2 = A + 3 by omega, hQ.1 _ hA3.2.2]
    have ci := mu_cd_i (D := pc_T Z (A + 3)) (i := j) hn4 (fun m hm => hD j hj m hm)
    show ∃ s', _ ∧ fb_LE_placeNow_13 (f_LE_placeNow_13 fu) _ _ _ _ _ = _
    unfold fb_LE_placeNow_13
    rw [pl_gi (by omega) (by omega), pl_gi (by omega) (by omega), if_pos (by omega), pc_gr pc_L0 (by decide) pc_r0.2.2.2.2.2.2.2.2.2.2.2.2 (by decide), pc_grv pc_L0 (by decide) pc_r0'.1 y0, pc_gr s1 (by decide) q0 (by omega), pc_cv g0, pc_code Y s2 y1 hn4 rfl (by omega), pl_call, yT, pc_ast (i := j) (Or.inl rfl) ci.1 pc_L229 rfl (by omega)]
    refine ⟨_, ⟨fun o ho => ?_, fun c hc => ?_⟩, rfl⟩
    · rw [gx_up_ne ho]; exact hQ.1 o ho
    · rw [gx_up_at]
      by_cases q : c = j
      · subst q; rw [if_pos rfl]
      · rw [if_neg q]; exact hQ.2 c (by omega)
  · show fb_LE_placeNow_13 (f_LE_placeNow_13 fu) _ _ _ _ _ = _
    unfold fb_LE_placeNow_13
    have e : mu_pa (Y 229) i n = mu_pl n (pc_T Z (A + 3)) i := by
      rw [mu_pl_pa hD hi]
      exact mu_pa_cg (fun j hj => hQ.2 j hj) hi n (Nat.le_refl _)
    rw [pl_gi (by omega) (by omega), pl_gi (by omega) (by omega), if_neg (by omega), pc_gr pc_L0 (by decide) pc_r0.2.2.2.2.2.2.2.2.2.2.2.2 (by decide), pc_placeAmong Y (n := n) (i := i) pc_L229 rfl rfl hn4 (by omega), pl_call, e]
theorem pc_takeSpare (Z : Nat → Nat → Int) {A P : Nat} (hA : Z 0 13 = (A : Int)) (hP : Z 0 14 = (P : Int)) : f_LE_takeSpare (pc_h Z) 0 = some (0, pc_h (gx_up (gx_up (gx_up Z 0 13 (P : Int)) 0 14 (A : Int)) 0 17 1)) := by
  unfold f_LE_takeSpare
  rw [pc_grv pc_L0 (by decide) pc_r0'.1 hA, pc_grv pc_L0 (by decide) pc_r0'.2.1 hP, pc_put trivial pc_L0 (by decide) pc_r0'.1, pc_put trivial pc_L0 (by decide) pc_r0'.2.1, pc_put trivial pc_L0 (by decide) pc_r0'.2.2.2.2]
/-- remembered, then what was tried is taken: both sides -/
theorem both_take {n A P K O len kb k : Nat} {B0 Z1 X1 Z0 X0 : Nat → Nat → Int} (hC : rl_C n B0 A P K O len kb Z1 X1) (hG : rl_G n B0 A Z1) (hk : k < n) (hnow : rl_st n B0 Z0 A X0 0) (ht : rl_tr n k A P Z0 Z1 X0 X1) (hc : 0 ≤ X1 1 1992 ∧ X1 1 1992 ≤ 99999) :
    ∃ (Z X : Nat → Nat → Int), f_LE_takeSpare (pc_h Z1) 0 = some (0, pc_h Z) ∧ f_MD_take (pm_h X1) 0 = some (0, pm_h X) ∧ rl_C n B0 P A K O len kb Z X ∧ rl_G n B0 P Z := by
  obtain ⟨⟨hn2, hn4, hX⟩, ⟨zA, zP, hp⟩, -, -, -, ⟨h6, h6a, h6b, h6c, h6d, h6e⟩, ⟨h7, h7a, h7b, h7c⟩, hs, -⟩ := id hC
  have e1 := pc_takeSpare Z1 zA zP
  have e2 := pm_take X1 hc
  generalize hZ : gx_up (gx_up (gx_up Z1 0 13 (P : Int)) 0 14 (A : Int)) 0 17 1 = Z at e1
  generalize hXX : gx_us X1 1 (fun j => if j = 72 then (if X1 1 1992 < 99999 then X1 1 1992 + 1 else 99999) else if j < 80 then X1 1 (1920 + j) else X1 1 j) = X at e2
  have zo : ∀ o, o ≠ 0 → Z o = Z1 o := fun o ho => by rw [← hZ, gx_up_ne ho, gx_up_ne ho, gx_up_ne ho]
  have z0 : ∀ j, Z 0 j = if j = 17 then 1 else if j = 14 then (A : Int) else if j = 13 then (P : Int) else Z1 0 j := fun j => by rw [← hZ, gx_up_at, gx_up_at, gx_up_at]
  have xo : ∀ o, o ≠ 1 → X o = X1 o := fun o ho => by rw [← hXX, gx_us_ne ho]
  have x1 : ∀ j, X 1 j = if j = 72 then (if X1 1 1992 < 99999 then X1 1 1992 + 1 else 99999) else if j < 80 then X1 1 (1920 + j) else X1 1 j := fun j => by rw [← hXX, gx_us_eq]
  have xh : ∀ j, 80 ≤ j → X 1 j = X1 1 j := fun j hj => by rw [x1, if_neg (by omega), if_neg (by omega)]
  have z17 : Z 0 17 = 1 := by rw [z0]; rfl
  have z16 : Z 0 16 = Z1 0 16 := by rw [z0]; rfl
  refine ⟨Z, X, e1, e2, rl_C_mk hC (fun o ho => zo o (by omega)) (fun o ho => xo o (by omega)) (fun j _ => by rw [xo 0 (by decide)]) (fun o a b => zo o (by omega)) (fun j a b => xh j (by omega)) ⟨by rw [z0]; rfl, by rw [z0]; rfl, by omega⟩ (rl_taken hn4 hk hnow ht (fun j hj => ?_) (fun o a b => zo o (by omega))) ⟨by rw [zo 8 (by decide)]; exact h6, h6a, by rw [zo 8 (by decide)]; exact h6b, by rw [xo 0 (by decide)]; exact h6c, h6d, fun e he => rl_st_cg hn4 (fun o a b => zo o (by omega)) (fun j a b => xh j (by omega)) (h6e e he)⟩ ⟨by rw [zo 227 (by decide)]; exact h7, by rw [zo 227 (by decide)]; exact h7a, by rw [zo 227 (by decide), xo 0 (by decide)]; exact h7b, fun i hi hk => ?_⟩ ?_, rl_G_old hG (fun o a b => zo o (by omega)) z16 z17⟩
  · rw [x1]
    by_cases c : j = 72
    · rw [if_pos c, if_pos c]
    · rw [if_neg c, if_neg c, if_pos hj]
  · rw [zo 227 (by decide)] at hk
    rw [zo 228 (by decide), xo 2 (by decide)]
    obtain ⟨q1, q2⟩ := h7c i hi hk
    exact ⟨rl_st_cg hn4 (fun o a b => zo o (by omega)) (fun j a b => xh j (by omega)) q1, q2⟩
  · rw [show Z 0 15 = Z1 0 15 by rw [z0]; rfl, xo 0 (by decide)]; exact hs
theorem rl_tr_mv {n k A P : Nat} {Z Z1 Z2 X X1 X2 : Nat → Nat → Int} (hn4 : n ≤ 4) (h : rl_tr n k A P Z Z1 X X1) (hz : ∀ o, P ≤ o → o < P + 8 → Z2 o = Z1 o) (hx : ∀ j, 1920 ≤ j → j < 2000 → X2 1 j = X1 1 j) : rl_tr n k A P Z Z2 X X2 := by
  obtain ⟨U, V, hR, can, ⟨m1, m2, m3, m4, m5, m6, m7, m8⟩, ⟨t1, t2, t3, t4, t5, t6, t7⟩⟩ := h
  have pz : ∀ d, d < 8 → pc_T Z2 (P + d) = pc_T Z1 (P + d) := fun d hd => by unfold pc_T; rw [hz _ (by omega) (by omega)]
  have px : ∀ c, 1920 ≤ c → c + 16 ≤ 2000 → mu_q n (pm_T X2 c) (pm_T X1 c) := fun c h1 h2 i hi j hj => hx _ (by omega) (by omega)
  refine ⟨U, V, hR, can, ⟨?_, ?_, ?_, ?_, ?_, fun i hi => ?_, fun i hi => ?_, ?_⟩, (px 1928 (by decide) (by decide)).trans t1, (px 1944 (by decide) (by decide)).trans t2, (px 1960 (by decide) (by decide)).trans t3, (px 1976 (by decide) (by decide)).trans t4, fun i hi => (hx _ (by omega) (by omega)).trans (t5 i hi), fun i hi => (hx _ (by omega) (by omega)).trans (t6 i hi), (hx _ (by decide) (by decide)).trans t7⟩
  · rw [hz _ (by omega) (by omega)]; exact m1
  · rw [pz 2 (by decide)]; exact m2
  · rw [pz 3 (by decide)]; exact m3
  · rw [pz 6 (by decide)]; exact m4
  · rw [pz 7 (by decide)]; exact m5
  · rw [hz _ (by omega) (by omega)]; exact m6 i hi
  · rw [hz _ (by omega) (by omega)]; exact m7 i hi
  · rw [hz P (by omega) (by omega)]; exact m8
theorem rl_z_fA {n A P K O len kb : Nat} {B0 Z X Z' : Nat → Nat → Int} (hC : rl_C n B0 A P K O len kb Z X) (h : pc_fA P Z Z') : rl_z P Z Z' := by
  have hp := hC.2.1.2.2
  exact ⟨fun o a b c d e f => h o b c d, fun j _ _ => by rw [h 0 (by decide) (by decide) (by omega)]⟩
theorem rl_G_fA {n A P K O len kb : Nat} {B0 Z X Z' : Nat → Nat → Int} (hC : rl_C n B0 A P K O len kb Z X) (hG : rl_G n B0 A Z) (h : pc_fA P Z Z') : rl_G n B0 A Z' := by
  have hp := hC.2.1.2.2
  have e0 : Z' 0 = Z 0 := h 0 (by decide) (by decide) (by omega)
  exact rl_G_cg hG (fun o a b => h o (by omega) (by omega) (by omega)) (by rw [e0]) (by rw [e0]) ⟨h _ (by omega) (by omega) (by omega), h _ (by omega) (by omega) (by omega)⟩
theorem pc_L8' : pc_L[8]? = some (6 + 3, 3) := pc_L8
theorem m_exchange {Z X : Nat → Nat → Int} {v : Int} (h : rl Z X) (hv : gx_i v) : rl_call (f_LE_exchange (pc_h Z) 0 v) (f_MD_exchange (pm_h X) 0 v) := by
  obtain ⟨n, B0, A, P, K, O, len, kb, hC, hG⟩ := h
  obtain ⟨⟨hn2, hn4, hX⟩, ⟨zA, zP, hp⟩, -, hnow, -⟩ := id hC
  have hS : pc_S A = true := by rcases hp with q | q <;> rw [q.1] <;> decide
  unfold f_LE_exchange f_MD_exchange
  rw [pc_cv pc_L0, pc_noLetter Z hS zA hnow.1.1 hv, pl_call, pm_cv, pm_isLetter X hX hn4 hv, pl_call]
  by_cases c : 0 ≤ v ∧ v < (n : Int)
  · obtain ⟨k, hk⟩ : ∃ k : Nat, v = (k : Int) := ⟨v.toNat, by omega⟩
    subst hk
    have hk : k < n := by omega
    rw [if_pos c, if_pos c, pl_gi (by decide) (by decide), if_pos rfl, pl_gi (by decide) (by decide), if_neg (by decide), pc_cv pc_L0, pm_cv]
    obtain ⟨fl, Z1, X1, e1, e2, fA, S1, hd⟩ := both_try hC rfl hk
    rw [e1, e2, pl_call, pl_call]
    have hC1 := rl_C_S (rl_C_z hC (rl_z_fA hC fA)) S1
    have hG1 := rl_G_fA hC hG fA
    rcases hd with f0 | ⟨f1, tr⟩
    · rw [f0, pl_gi (by decide) (by decide), if_pos rfl, if_pos rfl]
      exact ⟨_, Z1, X1, rfl, rfl, n, B0, A, P, K, O, len, kb, hC1, hG1⟩
    · obtain ⟨-, ⟨zA1, zP1, -⟩, -⟩ := id hC1
      rw [f1, pl_gi (by decide) (by decide), if_neg (by decide), if_neg (by decide), pc_gr pc_L0 (by decide) pc_r0.2.2.2.1 (by decide), pc_grv pc_L0 (by decide) pc_r0'.1 zA1, pc_cv pc_L8, pm_cv]
      obtain ⟨Z2, X2, K', O', e3, e4, hC2, zo, xo, x0, x1⟩ := both_rem hC1
      rw [e3, e4, pl_call, pl_call, pc_cv pc_L0, pm_cv]
      have hG2 : rl_G n B0 A Z2 := rl_G_cg hG1 (fun o a b => zo o (by omega)) (by rw [zo 0 (by decide)]) (by rw [zo 0 (by decide)]) ⟨zo _ (by omega), zo _ (by omega)⟩
      have tr2 : rl_tr n k A P Z Z2 X X2 := rl_tr_mv hn4 tr (fun o a b => zo o (by omega)) (fun j a b => x1 j (by omega))
      have cnt : 0 ≤ X2 1 1992 ∧ X2 1 1992 ≤ 99999 := by
        obtain ⟨U, V, hR, -, -, -, -, -, -, -, -, t7⟩ := tr2
        rw [t7]
        exact hR.2.2.2.2.2
      obtain ⟨Z3, X3, e5, e6, hC3, hG3⟩ := both_take hC2 hG2 hk hnow tr2 cnt
      rw [e5, e6, pl_call, pl_call, pc_cv pc_L0, pm_cv]
      obtain ⟨⟨-, -, hX3⟩, ⟨zA3, zP3, hp3⟩, -, ⟨hE3, hV3⟩, -⟩ := id hC3
      have hSP : pc_S P = true := by rcases hp with q | q <;> rw [q.2] <;> decide
      obtain ⟨⟨U, V, hR3⟩, -⟩ := id hV3
      obtain ⟨Y, e7, yo⟩ := pc_placeNow Z3 (A := P) (n := n) (i := k) hSP (by omega) zA3 (by omega) hE3.1 hn4 rfl hk ((mu_q_bd hE3.2.2.1).mpr hR3.2.1)
      rw [e7, pl_call, pm_placeOf X3 (a := 0) (x := 0) (i := k) hX3 hn4 rfl rfl (by omega) (by decide), pl_call, mu_pl_q hE3.2.2.1 hk]
      refine ⟨_, Y, X3, rfl, rfl, n, B0, P, A, K', O', len, kb, rl_C_z hC3 ⟨fun o _ _ _ _ _ f => yo o f, fun j _ _ => by rw [yo 0 (by decide)]⟩, rl_G_cg hG3 (fun o a b => yo o (by omega)) (by rw [yo 0 (by decide)]) (by rw [yo 0 (by decide)]) ⟨yo _ (by omega), yo _ (by omega)⟩⟩
  · rw [if_neg c, if_neg c, pl_gi (by decide) (by decide), if_neg (by decide), pl_gi (by decide) (by decide), if_pos rfl]
    exact ⟨_, Z, X, rfl, rfl, n, B0, A, P, K, O, len, kb, hC, hG⟩
/-- now becomes another that is kept -/
theorem both_now {n A P K O len kb K' S x : Nat} {B0 Z X Z' X' : Nat → Nat → Int} (hC : rl_C n B0 A P K O len kb Z X) (hG : rl_G n B0 A Z) (hK : K' ≤ K) (hst : rl_st n B0 Z S X x) (z1 : ∀ o, o ≠ 0 → o ≠ 8 → (o < A ∨ A + 8 ≤ o) → Z' o = Z o) (z0 : ∀ j, j ≠ 15 → j ≠ 17 → Z' 0 j = Z 0 j) (z17 : Z' 0 17 = 1) (z8 : Z' 8 1 = Z 8 1 ∧ Z' 8 2 = (K' : Int)) (zc : pc_eq Z S Z' A) (x1 : ∀ j, 80 ≤ j → X' 1 j = X 1 j) (xc : ∀ j, j < 80 → X' 1 j = X 1 (x + j)) (xo : ∀ o, o ≠ 0 → o ≠ 1 → X' o = X o) (x0 : ∀ j, j ≠ 2 → j ≠ 4 → X' 0 j = X 0 j) (xK : X' 0 2 = (K' : Int)) (hs : Z' 0 15 = X' 0 4 ∧ 0 ≤ X' 0 4 ∧ X' 0 4 < 2147483648) : rl Z' X' := by
  obtain ⟨⟨hn2, hn4, hX⟩, ⟨zA, zP, hp⟩, -, -, -, ⟨h6, h6a, h6b, h6c, h6d, h6e⟩, ⟨h7, h7a, h7b, h7c⟩, -, -⟩ := id hC
  have e7 : Z' 227 = Z 227 := z1 227 (by decide) (by decide) (by omega)
  refine ⟨n, B0, A, P, K', O, len, kb, rl_C_mk hC (fun o ho => z1 o (by omega) (by omega) (by omega)) (fun o ho => xo o (by omega) (by omega)) (fun j hj => x0 j (by omega) (by omega)) (fun o a b => z1 o (by omega) (by omega) (by omega)) (fun j a b => x1 j (by omega)) ⟨(z0 13 (by decide) (by decide)).trans zA, (z0 14 (by decide) (by decide)).trans zP, hp⟩ (rl_st_copy hn4 zc (fun j hj => by rw [Nat.zero_add]; exact xc j hj) hst) ⟨z8.1.trans h6, h6a, z8.2, xK, by omega, fun e he => rl_st_cg hn4 (fun o a b => z1 o (by omega) (by omega) (by omega)) (fun j a b => x1 j (by omega)) (h6e e (by omega))⟩ ⟨by rw [e7]; exact h7, by rw [e7]; exact h7a, by rw [e7, x0 3 (by decide) (by decide)]; exact h7b, fun i hi hk => ?_⟩ hs, rl_G_old hG (fun o a b => z1 o (by omega) (by omega) (by omega)) (z0 16 (by decide) (by decide)) z17⟩
  rw [e7] at hk
  rw [z1 228 (by decide) (by decide) (by omega), xo 2 (by decide) (by decide)]
  obtain ⟨q1, q2⟩ := h7c i hi hk
  exact ⟨rl_st_cg hn4 (fun o a b => z1 o (by omega) (by omega) (by omega)) (fun j a b => x1 j (by omega)) q1, q2⟩
theorem m_start {Z X : Nat → Nat → Int} (h : rl Z X) : rl_call (f_LE_start (pc_h Z) 0) (f_MD_start (pm_h X) 0) := by
  obtain ⟨n, B0, A, P, K, O, len, kb, hC, hG⟩ := h
  obtain ⟨⟨hn2, hn4, hX⟩, ⟨zA, zP, hp⟩, -, hnow, -⟩ := id hC
  have hS : pc_S A = true := by rcases hp with q | q <;> rw [q.1] <;> decide
  obtain ⟨s1, s2, -⟩ := pc_S_all A (pc_S_lt hS) hS
  obtain ⟨-, -, -, -, -, q5⟩ := pc_S_ref A (pc_S_lt hS) hS
  obtain ⟨Z2, X2, K', O', e3, e4, hC2, zo, xo, x0, x1⟩ := both_rem hC
  obtain ⟨-, ⟨zA2, zP2, -⟩, -, hnow2, hF2, hh2, -, hs2, -⟩ := id hC2
  have hG2 : rl_G n B0 A Z2 := rl_G_cg hG (fun o a b => zo o (by omega)) (by rw [zo 0 (by decide)]) (by rw [zo 0 (by decide)]) ⟨zo _ (by omega), zo _ (by omega)⟩
  obtain ⟨Z3, e5, z3, zeq⟩ := pc_copyS Z2 (A := A) (S := 202) hS pc_SA.2.2.1 (by omega)
  unfold f_LE_start f_MD_start
  rw [pc_grv pc_L0 (by decide) pc_r0'.1 zA, pc_get s1 (by decide) q5, pc_gr pc_L0 (by decide) pc_r0.2.2.2.1 (by decide), pc_grv pc_L0 (by decide) pc_r0'.1 zA, pc_cv pc_L8, e3, pl_call, pc_grv pc_L0 (by decide) pc_r0'.1 zA2, pc_gr pc_L0 (by decide) pc_r0.2.2.2.2.2.2.2.2.1 (by decide), pc_cv s1, e5, pl_call, pc_put trivial pc_L0 (by decide) pc_r0'.2.2.2.2, pm_cv, e4, pl_call, pm_gr (t := 1) (by decide) rfl (by decide), pm_ald (a := 72) (o := 1) (i := 72) rfl (by decide), pm_cv, pm_copy X2 (a := 1840) (b := 0) (x := 1840) (y := 0) rfl rfl (by decide) (by decide) (by decide), pl_call, hnow.1.2.2.2.2.2.2, x1 72 (by decide)]
  have w : ∀ o, o ≠ 0 → gx_up Z3 0 17 1 o = Z3 o := fun o ho => gx_up_ne ho
  refine ⟨_, _, _, rfl, rfl, both_now hC2 hG2 (Nat.le_refl _) hF2 (fun o a b c => ?_) (fun j a b => ?_) (by rw [gx_up_at, if_pos rfl]) ⟨?_, ?_⟩ ?_ (fun j hj => ?_) (fun j hj => ?_) (fun o a b => gx_us_ne b) (fun j _ _ => by rw [gx_us_ne (by decide)]) (by rw [gx_us_ne (by decide)]; exact hh2.2.2.2.1) ?_⟩
  · rw [w o a, z3 o c]
  · rw [gx_up_at, if_neg b, z3 0 (by omega)]
  · rw [w 8 (by decide), z3 8 (by omega)]
  · rw [w 8 (by decide), z3 8 (by omega)]; exact hh2.2.2.1
  · obtain ⟨c0, c1, c2, c3, c4, c5, c6, c7⟩ := zeq
    refine ⟨?_, ?_, ?_, ?_, ?_, ?_, ?_, ?_⟩
    · rw [w _ (by omega)]; exact c0
    · rw [w _ (by omega)]; exact c1
    · rw [w _ (by omega)]; exact c2
    · rw [w _ (by omega)]; exact c3
    · rw [w _ (by omega)]; exact c4
    · rw [w _ (by omega)]; exact c5
    · rw [w _ (by omega)]; exact c6
    · rw [w _ (by omega)]; exact c7
  · rw [gx_us_eq]
    unfold pm_cp
    rw [if_neg (by omega)]
  · rw [gx_us_eq]
    unfold pm_cp
    rw [if_pos (by omega), Nat.sub_zero]
  · rw [gx_up_at, if_neg (by decide), z3 0 (by omega), gx_us_ne (by decide)]; exact hs2
theorem m_undo {Z X : Nat → Nat → Int} {v : Int} (h : rl Z X) (hv : gx_i v) : rl_call (f_LE_undo (pc_h Z) 0 v) (f_MD_undo (pm_h X) 0 v) := by
  obtain ⟨n, B0, A, P, K, O, len, kb, hC, hG⟩ := h
  obtain ⟨⟨hn2, hn4, hX⟩, ⟨zA, zP, hp⟩, -, hnow, -, ⟨h6, h6a, h6b, h6c, h6d, h6e⟩, -, hs, -⟩ := id hC
  have hS : pc_S A = true := by rcases hp with q | q <;> rw [q.1] <;> decide
  obtain ⟨s1, s2, -⟩ := pc_S_all A (pc_S_lt hS) hS
  obtain ⟨-, -, -, -, -, q5⟩ := pc_S_ref A (pc_S_lt hS) hS
  have stay : ∀ r, rl_call (some (r, pc_h Z)) (some (r, pm_h X)) := fun r => ⟨r, Z, X, rfl, rfl, n, B0, A, P, K, O, len, kb, hC, hG⟩
  unfold f_LE_undo f_MD_undo
  rw [gq_g_ok hv, pm_in _ hv (by decide) (by decide), pl_call]
  by_cases c : v < 1
  · rw [if_pos c, if_neg (by omega), pl_gi (by decide) (by decide), if_pos rfl]
    exact stay _
  rw [if_neg c]
  by_cases c2 : 20 < v
  · rw [if_pos c2, if_neg (by omega), pl_gi (by decide) (by decide), if_pos rfl]
    exact stay _
  rw [if_neg c2, if_pos (show (1 : Int) ≤ v ∧ v ≤ 20 by omega), pl_gi (by decide) (by decide), if_neg (by decide), pc_gr pc_L0 (by decide) pc_r0.2.2.2.1 (by decide), pc_get pc_L8 (by decide) pc_r8.2.2, h6b, pm_get (by decide) rfl, h6c, gq_g_ok hv]
  by_cases d : (K : Int) < v
  · rw [if_pos d, if_pos d]
    exact stay _
  obtain ⟨m, hm⟩ : ∃ m : Nat, v = (m : Int) := ⟨v.toNat, by omega⟩
  subst hm
  obtain ⟨Z3, e5, z3, zeq, z81, z82⟩ := pc_takeBack Z (S := A) (O := O) (K := K) (m := m) hS (by omega) h6 h6a h6b h6d rfl (by omega) (by omega)
  have zA3 : Z3 0 13 = (A : Int) := by rw [z3 0 (by decide) (by omega)]; exact zA
  have hst := h6e (K - m) (by omega)
  have cnt : Z3 A 5 = X 1 (80 * (K - m + 1) + 72) := by
    rw [zeq.2.2.2.2.2.2.2]
    exact hst.1.2.2.2.2.2.2
  rw [if_neg d, if_neg d, pc_gr pc_L0 (by decide) pc_r0.2.2.2.1 (by decide), pc_grv pc_L0 (by decide) pc_r0'.1 zA, pc_cv pc_L8, e5, pl_call, pc_put trivial pc_L0 (by decide) pc_r0'.2.2.2.2, pc_grv pc_L0 (by decide) pc_r0'.1 (by rw [gx_up_at, if_neg (by decide)]; exact zA3), pc_get s1 (by decide) q5, gx_up_ne (by omega), cnt, pm_get (by decide) rfl, h6c, pm_put ⟨by omega, by omega⟩ (by decide) rfl, pm_get (by decide) rfl, gx_up_at, if_pos rfl, pm_cv, pm_copy _ (b := 0) (x := 80 * (K - m + 1)) (y := 0) (by omega) rfl (by omega) (by omega) (by omega), pl_call, pm_gr (t := 1) (by decide) rfl (by decide), pm_ald (a := 72) (o := 1) (i := 72) rfl (by decide), gx_us_eq, show pm_cp (gx_up X 0 2 ((K : Int) - (m : Int)) 1) (80 * (K - m + 1)) 0 80 72 = X 1 (80 * (K - m + 1) + 72) by unfold pm_cp; rw [if_pos (by decide), gx_up_ne (by decide)]]
  have w : ∀ o, o ≠ 0 → gx_up Z3 0 17 1 o = Z3 o := fun o ho => gx_up_ne ho
  refine ⟨_, _, _, rfl, rfl, both_now hC hG (Nat.sub_le K m) hst (fun o a b c => ?_) (fun j a b => ?_) (by rw [gx_up_at, if_pos rfl]) ⟨?_, ?_⟩ ?_ (fun j hj => ?_) (fun j hj => ?_) (fun o a b => by rw [gx_us_ne b, gx_up_ne a]) (fun j a b => by rw [gx_us_ne (by decide), gx_up_at, if_neg a]) ?_ ?_⟩
  · rw [w o a, z3 o b c]
  · rw [gx_up_at, if_neg b, z3 0 (by decide) (by omega)]
  · rw [w 8 (by decide), z81, h6]
  · rw [w 8 (by decide)]; exact z82
  · obtain ⟨c0, c1, c2, c3, c4, c5, c6, c7⟩ := zeq
    refine ⟨?_, ?_, ?_, ?_, ?_, ?_, ?_, ?_⟩
    · rw [w _ (by omega)]; exact c0
    · rw [w _ (by omega)]; exact c1
    · rw [w _ (by omega)]; exact c2
    · rw [w _ (by omega)]; exact c3
    · rw [w _ (by omega)]; exact c4
    · rw [w _ (by omega)]; exact c5
    · rw [w _ (by omega)]; exact c6
    · rw [w _ (by omega)]; exact c7
  · rw [gx_us_eq]
    unfold pm_cp
    rw [if_neg (by omega), gx_up_ne (by decide)]
  · rw [gx_us_eq]
    unfold pm_cp
    rw [if_pos (by omega), Nat.sub_zero, gx_up_ne (by decide)]
  · rw [gx_us_ne (by decide), gx_up_at, if_pos rfl]; omega
  · rw [gx_up_at, if_neg (by decide), z3 0 (by decide) (by omega), gx_us_ne (by decide), gx_up_at, if_neg (by decide)]; exact hs
