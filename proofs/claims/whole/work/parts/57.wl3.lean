/-! the reference walks: the whole walk -/
def wl_A (n : Nat) (X : Nat → Nat → Int) (N : Nat) (nd : Nat → st_t) (fr bw : Nat → Nat) (ld : Nat → Nat → Nat) (s k : Nat) : Prop :=
  X 0 22 = (N : Int) ∧ N ≤ 200 ∧ bf_P n N nd fr bw ld s k ∧ (∀ t, t < N → st_E n (wl_nd X t) (nd t) ∧ mu_bd n (nd t).1 ∧ mu_bd n (nd t).2 ∧ mu_mi n (nd t).1 ∧ 0 ≤ X 10 t ∧ X 10 t ≤ (t : Int)) ∧
  (∀ s' k', bf_lx s' k' s k → k' < n → X 9 (4 * s' + k') = (ld s' k' : Int) ∧ mu_bd n (st_mv n (nd s') k').2) ∧ X 10 0 = 0 ∧ X 11 0 = -1 ∧ X 12 0 = -1 ∧ ∀ t, 0 < t → t < N → X 11 t = (fr t : Int) ∧ X 12 t = (bw t : Int) ∧ X 10 t = X 10 (fr t) + 1
theorem st_cn_bd {n : Nat} {a : st_t} (hn : 0 < n) (h1 : mu_bd n a.1) (h2 : mu_bd n a.2) : mu_bd n (st_cn n a).1 ∧ mu_bd n (st_cn n a).2 :=
  ⟨fun _ _ _ _ => h1 _ (mu_rk_lt n _ _ hn) _ (mu_rk_lt n _ _ hn), fun _ _ m hm => h2 _ (mu_rk_lt n _ _ hn) m hm⟩
theorem wl_A_old {n N s k r : Nat} {X Y : Nat → Nat → Int} {nd : Nat → st_t} {fr bw : Nat → Nat} {ld : Nat → Nat → Nat} (hn4 : n ≤ 4) (h : wl_A n X N nd fr bw ld s k) (hs : s < N) (hk : k < n) (hf : wl_fr X Y N s k) (hb2 : mu_bd n (st_mv n (wl_nd X s) k).2) (hr : r < N) (he : st_E n (st_go n (wl_nd X s) k) (wl_nd X r)) (h9 : Y 9 (4 * s + k) = (r : Int)) (h22 : Y 0 22 = (N : Int)) : wl_A n Y N nd fr bw (bf_ld ld s k r) s (k + 1) := by
  obtain ⟨a1, a2, a3, a4, a5, a6, a7, a8, a9⟩ := h
  have e : st_E n (st_go n (nd s) k) (nd r) := (st_go_E (a4 s hs).1 hk).symm.trans (he.trans (a4 r hr).1)
  refine ⟨h22, a2, bf_old a3 hs hr e, fun t ht => ?_, fun s' k' hl hk' => ?_, ?_, ?_, ?_, fun t h1 h2 => ?_⟩
  · obtain ⟨b1, b2, b3, b4, b5⟩ := a4 t ht
    rw [(hf.2.2 t (by omega)).1]
    exact ⟨(wl_fr_nd hn4 hf ht).trans b1, b2, b3, b4, b5⟩
  · by_cases c : s' = s ∧ k' = k
    · obtain ⟨e1, e2⟩ := c
      subst e1 e2
      rw [bf_ld_at]
      exact ⟨h9, (mu_q_bd (st_mv_E (a4 s' hs).1 hk).2).mp hb2⟩
    · have hl' : bf_lx s' k' s k := by unfold bf_lx at *; omega
      rw [bf_ld_lx hl', hf.2.1 _ (by omega)]
      exact a5 s' k' hl' hk'
  · rw [(hf.2.2 0 (by omega)).1]; exact a6
  · rw [(hf.2.2 0 (by omega)).2.1]; exact a7
  · rw [(hf.2.2 0 (by omega)).2.2]; exact a8
  · have q := (a3.2.2.1 t h1 h2).1
    rw [(hf.2.2 t (by omega)).1, (hf.2.2 t (by omega)).2.1, (hf.2.2 t (by omega)).2.2, (hf.2.2 (fr t) (by omega)).1]
    exact a9 t h1 h2
theorem wl_A_new {n N s k : Nat} {X Y : Nat → Nat → Int} {nd : Nat → st_t} {fr bw : Nat → Nat} {ld : Nat → Nat → Nat} (hn4 : n ≤ 4) (h : wl_A n X N nd fr bw ld s k) (hs : s < N) (hk : k < n) (hf : wl_fr X Y N s k) (hN : N < 200) (hb1 : mu_bd n (st_mv n (wl_nd X s) k).1) (hb2 : mu_bd n (st_mv n (wl_nd X s) k).2) (hm : mu_mi n (st_go n (wl_nd X s) k).1) (hnew : ∀ r, r < N → ¬ st_E n (st_go n (wl_nd X s) k) (wl_nd X r)) (he : st_E n (wl_nd Y N) (st_go n (wl_nd X s) k)) (h9 : Y 9 (4 * s + k) = (N : Int)) (h10 : Y 10 N = X 10 s + 1) (h11 : Y 11 N = (s : Int)) (h12 : Y 12 N = (k : Int)) (h22 : Y 0 22 = ((N + 1 : Nat) : Int)) : wl_A n Y (N + 1) (bf_u1 nd N (st_go n (nd s) k)) (bf_u1 fr N s) (bf_u1 bw N k) (bf_ld ld s k N) s (k + 1) := by
  obtain ⟨a1, a2, a3, a4, a5, a6, a7, a8, a9⟩ := h
  have g := st_go_E (k := k) (a4 s hs).1 hk
  have m := st_mv_E (k := k) (a4 s hs).1 hk
  have hN0 := a3.1
  refine ⟨h22, by omega, bf_new a3 hs hk st_E.rf (fun r hr z => hnew r hr (g.trans (z.trans (a4 r hr).1.symm))), fun t ht => ?_, fun s' k' hl hk' => ?_, ?_, ?_, ?_, fun t h1 h2 => ?_⟩
  · by_cases c : t = N
    · subst c
      have w := (a4 s hs).2.2.2.2
      have bd := st_cn_bd (by omega) ((mu_q_bd m.1).mp hb1) ((mu_q_bd m.2).mp hb2)
      rw [bf_u1_at, h10]
      exact ⟨he.trans g, bd.1, bd.2, (mu_mi_q g.1).mp hm, by omega, by omega⟩
    · obtain ⟨b1, b2, b3, b4, b5⟩ := a4 t (by omega)
      rw [bf_u1_ne c, (hf.2.2 t c).1]
      exact ⟨(wl_fr_nd hn4 hf (by omega)).trans b1, b2, b3, b4, b5⟩
  · by_cases c : s' = s ∧ k' = k
    · obtain ⟨e1, e2⟩ := c
      subst e1 e2
      rw [bf_ld_at, bf_u1_ne (by omega)]
      exact ⟨h9, (mu_q_bd m.2).mp hb2⟩
    · have hl' : bf_lx s' k' s k := by unfold bf_lx at *; omega
      rw [bf_ld_lx hl', hf.2.1 _ (by omega), bf_u1_ne (by unfold bf_lx at hl'; omega)]
      exact a5 s' k' hl' hk'
  · rw [(hf.2.2 0 (by omega)).1]; exact a6
  · rw [(hf.2.2 0 (by omega)).2.1]; exact a7
  · rw [(hf.2.2 0 (by omega)).2.2]; exact a8
  · by_cases c : t = N
    · subst c
      rw [bf_u1_at, bf_u1_at, h10, h11, h12, (hf.2.2 s (by omega)).1]
      exact ⟨rfl, rfl, rfl⟩
    · have q := (a3.2.2.1 t h1 (by omega)).1
      rw [bf_u1_ne c, bf_u1_ne c, (hf.2.2 t c).1, (hf.2.2 t c).2.1, (hf.2.2 t c).2.2, (hf.2.2 (fr t) (by omega)).1]
      exact a9 t h1 (by omega)
theorem wl_A_row {n N s : Nat} {X : Nat → Nat → Int} {nd : Nat → st_t} {fr bw : Nat → Nat} {ld : Nat → Nat → Nat} (h : wl_A n X N nd fr bw ld s n) : wl_A n X N nd fr bw ld (s + 1) 0 := by
  obtain ⟨a1, a2, a3, a4, a5, a6⟩ := h
  exact ⟨a1, a2, bf_row a3, a4, fun s' k' hl hk' => a5 s' k' (by unfold bf_lx at *; omega) hk', a6⟩
/-- why a walk has no end -/
def wl_no (n : Nat) (a : st_t) : Prop := ∃ (N : Nat) (nd : Nat → st_t) (fr bw : Nat → Nat) (ld : Nat → Nat → Nat) (s k : Nat), bf_P n N nd fr bw ld s k ∧ s < N ∧ k < n ∧ N ≤ 200 ∧ st_E n (nd 0) (st_cn n a) ∧ (¬ (mu_bd n (st_mv n (nd s) k).1 ∧ mu_bd n (st_mv n (nd s) k).2) ∨ ¬ mu_mi n (st_go n (nd s) k).1 ∨ (N = 200 ∧ ∀ r, r < N → ¬ st_E n (st_go n (nd s) k) (nd r)))
abbrev mu_well (n : Nat) (B : Nat → Nat → Int) : Prop := ∃ m, m < 9 ^ n ∧ mu_wt n B (mu_dg n m)
def wl_open (n : Nat) (a : st_t) : Prop := ¬ mu_well n a.1 ∨ ¬ mu_mi n (st_cn n a).1 ∨ wl_no n a
def wl_done (n : Nat) (a : st_t) (Y : Nat → Nat → Int) : Prop := ∃ (N : Nat) (nd : Nat → st_t) (fr bw : Nat → Nat) (ld : Nat → Nat → Nat), wl_A n Y N nd fr bw ld N 0 ∧ st_E n (nd 0) (st_cn n a)
def wl_end (n : Nat) (a : st_t) (X : Nat → Nat → Int) (x : Option (Int × gx_H)) : Prop := ∃ (fl : Int) (Y : Nat → Nat → Int), x = some (fl, pm_h Y) ∧ pm_S X Y ∧ ((fl = 0 ∧ wl_no n a) ∨ (fl = 1 ∧ wl_done n a Y))
theorem pm_walk_in (X0 X : Nat → Nat → Int) {n N s : Nat} {a : st_t} {nd : Nat → st_t} {fr bw : Nat → Nat} {ld : Nat → Nat → Nat} (hn4 : n ≤ 4) (hn2 : 2 ≤ n) (hX : X0 0 1 = (n : Int)) (hS : pm_S X0 X) (h : wl_A n X N nd fr bw ld s 0) (hs : s < N) (h0 : st_E n (nd 0) (st_cn n a)) (fu : Nat) :
    wl_end n a X0 (f_MD_walk_56 (f_MD_walk_46 fu) gx_fu (pm_h X) 0 (s : Int) 0) ∨ ∃ (N' : Nat) (nd' : Nat → st_t) (fr' bw' : Nat → Nat) (ld' : Nat → Nat → Nat) (Y : Nat → Nat → Int), wl_A n Y N' nd' fr' bw' ld' (s + 1) 0 ∧ s < N' ∧ st_E n (nd' 0) (st_cn n a) ∧ pm_S X0 Y ∧ f_MD_walk_56 (f_MD_walk_46 fu) gx_fu (pm_h X) 0 (s : Int) 0 = f_MD_walk_46 fu (pm_h Y) 0 ((s + 1 : Nat) : Int) := by
  refine pl_invF (A := fun gu k Y => f_MD_walk_56 (f_MD_walk_46 fu) gu (pm_h Y) 0 (s : Int) (k : Int)) (Q := fun k Y => pm_S X0 Y ∧ ∃ (N' : Nat) (nd' : Nat → st_t) (fr' bw' : Nat → Nat) (ld' : Nat → Nat → Nat), wl_A n Y N' nd' fr' bw' ld' s k ∧ s < N' ∧ st_E n (nd' 0) (st_cn n a)) (F := fun x => wl_end n a X0 x ∨ ∃ (N' : Nat) (nd' : Nat → st_t) (fr' bw' : Nat → Nat) (ld' : Nat → Nat → Nat) (Y : Nat → Nat → Int), wl_A n Y N' nd' fr' bw' ld' (s + 1) 0 ∧ s < N' ∧ st_E n (nd' 0) (st_cn n a) ∧ pm_S X0 Y ∧ x = f_MD_walk_46 fu (pm_h Y) 0 ((s + 1 : Nat) : Int)) n (by omega) (fun k Y hk hQ gu => ?_) X ⟨hS, N, nd, fr, bw, ld, h, hs, h0⟩
  obtain ⟨hSY, N', nd', fr', bw', ld', hA, hs', h0'⟩ := hQ
  have y1 : Y 0 1 = (n : Int) := (hSY.2.2 1 (Or.inl rfl)).trans hX
  show _ ∨ (_ ∧ ∃ s', _ ∧ fb_MD_walk_56 (f_MD_walk_46 fu) (f_MD_walk_56 (f_MD_walk_46 fu) gu) _ _ _ _ = _)
  by_cases c : k < n
  · obtain ⟨b1, b2, b3, b4, b5, b6⟩ := hA.2.2.2.1 s hs'
    have hN2 := hA.2.1
    obtain ⟨fl, Y', e, S', hc⟩ := pm_leadOn Y (N := N') (s := s) (k := k) y1 hn4 hn2 rfl rfl hA.1 hN2 hs' c ((mu_q_bd b1.1).mpr b2) ((mu_q_bd b1.2).mpr b3) ⟨b5, by omega⟩
    have go := st_go_E (k := k) b1 c
    have mv := st_mv_E (k := k) b1 c
    have run : fb_MD_walk_56 (f_MD_walk_46 fu) (f_MD_walk_56 (f_MD_walk_46 fu) gu) (pm_h Y) 0 (s : Int) (k : Int) = gq_g (gx_i fl) (if fl = 0 then some (0, pm_h Y') else f_MD_walk_56 (f_MD_walk_46 fu) gu (pm_h Y') 0 (s : Int) ((k : Int) + 1)) := by
      unfold fb_MD_walk_56
      rw [pm_get (by decide) rfl, y1, pl_gi (by omega) (by omega), if_pos (by omega), pm_cv, e, pl_call]
    rcases hc with ⟨f0, hc⟩ | ⟨f1, o1, o2, hf, hc⟩
    · left
      show wl_end n a X0 (fb_MD_walk_56 (f_MD_walk_46 fu) (f_MD_walk_56 (f_MD_walk_46 fu) gu) (pm_h Y) 0 (s : Int) (k : Int)) ∨ _
      left
      rw [run, f0, pl_gi (by decide) (by decide), if_pos rfl]
      refine ⟨0, Y', rfl, hSY.trans S', Or.inl ⟨rfl, N', nd', fr', bw', ld', s, k, hA.2.2.1, hs', c, hN2, h0', ?_⟩⟩
      rcases hc with q | q | ⟨q1, q2⟩
      · exact Or.inl fun z => q ⟨(mu_q_bd mv.1).mpr z.1, (mu_q_bd mv.2).mpr z.2⟩
      · exact Or.inr (Or.inl fun z => q ((mu_mi_q go.1).mpr z))
      · exact Or.inr (Or.inr ⟨q1, fun r hr z => q2 r hr (go.trans (z.trans (hA.2.2.2.1 r hr).1.symm))⟩)
    · right
      refine ⟨c, Y', ⟨hSY.trans S', ?_⟩, ?_⟩
      · rcases hc with ⟨r, hr, q1, q2, q3⟩ | ⟨q1, q2, q3, q4, q5, q6, q7, q8, q9⟩
        · exact ⟨N', nd', fr', bw', _, wl_A_old hn4 hA hs' c hf o2 hr q1 q2 q3, hs', h0'⟩
        · refine ⟨N' + 1, _, _, _, _, wl_A_new hn4 hA hs' c hf q1 o1 o2 q2 q3 q4 q5 q6 q7 q8 q9, by omega, ?_⟩
          rw [bf_u1_ne (by have := hA.2.2.1.1; omega)]
          exact h0'
      · rw [run, f1, pl_gi (by decide) (by decide), if_neg (by decide)]
        rfl
  · have ek : k = n := by omega
    subst ek
    left
    show _ ∨ ∃ (N' : Nat) (nd' : Nat → st_t) (fr' bw' : Nat → Nat) (ld' : Nat → Nat → Nat) (Y' : Nat → Nat → Int), wl_A k Y' N' nd' fr' bw' ld' (s + 1) 0 ∧ s < N' ∧ st_E k (nd' 0) (st_cn k a) ∧ pm_S X0 Y' ∧ fb_MD_walk_56 (f_MD_walk_46 fu) (f_MD_walk_56 (f_MD_walk_46 fu) gu) (pm_h Y) 0 (s : Int) (k : Int) = f_MD_walk_46 fu (pm_h Y') 0 ((s + 1 : Nat) : Int)
    right
    refine ⟨N', nd', fr', bw', ld', Y, wl_A_row hA, hs', h0', hSY, ?_⟩
    unfold fb_MD_walk_56
    rw [pm_get (by decide) rfl, y1, pl_gi (by omega) (by omega), if_neg (by omega)]
    rfl
theorem pm_walk_out (X0 X : Nat → Nat → Int) {n N : Nat} {a : st_t} {nd : Nat → st_t} {fr bw : Nat → Nat} {ld : Nat → Nat → Nat} (hn4 : n ≤ 4) (hn2 : 2 ≤ n) (hX : X0 0 1 = (n : Int)) (hS : pm_S X0 X) (h : wl_A n X N nd fr bw ld 0 0) (h0 : st_E n (nd 0) (st_cn n a)) : wl_end n a X0 (f_MD_walk_46 gx_fu (pm_h X) 0 0) := by
  refine pl_invF (A := fun fu s Y => f_MD_walk_46 fu (pm_h Y) 0 (s : Int)) (Q := fun s Y => pm_S X0 Y ∧ ∃ (N' : Nat) (nd' : Nat → st_t) (fr' bw' : Nat → Nat) (ld' : Nat → Nat → Nat), wl_A n Y N' nd' fr' bw' ld' s 0 ∧ s ≤ N' ∧ st_E n (nd' 0) (st_cn n a)) (F := wl_end n a X0) 200 (by decide) (fun s Y hk hQ fu => ?_) X ⟨hS, N, nd, fr, bw, ld, h, Nat.zero_le _, h0⟩
  obtain ⟨hSY, N', nd', fr', bw', ld', hA, hs', h0'⟩ := hQ
  have hN2 := hA.2.1
  show wl_end n a X0 (fb_MD_walk_46 (f_MD_walk_46 fu) _ _ _) ∨ (_ ∧ ∃ s', _ ∧ fb_MD_walk_46 (f_MD_walk_46 fu) _ _ _ = _)
  unfold fb_MD_walk_46
  rw [pm_get (by decide) rfl, hA.1, pl_gi (by omega) (by omega)]
  by_cases c : s < N'
  · rw [if_pos (by omega)]
    rcases pm_walk_in X0 Y hn4 hn2 hX hSY hA c h0' fu with q | ⟨N2, nd2, fr2, bw2, ld2, Y2, q1, q2, q3, q4, q5⟩
    · exact Or.inl q
    · exact Or.inr ⟨by omega, Y2, ⟨q4, N2, nd2, fr2, bw2, ld2, q1, q2, q3⟩, q5⟩
  · rw [if_neg (by omega)]
    have e : s = N' := by omega
    subst e
    exact Or.inl ⟨1, Y, rfl, hSY, Or.inr ⟨rfl, s, nd', fr', bw', ld', hA, h0'⟩⟩
theorem pm_walk (X : Nat → Nat → Int) {n : Nat} (hn : X 0 1 = (n : Int)) (hn4 : n ≤ 4) (hn2 : 2 ≤ n) (hB : mu_bd n (pm_T X 8)) (hD : mu_bd n (pm_T X 24)) :
    ∃ (fl : Int) (Y : Nat → Nat → Int), f_MD_walk (pm_h X) 0 = some (fl, pm_h Y) ∧ pm_S X Y ∧ ((fl = 0 ∧ wl_open n (pm_T X 8, pm_T X 24)) ∨ (fl = 1 ∧ mu_well n (pm_T X 8) ∧ wl_done n (pm_T X 8, pm_T X 24) Y)) := by
  unfold f_MD_walk
  rw [pm_put trivial (by decide) rfl, pm_gr (t := 10) (by decide) rfl (by decide), pm_ast (a := 0) (o := 10) (i := 0) trivial rfl (by decide), pm_gr (t := 11) (by decide) rfl (by decide), pm_ast (a := 0) (o := 11) (i := 0) trivial rfl (by decide), pm_gr (t := 12) (by decide) rfl (by decide), pm_ast (a := 0) (o := 12) (i := 0) trivial rfl (by decide)]
  generalize hX1 : gx_up (gx_up (gx_up (gx_up X 0 22 1) 10 0 0) 11 0 (-1)) 12 0 (-1) = X1
  have x1 : ∀ o, o ≠ 0 → o ≠ 10 → o ≠ 11 → o ≠ 12 → X1 o = X o := fun o h0 h1 h2 h3 => by rw [← hX1, gx_up_ne h3, gx_up_ne h2, gx_up_ne h1, gx_up_ne h0]
  have x0 : ∀ j, X1 0 j = if j = 22 then 1 else X 0 j := fun j => by rw [← hX1, gx_up_ne (by decide), gx_up_ne (by decide), gx_up_ne (by decide), gx_up_at]
  have xa : X1 10 0 = 0 := by rw [← hX1, gx_up_ne (by decide), gx_up_ne (by decide), gx_up_at, if_pos rfl]
  have xb : X1 11 0 = -1 := by rw [← hX1, gx_up_ne (by decide), gx_up_at, if_pos rfl]
  have xc : X1 12 0 = -1 := by rw [← hX1, gx_up_at, if_pos rfl]
  have S1 : pm_S X X1 := ⟨fun j _ => by rw [x1 1 (by decide) (by decide) (by decide) (by decide)], fun o ho => x1 o (by omega) (by omega) (by omega) (by omega), fun j hj => by rw [x0, if_neg (by omega)]⟩
  have n1 : X1 0 1 = (n : Int) := (S1.2.2 1 (Or.inl rfl)).trans hn
  have t1 : ∀ q, pm_T X1 q = pm_T X q := fun q => by unfold pm_T; rw [x1 1 (by decide) (by decide) (by decide) (by decide)]
  have hwell := pm_isWell X1 n1 hn4 hn2 (by rw [t1]; exact hB)
  rw [t1] at hwell
  rw [pm_cv]
  rcases hwell with ⟨m, hm, hw, -, hrun⟩ | ⟨hno, m, hrun⟩
  · rw [hrun, pl_call, pl_gi (by decide) (by decide), if_neg (by decide), pm_cv]
    generalize hX2 : pm_w6 X1 n m = X2
    have x2 : ∀ o, o ≠ 6 → X2 o = X1 o := fun o ho => by rw [← hX2]; unfold pm_w6; rw [gx_us_ne ho]
    have S2 : pm_S X X2 := S1.trans (by rw [← hX2]; exact pm_S_o (by decide))
    have n2 : X2 0 1 = (n : Int) := (S2.2.2 1 (Or.inl rfl)).trans hn
    have t2 : ∀ q, pm_T X2 q = pm_T X q := fun q => by rw [← t1]; unfold pm_T; rw [x2 1 (by decide)]
    have lay := pm_layStand X2 (n := n) (x := 0) (s := 0) (a := 0) (b := 0) n2 hn4 hn2 rfl rfl (by decide) (by decide) (by rw [t2]; exact hB)
    rw [t2, t2] at lay
    obtain ⟨fl, X3, e3, d0, d1, d2, d3, d4⟩ := lay
    have S3 : pm_S X X3 := S2.trans ⟨fun j _ => by rw [d2 1 (by decide) (by decide)], fun o ho => d2 o (by omega) (by omega), fun j _ => by rw [d2 0 (by decide) (by decide)]⟩
    rw [e3, pl_call, pl_gi (by omega) (by omega)]
    by_cases c : fl = 0
    · rw [if_pos c]
      exact ⟨0, X3, rfl, S3, Or.inl ⟨rfl, Or.inr (Or.inl fun z => by have := d1.mpr z; omega)⟩⟩
    · rw [if_neg c]
      have w : ∀ o, o ≠ 6 → o ≠ 7 → o ≠ 8 → X3 o = X1 o := fun o h1 h2 h3 => (d2 o h2 h3).trans (x2 o h1)
      have bd := st_cn_bd (n := n) (a := (pm_T X (0 + 8), pm_T X (0 + 24))) (by omega) hB hD
      have hA : wl_A n X3 1 (fun _ => st_cn n (pm_T X (0 + 8), pm_T X (0 + 24))) (fun _ => 0) (fun _ => 0) (fun _ _ => 0) 0 0 := by
        refine ⟨?_, by decide, bf_begin, fun t ht => ?_, fun s' k' hl _ => by unfold bf_lx at hl; omega, ?_, ?_, ?_, fun t h1 h2 => by omega⟩
        · rw [w 0 (by decide) (by decide) (by decide), x0, if_pos rfl]
          rfl
        · have : t = 0 := by omega
          subst this
          refine ⟨d4, bd.1, bd.2, d1.mp (by omega), ?_, ?_⟩
          · rw [w 10 (by decide) (by decide) (by decide), xa]
            exact Int.le_refl _
          · rw [w 10 (by decide) (by decide) (by decide), xa]
            exact Int.le_refl _
        · rw [w 10 (by decide) (by decide) (by decide)]; exact xa
        · rw [w 11 (by decide) (by decide) (by decide)]; exact xb
        · rw [w 12 (by decide) (by decide) (by decide)]; exact xc
      obtain ⟨f, Y, e, S, hc⟩ := pm_walk_out X X3 (a := (pm_T X 8, pm_T X 24)) hn4 hn2 hn S3 hA st_E.rf
      refine ⟨f, Y, e, S, ?_⟩
      rcases hc with ⟨h1, h2⟩ | ⟨h1, h2⟩
      · exact Or.inl ⟨h1, Or.inr (Or.inr h2)⟩
      · exact Or.inr ⟨h1, ⟨m, hm, hw⟩, h2⟩
  · rw [hrun, pl_call, pl_gi (by decide) (by decide), if_pos rfl]
    refine ⟨0, _, rfl, S1.trans (pm_S_o (by decide)), Or.inl ⟨rfl, Or.inl ?_⟩⟩
    rintro ⟨m', h1, h2⟩
    exact hno m' h1 h2
