/-! stands, both sides: the same -/
theorem st_K_E {n : Nat} {a b : st_t} (hn : 0 < n) (h : st_K n a) (e : st_E n a b) : st_K n b := (st_cn_E hn e.symm).trans (h.trans e)
theorem ref_no {n : Nat} {B0 : Nat → Nat → Int} {a : st_t} (hn2 : 2 ≤ n) (hn4 : n ≤ 4) (hok : rl_ok n B0) (hr : rc_S n B0 a) (hw : mu_well n a.1) (h : wl_open n a) : False := by
  have fa := rc_fin hok.2 hr
  rcases h with q | q | ⟨N, nd, fr, bw, ld, s, k, hP, hs, hk, hN, e0, reason⟩
  · exact q hw
  · exact q (st_rn_mi (st_cn_rn hn2 hn4 fa.2.1) fa.2.2.1)
  · have all : ∀ t, t < N → rc_S n B0 (nd t) ∧ st_K n (nd t) := by
      intro t
      induction t using Nat.strongRecOn with
      | _ t ih =>
        intro ht
        by_cases c : t = 0
        · subst c
          exact ⟨rc_E (rc_cn hn2 hn4 hr fa.2.1) e0.symm, st_K_E (by omega) (st_K_cn hn2 hn4 fa.2.1 fa.2.2.2) e0.symm⟩
        · obtain ⟨a1, a2, a3, a4, -⟩ := hP.2.2.1 t (by omega) ht
          have p := ih (fr t) a1 (by omega)
          have e := (hP.2.1 (fr t) (bw t) a3 a2).2.2
          rw [a4] at e
          have m := rc_mv hn2 hn4 p.1 a2
          have fm := rc_fin hok.2 m
          exact ⟨rc_E (rc_cn hn2 hn4 m fm.2.1) e, st_K_E (by omega) (st_K_cn hn2 hn4 fm.2.1 fm.2.2.2) e⟩
    have m := rc_mv hn2 hn4 (all s hs).1 hk
    have fm := rc_fin hok.2 m
    rcases reason with q | q | ⟨q1, q2⟩
    · exact q ⟨fm.1, fm.2.1⟩
    · exact q (st_rn_mi (st_cn_rn hn2 hn4 fm.2.1) fm.2.2.1)
    · have := rc_few (N := N + 1) (nd := bf_u1 nd N (st_go n (nd s) k)) hn2 hn4 hok.2 (fun t ht => ?_) (fun t u htu hu => ?_)
      · omega
      · by_cases c : t = N
        · subst c
          rw [bf_u1_at]
          exact ⟨rc_cn hn2 hn4 m fm.2.1, st_K_cn hn2 hn4 fm.2.1 fm.2.2.2⟩
        · rw [bf_u1_ne c]
          exact all t (by omega)
      · by_cases c : u = N
        · subst c
          rw [bf_u1_at, bf_u1_ne (by omega)]
          exact fun z => q2 t htu z.symm
        · rw [bf_u1_ne (by omega), bf_u1_ne c]
          exact hP.2.2.2 t u htu (by omega)
theorem ref_yes {n : Nat} {B0 Y : Nat → Nat → Int} {a : st_t} {ks : List Nat} (hn2 : 2 ≤ n) (hn4 : n ≤ 4) (hb : ∀ i j, i < n → j < n → -3 ≤ B0 i j ∧ B0 i j ≤ 3) (hw : mu_well n B0) (hk : ∀ k ∈ ks, k < n) (ha : st_E n a (rc_R n B0 ks)) (hD : mu_bd n a.2) (h : wl_done n a Y) : rl_ok n B0 := by
  obtain ⟨N, nd, fr, bw, ld, hA, e0⟩ := h
  have hc := bf_end hA.2.2.1
  refine rl_ok_of hn2 hn4 hb hw hk ha hD hc.1 e0 (fun t k ht hk => ?_) (fun t ht => (hA.2.2.2.1 t ht).2.2.2.1)
  obtain ⟨h1, h2⟩ := hc.2.1 t k ht hk
  have b := (hA.2.2.2.2.1 t k (Or.inl ht) hk).2
  exact ⟨ld t k, h1, (gr_Ld_to (G := True) hn2 hn4 b h2).1⟩
/-- the same numbers on both sides -/
def rl_sw (n : Nat) (Z X : Nat → Nat → Int) : Prop := ∃ N : Nat, 0 < N ∧ N ≤ 200 ∧ Z 187 0 = (N : Int) ∧ X 0 22 = (N : Int) ∧ (∀ t, t < N → Z 190 t = X 10 t ∧ Z 191 t = X 11 t ∧ Z 192 t = X 12 t ∧ 0 ≤ X 10 t ∧ X 10 t ≤ (t : Int)) ∧ X 10 0 = 0 ∧ (∀ u t, t ≤ u → u < N → X 10 t ≤ X 10 u) ∧
  (∀ t, t < N → ∃ g : Nat, g < 200 ∧ Z 188 t = (g : Int) ∧ (∀ k, k < n → Z 175 (8 * g + k) = mu_cd (wl_nd X t).2 k n) ∧ ∀ k, k < n → ∃ h r : Nat, h < 200 ∧ Z 174 (4 * g + k) = (h : Int) ∧ Z 189 h = (r : Int) ∧ X 9 (4 * t + k) = (r : Int)) ∧
  (∀ t, t < N → mu_bd n (wl_nd X t).2) ∧ Z 173 1 = (n : Int) ∧ ∃ c : Nat, Z 173 2 = (c : Int) ∧ f_MD_allLetters (pm_h X) 0 = some ((c : Int), pm_h X)
theorem both_sw {n : Nat} {B0 Z X : Nat → Nat → Int} {a a' : st_t} (hn2 : 2 ≤ n) (hn4 : n ≤ 4) (hX : X 0 1 = (n : Int)) (hok : rl_ok n B0) (ea : st_E n a a') (hW : rl_W n B0 a Z) (hd : wl_done n a' X) : rl_sw n Z X := by
  obtain ⟨NG, gn, gl, W, st, fr, bw, ld, gf, hG, hA, e0⟩ := hW
  obtain ⟨N, nd, fr', bw', ld', hR, r0⟩ := hd
  have c1 := bf_end hA.2.2.1
  have c2 := bf_end hR.2.2.1
  have start : st_E n (gn (st 0)) (nd 0) := e0.trans ((st_cn_E (by omega) ea).trans r0.symm)
  obtain ⟨eN, eE, eF, eL⟩ := bf_same c1 c2 start
  subst eN
  obtain ⟨a1, a2, a3, a4, a5, a6, a7, a8, a9, a10⟩ := id hA
  obtain ⟨b1, b2, b3, b4, b5, b6, b7, b8, b9⟩ := id hR
  have hNG := hG.2.2.1
  have steps : ∀ t, t < W → Z 190 t = X 10 t := by
    intro t
    induction t using Nat.strongRecOn with
    | _ t ih =>
      intro ht
      by_cases c : t = 0
      · subst c; rw [a7, b6]
      · have f := eF t (by omega) ht
        have q := (c1.2.2.1 t (by omega) ht).1
        rw [(a10 t (by omega) ht).2.2, (b9 t (by omega) ht).2.2, ← f.1, ih (fr t) q (by omega)]
  have nodes : ∀ t, t < W → st_E n (gn (st t)) (wl_nd X t) := fun t ht => (eE t ht).trans (b4 t ht).1.symm
  refine ⟨W, c1.1, b2, a1, b1, fun t ht => ⟨steps t ht, ?_, ?_, (b4 t ht).2.2.2.2⟩, b6, bf_mono c2 b6 (fun t ht => (b4 t ht).2.2.2.2.1) (fun t h1 h2 => (b9 t h1 h2).2.2), fun t ht => ⟨st t, by have := (a4 t ht).2.1; omega, (a4 t ht).1, fun k hk => ?_, fun k hk => ?_⟩, fun t ht => (mu_q_bd (b4 t ht).1.2).mpr (b4 t ht).2.2.1, hG.1, ?_⟩
  · by_cases c : t = 0
    · subst c; rw [a8, b7]
    · rw [(a10 t (by omega) ht).1, (b9 t (by omega) ht).1, (eF t (by omega) ht).1]
  · by_cases c : t = 0
    · subst c; rw [a9, b8]
    · rw [(a10 t (by omega) ht).2.1, (b9 t (by omega) ht).2.1, (eF t (by omega) ht).2]
  · have q := ((gf.1.2.2.2.1 (st t) (a4 t ht).2.1).1 k hk).1
    exact q.trans (mu_cd_cg n fun m hm => (nodes t ht).2 k hk m hm)
  · have g := hG.2.2.2.2 (st t) k (a4 t ht).2.1 hk
    have l := c1.2.1 t k ht hk
    have s6 := a6 t k (Or.inl ht) hk
    refine ⟨gl (st t) k, ld t k, by omega, g.1, ?_, ?_⟩
    · rw [← s6]; exact (a4 _ l.1).2.2.1
    · rw [(b5 t k (Or.inl ht) hk).1, eL t k ht hk]
  · obtain ⟨c, hc, en⟩ := gf.2.2.2
    obtain ⟨c', hc', en'⟩ := pm_allLetters X hX hn4 hn2 b1 b2 (fun t ht => (mu_q_bd (b4 t ht).1.2).mpr (b4 t ht).2.2.1)
    obtain ⟨hf, w, hw, hwt⟩ := rl_ok_w hok
    have same : c = c' := by
      refine mu_En_eq en en' (fun s k hs hk => ?_) (fun t k ht hk => ?_)
      · have gs := (gf.1.2.2.2.1 s hs).2.2.2.2 hok
        have g0 := (gf.1.2.2.2.1 (st 0) (a4 0 c1.1).2.1).2.2.2.2 hok
        obtain ⟨r, hr, e⟩ := rc_all hn2 hn4 hw hwt hf (nd := fun t => gn (st t)) (N := W) (t0 := 0) (fun t k ht hk => ⟨ld t k, c1.2.1 t k ht hk⟩) c1.1 g0.1 g0.2 gs.1
        have e' : st_E n (wl_nd X r) (gn s) := (nodes r hr).symm.trans (e.symm.trans gs.2)
        exact ⟨r, k, hr, hk, mu_cd_cg n fun m hm => e'.2 k hk m hm⟩
      · exact ⟨st t, k, (a4 t ht).2.1, hk, mu_cd_cg n fun m hm => (nodes t ht).2 k hk m hm⟩
    subst same
    exact ⟨c, hc, hc'⟩
/-- both ask for stands -/
theorem both_open {n A P K O len kb : Nat} {B0 Z X : Nat → Nat → Int} (hC : rl_C n B0 A P K O len kb Z X) (hG : rl_G n B0 A Z) :
    ∃ (o fl : Int) (Z' X' : Nat → Nat → Int), f_LE_isOpen (pc_h Z) 0 = some (o, pc_h Z') ∧ f_MD_walk (pm_h X) 0 = some (fl, pm_h X') ∧ rl_z P Z Z' ∧ rl_C n B0 A P K O len kb Z' X' ∧ rl_G n B0 A Z' ∧ ((o = 1 ∧ fl = 0) ∨ (o = 0 ∧ fl = 1 ∧ rl_sw n Z' X')) := by
  obtain ⟨⟨hn2, hn4, hX⟩, ⟨zA, zP, hp⟩, hb0, ⟨hE, hV⟩, -⟩ := id hC
  obtain ⟨⟨U, V, hR⟩, ks, hk, -, hks⟩ := id hV
  have hA : A = 230 ∨ A = 238 := by omega
  obtain ⟨o, Z', E1, z1, z2, hG', hc⟩ := cls_open hC hG
  obtain ⟨fl, X', E2, S, hw⟩ := pm_walk X hX hn4 hn2 hR.1 hR.2.1
  have hz : rl_z P Z Z' := ⟨fun q a _ _ _ d _ => z1 q a (by omega), z2⟩
  have hC' : rl_C n B0 A P K O len kb Z' X' := rl_C_S (rl_C_z hC hz) S
  have ea : st_E n (pc_T Z (A + 2), pc_T Z (A + 3)) (pm_T X 8, pm_T X 24) := ⟨hE.2.1, hE.2.2.1⟩
  have hr : rc_S n B0 (pm_T X 8, pm_T X 24) := ⟨ks, _, hk, st_rn_E st_rn.rf (st_E.symm hks)⟩
  have wl := (rl_well hV).2
  refine ⟨o, fl, Z', X', E1, E2, hz, hC', hG', ?_⟩
  rcases hc with ⟨o1, ng⟩ | ⟨o0, g, hW⟩
  · rcases hw with ⟨f0, -⟩ | ⟨-, w, hd⟩
    · exact Or.inl ⟨o1, f0⟩
    · exact absurd (ref_yes hn2 hn4 hb0 (wl.mp w) hk hks hR.2.1 hd) ng
  · rcases hw with ⟨-, ho⟩ | ⟨f1, -, hd⟩
    · exact (ref_no hn2 hn4 g hr (wl.mpr g.1) ho).elim
    · exact Or.inr ⟨o0, f1, both_sw hn2 hn4 hC'.1.2.2 g ea hW hd⟩
theorem m_stand {Z X : Nat → Nat → Int} {v u : Int} (h : rl Z X) (hv : gx_i v) (hu : gx_i u) : rl_call (f_LE_stand (pc_h Z) 0 v u) (f_MD_stand (pm_h X) 0 v u) := by
  obtain ⟨n, B0, A, P, K, O, len, kb, hC, hG⟩ := h
  obtain ⟨l0, l1, l2, l3, l4, l5⟩ := pc_LW
  obtain ⟨e0, e1, e2, e3, e4, e5⟩ := pc_rW
  obtain ⟨o, fl, Z', X', E1, E2, hz, hC', hG', hc⟩ := both_open hC hG
  have done : ∀ r, rl_call (some (r, pc_h Z')) (some (r, pm_h X')) := fun r => ⟨r, Z', X', rfl, rfl, n, B0, A, P, K, O, len, kb, hC', hG'⟩
  unfold f_LE_stand f_MD_stand
  rw [pc_cv pc_L0, E1, pl_call, pm_cv, E2, pl_call]
  rcases hc with ⟨q1, q2⟩ | ⟨q1, q2, N, hN0, hN, w1, w2, w3, -⟩
  · rw [q1, q2, pl_gi (by decide) (by decide), if_neg (by decide), pl_gi (by decide) (by decide), if_pos rfl]
    exact done _
  · rw [q1, q2, pl_gi (by decide) (by decide), if_pos rfl, pl_gi (by decide) (by decide), if_neg (by decide), pc_gr pc_L0 (by decide) pc_r0.2.2.2.2.2.2.1 (by decide), pc_cv l0, pc_lacks Z' w1 hv, pl_call, pm_get (by decide) rfl, w2, pm_in _ hv (by decide) ⟨by omega, by omega⟩, pl_call]
    by_cases c : 0 ≤ v ∧ v < (N : Int)
    · obtain ⟨t, ht⟩ : ∃ t : Nat, v = (t : Int) := ⟨v.toNat, by omega⟩
      subst ht
      have ht : t < N := by omega
      obtain ⟨x1, x2, x3, -⟩ := w3 t ht
      rw [if_pos c, pl_gi (by decide) (by decide), if_pos rfl, gq_g_ok hu, if_pos (show (0 : Int) ≤ (t : Int) ∧ (t : Int) ≤ (N : Int) - 1 by omega), pl_gi (by decide) (by decide), if_neg (show ¬ (1 : Int) = 0 by decide), gq_g_ok hu]
      by_cases u0 : u = 0
      · rw [if_pos u0, if_pos u0, pc_gr pc_L0 (by decide) pc_r0.2.2.2.2.2.2.1 (by decide), pc_gr l0 (by decide) e3 (by decide), pc_ald (i := t) l3 rfl (by omega), pm_gr (t := 10) (by decide) rfl (by decide), pm_ald (o := 10) (i := t) rfl (by show _ < 200; omega), x1]
        exact done _
      rw [if_neg u0, if_neg u0]
      by_cases u1 : u = 1
      · rw [if_pos u1, if_pos u1, pc_gr pc_L0 (by decide) pc_r0.2.2.2.2.2.2.1 (by decide), pc_gr l0 (by decide) e4 (by decide), pc_ald (i := t) l4 rfl (by omega), pm_gr (t := 11) (by decide) rfl (by decide), pm_ald (o := 11) (i := t) rfl (by show _ < 200; omega), x2]
        exact done _
      rw [if_neg u1, if_neg u1]
      by_cases u2 : u = 2
      · rw [if_pos u2, if_pos u2, pc_gr pc_L0 (by decide) pc_r0.2.2.2.2.2.2.1 (by decide), pc_gr l0 (by decide) e5 (by decide), pc_ald (i := t) l5 rfl (by omega), pm_gr (t := 12) (by decide) rfl (by decide), pm_ald (o := 12) (i := t) rfl (by show _ < 200; omega), x3]
        exact done _
      rw [if_neg u2, if_neg u2]
      exact done _
    · rw [if_neg c, pl_gi (by decide) (by decide), if_neg (by decide), if_neg (show ¬ (0 ≤ v ∧ v ≤ (N : Int) - 1) by omega), pl_gi (by decide) (by decide), if_pos rfl]
      exact done _
theorem m_away {Z X : Nat → Nat → Int} {v : Int} (h : rl Z X) (hv : gx_i v) : rl_call (f_LE_away (pc_h Z) 0 v) (f_MD_away (pm_h X) 0 v) := by
  obtain ⟨n, B0, A, P, K, O, len, kb, hC, hG⟩ := h
  obtain ⟨l0, l1, l2, l3, l4, l5⟩ := pc_LW
  obtain ⟨o, fl, Z', X', E1, E2, hz, hC', hG', hc⟩ := both_open hC hG
  have done : ∀ r, rl_call (some (r, pc_h Z')) (some (r, pm_h X')) := fun r => ⟨r, Z', X', rfl, rfl, n, B0, A, P, K, O, len, kb, hC', hG'⟩
  unfold f_LE_away f_MD_away
  rw [pc_cv pc_L0, E1, pl_call, pm_cv, E2, pl_call]
  rcases hc with ⟨q1, q2⟩ | ⟨q1, q2, N, hN0, hN, w1, w2, w3, -⟩
  · rw [q1, q2, pl_gi (by decide) (by decide), if_neg (by decide), pl_gi (by decide) (by decide), if_pos rfl]
    exact done _
  · rw [q1, q2, pl_gi (by decide) (by decide), if_pos rfl, pl_gi (by decide) (by decide), if_neg (by decide), pc_gr pc_L0 (by decide) pc_r0.2.2.2.2.2.2.1 (by decide), pc_cv l0, pc_countAway Z' w1 hN hv, pl_call, pm_awayN X' w2 hN hv, mu_ct_cg N fun i hi => (w3 i hi).1]
    exact done _
theorem m_next {Z X : Nat → Nat → Int} {v u : Int} (h : rl Z X) (hv : gx_i v) (hu : gx_i u) : rl_call (f_LE_next (pc_h Z) 0 v u) (f_MD_next (pm_h X) 0 v u) := by
  obtain ⟨n, B0, A, P, K, O, len, kb, hC, hG⟩ := h
  obtain ⟨l0, l1, l2, l3, l4, l5⟩ := pc_LW
  obtain ⟨⟨hn2, hn4, hX⟩, -⟩ := id hC
  obtain ⟨o, fl, Z', X', E1, E2, hz, hC', hG', hc⟩ := both_open hC hG
  obtain ⟨-, ⟨zA, zP, hp⟩, -, ⟨hE, -⟩, -⟩ := id hC'
  have hS : pc_S A = true := by rcases hp with q | q <;> rw [q.1] <;> decide
  have done : ∀ r, rl_call (some (r, pc_h Z')) (some (r, pm_h X')) := fun r => ⟨r, Z', X', rfl, rfl, n, B0, A, P, K, O, len, kb, hC', hG'⟩
  have early : ∀ r, rl_call (some (r, pc_h Z')) (some (r, pm_h X)) := fun r => ⟨r, Z', X, rfl, rfl, n, B0, A, P, K, O, len, kb, rl_C_z hC hz, hG'⟩
  · unfold f_LE_next f_MD_next
    rw [pc_cv pc_L0, E1, pl_call, pm_cv, pm_isLetter X hX hn4 hu, pl_call]
    by_cases d : 0 ≤ u ∧ u < (n : Int)
    · obtain ⟨k, hk⟩ : ∃ k : Nat, u = (k : Int) := ⟨u.toNat, by omega⟩
      subst hk
      have hk : k < n := by omega
      rw [if_pos d]
      rw [pl_gi (a := 1) (by decide) (by decide), if_neg (show ¬ (1 : Int) = 0 by decide), pm_cv, E2, pl_call]
      rcases hc with ⟨q1, q2⟩ | ⟨q1, q2, N, hN0, hN, w1, w2, w3, -, -, w4, -⟩
      · rw [q1, q2, pl_gi (by decide) (by decide), if_neg (by decide), pl_gi (by decide) (by decide), if_pos rfl]
        exact done _
      · rw [q1, q2, pl_gi (by decide) (by decide), if_pos rfl, pl_gi (by decide) (by decide), if_neg (by decide), pc_gr pc_L0 (by decide) pc_r0.2.2.2.2.2.2.1 (by decide), pc_cv l0, pc_lacks Z' w1 hv, pl_call, pm_get (by decide) rfl, w2, pm_in _ hv (by decide) ⟨by omega, by omega⟩, pl_call]
        by_cases c : 0 ≤ v ∧ v < (N : Int)
        · obtain ⟨t, ht⟩ : ∃ t : Nat, v = (t : Int) := ⟨v.toNat, by omega⟩
          subst ht
          have ht : t < N := by omega
          obtain ⟨g, hg, g1, -, g3⟩ := w4 t ht
          obtain ⟨hh, r, y1, y2, y3, y4⟩ := g3 k hk
          rw [if_pos c, pl_gi (by decide) (by decide), if_pos rfl, pc_cv pc_L0, pc_noLetter Z' hS zA hE.1 hu, pl_call, if_pos d, pl_gi (by decide) (by decide), if_pos rfl, pc_gr pc_L0 (by decide) pc_r0.2.2.2.2.2.2.1 (by decide), pc_gr pc_L0 (by decide) pc_r0.2.2.2.2.2.1 (by decide), pc_cv l0, pc_lead Z' (s := t) (k := k) rfl rfl (by omega) (by omega) g1 hg y2 y1 y3, pl_call, if_pos (show (0 : Int) ≤ (t : Int) ∧ (t : Int) ≤ (N : Int) - 1 by omega), pl_gi (by decide) (by decide), if_neg (show ¬ (1 : Int) = 0 by decide), pm_gr (t := 9) (by decide) rfl (by decide), pm_ald (o := 9) (i := 4 * t + k) (by omega) (by show _ < 800; omega), y4]
          exact done _
        · rw [if_neg c, pl_gi (by decide) (by decide), if_neg (by decide), if_neg (show ¬ (0 ≤ v ∧ v ≤ (N : Int) - 1) by omega), pl_gi (by decide) (by decide), if_pos rfl]
          exact done _
    · rw [if_neg d]
      rw [pl_gi (a := 0) (by decide) (by decide), if_pos (show (0 : Int) = 0 from rfl)]
      rcases hc with ⟨q1, q2⟩ | ⟨q1, q2, N, hN0, hN, w1, w2, w3, -⟩
      · rw [q1, pl_gi (by decide) (by decide), if_neg (by decide)]
        exact early _
      · rw [q1, pl_gi (by decide) (by decide), if_pos rfl, pc_gr pc_L0 (by decide) pc_r0.2.2.2.2.2.2.1 (by decide), pc_cv l0, pc_lacks Z' w1 hv, pl_call]
        by_cases c : 0 ≤ v ∧ v < (N : Int)
        · rw [if_pos c, pl_gi (by decide) (by decide), if_pos rfl, pc_cv pc_L0, pc_noLetter Z' hS zA hE.1 hu, pl_call, if_neg d, pl_gi (by decide) (by decide), if_neg (by decide)]
          exact early _
        · rw [if_neg c, pl_gi (by decide) (by decide), if_neg (by decide)]
          exact early _
