/-! a letter asked for, both sides -/
theorem pm_bound (X : Nat → Nat → Int) {n i : Nat} {a : Int} (hn : X 0 1 = (n : Int)) (hn4 : n ≤ 4) (ha : a = (i : Int)) (hi : i < n) (hB : mu_bd n (pm_T X 8)) : f_MD_bound (pm_h X) 0 a = some (mu_bo (pm_T X 8) i n, pm_h X) := by
  subst ha
  unfold f_MD_bound
  refine pl_loop0 (A := fun fu j => f_MD_bound_4 fu (pm_h X) 0 (i : Int) (mu_bo (pm_T X 8) i j) (j : Int)) n (by omega) (fun j hj fu => ?_) (fun fu => ?_)
  · have b := hB i hi j hj
    have v : X 1 (0 + 8 + 4 * i + j) = pm_T X 8 i j := rfl
    show fb_MD_bound_4 (f_MD_bound_4 fu) _ _ _ _ _ = _
    unfold fb_MD_bound_4 fb_MD_bound_30
    rw [pm_get (by decide) rfl, hn, pl_gi (by omega) (by omega), if_pos (by omega), pm_cv, pm_b X (a := 0) (x := 0) (i := i) (j := j) rfl rfl rfl (by omega), pl_call, v, pl_gi (by omega) (by omega)]
    by_cases c : pm_T X 8 i j = 0
    · rw [if_pos c, mu_bo_or]
      simp only [mu_bo, if_pos c]
      rfl
    · rw [if_neg c]
      simp only [mu_bo, if_neg c]
      rfl
  · show fb_MD_bound_4 (f_MD_bound_4 fu) _ _ _ _ _ = _
    unfold fb_MD_bound_4
    rw [pm_get (by decide) rfl, hn, pl_gi (by omega) (by omega), if_neg (by omega)]
theorem mu_bo_cg {B B' : Nat → Nat → Int} {i : Nat} : ∀ n, (∀ j, j < n → B i j = B' i j) → mu_bo B i n = mu_bo B' i n
  | 0, _ => rfl
  | n + 1, h => by
    simp only [mu_bo]
    rw [mu_bo_cg n fun j hj => h j (by omega), h n (by omega)]
theorem m_letter {Z X : Nat → Nat → Int} {v u : Int} (h : rl Z X) (hv : gx_i v) (hu : gx_i u) : rl_call (f_LE_letter (pc_h Z) 0 v u) (f_MD_letter (pm_h X) 0 v u) := by
  obtain ⟨n, B0, A, P, K, O, len, kb, hC, hG⟩ := h
  obtain ⟨⟨hn2, hn4, hX⟩, ⟨zA, zP, hp⟩, -, ⟨hE, hV⟩, -, -, -, -, -, -, hsc⟩ := id hC
  have hS : pc_S A = true := by rcases hp with q | q <;> rw [q.1] <;> decide
  have hSP : pc_S P = true := by rcases hp with q | q <;> rw [q.2] <;> decide
  obtain ⟨s1, s2, s4, s5, s6, s7⟩ := pc_S_all A (pc_S_lt hS) hS
  obtain ⟨q0, q1, q2, -, -, -⟩ := pc_S_ref A (pc_S_lt hS) hS
  obtain ⟨p1, -, p4, p5, -, -⟩ := pc_S_all P (pc_S_lt hSP) hSP
  obtain ⟨-, o1, o2, -, -, -⟩ := pc_S_ref P (pc_S_lt hSP) hSP
  obtain ⟨g0, g1, g2, r0, r1, r2⟩ := pc_H_all (A + 1) (pc_H_lt s2) s2
  obtain ⟨⟨U, V, hR⟩, -⟩ := id hV
  have stay : ∀ r, rl_call (some (r, pc_h Z)) (some (r, pm_h X)) := fun r => ⟨r, Z, X, rfl, rfl, n, B0, A, P, K, O, len, kb, hC, hG⟩
  unfold f_LE_letter f_MD_letter
  rw [pc_cv pc_L0, pc_noLetter Z hS zA hE.1 hv, pl_call, pm_cv, pm_isLetter X hX hn4 hv, pl_call]
  by_cases c : ¬ (0 ≤ v ∧ v < (n : Int))
  · rw [if_neg c, if_neg c, pl_gi (by decide) (by decide), if_neg (by decide), pl_gi (by decide) (by decide), if_pos rfl]
    exact stay _
  have c' : 0 ≤ v ∧ v < (n : Int) := Classical.byContradiction c
  obtain ⟨i, hi⟩ : ∃ i : Nat, v = (i : Int) := ⟨v.toNat, by omega⟩
  subst hi
  have hi : i < n := by omega
  rw [if_pos c', if_pos c', pl_gi (by decide) (by decide), if_pos rfl, gq_g_ok hu, pl_gi (by decide) (by decide), if_neg (show ¬ (1 : Int) = 0 by decide), gq_g_ok hu]
  by_cases u0 : u = 0
  · rw [if_pos u0, if_pos u0, pc_grv pc_L0 (by decide) pc_r0'.1 zA, pc_gr s1 (by decide) q1 (by omega), pc_ald (i := i) s4 rfl (by omega), pm_gr (t := 1) (by decide) rfl (by decide), pm_ald (o := 1) (i := 0 + i) (by omega) (by show _ < 2000; omega), (hE.2.2.2.2.2.1 i hi).1]
    exact stay _
  rw [if_neg u0, if_neg u0]
  by_cases u1 : u = 1
  · rw [if_pos u1, if_pos u1, pc_grv pc_L0 (by decide) pc_r0'.1 zA, pc_gr s1 (by decide) q2 (by omega), pc_ald (i := i) s5 rfl (by omega), pm_gr (t := 1) (by decide) rfl (by decide), pm_ald (o := 1) (i := 0 + 4 + i) (by omega) (by show _ < 2000; omega), (hE.2.2.2.2.2.1 i hi).2]
    exact stay _
  rw [if_neg u1, if_neg u1]
  by_cases u2 : u = 2
  · rw [if_pos u2, if_pos u2, pc_gr pc_L0 (by decide) pc_r0.2.1 (by decide), pc_get pc_L3 (by decide) pc_r3.1, pm_cv]
    obtain ⟨w1, w2⟩ := rl_well hV
    rcases pm_isWell X hX hn4 hn2 hR.1 with ⟨m, hm, hw, hlow, e⟩ | ⟨hno, m, e⟩
    · rw [e, pl_call, pl_gi (by decide) (by decide), if_neg (show ¬ (1 : Int) = 0 by decide)]
      rcases hsc with ⟨a1, m', a2, a3, a4, a5⟩ | ⟨-, a2⟩
      · have em : m' = m := by
          rcases Nat.lt_trichotomy m' m with q | q | q
          · exact absurd ((w1 m').mpr a4) (hlow m' q)
          · exact q
          · exact absurd ((w1 m).mp hw) (a5 m q)
        subst em
        rw [if_neg (by omega), pc_gr pc_L0 (by decide) pc_r0.2.1 (by decide), pc_gr pc_L3 (by decide) pc_r3.2 (by decide), pc_ald (i := i) pc_L4 rfl (by omega), a3 i hi, pm_gr (t := 6) (by decide) rfl (by decide), pm_ald (o := 6) (i := i) rfl (by show _ < 4; omega), show pm_w6 X n m' 6 i = mu_dg n m' i by unfold pm_w6; rw [gx_us_eq, if_pos hi]]
        exact ⟨_, Z, _, rfl, rfl, rl_stay hC hG (pm_S_o (by decide))⟩
      · exact absurd ⟨m, hm, (w1 m).mp hw⟩ a2
    · rw [e, pl_call, pl_gi (by decide) (by decide), if_pos (show (0 : Int) = 0 from rfl)]
      have z : Z 3 0 = 0 := by
        rcases hsc with ⟨a1, m', a2, a3, a4, a5⟩ | ⟨a1, -⟩
        · exact absurd ((w1 m').mpr a4) (hno m' a2)
        · exact a1
      rw [if_pos z]
      exact ⟨_, Z, _, rfl, rfl, rl_stay hC hG (pm_S_o (by decide))⟩
  rw [if_neg u2, if_neg u2]
  by_cases u3 : u = 3
  · rw [if_pos u3, if_pos u3, pc_grv pc_L0 (by decide) pc_r0'.1 zA, pc_gr s1 (by decide) q0 (by omega), pc_cv g0, pc_boundTo Z s2 hE.1 hn4 rfl (by omega), pl_call, pm_cv, pm_bound X hX hn4 rfl hi hR.1, pl_call, show mu_bo (pc_T Z (A + 1 + 1)) i n = mu_bo (pm_T X 8) i n from mu_bo_cg n fun j hj => hE.2.1 i hi j hj]
    exact stay _
  rw [if_neg u3, if_neg u3]
  by_cases u4 : u = 4
  · obtain ⟨Y, e7, yo⟩ := pc_placeNow Z (A := A) (n := n) (i := i) hS (by omega) zA (by omega) hE.1 hn4 rfl hi ((mu_q_bd hE.2.2.1).mpr hR.2.1)
    rw [if_pos u4, if_pos u4, pc_cv pc_L0, e7, pl_call, pm_cv, pm_placeOf X (a := 0) (x := 0) (i := i) hX hn4 rfl rfl (by omega) (by decide), pl_call, mu_pl_q hE.2.2.1 hi]
    exact ⟨_, Y, X, rfl, rfl, n, B0, A, P, K, O, len, kb, rl_C_z hC ⟨fun o _ _ _ _ _ f => yo o f, fun j _ _ => by rw [yo 0 (by decide)]⟩, rl_G_cg hG (fun o a b => yo o (by omega)) (by rw [yo 0 (by decide)]) (by rw [yo 0 (by decide)]) ⟨yo _ (by omega), yo _ (by omega)⟩⟩
  rw [if_neg u4, if_neg u4]
  obtain ⟨fl, Z1, X1, e1, e2, fA, S1, hd⟩ := both_try hC (k := i) rfl hi
  have hC1 := rl_C_S (rl_C_z hC (rl_z_fA hC fA)) S1
  have hG1 := rl_G_fA hC hG fA
  have zP1 : Z1 0 14 = (P : Int) := hC1.2.1.2.1
  have done : ∀ r, rl_call (some (r, pc_h Z1)) (some (r, pm_h X1)) := fun r => ⟨r, Z1, X1, rfl, rfl, n, B0, A, P, K, O, len, kb, hC1, hG1⟩
  have val : fl = 1 → Z1 (P + 4) i = X1 1 (1920 + i) ∧ Z1 (P + 5) i = X1 1 (1924 + i) := fun f1 => by
    rcases hd with f0 | ⟨-, U', V', -, -, ⟨-, -, -, -, -, m6, m7, -⟩, ⟨-, -, -, -, t5, t6, -⟩⟩
    · omega
    · have fw : fr_W (pc_T Z (A + 2)) n i U' V' = fr_W (pm_T X 8) n i U' V' := fr_W_q (U := U') (V := V') hE.2.1 hi
      rw [m6 i hi, m7 i hi, t5 i hi, t6 i hi, if_pos rfl, if_pos rfl, if_pos rfl, if_pos rfl, fw]
      exact ⟨rfl, rfl⟩
  have f01 : fl = 0 ∨ fl = 1 := by
    rcases hd with q | q
    · exact Or.inl q
    · exact Or.inr q.1
  unfold f_MD_would
  by_cases u5 : u = 5
  · rw [if_pos u5, if_pos u5, pc_cv pc_L0, e1, pl_call, pl_gi (by omega) (by omega), pm_cv, pm_cv, e2, pl_call, pl_gi (by omega) (by omega)]
    by_cases z : fl = 0
    · rw [if_pos z, if_pos z, pl_call]
      exact done _
    · rw [if_neg z, if_neg z, pc_grv pc_L0 (by decide) pc_r0'.2.1 zP1, pc_gr p1 (by decide) o1 (by omega), pc_ald (i := i) p4 rfl (by omega), pm_gr (t := 1) (by decide) rfl (by decide), pm_ald (o := 1) (i := 1920 + i) (by omega) (by show _ < 2000; omega), pl_call, (val (by omega)).1]
      exact done _
  rw [if_neg u5, if_neg u5]
  by_cases u6 : u = 6
  · rw [if_pos u6, if_pos u6, pc_cv pc_L0, e1, pl_call, pl_gi (by omega) (by omega), pm_cv, pm_cv, e2, pl_call, pl_gi (by omega) (by omega)]
    by_cases z : fl = 0
    · rw [if_pos z, if_pos z, pl_call]
      exact done _
    · rw [if_neg z, if_neg z, pc_grv pc_L0 (by decide) pc_r0'.2.1 zP1, pc_gr p1 (by decide) o2 (by omega), pc_ald (i := i) p5 rfl (by omega), pm_gr (t := 1) (by decide) rfl (by decide), pm_ald (o := 1) (i := 1924 + i) (by omega) (by show _ < 2000; omega), pl_call, (val (by omega)).2]
      exact done _
  rw [if_neg u6, if_neg u6]
  exact stay _
/-! the book judged -/
theorem pm_wrongEntry (X : Nat → Nat → Int) {n K : Nat} (hn : X 0 1 = (n : Int)) (hn4 : n ≤ 4) (hD : mu_bd n (pm_T X 24)) (hK : X 0 11 = (K : Int)) (hK2 : K ≤ 20) (hL : ∀ e, e < K → 0 ≤ X 4 e ∧ gx_i (X 4 e)) :
    ((∀ c, c < K → mu_fw (pm_T X 24) n (X 4) (X 5) c) → f_MD_wrongEntry (pm_h X) 0 = some (-1, pm_h X)) ∧ ∀ e, e < K → ¬ mu_fw (pm_T X 24) n (X 4) (X 5) e → (∀ c, c < e → mu_fw (pm_T X 24) n (X 4) (X 5) c) → f_MD_wrongEntry (pm_h X) 0 = some ((e : Int), pm_h X) := by
  unfold f_MD_wrongEntry
  refine pl_find (A := fun fu i => f_MD_wrongEntry_2 fu (pm_h X) 0 (i : Int)) (bad := fun e => some ((e : Int), pm_h X)) K (by omega) (mu_fw (pm_T X 24) n (X 4) (X 5)) (fun i hi fu => ?_) (fun fu => ?_)
  · obtain ⟨h0, hgi⟩ := hL i hi
    obtain ⟨x, hx⟩ : ∃ x : Nat, X 4 i = (x : Int) := ⟨(X 4 i).toNat, by omega⟩
    show (_ → fb_MD_wrongEntry_2 (f_MD_wrongEntry_2 fu) _ _ _ = _) ∧ (_ → fb_MD_wrongEntry_2 (f_MD_wrongEntry_2 fu) _ _ _ = _)
    unfold fb_MD_wrongEntry_2
    rw [pm_get (by decide) rfl, hK, pl_gi (by omega) (by omega), if_pos (by omega), pm_gr (t := 4) (by decide) rfl (by decide), pm_ald (o := 4) (i := i) rfl (by show _ < 20; omega), pm_cv, pm_isLetter X hn hn4 hgi, pl_call, hx]
    by_cases c : x < n
    · have ci := mu_cd_i (D := pm_T X 24) (i := x) hn4 (fun m hm => hD x c m hm)
      rw [if_pos (by omega), pl_gi (by decide) (by decide), if_neg (by decide), pm_gr (t := 4) (by decide) rfl (by decide), pm_ald (o := 4) (i := i) rfl (by show _ < 20; omega), hx, pm_cv, pm_code X hn hn4 rfl (by omega), pl_call, pm_gr (t := 5) (by decide) rfl (by decide), pm_ald (o := 5) (i := i) rfl (by show _ < 20; omega), gq_g_ok ci.1]
      by_cases d : mu_cd (pm_T X 24) x n = X 5 i
      · rw [if_pos d]
        exact ⟨fun _ => rfl, fun h => absurd ⟨x, hx, c, d⟩ h⟩
      · rw [if_neg d]
        refine ⟨fun h => ?_, fun _ => rfl⟩
        obtain ⟨y, h1, h2, h3⟩ := h
        have : y = x := by omega
        subst this
        exact absurd h3 d
    · rw [if_neg (by omega), pl_gi (by decide) (by decide), if_pos rfl]
      refine ⟨fun h => ?_, fun _ => rfl⟩
      obtain ⟨y, h1, h2, h3⟩ := h
      omega
  · show fb_MD_wrongEntry_2 (f_MD_wrongEntry_2 fu) _ _ _ = _
    unfold fb_MD_wrongEntry_2
    rw [pm_get (by decide) rfl, hK, pl_gi (by omega) (by omega), if_neg (by omega)]
/-- which entry is wrong: the same on both sides -/
theorem both_wrong {n A P K O len kb : Nat} {B0 Z X : Nat → Nat → Int} (hC : rl_C n B0 A P K O len kb Z X) : ∃ r : Int, f_BK_firstWrong (pc_h Z) 170 (A + 1) = some (r, pc_h Z) ∧ f_MD_wrongEntry (pm_h X) 0 = some (r, pm_h X) := by
  obtain ⟨⟨hn2, hn4, hX⟩, ⟨zA, zP, hp⟩, -, ⟨hE, hV⟩, -, -, -, -, -, ⟨b1, b2, b3, b4⟩, -⟩ := id hC
  have hS : pc_S A = true := by rcases hp with q | q <;> rw [q.1] <;> decide
  obtain ⟨s1, s2, -⟩ := pc_S_all A (pc_S_lt hS) hS
  obtain ⟨⟨U, V, hR⟩, -⟩ := id hV
  have f1 := pc_firstWrong Z (t := A + 1) s2 hE.1 hn4 ((mu_q_bd hE.2.2.1).mpr hR.2.1) b1 b3 (fun e he => (b4 e he).2.2.1)
  have f2 := pm_wrongEntry X hX hn4 hR.2.1 b2 b3 (fun e he => by rw [← (b4 e he).1]; exact (b4 e he).2.2)
  have iff : ∀ e, e < kb → (mu_fw (pc_T Z (A + 1 + 2)) n (Z 171) (Z 172) e ↔ mu_fw (pm_T X 24) n (X 4) (X 5) e) := fun e he => by
    unfold mu_fw
    rw [(b4 e he).1, (b4 e he).2.1]
    constructor
    · rintro ⟨i, h1, h2, h3⟩
      exact ⟨i, h1, h2, (mu_cd_cg n fun m hm => (hE.2.2.1 i h2 m hm).symm).trans h3⟩
    · rintro ⟨i, h1, h2, h3⟩
      exact ⟨i, h1, h2, (mu_cd_cg n fun m hm => hE.2.2.1 i h2 m hm).trans h3⟩
  rcases mu_least (P := fun e => ¬ mu_fw (pm_T X 24) n (X 4) (X 5) e) kb with q | ⟨e, he, h1, h2⟩
  · have q' : ∀ c, c < kb → mu_fw (pm_T X 24) n (X 4) (X 5) c := fun c hc => Classical.byContradiction (q c hc)
    exact ⟨-1, f1.1 fun c hc => (iff c hc).mpr (q' c hc), f2.1 q'⟩
  · have h2' : ∀ c, c < e → mu_fw (pm_T X 24) n (X 4) (X 5) c := fun c hc => Classical.byContradiction (h2 c hc)
    exact ⟨(e : Int), f1.2 e he (fun z => h1 ((iff e he).mp z)) (fun c hc => (iff c (by omega)).mpr (h2' c hc)), f2.2 e he h1 h2'⟩
