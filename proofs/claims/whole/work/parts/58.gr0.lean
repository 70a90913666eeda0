/-! the class's graph: the probe -/
theorem pc_L173 : pc_L[173]? = some (5 + 3, 13) := by decide +kernel
theorem pc_LG : pc_L[174]? = some (0, 800) ∧ pc_L[175]? = some (0, 1600) ∧ pc_L[176]? = some (0, 8) ∧ pc_L[177]? = some (0, 4) ∧ pc_L[178]? = some (0, 4) ∧ pc_L[179]? = some (0, 4) ∧ pc_L[180]? = some (0, 800) := by decide +kernel
theorem pc_rG : pc_r 173 0 = 0 ∧ pc_r 173 1 = 0 ∧ pc_r 173 2 = 0 ∧ pc_r 173 3 = 0 ∧ pc_r 173 4 = 174 ∧ pc_r 173 5 = 175 ∧ pc_r 173 6 = 176 ∧ pc_r 173 7 = 177 ∧ pc_r 173 8 = 178 ∧ pc_r 173 9 = 179 ∧ pc_r 173 10 = 180 ∧ pc_r 173 11 = 181 ∧ pc_r 173 12 = 184 := by decide +kernel
theorem pc_H_gap {t : Nat} (h : pc_H t = true) : t + 2 < 170 ∨ 181 ≤ t := by
  have h2 : ∀ x ∈ pc_HL, x + 2 < 170 ∨ 181 ≤ x := by decide
  exact h2 t (pc_H_mem h)
theorem mu_cd_cg {D D' : Nat → Nat → Int} {i j : Nat} : ∀ n, (∀ m, m < n → D i m = D' j m) → mu_cd D i n = mu_cd D' j n
  | 0, _ => rfl
  | n + 1, h => by
    simp only [mu_cd]
    rw [mu_cd_cg n fun m hm => h m (by omega), h n (by omega)]
theorem mu_200 {n : Nat} (hn4 : n ≤ 4) : (200 : Int) ^ n ≤ 1600000000 := by
  have : n = 0 ∨ n = 1 ∨ n = 2 ∨ n = 3 ∨ n = 4 := by omega
  rcases this with h | h | h | h | h <;> subst h <;> decide
theorem mu_cd_i {n i : Nat} {D : Nat → Nat → Int} (hn4 : n ≤ 4) (hD : ∀ m, m < n → mu_in (D i m)) : gx_i (mu_cd D i n) ∧ 0 ≤ mu_cd D i n := by
  have h1 := mu_cd_bd hD n (Nat.le_refl _)
  have h2 := mu_200 hn4
  exact ⟨⟨by omega, by omega⟩, h1.1⟩
theorem mu_pa_cg {c c' : Nat → Int} {i n : Nat} (h : ∀ j, j < n → c j = c' j) (hi : i < n) : ∀ m, m ≤ n → mu_pa c i m = mu_pa c' i m
  | 0, _ => rfl
  | m + 1, hm => by
    simp only [mu_pa]
    rw [mu_pa_cg h hi m (by omega), h m (by omega), h i hi]
set_option maxHeartbeats 2000000 in
theorem pc_fillProbe (Z : Nat → Nat → Int) {t n : Nat} (ht : pc_H t = true) (hn : Z 173 1 = (n : Int)) (hn4 : n ≤ 4) (hn2 : 2 ≤ n) (hB : mu_bd n (pc_T Z (t + 1))) (hD : mu_bd n (pc_T Z (t + 2))) :
    ∃ Y, f_GR_fillProbe (pc_h Z) 173 t = some (0, pc_h Y) ∧ (∀ o, (o < 176 ∨ 179 < o) → Y o = Z o) ∧ (∀ i, i < n → Y 178 i = (mu_pl n (pc_T Z (t + 2)) i : Int)) ∧ ∀ p, p < n → Y 176 p = mu_cd (st_cn n (pc_T Z (t + 1), pc_T Z (t + 2))).2 p n ∧ Y 176 (4 + p) = mu_cd (st_cn n (pc_T Z (t + 1), pc_T Z (t + 2))).1 p n := by
  obtain ⟨l0, l1, l2, l3, l4, l5, l6⟩ := pc_LG
  obtain ⟨e0, e1, e2, e3, e4, e5, e6, e7, e8, e9, e10, e11, e12⟩ := pc_rG
  obtain ⟨g0, g1, g2, r0, r1, r2⟩ := pc_H_all t (pc_H_lt ht) ht
  have gap := pc_H_gap ht
  -- own codes
  have first : ∃ Y, ((∀ o, o ≠ 177 → Y o = Z o) ∧ ∀ c, c < n → Y 177 c = mu_cd (pc_T Z (t + 2)) c n) ∧ f_GR_fillProbe (pc_h Z) 173 t = f_GR_fillProbe_36 gx_fu (pc_h Y) 173 t 0 := by
    unfold f_GR_fillProbe
    refine pl_inv (A := fun fu i Y => f_GR_fillProbe_2 fu (pc_h Y) 173 t (i : Int)) (out := fun Y => f_GR_fillProbe_36 gx_fu (pc_h Y) 173 t 0) (Q := fun i Y => (∀ o, o ≠ 177 → Y o = Z o) ∧ ∀ c, c < i → Y 177 c = mu_cd (pc_T Z (t + 2)) c n) n (by omega) (fun i hi Y hQ fu => ?_) (fun fu Y hQ => ?_) Z ⟨fun _ _ => rfl, fun c hc => by omega⟩
    · have y1 : Y 173 1 = (n : Int) := by rw [hQ.1 173 (by decide)]; exact hn
      have yT : pc_T Y (t + 2) = pc_T Z (t + 2) := by unfold pc_T; rw [hQ.1 (t + 2) (by omega)]
      have ci := mu_cd_i (D := pc_T Z (t + 2)) (i := i) hn4 (fun m hm => hD i hi m hm)
      show ∃ s', _ ∧ fb_GR_fillProbe_2 (f_GR_fillProbe_2 fu) _ _ _ _ = _
      unfold fb_GR_fillProbe_2
      rw [pc_get pc_L173 (by decide) e1, y1, pl_gi (by omega) (by omega), if_pos (by omega), pc_gr pc_L173 (by decide) e7 (by decide), pc_gr g0 (by decide) r2 (by omega), pc_get pc_L173 (by decide) e1, y1, pc_codeOf Y g2 rfl rfl hn4 (by omega), pl_call, yT, pc_ast (i := i) (Or.inl rfl) ci.1 l3 rfl (by omega)]
      refine ⟨_, ⟨fun o ho => ?_, fun c hc => ?_⟩, rfl⟩
      · rw [gx_up_ne ho]; exact hQ.1 o ho
      · rw [gx_up_at]
        by_cases q : c = i
        · subst q; rw [if_pos rfl]
        · rw [if_neg q]; exact hQ.2 c (by omega)
    · have y1 : Y 173 1 = (n : Int) := by rw [hQ.1 173 (by decide)]; exact hn
      show fb_GR_fillProbe_2 (f_GR_fillProbe_2 fu) _ _ _ _ = _
      unfold fb_GR_fillProbe_2
      rw [pc_get pc_L173 (by decide) e1, y1, pl_gi (by omega) (by omega), if_neg (by omega)]
  obtain ⟨Y1, ⟨a1, a2⟩, E1⟩ := first
  generalize hR : pc_T Z (t + 2) = R at hD a2
  have pm := mu_pl_pm hD
  -- places
  have second : ∃ Y, ((∀ o, o ≠ 178 → o ≠ 179 → Y o = Y1 o) ∧ ∀ c, c < n → Y 178 c = (mu_pl n R c : Int) ∧ Y 179 (mu_pl n R c) = (c : Int)) ∧ f_GR_fillProbe_36 gx_fu (pc_h Y1) 173 t 0 = f_GR_fillProbe_82 gx_fu (pc_h Y) 173 t 0 := by
    refine pl_inv (A := fun fu i Y => f_GR_fillProbe_36 fu (pc_h Y) 173 t (i : Int)) (out := fun Y => f_GR_fillProbe_82 gx_fu (pc_h Y) 173 t 0) (Q := fun i Y => (∀ o, o ≠ 178 → o ≠ 179 → Y o = Y1 o) ∧ ∀ c, c < i → Y 178 c = (mu_pl n R c : Int) ∧ Y 179 (mu_pl n R c) = (c : Int)) n (by omega) (fun i hi Y hQ fu => ?_) (fun fu Y hQ => ?_) Y1 ⟨fun _ _ _ => rfl, fun c hc => by omega⟩
    · have y1 : Y 173 1 = (n : Int) := by rw [hQ.1 173 (by decide) (by decide), a1 173 (by decide)]; exact hn
      have hp : mu_pa (Y 177) i n = mu_pl n R i := by
        rw [mu_pl_pa hD hi, hQ.1 177 (by decide) (by decide)]
        exact mu_pa_cg (fun j hj => a2 j hj) hi n (Nat.le_refl _)
      have pl := pm.1 i hi
      show ∃ s', _ ∧ fb_GR_fillProbe_36 (f_GR_fillProbe_36 fu) _ _ _ _ = _
      unfold fb_GR_fillProbe_36
      rw [pc_get pc_L173 (by decide) e1, y1, pl_gi (by omega) (by omega), if_pos (by omega), pc_gr pc_L173 (by decide) e8 (by decide), pc_gr pc_L173 (by decide) e7 (by decide), pc_get pc_L173 (by decide) e1, y1, pc_placeAmong Y (n := n) (i := i) l3 rfl rfl hn4 (by omega), pl_call, hp, pc_ast (i := i) (Or.inl rfl) ⟨by omega, by omega⟩ l4 rfl (by omega), pc_gr pc_L173 (by decide) e9 (by decide), pc_gr pc_L173 (by decide) e8 (by decide), pc_ald (i := i) l4 rfl (by omega), gx_up_at, if_pos rfl, pc_ast (i := mu_pl n R i) (Or.inl rfl) trivial l5 rfl (by omega)]
      refine ⟨_, ⟨fun o h1 h2 => ?_, fun c hc => ?_⟩, rfl⟩
      · rw [gx_up_ne h2, gx_up_ne h1]; exact hQ.1 o h1 h2
      · rw [gx_up_ne (o' := 178) (by decide), gx_up_at, gx_up_at, gx_up_ne (o' := 179) (by decide)]
        by_cases q : c = i
        · subst q; rw [if_pos rfl, if_pos rfl]; exact ⟨rfl, rfl⟩
        · rw [if_neg q, if_neg (fun z => q (pm.2 c (by omega) i hi z))]; exact hQ.2 c (by omega)
    · have y1 : Y 173 1 = (n : Int) := by rw [hQ.1 173 (by decide) (by decide), a1 173 (by decide)]; exact hn
      show fb_GR_fillProbe_36 (f_GR_fillProbe_36 fu) _ _ _ _ = _
      unfold fb_GR_fillProbe_36
      rw [pc_get pc_L173 (by decide) e1, y1, pl_gi (by omega) (by omega), if_neg (by omega)]
  obtain ⟨Y2, ⟨b1, b2⟩, E2⟩ := second
  have rk : ∀ p, p < n → Y2 179 p = (mu_rk n R p : Int) := fun p hp => by
    have h1 := (b2 (mu_rk n R p) (mu_rk_lt n R p (by omega))).2
    rw [mu_pl_rk hn2 hn4 hD hp] at h1
    exact h1
  have own : ∀ c, c < n → Y2 177 c = mu_cd R c n := fun c hc => by rw [b1 177 (by decide) (by decide)]; exact a2 c hc
  have tb : pc_T Y2 (t + 1) = pc_T Z (t + 1) := by unfold pc_T; rw [b1 (t + 1) (by omega) (by omega), a1 (t + 1) (by omega)]
  generalize hT : pc_T Z (t + 1) = T at hB tb
  -- the probe
  have third : ∃ Y, ((∀ o, o ≠ 176 → Y o = Y2 o) ∧ ∀ p, p < n → Y 176 p = mu_cd (st_cn n (T, R)).2 p n ∧ Y 176 (4 + p) = mu_cd (st_cn n (T, R)).1 p n) ∧ f_GR_fillProbe_82 gx_fu (pc_h Y2) 173 t 0 = some (0, pc_h Y) := by
    refine pl_inv (A := fun fu i Y => f_GR_fillProbe_82 fu (pc_h Y) 173 t (i : Int)) (out := fun Y => some (0, pc_h Y)) (Q := fun i Y => (∀ o, o ≠ 176 → Y o = Y2 o) ∧ ∀ p, p < i → Y 176 p = mu_cd (st_cn n (T, R)).2 p n ∧ Y 176 (4 + p) = mu_cd (st_cn n (T, R)).1 p n) n (by omega) (fun i hi Y hQ fu => ?_) (fun fu Y hQ => ?_) Y2 ⟨fun _ _ => rfl, fun c hc => by omega⟩
    · have y1 : Y 173 1 = (n : Int) := by rw [hQ.1 173 (by decide), b1 173 (by decide) (by decide), a1 173 (by decide)]; exact hn
      have yr : ∀ p, p < n → Y 179 p = (mu_rk n R p : Int) := fun p hp => by rw [hQ.1 179 (by decide)]; exact rk p hp
      have yo : ∀ c, c < n → Y 177 c = mu_cd R c n := fun c hc => by rw [hQ.1 177 (by decide)]; exact own c hc
      have yt : pc_T Y (t + 1) = T := by rw [← tb]; unfold pc_T; rw [hQ.1 (t + 1) (by omega)]
      have ri := mu_rk_lt n R i (by omega)
      have bcn := st_cn_bd (n := n) (a := (T, R)) (by omega) hB hD
      have ci := mu_cd_i (D := (st_cn n (T, R)).1) (i := i) hn4 (fun m hm => bcn.1 i hi m hm)
      have inner := pl_loop0 (A := fun gu b => f_GR_fillProbe_95 (f_GR_fillProbe_82 fu) gu (pc_h Y) 173 t (i : Int) (mu_cd (st_cn n (T, R)).1 i b) (b : Int)) (out := f_GR_fillProbe_82 fu (pc_h (gx_up (gx_up Y 176 i (mu_cd R (mu_rk n R i) n)) 176 (4 + i) (mu_cd (st_cn n (T, R)).1 i n))) 173 t ((i : Int) + 1)) n (by omega) (fun b hb gu => ?_) (fun gu => ?_)
      · show ∃ s', _ ∧ fb_GR_fillProbe_82 (f_GR_fillProbe_82 fu) _ _ _ _ = _
        unfold fb_GR_fillProbe_82
        rw [pc_get pc_L173 (by decide) e1, y1, pl_gi (by omega) (by omega), if_pos (by omega)]
        refine ⟨_, ⟨fun o ho => ?_, fun p hp => ?_⟩, inner⟩
        · rw [gx_up_ne ho, gx_up_ne ho]; exact hQ.1 o ho
        · rw [gx_up_at, gx_up_at, gx_up_at, gx_up_at]
          by_cases q : p = i
          · subst q
            rw [if_neg (by omega), if_pos rfl, if_pos rfl]
            exact ⟨mu_cd_cg n fun _ _ => rfl, rfl⟩
          · rw [if_neg (by omega), if_neg q, if_neg (by omega), if_neg (by omega)]; exact hQ.2 p (by omega)
      · show fb_GR_fillProbe_95 (f_GR_fillProbe_82 fu) (f_GR_fillProbe_95 (f_GR_fillProbe_82 fu) gu) _ _ _ _ _ _ = _
        unfold fb_GR_fillProbe_95 f_LE_cell
        have rb := mu_rk_lt n R b (by omega)
        have v : Y (t + 1) (4 * mu_rk n R i + mu_rk n R b) = (st_cn n (T, R)).1 i b := by
          show pc_T Y (t + 1) (mu_rk n R i) (mu_rk n R b) = _
          rw [yt]
          rfl
        rw [pc_get pc_L173 (by decide) e1, y1, pl_gi (by omega) (by omega), if_pos (by omega), pc_gr g0 (by decide) r1 (by omega), pc_gr pc_L173 (by decide) e9 (by decide), pc_ald (i := i) l5 rfl (by omega), yr i hi, pc_gr pc_L173 (by decide) e9 (by decide), pc_ald (i := b) l5 rfl (by omega), yr b hb, pl_call, pc_ald (i := 4 * mu_rk n R i + mu_rk n R b) g1 (by omega) (by omega), v]
        simp only [mu_cd]
        rw [Int.mul_comm 200 (mu_cd (st_cn n (T, R)).1 i b)]
        rfl
      · show fb_GR_fillProbe_95 (f_GR_fillProbe_82 fu) (f_GR_fillProbe_95 (f_GR_fillProbe_82 fu) gu) _ _ _ _ _ _ = _
        unfold fb_GR_fillProbe_95
        rw [pc_get pc_L173 (by decide) e1, y1, pl_gi (by omega) (by omega), if_neg (by omega), pc_gr pc_L173 (by decide) e6 (by decide), pc_gr pc_L173 (by decide) e7 (by decide), pc_gr pc_L173 (by decide) e9 (by decide), pc_ald (i := i) l5 rfl (by omega), yr i hi, pc_ald (i := mu_rk n R i) l3 rfl (by omega), yo _ ri, pc_ast (i := i) (Or.inl rfl) trivial l2 rfl (by omega), pc_gr pc_L173 (by decide) e6 (by decide), pc_ast (i := 4 + i) (Or.inl rfl) ci.1 l2 (by omega) (by omega)]
    · have y1 : Y 173 1 = (n : Int) := by rw [hQ.1 173 (by decide), b1 173 (by decide) (by decide), a1 173 (by decide)]; exact hn
      show fb_GR_fillProbe_82 (f_GR_fillProbe_82 fu) _ _ _ _ = _
      unfold fb_GR_fillProbe_82
      rw [pc_get pc_L173 (by decide) e1, y1, pl_gi (by omega) (by omega), if_neg (by omega)]
  obtain ⟨Y3, ⟨c1, c2⟩, E3⟩ := third
  refine ⟨Y3, E1.trans (E2.trans E3), fun o ho => ?_, fun i hi => ?_, c2⟩
  · rw [c1 o (by omega), b1 o (by omega) (by omega), a1 o (by omega)]
  · rw [c1 178 (by decide)]; exact (b2 i hi).1
