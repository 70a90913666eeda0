/-! exchanges by turns -/
theorem pc_LT : pc_L[193]? = some (11 + 3, 4) ∧ pc_L[200]? = some (0, 4) ∧ pc_L[201]? = some (0, 4) := by decide +kernel
theorem pc_rT : pc_r 193 0 = 194 ∧ pc_r 193 1 = 197 ∧ pc_r 193 2 = 200 ∧ pc_r 193 3 = 201 := by decide +kernel
theorem pc_HT : pc_H 194 = true ∧ pc_H 197 = true := by decide
/-- a growing row of n numbers under n -/
theorem nat_id {n : Nat} {f : Nat → Nat} (h1 : ∀ p, p < n → f p < n) (h2 : ∀ p q, p < q → q < n → f p < f q) : ∀ p, p < n → f p = p := by
  have lo : ∀ p, p < n → p ≤ f p := by
    intro p
    induction p with
    | zero => intro _; omega
    | succ p ih =>
      intro hp
      have a := ih (by omega)
      have b := h2 p (p + 1) (by omega) hp
      omega
  have hi : ∀ d p, p + d + 1 = n → f p ≤ p := by
    intro d
    induction d with
    | zero =>
      intro p hp
      have := h1 p (by omega)
      omega
    | succ d ih =>
      intro p hp
      have a := ih (p + 1) (by omega)
      have b := h2 p (p + 1) (by omega) (by omega)
      omega
  intro p hp
  have a := lo p hp
  have b := hi (n - 1 - p) p (by omega)
  omega
def tu_w (W0 : Nat → Int) (i t : Nat) : Nat → Int := fun q => if t < q ∧ q ≤ i then W0 (q - 1) else W0 q
theorem pc_insert (Y : Nat → Nat → Int) {o t i : Nat} {code : Int} (N : gx_H → Nat → Nat → Int → Option (Int × gx_H)) (hL : pc_L[o]? = some (0, 4)) (hi : i < 4) (hc : gx_i code) : ∀ (p gu : Nat), p ≤ i → p < gu → (∀ q, p ≤ q → q < i → code < Y o q) → ∃ l, l ≤ p ∧ (l = 0 ∨ Y o (l - 1) ≤ code) ∧ (∀ q, l ≤ q → q < i → code < Y o q) ∧ f_TU_fillRanked_19 N gu (pc_h (gx_us Y o (tu_w (Y o) i p))) o t (i : Int) code (p : Int) = N (pc_h (gx_us Y o (gx_u1 (tu_w (Y o) i l) l code))) o t ((i : Int) + 1)
  | 0, gu, hp, hg, hq => by
    obtain ⟨g, rfl⟩ : ∃ g, gu = g + 1 := ⟨gu - 1, by omega⟩
    refine ⟨0, Nat.le_refl _, Or.inl rfl, hq, ?_⟩
    show fb_TU_fillRanked_19 N (f_TU_fillRanked_19 N g) _ _ _ _ _ _ = _
    unfold fb_TU_fillRanked_19 fb_TU_fillRanked_50
    rw [pl_gi (by decide) (by decide), if_neg (by decide), pc_ast (a := ((0 : Nat) : Int)) (i := 0) (Or.inl rfl) hc hL rfl (by decide), gx_up_us]
  | p + 1, gu, hp, hg, hq => by
    obtain ⟨g, rfl⟩ : ∃ g, gu = g + 1 := ⟨gu - 1, by omega⟩
    have rd : gx_us Y o (tu_w (Y o) i (p + 1)) o p = Y o p := by
      rw [gx_us_eq]
      unfold tu_w
      rw [if_neg (by omega)]
    by_cases c : code < Y o p
    · obtain ⟨l, h1, h2, h3, h4⟩ := pc_insert Y N hL hi hc (t := t) p g (by omega) (by omega) (fun q a b => by
        by_cases e : q = p
        · subst e; exact c
        · exact hq q (by omega) b)
      refine ⟨l, by omega, h2, h3, ?_⟩
      rw [← h4]
      show fb_TU_fillRanked_19 N (f_TU_fillRanked_19 N g) _ _ _ _ _ _ = _
      unfold fb_TU_fillRanked_19
      have w : gx_u1 (tu_w (Y o) i (p + 1)) (p + 1) (Y o p) = tu_w (Y o) i p := by
        funext q
        unfold gx_u1 tu_w
        by_cases e : q = p + 1
        · subst e
          rw [if_pos rfl, if_pos (by omega), show p + 1 - 1 = p by omega]
        · rw [if_neg e]
          by_cases d : p + 1 < q ∧ q ≤ i
          · rw [if_pos d, if_pos (by omega)]
          · rw [if_neg d, if_neg (by omega)]
      rw [pl_gi (by omega) (by omega), if_pos (by omega), pc_ald (i := p) hL (by omega) (by omega), rd, gq_g_ok hc, if_pos c, pc_ald (i := p) hL (by omega) (by omega), rd, pc_ast (i := p + 1) (Or.inl rfl) trivial hL rfl (by omega), gx_up_us, w, show ((p + 1 : Nat) : Int) + -1 = (p : Int) by omega]
    · refine ⟨p + 1, Nat.le_refl _, Or.inr (by rw [show p + 1 - 1 = p by omega]; omega), hq, ?_⟩
      show fb_TU_fillRanked_19 N (f_TU_fillRanked_19 N g) _ _ _ _ _ _ = _
      unfold fb_TU_fillRanked_19 fb_TU_fillRanked_50
      rw [pl_gi (by omega) (by omega), if_pos (by omega), pc_ald (i := p) hL (by omega) (by omega), rd, gq_g_ok hc, if_neg c, pc_ast (i := p + 1) (Or.inl rfl) hc hL rfl (by omega), gx_up_us]
/-- the codes as ranked -/
theorem pc_fillRanked (Z : Nat → Nat → Int) {t n o : Nat} (hL : pc_L[o]? = some (0, 4)) (ho : o = 200 ∨ o = 201) (ht : pc_H t = true) (hn : Z t 0 = (n : Int)) (hn4 : n ≤ 4) (hn2 : 2 ≤ n) (hD : mu_bd n (pc_T Z (t + 2))) : ∃ Y, f_TU_fillRanked (pc_h Z) o t = some (0, pc_h Y) ∧ (∀ q, q ≠ o → Y q = Z q) ∧ ∀ p, p < n → Y o p = mu_cd (pc_T Z (t + 2)) (mu_rk n (pc_T Z (t + 2)) p) n := by
  obtain ⟨g0, g1, g2, r0, r1, r2⟩ := pc_H_all t (pc_H_lt ht) ht
  have hto : t ≠ o ∧ t + 2 ≠ o := by
    have h2 : ∀ x ∈ pc_HL, x ≠ 200 ∧ x + 2 ≠ 200 ∧ x ≠ 201 ∧ x + 2 ≠ 201 := by decide
    have := h2 t (pc_H_mem ht)
    omega
  generalize hDD : pc_T Z (t + 2) = D at hD
  have hh := pl_inv (A := fun fu i Y => f_TU_fillRanked_2 fu (pc_h Y) o t (i : Int)) (out := fun Y => some (0, pc_h Y)) (Q := fun i Y => (∀ q, q ≠ o → Y q = Z q) ∧ ∃ s : Nat → Nat, (∀ p, p < i → s p < i) ∧ (∀ p, p < i → Y o p = mu_cd D (s p) n) ∧ ∀ p q, p < q → q < i → mu_lt (fun r => mu_cd D r n) (s p) (s q)) n (by omega) (fun i hi Y hQ fu => ?_) (fun fu Y hQ => ?_) Z ⟨fun _ _ => rfl, fun _ => 0, fun p hp => by omega, fun p hp => by omega, fun p q _ hq => by omega⟩
  · obtain ⟨Y, ⟨h1, s, s1, s2, s3⟩, e⟩ := hh
    refine ⟨Y, e, h1, fun p hp => ?_⟩
    have id : ∀ p, p < n → mu_pa (fun r => mu_cd D r n) (s p) n = p := nat_id (f := fun p => mu_pa (fun r => mu_cd D r n) (s p) n) (fun p hp => (mu_pa_bd n).2 (s1 p hp)) (fun p q hpq hq => mu_pa_ord (s1 p (by omega)) (s3 p q hpq hq))
    have e2 : s p = mu_rk n D p := by
      refine (mu_pl_pm hD).2 _ (s1 p hp) _ (mu_rk_lt n D p (by omega)) ?_
      rw [mu_pl_pa hD (s1 p hp), id p hp, mu_pl_rk hn2 hn4 hD hp]
    rw [s2 p hp, e2]
  · obtain ⟨h1, s, s1, s2, s3⟩ := hQ
    have y0 : Y t 0 = (n : Int) := by rw [h1 t hto.1]; exact hn
    have yD : pc_T Y (t + 2) = D := by rw [← hDD]; unfold pc_T; rw [h1 (t + 2) hto.2]
    have ci := mu_cd_i (D := D) (i := i) hn4 (fun m hm => hD i hi m hm)
    have st0 : gx_us Y o (tu_w (Y o) i i) = Y := gx_us_id (by
      funext q
      unfold tu_w
      rw [if_neg (by omega)])
    obtain ⟨l, l1, l2, l3, E⟩ := pc_insert Y (t := t) (code := mu_cd D i n) (f_TU_fillRanked_2 fu) hL (by omega) ci.1 i gx_fu (Nat.le_refl _) (show i < 1000000 by omega) (fun q a b => by omega)
    rw [st0] at E
    show ∃ s', _ ∧ fb_TU_fillRanked_2 (f_TU_fillRanked_2 fu) _ _ _ _ = _
    unfold fb_TU_fillRanked_2
    rw [pc_get g0 (by decide) r0, y0, pl_gi (by omega) (by omega), if_pos (by omega), pc_cv g0, pc_code Y ht y0 hn4 rfl (by omega), pl_call, yD, E]
    have sle : ∀ p q, p ≤ q → q < i → mu_cd D (s p) n ≤ mu_cd D (s q) n := fun p q hpq hq => by
      by_cases e : p = q
      · subst e; exact Int.le_refl _
      · have z : mu_cd D (s p) n < mu_cd D (s q) n ∨ (mu_cd D (s p) n = mu_cd D (s q) n ∧ s p < s q) := s3 p q (by omega) hq
        omega
    refine ⟨gx_us Y o (gx_u1 (tu_w (Y o) i l) l (mu_cd D i n)), ⟨fun q hq => by rw [gx_us_ne hq]; exact h1 q hq, fun q => if q = l then i else if l < q then s (q - 1) else s q, fun p hp => ?_, fun p hp => ?_, fun p q hpq hq => ?_⟩, rfl⟩
    · show (if p = l then i else if l < p then s (p - 1) else s p) < i + 1
      by_cases c : p = l
      · rw [if_pos c]; omega
      · rw [if_neg c]
        by_cases d : l < p
        · rw [if_pos d]; have := s1 (p - 1) (by omega); omega
        · rw [if_neg d]; have := s1 p (by omega); omega
    · rw [gx_us_eq]
      show gx_u1 (tu_w (Y o) i l) l (mu_cd D i n) p = mu_cd D (if p = l then i else if l < p then s (p - 1) else s p) n
      unfold gx_u1
      by_cases c : p = l
      · rw [if_pos c, if_pos c]
      · rw [if_neg c, if_neg c]
        unfold tu_w
        by_cases d : l < p
        · rw [if_pos (by omega), if_pos d]; exact s2 (p - 1) (by omega)
        · rw [if_neg (by omega), if_neg d]; exact s2 p (by omega)
    · show mu_lt (fun r => mu_cd D r n) (if p = l then i else if l < p then s (p - 1) else s p) (if q = l then i else if l < q then s (q - 1) else s q)
      by_cases c : p = l
      · subst c
        rw [if_pos rfl, if_neg (by omega), if_pos hpq]
        have a := l3 (q - 1) (by omega) (by omega)
        rw [s2 (q - 1) (by omega)] at a
        exact Or.inl a
      · rw [if_neg c]
        by_cases d : l < p
        · rw [if_pos d, if_neg (by omega), if_pos (by omega)]
          exact s3 (p - 1) (q - 1) (by omega) (by omega)
        · rw [if_neg d]
          by_cases e : q = l
          · subst e
            rw [if_pos rfl]
            rcases l2 with z | z
            · omega
            · have a := sle p (q - 1) (by omega) (by omega)
              rw [s2 (q - 1) (by omega)] at z
              have b := s1 p (by omega)
              show mu_cd D (s p) n < mu_cd D i n ∨ (mu_cd D (s p) n = mu_cd D i n ∧ s p < i)
              omega
          · rw [if_neg e]
            by_cases f : l < q
            · rw [if_pos f]
              exact s3 p (q - 1) (by omega) (by omega)
            · rw [if_neg f]
              exact s3 p q hpq (by omega)
  · have y0 : Y t 0 = (n : Int) := by rw [hQ.1 t hto.1]; exact hn
    show fb_TU_fillRanked_2 (f_TU_fillRanked_2 fu) _ _ _ _ = _
    unfold fb_TU_fillRanked_2
    rw [pc_get g0 (by decide) r0, y0, pl_gi (by omega) (by omega), if_neg (by omega)]
theorem pc_areAlike (Z : Nat → Nat → Int) {n : Nat} {a : Int} (ha : a = (n : Int)) (hn4 : n ≤ 4) : ((∀ p, p < n → Z 200 p = Z 201 p) → f_TU_areAlike (pc_h Z) 200 201 a = some (1, pc_h Z)) ∧ (¬ (∀ p, p < n → Z 200 p = Z 201 p) → f_TU_areAlike (pc_h Z) 200 201 a = some (0, pc_h Z)) := by
  subst ha
  obtain ⟨-, l1, l2⟩ := pc_LT
  have h := pl_srch0 (A := fun fu i => f_TU_areAlike_2 fu (pc_h Z) 200 201 (n : Int) (i : Int)) (out := some ((1 : Int), pc_h Z)) (bad := some (0, pc_h Z)) n (by omega) (fun p => Z 200 p = Z 201 p) (fun i hi fu => ?_) (fun fu => ?_)
  · exact ⟨fun z => h.trans (if_pos z), fun z => h.trans (if_neg z)⟩
  · show fb_TU_areAlike_2 (f_TU_areAlike_2 fu) _ _ _ _ _ = _
    unfold fb_TU_areAlike_2
    rw [pl_gi (by omega) (by omega), pl_gi (by omega) (by omega), if_pos (by omega), pc_ald (i := i) l1 rfl (by omega), pc_ald (i := i) l2 rfl (by omega)]
    rfl
  · show fb_TU_areAlike_2 (f_TU_areAlike_2 fu) _ _ _ _ _ = _
    unfold fb_TU_areAlike_2
    rw [pl_gi (by omega) (by omega), pl_gi (by omega) (by omega), if_neg (by omega)]
theorem pm_isHome (X : Nat → Nat → Int) {n : Nat} (hn : X 0 1 = (n : Int)) (hn4 : n ≤ 4) (hn2 : 2 ≤ n) : ((∀ p, p < n → ∀ m, m < n → pm_T X 24 (mu_rk n (pm_T X 24) p) m = pm_T X 1944 (mu_rk n (pm_T X 1944) p) m) → f_MD_isHome (pm_h X) 0 = some (1, pm_h X)) ∧ (¬ (∀ p, p < n → ∀ m, m < n → pm_T X 24 (mu_rk n (pm_T X 24) p) m = pm_T X 1944 (mu_rk n (pm_T X 1944) p) m) → f_MD_isHome (pm_h X) 0 = some (0, pm_h X)) := by
  have h := pl_srch0 (A := fun fu p => f_MD_isHome_2 fu (pm_h X) 0 (p : Int)) (out := some ((1 : Int), pm_h X)) (bad := some (0, pm_h X)) n (by omega) (fun p => ∀ m, m < n → pm_T X 24 (mu_rk n (pm_T X 24) p) m = pm_T X 1944 (mu_rk n (pm_T X 1944) p) m) (fun p hp fu => ?_) (fun fu => ?_)
  · exact ⟨fun z => h.trans (if_pos z), fun z => h.trans (if_neg z)⟩
  · have ra : f_MD_rankedAt (pm_h X) 0 0 (p : Int) = some ((mu_rk n (pm_T X 24) p : Int), pm_h X) := pm_rankedAt X (a := 0) (x := 0) (p := p) hn hn4 rfl rfl (by omega) (by decide)
    have rb : f_MD_rankedAt (pm_h X) 0 1920 (p : Int) = some ((mu_rk n (pm_T X 1944) p : Int), pm_h X) := pm_rankedAt X (a := 1920) (x := 1920) (p := p) hn hn4 rfl rfl (by omega) (by decide)
    have la := mu_rk_lt n (pm_T X 24) p (by omega)
    have lb := mu_rk_lt n (pm_T X 1944) p (by omega)
    show fb_MD_isHome_2 (f_MD_isHome_2 fu) _ _ _ = _
    unfold fb_MD_isHome_2
    rw [pm_get (by decide) rfl, hn, pl_gi (by omega) (by omega), if_pos (by omega)]
    refine pl_srch0 (A := fun gu m => f_MD_isHome_12 (f_MD_isHome_2 fu) gu (pm_h X) 0 (p : Int) (m : Int)) n (by omega) (fun m => pm_T X 24 (mu_rk n (pm_T X 24) p) m = pm_T X 1944 (mu_rk n (pm_T X 1944) p) m) (fun m hm gu => ?_) (fun gu => ?_)
    · show fb_MD_isHome_12 (f_MD_isHome_2 fu) (f_MD_isHome_12 (f_MD_isHome_2 fu) gu) _ _ _ _ = _
      unfold fb_MD_isHome_12
      rw [pm_get (by decide) rfl, hn, pl_gi (by omega) (by omega), if_pos (by omega), pm_gr (t := 1) (by decide) rfl (by decide), pm_cv, ra, pl_call, pm_ald (o := 1) (i := 24 + 4 * mu_rk n (pm_T X 24) p + m) (by omega) (by show _ < 2000; omega), pm_gr (t := 1) (by decide) rfl (by decide), pm_cv, rb, pl_call, pm_ald (o := 1) (i := 1944 + 4 * mu_rk n (pm_T X 1944) p + m) (by omega) (by show _ < 2000; omega)]
      rfl
    · show fb_MD_isHome_12 (f_MD_isHome_2 fu) (f_MD_isHome_12 (f_MD_isHome_2 fu) gu) _ _ _ _ = _
      unfold fb_MD_isHome_12
      rw [pm_get (by decide) rfl, hn, pl_gi (by omega) (by omega), if_neg (by omega)]
      rfl
  · show fb_MD_isHome_2 (f_MD_isHome_2 fu) _ _ _ = _
    unfold fb_MD_isHome_2
    rw [pm_get (by decide) rfl, hn, pl_gi (by omega) (by omega), if_neg (by omega)]
