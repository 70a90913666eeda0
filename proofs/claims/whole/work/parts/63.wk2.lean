/-! the class numbers the stands -/
theorem wk_A_old {n N W s k r : Nat} {Z : Nat → Nat → Int} {gn : Nat → st_t} {gl : Nat → Nat → Nat} {st fr bw : Nat → Nat} {ld : Nat → Nat → Nat} (hG : wk_G n Z N gn gl) (h : wk_A n Z N gn gl W st fr bw ld s k) (hs : s < W) (hk : k < n) (hr : r < W) (he : st r = gl (st s) k) : wk_A n Z N gn gl W st fr bw (bf_ld ld s k r) s (k + 1) := by
  obtain ⟨a1, a2, a3, a4, a5, a6, a7, a8, a9, a10⟩ := h
  have e := (hG.2.2.2.2 (st s) k (a4 s hs).2.1 hk).2.2
  rw [← he] at e
  refine ⟨a1, a2, bf_old a3 hs hr e, a4, a5, fun s' k' hl hk' => ?_, a7, a8, a9, a10⟩
  by_cases c : s' = s ∧ k' = k
  · obtain ⟨x1, x2⟩ := c
    subst x1 x2
    rw [bf_ld_at]
    exact he
  · have hl' : bf_lx s' k' s k := by unfold bf_lx at *; omega
    rw [bf_ld_lx hl']
    exact a6 s' k' hl' hk'
theorem wk_room {n N W g : Nat} {Z : Nat → Nat → Int} {gn : Nat → st_t} {gl : Nat → Nat → Nat} {st fr bw : Nat → Nat} {ld : Nat → Nat → Nat} {s k : Nat} (h : wk_A n Z N gn gl W st fr bw ld s k) (hg : g < N) (hno : ∀ t, t < W → st t ≠ g) : W + 1 ≤ N := by
  refine nat_hole N (W + 1) (bf_u1 st W g) (fun t ht => ?_) (fun t u htu hu => ?_)
  · by_cases c : t = W
    · subst c; rw [bf_u1_at]; exact hg
    · rw [bf_u1_ne c]; exact (h.2.2.2.1 t (by omega)).2.1
  · rw [bf_u1_ne (show t ≠ W by omega)]
    by_cases c : u = W
    · subst c; rw [bf_u1_at]; exact hno t htu
    · rw [bf_u1_ne c]
      intro e
      have e1 := (h.2.2.2.1 t (by omega)).2.2.1
      have e2 := (h.2.2.2.1 u (by omega)).2.2.1
      rw [e] at e1
      omega
theorem wk_A_new {n N W s k g : Nat} {Z Y : Nat → Nat → Int} {gn : Nat → st_t} {gl : Nat → Nat → Nat} {st fr bw : Nat → Nat} {ld : Nat → Nat → Nat} (hG : wk_G n Z N gn gl) (h : wk_A n Z N gn gl W st fr bw ld s k) (hs : s < W) (hk : k < n) (hg : g = gl (st s) k) (hno : ∀ t, t < W → st t ≠ g) (h187 : Y 187 0 = ((W + 1 : Nat) : Int)) (h188 : ∀ q, Y 188 q = if q = W then (g : Int) else Z 188 q) (h189 : ∀ q, Y 189 q = if q = g then (W : Int) else Z 189 q) (h190 : ∀ q, Y 190 q = if q = W then Z 190 s + 1 else Z 190 q) (h191 : ∀ q, Y 191 q = if q = W then (s : Int) else Z 191 q) (h192 : ∀ q, Y 192 q = if q = W then (k : Int) else Z 192 q) : wk_A n Y N gn gl (W + 1) (bf_u1 st W g) (bf_u1 fr W s) (bf_u1 bw W k) (bf_ld ld s k W) s (k + 1) := by
  have gd := hG.2.2.2.2 (st s) k (h.2.2.2.1 s hs).2.1 hk
  rw [← hg] at gd
  have room := wk_room h gd.2.1 hno
  obtain ⟨a1, a2, a3, a4, a5, a6, a7, a8, a9, a10⟩ := h
  have hW0 := a3.1
  have nf : (fun t => gn (bf_u1 st W g t)) = bf_u1 (fun t => gn (st t)) W (gn g) := by
    funext t
    by_cases c : t = W
    · subst c; rw [bf_u1_at, bf_u1_at]
    · rw [bf_u1_ne c, bf_u1_ne c]
  refine ⟨h187, room, ?_, fun t ht => ?_, fun g' hg' => ?_, fun s' k' hl hk' => ?_, ?_, ?_, ?_, fun t h1 h2 => ?_⟩
  · rw [nf]
    refine bf_new a3 hs hk gd.2.2 (fun r hr z => ?_)
    exact hno r hr (gr_idx hG.2.2.2.1 gd.2.1 (a4 r hr).2.1 z).symm
  · rw [h188, h189, h190]
    by_cases c : t = W
    · subst c
      rw [if_pos rfl, bf_u1_at, if_pos rfl, if_pos rfl]
      have := (a4 s hs).2.2.2
      exact ⟨rfl, gd.2.1, rfl, by omega, by omega⟩
    · obtain ⟨b1, b2, b3, b4⟩ := a4 t (by omega)
      rw [if_neg c, bf_u1_ne c, if_neg (hno t (by omega)), if_neg c]
      exact ⟨b1, b2, b3, b4⟩
  · rw [h189]
    by_cases c : g' = g
    · exact Or.inr ⟨W, by omega, by rw [bf_u1_at]; exact c.symm⟩
    · rw [if_neg c]
      rcases a5 g' hg' with q | ⟨t, ht, q⟩
      · exact Or.inl q
      · exact Or.inr ⟨t, by omega, by rw [bf_u1_ne (by omega)]; exact q⟩
  · by_cases c : s' = s ∧ k' = k
    · obtain ⟨x1, x2⟩ := c
      subst x1 x2
      rw [bf_ld_at, bf_u1_at, bf_u1_ne (by omega)]
      exact hg
    · have hl' : bf_lx s' k' s k := by unfold bf_lx at *; omega
      have q := (a3.2.1 s' k' hl' hk')
      rw [bf_ld_lx hl', bf_u1_ne (by omega), bf_u1_ne (by omega)]
      exact a6 s' k' hl' hk'
  · rw [h190, if_neg (by omega)]; exact a7
  · rw [h191, if_neg (by omega)]; exact a8
  · rw [h192, if_neg (by omega)]; exact a9
  · rw [h191, h192, h190, h190]
    by_cases c : t = W
    · subst c
      rw [if_pos rfl, if_pos rfl, if_pos rfl, bf_u1_at, bf_u1_at, if_neg (by omega)]
      exact ⟨rfl, rfl, rfl⟩
    · have q := (a3.2.2.1 t h1 (by omega)).1
      rw [if_neg c, if_neg c, if_neg c, bf_u1_ne c, bf_u1_ne c, if_neg (by omega)]
      exact a10 t h1 (by omega)
theorem wk_A_row {n N W s : Nat} {Z : Nat → Nat → Int} {gn : Nat → st_t} {gl : Nat → Nat → Nat} {st fr bw : Nat → Nat} {ld : Nat → Nat → Nat} (h : wk_A n Z N gn gl W st fr bw ld s n) : wk_A n Z N gn gl W st fr bw ld (s + 1) 0 := by
  obtain ⟨a1, a2, a3, a4, a5, a6, a7⟩ := h
  exact ⟨a1, a2, bf_row a3, a4, a5, fun s' k' hl hk' => a6 s' k' (by unfold bf_lx at *; omega) hk', a7⟩
theorem wk_G_cg {n N : Nat} {Z Y : Nat → Nat → Int} {gn : Nat → st_t} {gl : Nat → Nat → Nat} (h : wk_G n Z N gn gl) (e : ∀ o, (o < 187 ∨ 192 < o) → Y o = Z o) : wk_G n Y N gn gl := by
  obtain ⟨a1, a2, a3, a4, a5⟩ := h
  exact ⟨by rw [e 173 (by decide)]; exact a1, by rw [e 173 (by decide)]; exact a2, a3, a4, fun t k ht hk => by rw [e 174 (by decide)]; exact a5 t k ht hk⟩
def wk_end (n : Nat) (Z : Nat → Nat → Int) (N : Nat) (gn : Nat → st_t) (gl : Nat → Nat → Nat) (g0 : Nat) (x : Option (Int × gx_H)) : Prop := ∃ (Y : Nat → Nat → Int) (W : Nat) (st fr bw : Nat → Nat) (ld : Nat → Nat → Nat), x = some (0, pc_h Y) ∧ (∀ o, (o < 187 ∨ 192 < o) → Y o = Z o) ∧ wk_A n Y N gn gl W st fr bw ld W 0 ∧ st 0 = g0
theorem pc_number_in (Z Y0 : Nat → Nat → Int) {n N W s g0 : Nat} {gn : Nat → st_t} {gl : Nat → Nat → Nat} {st fr bw : Nat → Nat} {ld : Nat → Nat → Nat} (hn4 : n ≤ 4) (hG : wk_G n Z N gn gl) (hY : ∀ o, (o < 187 ∨ 192 < o) → Y0 o = Z o) (h : wk_A n Y0 N gn gl W st fr bw ld s 0) (hs : s < W) (h0 : st 0 = g0) (fu : Nat) :
    ∃ (Y : Nat → Nat → Int) (W' : Nat) (st' fr' bw' : Nat → Nat) (ld' : Nat → Nat → Nat), (∀ o, (o < 187 ∨ 192 < o) → Y o = Z o) ∧ wk_A n Y N gn gl W' st' fr' bw' ld' (s + 1) 0 ∧ s < W' ∧ st' 0 = g0 ∧ f_WA_number_61 (f_WA_number_43 fu) gx_fu (pc_h Y0) 187 173 (s : Int) 0 = f_WA_number_43 fu (pc_h Y) 187 173 ((s + 1 : Nat) : Int) := by
  obtain ⟨l0, l1, l2, l3, l4, l5⟩ := pc_LW
  obtain ⟨e0, e1, e2, e3, e4, e5⟩ := pc_rW
  obtain ⟨m0, -, -, -, -, -, -⟩ := pc_LG
  obtain ⟨-, i1, -, -, i4, -, -, -, -, -, -, -, -⟩ := pc_rG
  have hh := pl_inv (A := fun gu k Y => f_WA_number_61 (f_WA_number_43 fu) gu (pc_h Y) 187 173 (s : Int) (k : Int)) (out := fun Y => f_WA_number_43 fu (pc_h Y) 187 173 ((s + 1 : Nat) : Int)) (Q := fun k Y => (∀ o, (o < 187 ∨ 192 < o) → Y o = Z o) ∧ ∃ (W' : Nat) (st' fr' bw' : Nat → Nat) (ld' : Nat → Nat → Nat), wk_A n Y N gn gl W' st' fr' bw' ld' s k ∧ s < W' ∧ st' 0 = g0) n (by omega) (fun k hk Y hQ gu => ?_) (fun gu Y hQ => ?_) Y0 ⟨hY, W, st, fr, bw, ld, h, hs, h0⟩
  · obtain ⟨Y, ⟨q1, W', st', fr', bw', ld', q2, q3, q4⟩, e⟩ := hh
    exact ⟨Y, W', st', fr', bw', ld', q1, wk_A_row q2, q3, q4, e⟩
  · obtain ⟨q1, W', st', fr', bw', ld', hA, hs', h0'⟩ := hQ
    have hGY := wk_G_cg hG q1
    have hN2 := hG.2.2.1
    obtain ⟨b1, b2, b3, b4, b5⟩ := hA.2.2.2.1 s hs'
    have hWN := hA.2.1
    obtain ⟨d1, d2, d3⟩ := hGY.2.2.2.2 (st' s) k b2 hk
    show ∃ s', _ ∧ fb_WA_number_61 (f_WA_number_43 fu) (f_WA_number_61 (f_WA_number_43 fu) gu) _ _ _ _ _ = _
    unfold fb_WA_number_61
    rw [pc_get pc_L173 (by decide) i1, hGY.1, pl_gi (by omega) (by omega), if_pos (by omega), pc_gr pc_L173 (by decide) i4 (by decide), pc_gr l0 (by decide) e1 (by decide), pc_ald (i := s) l1 rfl (by omega), b1, pc_ald (i := 4 * st' s + k) m0 (by omega) (by omega), d1, if_neg (by omega), pc_gr l0 (by decide) e2 (by decide), pc_ald (i := gl (st' s) k) l2 rfl (by omega)]
    rcases hA.2.2.2.2.1 (gl (st' s) k) d2 with q | ⟨r, hr, q⟩
    · have hno : ∀ t, t < W' → st' t ≠ gl (st' s) k := fun t ht e => by
        have := (hA.2.2.2.1 t ht).2.2.1
        rw [e, q] at this
        omega
      have room := wk_room hA d2 hno
      obtain ⟨Y', E, c1, c2, c3, c4, c5, c6, c7⟩ := pc_add Y (W := W') (g := gl (st' s) k) (s := s) (k := k) hA.1 (by omega) rfl (by omega) rfl hs' rfl (by omega) ⟨b4, b5⟩
      rw [if_pos q, pc_cv l0, E, pl_call]
      exact ⟨Y', ⟨fun o ho => (c1 o ho).trans (q1 o ho), W' + 1, _, _, _, _, wk_A_new hGY hA hs' hk rfl hno c2 c3 c4 c5 c6 c7, by omega, by rw [bf_u1_ne (by have := hA.2.2.1.1; omega)]; exact h0'⟩, rfl⟩
    · have e9 := (hA.2.2.2.1 r hr).2.2.1
      rw [q] at e9
      rw [if_neg (by omega)]
      exact ⟨Y, ⟨q1, W', st', fr', bw', _, wk_A_old hGY hA hs' hk hr q, hs', h0'⟩, rfl⟩
  · obtain ⟨q1, -⟩ := hQ
    have hGY := wk_G_cg hG q1
    show fb_WA_number_61 (f_WA_number_43 fu) (f_WA_number_61 (f_WA_number_43 fu) gu) _ _ _ _ _ = _
    unfold fb_WA_number_61
    rw [pc_get pc_L173 (by decide) i1, hGY.1, pl_gi (by omega) (by omega), if_neg (by omega)]
    rfl
theorem pc_number_out (Z Y0 : Nat → Nat → Int) {n N W g0 : Nat} {gn : Nat → st_t} {gl : Nat → Nat → Nat} {st fr bw : Nat → Nat} {ld : Nat → Nat → Nat} (hn4 : n ≤ 4) (hG : wk_G n Z N gn gl) (hY : ∀ o, (o < 187 ∨ 192 < o) → Y0 o = Z o) (h : wk_A n Y0 N gn gl W st fr bw ld 0 0) (h0 : st 0 = g0) : wk_end n Z N gn gl g0 (f_WA_number_43 gx_fu (pc_h Y0) 187 173 0) := by
  obtain ⟨l0, l1, l2, l3, l4, l5⟩ := pc_LW
  obtain ⟨e0, e1, e2, e3, e4, e5⟩ := pc_rW
  refine pl_invF (A := fun fu s Y => f_WA_number_43 fu (pc_h Y) 187 173 (s : Int)) (Q := fun s Y => (∀ o, (o < 187 ∨ 192 < o) → Y o = Z o) ∧ ∃ (W' : Nat) (st' fr' bw' : Nat → Nat) (ld' : Nat → Nat → Nat), wk_A n Y N gn gl W' st' fr' bw' ld' s 0 ∧ s ≤ W' ∧ st' 0 = g0) (F := wk_end n Z N gn gl g0) 200 (by decide) (fun s Y hk hQ fu => ?_) Y0 ⟨hY, W, st, fr, bw, ld, h, Nat.zero_le _, h0⟩
  obtain ⟨q1, W', st', fr', bw', ld', hA, hs', h0'⟩ := hQ
  have hN2 := hG.2.2.1
  have hWN := hA.2.1
  show wk_end n Z N gn gl g0 (fb_WA_number_43 (f_WA_number_43 fu) _ _ _ _) ∨ (_ ∧ ∃ s', _ ∧ fb_WA_number_43 (f_WA_number_43 fu) _ _ _ _ = _)
  unfold fb_WA_number_43
  rw [pc_get l0 (by decide) e0, hA.1, pl_gi (by omega) (by omega)]
  by_cases c : s < W'
  · rw [if_pos (by omega), if_pos (by omega)]
    obtain ⟨Y2, W2, st2, fr2, bw2, ld2, v1, v2, v3, v4, v5⟩ := pc_number_in Z Y hn4 hG q1 hA c h0' fu
    exact Or.inr ⟨by omega, Y2, ⟨v1, W2, st2, fr2, bw2, ld2, v2, v3, v4⟩, v5⟩
  · have es : s = W' := by omega
    subst es
    rw [if_neg (by omega)]
    exact Or.inl ⟨Y, s, st', fr', bw', ld', rfl, q1, hA, h0'⟩
theorem pc_number (Z : Nat → Nat → Int) {n N g0 : Nat} {a : Int} {gn : Nat → st_t} {gl : Nat → Nat → Nat} (hn4 : n ≤ 4) (hG : wk_G n Z N gn gl) (ha : a = (g0 : Int)) (hg : g0 < N) : wk_end n Z N gn gl g0 (f_WA_number (pc_h Z) 187 173 a) := by
  subst ha
  obtain ⟨l0, l1, l2, l3, l4, l5⟩ := pc_LW
  obtain ⟨e0, e1, e2, e3, e4, e5⟩ := pc_rW
  obtain ⟨i0, -, -, -, -, -, -, -, -, -, -, -, -⟩ := pc_rG
  have hN2 := hG.2.2.1
  unfold f_WA_number
  rw [pc_put trivial l0 (by decide) e0]
  generalize hZ1 : gx_up Z 187 0 0 = Z1
  have z1 : ∀ o, o ≠ 187 → Z1 o = Z o := fun o ho => by rw [← hZ1, gx_up_ne ho]
  have z0 : Z1 187 0 = 0 := by rw [← hZ1, gx_up_at, if_pos rfl]
  have hh := pl_inv (A := fun fu i Y => f_WA_number_7 fu (pc_h Y) 187 173 (g0 : Int) (i : Int)) (out := fun Y => gq_call (f_WA_add (pc_h Y) 187 (g0 : Int) (-1) (-1)) (fun _ h6 => f_WA_number_43 gx_fu h6 187 173 0)) (Q := fun i Y => (∀ o, o ≠ 189 → Y o = Z1 o) ∧ ∀ q, q < i → Y 189 q = -1) N (by omega) (fun i hi Y hQ fu => ?_) (fun fu Y hQ => ?_) Z1 ⟨fun _ _ => rfl, fun q hq => by omega⟩
  · obtain ⟨Y, ⟨q1, q2⟩, e⟩ := hh
    obtain ⟨Y', E, c1, c2, c3, c4, c5, c6, c7⟩ := pc_add0 Y (g := g0) (by rw [q1 187 (by decide)]; exact z0) rfl (by omega)
    have e' : f_WA_number_7 gx_fu (pc_h Z1) 187 173 (g0 : Int) 0 = f_WA_number_43 gx_fu (pc_h Y') 187 173 0 := by
      have e'' : f_WA_number_7 gx_fu (pc_h Z1) 187 173 (g0 : Int) 0 = gq_call (f_WA_add (pc_h Y) 187 (g0 : Int) (-1) (-1)) (fun _ h6 => f_WA_number_43 gx_fu h6 187 173 0) := e
      rw [e'', E, pl_call]
    rw [e']
    refine pc_number_out Z Y' (W := 1) (st := fun _ => g0) (fr := fun _ => 0) (bw := fun _ => 0) (ld := fun _ _ => 0) hn4 hG (fun o ho => ?_) ⟨c2, by omega, bf_begin, fun t ht => ?_, fun g hg' => ?_, fun s' k' hl _ => by unfold bf_lx at hl; omega, c5, c6, c7, fun t h1 h2 => by omega⟩ rfl
    · rw [c1 o ho, q1 o (by omega), z1 o (by omega)]
    · have : t = 0 := by omega
      subst this
      rw [c3, if_pos rfl, c4, if_pos rfl, c5]
      exact ⟨rfl, hg, rfl, Int.le_refl _, Int.le_refl _⟩
    · rw [c4]
      by_cases c : g = g0
      · exact Or.inr ⟨0, by decide, c.symm⟩
      · rw [if_neg c]
        exact Or.inl (q2 g hg')
  · have y0 : Y 173 0 = (N : Int) := by rw [hQ.1 173 (by decide), z1 173 (by decide)]; exact hG.2.1
    show ∃ s', _ ∧ fb_WA_number_7 (f_WA_number_7 fu) _ _ _ _ _ = _
    unfold fb_WA_number_7
    rw [pc_get pc_L173 (by decide) i0, y0, pl_gi (by omega) (by omega), if_pos (by omega), pc_gr l0 (by decide) e2 (by decide), pc_ast (i := i) (Or.inl rfl) trivial l2 rfl (by omega)]
    refine ⟨_, ⟨fun o ho => ?_, fun q hq => ?_⟩, rfl⟩
    · rw [gx_up_ne ho]; exact hQ.1 o ho
    · rw [gx_up_at]
      by_cases c : q = i
      · rw [if_pos c]
      · rw [if_neg c]; exact hQ.2 q (by omega)
  · have y0 : Y 173 0 = (N : Int) := by rw [hQ.1 173 (by decide), z1 173 (by decide)]; exact hG.2.1
    show fb_WA_number_7 (f_WA_number_7 fu) _ _ _ _ _ = _
    unfold fb_WA_number_7
    rw [pc_get pc_L173 (by decide) i0, y0, pl_gi (by omega) (by omega), if_neg (by omega), pl_gi (by omega) (by omega), if_neg (by omega), pc_cv l0]
/-! questions to the walk -/
theorem pc_lacks (Z : Nat → Nat → Int) {W : Nat} {v : Int} (hW : Z 187 0 = (W : Int)) (hv : gx_i v) : f_WA_lacks (pc_h Z) 187 v = some (if 0 ≤ v ∧ v < (W : Int) then 0 else 1, pc_h Z) := by
  obtain ⟨l0, l1, l2, l3, l4, l5⟩ := pc_LW
  obtain ⟨e0, e1, e2, e3, e4, e5⟩ := pc_rW
  unfold f_WA_lacks fb_WA_lacks_12
  rw [gq_g_ok hv]
  by_cases c : v < 0
  · rw [if_pos c, if_neg (by omega)]
  · rw [if_neg c, pc_get l0 (by decide) e0, hW]
    by_cases d : v < (W : Int)
    · rw [if_pos d, if_pos (by omega)]
    · rw [if_neg d, if_neg (by omega)]
theorem pc_lead (Z : Nat → Nat → Int) {s k g r : Nat} {a b : Int} (ha : a = (s : Int)) (hb : b = (k : Int)) (hs : s < 200) (hk : k < 4) {t : Nat} (h1 : Z 188 s = (t : Int)) (ht : t < 200) (h2 : Z 174 (4 * t + k) = (g : Int)) (hg : g < 200) (h3 : Z 189 g = (r : Int)) : f_WA_lead (pc_h Z) 187 173 a b = some ((r : Int), pc_h Z) := by
  subst ha hb
  obtain ⟨l0, l1, l2, l3, l4, l5⟩ := pc_LW
  obtain ⟨e0, e1, e2, e3, e4, e5⟩ := pc_rW
  obtain ⟨m0, -, -, -, -, -, -⟩ := pc_LG
  obtain ⟨-, i1, -, -, i4, -, -, -, -, -, -, -, -⟩ := pc_rG
  unfold f_WA_lead
  rw [pc_gr pc_L173 (by decide) i4 (by decide), pc_gr l0 (by decide) e1 (by decide), pc_ald (i := s) l1 rfl hs, h1, pc_ald (i := 4 * t + k) m0 (by omega) (by omega), h2, if_neg (by omega), pc_gr l0 (by decide) e2 (by decide), pc_ald (i := g) l2 rfl hg, h3]
theorem pc_far (Z : Nat → Nat → Int) {W : Nat} (hW : Z 187 0 = (W : Int)) (h0 : 0 < W) (hW2 : W ≤ 200) : f_WA_far (pc_h Z) 187 = some (Z 190 (W - 1), pc_h Z) := by
  obtain ⟨l0, l1, l2, l3, l4, l5⟩ := pc_LW
  obtain ⟨e0, e1, e2, e3, e4, e5⟩ := pc_rW
  unfold f_WA_far
  rw [pc_get l0 (by decide) e0, hW, if_pos (by omega), pc_gr l0 (by decide) e3 (by decide), pc_get l0 (by decide) e0, hW, pc_ald (i := W - 1) l3 (by omega) (by omega)]
def mu_ct (f : Nat → Int) (v : Int) : Nat → Nat
  | 0 => 0
  | i + 1 => mu_ct f v i + (if f i = v then 1 else 0)
theorem mu_ct_cg {f g : Nat → Int} {v : Int} : ∀ n, (∀ i, i < n → f i = g i) → mu_ct f v n = mu_ct g v n
  | 0, _ => rfl
  | n + 1, h => by
    simp only [mu_ct]
    rw [mu_ct_cg n fun i hi => h i (by omega), h n (by omega)]
theorem mu_ct_le {f : Nat → Int} {v : Int} : ∀ n, mu_ct f v n ≤ n
  | 0 => Nat.le_refl _
  | n + 1 => by
    have := mu_ct_le (f := f) (v := v) n
    simp only [mu_ct]
    split <;> omega
theorem pc_countAway (Z : Nat → Nat → Int) {W : Nat} {v : Int} (hW : Z 187 0 = (W : Int)) (hW2 : W ≤ 200) (hv : gx_i v) : f_WA_countAway (pc_h Z) 187 v = some ((mu_ct (Z 190) v W : Int), pc_h Z) := by
  obtain ⟨l0, l1, l2, l3, l4, l5⟩ := pc_LW
  obtain ⟨e0, e1, e2, e3, e4, e5⟩ := pc_rW
  unfold f_WA_countAway
  refine pl_loop0 (A := fun fu i => f_WA_countAway_4 fu (pc_h Z) 187 v (mu_ct (Z 190) v i : Int) (i : Int)) W (by omega) (fun i hi fu => ?_) (fun fu => ?_)
  · show fb_WA_countAway_4 (f_WA_countAway_4 fu) _ _ _ _ _ = _
    unfold fb_WA_countAway_4
    rw [pc_get l0 (by decide) e0, hW, pl_gi (by omega) (by omega), if_pos (by omega), pc_gr l0 (by decide) e3 (by decide), pc_ald (i := i) l3 rfl (by omega), gq_g_ok hv]
    by_cases c : Z 190 i = v
    · rw [if_pos c]
      simp only [mu_ct, if_pos c]
      rfl
    · rw [if_neg c]
      simp only [mu_ct, if_neg c]
      rfl
  · show fb_WA_countAway_4 (f_WA_countAway_4 fu) _ _ _ _ _ = _
    unfold fb_WA_countAway_4
    rw [pc_get l0 (by decide) e0, hW, pl_gi (by omega) (by omega), if_neg (by omega)]
theorem pc_rowNumber (Z : Nat → Nat → Int) {n g k m : Nat} {a b c : Int} {A : Nat → Nat → Int} (hn : Z 173 1 = (n : Int)) (hn4 : n ≤ 4) (ha : a = (g : Int)) (hg : g < 200) (hb : b = (k : Int)) (hk : k < n) (hc : c = (m : Int)) (hm : m < n) (hA : ∀ m, m < n → mu_in (A k m)) (h : Z 175 (8 * g + k) = mu_cd A k n) : f_GR_rowNumber (pc_h Z) 173 a b c = some (A k m, pc_h Z) := by
  subst ha hb hc
  obtain ⟨m0, m1, -, -, -, -, -⟩ := pc_LG
  obtain ⟨-, i1, -, -, i4, i5, -, -, -, -, -, -, -⟩ := pc_rG
  unfold f_GR_rowNumber
  rw [pc_gr pc_L173 (by decide) i5 (by decide), pc_ald (i := 8 * g + k) m1 (by omega) (by omega), h, pc_get pc_L173 (by decide) i1, hn]
  have bd : ∀ i, i ≤ n → gx_i (mu_cd A k i) ∧ 0 ≤ mu_cd A k i := fun i hi => mu_cd_i (by omega) (fun m hm => hA m (by omega))
  have hh := pl_loop0 (A := fun fu i => f_GR_rowNumber_21 fu (pc_h Z) (m : Int) (mu_cd A k (n - i)) ((n : Int) - 1 - (i : Int))) (out := some (A k m, pc_h Z)) (n - 1 - m) (by omega) (fun i hi fu => ?_) (fun fu => ?_)
  · have e' : f_GR_rowNumber_21 gx_fu (pc_h Z) (m : Int) (mu_cd A k (n - 0)) ((n : Int) - 1 - ((0 : Nat) : Int)) = some (A k m, pc_h Z) := hh
    rw [Nat.sub_zero, show (n : Int) - 1 - ((0 : Nat) : Int) = (n : Int) - 1 by omega] at e'
    exact e'
  · obtain ⟨q, hq⟩ : ∃ q, n - i = q + 1 := ⟨n - i - 1, by omega⟩
    have dm := mu_cd_dm (D := A) (i := k) (m := q) (hA q (by omega)) (bd q (by omega)).2
    show fb_GR_rowNumber_21 (f_GR_rowNumber_21 fu) _ _ _ _ = _
    unfold fb_GR_rowNumber_21
    rw [pl_gi (by omega) (by omega), pl_gi (by omega) (by omega), if_pos (by omega), gq_g_ok (bd (n - i) (by omega)).1, hq, dm.2, show n - (i + 1) = q by omega, show (n : Int) - 1 - (i : Int) + -1 = (n : Int) - 1 - ((i + 1 : Nat) : Int) by omega]
  · have hq : n - (n - 1 - m) = m + 1 := by omega
    have dm := mu_cd_dm (D := A) (i := k) (m := m) (hA m hm) (bd m (by omega)).2
    show fb_GR_rowNumber_21 (f_GR_rowNumber_21 fu) _ _ _ _ = _
    unfold fb_GR_rowNumber_21
    rw [pl_gi (by omega) (by omega), pl_gi (by omega) (by omega), if_neg (by omega), gq_g_ok (bd _ (by omega)).1, hq, dm.1]
theorem pc_standOf (Z : Nat → Nat → Int) {t n N : Nat} {G : Prop} {B0 : Nat → Nat → Int} {gn : Nat → st_t} (ht : pc_H t = true) (ht2 : 187 ≤ t) (hn4 : n ≤ 4) (hn2 : 2 ≤ n) (hB : mu_bd n (pc_T Z (t + 1))) (hD : mu_bd n (pc_T Z (t + 2))) (h : gr_A n G B0 Z N gn) (hin : ∃ r, r < N ∧ st_E n (st_cn n (pc_T Z (t + 1), pc_T Z (t + 2))) (gn r)) :
    ∃ (r : Nat) (Y : Nat → Nat → Int), f_GR_standOf (pc_h Z) 173 t = some ((r : Int), pc_h Y) ∧ r < N ∧ (∀ o, (o < 176 ∨ 179 < o) → Y o = Z o) ∧ st_E n (st_cn n (pc_T Z (t + 1), pc_T Z (t + 2))) (gn r) := by
  obtain ⟨Z2, E2, p1, p2, p3⟩ := pc_fillProbe Z ht h.1 hn4 hn2 hB hD
  have hA2 : gr_A n G B0 Z2 N gn := gr_A_cg h (by rw [p1 173 (by decide)]) (by rw [p1 173 (by decide)]) (p1 175 (by decide)) (p1 174 (by decide))
  have bcn := st_cn_bd (n := n) (a := (pc_T Z (t + 1), pc_T Z (t + 2))) (by omega) hB hD
  have mt : ∀ r, r < N → (gr_m n Z2 r ↔ st_E n (st_cn n (pc_T Z (t + 1), pc_T Z (t + 2))) (gn r)) := fun r hr => by
    obtain ⟨q1, q2, q3, -⟩ := hA2.2.2.2.1 r hr
    rw [← gr_cd_iff bcn.1 bcn.2 q2 q3]
    unfold gr_m
    constructor
    · intro z p hp
      have := z p hp
      rw [(q1 p hp).1, (q1 p hp).2, (p3 p hp).1, (p3 p hp).2] at this
      exact ⟨this.1.symm, this.2.symm⟩
    · intro z p hp
      rw [(q1 p hp).1, (q1 p hp).2, (p3 p hp).1, (p3 p hp).2]
      exact ⟨(z p hp).1.symm, (z p hp).2.symm⟩
  unfold f_GR_standOf
  rw [pc_cv pc_L173, E2, pl_call, pc_cv pc_L173]
  rcases pc_standOfProbe Z2 (n := n) (N := N) hA2.1 hn4 hn2 hA2.2.1 hA2.2.2.1 with ⟨r, hr, hm, E3⟩ | ⟨hno, E3⟩
  · rw [E3, pl_call]
    exact ⟨r, Z2, rfl, hr, p1, (mt r hr).mp hm⟩
  · obtain ⟨r, hr, e⟩ := hin
    exact absurd ((mt r hr).mpr e) (hno r hr)
