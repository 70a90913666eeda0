/-! a closed graph holds all; the class numbers it -/
/-- from one stand of a closed list every other that can be come to is in it -/
theorem rc_all {n N : Nat} {B0 : Nat → Nat → Int} {nd : Nat → st_t} {w : Nat → Int} {t0 : Nat} (hn2 : 2 ≤ n) (hn4 : n ≤ 4) (hw : ∀ i, i < n → 1 ≤ w i) (hB : mu_wt n B0 w) (hf : mu_fin n B0) (hc : ∀ t k, t < N → k < n → ∃ r, r < N ∧ st_E n (st_go n (nd t) k) (nd r)) (ht : t0 < N) (h0 : rc_S n B0 (nd t0)) (hK : st_K n (nd t0)) {b : st_t} (hb : rc_S n B0 b) : ∃ r, r < N ∧ st_E n (st_cn n b) (nd r) := by
  -- along a way
  have way : ∀ (ls : List Nat) (x : st_t), (∀ k ∈ ls, k < n) → rc_S n B0 x → (∃ r, r < N ∧ st_E n (st_cn n x) (nd r)) → ∃ r, r < N ∧ st_E n (st_cn n (mu_rB ls x.1, mu_rD n ls x.1 x.2)) (nd r) := by
    intro ls
    induction ls with
    | nil => intro x _ _ h; exact h
    | cons k ls ih =>
      intro x hk hx h
      have hk0 := hk k List.mem_cons_self
      obtain ⟨r, hr, e⟩ := h
      have fx := rc_fin hf hx
      have hm := rc_mv hn2 hn4 hx hk0
      have fm := rc_fin hf hm
      refine ih (st_mv n x k) (fun q hq => hk q (List.mem_cons_of_mem _ hq)) hm ?_
      have pl := mu_pl_pm fx.2.1
      obtain ⟨r', hr', e'⟩ := hc r (mu_pl n x.2 k) hr (pl.1 k hk0)
      refine ⟨r', hr', ?_⟩
      have q1 := st_rn_mv hn2 hn4 (st_cn_rn hn2 hn4 fx.2.1) (pl.1 k hk0)
      rw [mu_rk_pl hn2 hn4 fx.2.1 hk0] at q1
      have q2 := st_cn_same hn2 hn4 fm.2.1 fm.2.2.2 q1
      exact q2.symm.trans ((st_go_E e (pl.1 k hk0)).trans e')
  obtain ⟨ks, s, hks, h1⟩ := h0
  obtain ⟨ls, u, hls, h2⟩ := hb
  have rks : rc_S n B0 (rc_R n B0 ks) := ⟨ks, _, hks, st_rn.rf⟩
  have rls : rc_S n B0 (rc_R n B0 ls) := ⟨ls, _, hls, st_rn.rf⟩
  have f1 := rc_fin hf rks
  have f2 := rc_fin hf rls
  have start : ∃ r, r < N ∧ st_E n (st_cn n (rc_R n B0 ks)) (nd r) := ⟨t0, ht, (st_cn_same hn2 hn4 f1.2.1 f1.2.2.2 h1).symm.trans hK⟩
  obtain ⟨r, hr, e⟩ := way (ks.reverse ++ ls) (rc_R n B0 ks) (fun k hk => by
    rcases List.mem_append.mp hk with q | q
    · exact hks k (List.mem_reverse.mp q)
    · exact hls k q) rks start
  refine ⟨r, hr, ?_⟩
  have back : (mu_rB (ks.reverse ++ ls) (rc_R n B0 ks).1, mu_rD n (ks.reverse ++ ls) (rc_R n B0 ks).1 (rc_R n B0 ks).2) = rc_R n B0 ls := by
    unfold rc_R
    rw [mu_rB_app, mu_rD_app]
    show (mu_rB ls (mu_rB ks.reverse (mu_rB ks B0)), mu_rD n ls (mu_rB ks.reverse (mu_rB ks B0)) (mu_rD n ks.reverse (mu_rB ks B0) (mu_rD n ks B0 mu_I))) = _
    rw [mu_rB_rev, mu_rD_rev hw ks B0 mu_I hks hB]
  rw [back] at e
  exact (st_cn_same hn2 hn4 f2.2.1 f2.2.2.2 h2).trans e
/-- a closed list of mild tables: nothing that is not mild is come to -/
theorem gr_nobad {n N : Nat} {nd : Nat → st_t} (hc : ∀ t k, t < N → k < n → ∃ r, r < N ∧ ∃ s : Nat → Nat, mu_pm n n s ∧ mu_tn n s (nd r).1 (mu_B (nd t).1 k)) (hm : ∀ t, t < N → mu_mi n (nd t).1) : ∀ (ks : List Nat) (B : Nat → Nat → Int), (∀ k ∈ ks, k < n) → (∃ t, t < N ∧ ∃ s : Nat → Nat, mu_pm n n s ∧ mu_tn n s (nd t).1 B) → mu_Mi n (mu_rB ks B)
  | [], B, _, ⟨t, ht, s, hs, h⟩ => by
    intro i hi j hj
    show ¬ B i j * B j i < -3
    rw [h i hi j hj, h j hj i hi]
    exact mu_Mi_iff.mpr (hm t ht) _ (hs.1 i hi) _ (hs.1 j hj)
  | k :: ks, B, hk, ⟨t, ht, s, hs, h⟩ => by
    have hk0 := hk k List.mem_cons_self
    obtain ⟨r, hr, u, hu, e⟩ := hc t (s k) ht (hs.1 k hk0)
    have e2 := mu_tn_B hs h hk0
    refine gr_nobad hc hm ks (mu_B B k) (fun q hq => hk q (List.mem_cons_of_mem _ hq)) ⟨r, hr, fun i => u (s i), mu_pm_comp hu hs, fun i hi j hj => ?_⟩
    rw [e2 i hi j hj, e _ (hs.1 i hi) _ (hs.1 j hj)]
theorem gr_notbad {n N : Nat} {nd : Nat → st_t} {B : Nat → Nat → Int} (hc : ∀ t k, t < N → k < n → ∃ r, r < N ∧ ∃ s : Nat → Nat, mu_pm n n s ∧ mu_tn n s (nd r).1 (mu_B (nd t).1 k)) (hm : ∀ t, t < N → mu_mi n (nd t).1) (h : ∃ t, t < N ∧ ∃ s : Nat → Nat, mu_pm n n s ∧ mu_tn n s (nd t).1 B) : ¬ mu_bad n B := by
  rintro ⟨ks, hk, i, j, hi, hj, hlt⟩
  exact gr_nobad hc hm ks B hk h i hi j hj hlt
/-- a table is its own as ranked, numbered back -/
theorem st_cn_back {n : Nat} {a : st_t} (hn2 : 2 ≤ n) (hn4 : n ≤ 4) (hD : mu_bd n a.2) : mu_tn n (mu_pl n a.2) (st_cn n a).1 a.1 := fun i hi j hj => by
  show _ = a.1 (mu_rk n a.2 (mu_pl n a.2 i)) (mu_rk n a.2 (mu_pl n a.2 j))
  rw [mu_rk_pl hn2 hn4 hD hi, mu_rk_pl hn2 hn4 hD hj]
/-! numbers -/
theorem pc_LW : pc_L[187]? = some (12 + 3, 6) ∧ pc_L[188]? = some (0, 200) ∧ pc_L[189]? = some (0, 200) ∧ pc_L[190]? = some (0, 200) ∧ pc_L[191]? = some (0, 200) ∧ pc_L[192]? = some (0, 200) := by decide +kernel
theorem pc_rW : pc_r 187 0 = 0 ∧ pc_r 187 1 = 188 ∧ pc_r 187 2 = 189 ∧ pc_r 187 3 = 190 ∧ pc_r 187 4 = 191 ∧ pc_r 187 5 = 192 := by decide +kernel
/-- the graph as the walk sees it -/
def wk_G (n : Nat) (Z : Nat → Nat → Int) (N : Nat) (gn : Nat → st_t) (gl : Nat → Nat → Nat) : Prop := Z 173 1 = (n : Int) ∧ Z 173 0 = (N : Int) ∧ N ≤ 200 ∧ (∀ t u, t < u → u < N → ¬ st_E n (gn t) (gn u)) ∧ ∀ t k, t < N → k < n → Z 174 (4 * t + k) = (gl t k : Int) ∧ gl t k < N ∧ st_E n (st_go n (gn t) k) (gn (gl t k))
/-- the numbering under way -/
def wk_A (n : Nat) (Z : Nat → Nat → Int) (N : Nat) (gn : Nat → st_t) (gl : Nat → Nat → Nat) (W : Nat) (st fr bw : Nat → Nat) (ld : Nat → Nat → Nat) (s k : Nat) : Prop :=
  Z 187 0 = (W : Int) ∧ W ≤ N ∧ bf_P n W (fun t => gn (st t)) fr bw ld s k ∧ (∀ t, t < W → Z 188 t = (st t : Int) ∧ st t < N ∧ Z 189 (st t) = (t : Int) ∧ 0 ≤ Z 190 t ∧ Z 190 t ≤ (t : Int)) ∧
  (∀ g, g < N → Z 189 g = -1 ∨ ∃ t, t < W ∧ st t = g) ∧ (∀ s' k', bf_lx s' k' s k → k' < n → st (ld s' k') = gl (st s') k') ∧ Z 190 0 = 0 ∧ Z 191 0 = -1 ∧ Z 192 0 = -1 ∧ ∀ t, 0 < t → t < W → Z 191 t = (fr t : Int) ∧ Z 192 t = (bw t : Int) ∧ Z 190 t = Z 190 (fr t) + 1
theorem gr_idx {n N t u : Nat} {gn : Nat → st_t} (hd : ∀ t u, t < u → u < N → ¬ st_E n (gn t) (gn u)) (ht : t < N) (hu : u < N) (e : st_E n (gn t) (gn u)) : t = u := by
  rcases Nat.lt_trichotomy t u with q | q | q
  · exact absurd e (hd t u q hu)
  · exact q
  · exact absurd e.symm (hd u t q ht)
/-- a stand added -/
theorem pc_add (Z : Nat → Nat → Int) {W g s k : Nat} {a b c : Int} (hW : Z 187 0 = (W : Int)) (hW2 : W < 200) (ha : a = (g : Int)) (hg : g < 200) (hb : b = (s : Int)) (hs : s < W) (hc : c = (k : Int)) (hk : k < 4) (h190 : 0 ≤ Z 190 s ∧ Z 190 s ≤ (s : Int)) :
    ∃ Y, f_WA_add (pc_h Z) 187 a b c = some (0, pc_h Y) ∧ (∀ o, (o < 187 ∨ 192 < o) → Y o = Z o) ∧ Y 187 0 = ((W + 1 : Nat) : Int) ∧ (∀ q, Y 188 q = if q = W then (g : Int) else Z 188 q) ∧ (∀ q, Y 189 q = if q = g then (W : Int) else Z 189 q) ∧ (∀ q, Y 190 q = if q = W then Z 190 s + 1 else Z 190 q) ∧ (∀ q, Y 191 q = if q = W then (s : Int) else Z 191 q) ∧ ∀ q, Y 192 q = if q = W then (k : Int) else Z 192 q := by
  subst ha hb hc
  obtain ⟨l0, l1, l2, l3, l4, l5⟩ := pc_LW
  obtain ⟨e0, e1, e2, e3, e4, e5⟩ := pc_rW
  unfold f_WA_add fb_WA_add_65
  rw [pc_gr l0 (by decide) e2 (by decide), pc_get l0 (by decide) e0, hW, pc_ast (i := g) (Or.inl rfl) trivial l2 rfl hg, pc_gr l0 (by decide) e1 (by decide), pc_get l0 (by decide) e0, gx_up_ne (o' := 187) (by decide), hW, pc_ast (i := W) (Or.inl rfl) ⟨by omega, by omega⟩ l1 rfl hW2, pc_gr l0 (by decide) e4 (by decide), pc_get l0 (by decide) e0, gx_up_ne (o' := 187) (by decide), gx_up_ne (o' := 187) (by decide), hW, pc_ast (i := W) (Or.inl rfl) ⟨by omega, by omega⟩ l4 rfl hW2, pc_gr l0 (by decide) e5 (by decide), pc_get l0 (by decide) e0, gx_up_ne (o' := 187) (by decide), gx_up_ne (o' := 187) (by decide), gx_up_ne (o' := 187) (by decide), hW, pc_ast (i := W) (Or.inl rfl) ⟨by omega, by omega⟩ l5 rfl hW2, pc_gr l0 (by decide) e3 (by decide), pc_get l0 (by decide) e0, gx_up_ne (o' := 187) (by decide), gx_up_ne (o' := 187) (by decide), gx_up_ne (o' := 187) (by decide), gx_up_ne (o' := 187) (by decide), hW, pl_gi (by omega) (by omega), if_neg (by omega), pc_gr l0 (by decide) e3 (by decide), pc_ald (i := s) l3 rfl (by omega), gx_up_ne (o' := 190) (by decide), gx_up_ne (o' := 190) (by decide), gx_up_ne (o' := 190) (by decide), gx_up_ne (o' := 190) (by decide), pc_ast (i := W) (Or.inl rfl) ⟨by omega, by omega⟩ l3 rfl hW2, pc_get l0 (by decide) e0, gx_up_ne (o' := 187) (by decide), gx_up_ne (o' := 187) (by decide), gx_up_ne (o' := 187) (by decide), gx_up_ne (o' := 187) (by decide), gx_up_ne (o' := 187) (by decide), hW, pc_put ⟨by omega, by omega⟩ l0 (by decide) e0]
  refine ⟨_, rfl, fun o ho => ?_, ?_, fun q => ?_, fun q => ?_, fun q => ?_, fun q => ?_, fun q => ?_⟩
  · rw [gx_up_ne (by omega), gx_up_ne (by omega), gx_up_ne (by omega), gx_up_ne (by omega), gx_up_ne (by omega), gx_up_ne (by omega)]
  · rw [gx_up_at, if_pos rfl]; omega
  · rw [gx_up_ne (by decide), gx_up_ne (by decide), gx_up_ne (by decide), gx_up_ne (by decide), gx_up_at, gx_up_ne (by decide)]
  · rw [gx_up_ne (by decide), gx_up_ne (by decide), gx_up_ne (by decide), gx_up_ne (by decide), gx_up_ne (by decide), gx_up_at]
  · rw [gx_up_ne (by decide), gx_up_at, gx_up_ne (by decide), gx_up_ne (by decide), gx_up_ne (by decide), gx_up_ne (by decide)]
  · rw [gx_up_ne (by decide), gx_up_ne (by decide), gx_up_ne (by decide), gx_up_at, gx_up_ne (by decide), gx_up_ne (by decide)]
  · rw [gx_up_ne (by decide), gx_up_ne (by decide), gx_up_at, gx_up_ne (by decide), gx_up_ne (by decide), gx_up_ne (by decide)]
/-- the first one added -/
theorem pc_add0 (Z : Nat → Nat → Int) {g : Nat} {a : Int} (hW : Z 187 0 = 0) (ha : a = (g : Int)) (hg : g < 200) :
    ∃ Y, f_WA_add (pc_h Z) 187 a (-1) (-1) = some (0, pc_h Y) ∧ (∀ o, (o < 187 ∨ 192 < o) → Y o = Z o) ∧ Y 187 0 = 1 ∧ (∀ q, Y 188 q = if q = 0 then (g : Int) else Z 188 q) ∧ (∀ q, Y 189 q = if q = g then 0 else Z 189 q) ∧ Y 190 0 = 0 ∧ Y 191 0 = -1 ∧ Y 192 0 = -1 := by
  subst ha
  obtain ⟨l0, l1, l2, l3, l4, l5⟩ := pc_LW
  obtain ⟨e0, e1, e2, e3, e4, e5⟩ := pc_rW
  unfold f_WA_add fb_WA_add_65
  rw [pc_gr l0 (by decide) e2 (by decide), pc_get l0 (by decide) e0, hW, pc_ast (i := g) (Or.inl rfl) trivial l2 rfl hg, pc_gr l0 (by decide) e1 (by decide), pc_get l0 (by decide) e0, gx_up_ne (o' := 187) (by decide), hW, pc_ast (a := 0) (i := 0) (Or.inl rfl) ⟨by omega, by omega⟩ l1 rfl (by decide), pc_gr l0 (by decide) e4 (by decide), pc_get l0 (by decide) e0, gx_up_ne (o' := 187) (by decide), gx_up_ne (o' := 187) (by decide), hW, pc_ast (a := 0) (i := 0) (Or.inl rfl) (by decide) l4 rfl (by decide), pc_gr l0 (by decide) e5 (by decide), pc_get l0 (by decide) e0, gx_up_ne (o' := 187) (by decide), gx_up_ne (o' := 187) (by decide), gx_up_ne (o' := 187) (by decide), hW, pc_ast (a := 0) (i := 0) (Or.inl rfl) (by decide) l5 rfl (by decide), pc_gr l0 (by decide) e3 (by decide), pc_get l0 (by decide) e0, gx_up_ne (o' := 187) (by decide), gx_up_ne (o' := 187) (by decide), gx_up_ne (o' := 187) (by decide), gx_up_ne (o' := 187) (by decide), hW, pl_gi (by decide) (by decide), if_pos rfl, pc_ast (a := 0) (i := 0) (Or.inl rfl) (by decide) l3 rfl (by decide), pc_get l0 (by decide) e0, gx_up_ne (o' := 187) (by decide), gx_up_ne (o' := 187) (by decide), gx_up_ne (o' := 187) (by decide), gx_up_ne (o' := 187) (by decide), gx_up_ne (o' := 187) (by decide), hW, pc_put (by decide) l0 (by decide) e0]
  refine ⟨_, rfl, fun o ho => ?_, ?_, fun q => ?_, fun q => ?_, ?_, ?_, ?_⟩
  · rw [gx_up_ne (by omega), gx_up_ne (by omega), gx_up_ne (by omega), gx_up_ne (by omega), gx_up_ne (by omega), gx_up_ne (by omega)]
  · rw [gx_up_at, if_pos rfl]; rfl
  · rw [gx_up_ne (by decide), gx_up_ne (by decide), gx_up_ne (by decide), gx_up_ne (by decide), gx_up_at, gx_up_ne (by decide)]
  · rw [gx_up_ne (by decide), gx_up_ne (by decide), gx_up_ne (by decide), gx_up_ne (by decide), gx_up_ne (by decide), gx_up_at]
  · rw [gx_up_ne (by decide), gx_up_at, if_pos rfl]
  · rw [gx_up_ne (by decide), gx_up_ne (by decide), gx_up_ne (by decide), gx_up_at, if_pos rfl]
  · rw [gx_up_ne (by decide), gx_up_ne (by decide), gx_up_at, if_pos rfl]
