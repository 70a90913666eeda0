/-! the class's graph: all letters counted; the whole of it found -/
/-- c unlike numbers are all of f -/
def mu_En (N n : Nat) (f : Nat → Nat → Int) (c : Nat) : Prop := ∃ u : Nat → Int, (∀ i j, i < j → j < c → u i ≠ u j) ∧ (∀ s a, s < N → a < n → ∃ i, i < c ∧ u i = f s a) ∧ ∀ i, i < c → ∃ s a, s < N ∧ a < n ∧ f s a = u i
theorem mu_En_le {N N' n n' c c' : Nat} {f f' : Nat → Nat → Int} (h : mu_En N n f c) (h' : mu_En N' n' f' c') (hi : ∀ s a, s < N → a < n → ∃ s' a', s' < N' ∧ a' < n' ∧ f' s' a' = f s a) : c ≤ c' := by
  obtain ⟨u, u1, u2, u3⟩ := h
  obtain ⟨v, v1, v2, v3⟩ := h'
  have hx : ∀ i, ∃ j, i < c → j < c' ∧ v j = u i := fun i => by
    by_cases hc : i < c
    · obtain ⟨s, a, hs, ha, e⟩ := u3 i hc
      obtain ⟨s', a', hs', ha', e'⟩ := hi s a hs ha
      obtain ⟨j, hj, e''⟩ := v2 s' a' hs' ha'
      exact ⟨j, fun _ => ⟨hj, by rw [e'', e', e]⟩⟩
    · exact ⟨0, fun z => absurd z hc⟩
  refine nat_hole c' c (fun i => Classical.choose (hx i)) (fun i h => (Classical.choose_spec (hx i) h).1) (fun i j hij hj e => ?_)
  have e' : Classical.choose (hx i) = Classical.choose (hx j) := e
  have e1 := (Classical.choose_spec (hx i) (by omega)).2
  have e2 := (Classical.choose_spec (hx j) hj).2
  rw [e', e2] at e1
  exact u1 i j hij hj e1.symm
theorem mu_En_eq {N N' n n' c c' : Nat} {f f' : Nat → Nat → Int} (h : mu_En N n f c) (h' : mu_En N' n' f' c') (hi : ∀ s a, s < N → a < n → ∃ s' a', s' < N' ∧ a' < n' ∧ f' s' a' = f s a) (hi' : ∀ s a, s < N' → a < n' → ∃ s' a', s' < N ∧ a' < n ∧ f s' a' = f' s a) : c = c' :=
  Nat.le_antisymm (mu_En_le h h' hi) (mu_En_le h' h hi')
theorem pc_isSeen (Z : Nat → Nat → Int) {c : Nat} {v b : Int} (hb : b = (c : Int)) (hc : c ≤ 800) (hv : gx_i v) : ((∀ i, i < c → Z 180 i ≠ v) → f_GR_isSeen (pc_h Z) 173 v b = some (0, pc_h Z)) ∧ ((∃ i, i < c ∧ Z 180 i = v) → f_GR_isSeen (pc_h Z) 173 v b = some (1, pc_h Z)) := by
  subst hb
  obtain ⟨l0, l1, l2, l3, l4, l5, l6⟩ := pc_LG
  obtain ⟨e0, e1, e2, e3, e4, e5, e6, e7, e8, e9, e10, e11, e12⟩ := pc_rG
  have h := pl_srch0 (A := fun fu i => f_GR_isSeen_2 fu (pc_h Z) 173 v (c : Int) (i : Int)) (out := some ((0 : Int), pc_h Z)) (bad := some (1, pc_h Z)) c (by omega) (fun i => Z 180 i ≠ v) (fun i hi fu => ?_) (fun fu => ?_)
  · refine ⟨fun z => h.trans (if_pos z), fun z => h.trans (if_neg ?_)⟩
    obtain ⟨i, hi, e⟩ := z
    exact fun q => q i hi e
  · show fb_GR_isSeen_2 (f_GR_isSeen_2 fu) _ _ _ _ _ = _
    unfold fb_GR_isSeen_2
    rw [pl_gi (by omega) (by omega), pl_gi (by omega) (by omega), if_pos (by omega), pc_gr pc_L173 (by decide) e10 (by decide), pc_ald (i := i) l6 rfl (by omega), gq_g_ok hv]
    by_cases q : Z 180 i = v
    · rw [if_pos q, if_neg (fun z => z q)]
    · rw [if_neg q, if_pos q]; rfl
  · show fb_GR_isSeen_2 (f_GR_isSeen_2 fu) _ _ _ _ _ = _
    unfold fb_GR_isSeen_2
    rw [pl_gi (by omega) (by omega), pl_gi (by omega) (by omega), if_neg (by omega)]
set_option maxHeartbeats 2000000 in
theorem pc_countAll (Z : Nat → Nat → Int) {n N : Nat} {G : Prop} {B0 : Nat → Nat → Int} {gn : Nat → st_t} (hn4 : n ≤ 4) (h : gr_A n G B0 Z N gn) : ∃ (c : Nat) (Y : Nat → Nat → Int), f_GR_countAllLetters (pc_h Z) 173 = some ((c : Int), pc_h Y) ∧ c ≤ 800 ∧ (∀ o, o ≠ 180 → Y o = Z o) ∧ mu_En N n (fun s a => mu_cd (gn s).2 a n) c := by
  obtain ⟨l0, l1, l2, l3, l4, l5, l6⟩ := pc_LG
  obtain ⟨e0, e1, e2, e3, e4, e5, e6, e7, e8, e9, e10, e11, e12⟩ := pc_rG
  obtain ⟨hn, hN, hN2, hg, -, -⟩ := h
  have hh := pl_inv2 (σ := Nat × (Nat → Nat → Int)) (A := fun fu s S => f_GR_countAllLetters_4 fu (pc_h S.2) 173 (S.1 : Int) (s : Int)) (Bf := fun fu gu s a S => f_GR_countAllLetters_14 (f_GR_countAllLetters_4 fu) gu (pc_h S.2) 173 (S.1 : Int) (s : Int) (a : Int)) (out := fun S => some ((S.1 : Int), pc_h S.2))
    (Q := fun s a S => (∀ o, o ≠ 180 → S.2 o = Z o) ∧ S.1 ≤ 4 * s + a ∧ (∀ i j, i < j → j < S.1 → S.2 180 i ≠ S.2 180 j) ∧ (∀ s' a', a' < n → bf_lx s' a' s a → ∃ i, i < S.1 ∧ S.2 180 i = mu_cd (gn s').2 a' n) ∧ ∀ i, i < S.1 → ∃ s' a', s' < N ∧ a' < n ∧ mu_cd (gn s').2 a' n = S.2 180 i) N n (by omega) (by omega) (fun s hs S hQ fu => ?_) (fun s hs a ha S hQ fu gu => ?_) (fun s hs S hQ => ⟨⟨hQ.1, by have := hQ.2.1; omega, hQ.2.2.1, fun s' a' ha' hl => hQ.2.2.2.1 s' a' ha' (by unfold bf_lx at *; omega), hQ.2.2.2.2⟩, fun fu gu => ?_⟩) (fun S hQ fu => ?_) (0, Z) ⟨fun _ _ => rfl, Nat.le_refl _, fun i j _ h => by omega, fun s' a' _ hl => by unfold bf_lx at hl; omega, fun i h => by omega⟩
  · obtain ⟨⟨c, Y⟩, ⟨q1, q2, q3, q4, q5⟩, e⟩ := hh
    exact ⟨c, Y, e, (show c ≤ 800 from Nat.le_trans q2 (by omega)), q1, Y 180, q3, fun s a hs ha => q4 s a ha (Or.inl hs), q5⟩
  · obtain ⟨c, Y⟩ := S
    dsimp only at hQ
    show fb_GR_countAllLetters_4 (f_GR_countAllLetters_4 fu) (pc_h Y) _ _ _ = _
    unfold fb_GR_countAllLetters_4
    rw [pc_get pc_L173 (by decide) e0, hQ.1 173 (by decide), hN, pl_gi (by omega) (by omega), if_pos (by omega)]
    rfl
  · obtain ⟨c, Y⟩ := S
    dsimp only at hQ
    obtain ⟨q1, q2, q3, q4, q5⟩ := hQ
    obtain ⟨s1, s2, s3, -⟩ := hg s hs
    have ci := mu_cd_i (D := (gn s).2) (i := a) hn4 (fun m hm => s3 a ha m hm)
    have y5 : Y 175 (8 * s + a) = mu_cd (gn s).2 a n := by rw [q1 175 (by decide)]; exact (s1 a ha).1
    have seen := pc_isSeen Y (c := c) (v := mu_cd (gn s).2 a n) rfl (by omega) ci.1
    show ∃ s', _ ∧ fb_GR_countAllLetters_14 (f_GR_countAllLetters_4 fu) (f_GR_countAllLetters_14 (f_GR_countAllLetters_4 fu) gu) (pc_h Y) _ _ _ _ = _
    unfold fb_GR_countAllLetters_14
    rw [pc_get pc_L173 (by decide) e1, q1 173 (by decide), hn, pl_gi (by omega) (by omega), if_pos (by omega), pc_gr pc_L173 (by decide) e5 (by decide), pc_ald (i := 8 * s + a) l1 (by omega) (by omega), y5, pc_cv pc_L173]
    by_cases z : ∃ i, i < c ∧ Y 180 i = mu_cd (gn s).2 a n
    · rw [seen.2 z, pl_call, pl_gi (by decide) (by decide), if_neg (by decide)]
      refine ⟨(c, Y), ⟨q1, by show c ≤ _; omega, q3, fun s' a' ha' hl => ?_, q5⟩, rfl⟩
      by_cases e : s' = s ∧ a' = a
      · obtain ⟨x1, x2⟩ := e
        subst x1 x2
        exact z
      · exact q4 s' a' ha' (by unfold bf_lx at *; omega)
    · have z' : ∀ i, i < c → Y 180 i ≠ mu_cd (gn s).2 a n := fun i hi e => z ⟨i, hi, e⟩
      rw [seen.1 z', pl_call, pl_gi (by decide) (by decide), if_pos rfl, pc_gr pc_L173 (by decide) e10 (by decide), pc_ast (i := c) (Or.inl rfl) trivial l6 rfl (by omega)]
      have w : ∀ i, gx_up Y 180 c (mu_cd (gn s).2 a n) 180 i = if i = c then mu_cd (gn s).2 a n else Y 180 i := fun i => gx_up_at
      refine ⟨(c + 1, gx_up Y 180 c (mu_cd (gn s).2 a n)), ⟨fun o ho => (gx_up_ne ho).trans (q1 o ho), by show c + 1 ≤ _; omega, fun i j hij hj => ?_, fun s' a' ha' hl => ?_, fun i hi => ?_⟩, rfl⟩
      · have hj' : j < c + 1 := hj
        show gx_up Y 180 c _ 180 i ≠ gx_up Y 180 c _ 180 j
        rw [w, w, if_neg (by omega)]
        by_cases e : j = c
        · rw [if_pos e]; exact z' i (by omega)
        · rw [if_neg e]; exact q3 i j hij (by omega)
      · show ∃ i, i < c + 1 ∧ gx_up Y 180 c _ 180 i = _
        by_cases e : s' = s ∧ a' = a
        · obtain ⟨x1, x2⟩ := e
          subst x1 x2
          exact ⟨c, by omega, by rw [w, if_pos rfl]⟩
        · obtain ⟨i, hi, e'⟩ := q4 s' a' ha' (by unfold bf_lx at *; omega)
          exact ⟨i, by omega, by rw [w, if_neg (by omega)]; exact e'⟩
      · have hi' : i < c + 1 := hi
        show ∃ s' a', s' < N ∧ a' < n ∧ _ = gx_up Y 180 c _ 180 i
        by_cases e : i = c
        · exact ⟨s, a, hs, ha, by rw [w, if_pos e]⟩
        · rw [w, if_neg e]; exact q5 i (by omega)
  · obtain ⟨c, Y⟩ := S
    dsimp only at hQ
    show fb_GR_countAllLetters_14 (f_GR_countAllLetters_4 fu) (f_GR_countAllLetters_14 (f_GR_countAllLetters_4 fu) gu) (pc_h Y) _ _ _ _ = _
    unfold fb_GR_countAllLetters_14
    rw [pc_get pc_L173 (by decide) e1, hQ.1 173 (by decide), hn, pl_gi (by omega) (by omega), if_neg (by omega)]
    rfl
  · obtain ⟨c, Y⟩ := S
    dsimp only at hQ
    show fb_GR_countAllLetters_4 (f_GR_countAllLetters_4 fu) (pc_h Y) _ _ _ = _
    unfold fb_GR_countAllLetters_4
    rw [pc_get pc_L173 (by decide) e0, hQ.1 173 (by decide), hN, pl_gi (by omega) (by omega), if_neg (by omega)]
/-- the graph whole -/
def gr_full (n : Nat) (G : Prop) (B0 : Nat → Nat → Int) (Y : Nat → Nat → Int) (N : Nat) (gn : Nat → st_t) : Prop :=
  gr_A n G B0 Y N gn ∧ 0 < N ∧ (∀ t k, t < N → k < n → Y 174 (4 * t + k) ≠ -1) ∧ ∃ c : Nat, Y 173 2 = (c : Int) ∧ mu_En N n (fun s a => mu_cd (gn s).2 a n) c
def gr_end (n : Nat) (G : Prop) (B0 : Nat → Nat → Int) (a : st_t) (Z : Nat → Nat → Int) (x : Option (Int × gx_H)) : Prop := ∃ Y, x = some (0, pc_h Y) ∧ (∀ o, (o < 173 ∨ 186 < o) → Y o = Z o) ∧ Y 173 1 = (n : Int) ∧ ((Y 173 3 = 1 ∧ ¬ G) ∨ (Y 173 3 = 0 ∧ ∃ (N : Nat) (gn : Nat → st_t), gr_full n G B0 Y N gn ∧ st_E n (gn 0) (st_cn n a)))
/-- the finding under way -/
def gr_Q (n : Nat) (G : Prop) (B0 : Nat → Nat → Int) (a : st_t) (Z : Nat → Nat → Int) (s k : Nat) (Y : Nat → Nat → Int) (N : Nat) (gn : Nat → st_t) : Prop :=
  (∀ o, (o < 173 ∨ 186 < o) → Y o = Z o) ∧ Y 173 3 = 1 ∧ gr_A n G B0 Y N gn ∧ 0 < N ∧ (∀ s' k', bf_lx s' k' s k → k' < n → Y 174 (4 * s' + k') ≠ -1) ∧ st_E n (gn 0) (st_cn n a)
theorem pc_find_in (Z Y0 : Nat → Nat → Int) {n N s : Nat} {G : Prop} {B0 : Nat → Nat → Int} {a : st_t} {gn : Nat → st_t} (hn4 : n ≤ 4) (hn2 : 2 ≤ n) (hG : G → mu_fin n B0 ∧ ∃ w : Nat → Int, (∀ i, i < n → 1 ≤ w i) ∧ mu_wt n B0 w) (h : gr_Q n G B0 a Z s 0 Y0 N gn) (hs : s < N) (h0 : Y0 181 0 = (n : Int)) (hh : st_E n (pc_T Y0 182, pc_T Y0 183) (gn s)) (fu : Nat) :
    gr_end n G B0 a Z (f_GR_find_65 (f_GR_find_42 fu) gx_fu (pc_h Y0) 173 (s : Int) 0) ∨ ∃ (Y : Nat → Nat → Int) (N' : Nat) (gn' : Nat → st_t), gr_Q n G B0 a Z (s + 1) 0 Y N' gn' ∧ s < N' ∧ f_GR_find_65 (f_GR_find_42 fu) gx_fu (pc_h Y0) 173 (s : Int) 0 = f_GR_find_42 fu (pc_h Y) 173 ((s + 1 : Nat) : Int) := by
  obtain ⟨l0, l1, l2, l3, l4, l5, l6⟩ := pc_LG
  obtain ⟨e0, e1, e2, e3, e4, e5, e6, e7, e8, e9, e10, e11, e12⟩ := pc_rG
  refine pl_invF (A := fun gu k Y => f_GR_find_65 (f_GR_find_42 fu) gu (pc_h Y) 173 (s : Int) (k : Int)) (Q := fun k Y => ∃ (N' : Nat) (gn' : Nat → st_t), gr_Q n G B0 a Z s k Y N' gn' ∧ s < N' ∧ Y 181 0 = (n : Int) ∧ st_E n (pc_T Y 182, pc_T Y 183) (gn' s)) (F := fun x => gr_end n G B0 a Z x ∨ ∃ (Y : Nat → Nat → Int) (N' : Nat) (gn' : Nat → st_t), gr_Q n G B0 a Z (s + 1) 0 Y N' gn' ∧ s < N' ∧ x = f_GR_find_42 fu (pc_h Y) 173 ((s + 1 : Nat) : Int)) n (by omega) (fun k Y hk hQ gu => ?_) Y0 ⟨N, gn, h, hs, h0, hh⟩
  obtain ⟨N', gn', ⟨q1, q2, q3, q4, q5, q6⟩, hs', h0', hh'⟩ := hQ
  have hN2 := q3.2.2.1
  show (gr_end n G B0 a Z (fb_GR_find_65 (f_GR_find_42 fu) (f_GR_find_65 (f_GR_find_42 fu) gu) (pc_h Y) 173 (s : Int) (k : Int)) ∨ ∃ (Y' : Nat → Nat → Int) (N' : Nat) (gn' : Nat → st_t), gr_Q n G B0 a Z (s + 1) 0 Y' N' gn' ∧ s < N' ∧ fb_GR_find_65 (f_GR_find_42 fu) (f_GR_find_65 (f_GR_find_42 fu) gu) (pc_h Y) 173 (s : Int) (k : Int) = f_GR_find_42 fu (pc_h Y') 173 ((s + 1 : Nat) : Int)) ∨ (_ ∧ ∃ s', _ ∧ fb_GR_find_65 (f_GR_find_42 fu) (f_GR_find_65 (f_GR_find_42 fu) gu) (pc_h Y) 173 (s : Int) (k : Int) = _)
  unfold fb_GR_find_65
  rw [pc_get pc_L173 (by decide) e1, q3.1, pl_gi (by omega) (by omega)]
  by_cases c : k < n
  · rw [if_pos (by omega), pc_gr pc_L173 (by decide) e4 (by decide), pc_ald (i := 4 * s + k) l0 (by omega) (by omega)]
    by_cases d : Y 174 (4 * s + k) = -1
    · rw [if_pos d, pc_cv pc_L173]
      obtain ⟨fl, Y', E, u1, u2, u3⟩ := pc_findLead Y (s := s) (k := k) hn4 hn2 rfl rfl hG q3 hs' c h0' hh'
      rw [E, pl_call]
      rcases u3 with ⟨f0, ng⟩ | ⟨f1, v1, N2, gn2, v2, v3, v4, v5, v6⟩
      · rw [f0, pl_gi (by decide) (by decide), if_pos rfl]
        exact Or.inl (Or.inl ⟨Y', rfl, fun o ho => (u1 o ho).trans (q1 o ho), by rw [u2 1 (by decide)]; exact q3.1, Or.inl ⟨by rw [u2 3 (by decide)]; exact q2, ng⟩⟩)
      · rw [f1, pl_gi (by decide) (by decide), if_neg (by decide)]
        refine Or.inr ⟨c, Y', ⟨N2, gn2, ⟨fun o ho => (u1 o ho).trans (q1 o ho), by rw [u2 3 (by decide)]; exact q2, v2, by omega, fun s' k' hl hk' => ?_, by rw [v4 0 q4]; exact q6⟩, by omega, by rw [v1 181 (Or.inl rfl)]; exact h0', ?_⟩, rfl⟩
        · by_cases e : s' = s ∧ k' = k
          · obtain ⟨x1, x2⟩ := e
            subst x1 x2
            exact v5
          · have hl' : bf_lx s' k' s k := by unfold bf_lx at *; omega
            exact v6 _ (by unfold bf_lx at hl'; omega) (q5 s' k' hl' hk')
        · have t1 : pc_T Y' 182 = pc_T Y 182 := by unfold pc_T; rw [v1 182 (Or.inr (Or.inl rfl))]
          have t2 : pc_T Y' 183 = pc_T Y 183 := by unfold pc_T; rw [v1 183 (Or.inr (Or.inr rfl))]
          rw [t1, t2, v4 s hs']
          exact hh'
    · rw [if_neg d]
      refine Or.inr ⟨c, Y, ⟨N', gn', ⟨q1, q2, q3, q4, fun s' k' hl hk' => ?_, q6⟩, hs', h0', hh'⟩, rfl⟩
      by_cases e : s' = s ∧ k' = k
      · obtain ⟨x1, x2⟩ := e
        subst x1 x2
        exact d
      · exact q5 s' k' (by unfold bf_lx at *; omega) hk'
  · rw [if_neg (by omega)]
    exact Or.inl (Or.inr ⟨Y, N', gn', ⟨q1, q2, q3, q4, fun s' k' hl hk' => q5 s' k' (by unfold bf_lx at *; omega) hk', q6⟩, hs', rfl⟩)
theorem pc_find_out (Z Y0 : Nat → Nat → Int) {n N : Nat} {G : Prop} {B0 : Nat → Nat → Int} {a : st_t} {gn : Nat → st_t} (hn4 : n ≤ 4) (hn2 : 2 ≤ n) (hG : G → mu_fin n B0 ∧ ∃ w : Nat → Int, (∀ i, i < n → 1 ≤ w i) ∧ mu_wt n B0 w) (h : gr_Q n G B0 a Z 0 0 Y0 N gn) : gr_end n G B0 a Z (f_GR_find_42 gx_fu (pc_h Y0) 173 0) := by
  obtain ⟨e0, e1, e2, e3, e4, e5, e6, e7, e8, e9, e10, e11, e12⟩ := pc_rG
  refine pl_invF (A := fun fu s Y => f_GR_find_42 fu (pc_h Y) 173 (s : Int)) (Q := fun s Y => ∃ (N' : Nat) (gn' : Nat → st_t), gr_Q n G B0 a Z s 0 Y N' gn' ∧ s ≤ N') (F := gr_end n G B0 a Z) 200 (by decide) (fun s Y hk hQ fu => ?_) Y0 ⟨N, gn, h, Nat.zero_le _⟩
  obtain ⟨N', gn', ⟨q1, q2, q3, q4, q5, q6⟩, hs'⟩ := hQ
  have hN2 := q3.2.2.1
  show gr_end n G B0 a Z (fb_GR_find_42 (f_GR_find_42 fu) _ _ _) ∨ (_ ∧ ∃ s', _ ∧ fb_GR_find_42 (f_GR_find_42 fu) _ _ _ = _)
  unfold fb_GR_find_42
  rw [pc_get pc_L173 (by decide) e0, q3.2.1, pl_gi (by omega) (by omega)]
  by_cases c : s < N'
  · obtain ⟨s1, s2, s3, -⟩ := q3.2.2.2.1 s c
    obtain ⟨Y1, E1, w1, w2, w3, w4⟩ := pc_load Y (s := s) (a := gn' s) q3.1 hn4 rfl (by omega) s2 s3 s1
    rw [if_pos (by omega), if_pos (by omega), pc_cv pc_L173, E1, pl_call]
    have hQ1 : gr_Q n G B0 a Z s 0 Y1 N' gn' := ⟨fun o ho => (w1 o (by omega)).trans (q1 o ho), by rw [w1 173 (by decide)]; exact q2, gr_A_cg q3 (by rw [w1 173 (by decide)]) (by rw [w1 173 (by decide)]) (w1 175 (by decide)) (w1 174 (by decide)), q4, fun s' k' hl hk' => by rw [w1 174 (by decide)]; exact q5 s' k' hl hk', q6⟩
    rcases pc_find_in Z Y1 hn4 hn2 hG hQ1 c w2 ⟨w3, w4⟩ fu with q | ⟨Y2, N2, gn2, v1, v2, v3⟩
    · exact Or.inl q
    · exact Or.inr ⟨by omega, Y2, ⟨N2, gn2, v1, by omega⟩, v3⟩
  · have es : s = N' := by omega
    subst es
    rw [if_neg (by omega)]
    unfold fb_GR_find_112
    rw [pc_put trivial pc_L173 (by decide) e3, pc_cv pc_L173]
    have hA1 : gr_A n G B0 (gx_up Y 173 3 0) s gn' := gr_A_cg q3 (by rw [gx_up_at, if_neg (by decide)]) (by rw [gx_up_at, if_neg (by decide)]) (gx_up_ne (by decide)) (gx_up_ne (by decide))
    obtain ⟨cnt, Y2, E2, x1, x2, x3⟩ := pc_countAll _ hn4 hA1
    rw [E2, pl_call, pc_put ⟨by omega, by omega⟩ pc_L173 (by decide) e2]
    refine Or.inl ⟨_, rfl, fun o ho => ?_, ?_, Or.inr ⟨?_, s, gn', ⟨?_, q4, fun t k ht hk => ?_, cnt, ?_, x3⟩, q6⟩⟩
    · rw [gx_up_ne (by omega), x2 o (by omega), gx_up_ne (by omega)]; exact q1 o ho
    · rw [gx_up_at, if_neg (by decide), x2 173 (by decide)]; exact hA1.1
    · rw [gx_up_at, if_neg (by decide), x2 173 (by decide), gx_up_at, if_pos rfl]
    · exact gr_A_cg hA1 (by rw [gx_up_at, if_neg (by decide), x2 173 (by decide)]) (by rw [gx_up_at, if_neg (by decide), x2 173 (by decide)]) (by rw [gx_up_ne (by decide), x2 175 (by decide)]) (by rw [gx_up_ne (by decide), x2 174 (by decide)])
    · rw [gx_up_ne (by decide), x2 174 (by decide), gx_up_ne (by decide)]
      exact q5 t k (Or.inl ht) hk
    · rw [gx_up_at, if_pos rfl]
theorem pc_find (Z : Nat → Nat → Int) {t n : Nat} {v : Int} {G : Prop} {B0 : Nat → Nat → Int} (ht : pc_H t = true) (ht2 : 187 ≤ t) (hn : Z t 0 = (n : Int)) (hn4 : n ≤ 4) (hn2 : 2 ≤ n) (hB : mu_bd n (pc_T Z (t + 1))) (hD : mu_bd n (pc_T Z (t + 2))) (hv : v = 0 ∨ v = 1) (hG : G → mu_fin n B0 ∧ ∃ w : Nat → Int, (∀ i, i < n → 1 ≤ w i) ∧ mu_wt n B0 w) (hGv : G → v = 1) (hS : G → rc_S n B0 (pc_T Z (t + 1), pc_T Z (t + 2))) : gr_end n G B0 (pc_T Z (t + 1), pc_T Z (t + 2)) Z (f_GR_find (pc_h Z) 173 t v) := by
  obtain ⟨e0, e1, e2, e3, e4, e5, e6, e7, e8, e9, e10, e11, e12⟩ := pc_rG
  obtain ⟨g0, g1, g2, r0, r1, r2⟩ := pc_H_all t (pc_H_lt ht) ht
  unfold f_GR_find
  rw [pc_get g0 (by decide) r0, hn, pc_put trivial pc_L173 (by decide) e1, pc_put trivial pc_L173 (by decide) e0, pc_put trivial pc_L173 (by decide) e3, pl_gi (by omega) (by omega)]
  generalize hZ1 : gx_up (gx_up (gx_up Z 173 1 (n : Int)) 173 0 0) 173 3 1 = Z1
  have z1 : ∀ o, o ≠ 173 → Z1 o = Z o := fun o ho => by rw [← hZ1, gx_up_ne ho, gx_up_ne ho, gx_up_ne ho]
  have zj : ∀ j, Z1 173 j = if j = 3 then 1 else if j = 0 then 0 else if j = 1 then (n : Int) else Z 173 j := fun j => by rw [← hZ1, gx_up_at, gx_up_at, gx_up_at]
  have y1 : Z1 173 1 = (n : Int) := by rw [zj]; rfl
  have y3 : Z1 173 3 = 1 := by rw [zj]; rfl
  have y0 : Z1 173 0 = ((0 : Nat) : Int) := by rw [zj]; rfl
  have t1 : pc_T Z1 (t + 1) = pc_T Z (t + 1) := by unfold pc_T; rw [z1 (t + 1) (by omega)]
  have t2 : pc_T Z1 (t + 2) = pc_T Z (t + 2) := by unfold pc_T; rw [z1 (t + 2) (by omega)]
  have bad : ¬ G → gr_end n G B0 (pc_T Z (t + 1), pc_T Z (t + 2)) Z (some (0, pc_h Z1)) := fun ng => ⟨Z1, rfl, fun o ho => z1 o (by omega), y1, Or.inl ⟨y3, ng⟩⟩
  by_cases c0 : v = 0
  · rw [if_pos c0]
    exact bad fun g => by have := hGv g; omega
  rw [if_neg c0, pc_cv g0, pc_isMild Z1 ht (by rw [z1 t (by omega)]; exact hn) hn4 (by rw [t1]; exact hB), pl_call, t1]
  by_cases c1 : ¬ mu_mi n (pc_T Z (t + 1))
  · rw [if_neg c1, pl_gi (by decide) (by decide), if_pos rfl]
    exact bad fun g => c1 (rc_fin (hG g).1 (hS g)).2.2.1
  have c1' : mu_mi n (pc_T Z (t + 1)) := Classical.byContradiction c1
  rw [if_pos c1', pl_gi (by decide) (by decide), if_neg (by decide), pc_cv pc_L173]
  obtain ⟨Z2, E2, p1, p2, p3⟩ := pc_fillProbe Z1 ht y1 hn4 hn2 (by rw [t1]; exact hB) (by rw [t2]; exact hD)
  rw [t1, t2] at p3
  obtain ⟨Z3, E3, u1, u2, u3, u4, u5⟩ := pc_addProbe Z2 (N := 0) (by rw [p1 173 (by decide)]; exact y0) (by decide)
  rw [E2, pl_call, pc_cv pc_L173, E3, pl_call]
  have bcn := st_cn_bd (n := n) (a := (pc_T Z (t + 1), pc_T Z (t + 2))) (by omega) hB hD
  refine pc_find_out Z Z3 (N := 1) (gn := fun _ => st_cn n (pc_T Z (t + 1), pc_T Z (t + 2))) hn4 hn2 hG ⟨fun o ho => ?_, ?_, ⟨?_, u3, by decide, fun s hs => ?_, fun t u h1 h2 => by omega, fun s k hs hk => ?_⟩, by decide, fun s' k' hl _ => by unfold bf_lx at hl; omega, st_E.rf⟩
  · rw [u1 o (by omega) (by omega) (by omega), p1 o (by omega), z1 o (by omega)]
  · rw [u2 3 (by decide), p1 173 (by decide)]; exact y3
  · rw [u2 1 (by decide), p1 173 (by decide)]; exact y1
  · have : s = 0 := by omega
    subst this
    refine ⟨fun p hp => ?_, bcn.1, bcn.2, st_rn_mi (st_cn_rn hn2 hn4 hD) c1', fun g => ?_⟩
    · rw [u4, u4, if_pos (by omega), if_pos (by omega), show 8 * 0 + p - 8 * 0 = p by omega, show 8 * 0 + 4 + p - 8 * 0 = 4 + p by omega]
      exact p3 p hp
    · have f := rc_fin (hG g).1 (hS g)
      exact ⟨rc_cn hn2 hn4 (hS g) hD, st_K_cn hn2 hn4 hD f.2.2.2⟩
  · have : s = 0 := by omega
    subst this
    rw [u5, if_pos (by omega)]
    exact Or.inl rfl
