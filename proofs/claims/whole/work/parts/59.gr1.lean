/-! the class's graph: stands kept as codes -/
theorem pc_copyO {β : Type} {Z : Nat → Nat → Int} {s d n0 n1 m q : Nat} {a c : Int} {K : gx_H → Option β} (h0 : pc_L[s]? = some (0, n0)) (h1 : pc_L[d]? = some (0, n1)) (ha : a = (q : Int)) (hc : c = (m : Int)) (hm : m ≤ n0) (hm1 : q + m ≤ n1) : gq_copy (pc_h Z) s 0 d a c K = K (pc_h (gx_us Z d (fun j => if q ≤ j ∧ j < q + m then Z s (j - q) else Z d j))) := by
  subst ha hc
  show ((pc_L[s]?).bind fun q0 => (pc_L[d]?).bind fun q1 => if q0.1 = 0 ∧ q1.1 = 0 ∧ (0 : Int) ≤ 0 ∧ (0 : Int) ≤ (q : Int) ∧ 0 ≤ (m : Int) ∧ 0 + (m : Int) ≤ (q0.2 : Int) ∧ (q : Int) + (m : Int) ≤ (q1.2 : Int) then K (pc_L, gx_us (pc_c Z) d (gx_cpy (pc_c Z s) (pc_c Z d) (0 : Int).toNat (q : Int).toNat (m : Int).toNat)) else none) = _
  rw [h0, h1]
  refine (if_pos (c := 0 = 0 ∧ 0 = 0 ∧ (0 : Int) ≤ 0 ∧ (0 : Int) ≤ (q : Int) ∧ 0 ≤ (m : Int) ∧ 0 + (m : Int) ≤ (n0 : Int) ∧ (q : Int) + (m : Int) ≤ (n1 : Int)) ⟨rfl, rfl, by omega, by omega, by omega, by omega, by omega⟩).trans ?_
  have e : gx_cpy (pc_c Z s) (pc_c Z d) (0 : Int).toNat (q : Int).toNat (m : Int).toNat = fun j => if q ≤ j ∧ j < q + m then Z s (j - q) else Z d j := by
    funext j
    show (if q ≤ j ∧ j < q + m then pc_c Z s (0 + (j - q)) else pc_c Z d j) = _
    have es : ∀ q, pc_c Z s q = Z s q := fun q => by unfold pc_c; rw [if_neg (by rw [pc_r_arr (Or.inl rfl) h0]; simp)]
    have ed : ∀ q, pc_c Z d q = Z d q := fun q => by unfold pc_c; rw [if_neg (by rw [pc_r_arr (Or.inl rfl) h1]; simp)]
    rw [es, ed, Nat.zero_add]
  rw [e, pc_us (pc_r_arr (Or.inl rfl) h1)]
  rfl
theorem pc_addProbe (Z : Nat → Nat → Int) {N : Nat} (hN : Z 173 0 = (N : Int)) (hN2 : N < 200) :
    ∃ Y, f_GR_addProbe (pc_h Z) 173 = some ((N : Int), pc_h Y) ∧ (∀ o, o ≠ 173 → o ≠ 174 → o ≠ 175 → Y o = Z o) ∧ (∀ j, j ≠ 0 → Y 173 j = Z 173 j) ∧ Y 173 0 = ((N + 1 : Nat) : Int) ∧ (∀ q, Y 175 q = if 8 * N ≤ q ∧ q < 8 * N + 8 then Z 176 (q - 8 * N) else Z 175 q) ∧ ∀ q, Y 174 q = if 4 * N ≤ q ∧ q < 4 * N + 4 then -1 else Z 174 q := by
  obtain ⟨l0, l1, l2, l3, l4, l5, l6⟩ := pc_LG
  obtain ⟨e0, e1, e2, e3, e4, e5, e6, e7, e8, e9, e10, e11, e12⟩ := pc_rG
  unfold f_GR_addProbe
  rw [pc_gr pc_L173 (by decide) e6 (by decide), pc_gr pc_L173 (by decide) e5 (by decide), pc_get pc_L173 (by decide) e0, hN, pc_copyO (c := 8) (q := 8 * N) (m := 8) l2 l1 (by omega) rfl (by omega) (by omega)]
  generalize hZ1 : gx_us Z 175 (fun j => if 8 * N ≤ j ∧ j < 8 * N + 8 then Z 176 (j - 8 * N) else Z 175 j) = Z1
  have z1 : ∀ o, o ≠ 175 → Z1 o = Z o := fun o ho => by rw [← hZ1, gx_us_ne ho]
  have z5 : ∀ q, Z1 175 q = if 8 * N ≤ q ∧ q < 8 * N + 8 then Z 176 (q - 8 * N) else Z 175 q := fun q => by rw [← hZ1, gx_us_eq]
  have n1 : Z1 173 0 = (N : Int) := by rw [z1 173 (by decide)]; exact hN
  have hh := pl_inv (A := fun fu i Y => f_GR_addProbe_23 fu (pc_h Y) 173 (i : Int)) (out := fun Y => some ((N : Int), pc_h (gx_up Y 173 0 ((N : Int) + 1)))) (Q := fun i Y => (∀ o, o ≠ 174 → Y o = Z1 o) ∧ ∀ q, Y 174 q = if 4 * N ≤ q ∧ q < 4 * N + i then -1 else Z1 174 q) 4 (by decide) (fun i hi Y hQ fu => ?_) (fun fu Y hQ => ?_) Z1 ⟨fun _ _ => rfl, fun q => by rw [if_neg (by omega)]⟩
  · obtain ⟨Y, ⟨h1, h2⟩, e⟩ := hh
    refine ⟨_, e, fun o a b c => ?_, fun j hj => ?_, ?_, fun q => ?_, fun q => ?_⟩
    · rw [gx_up_ne a, h1 o b, z1 o c]
    · rw [gx_up_at, if_neg hj, h1 173 (by decide), z1 173 (by decide)]
    · rw [gx_up_at, if_pos rfl]; omega
    · rw [gx_up_ne (by decide), h1 175 (by decide), z5]
    · rw [gx_up_ne (by decide), h2, z1 174 (by decide)]
  · have y0 : Y 173 0 = (N : Int) := by rw [hQ.1 173 (by decide)]; exact n1
    show ∃ s', _ ∧ fb_GR_addProbe_23 (f_GR_addProbe_23 fu) _ _ _ = _
    unfold fb_GR_addProbe_23
    rw [pl_gi (by omega) (by omega), if_pos (by omega), pc_gr pc_L173 (by decide) e4 (by decide), pc_get pc_L173 (by decide) e0, y0, pc_ast (i := 4 * N + i) (Or.inl rfl) trivial l0 (by omega) (by omega)]
    refine ⟨_, ⟨fun o ho => ?_, fun q => ?_⟩, rfl⟩
    · rw [gx_up_ne ho]; exact hQ.1 o ho
    · rw [gx_up_at]
      by_cases c : q = 4 * N + i
      · rw [if_pos c, if_pos (by omega)]
      · rw [if_neg c, hQ.2 q]
        by_cases d : 4 * N ≤ q ∧ q < 4 * N + i
        · rw [if_pos d, if_pos (by omega)]
        · rw [if_neg d, if_neg (by omega)]
  · have y0 : Y 173 0 = (N : Int) := by rw [hQ.1 173 (by decide)]; exact n1
    show fb_GR_addProbe_23 (f_GR_addProbe_23 fu) _ _ _ = _
    unfold fb_GR_addProbe_23
    rw [pl_gi (by decide) (by decide), if_neg (by decide), pc_get pc_L173 (by decide) e0, y0, pc_put ⟨by omega, by omega⟩ pc_L173 (by decide) e0, pc_get pc_L173 (by decide) e0, gx_up_at, if_pos rfl]
    rw [show (N : Int) + 1 - 1 = (N : Int) by omega]
/-- a stand's codes are the probe's -/
def gr_m (n : Nat) (Z : Nat → Nat → Int) (s : Nat) : Prop := ∀ p, p < n → Z 175 (8 * s + p) = Z 176 p ∧ Z 175 (8 * s + 4 + p) = Z 176 (4 + p)
theorem pc_isProbe (Z : Nat → Nat → Int) {n s : Nat} {a : Int} (hn : Z 173 1 = (n : Int)) (hn4 : n ≤ 4) (ha : a = (s : Int)) (hs : s < 200) : (gr_m n Z s → f_GR_isProbe (pc_h Z) 173 a = some (1, pc_h Z)) ∧ (¬ gr_m n Z s → f_GR_isProbe (pc_h Z) 173 a = some (0, pc_h Z)) := by
  subst ha
  obtain ⟨l0, l1, l2, l3, l4, l5, l6⟩ := pc_LG
  obtain ⟨e0, e1, e2, e3, e4, e5, e6, e7, e8, e9, e10, e11, e12⟩ := pc_rG
  have h := pl_srch0 (A := fun fu p => f_GR_isProbe_2 fu (pc_h Z) 173 (s : Int) (p : Int)) (out := some ((1 : Int), pc_h Z)) (bad := some (0, pc_h Z)) n (by omega) (fun p => Z 175 (8 * s + p) = Z 176 p ∧ Z 175 (8 * s + 4 + p) = Z 176 (4 + p)) (fun p hp fu => ?_) (fun fu => ?_)
  · exact ⟨fun z => h.trans (if_pos z), fun z => h.trans (if_neg z)⟩
  · show fb_GR_isProbe_2 (f_GR_isProbe_2 fu) _ _ _ _ = _
    unfold fb_GR_isProbe_2
    rw [pc_get pc_L173 (by decide) e1, hn, pl_gi (by omega) (by omega), if_pos (by omega), pc_gr pc_L173 (by decide) e5 (by decide), pc_ald (i := 8 * s + p) l1 (by omega) (by omega), pc_gr pc_L173 (by decide) e6 (by decide), pc_ald (i := p) l2 rfl (by omega), pc_gr pc_L173 (by decide) e5 (by decide), pc_ald (i := 8 * s + 4 + p) l1 (by omega) (by omega), pc_gr pc_L173 (by decide) e6 (by decide), pc_ald (i := 4 + p) l2 (by omega) (by omega)]
    by_cases h1 : Z 175 (8 * s + p) = Z 176 p
    · rw [if_pos h1]
      by_cases h2 : Z 175 (8 * s + 4 + p) = Z 176 (4 + p)
      · rw [if_pos h2, if_pos ⟨h1, h2⟩]; rfl
      · rw [if_neg h2, if_neg fun z => h2 z.2]
    · rw [if_neg h1, if_neg fun z => h1 z.1]
  · show fb_GR_isProbe_2 (f_GR_isProbe_2 fu) _ _ _ _ = _
    unfold fb_GR_isProbe_2
    rw [pc_get pc_L173 (by decide) e1, hn, pl_gi (by omega) (by omega), if_neg (by omega)]
theorem pc_standOfProbe (Z : Nat → Nat → Int) {n N : Nat} (hn : Z 173 1 = (n : Int)) (hn4 : n ≤ 4) (hn2 : 2 ≤ n) (hN : Z 173 0 = (N : Int)) (hN2 : N ≤ 200) :
    (∃ s, s < N ∧ gr_m n Z s ∧ f_GR_standOfProbe (pc_h Z) 173 = some ((s : Int), pc_h Z)) ∨ ((∀ s, s < N → ¬ gr_m n Z s) ∧ f_GR_standOfProbe (pc_h Z) 173 = some (-1, pc_h Z)) := by
  obtain ⟨l0, l1, l2, l3, l4, l5, l6⟩ := pc_LG
  obtain ⟨e0, e1, e2, e3, e4, e5, e6, e7, e8, e9, e10, e11, e12⟩ := pc_rG
  have h := pl_find (A := fun fu s => f_GR_standOfProbe_2 fu (pc_h Z) 173 (s : Int)) (out := some ((-1 : Int), pc_h Z)) (bad := fun s => some ((s : Int), pc_h Z)) N (by omega) (fun s => ¬ gr_m n Z s) (fun s hs fu => ?_) (fun fu => ?_)
  · rcases mu_least (P := fun s => gr_m n Z s) N with q | ⟨s, hs, he, hl⟩
    · exact Or.inr ⟨q, h.1 q⟩
    · exact Or.inl ⟨s, hs, he, h.2 s hs (fun z => z he) hl⟩
  · have ip := pc_isProbe Z (s := s) hn hn4 rfl (by omega)
    show (_ → fb_GR_standOfProbe_2 (f_GR_standOfProbe_2 fu) _ _ _ = _) ∧ (_ → fb_GR_standOfProbe_2 (f_GR_standOfProbe_2 fu) _ _ _ = _)
    unfold fb_GR_standOfProbe_2
    rw [pc_get pc_L173 (by decide) e0, hN, pl_gi (by omega) (by omega), if_pos (by omega), pc_gr pc_L173 (by decide) e5 (by decide), pc_ald (i := 8 * s) l1 (by omega) (by omega), pc_gr pc_L173 (by decide) e6 (by decide), pc_ald (a := 0) (i := 0) l2 rfl (by omega)]
    by_cases c : Z 175 (8 * s) = Z 176 0
    · rw [if_pos c, pc_cv pc_L173]
      constructor
      · intro z
        rw [ip.2 z, pl_call, pl_gi (by decide) (by decide), if_pos rfl]
        rfl
      · intro z
        rw [ip.1 (Classical.byContradiction z), pl_call, pl_gi (by decide) (by decide), if_neg (by decide)]
    · rw [if_neg c]
      exact ⟨fun _ => rfl, fun z => absurd ((Classical.byContradiction z) 0 (by omega)).1 c⟩
  · show fb_GR_standOfProbe_2 (f_GR_standOfProbe_2 fu) _ _ _ = _
    unfold fb_GR_standOfProbe_2
    rw [pc_get pc_L173 (by decide) e0, hN, pl_gi (by omega) (by omega), if_neg (by omega)]
/-- a row out of its code -/
theorem mu_cd_dm {D : Nat → Nat → Int} {i m : Nat} (h : mu_in (D i m)) (h0 : 0 ≤ mu_cd D i m) : (mu_cd D i (m + 1)).tmod 200 - 100 = D i m ∧ (mu_cd D i (m + 1)).tdiv 200 = mu_cd D i m := by
  simp only [mu_cd]
  rw [Int.tmod_eq_emod_of_nonneg (by omega), Int.tdiv_eq_ediv_of_nonneg (by omega)]
  omega
theorem pc_spread (Z : Nat → Nat → Int) {n o a : Nat} {b : Int} {A : Nat → Nat → Int} (hn : Z 173 1 = (n : Int)) (hn4 : n ≤ 4) (hL : pc_L[o]? = some (0, 16)) (hb : b = (a : Int)) (ha : a < 4) (hA : ∀ m, m < n → mu_in (A a m)) :
    ∃ Y, f_GR_spread (pc_h Z) 173 (mu_cd A a n) o b = some (0, pc_h Y) ∧ (∀ o', o' ≠ o → Y o' = Z o') ∧ (∀ q, (q < 4 * a ∨ 4 * a + 4 ≤ q) → Y o q = Z o q) ∧ ∀ m, m < n → Y o (4 * a + m) = A a m := by
  subst hb
  obtain ⟨e0, e1, e2, e3, e4, e5, e6, e7, e8, e9, e10, e11, e12⟩ := pc_rG
  unfold f_GR_spread
  rw [pc_get pc_L173 (by decide) e1, hn]
  have hh := pl_inv (A := fun fu i Y => f_GR_spread_11 fu (pc_h Y) o (a : Int) (mu_cd A a (n - i)) ((n : Int) - 1 - (i : Int))) (out := fun Y => some ((0 : Int), pc_h Y)) (Q := fun i Y => (∀ o', o' ≠ o → Y o' = Z o') ∧ (∀ q, (q < 4 * a ∨ 4 * a + 4 ≤ q) → Y o q = Z o q) ∧ ∀ m, n - i ≤ m → m < n → Y o (4 * a + m) = A a m) n (by omega) (fun i hi Y hQ fu => ?_) (fun fu Y hQ => ?_) Z ⟨fun _ _ => rfl, fun _ _ => rfl, fun m h1 h2 => by omega⟩
  · obtain ⟨Y, ⟨h1, h2, h3⟩, e⟩ := hh
    refine ⟨Y, ?_, h1, h2, fun m hm => h3 m (by omega) hm⟩
    have e' : f_GR_spread_11 gx_fu (pc_h Z) o (a : Int) (mu_cd A a (n - 0)) ((n : Int) - 1 - ((0 : Nat) : Int)) = some ((0 : Int), pc_h Y) := e
    rw [Nat.sub_zero, show (n : Int) - 1 - ((0 : Nat) : Int) = (n : Int) - 1 by omega] at e'
    exact e'
  · obtain ⟨m, hm⟩ : ∃ m, n - i = m + 1 := ⟨n - i - 1, by omega⟩
    have hin := hA m (by omega)
    have cb := mu_cd_bd (D := A) (i := a) hA m (by omega)
    have cb1 := mu_cd_bd (D := A) (i := a) hA (m + 1) (by omega)
    have p200 : (200 : Int) ^ (m + 1) ≤ 1600000000 := mu_200 (by omega)
    have dm := mu_cd_dm hin cb.1
    show ∃ s', _ ∧ fb_GR_spread_11 (f_GR_spread_11 fu) _ _ _ _ _ = _
    unfold fb_GR_spread_11 f_LE_cell
    rw [pl_gi (by omega) (by omega), if_neg (by omega), pl_call, hm, pl_gi (by omega) (by omega), dm.1, dm.2, pc_ast (i := 4 * a + m) (Or.inl rfl) ⟨by omega, by omega⟩ hL (by omega) (by omega)]
    refine ⟨gx_up Y o (4 * a + m) (A a m), ⟨fun o' ho => ?_, fun q hq => ?_, fun r h1 h2 => ?_⟩, ?_⟩
    · rw [gx_up_ne ho]; exact hQ.1 o' ho
    · rw [gx_up_at, if_neg (by omega)]; exact hQ.2.1 q hq
    · rw [gx_up_at]
      by_cases c : r = m
      · subst c; rw [if_pos rfl]
      · rw [if_neg (by omega)]; exact hQ.2.2 r (by omega) h2
    · rw [show n - (i + 1) = m by omega, show (n : Int) - 1 - (i : Int) + -1 = (n : Int) - 1 - ((i + 1 : Nat) : Int) by omega]
  · show fb_GR_spread_11 (f_GR_spread_11 fu) _ _ _ _ _ = _
    unfold fb_GR_spread_11
    rw [pl_gi (by omega) (by omega), if_pos (by omega)]
theorem pc_H181 : pc_H 181 = true ∧ pc_H 184 = true := by decide
theorem pc_load (Z : Nat → Nat → Int) {n s : Nat} {b : Int} {a : st_t} (hn : Z 173 1 = (n : Int)) (hn4 : n ≤ 4) (hb : b = (s : Int)) (hs : s < 200) (h1 : mu_bd n a.1) (h2 : mu_bd n a.2) (hc : ∀ p, p < n → Z 175 (8 * s + p) = mu_cd a.2 p n ∧ Z 175 (8 * s + 4 + p) = mu_cd a.1 p n) :
    ∃ Y, f_GR_load (pc_h Z) 173 b = some (0, pc_h Y) ∧ (∀ o, (o < 181 ∨ 183 < o) → Y o = Z o) ∧ Y 181 0 = (n : Int) ∧ mu_q n (pc_T Y 182) a.1 ∧ mu_q n (pc_T Y 183) a.2 := by
  subst hb
  obtain ⟨l0, l1, l2, l3, l4, l5, l6⟩ := pc_LG
  obtain ⟨e0, e1, e2, e3, e4, e5, e6, e7, e8, e9, e10, e11, e12⟩ := pc_rG
  obtain ⟨g0, g1, g2, r0, r1, r2⟩ := pc_H_all 181 (by decide) pc_H181.1
  unfold f_GR_load
  rw [pc_gr pc_L173 (by decide) e11 (by decide), pc_get pc_L173 (by decide) e1, hn, pc_put trivial g0 (by decide) r0]
  generalize hZ1 : gx_up Z 181 0 (n : Int) = Z1
  have z1 : ∀ o, o ≠ 181 → Z1 o = Z o := fun o ho => by rw [← hZ1, gx_up_ne ho]
  have z0 : Z1 181 0 = (n : Int) := by rw [← hZ1, gx_up_at, if_pos rfl]
  have hh := pl_inv (A := fun fu i Y => f_GR_load_13 fu (pc_h Y) 173 (s : Int) (i : Int)) (out := fun Y => some ((0 : Int), pc_h Y)) (Q := fun i Y => (∀ o, o ≠ 182 → o ≠ 183 → Y o = Z1 o) ∧ ∀ p m, p < i → m < n → Y 182 (4 * p + m) = a.1 p m ∧ Y 183 (4 * p + m) = a.2 p m) n (by omega) (fun i hi Y hQ fu => ?_) (fun fu Y hQ => ?_) Z1 ⟨fun _ _ _ => rfl, fun p m hp _ => by omega⟩
  · obtain ⟨Y, ⟨q1, q2⟩, e⟩ := hh
    refine ⟨Y, e, fun o ho => ?_, ?_, fun i hi j hj => (q2 i j hi hj).1, fun i hi j hj => (q2 i j hi hj).2⟩
    · rw [q1 o (by omega) (by omega), z1 o (by omega)]
    · rw [q1 181 (by decide) (by decide)]; exact z0
  · have y1 : Y 173 1 = (n : Int) := by rw [hQ.1 173 (by decide) (by decide), z1 173 (by decide)]; exact hn
    have y5 : Y 175 = Z 175 := by rw [hQ.1 175 (by decide) (by decide), z1 175 (by decide)]
    obtain ⟨Y', s1, s2, s3, s4⟩ := pc_spread Y (o := 183) (a := i) (A := a.2) y1 hn4 g2 rfl (by omega) (fun m hm => h2 i hi m hm)
    have y1' : Y' 173 1 = (n : Int) := by rw [s2 173 (by decide)]; exact y1
    have y5' : Y' 175 = Z 175 := by rw [s2 175 (by decide)]; exact y5
    obtain ⟨Y'', t1, t2, t3, t4⟩ := pc_spread Y' (o := 182) (a := i) (A := a.1) y1' hn4 g1 rfl (by omega) (fun m hm => h1 i hi m hm)
    show ∃ s', _ ∧ fb_GR_load_13 (f_GR_load_13 fu) _ _ _ _ = _
    unfold fb_GR_load_13
    rw [pc_get pc_L173 (by decide) e1, y1, pl_gi (by omega) (by omega), if_pos (by omega), pc_gr pc_L173 (by decide) e5 (by decide), pc_ald (i := 8 * s + i) l1 (by omega) (by omega), y5, (hc i hi).1, pc_gr pc_L173 (by decide) e11 (by decide), pc_gr g0 (by decide) r2 (by decide), pc_cv pc_L173, s1, pl_call, pc_gr pc_L173 (by decide) e5 (by decide), pc_ald (i := 8 * s + 4 + i) l1 (by omega) (by omega), y5', (hc i hi).2, pc_gr pc_L173 (by decide) e11 (by decide), pc_gr g0 (by decide) r1 (by decide), pc_cv pc_L173, t1, pl_call]
    refine ⟨Y'', ⟨fun o a b => ?_, fun p m hp hm => ?_⟩, rfl⟩
    · rw [t2 o a, s2 o b]; exact hQ.1 o a b
    · rw [t2 183 (by decide)]
      by_cases c : p = i
      · subst c
        exact ⟨t4 m hm, s4 m hm⟩
      · rw [t3 _ (by omega), s3 _ (by omega), s2 182 (by decide)]
        exact hQ.2 p m (by omega) hm
  · have y1 : Y 173 1 = (n : Int) := by rw [hQ.1 173 (by decide) (by decide), z1 173 (by decide)]; exact hn
    show fb_GR_load_13 (f_GR_load_13 fu) _ _ _ _ = _
    unfold fb_GR_load_13
    rw [pc_get pc_L173 (by decide) e1, y1, pl_gi (by omega) (by omega), if_neg (by omega)]
