/-! stands: a table and D rows, as ranked -/
abbrev st_t : Type := (Nat → Nat → Int) × (Nat → Nat → Int)
def st_E (n : Nat) (a b : st_t) : Prop := mu_q n a.1 b.1 ∧ mu_q n a.2 b.2
theorem st_E.rf {n : Nat} {a : st_t} : st_E n a a := ⟨mu_q.rf, mu_q.rf⟩
theorem st_E.symm {n : Nat} {a b : st_t} (h : st_E n a b) : st_E n b a := ⟨h.1.symm, h.2.symm⟩
theorem st_E.trans {n : Nat} {a b c : st_t} (h : st_E n a b) (h2 : st_E n b c) : st_E n a c := ⟨h.1.trans h2.1, h.2.trans h2.2⟩
def st_cn (n : Nat) (a : st_t) : st_t := (fun p q => a.1 (mu_rk n a.2 p) (mu_rk n a.2 q), fun p m => a.2 (mu_rk n a.2 p) m)
def st_mv (n : Nat) (a : st_t) (k : Nat) : st_t := (mu_B a.1 k, mu_D n a.1 a.2 k)
def st_go (n : Nat) (a : st_t) (k : Nat) : st_t := st_cn n (st_mv n a k)
theorem st_mv_E {n k : Nat} {a b : st_t} (h : st_E n a b) (hk : k < n) : st_E n (st_mv n a k) (st_mv n b k) := ⟨mu_q_B h.1 hk, mu_q_D h.1 h.2 hk⟩
theorem st_cn_E {n : Nat} {a b : st_t} (hn : 0 < n) (h : st_E n a b) : st_E n (st_cn n a) (st_cn n b) := by
  refine ⟨fun p hp q hq => ?_, fun p hp m hm => ?_⟩
  · show a.1 (mu_rk n a.2 p) (mu_rk n a.2 q) = b.1 (mu_rk n b.2 p) (mu_rk n b.2 q)
    rw [mu_rk_q h.2, mu_rk_q h.2]
    exact h.1 _ (mu_rk_lt n _ _ hn) _ (mu_rk_lt n _ _ hn)
  · show a.2 (mu_rk n a.2 p) m = b.2 (mu_rk n b.2 p) m
    rw [mu_rk_q h.2]
    exact h.2 _ (mu_rk_lt n _ _ hn) m hm
theorem st_go_E {n k : Nat} {a b : st_t} (h : st_E n a b) (hk : k < n) : st_E n (st_go n a k) (st_go n b k) := st_cn_E (by omega) (st_mv_E h hk)
/-- b is a, numbered by s -/
def st_rn (n : Nat) (s : Nat → Nat) (a b : st_t) : Prop := mu_pm n n s ∧ mu_tn n s a.1 b.1 ∧ mu_dn n s (fun m => m) a.2 b.2
theorem st_rn.rf {n : Nat} {a : st_t} : st_rn n (fun i => i) a a := ⟨⟨fun _ h => h, fun _ _ _ _ e => e⟩, fun _ _ _ _ => rfl, fun _ _ _ _ => rfl⟩
theorem st_rn_E {n : Nat} {s : Nat → Nat} {a b c : st_t} (h : st_rn n s a b) (h2 : st_E n b c) : st_rn n s a c := ⟨h.1, fun i hi j hj => by rw [← h2.1 i hi j hj]; exact h.2.1 i hi j hj, fun i hi j hj => by rw [← h2.2 i hi j hj]; exact h.2.2 i hi j hj⟩
theorem st_rn_El {n : Nat} {s : Nat → Nat} {a b c : st_t} (h : st_rn n s a b) (h2 : st_E n a c) : st_rn n s c b := ⟨h.1, fun i hi j hj => by rw [← h2.1 _ (h.1.1 i hi) _ (h.1.1 j hj)]; exact h.2.1 i hi j hj, fun i hi j hj => by rw [← h2.2 _ (h.1.1 i hi) j hj]; exact h.2.2 i hi j hj⟩
theorem st_rn.trans {n : Nat} {s t : Nat → Nat} {a b c : st_t} (h : st_rn n s a b) (h2 : st_rn n t b c) : st_rn n (fun i => s (t i)) a c :=
  ⟨mu_pm_comp h.1 h2.1, fun i hi j hj => by rw [h2.2.1 i hi j hj, h.2.1 _ (h2.1.1 i hi) _ (h2.1.1 j hj)], fun i hi m hm => by rw [h2.2.2 i hi m hm, h.2.2 _ (h2.1.1 i hi) m hm]⟩
theorem st_rn.inv {n : Nat} {s : Nat → Nat} {a b : st_t} (hn2 : 2 ≤ n) (hn4 : n ≤ 4) (h : st_rn n s a b) : ∃ t, st_rn n t b a := by
  obtain ⟨t, ht, t1, _⟩ := mu_pm_inv hn2 hn4 h.1
  exact ⟨t, ht, fun i hi j hj => by rw [h.2.1 _ (ht.1 i hi) _ (ht.1 j hj), t1 i hi, t1 j hj], fun i hi m hm => by rw [h.2.2 _ (ht.1 i hi) m hm, t1 i hi]⟩
theorem st_rn_mv {n k : Nat} {s : Nat → Nat} {a b : st_t} (hn2 : 2 ≤ n) (hn4 : n ≤ 4) (h : st_rn n s a b) (hk : k < n) : st_rn n s (st_mv n a (s k)) (st_mv n b k) :=
  ⟨h.1, mu_tn_B h.1 h.2.1 hk, mu_dn_D hn2 hn4 h.1 h.2.1 h.2.2 hk⟩
theorem st_rn_bd {n : Nat} {s : Nat → Nat} {a b : st_t} (h : st_rn n s a b) (h1 : mu_bd n a.1) (h2 : mu_bd n a.2) : mu_bd n b.1 ∧ mu_bd n b.2 :=
  ⟨fun i hi j hj => by rw [h.2.1 i hi j hj]; exact h1 _ (h.1.1 i hi) _ (h.1.1 j hj), fun i hi j hj => by rw [h.2.2 i hi j hj]; exact h2 _ (h.1.1 i hi) j hj⟩
theorem st_rn_un {n : Nat} {s : Nat → Nat} {a b : st_t} (h : st_rn n s a b) (h1 : mu_un n a.2) : mu_un n b.2 := fun i j hi hj he =>
  h.1.2 i hi j hj (h1 _ _ (h.1.1 i hi) (h.1.1 j hj) fun m hm => by rw [← h.2.2 i hi m hm, ← h.2.2 j hj m hm]; exact he m hm)
theorem st_cn_rn {n : Nat} {a : st_t} (hn2 : 2 ≤ n) (hn4 : n ≤ 4) (h : mu_bd n a.2) : st_rn n (mu_rk n a.2) a (st_cn n a) := ⟨mu_rk_pm hn2 hn4 h, fun _ _ _ _ => rfl, fun _ _ _ _ => rfl⟩
/-- numbered otherwise, as ranked they are the same -/
theorem st_cn_same {n : Nat} {s : Nat → Nat} {a b : st_t} (hn2 : 2 ≤ n) (hn4 : n ≤ 4) (hD : mu_bd n a.2) (hu : mu_un n a.2) (h : st_rn n s a b) : st_E n (st_cn n b) (st_cn n a) := by
  have e : ∀ p, p < n → s (mu_rk n b.2 p) = mu_rk n a.2 p := fun p hp => mu_rk_dn hn2 hn4 h.1 hD hu h.2.2 hp
  have l : ∀ p, mu_rk n b.2 p < n := fun p => mu_rk_lt n _ _ (by omega)
  refine ⟨fun p hp q hq => ?_, fun p hp m hm => ?_⟩
  · show b.1 (mu_rk n b.2 p) (mu_rk n b.2 q) = a.1 (mu_rk n a.2 p) (mu_rk n a.2 q)
    rw [h.2.1 _ (l p) _ (l q), e p hp, e q hq]
  · show b.2 (mu_rk n b.2 p) m = a.2 (mu_rk n a.2 p) m
    rw [h.2.2 _ (l p) m hm, e p hp]
theorem st_rn_mi {n : Nat} {s : Nat → Nat} {a b : st_t} (h : st_rn n s a b) (h1 : mu_mi n a.1) : mu_mi n b.1 := by
  intro i hi j hj
  have hj' : j < n := by omega
  rw [h.2.1 i hi j hj', h.2.1 j hj' i hi]
  rcases Nat.lt_trichotomy (s i) (s j) with c | c | c
  · rw [Int.mul_comm]
    exact h1 _ (h.1.1 j hj') _ c
  · exact absurd (h.1.2 i hi j hj' c) (by omega)
  · exact h1 _ (h.1.1 i hi) _ c
/-! all that is come to from a table told, numbered anyhow -/
def rc_R (n : Nat) (B0 : Nat → Nat → Int) (ks : List Nat) : st_t := (mu_rB ks B0, mu_rD n ks B0 mu_I)
def rc_S (n : Nat) (B0 : Nat → Nat → Int) (a : st_t) : Prop := ∃ (ks : List Nat) (s : Nat → Nat), (∀ k ∈ ks, k < n) ∧ st_rn n s (rc_R n B0 ks) a
theorem rc_E {n : Nat} {B0 : Nat → Nat → Int} {a b : st_t} (h : rc_S n B0 a) (e : st_E n a b) : rc_S n B0 b := by
  obtain ⟨ks, s, hk, h⟩ := h
  exact ⟨ks, s, hk, st_rn_E h e⟩
theorem rc_rn {n : Nat} {B0 : Nat → Nat → Int} {t : Nat → Nat} {a b : st_t} (h : rc_S n B0 a) (e : st_rn n t a b) : rc_S n B0 b := by
  obtain ⟨ks, s, hk, h⟩ := h
  exact ⟨ks, _, hk, h.trans e⟩
theorem rc_mv {n k : Nat} {B0 : Nat → Nat → Int} {a : st_t} (hn2 : 2 ≤ n) (hn4 : n ≤ 4) (h : rc_S n B0 a) (hk : k < n) : rc_S n B0 (st_mv n a k) := by
  obtain ⟨ks, s, hks, h⟩ := h
  refine ⟨ks ++ [s k], s, fun x hx => ?_, ?_⟩
  · rcases List.mem_append.mp hx with e | e
    · exact hks x e
    · rw [List.mem_singleton.mp e]
      exact h.1.1 k hk
  · have e := st_rn_mv hn2 hn4 h hk
    unfold rc_R
    rw [mu_rB_app, mu_rD_app]
    exact e
theorem rc_wt {n : Nat} {B0 : Nat → Nat → Int} {a : st_t} {w : Nat → Int} (hw : ∀ i, i < n → 1 ≤ w i) (hB : mu_wt n B0 w) (h : rc_S n B0 a) : ∀ i, i < n → a.1 i i = 0 := by
  obtain ⟨ks, s, hks, h⟩ := h
  intro i hi
  rw [h.2.1 i hi i hi]
  exact mu_wt_dg hw ((mu_rB_wt hw ks B0 hks).mpr hB) (h.1.1 i hi)
/-- what the finite check says of them -/
theorem rc_fin {n : Nat} {B0 : Nat → Nat → Int} {a : st_t} (hf : mu_fin n B0) (h : rc_S n B0 a) : mu_bd n a.1 ∧ mu_bd n a.2 ∧ mu_mi n a.1 ∧ mu_un n a.2 := by
  obtain ⟨Ls, _, hf⟩ := hf
  obtain ⟨ks, s, hks, h⟩ := h
  obtain ⟨f1, f2, f3, f4, _⟩ := hf ks hks
  have b := st_rn_bd h f1 f2
  exact ⟨b.1, b.2, st_rn_mi h f3, st_rn_un h f4⟩
theorem rc_cn {n : Nat} {B0 : Nat → Nat → Int} {a : st_t} (hn2 : 2 ≤ n) (hn4 : n ≤ 4) (h : rc_S n B0 a) (hD : mu_bd n a.2) : rc_S n B0 (st_cn n a) := rc_rn h (st_cn_rn hn2 hn4 hD)
/-- as ranked already -/
def st_K (n : Nat) (a : st_t) : Prop := st_E n (st_cn n a) a
theorem st_K_cn {n : Nat} {a : st_t} (hn2 : 2 ≤ n) (hn4 : n ≤ 4) (hD : mu_bd n a.2) (hu : mu_un n a.2) : st_K n (st_cn n a) := st_cn_same hn2 hn4 hD hu (st_cn_rn hn2 hn4 hD)
/-- an exchange goes back, also as ranked -/
theorem rc_back {n k : Nat} {B0 : Nat → Nat → Int} {a : st_t} {w : Nat → Int} (hn2 : 2 ≤ n) (hn4 : n ≤ 4) (hw : ∀ i, i < n → 1 ≤ w i) (hB : mu_wt n B0 w) (hf : mu_fin n B0) (h : rc_S n B0 a) (hK : st_K n a) (hk : k < n) : st_E n (st_go n (st_go n a k) (mu_pl n (st_mv n a k).2 k)) a := by
  have h0 := rc_wt hw hB h k hk
  have hm := rc_mv hn2 hn4 h hk
  have f := rc_fin hf hm
  have fa := rc_fin hf h
  have r := st_cn_rn hn2 hn4 f.2.1
  have hp := (mu_pl_pm f.2.1).1 k hk
  have e := st_rn_mv hn2 hn4 r hp
  rw [mu_rk_pl hn2 hn4 f.2.1 hk] at e
  have i : st_mv n (st_mv n a k) k = a := by
    unfold st_mv
    show (mu_B (mu_B a.1 k) k, mu_D n (mu_B a.1 k) (mu_D n a.1 a.2 k) k) = a
    rw [mu_B_inv, mu_D_inv h0]
  rw [i] at e
  exact (st_cn_same hn2 hn4 fa.2.1 fa.2.2.2 e).trans hK
/-! no more than 200 unlike ones -/
theorem nat_hole : ∀ (L N : Nat) (f : Nat → Nat), (∀ t, t < N → f t < L) → (∀ t u, t < u → u < N → f t ≠ f u) → N ≤ L
  | 0, N, f, h, _ => by
    apply Classical.byContradiction
    intro hN
    have := h 0 (by omega)
    omega
  | L + 1, N, f, h, hi => by
    by_cases c : ∃ t, t < N ∧ f t = L
    · obtain ⟨t, ht, e⟩ := c
      -- take t out
      have key := nat_hole L (N - 1) (fun i => if i < t then f i else f (i + 1)) (fun i hi' => ?_) (fun i j hij hj => ?_)
      · omega
      · show (if i < t then f i else f (i + 1)) < L
        by_cases ci : i < t
        · rw [if_pos ci]
          have h1 := h i (by omega)
          have h2 := hi i t ci ht
          omega
        · rw [if_neg ci]
          have h1 := h (i + 1) (by omega)
          have h2 := hi t (i + 1) (by omega) (by omega)
          omega
      · show (if i < t then f i else f (i + 1)) ≠ (if j < t then f j else f (j + 1))
        by_cases ci : i < t
        · rw [if_pos ci]
          by_cases cj : j < t
          · rw [if_pos cj]
            exact hi i j hij (by omega)
          · rw [if_neg cj]
            exact hi i (j + 1) (by omega) (by omega)
        · rw [if_neg ci, if_neg (by omega)]
          exact hi (i + 1) (j + 1) (by omega) (by omega)
    · have key := nat_hole L N f (fun t ht => ?_) hi
      · omega
      · have h1 := h t ht
        have h2 : f t ≠ L := fun e => c ⟨t, ht, e⟩
        omega
theorem rc_few {n N : Nat} {B0 : Nat → Nat → Int} {nd : Nat → st_t} (hn2 : 2 ≤ n) (hn4 : n ≤ 4) (hf : mu_fin n B0) (h : ∀ t, t < N → rc_S n B0 (nd t) ∧ st_K n (nd t)) (hu : ∀ t u, t < u → u < N → ¬ st_E n (nd t) (nd u)) : N ≤ 200 := by
  have hf' := hf
  obtain ⟨Ls, hl, hf⟩ := hf
  have hx : ∀ t, ∃ i, t < N → i < Ls.length ∧ ∃ M, Ls[i]? = some M ∧ st_E n (nd t) (st_cn n M) := by
    intro t
    by_cases ht : t < N
    · obtain ⟨ks, s, hks, hr⟩ := (h t ht).1
      obtain ⟨f1, f2, f3, f4, M, hM, u, hu1, hu2, hu3⟩ := hf ks hks
      obtain ⟨i, hi⟩ := List.mem_iff_getElem?.mp hM
      have r1 : st_rn n u M (rc_R n B0 ks) := ⟨hu1, hu2, hu3⟩
      obtain ⟨v, r2⟩ := r1.inv hn2 hn4
      have e1 := st_cn_same hn2 hn4 f2 f4 r2
      have e2 := st_cn_same hn2 hn4 f2 f4 hr
      exact ⟨i, fun _ => ⟨(List.getElem?_eq_some_iff.mp hi).1, M, hi, (h t ht).2.symm.trans (e2.trans e1.symm)⟩⟩
    · exact ⟨0, fun z => absurd z ht⟩
  refine Nat.le_trans (nat_hole Ls.length N (fun t => Classical.choose (hx t)) (fun t ht => (Classical.choose_spec (hx t) ht).1) (fun t u htu hu' e => ?_)) hl
  have e' : Classical.choose (hx t) = Classical.choose (hx u) := e
  obtain ⟨_, M1, m1, e1⟩ := Classical.choose_spec (hx t) (by omega)
  obtain ⟨_, M2, m2, e2⟩ := Classical.choose_spec (hx u) hu'
  rw [e', m2] at m1
  cases m1
  exact hu t u htu hu' (e1.trans e2.symm)
