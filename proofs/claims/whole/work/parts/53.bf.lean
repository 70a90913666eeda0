/-! walks by steps: what is come to, numbered as it is come to -/
abbrev bf_lx (s k s' k' : Nat) : Prop := s < s' ∨ (s = s' ∧ k < k')
/-- a walk that has ended: N stands nd, each come to first by (fr, by), ways ld -/
def bf_C (n N : Nat) (nd : Nat → st_t) (fr bw : Nat → Nat) (ld : Nat → Nat → Nat) : Prop :=
  0 < N ∧ (∀ s k, s < N → k < n → ld s k < N ∧ st_E n (st_go n (nd s) k) (nd (ld s k))) ∧
  (∀ t, 0 < t → t < N → fr t < t ∧ bw t < n ∧ ld (fr t) (bw t) = t ∧ ∀ s k, bf_lx s k (fr t) (bw t) → k < n → ld s k < t) ∧
  ∀ t u, t < u → u < N → ¬ st_E n (nd t) (nd u)
/-- a walk under way, before (s, k) -/
def bf_P (n N : Nat) (nd : Nat → st_t) (fr bw : Nat → Nat) (ld : Nat → Nat → Nat) (s k : Nat) : Prop :=
  0 < N ∧ (∀ s' k', bf_lx s' k' s k → k' < n → s' < N ∧ ld s' k' < N ∧ st_E n (st_go n (nd s') k') (nd (ld s' k'))) ∧
  (∀ t, 0 < t → t < N → fr t < t ∧ bw t < n ∧ bf_lx (fr t) (bw t) s k ∧ ld (fr t) (bw t) = t ∧ ∀ s' k', bf_lx s' k' (fr t) (bw t) → k' < n → ld s' k' < t) ∧
  ∀ t u, t < u → u < N → ¬ st_E n (nd t) (nd u)
theorem bf_begin {n : Nat} {nd : Nat → st_t} {fr bw : Nat → Nat} {ld : Nat → Nat → Nat} : bf_P n 1 nd fr bw ld 0 0 :=
  ⟨Nat.one_pos, fun s' k' h _ => by unfold bf_lx at h; omega, fun t h1 h2 => by omega, fun t u h1 h2 => by omega⟩
theorem bf_end {n N : Nat} {nd : Nat → st_t} {fr bw : Nat → Nat} {ld : Nat → Nat → Nat} (h : bf_P n N nd fr bw ld N 0) : bf_C n N nd fr bw ld :=
  ⟨h.1, fun s k hs hk => (h.2.1 s k (Or.inl hs) hk).2, fun t h1 h2 => by
    obtain ⟨a, b, _, c, d⟩ := h.2.2.1 t h1 h2
    exact ⟨a, b, c, d⟩, h.2.2.2⟩
theorem bf_row {n N s : Nat} {nd : Nat → st_t} {fr bw : Nat → Nat} {ld : Nat → Nat → Nat} (h : bf_P n N nd fr bw ld s n) : bf_P n N nd fr bw ld (s + 1) 0 := by
  refine ⟨h.1, fun s' k' hl hk => h.2.1 s' k' (by unfold bf_lx at *; omega) hk, fun t h1 h2 => ?_, h.2.2.2⟩
  obtain ⟨a, b, c, d⟩ := h.2.2.1 t h1 h2
  exact ⟨a, b, by unfold bf_lx at *; omega, d⟩
def bf_ld (ld : Nat → Nat → Nat) (s k r : Nat) : Nat → Nat → Nat := fun s' k' => if s' = s ∧ k' = k then r else ld s' k'
theorem bf_ld_at {ld : Nat → Nat → Nat} {s k r : Nat} : bf_ld ld s k r s k = r := by
  unfold bf_ld
  rw [if_pos ⟨rfl, rfl⟩]
theorem bf_ld_lx {ld : Nat → Nat → Nat} {s k r s' k' : Nat} (h : bf_lx s' k' s k) : bf_ld ld s k r s' k' = ld s' k' := by
  unfold bf_ld
  rw [if_neg (by unfold bf_lx at h; omega)]
theorem bf_old {n N s k r : Nat} {nd : Nat → st_t} {fr bw : Nat → Nat} {ld : Nat → Nat → Nat} (h : bf_P n N nd fr bw ld s k) (hs : s < N) (hr : r < N) (he : st_E n (st_go n (nd s) k) (nd r)) : bf_P n N nd fr bw (bf_ld ld s k r) s (k + 1) := by
  refine ⟨h.1, fun s' k' hl hk => ?_, fun t h1 h2 => ?_, h.2.2.2⟩
  · by_cases c : s' = s ∧ k' = k
    · obtain ⟨e1, e2⟩ := c
      subst e1 e2
      rw [bf_ld_at]
      exact ⟨hs, hr, he⟩
    · have hl' : bf_lx s' k' s k := by unfold bf_lx at *; omega
      rw [bf_ld_lx hl']
      exact h.2.1 s' k' hl' hk
  · obtain ⟨a, b, c, d, e⟩ := h.2.2.1 t h1 h2
    refine ⟨a, b, by unfold bf_lx at *; omega, by rw [bf_ld_lx c]; exact d, fun s' k' hl hk => ?_⟩
    rw [bf_ld_lx (by unfold bf_lx at *; omega)]
    exact e s' k' hl hk
def bf_u1 {α : Type} (f : Nat → α) (i : Nat) (v : α) : Nat → α := fun j => if j = i then v else f j
theorem bf_u1_at {α : Type} {f : Nat → α} {i : Nat} {v : α} : bf_u1 f i v i = v := by
  unfold bf_u1
  rw [if_pos rfl]
theorem bf_u1_ne {α : Type} {f : Nat → α} {i j : Nat} {v : α} (h : j ≠ i) : bf_u1 f i v j = f j := by
  unfold bf_u1
  rw [if_neg h]
theorem bf_new {n N s k : Nat} {nd : Nat → st_t} {fr bw : Nat → Nat} {ld : Nat → Nat → Nat} {a : st_t} (h : bf_P n N nd fr bw ld s k) (hs : s < N) (hk : k < n) (ha : st_E n (st_go n (nd s) k) a) (hnew : ∀ r, r < N → ¬ st_E n a (nd r)) : bf_P n (N + 1) (bf_u1 nd N a) (bf_u1 fr N s) (bf_u1 bw N k) (bf_ld ld s k N) s (k + 1) := by
  refine ⟨by omega, fun s' k' hl hk' => ?_, fun t h1 h2 => ?_, fun t u htu hu => ?_⟩
  · by_cases c : s' = s ∧ k' = k
    · obtain ⟨e1, e2⟩ := c
      subst e1 e2
      rw [bf_ld_at, bf_u1_at, bf_u1_ne (by omega)]
      exact ⟨by omega, by omega, ha⟩
    · have hl' : bf_lx s' k' s k := by unfold bf_lx at *; omega
      obtain ⟨q1, q2, q3⟩ := h.2.1 s' k' hl' hk'
      rw [bf_ld_lx hl', bf_u1_ne (by omega), bf_u1_ne (by omega)]
      exact ⟨by omega, by omega, q3⟩
  · by_cases c : t = N
    · subst c
      rw [bf_u1_at, bf_u1_at, bf_ld_at]
      refine ⟨hs, hk, by unfold bf_lx; omega, rfl, fun s' k' hl hk' => ?_⟩
      rw [bf_ld_lx hl]
      exact (h.2.1 s' k' hl hk').2.1
    · obtain ⟨a', b, c', d, e⟩ := h.2.2.1 t h1 (by omega)
      rw [bf_u1_ne c, bf_u1_ne c]
      refine ⟨a', b, by unfold bf_lx at *; omega, by rw [bf_ld_lx c']; exact d, fun s' k' hl hk' => ?_⟩
      rw [bf_ld_lx (by unfold bf_lx at *; omega)]
      exact e s' k' hl hk'
  · by_cases c : u = N
    · subst c
      rw [bf_u1_at, bf_u1_ne (by omega)]
      exact fun z => hnew t (by omega) z.symm
    · rw [bf_u1_ne (by omega), bf_u1_ne c]
      exact h.2.2.2 t u htu (by omega)
/-! two walks from the same stand are the same -/
theorem bf_half {n N N' : Nat} {nd nd' : Nat → st_t} {fr bw fr' bw' : Nat → Nat} {ld ld' : Nat → Nat → Nat} (h : bf_C n N nd fr bw ld) (h' : bf_C n N' nd' fr' bw' ld') (h0 : st_E n (nd 0) (nd' 0)) : ∀ t, t < N → t < N' ∧ st_E n (nd t) (nd' t) ∧ (0 < t → fr t = fr' t ∧ bw t = bw' t) := by
  intro t
  induction t using Nat.strongRecOn with
  | _ t ih =>
    intro ht
    by_cases c : t = 0
    · subst c
      exact ⟨h'.1, h0, fun z => absurd z (by omega)⟩
    · have tp : 0 < t := by omega
      obtain ⟨a1, a2, a3, a4⟩ := h.2.2.1 t tp ht
      -- one way: ld' leads to t or behind it
      have far : ∀ s k, s < t → k < n → t ≤ ld s k → s < N' ∧ t ≤ ld' s k := by
        intro s k hs hk hl
        obtain ⟨b1, b2, _⟩ := ih s hs (by omega)
        obtain ⟨c1, c2⟩ := h.2.1 s k (by omega) hk
        obtain ⟨d1, d2⟩ := h'.2.1 s k b1 hk
        refine ⟨b1, ?_⟩
        apply Classical.byContradiction
        intro hlt
        obtain ⟨e1, e2, _⟩ := ih (ld' s k) (by omega) (by omega)
        have e3 : st_E n (nd (ld' s k)) (nd (ld s k)) := e2.trans (d2.symm.trans ((st_go_E b2 hk).symm.trans c2))
        exact h.2.2.2 (ld' s k) (ld s k) (by omega) c1 e3
      have far' : ∀ s k, s < t → k < n → s < N' → t ≤ ld' s k → t < N' → t ≤ ld s k := by
        intro s k hs hk hs' hl ht'
        obtain ⟨b1, b2, _⟩ := ih s hs (by omega)
        obtain ⟨c1, c2⟩ := h.2.1 s k (by omega) hk
        obtain ⟨d1, d2⟩ := h'.2.1 s k b1 hk
        apply Classical.byContradiction
        intro hlt
        obtain ⟨e1, e2, _⟩ := ih (ld s k) (by omega) (by omega)
        have e3 : st_E n (nd' (ld s k)) (nd' (ld' s k)) := e2.symm.trans (c2.symm.trans ((st_go_E b2 hk).trans d2))
        exact h'.2.2.2 (ld s k) (ld' s k) (by omega) d1 e3
      have f1 := far (fr t) (bw t) a1 a2 (by omega)
      have ht' : t < N' := by
        have := (h'.2.1 (fr t) (bw t) f1.1 a2).1
        omega
      obtain ⟨b1, b2, b3, b4⟩ := h'.2.2.1 t tp ht'
      have f2 := far' (fr' t) (bw' t) b1 b2 (by omega) (by omega) ht'
      have same : fr t = fr' t ∧ bw t = bw' t := by
        apply Classical.byContradiction
        intro hne
        have : bf_lx (fr t) (bw t) (fr' t) (bw' t) ∨ bf_lx (fr' t) (bw' t) (fr t) (bw t) := by unfold bf_lx; omega
        rcases this with z | z
        · have := b4 _ _ z a2; omega
        · have := a4 _ _ z b2; omega
      refine ⟨ht', ?_, fun _ => same⟩
      obtain ⟨_, g2, _⟩ := ih (fr t) a1 (by omega)
      have c2 := (h.2.1 (fr t) (bw t) (by omega) a2).2
      have d2 := (h'.2.1 (fr t) (bw t) f1.1 a2).2
      rw [a3] at c2
      rw [same.1, same.2, b3, ← same.1, ← same.2] at d2
      exact c2.symm.trans ((st_go_E g2 a2).trans d2)
theorem bf_same {n N N' : Nat} {nd nd' : Nat → st_t} {fr bw fr' bw' : Nat → Nat} {ld ld' : Nat → Nat → Nat} (h : bf_C n N nd fr bw ld) (h' : bf_C n N' nd' fr' bw' ld') (h0 : st_E n (nd 0) (nd' 0)) : N = N' ∧ (∀ t, t < N → st_E n (nd t) (nd' t)) ∧ (∀ t, 0 < t → t < N → fr t = fr' t ∧ bw t = bw' t) ∧ ∀ s k, s < N → k < n → ld s k = ld' s k := by
  have a := bf_half h h' h0
  have b := bf_half h' h h0.symm
  have e : N = N' := by
    have h1 := h.1
    have h2 := h'.1
    have h3 := (a (N - 1) (by omega)).1
    have h4 := (b (N' - 1) (by omega)).1
    omega
  subst e
  refine ⟨rfl, fun t ht => (a t ht).2.1, fun t h1 ht => (a t ht).2.2 h1, fun s k hs hk => ?_⟩
  obtain ⟨c1, c2⟩ := h.2.1 s k hs hk
  obtain ⟨d1, d2⟩ := h'.2.1 s k hs hk
  have e1 : st_E n (nd (ld s k)) (nd (ld' s k)) := c2.symm.trans ((st_go_E (a s hs).2.1 hk).trans (d2.trans (a _ d1).2.1.symm))
  rcases Nat.lt_trichotomy (ld s k) (ld' s k) with q | q | q
  · exact absurd e1 (h.2.2.2 _ _ q d1)
  · exact q
  · exact absurd e1.symm (h.2.2.2 _ _ q c1)
