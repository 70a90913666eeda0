/-! ranks: the order of D rows and of their codes -/
theorem mu_cd_inj {D D' : Nat → Nat → Int} {i j : Nat} : ∀ n, (∀ m, m < n → mu_in (D i m)) → (∀ m, m < n → mu_in (D' j m)) → (mu_cd D i n = mu_cd D' j n ↔ ∀ m, m < n → D i m = D' j m)
  | 0, _, _ => ⟨fun _ _ h => absurd h (by omega), fun _ => rfl⟩
  | n + 1, h1, h2 => by
    have ih := mu_cd_inj (D := D) (D' := D') (i := i) (j := j) n (fun m hm => h1 m (by omega)) fun m hm => h2 m (by omega)
    have a := h1 n (by omega)
    have b := h2 n (by omega)
    rw [mu_all_succ (P := fun m => D i m = D' j m), ← ih]
    simp only [mu_cd]
    constructor
    · intro e
      constructor <;> omega
    · rintro ⟨e1, e2⟩
      rw [e1, e2]
theorem mu_cd_keep {D : Nat → Nat → Int} {i j n : Nat} (h1 : ∀ m, m < n → mu_in (D i m)) (h2 : ∀ m, m < n → mu_in (D j m)) {m : Nat} (h : mu_cd D i m < mu_cd D j m) : ∀ d, m + d ≤ n → mu_cd D i (m + d) < mu_cd D j (m + d)
  | 0, _ => h
  | d + 1, hd => by
    have ih := mu_cd_keep h1 h2 h d (by omega)
    have a := h1 (m + d) (by omega)
    have b := h2 (m + d) (by omega)
    show mu_cd D i (m + d + 1) < mu_cd D j (m + d + 1)
    simp only [mu_cd]
    omega
theorem mu_bf_cd {D : Nat → Nat → Int} {i j n : Nat} (h1 : ∀ m, m < n → mu_in (D i m)) (h2 : ∀ m, m < n → mu_in (D j m)) : ∀ (t m : Nat), m + t = n → mu_cd D i m = mu_cd D j m → (mu_bf D i j t m = true ↔ (mu_cd D i n < mu_cd D j n ∨ (mu_cd D i n = mu_cd D j n ∧ i < j)))
  | 0, m, hm, he => by
    have e : m = n := by omega
    subst e
    simp only [mu_bf, decide_eq_true_eq]
    omega
  | t + 1, m, hm, he => by
    have a := h1 m (by omega)
    have b := h2 m (by omega)
    simp only [mu_bf]
    by_cases c : D i m = D j m
    · rw [if_pos c]
      exact mu_bf_cd h1 h2 t (m + 1) (by omega) (by simp only [mu_cd]; rw [he, c])
    · rw [if_neg c, decide_eq_true_eq]
      rcases Int.lt_or_gt_of_ne c with d | d
      · have h3 := mu_cd_keep h1 h2 (m := m + 1) (by simp only [mu_cd]; omega) t (by omega)
        rw [show m + 1 + t = n by omega] at h3
        exact ⟨fun _ => Or.inl h3, fun _ => d⟩
      · have h3 := mu_cd_keep h2 h1 (m := m + 1) (by simp only [mu_cd]; omega) t (by omega)
        rw [show m + 1 + t = n by omega] at h3
        exact ⟨fun z => absurd z (by omega), fun z => absurd z (by omega)⟩
/-- i stands before j, by numbers c, of like ones by number -/
abbrev mu_lt (c : Nat → Int) (i j : Nat) : Prop := c i < c j ∨ (c i = c j ∧ i < j)
theorem mu_pl_pa {n : Nat} {D : Nat → Nat → Int} (hD : mu_bd n D) {i : Nat} (hi : i < n) : mu_pl n D i = mu_pa (fun r => mu_cd D r n) i n := by
  have key : ∀ j, j ≤ n → mu_plc n D i j = mu_pa (fun r => mu_cd D r n) i j := by
    intro j
    induction j with
    | zero => intro _; rfl
    | succ j ih =>
      intro hj
      simp only [mu_plc, mu_pa]
      rw [ih (by omega)]
      have e := mu_bf_cd (D := D) (i := j) (j := i) (n := n) (fun m hm => hD j (by omega) m hm) (fun m hm => hD i hi m hm) n 0 (by omega) rfl
      by_cases c : j ≠ i ∧ mu_bf D j i n 0 = true
      · rw [if_pos c, if_pos (e.mp c.2)]
      · rw [if_neg c, if_neg]
        intro z
        by_cases ci : j = i
        · subst ci; omega
        · exact c ⟨ci, e.mpr z⟩
  exact key n (Nat.le_refl n)
theorem mu_pa_le {c : Nat → Int} {i j : Nat} (h : ∀ r, mu_lt c r i → mu_lt c r j) : ∀ m, mu_pa c i m ≤ mu_pa c j m
  | 0 => Nat.le_refl _
  | m + 1 => by
    have ih := mu_pa_le h m
    simp only [mu_pa]
    by_cases a : c m < c i ∨ (c m = c i ∧ m < i)
    · rw [if_pos a, if_pos (h m a)]
      omega
    · rw [if_neg a]
      split <;> omega
theorem mu_pa_lt {c : Nat → Int} {i j r : Nat} (h : ∀ r, mu_lt c r i → mu_lt c r j) (h1 : ¬ mu_lt c r i) (h2 : mu_lt c r j) : ∀ m, r < m → mu_pa c i m < mu_pa c j m
  | 0, hr => absurd hr (by omega)
  | m + 1, hr => by
    simp only [mu_pa]
    by_cases e : r = m
    · subst e
      have := mu_pa_le h r
      rw [if_neg h1, if_pos h2]
      omega
    · have ih := mu_pa_lt h h1 h2 m (by omega)
      by_cases a : c m < c i ∨ (c m = c i ∧ m < i)
      · rw [if_pos a, if_pos (h m a)]
        omega
      · rw [if_neg a]
        split <;> omega
theorem mu_pa_ord {c : Nat → Int} {i j n : Nat} (hi : i < n) (h : mu_lt c i j) : mu_pa c i n < mu_pa c j n :=
  mu_pa_lt (fun r hr => by unfold mu_lt at *; omega) (fun z => by unfold mu_lt at z; omega) h n hi
theorem mu_pa_bd {c : Nat → Int} {i : Nat} : ∀ m, mu_pa c i m ≤ m ∧ (i < m → mu_pa c i m < m)
  | 0 => ⟨Nat.le_refl _, fun h => absurd h (by omega)⟩
  | m + 1 => by
    have ih := mu_pa_bd (c := c) (i := i) m
    simp only [mu_pa]
    by_cases e : i = m
    · subst e
      rw [if_neg (by omega)]
      omega
    · constructor
      · split <;> omega
      · intro h
        have := ih.2 (by omega)
        split <;> omega
theorem mu_pa_pm {c : Nat → Int} {n : Nat} : mu_pm n n (fun i => mu_pa c i n) :=
  ⟨fun i hi => (mu_pa_bd n).2 hi, fun i hi j hj e => by
    have e' : mu_pa c i n = mu_pa c j n := e
    apply Classical.byContradiction
    intro hne
    have h : mu_lt c i j ∨ mu_lt c j i := by unfold mu_lt; omega
    rcases h with h | h
    · have := mu_pa_ord hi h; omega
    · have := mu_pa_ord hj h; omega⟩
/-- places and letters, to and fro -/
theorem mu_pl_pm {n : Nat} {D : Nat → Nat → Int} (hD : mu_bd n D) : mu_pm n n (mu_pl n D) :=
  ⟨fun i hi => by rw [mu_pl_pa hD hi]; exact mu_pa_pm.1 i hi, fun i hi j hj e => by
    rw [mu_pl_pa hD hi, mu_pl_pa hD hj] at e
    exact mu_pa_pm.2 i hi j hj e⟩
theorem mu_rkc_ok {n : Nat} {D : Nat → Nat → Int} {p : Nat} : ∀ m, (∃ i, i < m ∧ mu_pl n D i = p) → mu_pl n D (mu_rkc n D p m) = p
  | 0, h => by
    obtain ⟨i, hi, _⟩ := h
    omega
  | m + 1, h => by
    simp only [mu_rkc]
    by_cases c : mu_pl n D m = p
    · rw [if_pos c]; exact c
    · rw [if_neg c]
      obtain ⟨i, hi, e⟩ := h
      refine mu_rkc_ok m ⟨i, ?_, e⟩
      by_cases q : i = m
      · subst q; exact absurd e c
      · omega
theorem mu_pl_rk {n p : Nat} {D : Nat → Nat → Int} (hn2 : 2 ≤ n) (hn4 : n ≤ 4) (hD : mu_bd n D) (hp : p < n) : mu_pl n D (mu_rk n D p) = p := mu_rkc_ok n (mu_pm_sur hn2 hn4 (mu_pl_pm hD) hp)
theorem mu_rk_pl {n i : Nat} {D : Nat → Nat → Int} (hn2 : 2 ≤ n) (hn4 : n ≤ 4) (hD : mu_bd n D) (hi : i < n) : mu_rk n D (mu_pl n D i) = i := by
  have h1 := (mu_pl_pm hD).1 i hi
  exact (mu_pl_pm hD).2 _ (mu_rk_lt n D _ (by omega)) i hi (mu_pl_rk hn2 hn4 hD h1)
theorem mu_rk_pm {n : Nat} {D : Nat → Nat → Int} (hn2 : 2 ≤ n) (hn4 : n ≤ 4) (hD : mu_bd n D) : mu_pm n n (mu_rk n D) :=
  ⟨fun p _ => mu_rk_lt n D p (by omega), fun p hp q hq e => by rw [← mu_pl_rk hn2 hn4 hD hp, e, mu_pl_rk hn2 hn4 hD hq]⟩
/-- like rows have like places -/
theorem mu_bf_q {n i j : Nat} {D D' : Nat → Nat → Int} (h : mu_q n D D') (hi : i < n) (hj : j < n) : ∀ t m, m + t ≤ n → mu_bf D i j t m = mu_bf D' i j t m
  | 0, _, _ => rfl
  | t + 1, m, hm => by
    simp only [mu_bf]
    rw [h i hi m (by omega), h j hj m (by omega), mu_bf_q h hi hj t (m + 1) (by omega)]
theorem mu_pl_q {n i : Nat} {D D' : Nat → Nat → Int} (h : mu_q n D D') (hi : i < n) : mu_pl n D i = mu_pl n D' i := by
  have key : ∀ j, j ≤ n → mu_plc n D i j = mu_plc n D' i j := by
    intro j
    induction j with
    | zero => intro _; rfl
    | succ j ih =>
      intro hj
      simp only [mu_plc]
      rw [ih (by omega), mu_bf_q h (by omega) hi n 0 (by omega)]
  exact key n (Nat.le_refl n)
theorem mu_rk_q {n p : Nat} {D D' : Nat → Nat → Int} (h : mu_q n D D') : mu_rk n D p = mu_rk n D' p := by
  have key : ∀ i, i ≤ n → mu_rkc n D p i = mu_rkc n D' p i := by
    intro i
    induction i with
    | zero => intro _; rfl
    | succ i ih =>
      intro hi
      simp only [mu_rkc]
      rw [ih (by omega), mu_pl_q h (by omega)]
  exact key n (Nat.le_refl n)
/-! letters numbered otherwise have the same ranks, if no two rows are like -/
abbrev mu_un (n : Nat) (D : Nat → Nat → Int) : Prop := ∀ i j, i < n → j < n → (∀ m, m < n → D i m = D j m) → i = j
theorem mu_pa_sm {c : Nat → Int} {i : Nat} : ∀ m, (mu_pa c i m : Int) = mu_sm (fun r => if mu_lt c r i then 1 else 0) m
  | 0 => rfl
  | m + 1 => by
    have ih := mu_pa_sm (c := c) (i := i) m
    simp only [mu_pa, mu_sm]
    rw [← ih]
    by_cases a : c m < c i ∨ (c m = c i ∧ m < i)
    · rw [if_pos a, if_pos a]; omega
    · rw [if_neg a, if_neg a]; omega
theorem mu_pl_dn {n i : Nat} {s : Nat → Nat} {D D' : Nat → Nat → Int} (hn2 : 2 ≤ n) (hn4 : n ≤ 4) (hs : mu_pm n n s) (hD : mu_bd n D) (hu : mu_un n D) (h : mu_dn n s (fun m => m) D D') (hi : i < n) : mu_pl n D' i = mu_pl n D (s i) := by
  have hD' : mu_bd n D' := fun a ha m hm => by rw [h a ha m hm]; exact hD _ (hs.1 a ha) m hm
  have cd : ∀ a, a < n → mu_cd D' a n = mu_cd D (s a) n := fun a ha => (mu_cd_inj n (fun m hm => hD' a ha m hm) (fun m hm => hD _ (hs.1 a ha) m hm)).mpr fun m hm => h a ha m hm
  rw [mu_pl_pa hD' hi, mu_pl_pa hD (hs.1 i hi)]
  have e : (mu_pa (fun r => mu_cd D' r n) i n : Int) = (mu_pa (fun r => mu_cd D r n) (s i) n : Int) := by
    rw [mu_pa_sm, mu_pa_sm, ← mu_sm_pm (fun r => if mu_lt (fun r => mu_cd D r n) r (s i) then 1 else 0) hn2 hn4 hs]
    refine mu_sm_cg fun r hr => ?_
    have e1 := cd r hr
    have e2 := cd i hi
    have key : mu_lt (fun r => mu_cd D' r n) r i ↔ mu_lt (fun r => mu_cd D r n) (s r) (s i) := by
      show (mu_cd D' r n < mu_cd D' i n ∨ (mu_cd D' r n = mu_cd D' i n ∧ r < i)) ↔ (mu_cd D (s r) n < mu_cd D (s i) n ∨ (mu_cd D (s r) n = mu_cd D (s i) n ∧ s r < s i))
      rw [e1, e2]
      by_cases c : mu_cd D (s r) n = mu_cd D (s i) n
      · have q := hu _ _ (hs.1 r hr) (hs.1 i hi) ((mu_cd_inj n (fun m hm => hD _ (hs.1 r hr) m hm) (fun m hm => hD _ (hs.1 i hi) m hm)).mp c)
        have q2 := hs.2 r hr i hi q
        omega
      · omega
    by_cases c : mu_lt (fun r => mu_cd D' r n) r i
    · rw [if_pos c, if_pos (key.mp c)]
    · rw [if_neg c, if_neg (fun z => c (key.mpr z))]
  omega
theorem mu_rk_dn {n p : Nat} {s : Nat → Nat} {D D' : Nat → Nat → Int} (hn2 : 2 ≤ n) (hn4 : n ≤ 4) (hs : mu_pm n n s) (hD : mu_bd n D) (hu : mu_un n D) (h : mu_dn n s (fun m => m) D D') (hp : p < n) : s (mu_rk n D' p) = mu_rk n D p := by
  have hD' : mu_bd n D' := fun a ha m hm => by rw [h a ha m hm]; exact hD _ (hs.1 a ha) m hm
  have h1 := mu_rk_lt n D' p (by omega)
  refine (mu_pl_pm hD).2 _ (hs.1 _ h1) _ (mu_rk_lt n D p (by omega)) ?_
  rw [← mu_pl_dn hn2 hn4 hs hD hu h h1, mu_pl_rk hn2 hn4 hD' hp, mu_pl_rk hn2 hn4 hD hp]
