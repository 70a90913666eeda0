/-! questions to the reference's walk -/
/-- steps grow as stands are numbered -/
theorem bf_mono {n N : Nat} {nd : Nat → st_t} {fr bw : Nat → Nat} {ld : Nat → Nat → Nat} {f : Nat → Int} (h : bf_C n N nd fr bw ld) (f0 : f 0 = 0) (hf : ∀ t, t < N → 0 ≤ f t) (hs : ∀ t, 0 < t → t < N → f t = f (fr t) + 1) : ∀ u t, t ≤ u → u < N → f t ≤ f u := by
  intro u
  induction u using Nat.strongRecOn with
  | _ u ih =>
    intro t htu hu
    by_cases c : t = u
    · subst c; exact Int.le_refl _
    · by_cases c0 : t = 0
      · subst c0; rw [f0]; exact hf u hu
      · have a := h.2.2.1 t (by omega) (by omega)
        have b := h.2.2.1 u (by omega) hu
        have hle : fr t ≤ fr u := by
          apply Classical.byContradiction
          intro hn
          have := a.2.2.2 (fr u) (bw u) (Or.inl (by omega)) b.2.1
          rw [b.2.2.1] at this
          omega
        have := ih (fr u) b.1 (fr t) hle (by omega)
        rw [hs t (by omega) (by omega), hs u (by omega) hu]
        omega
theorem pm_far (X : Nat → Nat → Int) {N : Nat} (hN : X 0 22 = (N : Int)) (h0 : 0 < N) (hN2 : N ≤ 200) (hm : ∀ u t, t ≤ u → u < N → X 10 t ≤ X 10 u) (hz : X 10 0 = 0) (hb : ∀ t, t < N → 0 ≤ X 10 t ∧ X 10 t ≤ (t : Int)) : f_MD_far (pm_h X) 0 = some (X 10 (N - 1), pm_h X) := by
  unfold f_MD_far
  have h := pl_loop0 (A := fun fu i => f_MD_far_4 fu (pm_h X) 0 (X 10 (i - 1)) (i : Int)) (out := some (X 10 (N - 1), pm_h X)) N (by omega) (fun i hi fu => ?_) (fun fu => ?_)
  · have h' : f_MD_far_4 gx_fu (pm_h X) 0 (X 10 (0 - 1)) ((0 : Nat) : Int) = some (X 10 (N - 1), pm_h X) := h
    rw [show X 10 (0 - 1) = 0 from hz] at h'
    exact h'
  · show fb_MD_far_4 (f_MD_far_4 fu) _ _ _ _ = _
    unfold fb_MD_far_4
    have b := hb i hi
    have m := hm i (i - 1) (by omega) hi
    have b' := hb (i - 1) (by omega)
    rw [pm_get (by decide) rfl, hN, pl_gi (by omega) (by omega), if_pos (by omega), pm_gr (t := 10) (by decide) rfl (by decide), pm_ald (o := 10) (i := i) rfl (by show _ < 200; omega), pl_gi (by omega) (by omega)]
    by_cases c : X 10 (i - 1) < X 10 i
    · rw [if_pos c, pm_gr (t := 10) (by decide) rfl (by decide), pm_ald (o := 10) (i := i) rfl (by show _ < 200; omega)]
      rfl
    · rw [if_neg c]
      have e : X 10 (i - 1) = X 10 (i + 1 - 1) := by rw [show i + 1 - 1 = i by omega]; omega
      rw [e]
      rfl
  · show fb_MD_far_4 (f_MD_far_4 fu) _ _ _ _ = _
    unfold fb_MD_far_4
    rw [pm_get (by decide) rfl, hN, pl_gi (by omega) (by omega), if_neg (by omega)]
theorem pm_awayN (X : Nat → Nat → Int) {N : Nat} {v : Int} (hN : X 0 22 = (N : Int)) (hN2 : N ≤ 200) (hv : gx_i v) : f_MD_away_13 gx_fu (pm_h X) 0 v 0 0 = some ((mu_ct (X 10) v N : Int), pm_h X) := by
  refine pl_loop0 (A := fun fu i => f_MD_away_13 fu (pm_h X) 0 v (mu_ct (X 10) v i : Int) (i : Int)) N (by omega) (fun i hi fu => ?_) (fun fu => ?_)
  · show fb_MD_away_13 (f_MD_away_13 fu) _ _ _ _ _ = _
    unfold fb_MD_away_13
    rw [pm_get (by decide) rfl, hN, pl_gi (by omega) (by omega), if_pos (by omega), pm_gr (t := 10) (by decide) rfl (by decide), pm_ald (o := 10) (i := i) rfl (by show _ < 200; omega), gq_g_ok hv]
    by_cases c : X 10 i = v
    · rw [if_pos c]
      simp only [mu_ct, if_pos c]
      rfl
    · rw [if_neg c]
      simp only [mu_ct, if_neg c]
      show f_MD_away_13 fu (pm_h X) 0 v ((mu_ct (X 10) v i : Int) + 0) ((i : Int) + 1) = _
      rw [Int.add_zero]
      rfl
  · show fb_MD_away_13 (f_MD_away_13 fu) _ _ _ _ _ = _
    unfold fb_MD_away_13
    rw [pm_get (by decide) rfl, hN, pl_gi (by omega) (by omega), if_neg (by omega)]
/-- a row of all stands, by its place among them -/
abbrev wq_r (X : Nat → Nat → Int) (r : Nat) : Nat → Int := fun m => X 8 (4 * r + m)
theorem pm_isRowNew (X : Nat → Nat → Int) {n q : Nat} {a : Int} (hn : X 0 1 = (n : Int)) (hn4 : n ≤ 4) (hn2 : 2 ≤ n) (ha : a = (q : Int)) (hq : q < 800) : ((∀ r, r < q → ¬ (r % 4 < n ∧ ∀ m, m < n → wq_r X r m = wq_r X q m)) → f_MD_isRowNew (pm_h X) 0 a = some (1, pm_h X)) ∧ ((∃ r, r < q ∧ r % 4 < n ∧ ∀ m, m < n → wq_r X r m = wq_r X q m) → f_MD_isRowNew (pm_h X) 0 a = some (0, pm_h X)) := by
  subst ha
  have inner : ∀ r, r < q → ∀ (fu : Nat) (t : Int), (t = 0 ∨ t = 1) → f_MD_isRowNew_24 (f_MD_isRowNew_2 fu) gx_fu (pm_h X) 0 (q : Int) (r : Int) t 0 = if t = 1 ∧ ∀ m, m < n → wq_r X r m = wq_r X q m then some (0, pm_h X) else f_MD_isRowNew_2 fu (pm_h X) 0 (q : Int) ((r + 1 : Nat) : Int) := by
    intro r hr fu t ht
    have hh := pl_inv (σ := Int) (A := fun gu m fl => f_MD_isRowNew_24 (f_MD_isRowNew_2 fu) gu (pm_h X) 0 (q : Int) (r : Int) fl (m : Int)) (out := fun fl => if fl = 0 then f_MD_isRowNew_2 fu (pm_h X) 0 (q : Int) ((r + 1 : Nat) : Int) else some (0, pm_h X)) (Q := fun m fl => (fl = 0 ∨ fl = 1) ∧ (fl = 1 ↔ t = 1 ∧ ∀ c, c < m → wq_r X r c = wq_r X q c)) n (by omega) (fun m hm fl hQ gu => ?_) (fun gu fl hQ => ?_) t ⟨ht, ⟨fun z => ⟨z, fun c hc => by omega⟩, fun z => z.1⟩⟩
    · obtain ⟨fl, ⟨q1, q2⟩, e⟩ := hh
      refine Eq.trans e ?_
      by_cases c : t = 1 ∧ ∀ m, m < n → wq_r X r m = wq_r X q m
      · rw [if_pos c, if_neg (by have := q2.mpr c; omega)]
      · rw [if_neg c, if_pos (by rcases q1 with z | z; exact z; exact absurd (q2.mp z) c)]
    · have q1 := hQ.1
      show ∃ s', _ ∧ fb_MD_isRowNew_24 (f_MD_isRowNew_2 fu) (f_MD_isRowNew_24 (f_MD_isRowNew_2 fu) gu) _ _ _ _ _ _ = _
      unfold fb_MD_isRowNew_24
      rw [pm_get (by decide) rfl, hn, pl_gi (by omega) (by omega), if_pos (by omega), pl_gi (by omega) (by omega)]
      by_cases z : fl = 0
      · rw [if_pos z]
        refine ⟨0, ⟨Or.inl rfl, ⟨fun y => absurd y (by decide), fun y => ?_⟩⟩, rfl⟩
        have := hQ.2.mpr ⟨y.1, fun c hc => y.2 c (by omega)⟩
        omega
      · have z1 : fl = 1 := by omega
        rw [if_neg z, pm_gr (t := 8) (by decide) rfl (by decide), pm_ald (o := 8) (i := 4 * r + m) (by omega) (by show _ < 3200; omega), pm_gr (t := 8) (by decide) rfl (by decide), pm_ald (o := 8) (i := 4 * q + m) (by omega) (by show _ < 3200; omega)]
        by_cases y : X 8 (4 * r + m) = X 8 (4 * q + m)
        · rw [if_pos y]
          refine ⟨1, ⟨Or.inr rfl, ⟨fun _ => ⟨(hQ.2.mp z1).1, fun c hc => ?_⟩, fun _ => rfl⟩⟩, rfl⟩
          by_cases e : c = m
          · subst e; exact y
          · exact (hQ.2.mp z1).2 c (by omega)
        · rw [if_neg y]
          exact ⟨0, ⟨Or.inl rfl, ⟨fun x => absurd x (by decide), fun x => absurd (x.2 m (by omega)) y⟩⟩, rfl⟩
    · have q1 := hQ.1
      show fb_MD_isRowNew_24 (f_MD_isRowNew_2 fu) (f_MD_isRowNew_24 (f_MD_isRowNew_2 fu) gu) _ _ _ _ _ _ = _
      unfold fb_MD_isRowNew_24
      rw [pm_get (by decide) rfl, hn, pl_gi (by omega) (by omega), if_neg (by omega), pl_gi (by omega) (by omega)]
      by_cases z : fl = 0
      · rw [if_pos z, if_pos z]; rfl
      · rw [if_neg z, if_neg z]
  have h := pl_srch0 (A := fun fu r => f_MD_isRowNew_2 fu (pm_h X) 0 (q : Int) (r : Int)) (out := some ((1 : Int), pm_h X)) (bad := some (0, pm_h X)) q (by omega) (fun r => ¬ (r % 4 < n ∧ ∀ m, m < n → wq_r X r m = wq_r X q m)) (fun r hr fu => ?_) (fun fu => ?_)
  · refine ⟨fun z => h.trans (if_pos z), fun z => h.trans (if_neg ?_)⟩
    obtain ⟨r, hr, e1, e2⟩ := z
    exact fun y => y r hr ⟨e1, e2⟩
  · show fb_MD_isRowNew_2 (f_MD_isRowNew_2 fu) _ _ _ _ = _
    unfold fb_MD_isRowNew_2
    have tm : (r : Int).tmod 4 = ((r % 4 : Nat) : Int) := by
      rw [Int.tmod_eq_emod_of_nonneg (by omega)]
      omega
    rw [pl_gi (by omega) (by omega), pl_gi (by omega) (by omega), if_pos (by omega), pm_get (by decide) rfl, hn, tm, pm_in _ ⟨by omega, by omega⟩ (by decide) ⟨by omega, by omega⟩, pl_call, inner r hr fu _ (by split <;> simp)]
    by_cases c : r % 4 < n
    · rw [if_pos (show (0 : Int) ≤ ((r % 4 : Nat) : Int) ∧ ((r % 4 : Nat) : Int) ≤ (n : Int) - 1 by omega)]
      by_cases d : ∀ m, m < n → wq_r X r m = wq_r X q m
      · rw [if_pos ⟨rfl, d⟩, if_neg (fun z => z ⟨c, d⟩)]
      · rw [if_neg (fun z => d z.2), if_pos (fun z => d z.2)]
    · rw [if_neg (show ¬ ((0 : Int) ≤ ((r % 4 : Nat) : Int) ∧ ((r % 4 : Nat) : Int) ≤ (n : Int) - 1) by omega), if_neg (fun z => absurd z.1 (by decide)), if_pos (fun z => c z.1)]
  · show fb_MD_isRowNew_2 (f_MD_isRowNew_2 fu) _ _ _ _ = _
    unfold fb_MD_isRowNew_2
    rw [pl_gi (by omega) (by omega), pl_gi (by omega) (by omega), if_neg (by omega)]
theorem pm_allLetters (X : Nat → Nat → Int) {n N : Nat} (hn : X 0 1 = (n : Int)) (hn4 : n ≤ 4) (hn2 : 2 ≤ n) (hN : X 0 22 = (N : Int)) (hN2 : N ≤ 200) (hb : ∀ t, t < N → mu_bd n (wl_nd X t).2) : ∃ c : Nat, f_MD_allLetters (pm_h X) 0 = some ((c : Int), pm_h X) ∧ mu_En N n (fun s a => mu_cd (wl_nd X s).2 a n) c := by
  have row : ∀ s a m, (wl_nd X s).2 a m = wq_r X (4 * s + a) m := fun s a m => by
    show X 8 (16 * s + 4 * a + m) = X 8 (4 * (4 * s + a) + m)
    exact congrArg (X 8) (by omega)
  have cdq : ∀ r q, r < 4 * N → q < 4 * N → r % 4 < n → q % 4 < n → ((∀ m, m < n → wq_r X r m = wq_r X q m) ↔ mu_cd (wl_nd X (r / 4)).2 (r % 4) n = mu_cd (wl_nd X (q / 4)).2 (q % 4) n) := fun r q hr hq h1 h2 => by
    rw [mu_cd_inj n (fun m hm => hb (r / 4) (by omega) _ h1 m hm) (fun m hm => hb (q / 4) (by omega) _ h2 m hm)]
    constructor
    · intro z m hm
      rw [row, row, show 4 * (r / 4) + r % 4 = r by omega, show 4 * (q / 4) + q % 4 = q by omega]
      exact z m hm
    · intro z m hm
      have := z m hm
      rw [row, row, show 4 * (r / 4) + r % 4 = r by omega, show 4 * (q / 4) + q % 4 = q by omega] at this
      exact this
  have hh := pl_inv (σ := Nat × (Nat → Int)) (A := fun fu q S => f_MD_allLetters_4 fu (pm_h X) 0 (S.1 : Int) (q : Int)) (out := fun S => some ((S.1 : Int), pm_h X)) (Q := fun q S => S.1 ≤ q ∧ (∀ i j, i < j → j < S.1 → S.2 i ≠ S.2 j) ∧ (∀ r, r < q → r % 4 < n → ∃ i, i < S.1 ∧ S.2 i = mu_cd (wl_nd X (r / 4)).2 (r % 4) n) ∧ ∀ i, i < S.1 → ∃ r, r < q ∧ r % 4 < n ∧ mu_cd (wl_nd X (r / 4)).2 (r % 4) n = S.2 i) (4 * N) (by omega) (fun q hq S hQ fu => ?_) (fun fu S hQ => ?_) (0, fun _ => 0) ⟨Nat.le_refl _, fun i j _ h => by omega, fun r hr => by omega, fun i h => by omega⟩
  · obtain ⟨⟨c, u⟩, ⟨q1, q2, q3, q4⟩, e⟩ := hh
    refine ⟨c, e, u, q2, fun s a hs ha => ?_, fun i hi => ?_⟩
    · obtain ⟨i, hi, e⟩ := q3 (4 * s + a) (by omega) (by omega)
      rw [show (4 * s + a) / 4 = s by omega, show (4 * s + a) % 4 = a by omega] at e
      exact ⟨i, hi, e⟩
    · obtain ⟨r, hr, h1, h2⟩ := q4 i hi
      exact ⟨r / 4, r % 4, by omega, h1, h2⟩
  · obtain ⟨c, u⟩ := S
    dsimp only at hQ
    obtain ⟨q1, q2, q3, q4⟩ := hQ
    have tm : (q : Int).tmod 4 = ((q % 4 : Nat) : Int) := by
      rw [Int.tmod_eq_emod_of_nonneg (by omega)]
      omega
    show ∃ s', _ ∧ fb_MD_allLetters_4 (f_MD_allLetters_4 fu) _ _ (c : Int) _ = _
    unfold fb_MD_allLetters_4
    rw [pm_get (by decide) rfl, hN, pl_gi (by omega) (by omega), pl_gi (by omega) (by omega), if_pos (by omega), pm_get (by decide) rfl, hn, tm, pl_gi (by omega) (by omega)]
    have old : (∀ r, r < q + 1 → r % 4 < n → ∃ i, i < c ∧ u i = mu_cd (wl_nd X (r / 4)).2 (r % 4) n) → ∃ s' : Nat × (Nat → Int), (s'.1 ≤ q + 1 ∧ (∀ i j, i < j → j < s'.1 → s'.2 i ≠ s'.2 j) ∧ (∀ r, r < q + 1 → r % 4 < n → ∃ i, i < s'.1 ∧ s'.2 i = mu_cd (wl_nd X (r / 4)).2 (r % 4) n) ∧ ∀ i, i < s'.1 → ∃ r, r < q + 1 ∧ r % 4 < n ∧ mu_cd (wl_nd X (r / 4)).2 (r % 4) n = s'.2 i) ∧ fb_MD_allLetters_37 (f_MD_allLetters_4 fu) (pm_h X) 0 (q : Int) (c : Int) = f_MD_allLetters_4 fu (pm_h X) 0 (s'.1 : Int) ((q + 1 : Nat) : Int) := fun z => by
      refine ⟨(c, u), ⟨by show c ≤ _; omega, q2, z, fun i hi => ?_⟩, ?_⟩
      · obtain ⟨r, a1, a2, a3⟩ := q4 i hi
        exact ⟨r, by omega, a2, a3⟩
      · show f_MD_allLetters_4 fu (pm_h X) 0 ((c : Int) + 0) ((q : Int) + 1) = _
        rw [Int.add_zero]
        rfl
    by_cases d : q % 4 < n
    · have new := pm_isRowNew X (q := q) hn hn4 hn2 rfl (by omega)
      rw [if_pos (by omega), pm_cv]
      by_cases z : ∃ r, r < q ∧ r % 4 < n ∧ ∀ m, m < n → wq_r X r m = wq_r X q m
      · rw [new.2 z, pl_call, pl_gi (by decide) (by decide), if_pos rfl]
        refine old fun r hr h1 => ?_
        by_cases e : r = q
        · subst e
          obtain ⟨r', b1, b2, b3⟩ := z
          obtain ⟨i, hi, e⟩ := q3 r' b1 b2
          exact ⟨i, hi, e.trans ((cdq r' r (by omega) (by omega) b2 d).mp b3)⟩
        · exact q3 r (by omega) h1
      · have z' : ∀ r, r < q → ¬ (r % 4 < n ∧ ∀ m, m < n → wq_r X r m = wq_r X q m) := fun r hr y => z ⟨r, hr, y.1, y.2⟩
        rw [new.1 z', pl_call, pl_gi (by decide) (by decide), if_neg (by decide)]
        have nu : ∀ i, i < c → u i ≠ mu_cd (wl_nd X (q / 4)).2 (q % 4) n := fun i hi e => by
          obtain ⟨r, a1, a2, a3⟩ := q4 i hi
          exact z' r a1 ⟨a2, (cdq r q (by omega) (by omega) a2 d).mpr (a3.trans e)⟩
        refine ⟨(c + 1, bf_u1 u c (mu_cd (wl_nd X (q / 4)).2 (q % 4) n)), ⟨by show c + 1 ≤ _; omega, fun i j hij hj => ?_, fun r hr h1 => ?_, fun i hi => ?_⟩, rfl⟩
        · have hj' : j < c + 1 := hj
          show bf_u1 u c _ i ≠ bf_u1 u c _ j
          rw [bf_u1_ne (show i ≠ c by omega)]
          by_cases e : j = c
          · subst e; rw [bf_u1_at]; exact nu i hij
          · rw [bf_u1_ne e]; exact q2 i j hij (by omega)
        · show ∃ i, i < c + 1 ∧ bf_u1 u c _ i = _
          by_cases e : r = q
          · subst e; exact ⟨c, by omega, bf_u1_at⟩
          · obtain ⟨i, hi, e'⟩ := q3 r (by omega) h1
            exact ⟨i, by omega, by rw [bf_u1_ne (by omega)]; exact e'⟩
        · have hi' : i < c + 1 := hi
          show ∃ r, r < q + 1 ∧ r % 4 < n ∧ _ = bf_u1 u c _ i
          by_cases e : i = c
          · subst e; exact ⟨q, by omega, d, by rw [bf_u1_at]⟩
          · rw [bf_u1_ne e]
            obtain ⟨r, a1, a2, a3⟩ := q4 i (by omega)
            exact ⟨r, by omega, a2, a3⟩
    · rw [if_neg (by omega)]
      refine old fun r hr h1 => ?_
      by_cases e : r = q
      · subst e; exact absurd h1 d
      · exact q3 r (by omega) h1
  · obtain ⟨c, u⟩ := S
    dsimp only at hQ
    show fb_MD_allLetters_4 (f_MD_allLetters_4 fu) _ _ (c : Int) _ = _
    unfold fb_MD_allLetters_4
    rw [pm_get (by decide) rfl, hN, pl_gi (by omega) (by omega), pl_gi (by omega) (by omega), if_neg (by omega)]
