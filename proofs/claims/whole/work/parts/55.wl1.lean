/-! the reference walks: a step -/
theorem pl_inv3 {σ α : Type} {A : Nat → Nat → σ → α} {Bf : Nat → Nat → Nat → Nat → σ → α} {out : σ → α} {P : Nat → σ → Prop} {Q : Nat → Nat → σ → Prop} (n m : Nat) (hn : n < 1000000) (hm : m < 1000000)
    (ho : ∀ i, i < n → ∀ s, P i s → ∀ fu, ∃ s', Q i 0 s' ∧ A (fu + 1) i s = Bf fu gx_fu i 0 s')
    (hi : ∀ i, i < n → ∀ j, j < m → ∀ s, Q i j s → ∀ fu gu, ∃ s', Q i (j + 1) s' ∧ Bf fu (gu + 1) i j s = Bf fu gu i (j + 1) s')
    (hr : ∀ i, i < n → ∀ s, Q i m s → P (i + 1) s ∧ ∀ fu gu, Bf fu (gu + 1) i m s = A fu (i + 1) s)
    (he : ∀ s, P n s → ∀ fu, A (fu + 1) n s = out s) (s0 : σ) (h0 : P 0 s0) : ∃ s, P n s ∧ A gx_fu 0 s0 = out s := by
  refine pl_inv (Q := P) n hn (fun i hi' s hs fu => ?_) (fun fu s hs => he s hs fu) s0 h0
  obtain ⟨s1, h1, e1⟩ := ho i hi' s hs fu
  obtain ⟨s', h2, h3⟩ := pl_inv (A := fun gu j s => Bf fu gu i j s) (out := fun s => A fu (i + 1) s) (Q := fun j s => Q i j s) m hm (fun j hj s hs gu => hi i hi' j hj s hs fu gu) (fun gu s hs => (hr i hi' s hs).2 fu gu) s1 h1
  exact ⟨s', (hr i hi' s' h2).1, e1.trans h3⟩
theorem pl_invF {σ α : Type} {A : Nat → Nat → σ → α} {Q : Nat → σ → Prop} {F : α → Prop} (M : Nat) (hM : M < 999999) (hs : ∀ i s, i ≤ M → Q i s → ∀ fu, F (A (fu + 1) i s) ∨ (i < M ∧ ∃ s', Q (i + 1) s' ∧ A (fu + 1) i s = A fu (i + 1) s')) (s0 : σ) (h0 : Q 0 s0) : F (A gx_fu 0 s0) := by
  have key : ∀ d i fu s, i + d = M → d < fu → Q i s → F (A fu i s) := by
    intro d
    induction d with
    | zero =>
      intro i fu s hi hf hq
      obtain ⟨f, rfl⟩ : ∃ f, fu = f + 1 := ⟨fu - 1, by omega⟩
      rcases hs i s (by omega) hq f with h | h
      · exact h
      · omega
    | succ d ih =>
      intro i fu s hi hf hq
      obtain ⟨f, rfl⟩ : ∃ f, fu = f + 1 := ⟨fu - 1, by omega⟩
      rcases hs i s (by omega) hq f with h | ⟨_, s', h1, h2⟩
      · exact h
      · rw [h2]
        exact ih (i + 1) f s' (by omega) (by omega) h1
  exact key M 0 gx_fu s0 (by omega) (show M < 1000000 by omega) h0
/-- numbers laid so far: of the row of k up to a, of the table up to (i, j) -/
def wl_I (n k : Nat) (X Bn Dn : Nat → Nat → Int) (a i j : Nat) (S : Int × (Nat → Nat → Int)) : Prop :=
  (S.1 = 0 ∨ S.1 = 1) ∧ (S.1 = 1 ↔ (∀ c, c < a → mu_in (Dn k c)) ∧ ∀ r c, r < n → c < n → mu_to n i j r c → mu_in (Bn r c)) ∧ (∀ o, o ≠ 1 → S.2 o = X o) ∧ (∀ q, q < 1928 → S.2 1 q = X 1 q) ∧
  (∀ c, c < a → S.2 1 (1944 + 4 * k + c) = Dn k c) ∧ (∀ r c, r < n → c < n → mu_to n i j r c → S.2 1 (1928 + 4 * r + c) = Bn r c) ∧ ∀ r c, r < n → c < n → r ≠ k → S.2 1 (1944 + 4 * r + c) = X 1 (1944 + 4 * r + c)
theorem wl_I_row {n k i : Nat} {X Bn Dn : Nat → Nat → Int} {S : Int × (Nat → Nat → Int)} (h : wl_I n k X Bn Dn (i + 1) i n S) : wl_I n k X Bn Dn (i + 1) (i + 1) 0 S := by
  obtain ⟨a, b, c, d, e, f, g⟩ := h
  exact ⟨a, b.trans ⟨fun z => ⟨z.1, fun r c hr hc ht => z.2 r c hr hc (by unfold mu_to at *; omega)⟩, fun z => ⟨z.1, fun r c hr hc ht => z.2 r c hr hc (by unfold mu_to at *; omega)⟩⟩, c, d, e, fun r c hr hc ht => f r c hr hc (by unfold mu_to at *; omega), g⟩
theorem wl_I_D {n k i : Nat} {X Bn Dn Y : Nat → Nat → Int} {fl t : Int} (hn4 : n ≤ 4) (hk : k < n) (hi : i < n) (h : wl_I n k X Bn Dn i i 0 (fl, Y)) (ht : t = 0 ∨ t = 1) (hf : t = 1 ↔ fl = 1 ∧ mu_in (Dn k i)) : wl_I n k X Bn Dn (i + 1) i 0 (t, gx_up Y 1 (1944 + 4 * k + i) (Dn k i)) := by
  obtain ⟨a, b, c, d, e, f, g⟩ := h
  have b' : fl = 1 ↔ _ := b
  refine ⟨ht, hf.trans ?_, fun o ho => ?_, fun q hq => ?_, fun c' hc' => ?_, fun r c' hr hc' ht => ?_, fun r c' hr hc' hrk => ?_⟩
  · rw [b', mu_all_succ (P := fun c => mu_in (Dn k c))]
    exact ⟨fun z => ⟨⟨z.1.1, z.2⟩, z.1.2⟩, fun z => ⟨⟨z.1.1, z.2⟩, z.1.2⟩⟩
  · show gx_up Y 1 _ _ o = _
    rw [gx_up_ne ho]
    exact c o ho
  · show gx_up Y 1 _ _ 1 q = _
    rw [gx_up_at, if_neg (by omega)]
    exact d q hq
  · show gx_up Y 1 _ _ 1 _ = _
    rw [gx_up_at]
    by_cases z : c' = i
    · subst z
      rw [if_pos rfl]
    · rw [if_neg (by omega)]
      exact e c' (by omega)
  · show gx_up Y 1 _ _ 1 _ = _
    rw [gx_up_at, if_neg (by omega)]
    exact f r c' hr hc' ht
  · show gx_up Y 1 _ _ 1 _ = _
    rw [gx_up_at, if_neg (by omega)]
    exact g r c' hr hc' hrk
theorem wl_I_B {n k a i j : Nat} {X Bn Dn Y : Nat → Nat → Int} {fl t : Int} (hn4 : n ≤ 4) (hk : k < n) (hi : i < n) (hj : j < n) (ha : a ≤ n) (h : wl_I n k X Bn Dn a i j (fl, Y)) (ht : t = 0 ∨ t = 1) (hf : t = 1 ↔ fl = 1 ∧ mu_in (Bn i j)) : wl_I n k X Bn Dn a i (j + 1) (t, gx_up Y 1 (1928 + 4 * i + j) (Bn i j)) := by
  obtain ⟨a', b, c, d, e, f, g⟩ := h
  have b' : fl = 1 ↔ _ := b
  refine ⟨ht, hf.trans ?_, fun o ho => ?_, fun q hq => ?_, fun c' hc' => ?_, fun r c' hr hc' ht => ?_, fun r c' hr hc' hrk => ?_⟩
  · rw [b']
    constructor
    · rintro ⟨⟨z1, z2⟩, z3⟩
      refine ⟨z1, fun r c hr hc ht => ?_⟩
      by_cases e : r = i ∧ c = j
      · obtain ⟨e1, e2⟩ := e
        subst e1 e2
        exact z3
      · exact z2 r c hr hc (by unfold mu_to at *; omega)
    · rintro ⟨z1, z2⟩
      exact ⟨⟨z1, fun r c hr hc ht => z2 r c hr hc (by unfold mu_to at *; omega)⟩, z2 i j hi hj (by unfold mu_to; omega)⟩
  · show gx_up Y 1 _ _ o = _
    rw [gx_up_ne ho]
    exact c o ho
  · show gx_up Y 1 _ _ 1 q = _
    rw [gx_up_at, if_neg (by omega)]
    exact d q hq
  · show gx_up Y 1 _ _ 1 _ = _
    rw [gx_up_at, if_neg (by omega)]
    exact e c' hc'
  · show gx_up Y 1 _ _ 1 _ = _
    rw [gx_up_at]
    by_cases e : r = i ∧ c' = j
    · obtain ⟨e1, e2⟩ := e
      subst e1 e2
      rw [if_pos rfl]
    · rw [if_neg (by omega)]
      exact f r c' hr hc' (by unfold mu_to at *; omega)
  · show gx_up Y 1 _ _ 1 _ = _
    rw [gx_up_at, if_neg (by omega)]
    exact g r c' hr hc' hrk
/-- the third part of a step -/
theorem pm_steps3 (X : Nat → Nat → Int) {n k : Nat} {Bn Dn : Nat → Nat → Int} (hn : X 0 1 = (n : Int)) (hn4 : n ≤ 4) (hk : k < n) (hD : ∀ c, c < n → X 13 c = Dn k c) (hB : ∀ r c, r < n → c < n → X 13 (4 + 4 * r + c) = Bn r c) (iD : ∀ c, c < n → gx_i (Dn k c)) (iB : ∀ r c, r < n → c < n → gx_i (Bn r c)) :
    ∃ S, wl_I n k X Bn Dn n n 0 S ∧ f_MD_steps_192 gx_fu (pm_h X) 0 (k : Int) 1 0 = some (S.1, pm_h S.2) := by
  refine pl_inv3 (σ := Int × (Nat → Nat → Int)) (A := fun fu i S => f_MD_steps_192 fu (pm_h S.2) 0 (k : Int) S.1 (i : Int)) (Bf := fun fu gu i j S => f_MD_steps_235 (f_MD_steps_192 fu) gu (pm_h S.2) 0 (k : Int) S.1 (i : Int) (j : Int)) (out := fun S => some (S.1, pm_h S.2)) (P := fun i S => wl_I n k X Bn Dn i i 0 S) (Q := fun i j S => wl_I n k X Bn Dn (i + 1) i j S) n n (by omega) (by omega) (fun i hi S hQ fu => ?_) (fun i hi j hj S hQ fu gu => ?_) (fun i hi S hQ => ⟨wl_I_row hQ, fun fu gu => ?_⟩) (fun S hQ fu => ?_) (1, X) ⟨Or.inr rfl, ⟨fun _ => ⟨fun c hc => by omega, fun r c hr hc ht => by unfold mu_to at ht; omega⟩, fun _ => rfl⟩, fun _ _ => rfl, fun _ _ => rfl, fun c hc => by omega, fun r c hr hc ht => by unfold mu_to at ht; omega, fun _ _ _ _ _ => rfl⟩
  · obtain ⟨fl, Y⟩ := S
    have y1 : Y 0 1 = (n : Int) := (congrFun (hQ.2.2.1 0 (by decide)) 1).trans hn
    have y13 : Y 13 i = Dn k i := (congrFun (hQ.2.2.1 13 (by decide)) i).trans (hD i hi)
    have f1 : fl = 0 ∨ fl = 1 := hQ.1
    show ∃ s', _ ∧ fb_MD_steps_192 (f_MD_steps_192 fu) (pm_h Y) _ _ _ _ = _
    unfold fb_MD_steps_192
    rw [pm_get (by decide) rfl, y1, pl_gi (by omega) (by omega), if_pos (by omega), pm_gr (t := 13) (by decide) rfl (by decide), pm_ald (o := 13) (i := i) rfl (by show _ < 80; omega), y13, pm_cv, pm_lay Y (i := 1944 + 4 * k + i) (by omega) (by omega) (iD i hi), pl_call, gq_g_ok (by split <;> decide)]
    by_cases c : mu_in (Dn k i)
    · rw [if_pos c, if_neg (by decide), pl_gi (by omega) (by omega)]
      by_cases z : fl = 0
      · rw [if_pos z]
        exact ⟨_, wl_I_D hn4 hk hi hQ (Or.inl rfl) ⟨fun q : (0 : Int) = 1 => absurd q (by decide), fun q => by omega⟩, rfl⟩
      · rw [if_neg z]
        exact ⟨_, wl_I_D hn4 hk hi hQ (Or.inr rfl) ⟨fun _ => ⟨by omega, c⟩, fun _ => rfl⟩, rfl⟩
    · rw [if_neg c, if_pos rfl]
      exact ⟨_, wl_I_D hn4 hk hi hQ (Or.inl rfl) ⟨fun q : (0 : Int) = 1 => absurd q (by decide), fun q => absurd q.2 c⟩, rfl⟩
  · obtain ⟨fl, Y⟩ := S
    have y1 : Y 0 1 = (n : Int) := (congrFun (hQ.2.2.1 0 (by decide)) 1).trans hn
    have y13 : Y 13 (4 + 4 * i + j) = Bn i j := (congrFun (hQ.2.2.1 13 (by decide)) (4 + 4 * i + j)).trans (hB i j hi hj)
    have f1 : fl = 0 ∨ fl = 1 := hQ.1
    show ∃ s', _ ∧ fb_MD_steps_235 (f_MD_steps_192 fu) (f_MD_steps_235 (f_MD_steps_192 fu) gu) (pm_h Y) _ _ _ _ _ = _
    unfold fb_MD_steps_235
    rw [pm_get (by decide) rfl, y1, pl_gi (by omega) (by omega), if_pos (by omega), pm_gr (t := 13) (by decide) rfl (by decide), pm_ald (o := 13) (i := 4 + 4 * i + j) (by omega) (by show _ < 80; omega), y13, pm_cv, pm_lay Y (i := 1928 + 4 * i + j) (by omega) (by omega) (iB i j hi hj), pl_call, gq_g_ok (by split <;> decide)]
    by_cases c : mu_in (Bn i j)
    · rw [if_pos c, if_neg (by decide), pl_gi (by omega) (by omega)]
      by_cases z : fl = 0
      · rw [if_pos z]
        exact ⟨_, wl_I_B hn4 hk hi hj (by omega) hQ (Or.inl rfl) ⟨fun q : (0 : Int) = 1 => absurd q (by decide), fun q => by omega⟩, rfl⟩
      · rw [if_neg z]
        exact ⟨_, wl_I_B hn4 hk hi hj (by omega) hQ (Or.inr rfl) ⟨fun _ => ⟨by omega, c⟩, fun _ => rfl⟩, rfl⟩
    · rw [if_neg c, if_pos rfl]
      exact ⟨_, wl_I_B hn4 hk hi hj (by omega) hQ (Or.inl rfl) ⟨fun q : (0 : Int) = 1 => absurd q (by decide), fun q => absurd q.2 c⟩, rfl⟩
  · obtain ⟨fl, Y⟩ := S
    have y1 : Y 0 1 = (n : Int) := (congrFun (hQ.2.2.1 0 (by decide)) 1).trans hn
    show fb_MD_steps_235 (f_MD_steps_192 fu) (f_MD_steps_235 (f_MD_steps_192 fu) gu) (pm_h Y) _ _ _ _ _ = _
    unfold fb_MD_steps_235
    rw [pm_get (by decide) rfl, y1, pl_gi (by omega) (by omega), if_neg (by omega)]
    rfl
  · obtain ⟨fl, Y⟩ := S
    have y1 : Y 0 1 = (n : Int) := (congrFun (hQ.2.2.1 0 (by decide)) 1).trans hn
    have f1 : fl = 0 ∨ fl = 1 := hQ.1
    show fb_MD_steps_192 (f_MD_steps_192 fu) (pm_h Y) _ _ _ _ = _
    unfold fb_MD_steps_192
    rw [pm_get (by decide) rfl, y1, pl_gi (by omega) (by omega), if_neg (by omega)]
    exact gq_g_ok f1
/-- the second part: the table in the hand -/
theorem pm_steps2 (X : Nat → Nat → Int) {n k : Nat} (hn : X 0 1 = (n : Int)) (hn4 : n ≤ 4) (hk : k < n) (hB : mu_bd n (pm_T X 1928)) :
    ∃ Y, ((∀ o, o ≠ 13 → Y o = X o) ∧ (∀ c, c < 4 → Y 13 c = X 13 c) ∧ ∀ r c, r < n → c < n → mu_to n n 0 r c → Y 13 (4 + 4 * r + c) = mu_B (pm_T X 1928) k r c) ∧ f_MD_steps_83 gx_fu (pm_h X) 0 (k : Int) 1 0 = f_MD_steps_192 gx_fu (pm_h Y) 0 (k : Int) 1 0 := by
  refine pl_inv2 (A := fun fu i Y => f_MD_steps_83 fu (pm_h Y) 0 (k : Int) 1 (i : Int)) (Bf := fun fu gu i j Y => f_MD_steps_94 (f_MD_steps_83 fu) gu (pm_h Y) 0 (k : Int) 1 (i : Int) (j : Int)) (out := fun Y => f_MD_steps_192 gx_fu (pm_h Y) 0 (k : Int) 1 0) (Q := fun i j Y => (∀ o, o ≠ 13 → Y o = X o) ∧ (∀ c, c < 4 → Y 13 c = X 13 c) ∧ ∀ r c, r < n → c < n → mu_to n i j r c → Y 13 (4 + 4 * r + c) = mu_B (pm_T X 1928) k r c) n n (by omega) (by omega) (fun i hi Y hQ fu => ?_) (fun i hi j hj Y hQ fu gu => ?_) (fun i hi Y hQ => ⟨⟨hQ.1, hQ.2.1, fun r c hr hc ht => hQ.2.2 r c hr hc (by unfold mu_to at *; omega)⟩, fun fu gu => ?_⟩) (fun Y hQ fu => ?_) X ⟨fun _ _ => rfl, fun _ _ => rfl, fun r c _ _ h => by unfold mu_to at h; omega⟩
  · have y1 : Y 0 1 = (n : Int) := by rw [hQ.1 0 (by decide)]; exact hn
    show fb_MD_steps_83 (f_MD_steps_83 fu) _ _ _ _ _ = _
    unfold fb_MD_steps_83
    rw [pm_get (by decide) rfl, y1, pl_gi (by omega) (by omega), if_pos (by omega)]
    rfl
  · have y1 : Y 0 1 = (n : Int) := by rw [hQ.1 0 (by decide)]; exact hn
    have w1 : Y 1 = X 1 := hQ.1 1 (by decide)
    have bd := mu_B_bd hB hk hi hj
    have fin : ∀ v : Int, v = mu_B (pm_T X 1928) k i j → ∃ s', ((∀ o, o ≠ 13 → s' o = X o) ∧ (∀ c, c < 4 → s' 13 c = X 13 c) ∧ ∀ r c, r < n → c < n → mu_to n i (j + 1) r c → s' 13 (4 + 4 * r + c) = mu_B (pm_T X 1928) k r c) ∧ fb_MD_steps_161 (f_MD_steps_83 fu) (f_MD_steps_94 (f_MD_steps_83 fu) gu) (pm_h Y) 0 (k : Int) 1 (i : Int) (j : Int) v = f_MD_steps_94 (f_MD_steps_83 fu) gu (pm_h s') 0 (k : Int) 1 (i : Int) ((j + 1 : Nat) : Int) := by
      intro v hv
      subst hv
      unfold fb_MD_steps_161
      rw [pm_gr (t := 13) (by decide) rfl (by decide), pm_ast (o := 13) (i := 4 + 4 * i + j) ⟨by omega, by omega⟩ (by omega) (by show _ < 80; omega)]
      refine ⟨_, ⟨fun o ho => ?_, fun c hc => ?_, fun r c hr hc ht => ?_⟩, rfl⟩
      · rw [gx_up_ne ho]; exact hQ.1 o ho
      · rw [gx_up_at, if_neg (by omega)]; exact hQ.2.1 c hc
      · rw [gx_up_at]
        by_cases e : r = i ∧ c = j
        · obtain ⟨e1, e2⟩ := e
          subst e1 e2
          rw [if_pos rfl]
        · rw [if_neg (by omega)]
          exact hQ.2.2 r c hr hc (by unfold mu_to at *; omega)
    show ∃ s', _ ∧ fb_MD_steps_94 (f_MD_steps_83 fu) (f_MD_steps_94 (f_MD_steps_83 fu) gu) _ _ _ _ _ _ = _
    unfold fb_MD_steps_94
    rw [pm_get (by decide) rfl, y1, pl_gi (by omega) (by omega), if_pos (by omega), pl_gi (by omega) (by omega), pl_gi (by omega) (by omega)]
    have v0 : Y 1 (1920 + 8 + 4 * i + j) = pm_T X 1928 i j := by rw [w1]; rfl
    have v1 : Y 1 (1920 + 8 + 4 * i + k) = pm_T X 1928 i k := by rw [w1]; rfl
    have v2 : Y 1 (1920 + 8 + 4 * k + j) = pm_T X 1928 k j := by rw [w1]; rfl
    have e114 : (i = k ∨ j = k) → ∃ s', ((∀ o, o ≠ 13 → s' o = X o) ∧ (∀ c, c < 4 → s' 13 c = X 13 c) ∧ ∀ r c, r < n → c < n → mu_to n i (j + 1) r c → s' 13 (4 + 4 * r + c) = mu_B (pm_T X 1928) k r c) ∧ fb_MD_steps_114 (f_MD_steps_83 fu) (f_MD_steps_94 (f_MD_steps_83 fu) gu) (pm_h Y) 0 (k : Int) 1 (i : Int) (j : Int) = f_MD_steps_94 (f_MD_steps_83 fu) gu (pm_h s') 0 (k : Int) 1 (i : Int) ((j + 1 : Nat) : Int) := by
      intro c
      unfold fb_MD_steps_114
      rw [pm_cv, pm_b Y (a := 1920) (x := 1920) (i := i) (j := j) rfl rfl rfl (by omega), pl_call, v0]
      exact fin _ (by unfold mu_B; rw [if_pos c])
    by_cases c1 : (i : Int) = (k : Int)
    · rw [if_pos c1]
      exact e114 (Or.inl (by omega))
    · rw [if_neg c1]
      by_cases c2 : (j : Int) = (k : Int)
      · rw [if_pos c2]
        exact e114 (Or.inr (by omega))
      · have b1 := hB i hi k hk
        have b2 := hB k hk j hj
        rw [if_neg c2, pm_cv, pm_b Y (a := 1920) (x := 1920) (i := i) (j := j) rfl rfl rfl (by omega), pl_call, pm_cv, pm_b Y (a := 1920) (x := 1920) (i := i) (j := k) rfl rfl rfl (by omega), pl_call, pm_cv, pm_b Y (a := 1920) (x := 1920) (i := k) (j := j) rfl rfl rfl (by omega), pl_call, v0, v1, v2, pm_both _ ⟨by omega, by omega⟩ ⟨by omega, by omega⟩, pl_call]
        exact fin _ (by rw [mu_B_at (by omega) (by omega)])
  · have y1 : Y 0 1 = (n : Int) := by rw [hQ.1 0 (by decide)]; exact hn
    show fb_MD_steps_94 (f_MD_steps_83 fu) (f_MD_steps_94 (f_MD_steps_83 fu) gu) _ _ _ _ _ _ = _
    unfold fb_MD_steps_94
    rw [pm_get (by decide) rfl, y1, pl_gi (by omega) (by omega), if_neg (by omega)]
    rfl
  · have y1 : Y 0 1 = (n : Int) := by rw [hQ.1 0 (by decide)]; exact hn
    show fb_MD_steps_83 (f_MD_steps_83 fu) _ _ _ _ _ = _
    unfold fb_MD_steps_83
    rw [pm_get (by decide) rfl, y1, pl_gi (by omega) (by omega), if_neg (by omega)]
theorem mu_D_i {n k m : Nat} {B D : Nat → Nat → Int} (hn4 : n ≤ 4) (hB : mu_bd n B) (hD : mu_bd n D) (hk : k < n) (hm : m < n) : gx_i (mu_D n B D k k m) := by
  have b := mu_D_bd hn4 hB hD hk hm
  have d := hD k hk m hm
  rw [mu_D_at]
  constructor <;> split <;> omega
/-- a step whole -/
theorem pm_steps (X : Nat → Nat → Int) {n k : Nat} {a : Int} (hn : X 0 1 = (n : Int)) (hn4 : n ≤ 4) (ha : a = (k : Int)) (hk : k < n) (hB : mu_bd n (pm_T X 1928)) (hD : mu_bd n (pm_T X 1944)) :
    ∃ (fl : Int) (Y : Nat → Nat → Int), f_MD_steps (pm_h X) 0 a = some (fl, pm_h Y) ∧ (fl = 0 ∨ fl = 1) ∧ (fl = 1 ↔ mu_bd n (mu_B (pm_T X 1928) k) ∧ mu_bd n (mu_D n (pm_T X 1928) (pm_T X 1944) k)) ∧ (∀ o, o ≠ 1 → o ≠ 13 → Y o = X o) ∧ (∀ q, q < 1928 → Y 1 q = X 1 q) ∧ st_E n (pm_T Y 1928, pm_T Y 1944) (st_mv n (pm_T X 1928, pm_T X 1944) k) := by
  subst ha
  have first : ∃ Y, ((∀ o, o ≠ 13 → Y o = X o) ∧ ∀ c, c < n → Y 13 c = mu_D n (pm_T X 1928) (pm_T X 1944) k k c) ∧ f_MD_steps (pm_h X) 0 (k : Int) = f_MD_steps_83 gx_fu (pm_h Y) 0 (k : Int) 1 0 := by
    unfold f_MD_steps
    refine pl_inv (A := fun fu i Y => f_MD_steps_4 fu (pm_h Y) 0 (k : Int) 1 (i : Int)) (out := fun Y => f_MD_steps_83 gx_fu (pm_h Y) 0 (k : Int) 1 0) (Q := fun m Y => (∀ o, o ≠ 13 → Y o = X o) ∧ ∀ c, c < m → Y 13 c = mu_D n (pm_T X 1928) (pm_T X 1944) k k c) n (by omega) (fun m hm Y hQ fu => ?_) (fun fu Y hQ => ?_) X ⟨fun _ _ => rfl, fun c hc => by omega⟩
    · have y1 : Y 0 1 = (n : Int) := by rw [hQ.1 0 (by decide)]; exact hn
      have w1 : Y 1 = X 1 := hQ.1 1 (by decide)
      have t1 : pm_T Y 1928 = pm_T X 1928 := by unfold pm_T; rw [w1]
      have t2 : pm_T Y 1944 = pm_T X 1944 := by unfold pm_T; rw [w1]
      have b := mu_D_bd hn4 hB hD hk hm
      have d := hD k hk m hm
      have g1 : f_MD_gathered (pm_h Y) 0 1920 (k : Int) 1 24 (m : Int) = some (mu_gs (pm_T X 1928) (pm_T X 1944) k 1 m n, pm_h Y) := by
        have := pm_gathered Y (n := n) (x := 1920) (k := k) (R := 24) (m := m) (s := 1) y1 hn4 rfl rfl rfl rfl (Or.inl rfl) (by omega) (by omega) (by decide) (by decide) (fun i hi => by show mu_in (pm_T Y 1928 i k); rw [t1]; exact hB i hi k hk) (fun i hi => by show mu_in (pm_T Y 1944 i m); rw [t2]; exact hD i hi m hm)
        rw [← t1, ← t2]
        exact this
      have g2 : f_MD_gathered (pm_h Y) 0 1920 (k : Int) (-1) 24 (m : Int) = some (mu_gs (pm_T X 1928) (pm_T X 1944) k (-1) m n, pm_h Y) := by
        have := pm_gathered Y (n := n) (x := 1920) (k := k) (R := 24) (m := m) (s := -1) y1 hn4 rfl rfl rfl rfl (Or.inr rfl) (by omega) (by omega) (by decide) (by decide) (fun i hi => by show mu_in (pm_T Y 1928 i k); rw [t1]; exact hB i hi k hk) (fun i hi => by show mu_in (pm_T Y 1944 i m); rw [t2]; exact hD i hi m hm)
        rw [← t1, ← t2]
        exact this
      have v : Y 1 (1944 + 4 * k + m) = pm_T X 1944 k m := by rw [w1]; rfl
      have fin : ∀ z : Int, z - pm_T X 1944 k m = mu_D n (pm_T X 1928) (pm_T X 1944) k k m → gx_i (z - pm_T X 1944 k m) → ∃ s', ((∀ o, o ≠ 13 → s' o = X o) ∧ ∀ c, c < m + 1 → s' 13 c = mu_D n (pm_T X 1928) (pm_T X 1944) k k c) ∧ fb_MD_steps_59 (f_MD_steps_4 fu) (pm_h Y) 0 (k : Int) 1 (m : Int) 13 (m : Int) z = f_MD_steps_4 fu (pm_h s') 0 (k : Int) 1 ((m + 1 : Nat) : Int) := by
        intro z hz hzi
        unfold fb_MD_steps_59
        rw [pm_gr (t := 1) (by decide) rfl (by decide), pm_ald (o := 1) (i := 1944 + 4 * k + m) (by omega) (by show _ < 2000; omega), v, pm_ast (o := 13) (i := m) hzi rfl (by show _ < 80; omega)]
        refine ⟨_, ⟨fun o ho => ?_, fun c hc => ?_⟩, rfl⟩
        · rw [gx_up_ne ho]; exact hQ.1 o ho
        · rw [gx_up_at]
          by_cases e : c = m
          · subst e
            rw [if_pos rfl, hz]
          · rw [if_neg e]
            exact hQ.2 c (by omega)
      show ∃ s', _ ∧ fb_MD_steps_4 (f_MD_steps_4 fu) _ _ _ _ _ = _
      unfold fb_MD_steps_4
      rw [pm_get (by decide) rfl, y1, pl_gi (by omega) (by omega), if_pos (by omega), pm_cv, g1, pl_call, pm_cv, g2, pl_call, pm_gr (t := 13) (by decide) rfl (by decide), pl_gi (by omega) (by omega), pl_gi (by omega) (by omega)]
      by_cases c : mu_gs (pm_T X 1928) (pm_T X 1944) k (-1) m n < mu_gs (pm_T X 1928) (pm_T X 1944) k 1 m n
      · rw [if_pos c]
        exact fin _ (by rw [mu_D_at, if_pos c]) ⟨by omega, by omega⟩
      · rw [if_neg c]
        exact fin _ (by rw [mu_D_at, if_neg c]) ⟨by omega, by omega⟩
    · have y1 : Y 0 1 = (n : Int) := by rw [hQ.1 0 (by decide)]; exact hn
      show fb_MD_steps_4 (f_MD_steps_4 fu) _ _ _ _ _ = _
      unfold fb_MD_steps_4
      rw [pm_get (by decide) rfl, y1, pl_gi (by omega) (by omega), if_neg (by omega)]
  obtain ⟨Y1, ⟨a1, a2⟩, e1⟩ := first
  have n1 : Y1 0 1 = (n : Int) := by rw [a1 0 (by decide)]; exact hn
  have t1 : pm_T Y1 1928 = pm_T X 1928 := by unfold pm_T; rw [a1 1 (by decide)]
  have t2 : pm_T Y1 1944 = pm_T X 1944 := by unfold pm_T; rw [a1 1 (by decide)]
  obtain ⟨Y2, ⟨b1, b2, b3⟩, e2⟩ := pm_steps2 Y1 n1 hn4 hk (by rw [t1]; exact hB)
  rw [t1] at b3
  have n2 : Y2 0 1 = (n : Int) := by rw [b1 0 (by decide)]; exact n1
  obtain ⟨⟨fl, Y⟩, hS, e3⟩ := pm_steps3 Y2 (k := k) (Bn := mu_B (pm_T X 1928) k) (Dn := mu_D n (pm_T X 1928) (pm_T X 1944) k) n2 hn4 hk (fun c hc => by rw [b2 c (by omega)]; exact a2 c hc) (fun r c hr hc => b3 r c hr hc (Or.inl ⟨hr, hc⟩)) (fun c hc => mu_D_i hn4 hB hD hk hc) (fun r c hr hc => by have := mu_B_bd hB hk hr hc; exact ⟨by omega, by omega⟩)
  obtain ⟨s1, s2, s3, s4, s5, s6, s7⟩ := hS
  refine ⟨fl, Y, e1.trans (e2.trans e3), s1, s2.trans ?_, fun o h1 h2 => ?_, fun q hq => ?_, fun i hi j hj => s6 i j hi hj (Or.inl ⟨hi, hj⟩), fun i hi m hm => ?_⟩
  · rw [mu_D_fr hD hk]
    exact ⟨fun z => ⟨fun r hr c hc => z.2 r c hr hc (Or.inl ⟨hr, hc⟩), z.1⟩, fun z => ⟨z.2, fun r c hr hc _ => z.1 r hr c hc⟩⟩
  · have := s3 o h1
    rw [show Y o = Y2 o from this, b1 o h2, a1 o h2]
  · rw [show Y 1 q = Y2 1 q from s4 q hq, b1 1 (by decide), a1 1 (by decide)]
  · show Y 1 (1944 + 4 * i + m) = mu_D n (pm_T X 1928) (pm_T X 1944) k i m
    by_cases c : i = k
    · subst c
      exact s5 m hm
    · rw [show Y 1 (1944 + 4 * i + m) = Y2 1 (1944 + 4 * i + m) from s7 i m hi hm c, b1 1 (by decide), a1 1 (by decide), mu_D_ne c]
      rfl
