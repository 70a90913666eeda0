/-! the reference's rows, exchanged -/
theorem gx_up_us {X : Nat → Nat → Int} {o i : Nat} {f : Nat → Int} {v : Int} : gx_up (gx_us X o f) o i v = gx_us X o (gx_u1 f i v) := by
  funext o' j
  unfold gx_up gx_us
  by_cases e : o' = o
  · simp [e]
  · simp [e]
theorem gx_us_id {X : Nat → Nat → Int} {o : Nat} {f : Nat → Int} (h : f = X o) : gx_us X o f = X := by
  funext o' j
  unfold gx_us
  by_cases e : o' = o
  · subst e; simp [h]
  · simp [e]
theorem gx_us_ne {X : Nat → Nat → Int} {o o' : Nat} {f : Nat → Int} (h : o' ≠ o) : gx_us X o f o' = X o' := by
  unfold gx_us
  rw [if_neg h]
theorem gx_us_eq {X : Nat → Nat → Int} {o : Nat} {f : Nat → Int} : gx_us X o f o = f := by
  unfold gx_us
  rw [if_pos rfl]
theorem pm_wr_cg {f : Nat → Int} {a : Nat} {P Q : Nat → Nat → Prop} [∀ i j, Decidable (P i j)] [∀ i j, Decidable (Q i j)] {M : Nat → Nat → Int} (h : ∀ r c, r < 4 → c < 4 → (P r c ↔ Q r c)) : pm_wr f a P M = pm_wr f a Q M := by
  funext q
  unfold pm_wr
  by_cases hq : a ≤ q ∧ q < a + 16
  · have h1 := h ((q - a) / 4) ((q - a) % 4) (by omega) (by omega)
    by_cases hp : P ((q - a) / 4) ((q - a) % 4)
    · rw [if_pos ⟨hq.1, hq.2, hp⟩, if_pos ⟨hq.1, hq.2, h1.mp hp⟩]
    · rw [if_neg (fun z => hp z.2.2), if_neg (fun z => hp (h1.mpr z.2.2))]
  · rw [if_neg (fun z => hq ⟨z.1, z.2.1⟩), if_neg (fun z => hq ⟨z.1, z.2.1⟩)]
theorem pm_wr_0 {f : Nat → Int} {a : Nat} {P : Nat → Nat → Prop} [∀ i j, Decidable (P i j)] {M : Nat → Nat → Int} (h : ∀ r c, r < 4 → c < 4 → ¬ P r c) : pm_wr f a P M = f := by
  funext q
  unfold pm_wr
  rw [if_neg (fun z => h _ _ (by omega) (by omega) z.2.2)]
theorem pm_wr_step {f : Nat → Int} {a i j : Nat} {P Q : Nat → Nat → Prop} [∀ i j, Decidable (P i j)] [∀ i j, Decidable (Q i j)] {M : Nat → Nat → Int} {v : Int} (hi : i < 4) (hj : j < 4) (hv : v = M i j) (h : ∀ r c, r < 4 → c < 4 → (Q r c ↔ P r c ∨ (r = i ∧ c = j))) : gx_u1 (pm_wr f a P M) (a + 4 * i + j) v = pm_wr f a Q M := by
  subst hv
  funext q
  unfold gx_u1 pm_wr
  by_cases e : q = a + 4 * i + j
  · subst e
    have e1 : (a + 4 * i + j - a) / 4 = i := by omega
    have e2 : (a + 4 * i + j - a) % 4 = j := by omega
    rw [if_pos rfl, e1, e2, if_pos ⟨by omega, by omega, (h i j hi hj).mpr (Or.inr ⟨rfl, rfl⟩)⟩]
  · rw [if_neg e]
    by_cases hq : a ≤ q ∧ q < a + 16
    · have h1 := h ((q - a) / 4) ((q - a) % 4) (by omega) (by omega)
      by_cases hp : P ((q - a) / 4) ((q - a) % 4)
      · rw [if_pos ⟨hq.1, hq.2, hp⟩, if_pos ⟨hq.1, hq.2, h1.mpr (Or.inl hp)⟩]
      · rw [if_neg (fun z => hp z.2.2), if_neg (fun z => (h1.mp z.2.2).elim hp (fun y => by omega))]
    · rw [if_neg (fun z => hq ⟨z.1, z.2.1⟩), if_neg (fun z => hq ⟨z.1, z.2.1⟩)]
theorem pm_wr_out {f : Nat → Int} {a q : Nat} {P : Nat → Nat → Prop} [∀ i j, Decidable (P i j)] {M : Nat → Nat → Int} (h : q < a ∨ a + 16 ≤ q) : pm_wr f a P M q = f q := by
  unfold pm_wr
  rw [if_neg (by omega)]
theorem pm_wr_in {f : Nat → Int} {a i j : Nat} {P : Nat → Nat → Prop} [∀ i j, Decidable (P i j)] {M : Nat → Nat → Int} (hi : i < 4) (hj : j < 4) : pm_wr f a P M (a + 4 * i + j) = if P i j then M i j else f (a + 4 * i + j) := by
  unfold pm_wr
  have e1 : (a + 4 * i + j - a) / 4 = i := by omega
  have e2 : (a + 4 * i + j - a) % 4 = j := by omega
  rw [e1, e2]
  by_cases h : P i j
  · rw [if_pos ⟨by omega, by omega, h⟩, if_pos h]
  · rw [if_neg (fun z => h z.2.2), if_neg h]
/-- how far a table is filled -/
abbrev mu_to (n i j : Nat) : Nat → Nat → Prop := fun r c => (r < i ∧ c < n) ∨ (r = i ∧ c < j)
abbrev mu_fi (n : Nat) (M : Nat → Nat → Int) (i j : Nat) : Prop := (∀ r, r < i → ∀ c, c < n → mu_in (M r c)) ∧ ∀ c, c < j → mu_in (M i c)
theorem mu_fi_step {n : Nat} {M : Nat → Nat → Int} {i j : Nat} : mu_fi n M i (j + 1) ↔ mu_fi n M i j ∧ mu_in (M i j) :=
  ⟨fun h => ⟨⟨h.1, (mu_all_succ.mp h.2).1⟩, (mu_all_succ.mp h.2).2⟩, fun h => ⟨h.1.1, mu_all_succ.mpr ⟨h.1.2, h.2⟩⟩⟩
theorem mu_fi_row {n : Nat} {M : Nat → Nat → Int} {i : Nat} : mu_fi n M i n ↔ mu_fi n M (i + 1) 0 :=
  ⟨fun h => ⟨mu_all_succ.mpr h, fun _ hc => absurd hc (by omega)⟩, fun h => mu_all_succ.mp h.1⟩
theorem mu_fi_all {n : Nat} {M : Nat → Nat → Int} : mu_fi n M n 0 ↔ mu_bd n M := ⟨fun h => h.1, fun h => ⟨h, fun _ hc => absurd hc (by omega)⟩⟩
theorem mu_B_bd {n k i j : Nat} {B : Nat → Nat → Int} (hB : mu_bd n B) (hk : k < n) (hi : i < n) (hj : j < n) : -9900 ≤ mu_B B k i j ∧ mu_B B k i j ≤ 9900 := by
  have h1 := hB i hi j hj
  have h2 := mu_both_bd (hB i hi k hk) (hB k hk j hj)
  unfold mu_B
  split <;> omega
set_option maxHeartbeats 1000000 in
theorem pm_turned (X : Nat → Nat → Int) {n x k y : Nat} {a b c : Int} (hn : X 0 1 = (n : Int)) (hn4 : n ≤ 4) (ha : a = (x : Int)) (hb : b = (k : Int)) (hc : c = (y : Int)) (hk : k < n) (hx : x + 80 ≤ 2000) (hy : y + 80 ≤ 2000) (hxy : x + 80 ≤ y ∨ y + 80 ≤ x) (hB : mu_bd n (pm_T X (x + 8))) :
    f_MD_turned (pm_h X) 0 a b c = some (mu_fl (mu_bd n (mu_B (pm_T X (x + 8)) k)), pm_h (gx_us X 1 (pm_wr (X 1) (y + 8) (fun i j => i < n ∧ j < n) (mu_B (pm_T X (x + 8)) k)))) := by
  subst ha hb hc
  unfold f_MD_turned
  have hMd : ∀ r c, r < n → c < n → -9900 ≤ mu_B (pm_T X (x + 8)) k r c ∧ mu_B (pm_T X (x + 8)) k r c ≤ 9900 := fun r c hr hc => mu_B_bd hB hk hr hc
  generalize hMe : mu_B (pm_T X (x + 8)) k = M at hMd
  have hrd : ∀ (P : Nat → Nat → Prop) [∀ i j, Decidable (P i j)] (r c : Nat), r < 4 → c < 4 → gx_us X 1 (pm_wr (X 1) (y + 8) P M) 1 (x + 8 + 4 * r + c) = pm_T X (x + 8) r c := by
    intro P _ r c hr hc
    rw [gx_us_eq, pm_wr_out (by omega)]
    rfl
  have hn' : ∀ (P : Nat → Nat → Prop) [∀ i j, Decidable (P i j)], gx_us X 1 (pm_wr (X 1) (y + 8) P M) 0 1 = (n : Int) := by
    intro P _
    rw [gx_us_ne (by decide)]
    exact hn
  have e0 : f_MD_turned_6 gx_fu (pm_h X) 0 (x : Int) (k : Int) (y : Int) 1 0 = f_MD_turned_6 gx_fu (pm_h (gx_us X 1 (pm_wr (X 1) (y + 8) (mu_to n 0 0) M))) 0 (x : Int) (k : Int) (y : Int) (mu_fl (mu_fi n M 0 0)) ((0 : Nat) : Int) := by
    rw [gx_us_id (pm_wr_0 (fun r c _ _ => by omega))]
    have : mu_fl (mu_fi n M 0 0) = 1 := if_pos ⟨fun _ h => absurd h (by omega), fun _ h => absurd h (by omega)⟩
    rw [this]
    rfl
  rw [e0]
  refine pl_loop0 (A := fun fu i => f_MD_turned_6 fu (pm_h (gx_us X 1 (pm_wr (X 1) (y + 8) (mu_to n i 0) M))) 0 (x : Int) (k : Int) (y : Int) (mu_fl (mu_fi n M i 0)) (i : Int)) n (by omega) (fun i hi fu => ?_) (fun fu => ?_)
  · show fb_MD_turned_6 (f_MD_turned_6 fu) _ 0 _ _ _ _ _ = _
    unfold fb_MD_turned_6
    rw [pm_get (by decide) rfl, hn', pl_gi (by omega) (by omega), if_pos (by omega)]
    refine (pl_loop0 (A := fun gu j => f_MD_turned_18 (f_MD_turned_6 fu) gu (pm_h (gx_us X 1 (pm_wr (X 1) (y + 8) (mu_to n i j) M))) 0 (x : Int) (k : Int) (y : Int) (mu_fl (mu_fi n M i j)) (i : Int) (j : Int)) n (by omega) (fun j hj gu => ?_) (fun gu => ?_))
    · show fb_MD_turned_18 (f_MD_turned_6 fu) (f_MD_turned_18 (f_MD_turned_6 fu) gu) _ 0 _ _ _ _ _ _ = _
      -- the number that is laid
      have hlay : fb_MD_turned_81 (f_MD_turned_6 fu) (f_MD_turned_18 (f_MD_turned_6 fu) gu) (pm_h (gx_us X 1 (pm_wr (X 1) (y + 8) (mu_to n i j) M))) 0 (x : Int) (k : Int) (y : Int) (mu_fl (mu_fi n M i j)) (i : Int) (j : Int) (M i j) = f_MD_turned_18 (f_MD_turned_6 fu) gu (pm_h (gx_us X 1 (pm_wr (X 1) (y + 8) (mu_to n i (j + 1)) M))) 0 (x : Int) (k : Int) (y : Int) (mu_fl (mu_fi n M i (j + 1))) (i : Int) ((j + 1 : Nat) : Int) := by
        unfold fb_MD_turned_81 fb_MD_turned_113 fb_MD_turned_114
        have hv := hMd i j hi hj
        rw [pm_cv, pm_lay _ (i := y + 8 + 4 * i + j) (by omega) (by omega) ⟨by omega, by omega⟩, pl_call, mu_fl_and, gx_up_us, pm_wr_step (Q := mu_to n i (j + 1)) (by omega) (by omega) rfl (fun r c hr hc => by omega)]
        have e1 : mu_fl (mu_fi n M i (j + 1)) = if mu_fi n M i j ∧ mu_in (M i j) then 1 else 0 := mu_fl_iff mu_fi_step
        rw [e1]
        by_cases hh : mu_fi n M i j ∧ mu_in (M i j)
        · rw [if_pos hh, if_pos hh]; rfl
        · rw [if_neg hh, if_neg hh]; rfl
      unfold fb_MD_turned_18 fb_MD_turned_39
      rw [pm_get (by decide) rfl, hn', pl_gi (by omega) (by omega), if_pos (by omega), pl_gi (by omega) (by omega), pl_gi (by omega) (by omega)]
      simp only [pm_cv]
      rw [pm_b _ (x := x) (i := i) (j := j) rfl rfl rfl (by omega)]
      simp only [pl_call, pm_cv]
      rw [pm_b _ (x := x) (i := i) (j := k) rfl rfl rfl (by omega)]
      simp only [pl_call, pm_cv]
      rw [pm_b _ (x := x) (i := k) (j := j) rfl rfl rfl (by omega)]
      simp only [pl_call]
      rw [hrd _ i j (by omega) (by omega), hrd _ i k (by omega) (by omega), hrd _ k j (by omega) (by omega)]
      have b1 := hB i hi k hk
      have b2 := hB k hk j hj
      rw [pm_both _ ⟨by omega, by omega⟩ ⟨by omega, by omega⟩, pl_call]
      have hM : M i j = if i = k ∨ j = k then -pm_T X (x + 8) i j else pm_T X (x + 8) i j + mu_both (pm_T X (x + 8) i k) (pm_T X (x + 8) k j) := by rw [← hMe]; rfl
      by_cases h1 : i = k
      · rw [if_pos (by omega), ← hlay, hM, if_pos (Or.inl h1)]
      · rw [if_neg (by omega)]
        by_cases h2 : j = k
        · rw [if_pos (by omega), ← hlay, hM, if_pos (Or.inr h2)]
        · rw [if_neg (by omega), ← hlay, hM, if_neg (by omega)]
    · show fb_MD_turned_18 (f_MD_turned_6 fu) (f_MD_turned_18 (f_MD_turned_6 fu) gu) _ 0 _ _ _ _ _ _ = _
      unfold fb_MD_turned_18
      rw [pm_get (by decide) rfl, hn', pl_gi (by omega) (by omega), if_neg (by omega), pm_wr_cg (Q := mu_to n (i + 1) 0) (fun r c hr hc => by omega), mu_fl_iff mu_fi_row]
      rfl
  · show fb_MD_turned_6 (f_MD_turned_6 fu) _ 0 _ _ _ _ _ = _
    unfold fb_MD_turned_6
    rw [pm_get (by decide) rfl, hn', pl_gi (by omega) (by omega), if_neg (by omega), gq_g_ok mu_fl_i.2, pm_wr_cg (Q := fun i j => i < n ∧ j < n) (fun r c hr hc => by omega), mu_fl_iff mu_fi_all]
