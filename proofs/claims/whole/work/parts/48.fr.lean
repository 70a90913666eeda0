/-! numberings go back -/
theorem mu_pm_sur {n : Nat} {s : Nat → Nat} (hn2 : 2 ≤ n) (hn4 : n ≤ 4) (h : mu_pm n n s) {j : Nat} (hj : j < n) : ∃ i, i < n ∧ s i = j := by
  apply Classical.byContradiction
  intro hno
  have no : ∀ i, i < n → s i ≠ j := fun i hi e => hno ⟨i, hi, e⟩
  have ne : ∀ i k, i < n → k < n → i ≠ k → s i ≠ s k := fun i k hi hk hik e => hik (h.2 i hi k hk e)
  rcases (show n = 2 ∨ n = 3 ∨ n = 4 by omega) with e | e | e <;> subst e
  · have a0 := h.1 0 (by omega); have a1 := h.1 1 (by omega)
    have n0 := no 0 (by omega); have n1 := no 1 (by omega)
    have e01 := ne 0 1 (by omega) (by omega) (by omega)
    omega
  · have a0 := h.1 0 (by omega); have a1 := h.1 1 (by omega); have a2 := h.1 2 (by omega)
    have n0 := no 0 (by omega); have n1 := no 1 (by omega); have n2 := no 2 (by omega)
    have e01 := ne 0 1 (by omega) (by omega) (by omega); have e02 := ne 0 2 (by omega) (by omega) (by omega); have e12 := ne 1 2 (by omega) (by omega) (by omega)
    omega
  · have a0 := h.1 0 (by omega); have a1 := h.1 1 (by omega); have a2 := h.1 2 (by omega); have a3 := h.1 3 (by omega)
    have n0 := no 0 (by omega); have n1 := no 1 (by omega); have n2 := no 2 (by omega); have n3 := no 3 (by omega)
    have e01 := ne 0 1 (by omega) (by omega) (by omega); have e02 := ne 0 2 (by omega) (by omega) (by omega); have e03 := ne 0 3 (by omega) (by omega) (by omega)
    have e12 := ne 1 2 (by omega) (by omega) (by omega); have e13 := ne 1 3 (by omega) (by omega) (by omega); have e23 := ne 2 3 (by omega) (by omega) (by omega)
    omega
theorem mu_pm_inv {n : Nat} {s : Nat → Nat} (hn2 : 2 ≤ n) (hn4 : n ≤ 4) (h : mu_pm n n s) : ∃ t : Nat → Nat, mu_pm n n t ∧ (∀ i, i < n → s (t i) = i) ∧ ∀ i, i < n → t (s i) = i := by
  have hx : ∀ j, ∃ i, j < n → i < n ∧ s i = j := fun j => by
    by_cases hj : j < n
    · obtain ⟨i, hi⟩ := mu_pm_sur hn2 hn4 h hj
      exact ⟨i, fun _ => hi⟩
    · exact ⟨0, fun z => absurd z hj⟩
  refine ⟨fun j => Classical.choose (hx j), ⟨fun i hi => (Classical.choose_spec (hx i) hi).1, fun i hi j hj e => ?_⟩, fun i hi => (Classical.choose_spec (hx i) hi).2, fun i hi => ?_⟩
  · have e1 := (Classical.choose_spec (hx i) hi).2
    have e2 := (Classical.choose_spec (hx j) hj).2
    have e' : Classical.choose (hx i) = Classical.choose (hx j) := e
    rw [← e1, e', e2]
  · have hsi := h.1 i hi
    exact h.2 _ (Classical.choose_spec (hx (s i)) hsi).1 i hi (Classical.choose_spec (hx (s i)) hsi).2
theorem mu_pm_comp {n : Nat} {s t : Nat → Nat} (hs : mu_pm n n s) (ht : mu_pm n n t) : mu_pm n n (fun i => s (t i)) :=
  ⟨fun i hi => hs.1 _ (ht.1 i hi), fun i hi j hj e => ht.2 i hi j hj (hs.2 _ (ht.1 i hi) _ (ht.1 j hj) e)⟩
/-! the walk over packed states: any list that it ends with is closed -/
noncomputable def fk_ins (c : Nat → Nat) (i : Nat) (l : List Nat) : List Nat := List.rec [i] (fun j l ih => cond (Nat.ble (c j) (c i)) (j :: ih) (i :: j :: l)) l
noncomputable def fk_srt (c : Nat → Nat) (n : Nat) : List Nat := Nat.rec [] (fun i ih => fk_ins c i ih) n
noncomputable def fk_pp (l : List Nat) : Nat := List.rec 0 (fun x _ ih => Nat.add x (Nat.mul 8 ih)) l
noncomputable def fk_R (n N : Nat) : Nat := Nat.add (fk_pp (fk_srt (fk_rc n N) n)) (cond (Nat.beq n 4) 0 (cond (Nat.beq n 3) 1536 1664))
noncomputable def fk_st (n N k : Nat) : Nat := fk_f (fk_ms n N k) (fun M => fk_f (fk_R n M) (fun R => cond (fk_pmok n R) (fk_ss R M) 0))
noncomputable def fk_mem (M : Nat) (l : List Nat) : Bool := List.rec false (fun x _ ih => Nat.beq x M || ih) l
theorem fk_mem_ok {M : Nat} : ∀ {l : List Nat}, fk_mem M l = true → M ∈ l
  | [], h => by cases h
  | x :: l, h => by
    have h1 : (Nat.beq x M || fk_mem M l) = true := h
    rw [Bool.or_eq_true] at h1
    rcases h1 with h1 | h1
    · rw [Nat.eq_of_beq_eq_true h1]
      exact List.mem_cons_self
    · exact List.mem_cons_of_mem _ (fk_mem_ok h1)
noncomputable def fk_go (st : Nat → Nat) (next : List Nat → List Nat → Bool) (k : Nat) : List Nat → List Nat → Bool := Nat.rec next (fun k ih seen td => fk_f (st k) (fun M => cond (fk_mem M seen) (ih seen td) (ih (M :: seen) (M :: td)))) k
noncomputable def fk_run (n : Nat) (ok : Nat → Bool) (st : Nat → Nat → Nat) (f : Nat) : List Nat → List Nat → Bool := Nat.rec (fun _ _ => false) (fun _ ih seen td => List.rec (Nat.ble seen.length 200) (fun N td _ => cond (ok N) (fk_go (st N) ih n seen td) false) td) f
def fk_cl (n : Nat) (ok : Nat → Bool) (st : Nat → Nat → Nat) (L : List Nat) : Prop := ∀ N ∈ L, ok N = true ∧ ∀ k, k < n → st N k ∈ L
def fk_J (n : Nat) (ok : Nat → Bool) (st : Nat → Nat → Nat) (seen td : List Nat) : Prop := (∀ x ∈ td, x ∈ seen) ∧ ∀ x ∈ seen, x ∈ td ∨ (ok x = true ∧ ∀ k, k < n → st x k ∈ seen)
def fk_end (n : Nat) (ok : Nat → Bool) (st : Nat → Nat → Nat) (seen : List Nat) : Prop := ∃ L : List Nat, (∀ x ∈ seen, x ∈ L) ∧ fk_cl n ok st L ∧ L.length ≤ 200
theorem fk_go_ok {n N : Nat} {ok : Nat → Bool} {st : Nat → Nat → Nat} {next : List Nat → List Nat → Bool} (hN : ok N = true) (hnext : ∀ seen td, fk_J n ok st seen td → next seen td = true → fk_end n ok st seen) : ∀ (k : Nat) (seen td : List Nat), k ≤ n → N ∈ seen → (∀ x ∈ td, x ∈ seen) → (∀ k', k ≤ k' → k' < n → st N k' ∈ seen) → (∀ x ∈ seen, x ∈ td ∨ x = N ∨ (ok x = true ∧ ∀ k, k < n → st x k ∈ seen)) → fk_go (st N) next k seen td = true → fk_end n ok st seen
  | 0, seen, td, _, hm, h1, h2, h3, hr => by
    refine hnext seen td ⟨h1, fun x hx => ?_⟩ hr
    rcases h3 x hx with h | h | h
    · exact Or.inl h
    · subst h
      exact Or.inr ⟨hN, fun k hk => h2 k (Nat.zero_le _) hk⟩
    · exact Or.inr h
  | k + 1, seen, td, hk, hm, h1, h2, h3, hr => by
    have hr1 : fk_f (st N k) (fun M => cond (fk_mem M seen) (fk_go (st N) next k seen td) (fk_go (st N) next k (M :: seen) (M :: td))) = true := hr
    rw [fk_f_eq] at hr1
    generalize hM : st N k = M at hr1
    cases hc : fk_mem M seen with
    | true =>
      rw [hc] at hr1
      refine fk_go_ok hN hnext k seen td (by omega) hm h1 (fun k' hk' hk'' => ?_) h3 hr1
      by_cases e : k' = k
      · subst e
        rw [hM]
        exact fk_mem_ok hc
      · exact h2 k' (by omega) hk''
    | false =>
      rw [hc] at hr1
      have h := fk_go_ok hN hnext k (M :: seen) (M :: td) (by omega) (List.mem_cons_of_mem _ hm) (fun x hx => ?_) (fun k' hk' hk'' => ?_) (fun x hx => ?_) hr1
      · obtain ⟨L, a, b, c⟩ := h
        exact ⟨L, fun x hx => a x (List.mem_cons_of_mem _ hx), b, c⟩
      · rcases List.mem_cons.mp hx with e | e
        · rw [e]; exact List.mem_cons_self
        · exact List.mem_cons_of_mem _ (h1 x e)
      · by_cases e : k' = k
        · subst e
          rw [hM]
          exact List.mem_cons_self
        · exact List.mem_cons_of_mem _ (h2 k' (by omega) hk'')
      · rcases List.mem_cons.mp hx with e | e
        · rw [e]; exact Or.inl List.mem_cons_self
        · rcases h3 x e with q | q | q
          · exact Or.inl (List.mem_cons_of_mem _ q)
          · exact Or.inr (Or.inl q)
          · exact Or.inr (Or.inr ⟨q.1, fun k hk => List.mem_cons_of_mem _ (q.2 k hk)⟩)
theorem fk_run_ok {n : Nat} {ok : Nat → Bool} {st : Nat → Nat → Nat} : ∀ (f : Nat) (seen td : List Nat), fk_J n ok st seen td → fk_run n ok st f seen td = true → fk_end n ok st seen
  | 0, _, _, _, h => by cases h
  | f + 1, seen, [], hJ, h => by
    have h1 : Nat.ble seen.length 200 = true := h
    refine ⟨seen, fun _ hx => hx, fun x hx => ?_, Nat.le_of_ble_eq_true h1⟩
    rcases hJ.2 x hx with q | q
    · exact absurd q List.not_mem_nil
    · exact q
  | f + 1, seen, N :: td, hJ, h => by
    have h1 : cond (ok N) (fk_go (st N) (fk_run n ok st f) n seen td) false = true := h
    cases hc : ok N with
    | false => rw [hc] at h1; cases h1
    | true =>
      rw [hc] at h1
      refine fk_go_ok hc (fk_run_ok f) n seen td (Nat.le_refl _) (hJ.1 N List.mem_cons_self) (fun x hx => hJ.1 x (List.mem_cons_of_mem _ hx)) (fun k' a b => absurd b (by omega)) (fun x hx => ?_) h1
      rcases hJ.2 x hx with q | q
      · rcases List.mem_cons.mp q with e | e
        · exact Or.inr (Or.inl e)
        · exact Or.inl e
      · exact Or.inr (Or.inr q)
theorem fk_ok_0 {n : Nat} : fk_ok n 0 = true → False := fun h => by
  have := fk_ok_b h (i := 0) (j := 0) (by decide) (by decide)
  exact absurd this.1 (by decide)
/-- like a state of the list, numbered otherwise -/
def fk_in (n : Nat) (L : List Nat) (B D : Nat → Nat → Int) : Prop := ∃ M ∈ L, ∃ s : Nat → Nat, mu_pm n n s ∧ mu_tn n s (fk_T M) B ∧ mu_dn n s (fun m => m) (fk_D M) D
theorem fk_in_go {n k : Nat} {L : List Nat} {B D : Nat → Nat → Int} (hn2 : 2 ≤ n) (hn4 : n ≤ 4) (hL : fk_cl n (fk_ok n) (fk_st n) L) (hk : k < n) (h : fk_in n L B D) : fk_in n L (mu_B B k) (mu_D n B D k) := by
  obtain ⟨M, hM, s, hs, hT, hD⟩ := h
  have hok := (hL M hM).1
  have hsk := hs.1 k hk
  have hst := (hL M hM).2 (s k) hsk
  have hst' : fk_st n M (s k) = cond (fk_pmok n (fk_R n (fk_ms n M (s k)))) (fk_ss (fk_R n (fk_ms n M (s k))) (fk_ms n M (s k))) 0 := by
    unfold fk_st
    rw [fk_f_eq, fk_f_eq]
  cases hp : fk_pmok n (fk_R n (fk_ms n M (s k))) with
  | false =>
    rw [hp, cond_false] at hst'
    rw [hst'] at hst
    exact (fk_ok_0 (hL 0 hst).1).elim
  | true =>
    rw [hp, cond_true] at hst'
    generalize hR : fk_R n (fk_ms n M (s k)) = R at hp hst'
    have hpm := fk_pmok_ok hp
    obtain ⟨t, ht, t1, t2⟩ := mu_pm_inv hn2 hn4 hpm
    have eB := mu_tn_B hs hT hk
    have eD := mu_dn_D hn2 hn4 hs hT hD hk
    refine ⟨_, hst, fun i => t (s i), mu_pm_comp ht hs, fun i hi j hj => ?_, fun i hi m hm => ?_⟩
    · have a := hs.1 i hi; have b := hs.1 j hj
      have a' := ht.1 _ a; have b' := ht.1 _ b
      have a4 : (fun i => t (s i)) i < 4 := by show t (s i) < 4; omega
      have b4 : (fun i => t (s i)) j < 4 := by show t (s j) < 4; omega
      rw [eB i hi j hj, hst']
      rw [fk_ss_T a4 b4, t1 _ a, t1 _ b, fk_ms_T hn4 hok (by omega) (by omega) (by omega)]
    · have a := hs.1 i hi
      have a' := ht.1 _ a
      have a4 : (fun i => t (s i)) i < 4 := by show t (s i) < 4; omega
      rw [eD i hi m hm, hst']
      rw [fk_ss_D (m := m) a4 (by omega), t1 _ a, fk_ms_D hn4 hok (by omega) (by omega) (by omega)]
theorem fk_in_run {n : Nat} {L : List Nat} (hn2 : 2 ≤ n) (hn4 : n ≤ 4) (hL : fk_cl n (fk_ok n) (fk_st n) L) : ∀ (ks : List Nat) (B D : Nat → Nat → Int), (∀ k ∈ ks, k < n) → fk_in n L B D → fk_in n L (mu_rB ks B) (mu_rD n ks B D)
  | [], _, _, _, h => h
  | k :: ks, _, _, hk, h => fk_in_run hn2 hn4 hL ks _ _ (fun x hx => hk x (List.mem_cons_of_mem _ hx)) (fk_in_go hn2 hn4 hL (hk k List.mem_cons_self) h)
