/-! letters numbered otherwise -/
abbrev mu_pm (n n' : Nat) (s : Nat → Nat) : Prop := (∀ i, i < n → s i < n') ∧ ∀ i, i < n → ∀ j, j < n → s i = s j → i = j
/-- sums -/
def mu_sm (f : Nat → Int) : Nat → Int
  | 0 => 0
  | i + 1 => mu_sm f i + f i
theorem mu_gs_sm {B R : Nat → Nat → Int} {k m : Nat} {s : Int} : ∀ i, mu_gs B R k s m i = mu_sm (fun r => if 0 < s * B r k then s * B r k * R r m else 0) i
  | 0 => rfl
  | i + 1 => by
    simp only [mu_gs, mu_sm]
    rw [mu_gs_sm i]
theorem mu_sm_cg {f g : Nat → Int} : ∀ {n : Nat}, (∀ i, i < n → f i = g i) → mu_sm f n = mu_sm g n
  | 0, _ => rfl
  | n + 1, h => by
    simp only [mu_sm]
    rw [mu_sm_cg (n := n) (fun i hi => h i (by omega)), h n (by omega)]
theorem mu_s2 (f : Nat → Int) {a b : Nat} (ha : a < 2) (hb : b < 2) (hab : a ≠ b) : f a + f b = f 0 + f 1 := by
  rcases (show a = 0 ∨ a = 1 by omega) with e | e <;> subst e <;> rcases (show b = 0 ∨ b = 1 by omega) with e | e <;> subst e <;> omega
theorem mu_s3 (f : Nat → Int) {a b c : Nat} (ha : a < 3) (hb : b < 3) (hc : c < 3) (hab : a ≠ b) (hac : a ≠ c) (hbc : b ≠ c) : f a + f b + f c = f 0 + f 1 + f 2 := by
  rcases (show a = 0 ∨ a = 1 ∨ a = 2 by omega) with e | e | e <;> subst e <;> rcases (show b = 0 ∨ b = 1 ∨ b = 2 by omega) with e | e | e <;> subst e <;> rcases (show c = 0 ∨ c = 1 ∨ c = 2 by omega) with e | e | e <;> subst e <;> omega
theorem mu_s4 (f : Nat → Int) {a b c d : Nat} (ha : a < 4) (hb : b < 4) (hc : c < 4) (hd : d < 4) (hab : a ≠ b) (hac : a ≠ c) (had : a ≠ d) (hbc : b ≠ c) (hbd : b ≠ d) (hcd : c ≠ d) : f a + f b + f c + f d = f 0 + f 1 + f 2 + f 3 := by
  rcases (show a = 0 ∨ a = 1 ∨ a = 2 ∨ a = 3 by omega) with e | e | e | e <;> subst e <;> rcases (show b = 0 ∨ b = 1 ∨ b = 2 ∨ b = 3 by omega) with e | e | e | e <;> subst e <;> first | omega | skip
  all_goals rcases (show c = 0 ∨ c = 1 ∨ c = 2 ∨ c = 3 by omega) with e | e | e | e <;> subst e <;> first | omega | skip
  all_goals rcases (show d = 0 ∨ d = 1 ∨ d = 2 ∨ d = 3 by omega) with e | e | e | e <;> subst e <;> omega
theorem mu_sm_pm {n : Nat} {s : Nat → Nat} (f : Nat → Int) (hn2 : 2 ≤ n) (hn4 : n ≤ 4) (h : mu_pm n n s) : mu_sm (fun i => f (s i)) n = mu_sm f n := by
  have ne : ∀ i j, i < n → j < n → i ≠ j → s i ≠ s j := fun i j hi hj hij e => hij (h.2 i hi j hj e)
  rcases (show n = 2 ∨ n = 3 ∨ n = 4 by omega) with e | e | e <;> subst e
  · have := mu_s2 f (h.1 0 (by omega)) (h.1 1 (by omega)) (ne 0 1 (by omega) (by omega) (by omega))
    simp only [mu_sm]
    omega
  · have := mu_s3 f (h.1 0 (by omega)) (h.1 1 (by omega)) (h.1 2 (by omega)) (ne 0 1 (by omega) (by omega) (by omega)) (ne 0 2 (by omega) (by omega) (by omega)) (ne 1 2 (by omega) (by omega) (by omega))
    simp only [mu_sm]
    omega
  · have := mu_s4 f (h.1 0 (by omega)) (h.1 1 (by omega)) (h.1 2 (by omega)) (h.1 3 (by omega)) (ne 0 1 (by omega) (by omega) (by omega)) (ne 0 2 (by omega) (by omega) (by omega)) (ne 0 3 (by omega) (by omega) (by omega)) (ne 1 2 (by omega) (by omega) (by omega)) (ne 1 3 (by omega) (by omega) (by omega)) (ne 2 3 (by omega) (by omega) (by omega))
    simp only [mu_sm]
    omega
/-- B' is B, letters numbered by s (some of them, perhaps) -/
def mu_tn (n : Nat) (s : Nat → Nat) (B B' : Nat → Nat → Int) : Prop := ∀ i, i < n → ∀ j, j < n → B' i j = B (s i) (s j)
theorem mu_tn_B {n n' k : Nat} {s : Nat → Nat} {B B' : Nat → Nat → Int} (hs : mu_pm n n' s) (h : mu_tn n s B B') (hk : k < n) : mu_tn n s (mu_B B (s k)) (mu_B B' k) := by
  intro i hi j hj
  by_cases ci : i = k
  · subst ci
    rw [mu_B_l, mu_B_l, h i hi j hj]
  · by_cases cj : j = k
    · subst cj
      rw [mu_B_r, mu_B_r, h i hi j hj]
    · rw [mu_B_at ci cj, mu_B_at (fun e => ci (hs.2 i hi k hk e)) (fun e => cj (hs.2 j hj k hk e)), h i hi j hj, h i hi k hk, h k hk j hj]
/-- D' is D, letters numbered by s, numbers of a row by t -/
def mu_dn (n : Nat) (s t : Nat → Nat) (D D' : Nat → Nat → Int) : Prop := ∀ i, i < n → ∀ m, m < n → D' i m = D (s i) (t m)
theorem mu_dn_gs {n k m : Nat} {s t : Nat → Nat} {B B' D D' : Nat → Nat → Int} {sg : Int} (hn2 : 2 ≤ n) (hn4 : n ≤ 4) (hs : mu_pm n n s) (h : mu_tn n s B B') (hD : mu_dn n s t D D') (hk : k < n) (hm : m < n) : mu_gs B' D' k sg m n = mu_gs B D (s k) sg (t m) n := by
  rw [mu_gs_sm, mu_gs_sm]
  rw [← mu_sm_pm (fun r => if 0 < sg * B r (s k) then sg * B r (s k) * D r (t m) else 0) hn2 hn4 hs]
  refine mu_sm_cg fun i hi => ?_
  show _ = if 0 < sg * B (s i) (s k) then sg * B (s i) (s k) * D (s i) (t m) else 0
  rw [h i hi k hk, hD i hi m hm]
theorem mu_dn_D {n k : Nat} {s t : Nat → Nat} {B B' D D' : Nat → Nat → Int} (hn2 : 2 ≤ n) (hn4 : n ≤ 4) (hs : mu_pm n n s) (h : mu_tn n s B B') (hD : mu_dn n s t D D') (hk : k < n) : mu_dn n s t (mu_D n B D (s k)) (mu_D n B' D' k) := by
  intro i hi m hm
  by_cases ci : i = k
  · subst ci
    unfold mu_D
    rw [if_pos rfl, if_pos rfl, mu_dn_gs hn2 hn4 hs h hD hi hm, mu_dn_gs hn2 hn4 hs h hD hi hm, hD i hi m hm]
  · rw [mu_D_ne ci, mu_D_ne (fun e => ci (hs.2 i hi k hk e)), hD i hi m hm]
/-! what is come to -/
def mu_rB : List Nat → (Nat → Nat → Int) → Nat → Nat → Int
  | [], B => B
  | k :: ks, B => mu_rB ks (mu_B B k)
def mu_rD (n : Nat) : List Nat → (Nat → Nat → Int) → (Nat → Nat → Int) → Nat → Nat → Int
  | [], _, D => D
  | k :: ks, B, D => mu_rD n ks (mu_B B k) (mu_D n B D k)
theorem mu_rB_q {n : Nat} : ∀ (ks : List Nat) (B B' : Nat → Nat → Int), (∀ k ∈ ks, k < n) → mu_q n B B' → mu_q n (mu_rB ks B) (mu_rB ks B')
  | [], _, _, _, h => h
  | k :: ks, _, _, hk, h => mu_rB_q ks _ _ (fun x hx => hk x (List.mem_cons_of_mem _ hx)) (mu_q_B h (hk k List.mem_cons_self))
theorem mu_rD_q {n : Nat} : ∀ (ks : List Nat) (B B' D D' : Nat → Nat → Int), (∀ k ∈ ks, k < n) → mu_q n B B' → mu_q n D D' → mu_q n (mu_rD n ks B D) (mu_rD n ks B' D')
  | [], _, _, _, _, _, _, h => h
  | k :: ks, _, _, _, _, hk, h, hD => mu_rD_q ks _ _ _ _ (fun x hx => hk x (List.mem_cons_of_mem _ hx)) (mu_q_B h (hk k List.mem_cons_self)) (mu_q_D h hD (hk k List.mem_cons_self))
theorem mu_rB_app : ∀ (ks ls : List Nat) (B : Nat → Nat → Int), mu_rB (ks ++ ls) B = mu_rB ls (mu_rB ks B)
  | [], _, _ => rfl
  | _ :: ks, ls, _ => mu_rB_app ks ls _
theorem mu_rD_app {n : Nat} : ∀ (ks ls : List Nat) (B D : Nat → Nat → Int), mu_rD n (ks ++ ls) B D = mu_rD n ls (mu_rB ks B) (mu_rD n ks B D)
  | [], _, _, _ => rfl
  | _ :: ks, ls, _, _ => mu_rD_app ks ls _ _
theorem mu_rB_rev : ∀ (ks : List Nat) (B : Nat → Nat → Int), mu_rB ks.reverse (mu_rB ks B) = B
  | [], _ => rfl
  | k :: ks, B => by
    show mu_rB (k :: ks).reverse (mu_rB ks (mu_B B k)) = B
    rw [List.reverse_cons, mu_rB_app, mu_rB_rev ks]
    exact mu_B_inv
theorem mu_rB_wt {n : Nat} {w : Nat → Int} (hw : ∀ i, i < n → 1 ≤ w i) : ∀ (ks : List Nat) (B : Nat → Nat → Int), (∀ k ∈ ks, k < n) → (mu_wt n (mu_rB ks B) w ↔ mu_wt n B w)
  | [], _, _ => Iff.rfl
  | k :: ks, _, hk => (mu_rB_wt hw ks _ (fun x hx => hk x (List.mem_cons_of_mem _ hx))).trans (mu_wt_B_iff hw (hk k List.mem_cons_self))
theorem mu_rD_rev {n : Nat} {w : Nat → Int} (hw : ∀ i, i < n → 1 ≤ w i) : ∀ (ks : List Nat) (B D : Nat → Nat → Int), (∀ k ∈ ks, k < n) → mu_wt n B w → mu_rD n ks.reverse (mu_rB ks B) (mu_rD n ks B D) = D
  | [], _, _, _, _ => rfl
  | k :: ks, B, D, hk, h => by
    show mu_rD n (k :: ks).reverse (mu_rB ks (mu_B B k)) (mu_rD n ks (mu_B B k) (mu_D n B D k)) = D
    have hk0 := hk k List.mem_cons_self
    rw [List.reverse_cons, mu_rD_app, mu_rB_rev ks, mu_rD_rev hw ks _ _ (fun x hx => hk x (List.mem_cons_of_mem _ hx)) (mu_wt_B hw hk0 h)]
    exact mu_D_inv (mu_wt_dg hw h hk0)
theorem mu_rB_tn {n n' : Nat} {s : Nat → Nat} (hs : mu_pm n n' s) : ∀ (ks : List Nat) (B B' : Nat → Nat → Int), (∀ k ∈ ks, k < n) → mu_tn n s B B' → mu_tn n s (mu_rB (ks.map s) B) (mu_rB ks B')
  | [], _, _, _, h => h
  | k :: ks, _, _, hk, h => mu_rB_tn hs ks _ _ (fun x hx => hk x (List.mem_cons_of_mem _ hx)) (mu_tn_B hs h (hk k List.mem_cons_self))
theorem mu_rD_dn {n : Nat} {s t : Nat → Nat} (hn2 : 2 ≤ n) (hn4 : n ≤ 4) (hs : mu_pm n n s) : ∀ (ks : List Nat) (B B' D D' : Nat → Nat → Int), (∀ k ∈ ks, k < n) → mu_tn n s B B' → mu_dn n s t D D' → mu_dn n s t (mu_rD n (ks.map s) B D) (mu_rD n ks B' D')
  | [], _, _, _, _, _, _, h => h
  | k :: ks, _, _, _, _, hk, h, hD => mu_rD_dn hn2 hn4 hs ks _ _ _ _ (fun x hx => hk x (List.mem_cons_of_mem _ hx)) (mu_tn_B hs h (hk k List.mem_cons_self)) (mu_dn_D hn2 hn4 hs h hD (hk k List.mem_cons_self))
/-- a table that is not mild can be come to -/
def mu_bad (n : Nat) (B : Nat → Nat → Int) : Prop := ∃ ks : List Nat, (∀ k ∈ ks, k < n) ∧ ∃ i j, i < n ∧ j < n ∧ mu_rB ks B i j * mu_rB ks B j i < -3
theorem mu_bad_tn {n n' : Nat} {s : Nat → Nat} {B B' : Nat → Nat → Int} (hs : mu_pm n n' s) (h : mu_tn n s B B') (hb : mu_bad n B') : mu_bad n' B := by
  obtain ⟨ks, hk, i, j, hi, hj, hm⟩ := hb
  have e := mu_rB_tn hs ks B B' hk h
  refine ⟨ks.map s, fun k hk' => ?_, s i, s j, hs.1 i hi, hs.1 j hj, ?_⟩
  · obtain ⟨a, ha, rfl⟩ := List.mem_map.mp hk'
    exact hs.1 a (hk a ha)
  · rw [← e i hi j hj, ← e j hj i hi]
    exact hm
theorem mu_bad_q {n : Nat} {B B' : Nat → Nat → Int} (h : mu_q n B B') (hb : mu_bad n B) : mu_bad n B' :=
  mu_bad_tn (s := fun i => i) ⟨fun _ h => h, fun _ _ _ _ e => e⟩ (fun i hi j hj => h i hi j hj) hb
theorem mu_bad_go {n k : Nat} {B : Nat → Nat → Int} (hk : k < n) (hb : mu_bad n (mu_B B k)) : mu_bad n B := by
  obtain ⟨ks, h1, h2⟩ := hb
  exact ⟨k :: ks, fun x hx => (List.mem_cons.mp hx).elim (fun e => by rw [e]; exact hk) (h1 x), h2⟩
theorem mu_bad_run {n : Nat} : ∀ (ks : List Nat) (B : Nat → Nat → Int), (∀ k ∈ ks, k < n) → mu_bad n (mu_rB ks B) → mu_bad n B
  | [], _, _, h => h
  | k :: ks, _, hk, h => mu_bad_go (hk k List.mem_cons_self) (mu_bad_run ks _ (fun x hx => hk x (List.mem_cons_of_mem _ hx)) h)
theorem mu_bad_back {n : Nat} {ks : List Nat} {B : Nat → Nat → Int} (hk : ∀ k ∈ ks, k < n) (h : mu_bad n B) : mu_bad n (mu_rB ks B) :=
  mu_bad_run ks.reverse _ (fun k h1 => hk k (List.mem_reverse.mp h1)) (by rw [mu_rB_rev]; exact h)
