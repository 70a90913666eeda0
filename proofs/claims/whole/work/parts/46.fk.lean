/-! tables and rows packed into one number, digits of 256, each 100 more than what it tells -/
def fk_d (N q : Nat) : Nat := Nat.mod (Nat.div N (Nat.pow 256 q)) 256
noncomputable def fk_p (f : Nat → Nat) (m : Nat) : Nat := Nat.rec 0 (fun q ih => Nat.add ih (Nat.mul (f q) (Nat.pow 256 q))) m
theorem fk_d_lt (N q : Nat) : fk_d N q < 256 := Nat.mod_lt _ (by decide)
theorem fk_p_lt {f : Nat → Nat} : ∀ m : Nat, (∀ c, c < m → f c < 256) → fk_p f m < 256 ^ m
  | 0, _ => by
    show 0 < 256 ^ 0
    decide
  | m + 1, h => by
    have h1 := fk_p_lt m fun c hc => h c (by omega)
    have h2 := h m (by omega)
    show fk_p f m + f m * 256 ^ m < 256 ^ (m + 1)
    have h3 : f m * 256 ^ m ≤ 255 * 256 ^ m := Nat.mul_le_mul_right _ (by omega)
    rw [Nat.pow_succ]
    omega
theorem fk_d_p {f : Nat → Nat} : ∀ (m q : Nat), (∀ c, c < m → f c < 256) → q < m → fk_d (fk_p f m) q = f q
  | 0, _, _, h => absurd h (by omega)
  | m + 1, q, h, hq => by
    show (fk_p f m + f m * 256 ^ m) / 256 ^ q % 256 = f q
    have h1 := fk_p_lt m fun c hc => h c (by omega)
    have h2 := h m (by omega)
    by_cases c : q = m
    · subst c
      rw [Nat.add_mul_div_right _ _ (Nat.pow_pos (by decide)), Nat.div_eq_of_lt h1, Nat.zero_add, Nat.mod_eq_of_lt h2]
    · have ih := fk_d_p m q (fun c hc => h c (by omega)) (by omega)
      have e : f m * 256 ^ m = 256 ^ q * (256 * (f m * 256 ^ (m - q - 1))) := by
        rw [show 256 ^ m = 256 ^ (q + (1 + (m - q - 1))) by rw [show q + (1 + (m - q - 1)) = m by omega], Nat.pow_add, Nat.pow_add, Nat.pow_one]
        ac_rfl
      rw [e, Nat.add_mul_div_left _ _ (Nat.pow_pos (by decide)), Nat.add_mul_mod_self_left]
      exact ih
/-- a number is found first, then gone on with -/
noncomputable def fk_f {β : Type} (n : Nat) (f : Nat → β) : β := Nat.rec (f 0) (fun m _ => f (Nat.succ m)) n
theorem fk_f_eq {β : Type} (n : Nat) (f : Nat → β) : fk_f n f = f n := by cases n <;> rfl
noncomputable def fk_al (n : Nat) (f : Nat → Bool) : Bool := Nat.rec true (fun i ih => ih && f i) n
theorem fk_al_iff {f : Nat → Bool} : ∀ n, fk_al n f = true ↔ ∀ i, i < n → f i = true
  | 0 => ⟨fun _ _ h => absurd h (by omega), fun _ => rfl⟩
  | n + 1 => by
    show (fk_al n f && f n) = true ↔ _
    rw [Bool.and_eq_true, fk_al_iff n]
    exact (mu_all_succ (P := fun i => f i = true)).symm
noncomputable def fk_ex (n : Nat) (f : Nat → Bool) : Bool := Nat.rec false (fun i ih => ih || f i) n
theorem fk_ex_spec {f : Nat → Bool} : ∀ n, fk_ex n f = true → ∃ i, i < n ∧ f i = true
  | 0, h => by cases h
  | n + 1, h => by
    have h1 : (fk_ex n f || f n) = true := h
    rw [Bool.or_eq_true] at h1
    rcases h1 with h1 | h1
    · obtain ⟨i, hi, e⟩ := fk_ex_spec n h1
      exact ⟨i, by omega, e⟩
    · exact ⟨n, by omega, h1⟩
def fk_b (N i j : Nat) : Nat := fk_d N (Nat.add (Nat.mul 4 i) j)
/-- the table told by a packed number -/
def fk_T (N : Nat) : Nat → Nat → Int := fun i j => (fk_b N i j : Int) - 100
def fk_tb (N k q : Nat) : Nat := cond (Nat.beq (Nat.div q 4) k || Nat.beq (Nat.mod q 4) k) (Nat.sub 200 (fk_d N q))
  (Nat.sub (Nat.add (fk_d N q) (Nat.mul (Nat.sub (fk_b N (Nat.div q 4) k) 100) (Nat.sub (fk_b N k (Nat.mod q 4)) 100))) (Nat.mul (Nat.sub 100 (fk_b N (Nat.div q 4) k)) (Nat.sub 100 (fk_b N k (Nat.mod q 4)))))
noncomputable def fk_mt (N k : Nat) : Nat := fk_p (fk_tb N k) 16
theorem fk_both (b c : Nat) : mu_both ((b : Int) - 100) ((c : Int) - 100) = (((b - 100) * (c - 100) : Nat) : Int) - (((100 - b) * (100 - c) : Nat) : Int) := by
  have z : ∀ x : Nat, (0 : Nat) * x = 0 := Nat.zero_mul
  have z' : ∀ x : Nat, x * (0 : Nat) = 0 := Nat.mul_zero
  unfold mu_both
  by_cases h1 : (0 : Int) < (b : Int) - 100 ∧ (0 : Int) < (c : Int) - 100
  · rw [if_pos h1, show 100 - b = 0 by omega, z, Int.natCast_mul, show ((b - 100 : Nat) : Int) = (b : Int) - 100 by omega, show ((c - 100 : Nat) : Int) = (c : Int) - 100 by omega]
    simp
  · rw [if_neg h1]
    by_cases h2 : (b : Int) - 100 < 0 ∧ (c : Int) - 100 < 0
    · rw [if_pos h2, show b - 100 = 0 by omega, z, Int.natCast_mul, show ((100 - b : Nat) : Int) = -((b : Int) - 100) by omega, show ((100 - c : Nat) : Int) = -((c : Int) - 100) by omega, Int.neg_mul_neg, Int.neg_mul]
      simp
    · rw [if_neg h2]
      by_cases hb : b < 100
      · rw [show b - 100 = 0 by omega, z, show 100 - c = 0 by omega, z']
        rfl
      · by_cases hb2 : b = 100
        · subst hb2
          simp
        · rw [show 100 - b = 0 by omega, z, show c - 100 = 0 by omega, z']
          rfl
/-- digits of a table within 9 -/
noncomputable def fk_bd (N : Nat) : Bool := fk_al 16 (fun q => Nat.ble 91 (fk_d N q) && Nat.ble (fk_d N q) 109)
theorem fk_bd_at {N q : Nat} (h : fk_bd N = true) (hq : q < 16) : 91 ≤ fk_d N q ∧ fk_d N q ≤ 109 := by
  have h1 := (fk_al_iff 16).mp h q hq
  rw [Bool.and_eq_true] at h1
  exact ⟨Nat.le_of_ble_eq_true h1.1, Nat.le_of_ble_eq_true h1.2⟩
theorem fk_prod_le {a b : Nat} (ha : a ≤ 9) (hb : b ≤ 9) : a * b ≤ 81 := Nat.mul_le_mul ha hb
theorem fk_tb_ok {N k q : Nat} (h : fk_bd N = true) (hk : k < 4) (hq : q < 16) : fk_tb N k q < 256 ∧ (fk_tb N k q : Int) = mu_B (fk_T N) k (q / 4) (q % 4) + 100 := by
  have hi : q / 4 < 4 := by omega
  have hj : q % 4 < 4 := Nat.mod_lt _ (by decide)
  have e0 : fk_b N (q / 4) (q % 4) = fk_d N q := by
    show fk_d N (4 * (q / 4) + q % 4) = fk_d N q
    rw [show 4 * (q / 4) + q % 4 = q by omega]
  have b0 := fk_bd_at h hq
  by_cases c : q / 4 = k ∨ q % 4 = k
  · have e : fk_tb N k q = 200 - fk_d N q := by
      unfold fk_tb
      rw [show (Nat.beq (Nat.div q 4) k || Nat.beq (Nat.mod q 4) k) = true by
        rw [Bool.or_eq_true]
        rcases c with c | c
        · exact Or.inl (Nat.beq_eq ▸ c)
        · exact Or.inr (Nat.beq_eq ▸ c)]
      rfl
    rw [e]
    unfold mu_B fk_T
    rw [if_pos c, e0]
    omega
  · have c1 : ¬ q / 4 = k := fun z => c (Or.inl z)
    have c2 : ¬ q % 4 = k := fun z => c (Or.inr z)
    have e : fk_tb N k q = fk_d N q + (fk_b N (q / 4) k - 100) * (fk_b N k (q % 4) - 100) - (100 - fk_b N (q / 4) k) * (100 - fk_b N k (q % 4)) := by
      unfold fk_tb
      rw [show (Nat.beq (Nat.div q 4) k || Nat.beq (Nat.mod q 4) k) = false by
        rw [Bool.or_eq_false_iff]
        exact ⟨by rw [← Bool.not_eq_true]; exact fun z => c1 (Nat.eq_of_beq_eq_true z), by rw [← Bool.not_eq_true]; exact fun z => c2 (Nat.eq_of_beq_eq_true z)⟩]
      rfl
    have b1 : 91 ≤ fk_b N (q / 4) k ∧ fk_b N (q / 4) k ≤ 109 := fk_bd_at (q := 4 * (q / 4) + k) h (by omega)
    have b2 : 91 ≤ fk_b N k (q % 4) ∧ fk_b N k (q % 4) ≤ 109 := fk_bd_at (q := 4 * k + q % 4) h (by omega)
    have p1 := fk_prod_le (a := fk_b N (q / 4) k - 100) (b := fk_b N k (q % 4) - 100) (by omega) (by omega)
    have p2 := fk_prod_le (a := 100 - fk_b N (q / 4) k) (b := 100 - fk_b N k (q % 4)) (by omega) (by omega)
    have e2 := fk_both (fk_b N (q / 4) k) (fk_b N k (q % 4))
    unfold mu_B
    rw [if_neg c, e]
    show _ ∧ _ = (fk_b N (q / 4) (q % 4) : Int) - 100 + mu_both ((fk_b N (q / 4) k : Int) - 100) ((fk_b N k (q % 4) : Int) - 100) + 100
    rw [e2, e0]
    omega
theorem fk_mt_ok {N k i j : Nat} (h : fk_bd N = true) (hk : k < 4) (hi : i < 4) (hj : j < 4) : fk_T (fk_mt N k) i j = mu_B (fk_T N) k i j := by
  have e : fk_b (fk_mt N k) i j = fk_tb N k (4 * i + j) := by
    exact fk_d_p 16 (4 * i + j) (fun c hc => (fk_tb_ok h hk (by omega)).1) (by omega)
  have e2 := (fk_tb_ok (q := 4 * i + j) h hk (by omega)).2
  rw [show (4 * i + j) / 4 = i by omega, show (4 * i + j) % 4 = j by omega] at e2
  unfold fk_T
  rw [e, e2]
  show _ = mu_B (fk_T N) k i j
  omega
/-- how far below nothing the product of two is -/
def fk_pr (b c : Nat) : Nat := Nat.add (Nat.mul (Nat.sub b 100) (Nat.sub 100 c)) (Nat.mul (Nat.sub 100 b) (Nat.sub c 100))
theorem fk_pr_iff (b c : Nat) : ((b : Int) - 100) * ((c : Int) - 100) < -3 ↔ 3 < fk_pr b c := by
  show _ ↔ 3 < (b - 100) * (100 - c) + (100 - b) * (c - 100)
  have z : ∀ x : Nat, (0 : Nat) * x = 0 := Nat.zero_mul
  have z' : ∀ x : Nat, x * (0 : Nat) = 0 := Nat.mul_zero
  have pp : ∀ x y : Nat, (0 : Int) ≤ (x : Int) * (y : Int) := fun x y => by rw [← Int.natCast_mul]; omega
  by_cases hb : b ≤ 100
  · rw [show b - 100 = 0 by omega, z]
    by_cases hc : c ≤ 100
    · rw [show c - 100 = 0 by omega, z', show (b : Int) - 100 = -((100 - b : Nat) : Int) by omega, show (c : Int) - 100 = -((100 - c : Nat) : Int) by omega, Int.neg_mul_neg]
      have := pp (100 - b) (100 - c)
      omega
    · rw [show (b : Int) - 100 = -((100 - b : Nat) : Int) by omega, show (c : Int) - 100 = ((c - 100 : Nat) : Int) by omega, Int.neg_mul, ← Int.natCast_mul]
      omega
  · rw [show 100 - b = 0 by omega, z]
    by_cases hc : c ≤ 100
    · rw [show (b : Int) - 100 = ((b - 100 : Nat) : Int) by omega, show (c : Int) - 100 = -((100 - c : Nat) : Int) by omega, Int.mul_neg, ← Int.natCast_mul]
      omega
    · rw [show 100 - c = 0 by omega, z', show (b : Int) - 100 = ((b - 100 : Nat) : Int) by omega, show (c : Int) - 100 = ((c - 100 : Nat) : Int) by omega]
      have := pp (b - 100) (c - 100)
      omega
noncomputable def fk_mi (n N : Nat) : Bool := fk_al n (fun i => fk_al i (fun j => Nat.ble (fk_pr (fk_b N i j) (fk_b N j i)) 3))
theorem fk_mi_no {n N : Nat} (h : fk_mi n N = false) : ∃ i j, i < n ∧ j < n ∧ fk_T N i j * fk_T N j i < -3 := by
  apply Classical.byContradiction
  intro hn
  have : fk_mi n N = true := (fk_al_iff n).mpr fun i hi => (fk_al_iff i).mpr fun j hj => by
    apply Nat.ble_eq_true_of_le
    have h1 : ¬ fk_T N i j * fk_T N j i < -3 := fun z => hn ⟨i, j, hi, by omega, z⟩
    have h2 := (not_congr (fk_pr_iff (fk_b N i j) (fk_b N j i))).mp h1
    omega
  rw [this] at h
  cases h
theorem fk_mi_yes {n N : Nat} (h : fk_mi n N = true) {i j : Nat} (hi : i < n) (hj : j < i) : ¬ fk_T N i j * fk_T N j i < -3 := by
  have h1 := Nat.le_of_ble_eq_true ((fk_al_iff i).mp ((fk_al_iff n).mp h i hi) j hj)
  exact (not_congr (fk_pr_iff (fk_b N i j) (fk_b N j i))).mpr (by omega)
noncomputable def fk_bad (n d : Nat) : Nat → Bool := Nat.rec (fun N => !fk_mi n N) (fun _ ih N => !fk_mi n N || (fk_bd N && fk_ex n (fun k => fk_f (fk_mt N k) ih))) d
theorem fk_bad_ok {n : Nat} (hn4 : n ≤ 4) : ∀ (d N : Nat), fk_bad n d N = true → mu_bad n (fk_T N)
  | 0, N, h => by
    have h1 : (!fk_mi n N) = true := h
    obtain ⟨i, j, hi, hj, e⟩ := fk_mi_no (n := n) (N := N) (by simpa using h1)
    exact ⟨[], fun _ hk => absurd hk List.not_mem_nil, i, j, hi, hj, e⟩
  | d + 1, N, h => by
    have h1 : (!fk_mi n N || (fk_bd N && fk_ex n (fun k => fk_f (fk_mt N k) (fk_bad n d)))) = true := h
    rw [Bool.or_eq_true, Bool.and_eq_true] at h1
    rcases h1 with h1 | ⟨h1, h2⟩
    · obtain ⟨i, j, hi, hj, e⟩ := fk_mi_no (n := n) (N := N) (by simpa using h1)
      exact ⟨[], fun _ hk => absurd hk List.not_mem_nil, i, j, hi, hj, e⟩
    · obtain ⟨k, hk, e⟩ := fk_ex_spec n h2
      rw [fk_f_eq] at e
      have h3 := fk_bad_ok hn4 d _ e
      exact mu_bad_go hk (mu_bad_q (fun i hi j hj => fk_mt_ok h1 (by omega) (by omega) (by omega)) h3)
