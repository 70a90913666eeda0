/-! a table and its D rows, packed: the table in the digits 0 .. 15, the rows in 16 .. 31 -/
def fk_e (N i m : Nat) : Nat := fk_d N (Nat.add 16 (Nat.add (Nat.mul 4 i) m))
def fk_D (N : Nat) : Nat → Nat → Int := fun i m => (fk_e N i m : Int) - 100
noncomputable def fk_su (c x : Nat → Nat) (n : Nat) : Nat := Nat.rec 0 (fun i ih => Nat.add ih (Nat.mul (c i) (x i))) n
theorem fk_su_gs {B D : Nat → Nat → Int} {k m : Nat} {s : Int} {c e : Nat → Nat} (hc : ∀ i, (c i : Int) = if 0 < s * B i k then s * B i k else 0) (he : ∀ i, (e i : Int) = D i m + 100) : ∀ i, mu_gs B D k s m i = (fk_su c e i : Int) - 100 * (fk_su c (fun _ => 1) i : Int)
  | 0 => rfl
  | i + 1 => by
    have ih := fk_su_gs hc he i
    have e1 : (fk_su c e (i + 1) : Int) = (fk_su c e i : Int) + (c i : Int) * (e i : Int) := by
      show ((fk_su c e i + c i * e i : Nat) : Int) = _
      rw [Int.natCast_add, Int.natCast_mul]
    have e2 : (fk_su c (fun _ => 1) (i + 1) : Int) = (fk_su c (fun _ => 1) i : Int) + (c i : Int) := by
      show ((fk_su c (fun _ => 1) i + c i * 1 : Nat) : Int) = _
      rw [Int.natCast_add, Nat.mul_one]
    simp only [mu_gs]
    rw [ih, e1, e2, he i, hc i]
    by_cases h : 0 < s * B i k
    · rw [if_pos h, if_pos h, Int.mul_add]
      omega
    · rw [if_neg h, if_neg h, Int.zero_mul]
      omega
noncomputable def fk_td (n N k m : Nat) : Nat :=
  fk_f (fk_su (fun i => Nat.sub (fk_b N i k) 100) (fun i => fk_e N i m) n) (fun P =>
  fk_f (fk_su (fun i => Nat.sub (fk_b N i k) 100) (fun _ => 1) n) (fun p =>
  fk_f (fk_su (fun i => Nat.sub 100 (fk_b N i k)) (fun i => fk_e N i m) n) (fun Q =>
  fk_f (fk_su (fun i => Nat.sub 100 (fk_b N i k)) (fun _ => 1) n) (fun q =>
    Nat.sub (Nat.add (cond (Nat.ble (Nat.add P (Nat.mul 100 q)) (Nat.add Q (Nat.mul 100 p))) (Nat.add Q (Nat.mul 100 p)) (Nat.add P (Nat.mul 100 q))) 200) (Nat.add (Nat.mul 100 (Nat.add p q)) (fk_e N k m))))))
noncomputable def fk_mq (n N k q : Nat) : Nat := cond (Nat.ble q 15) (fk_tb N k q) (cond (Nat.beq (Nat.div (Nat.sub q 16) 4) k) (fk_td n N k (Nat.mod q 4)) (fk_d N q))
noncomputable def fk_ms (n N k : Nat) : Nat := fk_p (fk_mq n N k) 32
/-- the first n numbers of a row as one -/
noncomputable def fk_rc (n N i : Nat) : Nat := Nat.rec 0 (fun m ih => Nat.add (Nat.mul ih 256) (fk_e N i m)) n
noncomputable def fk_ok (n N : Nat) : Bool := fk_al 16 (fun q => Nat.ble 97 (fk_d N q) && Nat.ble (fk_d N q) 103) && (fk_al 16 (fun q => Nat.ble 95 (fk_d N (Nat.add 16 q)) && Nat.ble (fk_d N (Nat.add 16 q)) 105) && (fk_mi n N && fk_al n (fun i => fk_al i (fun j => !Nat.beq (fk_rc n N i) (fk_rc n N j)))))
theorem fk_ok_b {n N : Nat} (h : fk_ok n N = true) {i j : Nat} (hi : i < 4) (hj : j < 4) : 97 ≤ fk_b N i j ∧ fk_b N i j ≤ 103 := by
  unfold fk_ok at h
  rw [Bool.and_eq_true] at h
  have h1 := (fk_al_iff 16).mp h.1 (4 * i + j) (by omega)
  rw [Bool.and_eq_true] at h1
  exact ⟨Nat.le_of_ble_eq_true h1.1, Nat.le_of_ble_eq_true h1.2⟩
theorem fk_ok_bd {n N : Nat} (h : fk_ok n N = true) : fk_bd N = true := by
  refine (fk_al_iff 16).mpr fun q hq => ?_
  have h1 := fk_ok_b h (i := q / 4) (j := q % 4) (by omega) (by omega)
  have e : fk_b N (q / 4) (q % 4) = fk_d N q := by
    show fk_d N (4 * (q / 4) + q % 4) = fk_d N q
    rw [show 4 * (q / 4) + q % 4 = q by omega]
  rw [e] at h1
  rw [Bool.and_eq_true]
  exact ⟨Nat.ble_eq_true_of_le (by omega), Nat.ble_eq_true_of_le (by omega)⟩
theorem fk_ok_e {n N : Nat} (h : fk_ok n N = true) {i m : Nat} (hi : i < 4) (hm : m < 4) : 95 ≤ fk_e N i m ∧ fk_e N i m ≤ 105 := by
  unfold fk_ok at h
  rw [Bool.and_eq_true, Bool.and_eq_true] at h
  have h1 := (fk_al_iff 16).mp h.2.1 (4 * i + m) (by omega)
  rw [Bool.and_eq_true] at h1
  exact ⟨Nat.le_of_ble_eq_true h1.1, Nat.le_of_ble_eq_true h1.2⟩
theorem fk_ok_mi {n N : Nat} (h : fk_ok n N = true) : fk_mi n N = true := by
  unfold fk_ok at h
  rw [Bool.and_eq_true, Bool.and_eq_true, Bool.and_eq_true] at h
  exact h.2.2.1
/-- no two like rows -/
theorem fk_rc_cg {N i j : Nat} : ∀ n : Nat, (∀ m, m < n → fk_e N i m = fk_e N j m) → fk_rc n N i = fk_rc n N j
  | 0, _ => rfl
  | n + 1, h => by
    show fk_rc n N i * 256 + fk_e N i n = fk_rc n N j * 256 + fk_e N j n
    rw [fk_rc_cg n fun m hm => h m (by omega), h n (by omega)]
theorem fk_ok_un {n N : Nat} (h : fk_ok n N = true) {i j : Nat} (hi : i < n) (hj : j < i) : ¬ ∀ m, m < n → fk_D N i m = fk_D N j m := by
  intro he
  unfold fk_ok at h
  rw [Bool.and_eq_true, Bool.and_eq_true, Bool.and_eq_true] at h
  have h1 := (fk_al_iff i).mp ((fk_al_iff n).mp h.2.2.2 i hi) j hj
  have e : ∀ m, m < n → fk_e N i m = fk_e N j m := fun m hm => by
    have := he m hm
    unfold fk_D at this
    omega
  rw [fk_rc_cg n e] at h1
  simp at h1
theorem fk_gs15 {n N k m : Nat} {s : Int} (h : fk_ok n N = true) (hs : s = 1 ∨ s = -1) (hk : k < 4) (hm : m < 4) : ∀ i : Nat, i ≤ 4 → -(15 * (i : Int)) ≤ mu_gs (fk_T N) (fk_D N) k s m i ∧ mu_gs (fk_T N) (fk_D N) k s m i ≤ 15 * (i : Int)
  | 0, _ => by simp [mu_gs]
  | i + 1, hi => by
    have ih := fk_gs15 h hs hk hm i (by omega)
    have b1 := fk_ok_b h (i := i) (j := k) (by omega) hk
    have d1 := fk_ok_e h (i := i) (m := m) (by omega) hm
    have b2 : -3 ≤ fk_T N i k ∧ fk_T N i k ≤ 3 := by unfold fk_T; omega
    have d2 : -5 ≤ fk_D N i m ∧ fk_D N i m ≤ 5 := by unfold fk_D; omega
    have p := mu_mul (x := s * fk_T N i k) (y := fk_D N i m) 3 5 (by rcases hs with e | e <;> subst e <;> omega) (by rcases hs with e | e <;> subst e <;> omega) (by omega) (by omega)
    simp only [mu_gs]
    split <;> omega
theorem fk_td_ok {n N k m : Nat} (hn4 : n ≤ 4) (h : fk_ok n N = true) (hk : k < 4) (hm : m < 4) : fk_td n N k m < 256 ∧ (fk_td n N k m : Int) = mu_D n (fk_T N) (fk_D N) k k m + 100 := by
  have g1 := fk_su_gs (B := fk_T N) (D := fk_D N) (k := k) (m := m) (s := 1) (c := fun i => Nat.sub (fk_b N i k) 100) (e := fun i => fk_e N i m) (fun i => by
    show ((fk_b N i k - 100 : Nat) : Int) = if 0 < 1 * ((fk_b N i k : Int) - 100) then 1 * ((fk_b N i k : Int) - 100) else 0
    split <;> omega) (fun i => by unfold fk_D; omega) n
  have g2 := fk_su_gs (B := fk_T N) (D := fk_D N) (k := k) (m := m) (s := -1) (c := fun i => Nat.sub 100 (fk_b N i k)) (e := fun i => fk_e N i m) (fun i => by
    show ((100 - fk_b N i k : Nat) : Int) = if 0 < -1 * ((fk_b N i k : Int) - 100) then -1 * ((fk_b N i k : Int) - 100) else 0
    split <;> omega) (fun i => by unfold fk_D; omega) n
  have l1 := fk_gs15 h (Or.inl rfl) hk hm n hn4
  have l2 := fk_gs15 h (Or.inr rfl) hk hm n hn4
  have d1 := fk_ok_e h (i := k) (m := m) hk hm
  rw [mu_D_at]
  have dk : fk_D N k m = (fk_e N k m : Int) - 100 := rfl
  unfold fk_td
  simp only [fk_f_eq]
  generalize fk_su (fun i => Nat.sub (fk_b N i k) 100) (fun i => fk_e N i m) n = P at g1 ⊢
  generalize fk_su (fun i => Nat.sub (fk_b N i k) 100) (fun _ => 1) n = p at g1 ⊢
  generalize fk_su (fun i => Nat.sub 100 (fk_b N i k)) (fun i => fk_e N i m) n = Q at g2 ⊢
  generalize fk_su (fun i => Nat.sub 100 (fk_b N i k)) (fun _ => 1) n = q at g2 ⊢
  generalize mu_gs (fk_T N) (fk_D N) k 1 m n = x at g1 l1 ⊢
  generalize mu_gs (fk_T N) (fk_D N) k (-1) m n = y at g2 l2 ⊢
  rw [dk]
  generalize fk_e N k m = d at d1 ⊢
  show (cond (Nat.ble (P + 100 * q) (Q + 100 * p)) (Q + 100 * p) (P + 100 * q) + 200 - (100 * (p + q) + d) < 256) ∧ _ = _
  by_cases c : P + 100 * q ≤ Q + 100 * p
  · have e : cond (Nat.ble (P + 100 * q) (Q + 100 * p)) (Q + 100 * p) (P + 100 * q) = Q + 100 * p := by rw [Nat.ble_eq_true_of_le c]; rfl
    have e' : Nat.sub (Nat.add (cond (Nat.ble (Nat.add P (Nat.mul 100 q)) (Nat.add Q (Nat.mul 100 p))) (Nat.add Q (Nat.mul 100 p)) (Nat.add P (Nat.mul 100 q))) 200) (Nat.add (Nat.mul 100 (Nat.add p q)) d) = Q + 100 * p + 200 - (100 * (p + q) + d) := congrArg (fun z => z + 200 - (100 * (p + q) + d)) e
    rw [e, e', if_neg (by omega)]
    omega
  · have e : cond (Nat.ble (P + 100 * q) (Q + 100 * p)) (Q + 100 * p) (P + 100 * q) = P + 100 * q := by
      rw [show Nat.ble (P + 100 * q) (Q + 100 * p) = false by rw [← Bool.not_eq_true]; exact fun z => c (Nat.le_of_ble_eq_true z)]
      rfl
    have e' : Nat.sub (Nat.add (cond (Nat.ble (Nat.add P (Nat.mul 100 q)) (Nat.add Q (Nat.mul 100 p))) (Nat.add Q (Nat.mul 100 p)) (Nat.add P (Nat.mul 100 q))) 200) (Nat.add (Nat.mul 100 (Nat.add p q)) d) = P + 100 * q + 200 - (100 * (p + q) + d) := congrArg (fun z => z + 200 - (100 * (p + q) + d)) e
    rw [e, e', if_pos (by omega)]
    omega
theorem fk_mq_t {n N k q : Nat} (hq : q < 16) : fk_mq n N k q = fk_tb N k q := by
  unfold fk_mq
  rw [Nat.ble_eq_true_of_le (show q ≤ 15 by omega)]
  rfl
theorem fk_mq_d {n N k i m : Nat} (hm : m < 4) : fk_mq n N k (16 + (4 * i + m)) = if i = k then fk_td n N k m else fk_e N i m := by
  unfold fk_mq
  rw [show Nat.ble (16 + (4 * i + m)) 15 = false by rw [← Bool.not_eq_true]; exact fun z => absurd (Nat.le_of_ble_eq_true z) (by omega)]
  show cond (Nat.beq ((16 + (4 * i + m) - 16) / 4) k) (fk_td n N k ((16 + (4 * i + m)) % 4)) (fk_d N (16 + (4 * i + m))) = _
  rw [show (16 + (4 * i + m) - 16) / 4 = i by omega, show (16 + (4 * i + m)) % 4 = m by omega]
  by_cases c : i = k
  · subst c
    rw [if_pos rfl, show Nat.beq i i = true from Nat.beq_refl i]
    rfl
  · rw [if_neg c, show Nat.beq i k = false by rw [← Bool.not_eq_true]; exact fun z => c (Nat.eq_of_beq_eq_true z)]
    rfl
theorem fk_mq_lt {n N k q : Nat} (hn4 : n ≤ 4) (h : fk_ok n N = true) (hk : k < 4) (hq : q < 32) : fk_mq n N k q < 256 := by
  by_cases c : q < 16
  · rw [fk_mq_t c]
    exact (fk_tb_ok (fk_ok_bd h) hk c).1
  · rw [show q = 16 + (4 * ((q - 16) / 4) + q % 4) by omega, fk_mq_d (by omega)]
    split
    · exact (fk_td_ok hn4 h hk (by omega)).1
    · exact fk_d_lt _ _
theorem fk_ms_T {n N k i j : Nat} (hn4 : n ≤ 4) (h : fk_ok n N = true) (hk : k < 4) (hi : i < 4) (hj : j < 4) : fk_T (fk_ms n N k) i j = mu_B (fk_T N) k i j := by
  have e : fk_b (fk_ms n N k) i j = fk_tb N k (4 * i + j) := by
    show fk_d (fk_p (fk_mq n N k) 32) (4 * i + j) = _
    rw [fk_d_p 32 (4 * i + j) (fun c hc => fk_mq_lt hn4 h hk (by omega)) (by omega), fk_mq_t (by omega)]
  have e2 := (fk_tb_ok (q := 4 * i + j) (fk_ok_bd h) hk (by omega)).2
  rw [show (4 * i + j) / 4 = i by omega, show (4 * i + j) % 4 = j by omega] at e2
  show (fk_b (fk_ms n N k) i j : Int) - 100 = _
  rw [e, e2]
  omega
theorem fk_ms_D {n N k i m : Nat} (hn4 : n ≤ 4) (h : fk_ok n N = true) (hk : k < 4) (hi : i < 4) (hm : m < 4) : fk_D (fk_ms n N k) i m = mu_D n (fk_T N) (fk_D N) k i m := by
  have e : fk_e (fk_ms n N k) i m = if i = k then fk_td n N k m else fk_e N i m := by
    show fk_d (fk_p (fk_mq n N k) 32) (16 + (4 * i + m)) = _
    rw [fk_d_p 32 (16 + (4 * i + m)) (fun c hc => fk_mq_lt hn4 h hk (by omega)) (by omega), fk_mq_d hm]
  show (fk_e (fk_ms n N k) i m : Int) - 100 = _
  rw [e]
  by_cases c : i = k
  · subst c
    rw [if_pos rfl, (fk_td_ok hn4 h hi hm).2]
    omega
  · rw [if_neg c, mu_D_ne c]
    rfl
/-! numbered otherwise: a numbering packed by digits of 8 -/
def fk_r (R i : Nat) : Nat := Nat.mod (Nat.div R (Nat.pow 8 i)) 8
noncomputable def fk_pmok (n R : Nat) : Bool := fk_al n (fun i => Nat.blt (fk_r R i) n && fk_al i (fun j => !Nat.beq (fk_r R i) (fk_r R j)))
theorem fk_pmok_ok {n R : Nat} (h : fk_pmok n R = true) : mu_pm n n (fk_r R) := by
  have h1 := (fk_al_iff n).mp h
  refine ⟨fun i hi => ?_, fun i hi j hj e => ?_⟩
  · have h2 := h1 i hi
    rw [Bool.and_eq_true] at h2
    exact Nat.le_of_ble_eq_true h2.1
  · have key : ∀ a b, a < n → b < a → fk_r R a ≠ fk_r R b := by
      intro a b ha hb e
      have h2 := h1 a ha
      rw [Bool.and_eq_true] at h2
      have h3 := (fk_al_iff a).mp h2.2 b hb
      rw [e] at h3
      simp at h3
    rcases Nat.lt_trichotomy i j with c | c | c
    · exact absurd e.symm (key j i hj c)
    · exact c
    · exact absurd e (key i j hi c)
noncomputable def fk_sq (R N q : Nat) : Nat := cond (Nat.ble q 15) (fk_b N (fk_r R (Nat.div q 4)) (fk_r R (Nat.mod q 4))) (fk_e N (fk_r R (Nat.div (Nat.sub q 16) 4)) (Nat.mod q 4))
noncomputable def fk_ss (R N : Nat) : Nat := fk_p (fk_sq R N) 32
theorem fk_sq_lt {R N q : Nat} : fk_sq R N q < 256 := by
  unfold fk_sq
  cases h : Nat.ble q 15
  · exact fk_d_lt _ _
  · exact fk_d_lt _ _
theorem fk_ss_T {R N i j : Nat} (hi : i < 4) (hj : j < 4) : fk_T (fk_ss R N) i j = fk_T N (fk_r R i) (fk_r R j) := by
  have e : fk_b (fk_ss R N) i j = fk_b N (fk_r R i) (fk_r R j) := by
    show fk_d (fk_p (fk_sq R N) 32) (4 * i + j) = _
    rw [fk_d_p 32 (4 * i + j) (fun c hc => fk_sq_lt) (by omega)]
    unfold fk_sq
    rw [Nat.ble_eq_true_of_le (show 4 * i + j ≤ 15 by omega)]
    show fk_b N (fk_r R ((4 * i + j) / 4)) (fk_r R ((4 * i + j) % 4)) = _
    rw [show (4 * i + j) / 4 = i by omega, show (4 * i + j) % 4 = j by omega]
  unfold fk_T
  rw [e]
theorem fk_ss_D {R N i m : Nat} (hi : i < 4) (hm : m < 4) : fk_D (fk_ss R N) i m = fk_D N (fk_r R i) m := by
  have e : fk_e (fk_ss R N) i m = fk_e N (fk_r R i) m := by
    show fk_d (fk_p (fk_sq R N) 32) (16 + (4 * i + m)) = _
    rw [fk_d_p 32 (16 + (4 * i + m)) (fun c hc => fk_sq_lt) (by omega)]
    unfold fk_sq
    rw [show Nat.ble (16 + (4 * i + m)) 15 = false by rw [← Bool.not_eq_true]; exact fun z => absurd (Nat.le_of_ble_eq_true z) (by omega)]
    show fk_e N (fk_r R ((16 + (4 * i + m) - 16) / 4)) ((16 + (4 * i + m)) % 4) = _
    rw [show (16 + (4 * i + m) - 16) / 4 = i by omega, show (16 + (4 * i + m)) % 4 = m by omega]
  unfold fk_D
  rw [e]
