/-! mathematics of an exchange; the reference's rows -/
abbrev mu_in (v : Int) : Prop := -99 ≤ v ∧ v ≤ 99
def mu_both (p q : Int) : Int := if 0 < p ∧ 0 < q then p * q else if p < 0 ∧ q < 0 then -p * q else 0
def mu_B (B : Nat → Nat → Int) (k : Nat) : Nat → Nat → Int := fun i j => if i = k ∨ j = k then -B i j else B i j + mu_both (B i k) (B k j)
def mu_gs (B R : Nat → Nat → Int) (k : Nat) (s : Int) (m : Nat) : Nat → Int
  | 0 => 0
  | i + 1 => mu_gs B R k s m i + (if 0 < s * B i k then s * B i k * R i m else 0)
def mu_D (n : Nat) (B D : Nat → Nat → Int) (k : Nat) : Nat → Nat → Int := fun i m => if i = k then (if mu_gs B D k (-1) m n < mu_gs B D k 1 m n then mu_gs B D k 1 m n else mu_gs B D k (-1) m n) - D k m else D i m
def mu_C (B C : Nat → Nat → Int) (k : Nat) : Nat → Nat → Int := fun j m => if j = k then -C k m else C j m + mu_both (C k m) (B k j)
def mu_up (n : Nat) (C : Nat → Nat → Int) (k : Nat) : Prop := ∃ m, m < n ∧ 0 < C k m
theorem mu_up_dec (n : Nat) (C : Nat → Nat → Int) (k : Nat) : mu_up n C k ∨ ¬ mu_up n C k := Classical.em _
def mu_upb (C : Nat → Nat → Int) (k : Nat) : Nat → Bool
  | 0 => false
  | m + 1 => mu_upb C k m || decide (0 < C k m)
def mu_G (n : Nat) (B C G : Nat → Nat → Int) (k : Nat) : Nat → Nat → Int := fun i m => if i = k then mu_gs B G k (if mu_upb C k n = true then -1 else 1) m n - G k m else G i m
abbrev mu_bd (n : Nat) (M : Nat → Nat → Int) : Prop := ∀ i, i < n → ∀ j, j < n → mu_in (M i j)
theorem mu_mul {x y : Int} (a b : Nat) (h1 : -(a : Int) ≤ x) (h2 : x ≤ (a : Int)) (h3 : -(b : Int) ≤ y) (h4 : y ≤ (b : Int)) : -((a * b : Nat) : Int) ≤ x * y ∧ x * y ≤ ((a * b : Nat) : Int) := by
  have e1 : x.natAbs ≤ a := by omega
  have e2 : y.natAbs ≤ b := by omega
  have e3 : (x * y).natAbs ≤ a * b := by rw [Int.natAbs_mul]; exact Nat.mul_le_mul e1 e2
  omega
theorem mu_both_bd {p q : Int} (hp : mu_in p) (hq : mu_in q) : -9801 ≤ mu_both p q ∧ mu_both p q ≤ 9801 := by
  have h1 := mu_mul (x := p) (y := q) 99 99 (by omega) (by omega) (by omega) (by omega)
  have h2 := mu_mul (x := -p) (y := q) 99 99 (by omega) (by omega) (by omega) (by omega)
  unfold mu_both
  split
  · omega
  · split <;> omega
theorem mu_gs_bd {n : Nat} {B R : Nat → Nat → Int} {k m : Nat} {s : Int} (hs : s = 1 ∨ s = -1) (hB : ∀ i, i < n → mu_in (B i k)) (hR : ∀ i, i < n → mu_in (R i m)) : ∀ i, i ≤ n → -(9801 * (i : Int)) ≤ mu_gs B R k s m i ∧ mu_gs B R k s m i ≤ 9801 * (i : Int) := by
  intro i
  induction i with
  | zero => intro _; simp [mu_gs]
  | succ i ih =>
    intro hi
    have h0 := ih (by omega)
    have hb := hB i (by omega)
    have hsb : -99 ≤ s * B i k ∧ s * B i k ≤ 99 := by rcases hs with e | e <;> subst e <;> omega
    have h1 := mu_mul (x := s * B i k) (y := R i m) 99 99 (by omega) (by omega) (by have := hR i (by omega); omega) (by have := hR i (by omega); omega)
    unfold mu_gs
    split <;> omega
theorem pm_both (h : gx_H) {p q : Int} (hp : gx_i p) (hq : gx_i q) : f_MD_both h p q = some (mu_both p q, h) := by
  unfold f_MD_both fb_MD_both_12 fb_MD_both_27 mu_both
  simp only [gq_g_ok hp, gq_g_ok hq]
  by_cases h1 : 0 < p <;> by_cases h2 : 0 < q <;> by_cases h3 : p < 0 <;> by_cases h4 : q < 0 <;> simp [h1, h2, h3, h4]
/-- sixteen numbers of the row w, from a on -/
def pm_T (X : Nat → Nat → Int) (a : Nat) : Nat → Nat → Int := fun i j => X 1 (a + 4 * i + j)
theorem pm_gathered (X : Nat → Nat → Int) {n x k R m : Nat} {a b s c d : Int} (hn : X 0 1 = (n : Int)) (hn4 : n ≤ 4) (ha : a = (x : Int)) (hb : b = (k : Int)) (hc : c = (R : Int)) (hd : d = (m : Int)) (hs : s = 1 ∨ s = -1) (hk : k < 4) (hm : m < 4) (hx : x + 80 ≤ 2000) (hR : R + 16 ≤ 80) (hB : ∀ i, i < n → mu_in (pm_T X (x + 8) i k)) (hRb : ∀ i, i < n → mu_in (pm_T X (x + R) i m)) :
    f_MD_gathered (pm_h X) 0 a b s c d = some (mu_gs (pm_T X (x + 8)) (pm_T X (x + R)) k s m n, pm_h X) := by
  subst ha hb hc hd
  unfold f_MD_gathered
  refine pl_loop0 (A := fun fu i => f_MD_gathered_6 fu (pm_h X) 0 (x : Int) (k : Int) s (R : Int) (m : Int) (mu_gs (pm_T X (x + 8)) (pm_T X (x + R)) k s m i) (i : Int)) n (by omega) (fun i hi fu => ?_) (fun fu => ?_)
  · show fb_MD_gathered_6 (f_MD_gathered_6 fu) _ 0 _ _ _ _ _ _ _ = _
    unfold fb_MD_gathered_6 fb_MD_gathered_58
    have hb := hB i hi
    have hsb : -99 ≤ s * pm_T X (x + 8) i k ∧ s * pm_T X (x + 8) i k ≤ 99 := by rcases hs with e | e <;> subst e <;> omega
    rw [pm_get (by decide) rfl, hn, pl_gi (by omega) (by omega), if_pos (by omega), pm_cv, pm_b X (x := x) (i := i) (j := k) rfl rfl rfl (by omega), pl_call]
    show gq_g (gx_i (s * pm_T X (x + 8) i k)) (if 0 < s * pm_T X (x + 8) i k then _ else _) = _
    rw [pl_gi (by omega) (by omega)]
    by_cases h0 : 0 < s * pm_T X (x + 8) i k
    · rw [if_pos h0, pm_gr (t := 1) (by decide) rfl (by decide), pm_ald (o := 1) (i := x + R + 4 * i + m) (by omega) (by show _ < 2000; omega)]
      simp only [mu_gs, if_pos h0]
      rfl
    · rw [if_neg h0]
      simp only [mu_gs, if_neg h0]
      rfl
  · show fb_MD_gathered_6 (f_MD_gathered_6 fu) _ 0 _ _ _ _ _ _ _ = _
    unfold fb_MD_gathered_6
    rw [pm_get (by decide) rfl, hn, pl_gi (by omega) (by omega), if_neg (by omega)]
/-- numbers of a block of sixteen, where P says so, written -/
def pm_wr (f : Nat → Int) (a : Nat) (P : Nat → Nat → Prop) [∀ i j, Decidable (P i j)] (M : Nat → Nat → Int) : Nat → Int := fun q => if a ≤ q ∧ q < a + 16 ∧ P ((q - a) / 4) ((q - a) % 4) then M ((q - a) / 4) ((q - a) % 4) else f q
theorem pm_lay (X : Nat → Nat → Int) {i : Nat} {a v : Int} (ha : a = (i : Int)) (hi : i < 2000) (hv : gx_i v) : f_MD_lay (pm_h X) 0 a v = some (if mu_in v then 1 else 0, pm_h (gx_up X 1 i v)) := by
  unfold f_MD_lay
  rw [pm_gr (t := 1) (by decide) rfl (by decide), pm_ast (o := 1) (i := i) hv ha hi, pm_in _ hv (by decide) (by decide), pl_call, gq_g_ok (by split <;> simp)]
/-- a flag that is cleared by what lies outside -/
def mu_fl (P : Prop) [Decidable P] : Int := if P then 1 else 0
theorem mu_fl_i {P : Prop} [Decidable P] : gx_i (mu_fl P) ∧ (mu_fl P = 0 ∨ mu_fl P = 1) := by
  unfold mu_fl
  by_cases h : P
  · rw [if_pos h]; exact ⟨by decide, Or.inr rfl⟩
  · rw [if_neg h]; exact ⟨by decide, Or.inl rfl⟩
theorem mu_fl_iff {P Q : Prop} [Decidable P] [Decidable Q] (h : P ↔ Q) : mu_fl P = mu_fl Q := by
  unfold mu_fl
  by_cases hp : P
  · rw [if_pos hp, if_pos (h.mp hp)]
  · rw [if_neg hp, if_neg (fun z => hp (h.mpr z))]
theorem mu_fl_and {β : Type} {P Q : Prop} [Decidable P] [Decidable Q] {A B : Option β} : (gq_g (gx_i (if P then 1 else 0)) (if (if P then (1 : Int) else 0) = 0 then A else gq_g (gx_i (mu_fl Q)) (if mu_fl Q = 0 then A else B))) = if Q ∧ P then B else A := by
  rw [gq_g_ok (show gx_i (if P then 1 else 0) by split <;> decide), gq_g_ok mu_fl_i.1]
  unfold mu_fl
  by_cases hp : P
  · by_cases hq : Q
    · simp [hp, hq]
    · simp [hp, hq]
  · simp [hp]
theorem mu_all_succ {P : Nat → Prop} {j : Nat} : (∀ c, c < j + 1 → P c) ↔ (∀ c, c < j → P c) ∧ P j :=
  ⟨fun h => ⟨fun c hc => h c (by omega), h j (by omega)⟩, fun h c hc => by
    by_cases e : c = j
    · subst e; exact h.2
    · exact h.1 c (by omega)⟩
