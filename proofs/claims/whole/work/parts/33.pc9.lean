/-! the component's scales: the least weights -/
abbrev mu_ft (B : Nat → Nat → Int) (w : Nat → Int) (i : Nat) : Prop := ∀ j, j < i → w i * B i j = -(w j * B j i)
theorem pc_L4 : pc_L[4]? = some (0, 4) := by decide +kernel
theorem pc_H_ge : ∀ t, pc_H t = true → 11 ≤ t := by
  intro t ht
  have h := pc_H_mem ht
  simp only [pc_HL, List.mem_cons, List.not_mem_nil, or_false] at h
  omega
theorem pc_fits (Z : Nat → Nat → Int) {t n i : Nat} {a : Int} (ht : pc_H t = true) (hn4 : n ≤ 4) (hB : mu_bd n (pc_T Z (t + 1))) (ha : a = (i : Int)) (hi : i < n) (hw : ∀ j, j ≤ i → 1 ≤ Z 4 j ∧ Z 4 j ≤ 9) : f_SC_fits (pc_h Z) t 4 a = some (if mu_ft (pc_T Z (t + 1)) (Z 4) i then 1 else 0, pc_h Z) := by
  subst ha
  obtain ⟨g0, g1, g2, r0, r1, r2⟩ := pc_H_all t (pc_H_lt ht) ht
  unfold f_SC_fits
  have h := pl_srch0 (A := fun fu j => f_SC_fits_2 fu (pc_h Z) t 4 (i : Int) (j : Int)) (out := some ((1 : Int), pc_h Z)) (bad := some (0, pc_h Z)) i (by omega) (fun j => Z 4 i * pc_T Z (t + 1) i j = -(Z 4 j * pc_T Z (t + 1) j i)) (fun j hj fu => ?_) (fun fu => ?_)
  · refine h.trans ?_
    by_cases hb : mu_ft (pc_T Z (t + 1)) (Z 4) i
    · rw [if_pos hb, if_pos hb]
    · rw [if_neg hb, if_neg hb]
  · show fb_SC_fits_2 (f_SC_fits_2 fu) _ _ _ _ _ = _
    unfold fb_SC_fits_2 f_LE_cell
    have b1 := hB i hi j (by omega)
    have b2 := hB j (by omega) i hi
    have w1 := hw i (Nat.le_refl _)
    have w2 := hw j (by omega)
    have m1 := mu_mul 9 99 (x := Z 4 i) (y := pc_T Z (t + 1) i j) (by omega) (by omega) b1.1 b1.2
    have m2 := mu_mul 9 99 (x := Z 4 j) (y := pc_T Z (t + 1) j i) (by omega) (by omega) b2.1 b2.2
    rw [pl_gi (by omega) (by omega), pl_gi (by omega) (by omega), if_pos (by omega), pc_ald (i := i) pc_L4 rfl (by omega), pc_gr g0 (by decide) r1 (by omega), pl_call, pc_ald (i := 4 * i + j) g1 (by omega) (by omega), pc_ald (i := j) pc_L4 rfl (by omega), pc_gr g0 (by decide) r1 (by omega), pl_call, pc_ald (i := 4 * j + i) g1 (by omega) (by omega)]
    show gq_g (gx_i (Z 4 i * pc_T Z (t + 1) i j)) (gq_g (gx_i (-(Z 4 j * pc_T Z (t + 1) j i))) (if Z 4 i * pc_T Z (t + 1) i j = -(Z 4 j * pc_T Z (t + 1) j i) then _ else _)) = _
    rw [pl_gi (by omega) (by omega), pl_gi (by omega) (by omega)]
    rfl
  · show fb_SC_fits_2 (f_SC_fits_2 fu) _ _ _ _ _ = _
    unfold fb_SC_fits_2
    rw [pl_gi (by omega) (by omega), pl_gi (by omega) (by omega), if_neg (by omega)]
theorem mu_dg_pre {n i p m j : Nat} (hi : i ≤ n) (hj : j < i) (h1 : p * 9 ^ (n - i) ≤ m) (h2 : m < (p + 1) * 9 ^ (n - i)) : mu_dg n m j = mu_dg i p j := by
  unfold mu_dg
  have e : m / 9 ^ (n - i) = p := Nat.div_eq_of_lt_le h1 h2
  rw [show n - 1 - j = (n - i) + (i - 1 - j) by omega, Nat.pow_add, ← Nat.div_div_eq_div_mul, e]
theorem mu_dg_next {i p c j : Nat} (hc : c < 9) (hj : j < i) : mu_dg (i + 1) (9 * p + c) j = mu_dg i p j := by
  unfold mu_dg
  rw [show i + 1 - 1 - j = 1 + (i - 1 - j) by omega, Nat.pow_add, Nat.pow_one, ← Nat.div_div_eq_div_mul, show (9 * p + c) / 9 = p by omega]
theorem mu_dg_last {i p c : Nat} (hc : c < 9) : mu_dg (i + 1) (9 * p + c) i = 1 + (c : Int) := by
  unfold mu_dg
  rw [show i + 1 - 1 - i = 0 by omega, Nat.pow_zero, Nat.div_one, show (9 * p + c) % 9 = c by omega]
/-- all rows fit -/
abbrev mu_fa (n : Nat) (B : Nat → Nat → Int) (m : Nat) : Prop := ∀ i, i < n → mu_ft B (mu_dg n m) i
theorem mu_ft_cg {B : Nat → Nat → Int} {w w' : Nat → Int} {i : Nat} (h : ∀ j, j ≤ i → w j = w' j) : mu_ft B w i ↔ mu_ft B w' i := by
  constructor
  · intro z j hj
    rw [← h i (Nat.le_refl _), ← h j (by omega)]; exact z j hj
  · intro z j hj
    rw [h i (Nat.le_refl _), h j (by omega)]; exact z j hj
theorem gx_us_us {X : Nat → Nat → Int} {o : Nat} {f g : Nat → Int} : gx_us (gx_us X o f) o g = gx_us X o g := by
  funext q
  by_cases e : q = o
  · subst e; rw [gx_us_eq, gx_us_eq]
  · rw [gx_us_ne e, gx_us_ne e, gx_us_ne e]
/-- what weighFrom does from the letter i on, p the weights ahead of it -/
def pc_wf (Z : Nat → Nat → Int) (B : Nat → Nat → Int) (n i p : Nat) (w : Nat → Int) (x : Option (Int × gx_H)) : Prop :=
  (∃ f m, x = some (1, pc_h (gx_us Z 4 f)) ∧ p * 9 ^ (n - i) ≤ m ∧ m < (p + 1) * 9 ^ (n - i) ∧ (∀ j, j < n → f j = mu_dg n m j) ∧ mu_fa n B m ∧ ∀ m', p * 9 ^ (n - i) ≤ m' → m' < m → ¬ mu_fa n B m') ∨
  (∃ f, x = some (0, pc_h (gx_us Z 4 f)) ∧ (∀ j, j < i → f j = w j) ∧ ∀ m', p * 9 ^ (n - i) ≤ m' → m' < (p + 1) * 9 ^ (n - i) → ¬ mu_fa n B m')
set_option maxHeartbeats 1000000 in
theorem pc_wf_loop (Z : Nat → Nat → Int) {t n i p : Nat} (ht : pc_H t = true) (hn4 : n ≤ 4) (hB : mu_bd n (pc_T Z (t + 1))) (hi : i < n) (RC : gx_H → Nat → Nat → Int → Option (Int × gx_H))
    (hRC : ∀ q w, (∀ j, j < i + 1 → w j = mu_dg (i + 1) q j) → (∀ j, j < i + 1 → mu_ft (pc_T Z (t + 1)) w j) → pc_wf Z (pc_T Z (t + 1)) n (i + 1) q w (RC (pc_h (gx_us Z 4 w)) t 4 ((i : Int) + 1))) :
    ∀ (r c fu : Nat) (w : Nat → Int), c + r = 9 → r < fu → (∀ j, j < i → w j = mu_dg i p j) → (∀ j, j < i → mu_ft (pc_T Z (t + 1)) w j) → (∀ m', (9 * p) * 9 ^ (n - (i + 1)) ≤ m' → m' < (9 * p + c) * 9 ^ (n - (i + 1)) → ¬ mu_fa n (pc_T Z (t + 1)) m') →
      pc_wf Z (pc_T Z (t + 1)) n i p w (f_SC_weighFrom_17 RC fu (pc_h (gx_us Z 4 w)) t 4 (i : Int) ((c : Int) + 1)) := by
  have ht11 := pc_H_ge t ht
  have hE : 9 ^ (n - i) = 9 * 9 ^ (n - (i + 1)) := by rw [show n - i = (n - (i + 1)) + 1 by omega, Nat.pow_succ, Nat.mul_comm]
  have hE0 : p * 9 ^ (n - i) = (9 * p) * 9 ^ (n - (i + 1)) := by rw [hE, show 9 * p = p * 9 by omega, Nat.mul_assoc]
  have hE1 : (p + 1) * 9 ^ (n - i) = (9 * p + 9) * 9 ^ (n - (i + 1)) := by rw [hE, show 9 * p + 9 = (p + 1) * 9 by omega, Nat.mul_assoc]
  have fu1 : ∀ fu, f_SC_weighFrom_17 RC (fu + 1) = fb_SC_weighFrom_17 RC (f_SC_weighFrom_17 RC fu) := fun _ => rfl
  intro r
  induction r with
  | zero =>
    intro c fu w hc hf hw hft hno
    obtain ⟨f, rfl⟩ : ∃ f, fu = f + 1 := ⟨fu - 1, by omega⟩
    rw [fu1]
    unfold fb_SC_weighFrom_17
    rw [pl_gi (by omega) (by omega), if_pos (by omega)]
    refine Or.inr ⟨w, rfl, fun _ _ => rfl, fun m' h1 h2 => hno m' (by rw [← hE0]; exact h1) ?_⟩
    rw [show c = 9 by omega, ← hE1]; exact h2
  | succ r ih =>
    intro c fu w hc hf hw hft hno
    obtain ⟨f, rfl⟩ : ∃ f, fu = f + 1 := ⟨fu - 1, by omega⟩
    have g1 : ∀ j, j ≠ i → gx_u1 w i ((c : Int) + 1) j = w j := fun j hj => by unfold gx_u1; rw [if_neg hj]
    have g2 : gx_u1 w i ((c : Int) + 1) i = (c : Int) + 1 := by unfold gx_u1; rw [if_pos rfl]
    rw [fu1]
    unfold fb_SC_weighFrom_17 fb_SC_weighFrom_49
    rw [pl_gi (by omega) (by omega), if_neg (by omega), pc_ast (i := i) (Or.inl rfl) trivial pc_L4 rfl (by omega), gx_up_us]
    generalize gx_u1 w i ((c : Int) + 1) = w1 at g1 g2 ⊢
    have d1 : ∀ j, j < i + 1 → w1 j = mu_dg (i + 1) (9 * p + c) j := fun j hj => by
      by_cases e : j = i
      · subst e; rw [g2, mu_dg_last (by omega)]; omega
      · rw [g1 j e, hw j (by omega), mu_dg_next (by omega) (by omega)]
    have f1 : ∀ j, j < i → mu_ft (pc_T Z (t + 1)) w1 j := fun j hj => (mu_ft_cg (fun q hq => g1 q (by omega))).mpr (hft j hj)
    have eT : pc_T (gx_us Z 4 w1) (t + 1) = pc_T Z (t + 1) := by unfold pc_T; rw [gx_us_ne (by omega)]
    have hfit := pc_fits (gx_us Z 4 w1) (t := t) (n := n) (i := i) (a := (i : Int)) ht hn4 (by rw [eT]; exact hB) rfl hi (fun j hj => by
      rw [gx_us_eq, d1 j (by omega)]; exact mu_dg_in _ _ _)
    rw [eT, gx_us_eq] at hfit
    rw [hfit, pl_call]
    have w1w : ∀ j, j < i → w1 j = mu_dg i p j := fun j hj => by rw [g1 j (by omega)]; exact hw j hj
    by_cases hq : mu_ft (pc_T Z (t + 1)) w1 i
    · rw [if_pos hq, pl_gi (by decide) (by decide), if_neg (show ¬ (1 : Int) = 0 by decide)]
      have hrec := hRC (9 * p + c) w1 d1 (fun j hj => by
        by_cases e : j = i
        · subst e; exact hq
        · exact f1 j (by omega))
      rcases hrec with ⟨ff, m, hx, hm1, hm2, hm3, hm4, hm5⟩ | ⟨ff, hx, hj, hm⟩
      · rw [hx, pl_call, pl_gi (by decide) (by decide), if_neg (show ¬ (1 : Int) = 0 by decide)]
        refine Or.inl ⟨ff, m, rfl, ?_, ?_, hm3, hm4, fun m' h1 h2 => ?_⟩
        · rw [hE0]; exact Nat.le_trans (Nat.mul_le_mul_right _ (by omega)) hm1
        · rw [hE1]; exact Nat.lt_of_lt_of_le hm2 (Nat.mul_le_mul_right _ (by omega))
        · by_cases hlt : m' < (9 * p + c) * 9 ^ (n - (i + 1))
          · exact hno m' (by rw [← hE0]; exact h1) hlt
          · exact hm5 m' (by omega) h2
      · rw [hx, pl_call, pl_gi (by decide) (by decide), if_pos (show (0 : Int) = 0 from rfl)]
        have hff : ∀ j, j < i → ff j = mu_dg i p j := fun j hj2 => by rw [hj j (by omega)]; exact w1w j hj2
        have := ih (c + 1) f ff (by omega) (by omega) hff (fun j hj2 => (mu_ft_cg (fun q hq2 => hj q (by omega))).mpr (f1 j hj2)) (fun m' h1 h2 => by
          by_cases hlt : m' < (9 * p + c) * 9 ^ (n - (i + 1))
          · exact hno m' h1 hlt
          · exact hm m' (by omega) h2)
        rw [show (c : Int) + 1 + 1 = ((c + 1 : Nat) : Int) + 1 by omega]
        rcases this with ⟨ff2, m, a1, a2⟩ | ⟨ff2, a1, a2, a3⟩
        · exact Or.inl ⟨ff2, m, a1, a2⟩
        · exact Or.inr ⟨ff2, a1, fun j hj2 => by rw [a2 j hj2, hff j hj2, hw j hj2], a3⟩
    · rw [if_neg hq, pl_gi (by decide) (by decide), if_pos (show (0 : Int) = 0 from rfl)]
      have := ih (c + 1) f w1 (by omega) (by omega) w1w f1 (fun m' h1 h2 => by
        by_cases hlt : m' < (9 * p + c) * 9 ^ (n - (i + 1))
        · exact hno m' h1 hlt
        · intro hP
          refine hq ((mu_ft_cg (fun j hj => ?_)).mp (hP i hi))
          rw [d1 j (by omega)]
          exact mu_dg_pre (by omega) (by omega) (by omega) h2)
      rw [show (c : Int) + 1 + 1 = ((c + 1 : Nat) : Int) + 1 by omega]
      rcases this with ⟨ff2, m, a1, a2⟩ | ⟨ff2, a1, a2, a3⟩
      · exact Or.inl ⟨ff2, m, a1, a2⟩
      · exact Or.inr ⟨ff2, a1, fun j hj2 => by rw [a2 j hj2, w1w j hj2, hw j hj2], a3⟩
theorem pc_weighFrom (Z : Nat → Nat → Int) {t n : Nat} (ht : pc_H t = true) (hn : Z t 0 = (n : Int)) (hn4 : n ≤ 4) (hB : mu_bd n (pc_T Z (t + 1))) :
    ∀ (e d i p : Nat) (w : Nat → Int), i + e = n → e < d → (∀ j, j < i → w j = mu_dg i p j) → (∀ j, j < i → mu_ft (pc_T Z (t + 1)) w j) → pc_wf Z (pc_T Z (t + 1)) n i p w (f_SC_weighFrom d (pc_h (gx_us Z 4 w)) t 4 (i : Int)) := by
  have ht11 := pc_H_ge t ht
  obtain ⟨g0, g1, g2, r0, r1, r2⟩ := pc_H_all t (pc_H_lt ht) ht
  have d1 : ∀ d, f_SC_weighFrom (d + 1) = fe_SC_weighFrom (f_SC_weighFrom d) := fun _ => rfl
  intro e
  induction e with
  | zero =>
    intro d i p w hi hd hw hft
    obtain ⟨d', rfl⟩ : ∃ f, d = f + 1 := ⟨d - 1, by omega⟩
    rw [d1]
    unfold fe_SC_weighFrom
    have k : gx_us Z 4 w t 0 = (n : Int) := by rw [gx_us_ne (by omega)]; exact hn
    rw [pc_get g0 (by decide) r0, k, pl_gi (by omega) (by omega), if_neg (by omega)]
    have hin : i = n := by omega
    subst hin
    refine Or.inl ⟨w, p, rfl, by rw [Nat.sub_self]; omega, by rw [Nat.sub_self]; omega, hw, fun q hq => (mu_ft_cg (fun j hj => hw j (by omega))).mp (hft q hq), fun m' h1 h2 => ?_⟩
    rw [Nat.sub_self] at h1
    omega
  | succ e ih =>
    intro d i p w hi hd hw hft
    obtain ⟨d', rfl⟩ : ∃ f, d = f + 1 := ⟨d - 1, by omega⟩
    rw [d1]
    unfold fe_SC_weighFrom
    have k : gx_us Z 4 w t 0 = (n : Int) := by rw [gx_us_ne (by omega)]; exact hn
    rw [pc_get g0 (by decide) r0, k, pl_gi (by omega) (by omega), if_pos (by omega), if_pos (by omega)]
    exact pc_wf_loop Z ht hn4 hB (by omega) (f_SC_weighFrom d') (fun q w2 a1 a2 => ih d' (i + 1) q w2 (by omega) (by omega) a1 a2) 9 0 gx_fu w (by omega) (show 9 < 1000000 by decide) hw hft (fun m' h1 h2 => by rw [Nat.add_zero] at h2; omega)
theorem pc_L3 : pc_L[3]? = some (7 + 3, 2) := by decide +kernel
theorem pc_r3 : pc_r 3 0 = 0 ∧ pc_r 3 1 = 4 := by decide +kernel
theorem pc_weigh (Z : Nat → Nat → Int) {t n : Nat} (ht : pc_H t = true) (hn : Z t 0 = (n : Int)) (hn4 : n ≤ 4) (hB : mu_bd n (pc_T Z (t + 1))) :
    (∃ f m, f_SC_weigh (pc_h Z) 3 t = some (0, pc_h (gx_up (gx_us Z 4 f) 3 0 1)) ∧ m < 9 ^ n ∧ (∀ j, j < n → f j = mu_dg n m j) ∧ mu_fa n (pc_T Z (t + 1)) m ∧ ∀ m', m' < m → ¬ mu_fa n (pc_T Z (t + 1)) m') ∨
    (∃ f, f_SC_weigh (pc_h Z) 3 t = some (0, pc_h (gx_up (gx_us Z 4 f) 3 0 0)) ∧ ∀ m', m' < 9 ^ n → ¬ mu_fa n (pc_T Z (t + 1)) m') := by
  obtain ⟨r0, r1⟩ := pc_r3
  unfold f_SC_weigh
  rw [pc_gr pc_L3 (by decide) r1 (by decide)]
  have h := pc_weighFrom Z ht hn hn4 hB n 6 0 0 (Z 4) (by omega) (by omega) (fun j hj => absurd hj (by omega)) (fun j hj => absurd hj (by omega))
  rw [gx_us_id rfl] at h
  rcases h with ⟨f, m, hx, h1, h2, h3, h4, h5⟩ | ⟨f, hx, h1, h2⟩
  · refine Or.inl ⟨f, m, ?_, by simpa using h2, h3, h4, fun m' hm => h5 m' (by omega) hm⟩
    rw [show ((0 : Nat) : Int) = 0 from rfl] at hx
    rw [hx, pl_call, pc_put (Or.inr rfl) pc_L3 (by decide) r0]
  · refine Or.inr ⟨f, ?_, fun m' hm => h2 m' (by omega) (by simpa using hm)⟩
    rw [show ((0 : Nat) : Int) = 0 from rfl] at hx
    rw [hx, pl_call, pc_put (Or.inl rfl) pc_L3 (by decide) r0]
/-- with no number on the diagonal, the rows fit as the weights do -/
theorem mu_fa_wt {n m : Nat} {B : Nat → Nat → Int} (h0 : ∀ i, i < n → B i i = 0) : mu_fa n B m ↔ mu_wt n B (mu_dg n m) := by
  constructor
  · intro h i hi j hj
    by_cases c : j < i
    · rw [h i hi j c, Int.neg_mul]
    · by_cases c2 : i = j
      · subst c2; rw [h0 i hi]; simp
      · have := h j hj i (by omega)
        rw [Int.neg_mul]; omega
  · intro h i hi j hj
    rw [h i hi j (by omega), Int.neg_mul]
