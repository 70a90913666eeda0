/-! places, codes of the reference -/
def mu_bf (D : Nat → Nat → Int) (i j : Nat) : Nat → Nat → Bool
  | 0, _ => decide (i < j)
  | t + 1, m => if D i m = D j m then mu_bf D i j t (m + 1) else decide (D i m < D j m)
def mu_plc (n : Nat) (D : Nat → Nat → Int) (i : Nat) : Nat → Nat
  | 0 => 0
  | j + 1 => mu_plc n D i j + (if j ≠ i ∧ mu_bf D j i n 0 = true then 1 else 0)
/-- the place of letter i, as ranked -/
def mu_pl (n : Nat) (D : Nat → Nat → Int) (i : Nat) : Nat := mu_plc n D i n
def mu_rkc (n : Nat) (D : Nat → Nat → Int) (p : Nat) : Nat → Nat
  | 0 => 0
  | i + 1 => if mu_pl n D i = p then i else mu_rkc n D p i
/-- the letter at a place -/
def mu_rk (n : Nat) (D : Nat → Nat → Int) (p : Nat) : Nat := mu_rkc n D p n
theorem mu_plc_le (n : Nat) (D : Nat → Nat → Int) (i : Nat) : ∀ j, mu_plc n D i j ≤ j
  | 0 => Nat.le_refl _
  | j + 1 => by
    have := mu_plc_le n D i j
    unfold mu_plc
    split <;> omega
theorem mu_pl_le (n : Nat) (D : Nat → Nat → Int) (i : Nat) : mu_pl n D i ≤ n := mu_plc_le n D i n
theorem mu_rkc_lt (n : Nat) (D : Nat → Nat → Int) (p : Nat) : ∀ i, 0 < i → mu_rkc n D p i < i
  | 0, h => absurd h (by omega)
  | i + 1, _ => by
    unfold mu_rkc
    by_cases h : mu_pl n D i = p
    · rw [if_pos h]; omega
    · rw [if_neg h]
      by_cases h0 : i = 0
      · subst h0; exact Nat.one_pos
      · have := mu_rkc_lt n D p i (by omega); omega
theorem mu_rk_lt (n : Nat) (D : Nat → Nat → Int) (p : Nat) (hn : 0 < n) : mu_rk n D p < n := mu_rkc_lt n D p n hn
theorem pm_isBefore (X : Nat → Nat → Int) {n x i j : Nat} {a b c : Int} (hn : X 0 1 = (n : Int)) (hn4 : n ≤ 4) (ha : a = (x : Int)) (hb : b = (i : Int)) (hc : c = (j : Int)) (hi : i < 4) (hj : j < 4) (hx : x + 80 ≤ 2000) : f_MD_isBefore (pm_h X) 0 a b c = some (mu_b01 (mu_bf (pm_T X (x + 24)) i j n 0), pm_h X) := by
  subst ha hb hc
  unfold f_MD_isBefore
  have key : ∀ t m fu, m + t = n → t < fu → f_MD_isBefore_3 fu (pm_h X) 0 (x : Int) (i : Int) (j : Int) (m : Int) = some (mu_b01 (mu_bf (pm_T X (x + 24)) i j t m), pm_h X) := by
    intro t
    induction t with
    | zero =>
      intro m fu hm hf
      obtain ⟨f, rfl⟩ : ∃ f, fu = f + 1 := ⟨fu - 1, by omega⟩
      show fb_MD_isBefore_3 (f_MD_isBefore_3 f) _ 0 _ _ _ _ = _
      unfold fb_MD_isBefore_3
      rw [pm_get (by decide) rfl, hn, pl_gi (by omega) (by omega), if_neg (by omega), pl_gi (by omega) (by omega), pl_gi (by omega) (by omega)]
      unfold mu_bf
      by_cases h : i < j
      · rw [if_pos (by omega), decide_eq_true h]; rfl
      · rw [if_neg (by omega), decide_eq_false h]; rfl
    | succ t ih =>
      intro m fu hm hf
      obtain ⟨f, rfl⟩ : ∃ f, fu = f + 1 := ⟨fu - 1, by omega⟩
      show fb_MD_isBefore_3 (f_MD_isBefore_3 f) _ 0 _ _ _ _ = _
      unfold fb_MD_isBefore_3
      rw [pm_get (by decide) rfl, hn, pl_gi (by omega) (by omega), if_pos (by omega), pm_gr (t := 1) (by decide) rfl (by decide), pm_ald (o := 1) (i := x + 24 + 4 * i + m) (by omega) (by show _ < 2000; omega), pm_gr (t := 1) (by decide) rfl (by decide), pm_ald (o := 1) (i := x + 24 + 4 * j + m) (by omega) (by show _ < 2000; omega)]
      show (if pm_T X (x + 24) i m = pm_T X (x + 24) j m then _ else if pm_T X (x + 24) i m < pm_T X (x + 24) j m then _ else _) = _
      unfold mu_bf
      by_cases h : pm_T X (x + 24) i m = pm_T X (x + 24) j m
      · rw [if_pos h, if_pos h]
        exact ih (m + 1) f (by omega) (by omega)
      · rw [if_neg h, if_neg h]
        by_cases h2 : pm_T X (x + 24) i m < pm_T X (x + 24) j m
        · rw [if_pos h2, decide_eq_true h2]; rfl
        · rw [if_neg h2, decide_eq_false h2]; rfl
  exact key n 0 gx_fu (by omega) (show n < 1000000 by omega)
theorem pm_placeOf (X : Nat → Nat → Int) {n x i : Nat} {a b : Int} (hn : X 0 1 = (n : Int)) (hn4 : n ≤ 4) (ha : a = (x : Int)) (hb : b = (i : Int)) (hi : i < 4) (hx : x + 80 ≤ 2000) : f_MD_placeOf (pm_h X) 0 a b = some ((mu_pl n (pm_T X (x + 24)) i : Int), pm_h X) := by
  subst ha hb
  unfold f_MD_placeOf
  refine pl_loop0 (A := fun fu j => f_MD_placeOf_5 fu (pm_h X) 0 (x : Int) (i : Int) (mu_plc n (pm_T X (x + 24)) i j : Int) (j : Int)) n (by omega) (fun j hj fu => ?_) (fun fu => ?_)
  · show fb_MD_placeOf_5 (f_MD_placeOf_5 fu) _ 0 _ _ _ _ = _
    unfold fb_MD_placeOf_5 fb_MD_placeOf_36 fb_MD_placeOf_37
    rw [pm_get (by decide) rfl, hn, pl_gi (by omega) (by omega), if_pos (by omega), pl_gi (by omega) (by omega)]
    have e : mu_plc n (pm_T X (x + 24)) i (j + 1) = mu_plc n (pm_T X (x + 24)) i j + (if j ≠ i ∧ mu_bf (pm_T X (x + 24)) j i n 0 = true then 1 else 0) := rfl
    rw [e]
    by_cases h : j = i
    · rw [if_pos (by omega), if_neg (fun z => z.1 h)]; simp
    · rw [if_neg (by omega), pm_cv, pm_isBefore X hn hn4 rfl rfl rfl (by omega) hi hx, pl_call, gq_g_ok (mu_b01_i _)]
      cases hbf : mu_bf (pm_T X (x + 24)) j i n 0 with
      | true => rw [if_neg (by decide), if_pos ⟨h, rfl⟩]; simp
      | false => rw [if_pos (show mu_b01 false = 0 from rfl), if_neg (fun z => by cases z.2)]; simp
  · show fb_MD_placeOf_5 (f_MD_placeOf_5 fu) _ 0 _ _ _ _ = _
    unfold fb_MD_placeOf_5
    rw [pm_get (by decide) rfl, hn, pl_gi (by omega) (by omega), if_neg (by omega)]
    rfl
theorem pm_rankedAt (X : Nat → Nat → Int) {n x p : Nat} {a b : Int} (hn : X 0 1 = (n : Int)) (hn4 : n ≤ 4) (ha : a = (x : Int)) (hb : b = (p : Int)) (hp : p < 4) (hx : x + 80 ≤ 2000) : f_MD_rankedAt (pm_h X) 0 a b = some ((mu_rk n (pm_T X (x + 24)) p : Int), pm_h X) := by
  subst ha hb
  unfold f_MD_rankedAt
  refine pl_loop0 (A := fun fu i => f_MD_rankedAt_5 fu (pm_h X) 0 (x : Int) (p : Int) (mu_rkc n (pm_T X (x + 24)) p i : Int) (i : Int)) n (by omega) (fun i hi fu => ?_) (fun fu => ?_)
  · show fb_MD_rankedAt_5 (f_MD_rankedAt_5 fu) _ 0 _ _ _ _ = _
    unfold fb_MD_rankedAt_5 fb_MD_rankedAt_31
    have hl := mu_pl_le n (pm_T X (x + 24)) i
    rw [pm_get (by decide) rfl, hn, pl_gi (by omega) (by omega), if_pos (by omega), pm_cv, pm_placeOf X hn hn4 rfl rfl (by omega) hx, pl_call, pl_gi (by omega) (by omega), pl_gi (by omega) (by omega)]
    have e : mu_rkc n (pm_T X (x + 24)) p (i + 1) = if mu_pl n (pm_T X (x + 24)) i = p then i else mu_rkc n (pm_T X (x + 24)) p i := rfl
    rw [e]
    by_cases h : mu_pl n (pm_T X (x + 24)) i = p
    · rw [if_pos (by omega), if_pos h]; simp
    · rw [if_neg (by omega), if_neg h]; simp
  · show fb_MD_rankedAt_5 (f_MD_rankedAt_5 fu) _ 0 _ _ _ _ = _
    unfold fb_MD_rankedAt_5
    rw [pm_get (by decide) rfl, hn, pl_gi (by omega) (by omega), if_neg (by omega)]
    rfl
theorem pm_isLetter (X : Nat → Nat → Int) {n : Nat} {i : Int} (hn : X 0 1 = (n : Int)) (hn4 : n ≤ 4) (hi : gx_i i) : f_MD_isLetter (pm_h X) 0 i = some (if 0 ≤ i ∧ i < (n : Int) then 1 else 0, pm_h X) := by
  unfold f_MD_isLetter
  rw [pm_get (by decide) rfl, hn, pm_in _ hi (by decide) ⟨by omega, by omega⟩, pl_call, gq_g_ok (by split <;> simp)]
  by_cases h : 0 ≤ i ∧ i < (n : Int)
  · rw [if_pos h, if_pos (by omega)]
  · rw [if_neg h, if_neg (by omega)]
/-- a row as one number -/
def mu_cd (D : Nat → Nat → Int) (i : Nat) : Nat → Int
  | 0 => 0
  | m + 1 => 200 * mu_cd D i m + D i m + 100
theorem mu_cd_bd {n i : Nat} {D : Nat → Nat → Int} (hD : ∀ m, m < n → mu_in (D i m)) : ∀ m, m ≤ n → 0 ≤ mu_cd D i m ∧ mu_cd D i m < 200 ^ m := by
  intro m
  induction m with
  | zero => intro _; exact ⟨Int.le_refl _, by show (0 : Int) < 1; decide⟩
  | succ m ih =>
    intro hm
    have h := ih (by omega)
    have hd := hD m (by omega)
    unfold mu_cd
    rw [Int.pow_succ]
    omega
theorem pm_code (X : Nat → Nat → Int) {n i : Nat} {a : Int} (hn : X 0 1 = (n : Int)) (hn4 : n ≤ 4) (ha : a = (i : Int)) (hi : i < 4) : f_MD_code (pm_h X) 0 a = some (mu_cd (pm_T X 24) i n, pm_h X) := by
  subst ha
  unfold f_MD_code
  refine pl_loop0 (A := fun fu m => f_MD_code_4 fu (pm_h X) 0 (i : Int) (mu_cd (pm_T X 24) i m) (m : Int)) n (by omega) (fun m hm fu => ?_) (fun fu => ?_)
  · show fb_MD_code_4 (f_MD_code_4 fu) _ 0 _ _ _ = _
    unfold fb_MD_code_4
    rw [pm_get (by decide) rfl, hn, pl_gi (by omega) (by omega), if_pos (by omega), pm_gr (t := 1) (by decide) rfl (by decide), pm_ald (o := 1) (i := 24 + 4 * i + m) (by omega) (by show _ < 2000; omega)]
    rfl
  · show fb_MD_code_4 (f_MD_code_4 fu) _ 0 _ _ _ = _
    unfold fb_MD_code_4
    rw [pm_get (by decide) rfl, hn, pl_gi (by omega) (by omega), if_neg (by omega)]
