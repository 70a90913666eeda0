/-! weights of the reference -/
def mu_e (B : Nat → Nat → Int) (w : Nat → Int) (i j : Nat) : Prop := w i * B i j = -w j * B j i
abbrev mu_wt (n : Nat) (B : Nat → Nat → Int) (w : Nat → Int) : Prop := ∀ i, i < n → ∀ j, j < n → w i * B i j = -w j * B j i
abbrev mu_we (n : Nat) (B : Nat → Nat → Int) (w : Nat → Int) (i j : Nat) : Prop := (∀ r, r < i → ∀ c, c < n → w r * B r c = -w c * B c r) ∧ ∀ c, c < j → w i * B i c = -w c * B c i
theorem mu_we_step {n : Nat} {B : Nat → Nat → Int} {w : Nat → Int} {i j : Nat} : mu_we n B w i (j + 1) ↔ mu_we n B w i j ∧ w i * B i j = -w j * B j i :=
  ⟨fun h => ⟨⟨h.1, (mu_all_succ.mp h.2).1⟩, (mu_all_succ.mp h.2).2⟩, fun h => ⟨h.1.1, mu_all_succ.mpr ⟨h.1.2, h.2⟩⟩⟩
theorem mu_we_row {n : Nat} {B : Nat → Nat → Int} {w : Nat → Int} {i : Nat} : mu_we n B w i n ↔ mu_we n B w (i + 1) 0 :=
  ⟨fun h => ⟨mu_all_succ.mpr h, fun _ hc => absurd hc (by omega)⟩, fun h => mu_all_succ.mp h.1⟩
theorem mu_we_all {n : Nat} {B : Nat → Nat → Int} {w : Nat → Int} : mu_we n B w n 0 ↔ mu_wt n B w := ⟨fun h => h.1, fun h => ⟨h, fun _ hc => absurd hc (by omega)⟩⟩
set_option maxHeartbeats 1000000 in
theorem pm_areWeights (X : Nat → Nat → Int) {n : Nat} (hn : X 0 1 = (n : Int)) (hn4 : n ≤ 4) (hB : mu_bd n (pm_T X 8)) (hw : ∀ i, i < n → 1 ≤ X 6 i ∧ X 6 i ≤ 9) : f_MD_areWeights (pm_h X) 0 = some (mu_fl (mu_wt n (pm_T X 8) (X 6)), pm_h X) := by
  unfold f_MD_areWeights
  have e0 : mu_fl (mu_we n (pm_T X 8) (X 6) 0 0) = 1 := if_pos ⟨fun _ h => absurd h (by omega), fun _ h => absurd h (by omega)⟩
  rw [← e0]
  refine pl_loop0 (A := fun fu i => f_MD_areWeights_4 fu (pm_h X) 0 (mu_fl (mu_we n (pm_T X 8) (X 6) i 0)) (i : Int)) n (by omega) (fun i hi fu => ?_) (fun fu => ?_)
  · show fb_MD_areWeights_4 (f_MD_areWeights_4 fu) _ 0 _ _ = _
    unfold fb_MD_areWeights_4
    rw [pm_get (by decide) rfl, hn, pl_gi (by omega) (by omega), if_pos (by omega)]
    refine pl_loop0 (A := fun gu j => f_MD_areWeights_14 (f_MD_areWeights_4 fu) gu (pm_h X) 0 (mu_fl (mu_we n (pm_T X 8) (X 6) i j)) (i : Int) (j : Int)) n (by omega) (fun j hj gu => ?_) (fun gu => ?_)
    · show fb_MD_areWeights_14 (f_MD_areWeights_4 fu) (f_MD_areWeights_14 (f_MD_areWeights_4 fu) gu) _ 0 _ _ _ = _
      unfold fb_MD_areWeights_14 fb_MD_areWeights_62 fb_MD_areWeights_63
      have b1 := hB i hi j hj
      have b2 := hB j hj i hi
      have w1 := hw i hi
      have w2 := hw j hj
      have m1 := mu_mul (x := X 6 i) (y := pm_T X 8 i j) 9 99 (by omega) (by omega) (by omega) (by omega)
      have m2 := mu_mul (x := -X 6 j) (y := pm_T X 8 j i) 9 99 (by omega) (by omega) (by omega) (by omega)
      rw [pm_get (by decide) rfl, hn, pl_gi (by omega) (by omega), if_pos (by omega), gq_g_ok mu_fl_i.1]
      have hne : mu_fl (mu_we n (pm_T X 8) (X 6) i (j + 1)) = if mu_we n (pm_T X 8) (X 6) i j ∧ X 6 i * pm_T X 8 i j = -X 6 j * pm_T X 8 j i then 1 else 0 := mu_fl_iff mu_we_step
      rw [hne]
      by_cases h1 : mu_we n (pm_T X 8) (X 6) i j
      · have e1 : mu_fl (mu_we n (pm_T X 8) (X 6) i j) = 1 := if_pos h1
        rw [e1, if_neg (by decide), pm_gr (t := 6) (by decide) rfl (by decide), pm_ald (o := 6) (i := i) rfl (by show i < 4; omega), pm_cv, pm_b X (a := 0) (x := 0) (i := i) (j := j) rfl rfl rfl (by omega), pl_call, pm_gr (t := 6) (by decide) rfl (by decide), pm_ald (o := 6) (i := j) rfl (by show j < 4; omega), pm_cv, pm_b X (a := 0) (x := 0) (i := j) (j := i) rfl rfl rfl (by omega), pl_call]
        have e2 : X 1 (0 + 8 + 4 * i + j) = pm_T X 8 i j := by simp [pm_T]
        have e3 : X 1 (0 + 8 + 4 * j + i) = pm_T X 8 j i := by simp [pm_T]
        rw [e2, e3, pl_gi (by omega) (by omega), pl_gi (by omega) (by omega)]
        by_cases h2 : X 6 i * pm_T X 8 i j = -X 6 j * pm_T X 8 j i
        · rw [if_pos h2, if_pos ⟨h1, h2⟩]; rfl
        · rw [if_neg h2, if_neg (fun z => h2 z.2)]; rfl
      · have e1 : mu_fl (mu_we n (pm_T X 8) (X 6) i j) = 0 := if_neg h1
        rw [e1, if_pos rfl, if_neg (fun z => h1 z.1)]; rfl
    · show fb_MD_areWeights_14 (f_MD_areWeights_4 fu) (f_MD_areWeights_14 (f_MD_areWeights_4 fu) gu) _ 0 _ _ _ = _
      unfold fb_MD_areWeights_14
      rw [pm_get (by decide) rfl, hn, pl_gi (by omega) (by omega), if_neg (by omega), mu_fl_iff mu_we_row]
      rfl
  · show fb_MD_areWeights_4 (f_MD_areWeights_4 fu) _ 0 _ _ = _
    unfold fb_MD_areWeights_4
    rw [pm_get (by decide) rfl, hn, pl_gi (by omega) (by omega), if_neg (by omega), gq_g_ok mu_fl_i.2, mu_fl_iff mu_we_all]
/-- the figures of m, by nines -/
def mu_dg (n m : Nat) : Nat → Int := fun j => 1 + ((m / 9 ^ (n - 1 - j) % 9 : Nat) : Int)
theorem mu_dg_in (n m j : Nat) : 1 ≤ mu_dg n m j ∧ mu_dg n m j ≤ 9 := by
  unfold mu_dg
  have := Nat.mod_lt (m / 9 ^ (n - 1 - j)) (show 0 < 9 by decide)
  omega
def pm_w6 (X : Nat → Nat → Int) (n m : Nat) : Nat → Nat → Int := gx_us X 6 (fun j => if j < n then mu_dg n m j else X 6 j)
theorem pm_w6_w6 {X : Nat → Nat → Int} {n m m' : Nat} : pm_w6 (pm_w6 X n m) n m' = pm_w6 X n m' := by
  funext o j
  unfold pm_w6 gx_us
  by_cases e : o = 6
  · subst e
    by_cases h : j < n
    · simp [h]
    · simp [h]
  · simp [e]
theorem mu_least {P : Nat → Prop} : ∀ N, (∀ m, m < N → ¬ P m) ∨ ∃ m, m < N ∧ P m ∧ ∀ m', m' < m → ¬ P m' := by
  intro N
  induction N with
  | zero => exact Or.inl (fun _ h => absurd h (by omega))
  | succ N ih =>
    rcases ih with h | ⟨m, h1, h2, h3⟩
    · by_cases hp : P N
      · exact Or.inr ⟨N, by omega, hp, h⟩
      · refine Or.inl (fun m hm => ?_)
        by_cases e : m = N
        · subst e; exact hp
        · exact h m (by omega)
    · exact Or.inr ⟨m, by omega, h2, h3⟩
set_option maxHeartbeats 1000000 in
/-- the inner loop: the figures are laid, then tried -/
theorem pm_isWell_in (X : Nat → Nat → Int) {n m : Nat} (hn : X 0 1 = (n : Int)) (hn4 : n ≤ 4) (hn2 : 2 ≤ n) (hB : mu_bd n (pm_T X 8)) (hm : m < 9 ^ n) (N : gx_H → Nat → Int → Int → Option (Int × gx_H)) (al : Int) :
    f_MD_isWell_40 N gx_fu (pm_h X) 0 al (m : Int) (m : Int) ((n : Int) - 1) = if mu_wt n (pm_T X 8) (mu_dg n m) then some (1, pm_h (pm_w6 X n m)) else N (pm_h (pm_w6 X n m)) 0 al ((m : Int) + 1) := by
  have hm2 : m < 6561 := by
    have : n = 2 ∨ n = 3 ∨ n = 4 := by omega
    rcases this with e | e | e <;> subst e <;> omega
  have hst : ∀ t, t ≤ n → gx_us X 6 (fun j => if n - t ≤ j ∧ j < n then mu_dg n m j else X 6 j) 0 1 = (n : Int) := fun t _ => by rw [gx_us_ne (by decide)]; exact hn
  have e0 : f_MD_isWell_40 N gx_fu (pm_h X) 0 al (m : Int) (m : Int) ((n : Int) - 1) = f_MD_isWell_40 N gx_fu (pm_h (gx_us X 6 (fun j => if n - 0 ≤ j ∧ j < n then mu_dg n m j else X 6 j))) 0 al (m : Int) ((m / 9 ^ 0 : Nat) : Int) ((n : Int) - 1 - ((0 : Nat) : Int)) := by
    rw [gx_us_id (by funext j; rw [if_neg (by omega)])]
    simp
  rw [e0]
  refine pl_loop0 (A := fun fu t => f_MD_isWell_40 N fu (pm_h (gx_us X 6 (fun j => if n - t ≤ j ∧ j < n then mu_dg n m j else X 6 j))) 0 al (m : Int) ((m / 9 ^ t : Nat) : Int) ((n : Int) - 1 - (t : Int))) n (by omega) (fun t ht fu => ?_) (fun fu => ?_)
  · show fb_MD_isWell_40 N (f_MD_isWell_40 N fu) _ 0 _ _ _ _ = _
    unfold fb_MD_isWell_40
    have hd : m / 9 ^ t ≤ m := Nat.div_le_self _ _
    have hl : ((m / 9 ^ t : Nat) : Int) ≤ (m : Int) := Int.ofNat_le.mpr hd
    have hl0 : (0 : Int) ≤ ((m / 9 ^ t : Nat) : Int) := Int.natCast_nonneg _
    have em : ((m / 9 ^ t : Nat) : Int).tmod 9 = ((m / 9 ^ t % 9 : Nat) : Int) := rfl
    have ed : ((m / 9 ^ t : Nat) : Int).tdiv 9 = ((m / 9 ^ (t + 1) : Nat) : Int) := by
      show ((m / 9 ^ t / 9 : Nat) : Int) = _
      rw [Nat.div_div_eq_div_mul, ← Nat.pow_succ]
    have hv := mu_dg_in n m (n - 1 - t)
    have ev : 1 + ((m / 9 ^ t % 9 : Nat) : Int) = mu_dg n m (n - 1 - t) := by
      unfold mu_dg
      rw [show n - 1 - (n - 1 - t) = t by omega]
    rw [pl_gi (by omega) (by omega), if_neg (by omega), pm_gr (t := 6) (by decide) rfl (by decide), pl_gi (by omega) (by omega), em, ed, ev, pm_ast (o := 6) (i := n - 1 - t) ⟨by omega, by omega⟩ (by omega) (by show n - 1 - t < 4; omega), gx_up_us]
    have e1 : gx_u1 (fun j => if n - t ≤ j ∧ j < n then mu_dg n m j else X 6 j) (n - 1 - t) (mu_dg n m (n - 1 - t)) = fun j => if n - (t + 1) ≤ j ∧ j < n then mu_dg n m j else X 6 j := by
      funext j
      unfold gx_u1
      by_cases ej : j = n - 1 - t
      · rw [if_pos ej, if_pos (by omega), ej]
      · rw [if_neg ej]
        dsimp only
        by_cases e2 : n - t ≤ j ∧ j < n
        · rw [if_pos e2, if_pos (by omega)]
        · rw [if_neg e2, if_neg (by omega)]
    rw [e1]
    congr 1
    omega
  · show fb_MD_isWell_40 N (f_MD_isWell_40 N fu) _ 0 _ _ _ _ = _
    unfold fb_MD_isWell_40
    have e1 : gx_us X 6 (fun j => if n - n ≤ j ∧ j < n then mu_dg n m j else X 6 j) = pm_w6 X n m := by
      unfold pm_w6
      congr 1
      funext j
      by_cases hj : j < n
      · rw [if_pos (by omega), if_pos hj]
      · rw [if_neg (by omega), if_neg hj]
    rw [pl_gi (by omega) (by omega), if_pos (by omega), e1, pm_cv]
    have hT : pm_T (pm_w6 X n m) 8 = pm_T X 8 := by
      funext i j
      unfold pm_T pm_w6
      rw [gx_us_ne (by decide)]
    have h6 : ∀ i, i < n → pm_w6 X n m 6 i = mu_dg n m i := fun i hi => by
      unfold pm_w6
      rw [gx_us_eq, if_pos hi]
    rw [pm_areWeights (pm_w6 X n m) (n := n) (by unfold pm_w6; rw [gx_us_ne (by decide)]; exact hn) hn4 (by rw [hT]; exact hB) (fun i hi => by rw [h6 i hi]; exact mu_dg_in n m i), pl_call, gq_g_ok mu_fl_i.1, hT]
    have hiff : mu_wt n (pm_T X 8) (pm_w6 X n m 6) ↔ mu_wt n (pm_T X 8) (mu_dg n m) :=
      ⟨fun h i hi j hj => by have := h i hi j hj; rw [h6 i hi, h6 j hj] at this; exact this, fun h i hi j hj => by rw [h6 i hi, h6 j hj]; exact h i hi j hj⟩
    rw [mu_fl_iff hiff]
    by_cases hw : mu_wt n (pm_T X 8) (mu_dg n m)
    · rw [if_pos hw, show mu_fl (mu_wt n (pm_T X 8) (mu_dg n m)) = 1 from if_pos hw, if_neg (by decide)]
    · rw [if_neg hw, show mu_fl (mu_wt n (pm_T X 8) (mu_dg n m)) = 0 from if_neg hw, if_pos rfl]
set_option maxHeartbeats 1000000 in
theorem pm_isWell (X : Nat → Nat → Int) {n : Nat} (hn : X 0 1 = (n : Int)) (hn4 : n ≤ 4) (hn2 : 2 ≤ n) (hB : mu_bd n (pm_T X 8)) :
    (∃ m, m < 9 ^ n ∧ mu_wt n (pm_T X 8) (mu_dg n m) ∧ (∀ m', m' < m → ¬ mu_wt n (pm_T X 8) (mu_dg n m')) ∧ f_MD_isWell (pm_h X) 0 = some (1, pm_h (pm_w6 X n m))) ∨ ((∀ m, m < 9 ^ n → ¬ mu_wt n (pm_T X 8) (mu_dg n m)) ∧ ∃ m, f_MD_isWell (pm_h X) 0 = some (0, pm_h (pm_w6 X n m))) := by
  have hp : 9 ^ n ≤ 6561 ∧ 0 < 9 ^ n := by
    have : n = 2 ∨ n = 3 ∨ n = 4 := by omega
    rcases this with e | e | e <;> subst e <;> decide
  have h4 : f_MD_isWell (pm_h X) 0 = f_MD_isWell_25 gx_fu (pm_h X) 0 ((9 ^ n : Nat) : Int) 0 := by
    unfold f_MD_isWell
    have e0 : (1 : Int) = ((9 ^ 0 : Nat) : Int) := rfl
    rw [e0]
    refine pl_loop0 (A := fun fu i => f_MD_isWell_4 fu (pm_h X) 0 ((9 ^ i : Nat) : Int) (i : Int)) n (by omega) (fun i hi fu => ?_) (fun fu => ?_)
    · show fb_MD_isWell_4 (f_MD_isWell_4 fu) _ 0 _ _ = _
      unfold fb_MD_isWell_4
      rw [pm_get (by decide) rfl, hn, pl_gi (by omega) (by omega), if_pos (by omega)]
      have : ((9 ^ i : Nat) : Int) * 9 = ((9 ^ (i + 1) : Nat) : Int) := by rw [Nat.pow_succ]; simp
      rw [this]
      rfl
    · show fb_MD_isWell_4 (f_MD_isWell_4 fu) _ 0 _ _ = _
      unfold fb_MD_isWell_4
      rw [pm_get (by decide) rfl, hn, pl_gi (by omega) (by omega), if_neg (by omega)]
  rw [h4]
  -- the state ahead of m
  have key : ∀ M, M ≤ 9 ^ n → (∀ m, m < M → ¬ mu_wt n (pm_T X 8) (mu_dg n m)) → ∀ (out : Option (Int × gx_H)), (∀ fu Y, (Y = X ∨ ∃ m, Y = pm_w6 X n m) → (0 < M → ∃ m, Y = pm_w6 X n m) → f_MD_isWell_25 (fu + 1) (pm_h Y) 0 ((9 ^ n : Nat) : Int) (M : Int) = out) → f_MD_isWell_25 gx_fu (pm_h X) 0 ((9 ^ n : Nat) : Int) 0 = out := by
    intro M hM hno out hout
    refine pl_loop0 (A := fun fu i => f_MD_isWell_25 fu (pm_h (if i = 0 then X else pm_w6 X n (i - 1))) 0 ((9 ^ n : Nat) : Int) (i : Int)) M (by omega) (fun i hi fu => ?_) (fun fu => ?_)
    · show fb_MD_isWell_25 (f_MD_isWell_25 fu) _ 0 _ _ = _
      unfold fb_MD_isWell_25
      generalize hY : (if i = 0 then X else pm_w6 X n (i - 1)) = Y
      have hYX : Y = X ∨ ∃ m, Y = pm_w6 X n m := by
        rw [← hY]
        by_cases h : i = 0
        · rw [if_pos h]; exact Or.inl rfl
        · rw [if_neg h]; exact Or.inr ⟨_, rfl⟩
      have y1 : Y 0 1 = (n : Int) := by
        rcases hYX with e | ⟨m, e⟩
        · rw [e]; exact hn
        · rw [e]; unfold pm_w6; rw [gx_us_ne (by decide)]; exact hn
      have y2 : pm_T Y 8 = pm_T X 8 := by
        rcases hYX with e | ⟨m, e⟩
        · rw [e]
        · rw [e]; funext a b; unfold pm_T pm_w6; rw [gx_us_ne (by decide)]
      have y3 : ∀ m, pm_w6 Y n m = pm_w6 X n m := fun m => by
        rcases hYX with e | ⟨m', e⟩
        · rw [e]
        · rw [e, pm_w6_w6]
      rw [pl_gi (by omega) (by omega), pl_gi (by omega) (by omega), if_pos (by omega), pm_get (by decide) rfl, y1, pm_isWell_in Y y1 hn4 hn2 (by rw [y2]; exact hB) (by omega), y2, if_neg (hno i hi), y3]
      simp
    · by_cases h0 : M = 0
      · subst h0
        exact hout fu X (Or.inl rfl) (fun h => absurd h (by omega))
      · simp only [if_neg h0]
        exact hout fu _ (Or.inr ⟨_, rfl⟩) (fun _ => ⟨_, rfl⟩)
  rcases mu_least (P := fun m => mu_wt n (pm_T X 8) (mu_dg n m)) (9 ^ n) with hno | ⟨m, h1, h2, h3⟩
  · refine Or.inr ⟨hno, 9 ^ n - 1, ?_⟩
    refine (pl_loop0 (A := fun fu i => f_MD_isWell_25 fu (pm_h (if i = 0 then X else pm_w6 X n (i - 1))) 0 ((9 ^ n : Nat) : Int) (i : Int)) (9 ^ n) (by omega) (fun i hi fu => ?_) (fun fu => ?_))
    · show fb_MD_isWell_25 (f_MD_isWell_25 fu) _ 0 _ _ = _
      unfold fb_MD_isWell_25
      generalize hY : (if i = 0 then X else pm_w6 X n (i - 1)) = Y
      have hYX : Y = X ∨ ∃ m, Y = pm_w6 X n m := by
        rw [← hY]
        by_cases h : i = 0
        · rw [if_pos h]; exact Or.inl rfl
        · rw [if_neg h]; exact Or.inr ⟨_, rfl⟩
      have y1 : Y 0 1 = (n : Int) := by
        rcases hYX with e | ⟨m, e⟩
        · rw [e]; exact hn
        · rw [e]; unfold pm_w6; rw [gx_us_ne (by decide)]; exact hn
      have y2 : pm_T Y 8 = pm_T X 8 := by
        rcases hYX with e | ⟨m, e⟩
        · rw [e]
        · rw [e]; funext a b; unfold pm_T pm_w6; rw [gx_us_ne (by decide)]
      have y3 : ∀ m, pm_w6 Y n m = pm_w6 X n m := fun m => by
        rcases hYX with e | ⟨m', e⟩
        · rw [e]
        · rw [e, pm_w6_w6]
      rw [pl_gi (by omega) (by omega), pl_gi (by omega) (by omega), if_pos (by omega), pm_get (by decide) rfl, y1, pm_isWell_in Y y1 hn4 hn2 (by rw [y2]; exact hB) (by omega), y2, if_neg (hno i hi), y3]
      simp
    · show fb_MD_isWell_25 (f_MD_isWell_25 fu) _ 0 _ _ = _
      unfold fb_MD_isWell_25
      rw [pl_gi (by omega) (by omega), pl_gi (by omega) (by omega), if_neg (by omega), if_neg (by omega)]
  · refine Or.inl ⟨m, h1, h2, h3, ?_⟩
    refine key m (by omega) h3 _ (fun fu Y hYX _ => ?_)
    show fb_MD_isWell_25 (f_MD_isWell_25 fu) _ 0 _ _ = _
    unfold fb_MD_isWell_25
    have y1 : Y 0 1 = (n : Int) := by
      rcases hYX with e | ⟨m, e⟩
      · rw [e]; exact hn
      · rw [e]; unfold pm_w6; rw [gx_us_ne (by decide)]; exact hn
    have y2 : pm_T Y 8 = pm_T X 8 := by
      rcases hYX with e | ⟨m, e⟩
      · rw [e]
      · rw [e]; funext a b; unfold pm_T pm_w6; rw [gx_us_ne (by decide)]
    have y3 : ∀ m, pm_w6 Y n m = pm_w6 X n m := fun m => by
      rcases hYX with e | ⟨m', e⟩
      · rw [e]
      · rw [e, pm_w6_w6]
    rw [pl_gi (by omega) (by omega), pl_gi (by omega) (by omega), if_pos (by omega), pm_get (by decide) rfl, y1, pm_isWell_in Y y1 hn4 hn2 (by rw [y2]; exact hB) h1, y2, if_pos h2, y3]
