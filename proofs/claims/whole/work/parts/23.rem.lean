/-! the reference remembers, takes, draws -/
def pm_rem (K : Nat) (X X' : Nat → Nat → Int) : Prop := (∀ o, o ≠ 0 → o ≠ 1 → X' o = X o) ∧ (∀ j, j ≠ 2 → X' 0 j = X 0 j) ∧ X' 0 2 = ((min (K + 1) 20 : Nat) : Int) ∧ (∀ j, j < 80 ∨ 1680 ≤ j → X' 1 j = X 1 j) ∧ ∀ i q, i < 20 → q < 80 → X' 1 (80 * (i + 1) + q) = if K < 20 then (if i = K then X 1 q else X 1 (80 * (i + 1) + q)) else (if i = 19 then X 1 q else X 1 (80 * (i + 2) + q))
theorem gx_up_ne {X : Nat → Nat → Int} {o o' i : Nat} {v : Int} (h : o' ≠ o) : gx_up X o i v o' = X o' := gx_us_ne h
theorem gx_up_at {X : Nat → Nat → Int} {o i j : Nat} {v : Int} : gx_up X o i v o j = if j = i then v else X o j := by
  unfold gx_up
  rw [gx_us_eq]
  rfl
theorem pm_rem_47 (X : Nat → Nat → Int) {K : Nat} (hK : X 0 2 = (K : Int)) (hK20 : K < 20) : fb_MD_remember_47 (pm_h X) 0 = some (0, pm_h (gx_up (gx_us X 1 (pm_cp (X 1) 0 (80 * (K + 1)) 80)) 0 2 ((K : Int) + 1))) := by
  unfold fb_MD_remember_47
  rw [pm_get (by decide) rfl, hK, pm_cv, pm_copy X (x := 0) (y := 80 * (K + 1)) (a := 0) rfl (by omega) (by decide) (by omega) (Or.inl (by omega)), pl_call, pm_get (by decide) rfl]
  have e : gx_us X 1 (pm_cp (X 1) 0 (80 * (K + 1)) 80) 0 2 = (K : Int) := by rw [gx_us_ne (by decide)]; exact hK
  rw [e, pm_put ⟨by omega, by omega⟩ (by decide) rfl]
set_option maxHeartbeats 1000000 in
theorem pm_remember (X : Nat → Nat → Int) {K : Nat} (hK : X 0 2 = (K : Int)) (hK20 : K ≤ 20) : ∃ X', f_MD_remember (pm_h X) 0 = some (0, pm_h X') ∧ pm_rem K X X' := by
  unfold f_MD_remember
  rw [pm_get (by decide) rfl, hK]
  by_cases h20 : K = 20
  · rw [if_pos (by omega)]
    subst h20
    have hl : f_MD_remember_11 gx_fu (pm_h X) 0 1 = some (0, pm_h (gx_up (gx_us (gx_up (gx_us X 1 (fun j => if 80 ≤ j ∧ j < 1600 then X 1 (j + 80) else X 1 j)) 0 2 19) 1 (pm_cp (gx_up (gx_us X 1 (fun j => if 80 ≤ j ∧ j < 1600 then X 1 (j + 80) else X 1 j)) 0 2 19 1) 0 (80 * (19 + 1)) 80)) 0 2 (((19 : Nat) : Int) + 1))) := by
      have e0 : f_MD_remember_11 gx_fu (pm_h X) 0 1 = f_MD_remember_11 gx_fu (pm_h (gx_us X 1 (fun j => if 80 ≤ j ∧ j < 80 * (0 + 1) then X 1 (j + 80) else X 1 j))) 0 (((0 : Nat) : Int) + 1) := by
        rw [gx_us_id (by funext j; rw [if_neg (by omega)])]
        rfl
      rw [e0]
      refine pl_loop0 (A := fun fu i => f_MD_remember_11 fu (pm_h (gx_us X 1 (fun j => if 80 ≤ j ∧ j < 80 * (i + 1) then X 1 (j + 80) else X 1 j))) 0 ((i : Int) + 1)) 19 (by decide) (fun i hi fu => ?_) (fun fu => ?_)
      · show fb_MD_remember_11 (f_MD_remember_11 fu) _ 0 _ = _
        unfold fb_MD_remember_11
        rw [pl_gi (by omega) (by omega), if_pos (by omega), pm_cv, pm_copy _ (x := 80 * (i + 2)) (y := 80 * (i + 1)) (by omega) (by omega) (by omega) (by omega) (Or.inr (by omega)), pl_call]
        have e1 : gx_us (gx_us X 1 (fun j => if 80 ≤ j ∧ j < 80 * (i + 1) then X 1 (j + 80) else X 1 j)) 1 (pm_cp (gx_us X 1 (fun j => if 80 ≤ j ∧ j < 80 * (i + 1) then X 1 (j + 80) else X 1 j) 1) (80 * (i + 2)) (80 * (i + 1)) 80) = gx_us X 1 (fun j => if 80 ≤ j ∧ j < 80 * (i + 1 + 1) then X 1 (j + 80) else X 1 j) := by
          funext o j
          by_cases e : o = 1
          · subst e
            simp only [gx_us_eq, pm_cp]
            by_cases c1 : 80 * (i + 1) ≤ j ∧ j < 80 * (i + 1) + 80
            · rw [if_pos c1, if_neg (by omega), if_pos (by omega)]
              exact congrArg (X 1) (by omega)
            · rw [if_neg c1]
              by_cases c2 : 80 ≤ j ∧ j < 80 * (i + 1)
              · rw [if_pos c2, if_pos (by omega)]
              · rw [if_neg c2, if_neg (by omega)]
          · rw [gx_us_ne e, gx_us_ne e, gx_us_ne e]
        rw [e1]
        rfl
      · show fb_MD_remember_11 (f_MD_remember_11 fu) _ 0 _ = _
        unfold fb_MD_remember_11
        rw [pl_gi (by omega) (by omega), if_neg (by omega), pm_get (by decide) rfl]
        have e2 : gx_us X 1 (fun j => if 80 ≤ j ∧ j < 80 * (19 + 1) then X 1 (j + 80) else X 1 j) 0 2 = 20 := by rw [gx_us_ne (by decide)]; exact hK
        rw [e2, pm_put (by decide) (by decide) rfl]
        exact pm_rem_47 _ (K := 19) (by rw [gx_up_at, if_pos rfl]; rfl) (by decide)
    refine ⟨_, hl, fun o h0 h1 => ?_, fun j hj => ?_, ?_, fun j hj => ?_, fun i q hi hq => ?_⟩
    · rw [gx_up_ne h0, gx_us_ne h1, gx_up_ne h0, gx_us_ne h1]
    · rw [gx_up_at, if_neg hj, gx_us_ne (by decide), gx_up_at, if_neg hj, gx_us_ne (by decide)]
    · rw [gx_up_at, if_pos rfl]; rfl
    · rw [gx_up_ne (by decide), gx_us_eq]
      unfold pm_cp
      rw [if_neg (by omega), gx_up_ne (by decide), gx_us_eq, if_neg (by omega)]
    · rw [gx_up_ne (by decide), gx_us_eq, if_neg (by omega)]
      unfold pm_cp
      rw [gx_up_ne (by decide), gx_us_eq]
      by_cases c : i = 19
      · subst c
        rw [if_pos (by omega), if_pos rfl, if_neg (by omega)]
        exact congrArg (X 1) (by omega)
      · rw [if_neg (by omega), if_neg c, if_pos (by omega)]
        exact congrArg (X 1) (by omega)
  · rw [if_neg (by omega)]
    refine ⟨_, pm_rem_47 X hK (by omega), fun o h0 h1 => ?_, fun j hj => ?_, ?_, fun j hj => ?_, fun i q hi hq => ?_⟩
    · rw [gx_up_ne h0, gx_us_ne h1]
    · rw [gx_up_at, if_neg hj, gx_us_ne (by decide)]
    · rw [gx_up_at, if_pos rfl]
      omega
    · rw [gx_up_ne (by decide), gx_us_eq]
      unfold pm_cp
      rw [if_neg (by omega)]
    · rw [gx_up_ne (by decide), gx_us_eq, if_pos (by omega)]
      unfold pm_cp
      by_cases c : i = K
      · subst c
        rw [if_pos (by omega), if_pos rfl]
        exact congrArg (X 1) (by omega)
      · rw [if_neg (by omega), if_neg c]
/-- the row tried becomes what is so; one exchange more -/
theorem pm_take (X : Nat → Nat → Int) (hc : 0 ≤ X 1 1992 ∧ X 1 1992 ≤ 99999) : f_MD_take (pm_h X) 0 = some (0, pm_h (gx_us X 1 (fun j => if j = 72 then (if X 1 1992 < 99999 then X 1 1992 + 1 else 99999) else if j < 80 then X 1 (1920 + j) else X 1 j))) := by
  unfold f_MD_take
  rw [pm_cv, pm_copy X (x := 1920) (y := 0) (a := 1920) (b := 0) rfl rfl (by decide) (by decide) (Or.inr (by decide)), pl_call, pm_gr (t := 1) (by decide) rfl (by decide), pm_gr (t := 1) (by decide) rfl (by decide), pm_ald (o := 1) (i := 72) (a := 72) rfl (by decide)]
  have e : gx_us X 1 (pm_cp (X 1) 1920 0 80) 1 72 = X 1 1992 := by
    rw [gx_us_eq]
    unfold pm_cp
    rw [if_pos (by decide)]
  have e2 : ∀ v : Int, gx_up (gx_us X 1 (pm_cp (X 1) 1920 0 80)) 1 72 v = gx_us X 1 (fun j => if j = 72 then v else if j < 80 then X 1 (1920 + j) else X 1 j) := by
    intro v
    rw [gx_up_us]
    congr 1
    funext j
    unfold gx_u1 pm_cp
    by_cases h : j = 72
    · rw [if_pos h, if_pos h]
    · rw [if_neg h, if_neg h]
      by_cases h2 : j < 80
      · rw [if_pos (by omega), if_pos h2]; exact congrArg (X 1) (by omega)
      · rw [if_neg (by omega), if_neg h2]
  rw [e]
  by_cases h : X 1 1992 < 99999
  · rw [if_pos h, pm_gr (t := 1) (by decide) rfl (by decide), pm_ald (o := 1) (i := 72) (a := 72) rfl (by decide), e, pm_ast (o := 1) (i := 72) (a := 72) ⟨by omega, by omega⟩ rfl (by decide), e2, if_pos h]
  · rw [if_neg h, pm_ast (o := 1) (i := 72) (a := 72) trivial rfl (by decide), e2, if_neg h]
def mu_lcg (s : Nat) : Nat := (s * 1103515245 + 12345) % 2147483648
theorem pm_draw (X : Nat → Nat → Int) {s n : Nat} {a : Int} (hs : X 0 4 = (s : Int)) (hs2 : s < 2147483648) (ha : a = (n : Int)) (hn : 0 < n) (hn4 : n ≤ 4) : f_MD_draw (pm_h X) 0 a = some (((mu_lcg s / 65536 % n : Nat) : Int), pm_h (gx_up X 0 4 (mu_lcg s : Int))) := by
  subst ha
  unfold f_MD_draw
  have h1 : s * 1103515245 + 12345 ≤ 4000000000000000000 := by omega
  have e1 : (s : Int) * 1103515245 + 12345 = ((s * 1103515245 + 12345 : Nat) : Int) := by simp
  have hl : mu_lcg s < 2147483648 := Nat.mod_lt _ (by decide)
  have e2 : ((s * 1103515245 + 12345 : Nat) : Int).tmod 2147483648 = (mu_lcg s : Int) := rfl
  rw [pm_get (by decide) rfl, hs, e1, gq_g_ok (fr_l h1), e2, pm_put ⟨by omega, by omega⟩ (by decide) rfl, pm_get (by decide) rfl, gx_up_at, if_pos rfl]
  have e3 : ((mu_lcg s : Nat) : Int).tdiv 65536 = ((mu_lcg s / 65536 : Nat) : Int) := rfl
  have e4 : ((mu_lcg s / 65536 : Nat) : Int).tmod (n : Int) = ((mu_lcg s / 65536 % n : Nat) : Int) := rfl
  rw [e3, e4, pl_gi (by omega) (by omega), gq_g_ok (by omega), pl_gi (by omega) (by omega)]
