/-! shapes, exchanged, copied -/
def pc_HL : List Nat := [11, 19, 27, 35, 43, 51, 59, 67, 75, 83, 91, 99, 107, 115, 123, 131, 139, 147, 155, 163, 181, 184, 194, 197, 203, 212, 220, 231, 239]
theorem pc_H_ap0 : pc_HL.all (fun t => pc_HL.all (fun u => t == u || decide (t + 3 ≤ u) || decide (u + 3 ≤ t))) = true := by decide +kernel
theorem pc_H_mem {t : Nat} (h : pc_H t = true) : t ∈ pc_HL := by simpa [pc_H, pc_HL] using h
theorem pc_H_apart (t : Nat) (_ : t < 246) (ht : pc_H t = true) (u : Nat) (_ : u < 246) (hu : pc_H u = true) (hn : t ≠ u) : t + 3 ≤ u ∨ u + 3 ≤ t := by
  have h1 := List.all_eq_true.mp (List.all_eq_true.mp pc_H_ap0 t (pc_H_mem ht)) u (pc_H_mem hu)
  simp only [Bool.or_eq_true, beq_iff_eq, decide_eq_true_eq] at h1
  omega
theorem pc_code (Z : Nat → Nat → Int) {t i n : Nat} {a : Int} (ht : pc_H t = true) (hn : Z t 0 = (n : Int)) (hn4 : n ≤ 4) (ha : a = (i : Int)) (hi : i < 4) : f_SH_code (pc_h Z) t a = some (mu_cd (pc_T Z (t + 2)) i n, pc_h Z) := by
  obtain ⟨g0, g1, g2, r0, r1, r2⟩ := pc_H_all t (pc_H_lt ht) ht
  unfold f_SH_code
  rw [pc_gr g0 (by decide) r2 (by omega), pc_get g0 (by decide) r0, pc_codeOf Z g2 ha hn hn4 hi, pl_call]
/-- behind an exchange of shapes: the new table and rows -/
def pc_X (Z : Nat → Nat → Int) (t u k n : Nat) (P : Nat → Nat → Prop) [∀ i j, Decidable (P i j)] : Nat → Nat → Int := gx_us (gx_us (gx_up Z t 0 (n : Int)) (t + 1) (pm_wr (Z (t + 1)) 0 P (mu_B (pc_T Z (u + 1)) k))) (t + 2) (pm_wr (Z (t + 2)) 0 P (mu_D n (pc_T Z (u + 1)) (pc_T Z (u + 2)) k))
theorem pc_X_1 (Z : Nat → Nat → Int) (t u k n : Nat) (P : Nat → Nat → Prop) [∀ i j, Decidable (P i j)] : pc_X Z t u k n P (t + 1) = pm_wr (Z (t + 1)) 0 P (mu_B (pc_T Z (u + 1)) k) := by
  unfold pc_X
  rw [gx_us_ne (by omega), gx_us_eq]
theorem pc_X_2 (Z : Nat → Nat → Int) (t u k n : Nat) (P : Nat → Nat → Prop) [∀ i j, Decidable (P i j)] : pc_X Z t u k n P (t + 2) = pm_wr (Z (t + 2)) 0 P (mu_D n (pc_T Z (u + 1)) (pc_T Z (u + 2)) k) := by
  unfold pc_X
  rw [gx_us_eq]
theorem pc_X_0 (Z : Nat → Nat → Int) (t u k n : Nat) (P : Nat → Nat → Prop) [∀ i j, Decidable (P i j)] : pc_X Z t u k n P t 0 = (n : Int) := by
  unfold pc_X
  rw [gx_us_ne (by omega), gx_us_ne (by omega), gx_up_at, if_pos rfl]
theorem pc_X_o (Z : Nat → Nat → Int) (t u k n : Nat) (P : Nat → Nat → Prop) [∀ i j, Decidable (P i j)] {o : Nat} (h : o < t ∨ t + 3 ≤ o) : pc_X Z t u k n P o = Z o := by
  unfold pc_X
  rw [gx_us_ne (by omega), gx_us_ne (by omega), gx_up_ne (by omega)]
theorem pc_X_step (Z : Nat → Nat → Int) (t u k n : Nat) {i j : Nat} (hi : i < 4) (hj : j < 4) : gx_up (gx_up (pc_X Z t u k n (mu_to n i j)) (t + 1) (4 * i + j) (mu_B (pc_T Z (u + 1)) k i j)) (t + 2) (4 * i + j) (mu_D n (pc_T Z (u + 1)) (pc_T Z (u + 2)) k i j) = pc_X Z t u k n (mu_to n i (j + 1)) := by
  have e1 : gx_u1 (pm_wr (Z (t + 1)) 0 (mu_to n i j) (mu_B (pc_T Z (u + 1)) k)) (0 + 4 * i + j) (mu_B (pc_T Z (u + 1)) k i j) = pm_wr (Z (t + 1)) 0 (mu_to n i (j + 1)) (mu_B (pc_T Z (u + 1)) k) := pm_wr_step hi hj rfl (fun r c hr hc => by omega)
  have e2 : gx_u1 (pm_wr (Z (t + 2)) 0 (mu_to n i j) (mu_D n (pc_T Z (u + 1)) (pc_T Z (u + 2)) k)) (0 + 4 * i + j) (mu_D n (pc_T Z (u + 1)) (pc_T Z (u + 2)) k i j) = pm_wr (Z (t + 2)) 0 (mu_to n i (j + 1)) (mu_D n (pc_T Z (u + 1)) (pc_T Z (u + 2)) k) := pm_wr_step hi hj rfl (fun r c hr hc => by omega)
  rw [Nat.zero_add] at e1 e2
  funext o
  by_cases h2 : o = t + 2
  · subst h2
    rw [gx_up, gx_us_eq, gx_up_ne (by omega), pc_X_2, pc_X_2, e2]
  · rw [gx_up_ne h2]
    by_cases h1 : o = t + 1
    · subst h1
      rw [gx_up, gx_us_eq, pc_X_1, pc_X_1, e1]
    · rw [gx_up_ne h1]
      unfold pc_X
      rw [gx_us_ne h2, gx_us_ne h1, gx_us_ne h2, gx_us_ne h1]
theorem pc_X_cg (Z : Nat → Nat → Int) (t u k n : Nat) {P Q : Nat → Nat → Prop} [∀ i j, Decidable (P i j)] [∀ i j, Decidable (Q i j)] (h : ∀ r c, r < 4 → c < 4 → (P r c ↔ Q r c)) : pc_X Z t u k n P = pc_X Z t u k n Q := by
  unfold pc_X
  rw [pm_wr_cg h, pm_wr_cg h]
set_option maxHeartbeats 2000000 in
theorem pc_becomeExchanged (Z : Nat → Nat → Int) {t u k n : Nat} {a : Int} (ht : pc_H t = true) (hu : pc_H u = true) (htu : t ≠ u) (hn : Z u 0 = (n : Int)) (hn4 : n ≤ 4) (ha : a = (k : Int)) (hk : k < n) (hB : mu_bd n (pc_T Z (u + 1))) (hD : mu_bd n (pc_T Z (u + 2))) :
    f_SH_becomeExchanged (pc_h Z) t u a = some (if mu_bd n (mu_B (pc_T Z (u + 1)) k) ∧ mu_bd n (mu_D n (pc_T Z (u + 1)) (pc_T Z (u + 2)) k) then 1 else 0, pc_h (pc_X Z t u k n (fun i j => i < n ∧ j < n))) := by
  subst ha
  obtain ⟨g0, g1, g2, r0, r1, r2⟩ := pc_H_all t (pc_H_lt ht) ht
  obtain ⟨v0, v1, v2, w0, w1, w2⟩ := pc_H_all u (pc_H_lt hu) hu
  have hap := pc_H_apart t (pc_H_lt ht) ht u (pc_H_lt hu) hu htu
  unfold f_SH_becomeExchanged
  rw [pc_get v0 (by decide) w0, hn, pc_put trivial g0 (by decide) r0]
  have hMB : ∀ i j, i < n → j < n → -9900 ≤ mu_B (pc_T Z (u + 1)) k i j ∧ mu_B (pc_T Z (u + 1)) k i j ≤ 9900 := fun i j hi hj => mu_B_bd hB hk hi hj
  have hMD : ∀ m, m < n → -39303 ≤ mu_D n (pc_T Z (u + 1)) (pc_T Z (u + 2)) k k m ∧ mu_D n (pc_T Z (u + 1)) (pc_T Z (u + 2)) k k m ≤ 39303 := fun m hm => by
    have h1 := mu_D_bd hn4 hB hD hk hm
    have h2 := hD k hk m hm
    unfold mu_D
    rw [if_pos rfl]
    split <;> omega
  have e0 : gx_up Z t 0 (n : Int) = pc_X Z t u k n (mu_to n 0 0) := by
    unfold pc_X
    rw [pm_wr_0 (fun r c _ _ => by omega), pm_wr_0 (fun r c _ _ => by omega)]
    funext o
    by_cases h2 : o = t + 2
    · subst h2; rw [gx_us_eq, gx_up_ne (by omega)]
    · rw [gx_us_ne h2]
      by_cases h1 : o = t + 1
      · subst h1; rw [gx_us_eq, gx_up_ne (by omega)]
      · rw [gx_us_ne h1]
  rw [e0]
  refine pl_loop0 (A := fun fu i => f_SH_becomeExchanged_10 fu (pc_h (pc_X Z t u k n (mu_to n i 0))) t u (k : Int) (i : Int)) n (by omega) (fun i hi fu => ?_) (fun fu => ?_)
  · show fb_SH_becomeExchanged_10 (f_SH_becomeExchanged_10 fu) _ _ _ _ _ = _
    unfold fb_SH_becomeExchanged_10
    rw [pc_get g0 (by decide) r0, pc_X_0, pl_gi (by omega) (by omega), if_pos (by omega)]
    refine pl_loop0 (A := fun gu j => f_SH_becomeExchanged_21 (f_SH_becomeExchanged_10 fu) gu (pc_h (pc_X Z t u k n (mu_to n i j))) t u (k : Int) (i : Int) (j : Int)) n (by omega) (fun j hj gu => ?_) (fun gu => ?_)
    · show fb_SH_becomeExchanged_21 (f_SH_becomeExchanged_10 fu) (f_SH_becomeExchanged_21 (f_SH_becomeExchanged_10 fu) gu) _ _ _ _ _ _ = _
      unfold fb_SH_becomeExchanged_21 fb_SH_becomeExchanged_85 f_LE_cell
      have eu1 : pc_X Z t u k n (mu_to n i j) (u + 1) = Z (u + 1) := pc_X_o Z t u k n _ (by omega)
      have eT1 : pc_T (pc_X Z t u k n (mu_to n i j)) (u + 1) = pc_T Z (u + 1) := by unfold pc_T; rw [eu1]
      have b1 := hB i hi k hk
      have b2 := hB k hk j hj
      have hb := hMB i j hi hj
      rw [pc_get g0 (by decide) r0, pc_X_0, pl_gi (by omega) (by omega), if_pos (by omega), pc_gr g0 (by decide) r1 (by omega), pl_call, pc_cv v0, pc_tableAfter _ (i := i) (j := j) (k := k) (n := n) hu rfl rfl rfl (by omega) (by omega) (by omega) (by rw [eT1]; exact ⟨by omega, by omega⟩) (by rw [eT1]; exact ⟨by omega, by omega⟩), pl_call, eT1, pc_ast (i := 4 * i + j) (Or.inl rfl) ⟨by omega, by omega⟩ g1 (by omega) (by omega), pc_gr g0 (by decide) r2 (by omega), pl_call, pl_gi (by omega) (by omega), pl_gi (by omega) (by omega)]
      generalize hY : gx_up (pc_X Z t u k n (mu_to n i j)) (t + 1) (4 * i + j) (mu_B (pc_T Z (u + 1)) k i j) = Y
      have y0 : Y u 0 = (n : Int) := by rw [← hY, gx_up_ne (by omega), pc_X_o Z t u k n _ (by omega)]; exact hn
      have y1 : pc_T Y (u + 1) = pc_T Z (u + 1) := by unfold pc_T; rw [← hY, gx_up_ne (by omega), pc_X_o Z t u k n _ (by omega)]
      have y2 : pc_T Y (u + 2) = pc_T Z (u + 2) := by unfold pc_T; rw [← hY, gx_up_ne (by omega), pc_X_o Z t u k n _ (by omega)]
      have y3 : ∀ q, Y (u + 2) q = Z (u + 2) q := fun q => by rw [← hY, gx_up_ne (by omega), pc_X_o Z t u k n _ (by omega)]
      have hst := pc_X_step Z t u k n (i := i) (j := j) (by omega) (by omega)
      rw [hY] at hst
      by_cases h1 : i = k
      · have hd := hMD j hj
        rw [if_pos (by omega), pc_cv v0, pc_rowAfter Y (k := k) (m := j) hu y0 hn4 rfl rfl hk hj (by rw [y1]; exact hB) (by rw [y2]; exact hD), pl_call, y1, y2, pc_ast (i := 4 * i + j) (Or.inl rfl) ⟨by omega, by omega⟩ g2 (by omega) (by omega)]
        rw [h1] at hst ⊢
        rw [hst]
        rfl
      · have hd := hD i hi j hj
        rw [if_neg (by omega), pc_gr v0 (by decide) w2 (by omega), pl_call, pc_ald (i := 4 * i + j) v2 (by omega) (by omega), y3]
        have e3 : mu_D n (pc_T Z (u + 1)) (pc_T Z (u + 2)) k i j = Z (u + 2) (4 * i + j) := by unfold mu_D; rw [if_neg h1]; rfl
        have hd2 : -99 ≤ Z (u + 2) (4 * i + j) ∧ Z (u + 2) (4 * i + j) ≤ 99 := hd
        rw [pc_ast (i := 4 * i + j) (Or.inl rfl) ⟨by omega, by omega⟩ g2 (by omega) (by omega), ← e3, hst]
        rfl
    · show fb_SH_becomeExchanged_21 (f_SH_becomeExchanged_10 fu) (f_SH_becomeExchanged_21 (f_SH_becomeExchanged_10 fu) gu) _ _ _ _ _ _ = _
      unfold fb_SH_becomeExchanged_21
      rw [pc_get g0 (by decide) r0, pc_X_0, pl_gi (by omega) (by omega), if_neg (by omega), pc_X_cg Z t u k n (Q := mu_to n (i + 1) 0) (fun r c hr hc => by omega)]
      rfl
  · show fb_SH_becomeExchanged_10 (f_SH_becomeExchanged_10 fu) _ _ _ _ _ = _
    unfold fb_SH_becomeExchanged_10 fb_SH_becomeExchanged_130
    rw [pc_X_cg Z t u k n (Q := fun i j => i < n ∧ j < n) (fun r c hr hc => by omega)]
    generalize hY : pc_X Z t u k n (fun i j => i < n ∧ j < n) = Y
    have y0 : Y t 0 = (n : Int) := by rw [← hY]; exact pc_X_0 Z t u k n _
    have q1 : mu_q n (pc_T Y (t + 1)) (mu_B (pc_T Z (u + 1)) k) := fun i hi j hj => by
      unfold pc_T
      rw [← hY, pc_X_1, show 4 * i + j = 0 + 4 * i + j by omega, pm_wr_in (by omega) (by omega), if_pos ⟨hi, hj⟩]
      rfl
    have q2 : mu_q n (pc_T Y (t + 2)) (mu_D n (pc_T Z (u + 1)) (pc_T Z (u + 2)) k) := fun i hi j hj => by
      unfold pc_T
      rw [← hY, pc_X_2, show 4 * i + j = 0 + 4 * i + j by omega, pm_wr_in (by omega) (by omega), if_pos ⟨hi, hj⟩]
      rfl
    rw [pc_get g0 (by decide) r0, y0, pl_gi (by omega) (by omega), if_neg (by omega), pc_gr g0 (by decide) r1 (by omega), pc_get g0 (by decide) r0, y0, pc_beyond Y g1 rfl hn4, pl_call]
    by_cases c1 : mu_bd n (mu_B (pc_T Z (u + 1)) k)
    · rw [if_pos ((mu_q_bd q1).mpr c1), pl_gi (by decide) (by decide), if_pos rfl, pc_gr g0 (by decide) r2 (by omega), pc_get g0 (by decide) r0, y0, pc_beyond Y g2 rfl hn4, pl_call]
      by_cases c2 : mu_bd n (mu_D n (pc_T Z (u + 1)) (pc_T Z (u + 2)) k)
      · rw [if_pos ((mu_q_bd q2).mpr c2), pl_gi (by decide) (by decide), if_pos rfl, if_pos ⟨c1, c2⟩]
      · rw [if_neg (fun z => c2 ((mu_q_bd q2).mp z)), pl_gi (by decide) (by decide), if_neg (by decide), if_neg (fun z => c2 z.2)]
    · rw [if_neg (fun z => c1 ((mu_q_bd q1).mp z)), pl_gi (by decide) (by decide), if_neg (by decide), if_neg (fun z => c1 z.1)]
