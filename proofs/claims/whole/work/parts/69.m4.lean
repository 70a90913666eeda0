/-! images, draws, both sides -/
theorem pc_L210 : pc_L[210]? = some (2, 2) ∧ pc_r 210 0 = 211 ∧ pc_r 210 1 = 219 ∧ pc_L[227]? = some (1, 2) ∧ pc_L[228]? = some (0, 2) := by decide +kernel
theorem pc_img {i : Nat} (hi : i < 2) : pc_r 210 i = 211 + 8 * i ∧ pc_S (211 + 8 * i) = true := by
  obtain ⟨-, r0, r1, -, -⟩ := pc_L210
  rcases (show i = 0 ∨ i = 1 by omega) with e | e <;> subst e
  · exact ⟨r0, pc_SA.2.2.2.1⟩
  · exact ⟨r1, pc_SA.2.2.2.2⟩
theorem kept_or {a b : Int} (ha : a = 0 ∨ a = 1) (hb : b = 0 ∨ b = 1) : gq_or (a + 2 * b) (gq_shl 1 0) = 1 + 2 * b ∧ gq_or (a + 2 * b) (gq_shl 1 1) = a + 2 * 1 ∧ gq_and (gq_shr (a + 2 * b) 0) 1 = a ∧ gq_and (gq_shr (a + 2 * b) 1) 1 = b := by
  rcases ha with e | e <;> subst e <;> rcases hb with e | e <;> subst e <;> decide
theorem m_keep {Z X : Nat → Nat → Int} {v : Int} (h : rl Z X) (hv : gx_i v) : rl_call (f_LE_keep (pc_h Z) 0 v) (f_MD_keep (pm_h X) 0 v) := by
  obtain ⟨n, B0, A, P, K, O, len, kb, hC, hG⟩ := h
  obtain ⟨⟨hn2, hn4, hX⟩, ⟨zA, zP, hp⟩, -, hnow, -, ⟨h6, h6a, h6b, h6c, h6d, h6e⟩, ⟨h7, h7a, h7b, h7c⟩, hs, -⟩ := id hC
  have hS : pc_S A = true := by rcases hp with q | q <;> rw [q.1] <;> decide
  obtain ⟨l2, -, -, l7, l8⟩ := pc_L210
  have stay : ∀ r, rl_call (some (r, pc_h Z)) (some (r, pm_h X)) := fun r => ⟨r, Z, X, rfl, rfl, n, B0, A, P, K, O, len, kb, hC, hG⟩
  unfold f_LE_keep f_MD_keep
  rw [gq_g_ok hv, pm_in _ hv (by decide) (by decide), pl_call]
  by_cases c : v < 0
  · rw [if_pos c, if_neg (by omega), pl_gi (by decide) (by decide), if_pos rfl]
    exact stay _
  rw [if_neg c]
  by_cases c2 : ¬ v < 2
  · rw [if_neg c2, if_neg (by omega), pl_gi (by decide) (by decide), if_pos rfl]
    exact stay _
  obtain ⟨i, hi⟩ : ∃ i : Nat, v = (i : Int) := ⟨v.toNat, by omega⟩
  subst hi
  have hi : i < 2 := by omega
  obtain ⟨ri, si⟩ := pc_img hi
  obtain ⟨t1, -⟩ := pc_S_all _ (pc_S_lt si) si
  obtain ⟨Z1, e1, z1, zeq⟩ := pc_copyS Z (A := 211 + 8 * i) (S := A) si hS (by omega)
  have z15 : Z1 0 15 = X 0 4 := by rw [z1 0 (by omega)]; exact hs.1
  rw [if_pos (by omega), if_pos (show (0 : Int) ≤ (i : Int) ∧ (i : Int) ≤ 1 by omega), pl_gi (by decide) (by decide), if_neg (by decide), pc_gr pc_L0 (by decide) pc_r0.2.2.2.2.2.2.2.2.2.1 (by decide), pc_rld (i := i) l2 rfl hi ri (by omega), pc_grv pc_L0 (by decide) pc_r0'.1 zA, pc_cv t1, e1, pl_call, pc_gr pc_L0 (by decide) pc_r0.2.2.2.2.2.2.2.2.2.2.2.1 (by decide), pc_get pc_L0 (by decide) pc_r0'.2.2.1, z15, pc_ast (i := i) (Or.inl rfl) trivial l8 rfl hi, pc_gr pc_L0 (by decide) pc_r0.2.2.2.2.2.2.2.2.2.2.1 (by decide), pc_ast (i := i) (Or.inr rfl) trivial l7 rfl hi, pc_gr pc_L0 (by decide) pc_r0.2.2.2.1 (by decide), pc_cv pc_L8, pc_forget, pl_call, pm_cv, pm_copy X (a := 0) (x := 0) (y := 1680 + 80 * i) rfl (by omega) (by omega) (by omega) (by omega), pl_call, pm_gr (t := 2) (by decide) rfl (by decide), pm_get (by decide) rfl, gx_us_ne (o' := 0) (by decide), pm_ast (o := 2) (i := i) trivial rfl (by show _ < 2; omega), pm_get (by decide) rfl, gx_up_ne (o' := 0) (by decide), gx_us_ne (o' := 0) (by decide), pm_put trivial (by decide) rfl, pm_put trivial (by decide) rfl, h7b]
  generalize hZ : gx_up (gx_up (gx_up Z1 228 i (X 0 4)) 227 i 1) 8 2 0 = Z2
  generalize hXX : gx_up (gx_up (gx_up (gx_us X 1 (pm_cp (X 1) 0 (1680 + 80 * i) 80)) 2 i (X 0 4)) 0 3 (gq_or (Z 227 0 + 2 * Z 227 1) (gq_shl 1 (i : Int)))) 0 2 0 = X2
  have zo : ∀ o, o ≠ 228 → o ≠ 227 → o ≠ 8 → (o < 211 + 8 * i ∨ 211 + 8 * i + 8 ≤ o) → Z2 o = Z o := fun o a b c d => by rw [← hZ, gx_up_ne c, gx_up_ne b, gx_up_ne a, z1 o d]
  have zs : ∀ o, 211 + 8 * i ≤ o → o < 211 + 8 * i + 8 → Z2 o = Z1 o := fun o a b => by rw [← hZ, gx_up_ne (by omega), gx_up_ne (by omega), gx_up_ne (by omega)]
  have z228 : ∀ q, Z2 228 q = if q = i then X 0 4 else Z 228 q := fun q => by rw [← hZ, gx_up_ne (by decide), gx_up_ne (by decide), gx_up_at, z1 228 (by omega)]
  have z227 : ∀ q, Z2 227 q = if q = i then 1 else Z 227 q := fun q => by rw [← hZ, gx_up_ne (by decide), gx_up_at, gx_up_ne (by decide), z1 227 (by omega)]
  have z8 : ∀ q, Z2 8 q = if q = 2 then 0 else Z 8 q := fun q => by rw [← hZ, gx_up_at, gx_up_ne (by decide), gx_up_ne (by decide), z1 8 (by omega)]
  have xo : ∀ o, o ≠ 0 → o ≠ 1 → o ≠ 2 → X2 o = X o := fun o a b c => by rw [← hXX, gx_up_ne a, gx_up_ne a, gx_up_ne c, gx_us_ne b]
  have x2 : ∀ q, X2 2 q = if q = i then X 0 4 else X 2 q := fun q => by rw [← hXX, gx_up_ne (by decide), gx_up_ne (by decide), gx_up_at, gx_us_ne (by decide)]
  have x0 : ∀ q, X2 0 q = if q = 2 then 0 else if q = 3 then gq_or (Z 227 0 + 2 * Z 227 1) (gq_shl 1 (i : Int)) else X 0 q := fun q => by rw [← hXX, gx_up_at, gx_up_at, gx_up_ne (by decide), gx_us_ne (by decide)]
  have x1 : ∀ q, (q < 1680 + 80 * i ∨ 1680 + 80 * i + 80 ≤ q) → X2 1 q = X 1 q := fun q hq => by
    rw [← hXX, gx_up_ne (by decide), gx_up_ne (by decide), gx_up_ne (by decide), gx_us_eq]
    unfold pm_cp
    rw [if_neg (by omega)]
  have x1c : ∀ j, j < 80 → X2 1 (1680 + 80 * i + j) = X 1 (0 + j) := fun j hj => by
    rw [← hXX, gx_up_ne (by decide), gx_up_ne (by decide), gx_up_ne (by decide), gx_us_eq]
    unfold pm_cp
    rw [if_pos (by omega), show 1680 + 80 * i + j - (1680 + 80 * i) = j by omega]
  have hst : rl_st n B0 Z2 (211 + 8 * i) X2 (1680 + 80 * i) := by
    refine rl_st_copy hn4 ?_ x1c hnow
    obtain ⟨c0, c1, c2, c3, c4, c5, c6, c7⟩ := zeq
    refine ⟨?_, ?_, ?_, ?_, ?_, ?_, ?_, ?_⟩
    · rw [zs _ (by omega) (by omega)]; exact c0
    · rw [zs _ (by omega) (by omega)]; exact c1
    · rw [zs _ (by omega) (by omega)]; exact c2
    · rw [zs _ (by omega) (by omega)]; exact c3
    · rw [zs _ (by omega) (by omega)]; exact c4
    · rw [zs _ (by omega) (by omega)]; exact c5
    · rw [zs _ (by omega) (by omega)]; exact c6
    · rw [zs _ (by omega) (by omega)]; exact c7
  refine ⟨1, Z2, X2, rfl, rfl, n, B0, A, P, 0, O, len, kb, rl_C_mk hC (fun o ho => zo o (by omega) (by omega) (by omega) (by omega)) (fun o ho => xo o (by omega) (by omega) (by omega)) (fun j hj => by rw [x0, if_neg (by omega), if_neg (by omega)]) (fun o a b => zo o (by omega) (by omega) (by omega) (by omega)) (fun j a b => x1 j (by omega)) ⟨by rw [zo 0 (by decide) (by decide) (by decide) (by omega)]; exact zA, by rw [zo 0 (by decide) (by decide) (by decide) (by omega)]; exact zP, hp⟩ (rl_st_cg hn4 (fun o a b => zo o (by omega) (by omega) (by omega) (by omega)) (fun j a b => x1 j (by omega)) hnow) ⟨by rw [z8, if_neg (by decide)]; exact h6, h6a, by rw [z8, if_pos rfl]; rfl, by rw [x0, if_pos rfl]; rfl, by decide, fun e he => by omega⟩ ⟨?_, ?_, ?_, fun j hj hk => ?_⟩ ?_, rl_G_cg hG (fun o a b => zo o (by omega) (by omega) (by omega) (by omega)) (by rw [zo 0 (by decide) (by decide) (by decide) (by omega)]) (by rw [zo 0 (by decide) (by decide) (by decide) (by omega)]) ⟨zo _ (by omega) (by omega) (by omega) (by omega), zo _ (by omega) (by omega) (by omega) (by omega)⟩⟩
  · rw [z227]; split
    · exact Or.inr rfl
    · exact h7
  · rw [z227]; split
    · exact Or.inr rfl
    · exact h7a
  · rw [x0, if_neg (by decide), if_pos rfl, z227, z227]
    rcases (show i = 0 ∨ i = 1 by omega) with e | e <;> subst e
    · rw [if_pos rfl, if_neg (by decide)]
      exact (kept_or h7 h7a).1
    · rw [if_neg (by decide), if_pos rfl]
      exact (kept_or h7 h7a).2.1
  · by_cases e : j = i
    · subst e
      rw [z228, x2, if_pos rfl, if_pos rfl]
      exact ⟨hst, rfl, hs.2.1, hs.2.2⟩
    · rw [z227, if_neg e] at hk
      rw [z228, x2, if_neg e, if_neg e]
      obtain ⟨q1, q2⟩ := h7c j hj hk
      exact ⟨rl_st_cg hn4 (fun o a b => zo o (by omega) (by omega) (by omega) (by omega)) (fun q a b => x1 q (by omega)) q1, q2⟩
  · rw [zo 0 (by decide) (by decide) (by decide) (by omega), x0, if_neg (by decide), if_neg (by decide)]; exact hs
theorem m_goBack {Z X : Nat → Nat → Int} {v : Int} (h : rl Z X) (hv : gx_i v) : rl_call (f_LE_goBack (pc_h Z) 0 v) (f_MD_goBack (pm_h X) 0 v) := by
  obtain ⟨n, B0, A, P, K, O, len, kb, hC, hG⟩ := h
  obtain ⟨⟨hn2, hn4, hX⟩, ⟨zA, zP, hp⟩, -, hnow, -, ⟨h6, h6a, h6b, h6c, h6d, h6e⟩, ⟨h7, h7a, h7b, h7c⟩, hs, -⟩ := id hC
  have hS : pc_S A = true := by rcases hp with q | q <;> rw [q.1] <;> decide
  obtain ⟨s1, s2, -⟩ := pc_S_all A (pc_S_lt hS) hS
  obtain ⟨l2, -, -, l7, l8⟩ := pc_L210
  have stay : ∀ r, rl_call (some (r, pc_h Z)) (some (r, pm_h X)) := fun r => ⟨r, Z, X, rfl, rfl, n, B0, A, P, K, O, len, kb, hC, hG⟩
  unfold f_LE_goBack f_MD_goBack
  rw [gq_g_ok hv, pm_in _ hv (by decide) (by decide), pl_call]
  by_cases c : v < 0
  · rw [if_pos c, if_neg (by omega), pl_gi (by decide) (by decide), if_pos rfl]
    exact stay _
  rw [if_neg c]
  by_cases c2 : ¬ v < 2
  · rw [if_neg c2, if_neg (by omega), pl_gi (by decide) (by decide), if_pos rfl]
    exact stay _
  obtain ⟨i, hi⟩ : ∃ i : Nat, v = (i : Int) := ⟨v.toNat, by omega⟩
  subst hi
  have hi : i < 2 := by omega
  obtain ⟨ri, si⟩ := pc_img hi
  have kp : gq_and (gq_shr (X 0 3) (i : Int)) 1 = Z 227 i ∧ (Z 227 i = 0 ∨ Z 227 i = 1) := by
    rw [h7b]
    rcases (show i = 0 ∨ i = 1 by omega) with e | e <;> subst e
    · exact ⟨(kept_or h7 h7a).2.2.1, h7⟩
    · exact ⟨(kept_or h7 h7a).2.2.2, h7a⟩
  rw [if_pos (by omega), if_pos (show (0 : Int) ≤ (i : Int) ∧ (i : Int) ≤ 1 by omega), pl_gi (by decide) (by decide), if_neg (by decide), pc_gr pc_L0 (by decide) pc_r0.2.2.2.2.2.2.2.2.2.2.1 (by decide), pc_zld (i := i) l7 rfl hi, pm_get (by decide) rfl, kp.1]
  by_cases d : Z 227 i = 0
  · rw [if_pos d, if_pos d]
    exact stay _
  have d1 : Z 227 i = 1 := by omega
  obtain ⟨hst, k1, k2, k3⟩ := h7c i hi d1
  obtain ⟨Z1, e1, z1, zeq⟩ := pc_copyS Z (A := A) (S := 211 + 8 * i) hS si (by omega)
  have z228 : Z1 228 i = X 2 i := by rw [z1 228 (by omega)]; exact k1
  rw [if_neg d, if_neg d, pc_grv pc_L0 (by decide) pc_r0'.1 zA, pc_gr pc_L0 (by decide) pc_r0.2.2.2.2.2.2.2.2.2.1 (by decide), pc_rld (i := i) l2 rfl hi ri (by omega), pc_cv s1, e1, pl_call, pc_gr pc_L0 (by decide) pc_r0.2.2.2.2.2.2.2.2.2.2.2.1 (by decide), pc_ald (i := i) l8 rfl hi, z228, pc_put trivial pc_L0 (by decide) pc_r0'.2.2.1, pc_gr pc_L0 (by decide) pc_r0.2.2.2.1 (by decide), pc_cv pc_L8, pc_forget, pl_call, pc_put trivial pc_L0 (by decide) pc_r0'.2.2.2.2, pm_cv, pm_copy X (b := 0) (x := 1680 + 80 * i) (y := 0) (by omega) rfl (by omega) (by omega) (by omega), pl_call, pm_gr (t := 2) (by decide) rfl (by decide), pm_ald (o := 2) (i := i) rfl (by show _ < 2; omega), gx_us_ne (o' := 2) (by decide), pm_put trivial (by decide) rfl, pm_put trivial (by decide) rfl]
  generalize hZ : gx_up (gx_up (gx_up Z1 0 15 (X 2 i)) 8 2 0) 0 17 1 = Z2
  have zo : ∀ o, o ≠ 0 → o ≠ 8 → Z2 o = Z1 o := fun o a b => by rw [← hZ, gx_up_ne a, gx_up_ne b, gx_up_ne a]
  have z0 : ∀ j, Z2 0 j = if j = 17 then 1 else if j = 15 then X 2 i else Z 0 j := fun j => by rw [← hZ, gx_up_at, gx_up_ne (by decide), gx_up_at, z1 0 (by omega)]
  have z8 : ∀ j, Z2 8 j = if j = 2 then 0 else Z 8 j := fun j => by rw [← hZ, gx_up_ne (by decide), gx_up_at, gx_up_ne (by decide), z1 8 (by omega)]
  refine ⟨1, Z2, _, rfl, rfl, both_now (K' := 0) hC hG (Nat.zero_le _) hst (fun o a b c => by rw [zo o a b, z1 o c]) (fun j a b => by rw [z0, if_neg b, if_neg a]) (by rw [z0, if_pos rfl]) ⟨by rw [z8, if_neg (by decide)], by rw [z8, if_pos rfl]; rfl⟩ ?_ (fun j hj => ?_) (fun j hj => ?_) (fun o a b => by rw [gx_up_ne a, gx_up_ne a, gx_us_ne b]) (fun j a b => by rw [gx_up_at, if_neg a, gx_up_at, if_neg b, gx_us_ne (by decide)]) (by rw [gx_up_at, if_pos rfl]; rfl) ?_⟩
  · obtain ⟨c0, c1, c2, c3, c4, c5, c6, c7⟩ := zeq
    refine ⟨?_, ?_, ?_, ?_, ?_, ?_, ?_, ?_⟩
    · rw [zo _ (by omega) (by omega)]; exact c0
    · rw [zo _ (by omega) (by omega)]; exact c1
    · rw [zo _ (by omega) (by omega)]; exact c2
    · rw [zo _ (by omega) (by omega)]; exact c3
    · rw [zo _ (by omega) (by omega)]; exact c4
    · rw [zo _ (by omega) (by omega)]; exact c5
    · rw [zo _ (by omega) (by omega)]; exact c6
    · rw [zo _ (by omega) (by omega)]; exact c7
  · rw [gx_up_ne (by decide), gx_up_ne (by decide), gx_us_eq]
    unfold pm_cp
    rw [if_neg (by omega)]
  · rw [gx_up_ne (by decide), gx_up_ne (by decide), gx_us_eq]
    unfold pm_cp
    rw [if_pos (by omega), Nat.sub_zero]
  · rw [z0, if_neg (by decide), if_pos rfl, gx_up_at, if_neg (by decide), gx_up_at, if_pos rfl]
    exact ⟨rfl, k2, k3⟩
theorem gq_land_31 {x : Nat} (hx : x < 9223372036854775808) : gq_land (x : Int) 2147483647 = ((x % 2147483648 : Nat) : Int) := by
  unfold gq_land
  have e1 : (Int64.ofInt (x : Int)).toBitVec.toNat = x := by
    show (BitVec.ofInt 64 (x : Int)).toNat = x
    rw [BitVec.toNat_ofInt]
    omega
  have e2 : (Int64.ofInt 2147483647).toBitVec.toNat = 2147483647 := by decide
  have h : (Int64.ofInt (x : Int) &&& Int64.ofInt 2147483647).toBitVec.toNat = x % 2147483648 := by
    rw [Int64.toBitVec_and, BitVec.toNat_and, e1, e2, show (2147483647 : Nat) = 2 ^ 31 - 1 from rfl, Nat.and_two_pow_sub_one_eq_mod]
  show (Int64.ofInt (x : Int) &&& Int64.ofInt 2147483647).toBitVec.toInt = _
  rw [BitVec.toInt_eq_toNat_of_lt (by rw [h]; omega), h]
theorem pc_draw (Z : Nat → Nat → Int) {s n : Nat} {a : Int} (hs : Z 0 15 = (s : Int)) (hs2 : s < 2147483648) (ha : a = (n : Int)) (hn : 0 < n) (hn4 : n ≤ 4) : f_LE_draw (pc_h Z) 0 a = some (((mu_lcg s / 65536 % n : Nat) : Int), pc_h (gx_up Z 0 15 (mu_lcg s : Int))) := by
  subst ha
  unfold f_LE_draw
  have e1 : (s : Int) * 1103515245 + 12345 = ((s * 1103515245 + 12345 : Nat) : Int) := by simp
  have hl : mu_lcg s < 2147483648 := Nat.mod_lt _ (by decide)
  have e2 : gq_land ((s : Int) * 1103515245 + 12345) 2147483647 = (mu_lcg s : Int) := by
    rw [e1, gq_land_31 (by omega)]
    rfl
  have e3 : ((mu_lcg s : Nat) : Int).tdiv 65536 = ((mu_lcg s / 65536 : Nat) : Int) := rfl
  have e4 : ((mu_lcg s / 65536 : Nat) : Int).tmod (n : Int) = ((mu_lcg s / 65536 % n : Nat) : Int) := rfl
  rw [pc_get pc_L0 (by decide) pc_r0'.2.2.1, hs, e2, pc_put ⟨by omega, by omega⟩ pc_L0 (by decide) pc_r0'.2.2.1, pl_gi (by omega) (by omega), if_pos (by omega), pc_get pc_L0 (by decide) pc_r0'.2.2.1, gx_up_at, if_pos rfl, e3, pl_gi (by omega) (by omega), gq_g_ok (by omega), e4]
theorem m_drift {Z X : Nat → Nat → Int} {v : Int} (h : rl Z X) (hv : gx_i v) : rl_call (f_LE_drift (pc_h Z) 0 v) (f_MD_drift (pm_h X) 0 v) := by
  have h' := h
  unfold f_LE_drift f_MD_drift
  rw [gq_g_ok hv, pm_in _ hv (by decide) (by decide), pl_call]
  by_cases c : v < 1
  · rw [if_pos c, if_neg (by omega), pl_gi (by decide) (by decide), if_pos rfl]
    exact ⟨_, Z, X, rfl, rfl, h'⟩
  rw [if_neg c]
  by_cases c2 : 20 < v
  · rw [if_pos c2, if_neg (by omega), pl_gi (by decide) (by decide), if_pos rfl]
    exact ⟨_, Z, X, rfl, rfl, h'⟩
  rw [if_neg c2, if_pos (show (1 : Int) ≤ v ∧ v ≤ 20 by omega), pl_gi (by decide) (by decide), if_neg (by decide)]
  obtain ⟨t, ht⟩ : ∃ t : Nat, v = (t : Int) := ⟨v.toNat, by omega⟩
  subst ht
  -- the times, both at once
  have key : ∀ d i fu gu Z X, i + d = t → d < fu → d < gu → rl Z X → rl_call (f_LE_drift_16 fu (pc_h Z) 0 (t : Int) (i : Int)) (f_MD_drift_15 gu (pm_h X) 0 (t : Int) (i : Int)) := by
    intro d
    induction d with
    | zero =>
      intro i fu gu Z X hi hf hg h
      obtain ⟨f, rfl⟩ : ∃ f, fu = f + 1 := ⟨fu - 1, by omega⟩
      obtain ⟨g, rfl⟩ : ∃ g, gu = g + 1 := ⟨gu - 1, by omega⟩
      obtain ⟨n, B0, A, P, K, O, len, kb, hC, hG⟩ := h
      obtain ⟨⟨hn2, hn4, hX⟩, ⟨zA, zP, hp⟩, -, hnow, -⟩ := id hC
      have hS : pc_S A = true := by rcases hp with q | q <;> rw [q.1] <;> decide
      obtain ⟨s1, s2, -⟩ := pc_S_all A (pc_S_lt hS) hS
      obtain ⟨-, -, -, -, -, q5⟩ := pc_S_ref A (pc_S_lt hS) hS
      show rl_call (fb_LE_drift_16 (f_LE_drift_16 f) _ _ _ _) (fb_MD_drift_15 (f_MD_drift_15 g) _ _ _ _)
      unfold fb_LE_drift_16 fb_MD_drift_15
      rw [pl_gi (by omega) (by omega), pl_gi (by omega) (by omega), if_neg (by omega), pl_gi (by omega) (by omega), pl_gi (by omega) (by omega), if_neg (by omega), pc_grv pc_L0 (by decide) pc_r0'.1 zA, pc_get s1 (by decide) q5, pm_gr (t := 1) (by decide) rfl (by decide), pm_ald (a := 72) (o := 1) (i := 72) rfl (by decide), hnow.1.2.2.2.2.2.2]
      exact ⟨_, Z, X, rfl, rfl, n, B0, A, P, K, O, len, kb, hC, hG⟩
    | succ d ih =>
      intro i fu gu Z X hi hf hg h
      obtain ⟨f, rfl⟩ : ∃ f, fu = f + 1 := ⟨fu - 1, by omega⟩
      obtain ⟨g, rfl⟩ : ∃ g, gu = g + 1 := ⟨gu - 1, by omega⟩
      obtain ⟨n, B0, A, P, K, O, len, kb, hC, hG⟩ := h
      obtain ⟨⟨hn2, hn4, hX⟩, ⟨zA, zP, hp⟩, -, hnow, -, -, -, ⟨hs1, hs2, hs3⟩, -⟩ := id hC
      have hS : pc_S A = true := by rcases hp with q | q <;> rw [q.1] <;> decide
      obtain ⟨s1, s2, -⟩ := pc_S_all A (pc_S_lt hS) hS
      obtain ⟨q0, -, -, -, -, q5⟩ := pc_S_ref A (pc_S_lt hS) hS
      obtain ⟨g0, g1, g2, r0, r1, r2⟩ := pc_H_all (A + 1) (pc_H_lt s2) s2
      obtain ⟨s, es⟩ : ∃ s : Nat, X 0 4 = (s : Int) := ⟨(X 0 4).toNat, by omega⟩
      have s31 : s < 2147483648 := by omega
      have hl : mu_lcg s < 2147483648 := Nat.mod_lt _ (by decide)
      have hk : mu_lcg s / 65536 % n < n := Nat.mod_lt _ (by omega)
      generalize hkk : mu_lcg s / 65536 % n = k at hk
      -- drawn
      have z : ∀ o, o ≠ 0 → o ≠ 1 → o ≠ 2 → o ≠ 170 → o ≠ 171 → o ≠ 172 → gx_up Z 0 15 (mu_lcg s : Int) o = Z o := fun o a _ _ _ _ _ => gx_up_ne a
      have z0 : ∀ j, j ≠ 15 → gx_up Z 0 15 (mu_lcg s : Int) 0 j = Z 0 j := fun j hj => by rw [gx_up_at, if_neg hj]
      have hCd : rl_C n B0 A P K O len kb (gx_up Z 0 15 (mu_lcg s : Int)) (gx_up X 0 4 (mu_lcg s : Int)) := by
        obtain ⟨-, -, -, -, -, -, -, -, ⟨⟨t1, t2, t3, t4⟩, t5⟩, ⟨b1, b2, b3, b4⟩, -⟩ := id hC
        refine rl_C_io hC z z0 (gx_up_ne (by decide)) (gx_up_ne (by decide)) (fun j hj => by rw [gx_up_at, if_neg (by omega)]) ?_ ⟨⟨?_, ?_, t3, fun q hq => ?_⟩, ?_⟩ ⟨?_, ?_, b3, fun e he => ?_⟩
        · rw [gx_up_at, if_pos rfl, gx_up_at, if_pos rfl]; exact ⟨rfl, by omega, by omega⟩
        · rw [gx_up_ne (by decide)]; exact t1
        · rw [gx_up_at, if_neg (by decide)]; exact t2
        · rw [gx_up_ne (by decide), gx_up_ne (by decide)]; exact t4 q hq
        · rw [gx_up_ne (by decide), gx_up_at, if_neg (by decide)]; exact t5
        · rw [gx_up_ne (by decide)]; exact b1
        · rw [gx_up_at, if_neg (by decide)]; exact b2
        · rw [gx_up_ne (by decide), gx_up_ne (by decide), gx_up_ne (by decide), gx_up_ne (by decide)]; exact b4 e he
      have hGd := rl_G_io hC hG z z0
      have zAd : gx_up Z 0 15 (mu_lcg s : Int) 0 13 = (A : Int) := by rw [z0 13 (by decide)]; exact zA
      obtain ⟨Z2, X2, K', O', e3, e4, hC2, zo, xo, x0, x1⟩ := both_rem hCd
      have hG2 : rl_G n B0 A Z2 := rl_G_cg hGd (fun o a b => zo o (by omega)) (by rw [zo 0 (by decide)]) (by rw [zo 0 (by decide)]) ⟨zo _ (by omega), zo _ (by omega)⟩
      obtain ⟨-, -, -, hnow2, -⟩ := id hC2
      obtain ⟨fl, Z3, X3, e5, e6, fA, S3, hd⟩ := both_try hC2 (k := k) rfl hk
      have hC3 := rl_C_S (rl_C_z hC2 (rl_z_fA hC2 fA)) S3
      have hG3 := rl_G_fA hC2 hG2 fA
      show rl_call (fb_LE_drift_16 (f_LE_drift_16 f) _ _ _ _) (fb_MD_drift_15 (f_MD_drift_15 g) _ _ _ _)
      unfold fb_LE_drift_16 fb_MD_drift_15
      rw [pl_gi (by omega) (by omega), pl_gi (by omega) (by omega), if_pos (by omega), pl_gi (by omega) (by omega), pl_gi (by omega) (by omega), if_pos (by omega), pc_grv pc_L0 (by decide) pc_r0'.1 zA, pc_gr s1 (by decide) q0 (by omega), pc_get g0 (by decide) r0, hnow.1.1, pc_cv pc_L0, pc_draw Z (s := s) (n := n) (by rw [hs1]; exact es) s31 rfl (by omega) hn4, pl_call, hkk, pc_gr pc_L0 (by decide) pc_r0.2.2.2.1 (by decide), pc_grv pc_L0 (by decide) pc_r0'.1 zAd, pc_cv pc_L8, e3, pl_call, pc_cv pc_L0, e5, pl_call, pm_get (by decide) rfl, hX, pm_cv, pm_draw X (s := s) (n := n) es s31 rfl (by omega) hn4, pl_call, hkk, pm_cv, e4, pl_call, pm_cv, e6, pl_call]
      rcases hd with f0 | ⟨f1, tr⟩
      · rw [f0, pl_gi (by decide) (by decide), if_pos rfl, if_pos rfl]
        exact ih (i + 1) f g Z3 X3 (by omega) (by omega) (by omega) ⟨n, B0, A, P, K', O', len, kb, hC3, hG3⟩
      · have cnt : 0 ≤ X3 1 1992 ∧ X3 1 1992 ≤ 99999 := by
          obtain ⟨U, V, hR, -, -, -, -, -, -, -, -, t7⟩ := tr
          rw [t7]
          exact hR.2.2.2.2.2
        obtain ⟨Z4, X4, e7, e8, hC4, hG4⟩ := both_take hC3 hG3 hk hnow2 tr cnt
        rw [f1, pl_gi (by decide) (by decide), if_neg (by decide), if_neg (by decide), pc_cv pc_L0, e7, pl_call, pm_cv, e8, pl_call]
        exact ih (i + 1) f g Z4 X4 (by omega) (by omega) (by omega) ⟨n, B0, P, A, K', O', len, kb, hC4, hG4⟩
  exact key t 0 gx_fu gx_fu Z X (by omega) (show t < 1000000 by omega) (show t < 1000000 by omega) h
