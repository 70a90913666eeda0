theorem gx_up_up {X : Nat → Nat → Int} {o i j : Nat} {v w : Int} : gx_up (gx_up X o i v) o j w = gx_us X o (gx_u1 (gx_u1 (X o) i v) j w) := gx_up_us
set_option maxHeartbeats 2000000 in
theorem pm_tries (X : Nat → Nat → Int) {n k : Nat} {a : Int} {U V : Nat → Nat} (hn : X 0 1 = (n : Int)) (hn4 : n ≤ 4) (hn2 : 2 ≤ n) (ha : a = (k : Int)) (hk : k < n) (hR : pm_R n X 0 U V) :
    (mu_can n (pm_T X 8) (pm_T X 24) (pm_T X 40) (pm_T X 56) U V k → ∃ X', f_MD_tries (pm_h X) 0 a = some (1, pm_h X') ∧ pm_S X X' ∧ pm_tried n k X X' U V) ∧
    (¬ mu_can n (pm_T X 8) (pm_T X 24) (pm_T X 40) (pm_T X 56) U V k → ∃ X', f_MD_tries (pm_h X) 0 a = some (0, pm_h X') ∧ pm_S X X') := by
  subst ha
  have hB : mu_bd n (pm_T X 8) := hR.1
  have hD : mu_bd n (pm_T X 24) := hR.2.1
  have hC : mu_bd n (pm_T X 40) := hR.2.2.1
  have hG : mu_bd n (pm_T X 56) := hR.2.2.2.1
  -- behind copyRow
  have hcp := pm_copy X (x := 0) (y := 1920) (a := 0) (b := 1920) rfl rfl (by decide) (by decide) (Or.inl (by decide))
  generalize hX1 : gx_us X 1 (pm_cp (X 1) 0 1920 80) = X1 at hcp
  have S1 : pm_S X X1 := by rw [← hX1]; exact pm_S_w (fun j hj => by unfold pm_cp; rw [if_neg (by omega)])
  have T1 : ∀ q, q < 80 → X1 1 (1920 + q) = X 1 q := fun q hq => by
    rw [← hX1, gx_us_eq]
    unfold pm_cp
    rw [if_pos (by omega), show 0 + (1920 + q - 1920) = q by omega]
  have n1 : X1 0 1 = (n : Int) := (S1.2.2 1 (Or.inl rfl)).trans hn
  have hwell := pm_isWell X1 n1 hn4 hn2 ((mu_q_bd (S1.T hn4 (by decide))).mpr hB)
  have q1 := S1.T (a := 8) hn4 (by decide)
  unfold f_MD_tries
  rw [pm_cv, hcp, pl_call, pm_cv]
  rcases hwell with ⟨m, hm, hw, -, hrun⟩ | ⟨hno, m, hrun⟩
  · rw [hrun, pl_call, pl_gi (by decide) (by decide), if_neg (by decide)]
    have hwX : ∃ m, m < 9 ^ n ∧ mu_wt n (pm_T X 8) (mu_dg n m) := ⟨m, hm, (mu_q_wt q1).mp hw⟩
    generalize hX2 : pm_w6 X1 n m = X2
    have S2 : pm_S X X2 := S1.trans (by rw [← hX2]; exact pm_S_o (by decide))
    have T2 : ∀ q, q < 80 → X2 1 (1920 + q) = X 1 q := fun q hq => by rw [← T1 q hq, ← hX2]; unfold pm_w6; rw [gx_us_ne (by decide)]
    have n2 : X2 0 1 = (n : Int) := (S2.2.2 1 (Or.inl rfl)).trans hn
    have R2 : pm_R n X2 0 U V := pm_R_q hn4 (fun j _ hj => S2.1 j (by omega)) hR
    have hwo := pm_worth X2 (x := 0) (k := k) (a := 0) (b := (k : Int)) n2 hn4 rfl rfl hk (by decide) R2.1 R2.2.2.2.2.1
    rw [fr_W_q (S2.T (a := 8) hn4 (by decide)) hk] at hwo
    rw [pm_cv, hwo, pl_call]
    generalize hs : fr_W (pm_T X 8) n k U V = s
    generalize hX3 : pm_f3 X2 s = X3
    have S3 : pm_S X X3 := S2.trans (by rw [← hX3]; exact pm_S_f3)
    have T3 : ∀ q, q < 80 → X3 1 (1920 + q) = X 1 q := fun q hq => by rw [← T2 q hq, ← hX3, pm_f3_o (by decide)]
    by_cases hz : s.2.2 = true
    · rw [if_pos hz, pl_gi (by decide) (by decide), if_pos rfl]
      refine ⟨fun hc => ?_, fun _ => ⟨X3, rfl, S3⟩⟩
      have h1 := hc.2.1
      rw [hs, hz] at h1
      cases h1
    · have ez : s.2.2 = false := by simpa using hz
      have hsok : s.1 ≤ 1000000000 ∧ s.2.1 ≤ 1000000000 := by
        have hU : ∀ i, i < n → 0 < U i ∧ U i ≤ 1000000000 ∧ 0 < V i ∧ V i ≤ 1000000000 := fun i hi => (hR.2.2.2.2.1 i hi).2.2
        have o1 := fr_P_ok (B := pm_T X 8) (k := k) (sg := 1) (z := false) hU n (Nat.le_refl _)
        have o2 := fr_P_ok (B := pm_T X 8) (k := k) (sg := -1) (z := (fr_P (pm_T X 8) k 1 U V false n).2.2) hU n (Nat.le_refl _)
        have hzz := fun (h : (fr_P (pm_T X 8) k 1 U V false n).2.2 = true) => (by rw [h]; exact fr_P_z n : (fr_P (pm_T X 8) k (-1) U V (fr_P (pm_T X 8) k 1 U V false n).2.2 n).2.2 = true)
        rw [← hs] at ez ⊢
        unfold fr_W fr_E at ez ⊢
        generalize fr_P (pm_T X 8) k 1 U V false n = s1 at *
        generalize fr_P (pm_T X 8) k (-1) U V s1.2.2 n = s2 at *
        by_cases h2 : s2.2.2 = true
        · rw [if_pos h2, h2] at ez
          cases ez
        · rw [if_neg h2] at ez ⊢
          have h1 : s1.2.2 = false := by
            cases h : s1.2.2 with
            | false => rfl
            | true => exact absurd (hzz h) h2
          have b1 := o1.2.2.1 h1
          have b2 := o2.2.2.1 (by simpa using h2)
          have m1 := fr_mul_le b1.1 b2.2
          have m2 := fr_mul_le b2.1 b1.2
          have m3 := fr_mul_le b1.2 b2.2
          have p1 := Nat.mul_pos o1.1 o2.2.1
          have p2 := Nat.mul_pos o1.2.1 o2.2.1
          obtain ⟨-, -, w3, w4, w5, w6⟩ := hR.2.2.2.2.1 k hk
          exact (fr_T_ok (fr_S_ok (by omega) p2 (by omega) (by omega)) w5 w3 w6 w4).2.2.1 ez
      have f13 : X3 0 13 = (s.1 : Int) := by rw [← hX3, pm_f3_13]
      have f14 : X3 0 14 = (s.2.1 : Int) := by rw [← hX3, pm_f3_14]
      rw [if_neg hz, pl_gi (by decide) (by decide), if_neg (by decide), pm_gr (t := 1) (by decide) rfl (by decide), pm_get (by decide) rfl, f13, pm_ast (o := 1) (i := 1920 + k) ⟨by omega, by omega⟩ (by omega) (by show _ < 2000; omega), pm_gr (t := 1) (by decide) rfl (by decide), pm_get (by decide) rfl]
      have f14' : gx_up X3 1 (1920 + k) (s.1 : Int) 0 14 = (s.2.1 : Int) := by rw [gx_up, gx_us_ne (by decide)]; exact f14
      rw [f14', pm_ast (o := 1) (i := 1924 + k) ⟨by omega, by omega⟩ (by omega) (by show _ < 2000; omega)]
      generalize hX4 : gx_up (gx_up X3 1 (1920 + k) (s.1 : Int)) 1 (1924 + k) (s.2.1 : Int) = X4
      have S4 : pm_S X X4 := S3.trans (by
        rw [← hX4, gx_up_up]
        exact pm_S_w (fun j hj => by unfold gx_u1; rw [if_neg (by omega), if_neg (by omega)]))
      have v4 : ∀ q, X4 1 q = if q = 1924 + k then (s.2.1 : Int) else if q = 1920 + k then (s.1 : Int) else X3 1 q := fun q => by
        rw [← hX4, gx_up_up, gx_us_eq]
        rfl
      have n4 : X4 0 1 = (n : Int) := (S4.2.2 1 (Or.inl rfl)).trans hn
      have R4 : pm_R n X4 0 U V := pm_R_q hn4 (fun j _ hj => S4.1 j (by omega)) hR
      -- the table
      rw [pm_cv, pm_turned X4 (a := 0) (b := (k : Int)) (c := 1920) (x := 0) (k := k) (y := 1920) n4 hn4 rfl rfl rfl hk (by decide) (by decide) (Or.inl (by decide)) R4.1, pl_call]
      generalize hX5 : gx_us X4 1 (pm_wr (X4 1) (1920 + 8) (fun i j => i < n ∧ j < n) (mu_B (pm_T X4 (0 + 8)) k)) = X5
      have S5 : pm_S X X5 := S4.trans (by rw [← hX5]; exact pm_S_w (fun j hj => pm_wr_out (by omega)))
      have n5 : X5 0 1 = (n : Int) := (S5.2.2 1 (Or.inl rfl)).trans hn
      have R5 : pm_R n X5 0 U V := pm_R_q hn4 (fun j _ hj => S5.1 j (by omega)) hR
      have v5 : ∀ q, X5 1 q = pm_wr (X4 1) 1928 (fun i j => i < n ∧ j < n) (mu_B (pm_T X4 8) k) q := fun q => by rw [← hX5, gx_us_eq]
      rw [pm_cv, pm_denominators X5 (a := 0) (b := (k : Int)) (c := 1920) (x := 0) (k := k) (y := 1920) n5 hn4 rfl rfl rfl hk (by decide) (by decide) (Or.inl (by decide)) R5.1 R5.2.1, pl_call, mu_fl_and2, fb_tries_87]
      generalize hX6 : gx_us X5 1 (pm_wr (X5 1) (1920 + 24) (fun i j => i = k ∧ j < n) (mu_D n (pm_T X5 (0 + 8)) (pm_T X5 (0 + 24)) k)) = X6
      have S6 : pm_S X X6 := S5.trans (by rw [← hX6]; exact pm_S_w (fun j hj => pm_wr_out (by omega)))
      have n6 : X6 0 1 = (n : Int) := (S6.2.2 1 (Or.inl rfl)).trans hn
      have R6 : pm_R n X6 0 U V := pm_R_q hn4 (fun j _ hj => S6.1 j (by omega)) hR
      have v6 : ∀ q, X6 1 q = pm_wr (X5 1) 1944 (fun i j => i = k ∧ j < n) (mu_D n (pm_T X5 8) (pm_T X5 24) k) q := fun q => by rw [← hX6, gx_us_eq]
      unfold fb_MD_tries_87
      rw [pm_cv, pm_signs X6 (a := 0) (b := (k : Int)) (c := 1920) (x := 0) (k := k) (y := 1920) n6 hn4 rfl rfl rfl hk (by decide) (by decide) (Or.inl (by decide)) R6.1 R6.2.2.1, pl_call, mu_fl_and2, fb_tries_109]
      generalize hX7 : gx_us X6 1 (pm_wr (X6 1) (1920 + 40) (fun i j => i < n ∧ j < n) (mu_C (pm_T X6 (0 + 8)) (pm_T X6 (0 + 40)) k)) = X7
      have S7 : pm_S X X7 := S6.trans (by rw [← hX7]; exact pm_S_w (fun j hj => pm_wr_out (by omega)))
      have n7 : X7 0 1 = (n : Int) := (S7.2.2 1 (Or.inl rfl)).trans hn
      have R7 : pm_R n X7 0 U V := pm_R_q hn4 (fun j _ hj => S7.1 j (by omega)) hR
      have v7 : ∀ q, X7 1 q = pm_wr (X6 1) 1960 (fun i j => i < n ∧ j < n) (mu_C (pm_T X6 8) (pm_T X6 40) k) q := fun q => by rw [← hX7, gx_us_eq]
      unfold fb_MD_tries_109 fb_MD_tries_130
      rw [pm_cv, pm_degrees X7 (a := 0) (b := (k : Int)) (c := 1920) (x := 0) (k := k) (y := 1920) n7 hn4 rfl rfl rfl hk (by decide) (by decide) (Or.inl (by decide)) R7.1 R7.2.2.2.1, pl_call, mu_fl_and2]
      generalize hX8 : gx_us X7 1 (pm_wr (X7 1) (1920 + 56) (fun i j => i = k ∧ j < n) (mu_G n (pm_T X7 (0 + 8)) (pm_T X7 (0 + 40)) (pm_T X7 (0 + 56)) k)) = X8
      have S8 : pm_S X X8 := S7.trans (by rw [← hX8]; exact pm_S_w (fun j hj => pm_wr_out (by omega)))
      have v8 : ∀ q, X8 1 q = pm_wr (X7 1) 1976 (fun i j => i = k ∧ j < n) (mu_G n (pm_T X7 8) (pm_T X7 40) (pm_T X7 56) k) q := fun q => by rw [← hX8, gx_us_eq]
      have cB : mu_q n (mu_B (pm_T X4 8) k) (mu_B (pm_T X 8) k) := mu_q_B (S4.T hn4 (by decide)) hk
      have cD : mu_q n (mu_D n (pm_T X5 8) (pm_T X5 24) k) (mu_D n (pm_T X 8) (pm_T X 24) k) := mu_q_D (S5.T hn4 (by decide)) (S5.T hn4 (by decide)) hk
      have cC : mu_q n (mu_C (pm_T X6 8) (pm_T X6 40) k) (mu_C (pm_T X 8) (pm_T X 40) k) := mu_q_C (S6.T hn4 (by decide)) (S6.T hn4 (by decide)) hk
      have cG : mu_q n (mu_G n (pm_T X7 8) (pm_T X7 40) (pm_T X7 56) k) (mu_G n (pm_T X 8) (pm_T X 40) (pm_T X 56) k) := mu_q_G (S7.T hn4 (by decide)) (S7.T hn4 (by decide)) (S7.T hn4 (by decide)) hk
      -- the flags together
      have hcan : mu_can n (pm_T X 8) (pm_T X 24) (pm_T X 40) (pm_T X 56) U V k ↔ ((((mu_bd n (mu_B (pm_T X4 (0 + 8)) k) ∧ mu_fr (mu_D n (pm_T X5 (0 + 8)) (pm_T X5 (0 + 24)) k) k n) ∧ mu_bd n (mu_C (pm_T X6 (0 + 8)) (pm_T X6 (0 + 40)) k)) ∧ mu_fr (mu_G n (pm_T X7 (0 + 8)) (pm_T X7 (0 + 40)) (pm_T X7 (0 + 56)) k) k n)) := by
        constructor
        · intro h
          exact ⟨⟨⟨(mu_q_bd cB).mpr h.2.2.1, (mu_q_fr cD hk).mpr h.2.2.2.1⟩, (mu_q_bd cC).mpr h.2.2.2.2.1⟩, (mu_q_fr cG hk).mpr h.2.2.2.2.2⟩
        · intro h
          exact ⟨hwX, by rw [hs]; exact ez, (mu_q_bd cB).mp h.1.1.1, (mu_q_fr cD hk).mp h.1.1.2, (mu_q_bd cC).mp h.1.2, (mu_q_fr cG hk).mp h.2⟩
      refine ⟨fun hc => ⟨X8, by rw [if_pos (hcan.mp hc)], S8, ?_⟩, fun hc => ⟨X8, by rw [if_neg (fun z => hc (hcan.mpr z))], S8⟩⟩
      have bB := hc.2.2
      -- what lies where
      have u8 : ∀ q, q < 1976 ∨ 1992 ≤ q → X8 1 q = X7 1 q := fun q hq => by rw [v8, pm_wr_out (by omega)]
      have u7 : ∀ q, q < 1960 ∨ 1976 ≤ q → X7 1 q = X6 1 q := fun q hq => by rw [v7, pm_wr_out (by omega)]
      have u6 : ∀ q, q < 1944 ∨ 1960 ≤ q → X6 1 q = X5 1 q := fun q hq => by rw [v6, pm_wr_out (by omega)]
      have u5 : ∀ q, q < 1928 ∨ 1944 ≤ q → X5 1 q = X4 1 q := fun q hq => by rw [v5, pm_wr_out (by omega)]
      have u4 : ∀ q, q < 80 → 8 ≤ q → X4 1 (1920 + q) = X 1 q := fun q hq h8 => by rw [v4, if_neg (by omega), if_neg (by omega)]; exact T3 q hq
      refine ⟨fun i hi j hj => ?_, fun i hi j hj => ?_, fun i hi j hj => ?_, fun i hi j hj => ?_, fun i hi => ?_, fun i hi => ?_, ?_⟩
      · show X8 1 (1928 + 4 * i + j) = _
        rw [u8 _ (by omega), u7 _ (by omega), u6 _ (by omega), v5, pm_wr_in (by omega) (by omega), if_pos ⟨hi, hj⟩]
        exact cB i hi j hj
      · show X8 1 (1944 + 4 * i + j) = _
        rw [u8 _ (by omega), u7 _ (by omega), v6, pm_wr_in (by omega) (by omega)]
        by_cases e : i = k
        · rw [if_pos ⟨e, hj⟩]
          exact cD i hi j hj
        · rw [if_neg (fun z => e z.1), u5 _ (by omega), show 1944 + 4 * i + j = 1920 + (24 + 4 * i + j) by omega, u4 _ (by omega) (by omega)]
          unfold mu_D
          rw [if_neg e]
          rfl
      · show X8 1 (1960 + 4 * i + j) = _
        rw [u8 _ (by omega), v7, pm_wr_in (by omega) (by omega), if_pos ⟨hi, hj⟩]
        exact cC i hi j hj
      · show X8 1 (1976 + 4 * i + j) = _
        rw [v8, pm_wr_in (by omega) (by omega)]
        by_cases e : i = k
        · rw [if_pos ⟨e, hj⟩]
          exact cG i hi j hj
        · rw [if_neg (fun z => e z.1), u7 _ (by omega), u6 _ (by omega), u5 _ (by omega), show 1976 + 4 * i + j = 1920 + (56 + 4 * i + j) by omega, u4 _ (by omega) (by omega)]
          unfold mu_G
          rw [if_neg e]
          rfl
      · rw [u8 _ (by omega), u7 _ (by omega), u6 _ (by omega), u5 _ (by omega), v4, if_neg (by omega)]
        by_cases e : i = k
        · rw [if_pos (by omega), if_pos e]
          rw [hs]
        · rw [if_neg (by omega), if_neg e]
          exact T3 i (by omega)
      · rw [u8 _ (by omega), u7 _ (by omega), u6 _ (by omega), u5 _ (by omega), v4]
        by_cases e : i = k
        · rw [if_pos (by omega), if_pos e]
          rw [hs]
        · rw [if_neg (by omega), if_neg (by omega), if_neg e, show 1924 + i = 1920 + (4 + i) by omega]
          exact T3 (4 + i) (by omega)
      · rw [u8 _ (by omega), u7 _ (by omega), u6 _ (by omega), u5 _ (by omega)]
        exact u4 72 (by omega) (by omega)
  · rw [hrun, pl_call, pl_gi (by decide) (by decide), if_pos rfl]
    have S2 : pm_S X (pm_w6 X1 n m) := S1.trans (pm_S_o (by decide))
    refine ⟨fun hc => ?_, fun _ => ⟨_, rfl, S2⟩⟩
    obtain ⟨m', h1, h2⟩ := hc.1
    exact absurd ((mu_q_wt q1).mpr h2) (hno m' h1)
