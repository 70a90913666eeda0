/-! denominators, signs, degrees of the reference -/
theorem mu_D_bd {n k m : Nat} {B D : Nat → Nat → Int} (hn : n ≤ 4) (hB : mu_bd n B) (hD : mu_bd n D) (hk : k < n) (hm : m < n) : (-39204 ≤ mu_gs B D k 1 m n ∧ mu_gs B D k 1 m n ≤ 39204) ∧ (-39204 ≤ mu_gs B D k (-1) m n ∧ mu_gs B D k (-1) m n ≤ 39204) := by
  have h1 := mu_gs_bd (n := n) (B := B) (R := D) (k := k) (m := m) (s := 1) (Or.inl rfl) (fun i hi => hB i hi k hk) (fun i hi => hD i hi m hm) n (Nat.le_refl _)
  have h2 := mu_gs_bd (n := n) (B := B) (R := D) (k := k) (m := m) (s := -1) (Or.inr rfl) (fun i hi => hB i hi k hk) (fun i hi => hD i hi m hm) n (Nat.le_refl _)
  omega
abbrev mu_fr (M : Nat → Nat → Int) (k m : Nat) : Prop := ∀ c, c < m → mu_in (M k c)
set_option maxHeartbeats 1000000 in
theorem pm_denominators (X : Nat → Nat → Int) {n x k y : Nat} {a b c : Int} (hn : X 0 1 = (n : Int)) (hn4 : n ≤ 4) (ha : a = (x : Int)) (hb : b = (k : Int)) (hc : c = (y : Int)) (hk : k < n) (hx : x + 80 ≤ 2000) (hy : y + 80 ≤ 2000) (hxy : x + 80 ≤ y ∨ y + 80 ≤ x) (hB : mu_bd n (pm_T X (x + 8))) (hD : mu_bd n (pm_T X (x + 24))) :
    f_MD_denominators (pm_h X) 0 a b c = some (mu_fl (mu_fr (mu_D n (pm_T X (x + 8)) (pm_T X (x + 24)) k) k n), pm_h (gx_us X 1 (pm_wr (X 1) (y + 24) (fun i j => i = k ∧ j < n) (mu_D n (pm_T X (x + 8)) (pm_T X (x + 24)) k)))) := by
  subst ha hb hc
  unfold f_MD_denominators
  generalize hMe : mu_D n (pm_T X (x + 8)) (pm_T X (x + 24)) k = M
  have hT : ∀ (P : Nat → Nat → Prop) [∀ i j, Decidable (P i j)] (o r c : Nat), o + 16 ≤ 80 → r < 4 → c < 4 → gx_us X 1 (pm_wr (X 1) (y + 24) P M) 1 (x + o + 4 * r + c) = pm_T X (x + o) r c := by
    intro P _ o r c ho hr hc
    rw [gx_us_eq, pm_wr_out (by omega)]
    rfl
  have hn' : ∀ (P : Nat → Nat → Prop) [∀ i j, Decidable (P i j)], gx_us X 1 (pm_wr (X 1) (y + 24) P M) 0 1 = (n : Int) := by
    intro P _
    rw [gx_us_ne (by decide)]
    exact hn
  have hg : ∀ (B' D' : Nat → Nat → Int), (∀ r c, r < 4 → c < 4 → B' r c = pm_T X (x + 8) r c) → (∀ r c, r < 4 → c < 4 → D' r c = pm_T X (x + 24) r c) → ∀ (s : Int) (m : Nat), m < 4 → ∀ i, i ≤ 4 → mu_gs B' D' k s m i = mu_gs (pm_T X (x + 8)) (pm_T X (x + 24)) k s m i := by
    intro B' D' h1 h2 s m hm i
    induction i with
    | zero => intro _; rfl
    | succ i ih => intro hi; simp only [mu_gs, ih (by omega), h1 i k (by omega) (by omega), h2 i m (by omega) hm]
  have e0 : f_MD_denominators_6 gx_fu (pm_h X) 0 (x : Int) (k : Int) (y : Int) 1 0 = f_MD_denominators_6 gx_fu (pm_h (gx_us X 1 (pm_wr (X 1) (y + 24) (fun i j => i = k ∧ j < 0) M))) 0 (x : Int) (k : Int) (y : Int) (mu_fl (mu_fr M k 0)) ((0 : Nat) : Int) := by
    rw [gx_us_id (pm_wr_0 (fun r c _ _ => by omega))]
    have : mu_fl (mu_fr M k 0) = 1 := if_pos (fun _ h => absurd h (by omega))
    rw [this]
    rfl
  rw [e0]
  refine pl_loop0 (A := fun fu m => f_MD_denominators_6 fu (pm_h (gx_us X 1 (pm_wr (X 1) (y + 24) (fun i j => i = k ∧ j < m) M))) 0 (x : Int) (k : Int) (y : Int) (mu_fl (mu_fr M k m)) (m : Int)) n (by omega) (fun m hm fu => ?_) (fun fu => ?_)
  · show fb_MD_denominators_6 (f_MD_denominators_6 fu) _ 0 _ _ _ _ _ = _
    have hbd := mu_D_bd hn4 hB hD hk hm
    have hdk := hD k hk m hm
    have hM : M k m = (if mu_gs (pm_T X (x + 8)) (pm_T X (x + 24)) k (-1) m n < mu_gs (pm_T X (x + 8)) (pm_T X (x + 24)) k 1 m n then mu_gs (pm_T X (x + 8)) (pm_T X (x + 24)) k 1 m n else mu_gs (pm_T X (x + 8)) (pm_T X (x + 24)) k (-1) m n) - pm_T X (x + 24) k m := by rw [← hMe]; simp [mu_D]
    have hlay : ∀ t : Int, t - pm_T X (x + 24) k m = M k m → fb_MD_denominators_55 (f_MD_denominators_6 fu) (pm_h (gx_us X 1 (pm_wr (X 1) (y + 24) (fun i j => i = k ∧ j < m) M))) 0 (x : Int) (k : Int) (y : Int) (mu_fl (mu_fr M k m)) (m : Int) t = f_MD_denominators_6 fu (pm_h (gx_us X 1 (pm_wr (X 1) (y + 24) (fun i j => i = k ∧ j < m + 1) M))) 0 (x : Int) (k : Int) (y : Int) (mu_fl (mu_fr M k (m + 1))) ((m + 1 : Nat) : Int) := by
      intro t ht
      unfold fb_MD_denominators_55 fb_MD_denominators_103 fb_MD_denominators_104
      have hv : -39303 ≤ M k m ∧ M k m ≤ 39303 := by rw [hM]; split <;> omega
      rw [pm_gr (t := 1) (by decide) rfl (by decide), pm_ald (o := 1) (i := x + 24 + 4 * k + m) (by omega) (by show _ < 2000; omega), hT _ 24 k m (by omega) (by omega) (by omega), ht, pm_cv, pm_lay _ (i := y + 24 + 4 * k + m) (by omega) (by omega) ⟨by omega, by omega⟩, pl_call, mu_fl_and, gx_up_us, pm_wr_step (Q := fun i j => i = k ∧ j < m + 1) (by omega) (by omega) rfl (fun r c hr hc => by omega)]
      have e1 : mu_fl (mu_fr M k (m + 1)) = if mu_fr M k m ∧ mu_in (M k m) then 1 else 0 := mu_fl_iff mu_all_succ
      rw [e1]
      by_cases hh : mu_fr M k m ∧ mu_in (M k m)
      · rw [if_pos hh, if_pos hh]; rfl
      · rw [if_neg hh, if_neg hh]; rfl
    unfold fb_MD_denominators_6
    have hB' : ∀ i, i < n → mu_in (pm_T (gx_us X 1 (pm_wr (X 1) (y + 24) (fun i j => i = k ∧ j < m) M)) (x + 8) i k) := fun i hi => by
      have := hB i hi k hk
      have e := hT (fun i j => i = k ∧ j < m) 8 i k (by omega) (by omega) (by omega)
      unfold pm_T at e ⊢
      rw [e]
      exact this
    have hD' : ∀ i, i < n → mu_in (pm_T (gx_us X 1 (pm_wr (X 1) (y + 24) (fun i j => i = k ∧ j < m) M)) (x + 24) i m) := fun i hi => by
      have := hD i hi m hm
      have e := hT (fun i j => i = k ∧ j < m) 24 i m (by omega) (by omega) (by omega)
      unfold pm_T at e ⊢
      rw [e]
      exact this
    rw [pm_get (by decide) rfl, hn', pl_gi (by omega) (by omega), if_pos (by omega), pm_cv, pm_gathered _ (c := 24) (x := x) (k := k) (R := 24) (m := m) (hn' _) hn4 rfl rfl rfl rfl (Or.inl rfl) (by omega) (by omega) hx (by omega) hB' hD', pl_call, pm_cv, pm_gathered _ (c := 24) (x := x) (k := k) (R := 24) (m := m) (hn' _) hn4 rfl rfl rfl rfl (Or.inr rfl) (by omega) (by omega) hx (by omega) hB' hD', pl_call]
    have hg1 := hg (pm_T (gx_us X 1 (pm_wr (X 1) (y + 24) (fun i j => i = k ∧ j < m) M)) (x + 8)) (pm_T (gx_us X 1 (pm_wr (X 1) (y + 24) (fun i j => i = k ∧ j < m) M)) (x + 24)) (fun r c hr hc => hT _ 8 r c (by omega) hr hc) (fun r c hr hc => hT _ 24 r c (by omega) hr hc)
    rw [hg1 1 m (by omega) n hn4, hg1 (-1) m (by omega) n hn4]
    rw [pl_gi (by omega) (by omega), pl_gi (by omega) (by omega)]
    by_cases hlt : mu_gs (pm_T X (x + 8)) (pm_T X (x + 24)) k (-1) m n < mu_gs (pm_T X (x + 8)) (pm_T X (x + 24)) k 1 m n
    · rw [if_pos hlt, hlay _ (by rw [hM, if_pos hlt])]
    · rw [if_neg hlt, hlay _ (by rw [hM, if_neg hlt])]
  · show fb_MD_denominators_6 (f_MD_denominators_6 fu) _ 0 _ _ _ _ _ = _
    unfold fb_MD_denominators_6
    rw [pm_get (by decide) rfl, hn', pl_gi (by omega) (by omega), if_neg (by omega), gq_g_ok mu_fl_i.2]
theorem mu_C_bd {n k j m : Nat} {B C : Nat → Nat → Int} (hB : mu_bd n B) (hC : mu_bd n C) (hk : k < n) (hj : j < n) (hm : m < n) : -9900 ≤ mu_C B C k j m ∧ mu_C B C k j m ≤ 9900 := by
  have h1 := hC j hj m hm
  have h3 := hC k hk m hm
  have h2 := mu_both_bd (hC k hk m hm) (hB k hk j hj)
  unfold mu_C
  split <;> omega
set_option maxHeartbeats 1000000 in
theorem pm_signs (X : Nat → Nat → Int) {n x k y : Nat} {a b c : Int} (hn : X 0 1 = (n : Int)) (hn4 : n ≤ 4) (ha : a = (x : Int)) (hb : b = (k : Int)) (hc : c = (y : Int)) (hk : k < n) (hx : x + 80 ≤ 2000) (hy : y + 80 ≤ 2000) (hxy : x + 80 ≤ y ∨ y + 80 ≤ x) (hB : mu_bd n (pm_T X (x + 8))) (hC : mu_bd n (pm_T X (x + 40))) :
    f_MD_signs (pm_h X) 0 a b c = some (mu_fl (mu_bd n (mu_C (pm_T X (x + 8)) (pm_T X (x + 40)) k)), pm_h (gx_us X 1 (pm_wr (X 1) (y + 40) (fun i j => i < n ∧ j < n) (mu_C (pm_T X (x + 8)) (pm_T X (x + 40)) k)))) := by
  subst ha hb hc
  unfold f_MD_signs
  have hMd : ∀ r c, r < n → c < n → -9900 ≤ mu_C (pm_T X (x + 8)) (pm_T X (x + 40)) k r c ∧ mu_C (pm_T X (x + 8)) (pm_T X (x + 40)) k r c ≤ 9900 := fun r c hr hc => mu_C_bd hB hC hk hr hc
  generalize hMe : mu_C (pm_T X (x + 8)) (pm_T X (x + 40)) k = M at hMd
  have hT : ∀ (P : Nat → Nat → Prop) [∀ i j, Decidable (P i j)] (o r c : Nat), o + 16 ≤ 80 → r < 4 → c < 4 → gx_us X 1 (pm_wr (X 1) (y + 40) P M) 1 (x + o + 4 * r + c) = pm_T X (x + o) r c := by
    intro P _ o r c ho hr hc
    rw [gx_us_eq, pm_wr_out (by omega)]
    rfl
  have hn' : ∀ (P : Nat → Nat → Prop) [∀ i j, Decidable (P i j)], gx_us X 1 (pm_wr (X 1) (y + 40) P M) 0 1 = (n : Int) := by
    intro P _
    rw [gx_us_ne (by decide)]
    exact hn
  have e0 : f_MD_signs_6 gx_fu (pm_h X) 0 (x : Int) (k : Int) (y : Int) 1 0 = f_MD_signs_6 gx_fu (pm_h (gx_us X 1 (pm_wr (X 1) (y + 40) (mu_to n 0 0) M))) 0 (x : Int) (k : Int) (y : Int) (mu_fl (mu_fi n M 0 0)) ((0 : Nat) : Int) := by
    rw [gx_us_id (pm_wr_0 (fun r c _ _ => by omega))]
    have : mu_fl (mu_fi n M 0 0) = 1 := if_pos ⟨fun _ h => absurd h (by omega), fun _ h => absurd h (by omega)⟩
    rw [this]
    rfl
  rw [e0]
  refine pl_loop0 (A := fun fu i => f_MD_signs_6 fu (pm_h (gx_us X 1 (pm_wr (X 1) (y + 40) (mu_to n i 0) M))) 0 (x : Int) (k : Int) (y : Int) (mu_fl (mu_fi n M i 0)) (i : Int)) n (by omega) (fun i hi fu => ?_) (fun fu => ?_)
  · show fb_MD_signs_6 (f_MD_signs_6 fu) _ 0 _ _ _ _ _ = _
    unfold fb_MD_signs_6
    rw [pm_get (by decide) rfl, hn', pl_gi (by omega) (by omega), if_pos (by omega)]
    refine (pl_loop0 (A := fun gu j => f_MD_signs_18 (f_MD_signs_6 fu) gu (pm_h (gx_us X 1 (pm_wr (X 1) (y + 40) (mu_to n i j) M))) 0 (x : Int) (k : Int) (y : Int) (mu_fl (mu_fi n M i j)) (i : Int) (j : Int)) n (by omega) (fun j hj gu => ?_) (fun gu => ?_))
    · show fb_MD_signs_18 (f_MD_signs_6 fu) (f_MD_signs_18 (f_MD_signs_6 fu) gu) _ 0 _ _ _ _ _ _ = _
      have hlay : fb_MD_signs_88 (f_MD_signs_6 fu) (f_MD_signs_18 (f_MD_signs_6 fu) gu) (pm_h (gx_us X 1 (pm_wr (X 1) (y + 40) (mu_to n i j) M))) 0 (x : Int) (k : Int) (y : Int) (mu_fl (mu_fi n M i j)) (i : Int) (j : Int) (M i j) = f_MD_signs_18 (f_MD_signs_6 fu) gu (pm_h (gx_us X 1 (pm_wr (X 1) (y + 40) (mu_to n i (j + 1)) M))) 0 (x : Int) (k : Int) (y : Int) (mu_fl (mu_fi n M i (j + 1))) (i : Int) ((j + 1 : Nat) : Int) := by
        unfold fb_MD_signs_88 fb_MD_signs_120 fb_MD_signs_121
        have hv := hMd i j hi hj
        rw [pm_cv, pm_lay _ (i := y + 40 + 4 * i + j) (by omega) (by omega) ⟨by omega, by omega⟩, pl_call, mu_fl_and, gx_up_us, pm_wr_step (Q := mu_to n i (j + 1)) (by omega) (by omega) rfl (fun r c hr hc => by omega)]
        have e1 : mu_fl (mu_fi n M i (j + 1)) = if mu_fi n M i j ∧ mu_in (M i j) then 1 else 0 := mu_fl_iff mu_fi_step
        rw [e1]
        by_cases hh : mu_fi n M i j ∧ mu_in (M i j)
        · rw [if_pos hh, if_pos hh]; rfl
        · rw [if_neg hh, if_neg hh]; rfl
      unfold fb_MD_signs_18
      rw [pm_get (by decide) rfl, hn', pl_gi (by omega) (by omega), if_pos (by omega), pm_gr (t := 1) (by decide) rfl (by decide), pm_ald (o := 1) (i := x + 40 + 4 * k + j) (by omega) (by show _ < 2000; omega), pl_gi (by omega) (by omega), pl_gi (by omega) (by omega), hT _ 40 k j (by omega) (by omega) (by omega)]
      have hM : M i j = if i = k then -pm_T X (x + 40) k j else pm_T X (x + 40) i j + mu_both (pm_T X (x + 40) k j) (pm_T X (x + 8) k i) := by rw [← hMe]; rfl
      by_cases h1 : i = k
      · rw [if_pos (by omega), ← hlay, hM, if_pos h1]
      · have b1 := hC k hk j hj
        have b2 := hB k hk i hi
        rw [if_neg (by omega), pm_gr (t := 1) (by decide) rfl (by decide), pm_ald (o := 1) (i := x + 40 + 4 * i + j) (by omega) (by show _ < 2000; omega), hT _ 40 i j (by omega) (by omega) (by omega), pm_cv, pm_b _ (x := x) (i := k) (j := i) rfl rfl rfl (by omega), pl_call, hT _ 8 k i (by omega) (by omega) (by omega), pm_both _ ⟨by omega, by omega⟩ ⟨by omega, by omega⟩, pl_call, ← hlay, hM, if_neg h1]
    · show fb_MD_signs_18 (f_MD_signs_6 fu) (f_MD_signs_18 (f_MD_signs_6 fu) gu) _ 0 _ _ _ _ _ _ = _
      unfold fb_MD_signs_18
      rw [pm_get (by decide) rfl, hn', pl_gi (by omega) (by omega), if_neg (by omega), pm_wr_cg (Q := mu_to n (i + 1) 0) (fun r c hr hc => by omega), mu_fl_iff mu_fi_row]
      rfl
  · show fb_MD_signs_6 (f_MD_signs_6 fu) _ 0 _ _ _ _ _ = _
    unfold fb_MD_signs_6
    rw [pm_get (by decide) rfl, hn', pl_gi (by omega) (by omega), if_neg (by omega), gq_g_ok mu_fl_i.2, pm_wr_cg (Q := fun i j => i < n ∧ j < n) (fun r c hr hc => by omega), mu_fl_iff mu_fi_all]
theorem mu_upb_le {C : Nat → Nat → Int} {k : Nat} (m : Nat) : mu_upb C k (m + 1) = (mu_upb C k m || decide (0 < C k m)) := rfl
def mu_b01 (b : Bool) : Int := if b = true then 1 else 0
theorem mu_b01_i (b : Bool) : gx_i (mu_b01 b) := by cases b <;> decide
set_option maxHeartbeats 1000000 in
theorem pm_degrees (X : Nat → Nat → Int) {n x k y : Nat} {a b c : Int} (hn : X 0 1 = (n : Int)) (hn4 : n ≤ 4) (ha : a = (x : Int)) (hb : b = (k : Int)) (hc : c = (y : Int)) (hk : k < n) (hx : x + 80 ≤ 2000) (hy : y + 80 ≤ 2000) (hxy : x + 80 ≤ y ∨ y + 80 ≤ x) (hB : mu_bd n (pm_T X (x + 8))) (hG : mu_bd n (pm_T X (x + 56))) :
    f_MD_degrees (pm_h X) 0 a b c = some (mu_fl (mu_fr (mu_G n (pm_T X (x + 8)) (pm_T X (x + 40)) (pm_T X (x + 56)) k) k n), pm_h (gx_us X 1 (pm_wr (X 1) (y + 56) (fun i j => i = k ∧ j < n) (mu_G n (pm_T X (x + 8)) (pm_T X (x + 40)) (pm_T X (x + 56)) k)))) := by
  subst ha hb hc
  unfold f_MD_degrees
  generalize hMe : mu_G n (pm_T X (x + 8)) (pm_T X (x + 40)) (pm_T X (x + 56)) k = M
  refine pl_loop0 (A := fun fu m => f_MD_degrees_6 fu (pm_h X) 0 (x : Int) (k : Int) (y : Int) (mu_b01 (mu_upb (pm_T X (x + 40)) k m)) (m : Int)) n (by omega) (fun m hm fu => ?_) (fun fu => ?_)
  · show fb_MD_degrees_6 (f_MD_degrees_6 fu) _ 0 _ _ _ _ _ = _
    unfold fb_MD_degrees_6 fb_MD_degrees_39 fb_MD_degrees_44
    rw [pm_get (by decide) rfl, hn, pl_gi (by omega) (by omega), if_pos (by omega), gq_g_ok (mu_b01_i _), mu_upb_le]
    cases hb : mu_upb (pm_T X (x + 40)) k m with
    | true => rw [if_neg (by decide)]; rfl
    | false =>
      rw [if_pos (show mu_b01 false = 0 from rfl), pm_gr (t := 1) (by decide) rfl (by decide), pm_ald (o := 1) (i := x + 40 + 4 * k + m) (by omega) (by show _ < 2000; omega)]
      show (if 0 < pm_T X (x + 40) k m then _ else _) = _
      by_cases h0 : 0 < pm_T X (x + 40) k m
      · rw [if_pos h0, decide_eq_true h0]; rfl
      · rw [if_neg h0, decide_eq_false h0]; rfl
  show fb_MD_degrees_6 (f_MD_degrees_6 fu) _ 0 _ _ _ _ _ = _
  unfold fb_MD_degrees_6
  rw [pm_get (by decide) rfl, hn, pl_gi (by omega) (by omega), if_neg (by omega)]
  generalize hbe : mu_upb (pm_T X (x + 40)) k n = up
  have hT : ∀ (P : Nat → Nat → Prop) [∀ i j, Decidable (P i j)] (o r c : Nat), o + 16 ≤ 80 → r < 4 → c < 4 → gx_us X 1 (pm_wr (X 1) (y + 56) P M) 1 (x + o + 4 * r + c) = pm_T X (x + o) r c := by
    intro P _ o r c ho hr hc
    rw [gx_us_eq, pm_wr_out (by omega)]
    rfl
  have hn' : ∀ (P : Nat → Nat → Prop) [∀ i j, Decidable (P i j)], gx_us X 1 (pm_wr (X 1) (y + 56) P M) 0 1 = (n : Int) := by
    intro P _
    rw [gx_us_ne (by decide)]
    exact hn
  have hg : ∀ (B' D' : Nat → Nat → Int), (∀ r c, r < 4 → c < 4 → B' r c = pm_T X (x + 8) r c) → (∀ r c, r < 4 → c < 4 → D' r c = pm_T X (x + 56) r c) → ∀ (s : Int) (m : Nat), m < 4 → ∀ i, i ≤ 4 → mu_gs B' D' k s m i = mu_gs (pm_T X (x + 8)) (pm_T X (x + 56)) k s m i := by
    intro B' D' h1 h2 s m hm i
    induction i with
    | zero => intro _; rfl
    | succ i ih => intro hi; simp only [mu_gs, ih (by omega), h1 i k (by omega) (by omega), h2 i m (by omega) hm]
  have e0 : f_MD_degrees_58 gx_fu (pm_h X) 0 (x : Int) (k : Int) (y : Int) (mu_b01 up) 1 0 = f_MD_degrees_58 gx_fu (pm_h (gx_us X 1 (pm_wr (X 1) (y + 56) (fun i j => i = k ∧ j < 0) M))) 0 (x : Int) (k : Int) (y : Int) (mu_b01 up) (mu_fl (mu_fr M k 0)) ((0 : Nat) : Int) := by
    rw [gx_us_id (pm_wr_0 (fun r c _ _ => by omega))]
    have : mu_fl (mu_fr M k 0) = 1 := if_pos (fun _ h => absurd h (by omega))
    rw [this]
    rfl
  rw [e0]
  refine pl_loop0 (A := fun fu m => f_MD_degrees_58 fu (pm_h (gx_us X 1 (pm_wr (X 1) (y + 56) (fun i j => i = k ∧ j < m) M))) 0 (x : Int) (k : Int) (y : Int) (mu_b01 up) (mu_fl (mu_fr M k m)) (m : Int)) n (by omega) (fun m hm fu => ?_) (fun fu => ?_)
  · show fb_MD_degrees_58 (f_MD_degrees_58 fu) _ 0 _ _ _ _ _ _ = _
    have hbd := mu_D_bd hn4 hB hG hk hm
    have hdk := hG k hk m hm
    have hM : M k m = mu_gs (pm_T X (x + 8)) (pm_T X (x + 56)) k (if up = true then -1 else 1) m n - pm_T X (x + 56) k m := by rw [← hMe]; simp [mu_G, hbe]
    have hB' : ∀ i, i < n → mu_in (pm_T (gx_us X 1 (pm_wr (X 1) (y + 56) (fun i j => i = k ∧ j < m) M)) (x + 8) i k) := fun i hi => by
      have := hB i hi k hk
      have e := hT (fun i j => i = k ∧ j < m) 8 i k (by omega) (by omega) (by omega)
      unfold pm_T at e ⊢
      rw [e]
      exact this
    have hD' : ∀ i, i < n → mu_in (pm_T (gx_us X 1 (pm_wr (X 1) (y + 56) (fun i j => i = k ∧ j < m) M)) (x + 56) i m) := fun i hi => by
      have := hG i hi m hm
      have e := hT (fun i j => i = k ∧ j < m) 56 i m (by omega) (by omega) (by omega)
      unfold pm_T at e ⊢
      rw [e]
      exact this
    have hg1 := hg (pm_T (gx_us X 1 (pm_wr (X 1) (y + 56) (fun i j => i = k ∧ j < m) M)) (x + 8)) (pm_T (gx_us X 1 (pm_wr (X 1) (y + 56) (fun i j => i = k ∧ j < m) M)) (x + 56)) (fun r c hr hc => hT _ 8 r c (by omega) hr hc) (fun r c hr hc => hT _ 56 r c (by omega) hr hc)
    have hlay : ∀ s : Int, (s = if up = true then -1 else 1) → fb_MD_degrees_80 (f_MD_degrees_58 fu) (pm_h (gx_us X 1 (pm_wr (X 1) (y + 56) (fun i j => i = k ∧ j < m) M))) 0 (x : Int) (k : Int) (y : Int) (mu_b01 up) (mu_fl (mu_fr M k m)) (m : Int) 0 (x : Int) (k : Int) s = f_MD_degrees_58 fu (pm_h (gx_us X 1 (pm_wr (X 1) (y + 56) (fun i j => i = k ∧ j < m + 1) M))) 0 (x : Int) (k : Int) (y : Int) (mu_b01 up) (mu_fl (mu_fr M k (m + 1))) ((m + 1 : Nat) : Int) := by
      intro s hs
      have hs1 : s = 1 ∨ s = -1 := by rw [hs]; split <;> simp
      unfold fb_MD_degrees_80 fb_MD_degrees_135 fb_MD_degrees_136
      have hv : -39303 ≤ M k m ∧ M k m ≤ 39303 := by
        rw [hM, ← hs]
        rcases hs1 with e | e <;> rw [e] <;> omega
      rw [pm_cv, pm_gathered _ (c := 56) (x := x) (k := k) (R := 56) (m := m) (hn' _) hn4 rfl rfl rfl rfl hs1 (by omega) (by omega) hx (by omega) hB' hD', pl_call, hg1 s m (by omega) n hn4, pm_gr (t := 1) (by decide) rfl (by decide), pm_ald (o := 1) (i := x + 56 + 4 * k + m) (by omega) (by show _ < 2000; omega), hT _ 56 k m (by omega) (by omega) (by omega), hs, ← hM, pm_cv, pm_lay _ (i := y + 56 + 4 * k + m) (by omega) (by omega) ⟨by omega, by omega⟩, pl_call, mu_fl_and, gx_up_us, pm_wr_step (Q := fun i j => i = k ∧ j < m + 1) (by omega) (by omega) rfl (fun r c hr hc => by omega)]
      have e1 : mu_fl (mu_fr M k (m + 1)) = if mu_fr M k m ∧ mu_in (M k m) then 1 else 0 := mu_fl_iff mu_all_succ
      rw [e1]
      by_cases hh : mu_fr M k m ∧ mu_in (M k m)
      · rw [if_pos hh, if_pos hh]; rfl
      · rw [if_neg hh, if_neg hh]; rfl
    unfold fb_MD_degrees_58
    rw [pm_get (by decide) rfl, hn', pl_gi (by omega) (by omega), if_pos (by omega), gq_g_ok (mu_b01_i _)]
    cases up with
    | true => rw [if_neg (by decide), hlay (-1) rfl]
    | false => rw [if_pos (show mu_b01 false = 0 from rfl), hlay 1 rfl]
  · show fb_MD_degrees_58 (f_MD_degrees_58 fu) _ 0 _ _ _ _ _ _ = _
    unfold fb_MD_degrees_58
    rw [pm_get (by decide) rfl, hn', pl_gi (by omega) (by omega), if_neg (by omega), gq_g_ok mu_fl_i.2]
