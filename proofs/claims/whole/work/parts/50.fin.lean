/-! the finite check, said of tables -/
theorem fk_d_0 {x y : Nat} (hx : x < 256) : fk_d (x + 256 * y) 0 = x := by
  show (x + 256 * y) / 256 ^ 0 % 256 = x
  omega
theorem fk_d_s {x y q : Nat} (hx : x < 256) : fk_d (x + 256 * y) (q + 1) = fk_d y q := by
  show (x + 256 * y) / 256 ^ (q + 1) % 256 = y / 256 ^ q % 256
  rw [Nat.pow_succ, Nat.mul_comm (256 ^ q) 256, ← Nat.div_div_eq_div_mul, show (x + 256 * y) / 256 = y by omega]
theorem fk_any_ok {f : Nat → Bool} : ∀ l : List Nat, fk_any f l = true → ∃ x ∈ l, f x = true
  | [], h => by cases h
  | x :: l, h => by
    have h1 : (f x || fk_any f l) = true := h
    rw [Bool.or_eq_true] at h1
    rcases h1 with h1 | h1
    · exact ⟨x, List.mem_cons_self, h1⟩
    · obtain ⟨y, hy, e⟩ := fk_any_ok l h1
      exact ⟨y, List.mem_cons_of_mem _ hy, e⟩
theorem fk_all4 (a : Nat) (ha : a < 11) (b : Nat) (hb : b < 11) (c : Nat) (hc : c < 11) : fk_in4 a b c = true := by
  have key : fk_al 11 (fun b => fk_al 11 (fun c => fk_in4 a b c)) = true := by
    rcases (show a = 0 ∨ a = 1 ∨ a = 2 ∨ a = 3 ∨ a = 4 ∨ a = 5 ∨ a = 6 ∨ a = 7 ∨ a = 8 ∨ a = 9 ∨ a = 10 by omega) with e | e | e | e | e | e | e | e | e | e | e <;> subst e
    · exact fk_all4_0
    · exact fk_all4_1
    · exact fk_all4_2
    · exact fk_all4_3
    · exact fk_all4_4
    · exact fk_all4_5
    · exact fk_all4_6
    · exact fk_all4_7
    · exact fk_all4_8
    · exact fk_all4_9
    · exact fk_all4_10
  exact (fk_al_iff 11).mp ((fk_al_iff 11).mp key b hb) c hc
theorem fk_d_l : ∀ (l : List Nat) (q : Nat), (∀ x ∈ l, x < 256) → fk_d (fk_l l) q = l.getD q 0
  | [], q, _ => by
    show 0 / 256 ^ q % 256 = _
    rw [Nat.zero_div]
    simp
  | x :: l, 0, h => fk_d_0 (y := fk_l l) (h x List.mem_cons_self)
  | x :: l, q + 1, h => (fk_d_s (y := fk_l l) (h x List.mem_cons_self)).trans (fk_d_l l q fun y hy => h y (List.mem_cons_of_mem _ hy))
theorem fk_pair {x y : Int} (hx : -3 ≤ x ∧ x ≤ 3) (hy : -3 ≤ y ∧ y ≤ 3) (hs : (0 < x ↔ y < 0) ∧ (x < 0 ↔ 0 < y) ∧ (x = 0 ↔ y = 0)) (hm : ¬ x * y < -3) : ∃ c : Nat, c < 11 ∧ (fk_d fk_P1 c : Int) = x + 100 ∧ (fk_d fk_P2 c : Int) = y + 100 := by
  rcases (show x = -3 ∨ x = -2 ∨ x = -1 ∨ x = 0 ∨ x = 1 ∨ x = 2 ∨ x = 3 by omega) with e | e | e | e | e | e | e <;> subst e <;> rcases (show y = -3 ∨ y = -2 ∨ y = -1 ∨ y = 0 ∨ y = 1 ∨ y = 2 ∨ y = 3 by omega) with e | e | e | e | e | e | e <;> subst e <;> first
    | (exfalso; omega)
    | exact ⟨0, by decide, by decide +kernel, by decide +kernel⟩
    | exact ⟨1, by decide, by decide +kernel, by decide +kernel⟩
    | exact ⟨2, by decide, by decide +kernel, by decide +kernel⟩
    | exact ⟨3, by decide, by decide +kernel, by decide +kernel⟩
    | exact ⟨4, by decide, by decide +kernel, by decide +kernel⟩
    | exact ⟨5, by decide, by decide +kernel, by decide +kernel⟩
    | exact ⟨6, by decide, by decide +kernel, by decide +kernel⟩
    | exact ⟨7, by decide, by decide +kernel, by decide +kernel⟩
    | exact ⟨8, by decide, by decide +kernel, by decide +kernel⟩
    | exact ⟨9, by decide, by decide +kernel, by decide +kernel⟩
    | exact ⟨10, by decide, by decide +kernel, by decide +kernel⟩
theorem mu_wt_cy {n : Nat} {B : Nat → Nat → Int} {w : Nat → Int} (hw : ∀ i, i < n → 1 ≤ w i) (h : mu_wt n B w) {i j k : Nat} (hi : i < n) (hj : j < n) (hk : k < n) : B i j * B j k * B k i = -(B j i * B k j * B i k) := by
  have e1 := h i hi j hj
  have e2 := h j hj k hk
  have e3 := h k hk i hi
  have p : w i * w j * w k ≠ 0 := by
    have := Int.mul_pos (Int.mul_pos (show 0 < w i by have := hw i hi; omega) (show 0 < w j by have := hw j hj; omega)) (show 0 < w k by have := hw k hk; omega)
    omega
  refine Int.eq_of_mul_eq_mul_left p ?_
  calc w i * w j * w k * (B i j * B j k * B k i) = w i * B i j * (w j * B j k) * (w k * B k i) := by ac_rfl
    _ = -w j * B j i * (-w k * B k j) * (-w i * B i k) := by rw [e1, e2, e3]
    _ = -(w j * B j i * (w k * B k j) * (w i * B i k)) := by simp only [Int.neg_mul, Int.mul_neg, Int.neg_neg]
    _ = -(w i * w j * w k * (B j i * B k j * B i k)) := by rw [show w j * B j i * (w k * B k j) * (w i * B i k) = w i * w j * w k * (B j i * B k j * B i k) by ac_rfl]
    _ = w i * w j * w k * -(B j i * B k j * B i k) := by rw [Int.mul_neg]
theorem mu_wt_cz {n : Nat} {B : Nat → Nat → Int} {w : Nat → Int} (hw : ∀ i, i < n → 1 ≤ w i) (h : mu_wt n B w) {i j k l : Nat} (hi : i < n) (hj : j < n) (hk : k < n) (hl : l < n) : B i j * B j k * B k l * B l i = B j i * B k j * B l k * B i l := by
  have e1 := h i hi j hj
  have e2 := h j hj k hk
  have e3 := h k hk l hl
  have e4 := h l hl i hi
  have p : w i * w j * w k * w l ≠ 0 := by
    have := Int.mul_pos (Int.mul_pos (Int.mul_pos (show 0 < w i by have := hw i hi; omega) (show 0 < w j by have := hw j hj; omega)) (show 0 < w k by have := hw k hk; omega)) (show 0 < w l by have := hw l hl; omega)
    omega
  refine Int.eq_of_mul_eq_mul_left p ?_
  calc w i * w j * w k * w l * (B i j * B j k * B k l * B l i) = w i * B i j * (w j * B j k) * (w k * B k l) * (w l * B l i) := by ac_rfl
    _ = -w j * B j i * (-w k * B k j) * (-w l * B l k) * (-w i * B i l) := by rw [e1, e2, e3, e4]
    _ = w j * B j i * (w k * B k j) * (w l * B l k) * (w i * B i l) := by simp only [Int.neg_mul, Int.mul_neg, Int.neg_neg]
    _ = w i * w j * w k * w l * (B j i * B k j * B l k * B i l) := by ac_rfl
def mu_I : Nat → Nat → Int := fun i j => if i = j then -1 else 0
/-- what can be come to is little, and no two rows are like -/
def mu_fin (n : Nat) (B0 : Nat → Nat → Int) : Prop := ∃ Ls : List ((Nat → Nat → Int) × (Nat → Nat → Int)), Ls.length ≤ 200 ∧ ∀ ks : List Nat, (∀ k ∈ ks, k < n) →
  mu_bd n (mu_rB ks B0) ∧ mu_bd n (mu_rD n ks B0 mu_I) ∧ mu_mi n (mu_rB ks B0) ∧ (∀ i j, i < n → j < n → (∀ m, m < n → mu_rD n ks B0 mu_I i m = mu_rD n ks B0 mu_I j m) → i = j) ∧
  ∃ M ∈ Ls, ∃ s : Nat → Nat, mu_pm n n s ∧ mu_tn n s M.1 (mu_rB ks B0) ∧ mu_dn n s (fun m => m) M.2 (mu_rD n ks B0 mu_I)
theorem fk_dI_ok {C i m : Nat} (h : fk_dI C = true) (hi : i < 4) (hm : m < 4) : fk_D C i m = mu_I i m := by
  have h1 := Nat.eq_of_beq_eq_true ((fk_al_iff 16).mp h (4 * i + m) (by omega))
  have h2 : fk_e C i m = cond (Nat.beq ((4 * i + m) / 4) ((4 * i + m) % 4)) 99 100 := h1
  rw [show (4 * i + m) / 4 = i by omega, show (4 * i + m) % 4 = m by omega] at h2
  unfold fk_D mu_I
  rw [h2]
  by_cases c : i = m
  · subst c
    rw [if_pos rfl, show Nat.beq i i = true from Nat.beq_refl i]
    rfl
  · rw [if_neg c, show Nat.beq i m = false by rw [← Bool.not_eq_true]; exact fun z => c (Nat.eq_of_beq_eq_true z)]
    rfl
theorem fk_rep_ok {n C : Nat} {B0 : Nat → Nat → Int} {r : Nat → Nat} (hn2 : 2 ≤ n) (hn4 : n ≤ 4) (h : fk_rep n C = true) (hr : mu_pm n n r) (hT : mu_tn n r B0 (fk_T C)) : mu_bad n B0 ∨ mu_fin n B0 := by
  unfold fk_rep at h
  rw [Bool.and_eq_true, Bool.or_eq_true] at h
  obtain ⟨hI, hb | hb⟩ := h
  · exact Or.inl (mu_bad_tn hr hT (fk_bad_ok hn4 4 C hb))
  · right
    obtain ⟨L, hL, hcl, hlen⟩ := fk_run_ok 220 [C] [C] ⟨fun _ hx => hx, fun _ hx => Or.inl hx⟩ hb
    obtain ⟨t, ht, t1, t2⟩ := mu_pm_inv hn2 hn4 hr
    have eT : mu_tn n t (fk_T C) B0 := fun i hi j hj => by rw [hT _ (ht.1 i hi) _ (ht.1 j hj), t1 i hi, t1 j hj]
    have eD : mu_dn n t t (fk_D C) mu_I := fun i hi m hm => by
      have a := ht.1 i hi
      have b := ht.1 m hm
      rw [fk_dI_ok hI (by omega) (by omega)]
      unfold mu_I
      by_cases c : i = m
      · subst c
        rw [if_pos rfl, if_pos rfl]
      · rw [if_neg c, if_neg (fun e => c (ht.2 i hi m hm e))]
    refine ⟨L.map (fun M => (fk_T M, fun i m => fk_D M i (t m))), by rw [List.length_map]; exact hlen, fun ks hk => ?_⟩
    have hk' : ∀ k ∈ ks.map t, k < n := fun k hk' => by
      obtain ⟨a, ha, rfl⟩ := List.mem_map.mp hk'
      exact ht.1 a (hk a ha)
    have E1 := mu_rB_tn ht ks (fk_T C) B0 hk eT
    have E2 := mu_rD_dn hn2 hn4 ht ks (fk_T C) B0 (fk_D C) mu_I hk eT eD
    obtain ⟨M, hM, s, hs, f1, f2⟩ := fk_in_run hn2 hn4 hcl (ks.map t) (fk_T C) (fk_D C) hk' ⟨C, hL C List.mem_cons_self, fun i => i, ⟨fun _ h => h, fun _ _ _ _ e => e⟩, fun _ _ _ _ => rfl, fun _ _ _ _ => rfl⟩
    have ok := (hcl M hM).1
    have gB : ∀ i j, i < n → j < n → mu_rB ks B0 i j = fk_T M (s (t i)) (s (t j)) := fun i j hi hj => by rw [E1 i hi j hj, f1 _ (ht.1 i hi) _ (ht.1 j hj)]
    have gD : ∀ i m, i < n → m < n → mu_rD n ks B0 mu_I i m = fk_D M (s (t i)) (t m) := fun i m hi hm => by rw [E2 i hi m hm, f2 _ (ht.1 i hi) _ (ht.1 m hm)]
    have st := mu_pm_comp hs ht
    refine ⟨fun i hi j hj => ?_, fun i hi j hj => ?_, fun i hi j hj => ?_, fun i j hi hj he => ?_, _, List.mem_map.mpr ⟨M, hM, rfl⟩, fun i => s (t i), st, fun i hi j hj => gB i j hi hj, fun i hi m hm => gD i m hi hm⟩
    · have a : s (t i) < n := st.1 i hi; have b : s (t j) < n := st.1 j hj
      have c := fk_ok_b ok (i := s (t i)) (j := s (t j)) (by omega) (by omega)
      rw [gB i j hi hj]
      unfold fk_T
      constructor <;> omega
    · have a : s (t i) < n := st.1 i hi; have b := ht.1 j hj
      have c := fk_ok_e ok (i := s (t i)) (m := t j) (by omega) (by omega)
      rw [gD i j hi hj]
      unfold fk_D
      constructor <;> omega
    · have hj' : j < n := by omega
      have a : s (t i) < n := st.1 i hi; have b : s (t j) < n := st.1 j hj'
      rw [gB i j hi hj', gB j i hj' hi]
      rcases Nat.lt_trichotomy (s (t i)) (s (t j)) with c | c | c
      · rw [Int.mul_comm]
        exact fk_mi_yes (fk_ok_mi ok) b c
      · exact absurd (st.2 i hi j hj' c) (by omega)
      · exact fk_mi_yes (fk_ok_mi ok) a c
    · apply st.2 i hi j hj
      have a : s (t i) < n := st.1 i hi; have b : s (t j) < n := st.1 j hj
      have he' : ∀ m, m < n → fk_D M (s (t i)) m = fk_D M (s (t j)) m := fun m hm => by
        have h1 := he (r m) (hr.1 m hm)
        rw [gD i _ hi (hr.1 m hm), gD j _ hj (hr.1 m hm), t2 m hm] at h1
        exact h1
      rcases Nat.lt_trichotomy (s (t i)) (s (t j)) with c | c | c
      · exact absurd (fun m hm => (he' m hm).symm) (fk_ok_un ok b c)
      · exact c
      · exact absurd he' (fk_ok_un ok a c)
theorem fk_rq_lt {R N q : Nat} : fk_rq R N q < 256 := by
  unfold fk_rq
  cases h : Nat.ble q 15
  · cases h' : Nat.beq (Nat.div (Nat.sub q 16) 4) (Nat.mod q 4)
    · exact (by decide : (100 : Nat) < 256)
    · exact (by decide : (99 : Nat) < 256)
  · exact fk_d_lt _ _
theorem fk_rt_T {R N i j : Nat} (hi : i < 4) (hj : j < 4) : fk_T (fk_rt R N) i j = fk_T N (fk_r R i) (fk_r R j) := by
  have e : fk_b (fk_rt R N) i j = fk_b N (fk_r R i) (fk_r R j) := by
    show fk_d (fk_p (fk_rq R N) 32) (4 * i + j) = _
    rw [fk_d_p 32 (4 * i + j) (fun c hc => fk_rq_lt) (by omega)]
    unfold fk_rq
    rw [Nat.ble_eq_true_of_le (show 4 * i + j ≤ 15 by omega)]
    show fk_b N (fk_r R ((4 * i + j) / 4)) (fk_r R ((4 * i + j) % 4)) = _
    rw [show (4 * i + j) / 4 = i by omega, show (4 * i + j) % 4 = j by omega]
  unfold fk_T
  rw [e]
theorem fk_hit_ok {n N : Nat} {B0 : Nat → Nat → Int} {ps rp : List Nat} (hn2 : 2 ≤ n) (hn4 : n ≤ 4) (hps : ps.all (fk_pmok n) = true) (hrp : rp.all (fk_rep n) = true) (h : fk_hit ps rp N = true) (hN : mu_q n (fk_T N) B0) : mu_bad n B0 ∨ mu_fin n B0 := by
  unfold fk_hit at h
  obtain ⟨R, hR, hm⟩ := fk_any_ok _ h
  rw [fk_f_eq] at hm
  have hp := fk_pmok_ok (List.all_eq_true.mp hps R hR)
  have hrep := List.all_eq_true.mp hrp _ (fk_mem_ok hm)
  refine fk_rep_ok hn2 hn4 hrep hp fun i hi j hj => ?_
  rw [fk_rt_T (by omega) (by omega)]
  exact hN _ (hp.1 i hi) _ (hp.1 j hj)
theorem mu_bad_now {n i j : Nat} {B : Nat → Nat → Int} (hi : i < n) (hj : j < n) (h : B i j * B j i < -3) : mu_bad n B := ⟨[], fun _ h => absurd h List.not_mem_nil, i, j, hi, hj, h⟩
theorem fk_entry {n : Nat} {B0 : Nat → Nat → Int} {w : Nat → Int} (hb : ∀ i j, i < n → j < n → -3 ≤ B0 i j ∧ B0 i j ≤ 3) (hw : ∀ i, i < n → 1 ≤ w i) (h : mu_wt n B0 w) (hno : ¬ mu_bad n B0) {i j : Nat} (hi : i < n) (hj : j < n) : ∃ c : Nat, c < 11 ∧ (fk_d fk_P1 c : Int) = B0 i j + 100 ∧ (fk_d fk_P2 c : Int) = B0 j i + 100 :=
  fk_pair (hb i j hi hj) (hb j i hj hi) (mu_wt_sg (hw i hi) (hw j hj) (h i hi j hj)) fun z => hno (mu_bad_now hi hj z)
def mu_s3of (x y z : Nat) : Nat → Nat := fun i => if i = 0 then x else if i = 1 then y else z
/-- a pair of numbers of a table, by its code -/
abbrev fk_pc (B : Nat → Nat → Int) (x y a : Nat) : Prop := a < 11 ∧ (fk_d fk_P1 a : Int) = B x y + 100 ∧ (fk_d fk_P2 a : Int) = B y x + 100
theorem fk_at {l : List Nat} {i j : Nat} {v : Int} (hl : ∀ x ∈ l, x < 256) (h : ((l.getD (4 * i + j) 0 : Nat) : Int) = v + 100) : fk_T (fk_l l) i j = v := by
  show ((fk_d (fk_l l) (4 * i + j) : Nat) : Int) - 100 = v
  rw [fk_d_l l _ hl, h]
  omega
theorem fk_t3_ok {B : Nat → Nat → Int} {x y z a b c : Nat} (ha : fk_pc B x y a) (hb : fk_pc B x z b) (hc : fk_pc B y z c) (dx : B x x = 0) (dy : B y y = 0) (dz : B z z = 0) : mu_tn 3 (mu_s3of x y z) B (fk_T (fk_t3 a b c)) := by
  intro i hi j hj
  unfold fk_t3
  refine fk_at ?_ ?_
  · repeat (refine List.forall_mem_cons.mpr ⟨by first | exact fk_d_lt _ _ | decide, ?_⟩)
    exact fun _ h => absurd h List.not_mem_nil
  · rcases (show i = 0 ∨ i = 1 ∨ i = 2 by omega) with e | e | e <;> subst e <;> rcases (show j = 0 ∨ j = 1 ∨ j = 2 by omega) with e | e | e <;> subst e
    · show ((100 : Nat) : Int) = B x x + 100
      rw [dx]; rfl
    · exact ha.2.1
    · exact hb.2.1
    · exact ha.2.2
    · show ((100 : Nat) : Int) = B y y + 100
      rw [dy]; rfl
    · exact hc.2.1
    · exact hb.2.2
    · exact hc.2.2
    · show ((100 : Nat) : Int) = B z z + 100
      rw [dz]; rfl
theorem fk_t2_ok {B : Nat → Nat → Int} {a : Nat} (ha : fk_pc B 0 1 a) (dx : B 0 0 = 0) (dy : B 1 1 = 0) : mu_q 2 (fk_T (fk_t2 a)) B := by
  intro i hi j hj
  unfold fk_t2
  refine fk_at ?_ ?_
  · repeat (refine List.forall_mem_cons.mpr ⟨by first | exact fk_d_lt _ _ | decide, ?_⟩)
    exact fun _ h => absurd h List.not_mem_nil
  · rcases (show i = 0 ∨ i = 1 by omega) with e | e <;> subst e <;> rcases (show j = 0 ∨ j = 1 by omega) with e | e <;> subst e
    · show ((100 : Nat) : Int) = B 0 0 + 100
      rw [dx]; rfl
    · exact ha.2.1
    · exact ha.2.2
    · show ((100 : Nat) : Int) = B 1 1 + 100
      rw [dy]; rfl
theorem fk_t4_ok {B : Nat → Nat → Int} {a b c d e f : Nat} (ha : fk_pc B 0 1 a) (hb : fk_pc B 0 2 b) (hc : fk_pc B 1 2 c) (hd : fk_pc B 0 3 d) (he : fk_pc B 1 3 e) (hf : fk_pc B 2 3 f) (d0 : B 0 0 = 0) (d1 : B 1 1 = 0) (d2 : B 2 2 = 0) (d3 : B 3 3 = 0) : mu_q 4 (fk_T (fk_t4 a b c d e f)) B := by
  intro i hi j hj
  unfold fk_t4
  refine fk_at ?_ ?_
  · repeat (refine List.forall_mem_cons.mpr ⟨by first | exact fk_d_lt _ _ | decide, ?_⟩)
    exact fun _ h => absurd h List.not_mem_nil
  · rcases (show i = 0 ∨ i = 1 ∨ i = 2 ∨ i = 3 by omega) with q | q | q | q <;> subst q <;> rcases (show j = 0 ∨ j = 1 ∨ j = 2 ∨ j = 3 by omega) with q | q | q | q <;> subst q
    · show ((100 : Nat) : Int) = B 0 0 + 100
      rw [d0]; rfl
    · exact ha.2.1
    · exact hb.2.1
    · exact hd.2.1
    · exact ha.2.2
    · show ((100 : Nat) : Int) = B 1 1 + 100
      rw [d1]; rfl
    · exact hc.2.1
    · exact he.2.1
    · exact hb.2.2
    · exact hc.2.2
    · show ((100 : Nat) : Int) = B 2 2 + 100
      rw [d2]; rfl
    · exact hf.2.1
    · exact hd.2.2
    · exact he.2.2
    · exact hf.2.2
    · show ((100 : Nat) : Int) = B 3 3 + 100
      rw [d3]; rfl
theorem fk_tri {n : Nat} {B0 : Nat → Nat → Int} {w : Nat → Int} (hw : ∀ i, i < n → 1 ≤ w i) (h : mu_wt n B0 w) (hno : ¬ mu_bad n B0) {x y z a b c : Nat} (hx : x < n) (hy : y < n) (hz : z < n) (hxy : x ≠ y) (hxz : x ≠ z) (hyz : y ≠ z) (ha : fk_pc B0 x y a) (hb : fk_pc B0 x z b) (hc : fk_pc B0 y z c) : fk_bit a b c = true := by
  have h1 := (fk_al_iff 11).mp ((fk_al_iff 11).mp ((fk_al_iff 11).mp fk_bit3 a ha.1) b hb.1) c hc.1
  rw [Bool.or_eq_true, fk_f_eq, Bool.or_eq_true] at h1
  have hT := fk_t3_ok ha hb hc (mu_wt_dg hw h hx) (mu_wt_dg hw h hy) (mu_wt_dg hw h hz)
  rcases h1 with h1 | h1 | h1
  · exact h1
  · have e : fk_cy (fk_t3 a b c) 0 1 2 = true := by
      unfold fk_cy
      apply decide_eq_true
      rw [hT 0 (by decide) 1 (by decide), hT 1 (by decide) 2 (by decide), hT 2 (by decide) 0 (by decide), hT 1 (by decide) 0 (by decide), hT 2 (by decide) 1 (by decide), hT 0 (by decide) 2 (by decide)]
      exact mu_wt_cy hw h hx hy hz
    rw [e] at h1
    cases h1
  · refine absurd (mu_bad_tn (s := mu_s3of x y z) (n' := n) ⟨fun i hi => ?_, fun i hi j hj e => ?_⟩ hT (fk_bad_ok (by decide) 3 _ h1)) hno
    · unfold mu_s3of
      split
      · exact hx
      · split
        · exact hy
        · exact hz
    · rcases (show i = 0 ∨ i = 1 ∨ i = 2 by omega) with q | q | q <;> subst q <;> rcases (show j = 0 ∨ j = 1 ∨ j = 2 by omega) with q | q | q <;> subst q <;> first | rfl | (simp [mu_s3of] at e; omega)
theorem fk_cz_ok {N : Nat} {B0 : Nat → Nat → Int} {w : Nat → Int} (hw : ∀ i, i < 4 → 1 ≤ w i) (h : mu_wt 4 B0 w) (hq : mu_q 4 (fk_T N) B0) {i j k l : Nat} (hi : i < 4) (hj : j < 4) (hk : k < 4) (hl : l < 4) : (!fk_cz N i j k l) = false := by
  have e : fk_cz N i j k l = true := by
    unfold fk_cz
    apply decide_eq_true
    rw [hq i hi j hj, hq j hj k hk, hq k hk l hl, hq l hl i hi, hq j hj i hi, hq k hk j hj, hq l hl k hk, hq i hi l hl]
    exact mu_wt_cz hw h hi hj hk hl
  rw [e]
  rfl
theorem fin_main {n : Nat} {B0 : Nat → Nat → Int} {w : Nat → Int} (hn2 : 2 ≤ n) (hn4 : n ≤ 4) (hb : ∀ i j, i < n → j < n → -3 ≤ B0 i j ∧ B0 i j ≤ 3) (hw : ∀ i, i < n → 1 ≤ w i) (h : mu_wt n B0 w) : mu_bad n B0 ∨ mu_fin n B0 := by
  by_cases hno : mu_bad n B0
  · exact Or.inl hno
  have dg : ∀ i, i < n → B0 i i = 0 := fun i hi => mu_wt_dg hw h hi
  rcases (show n = 2 ∨ n = 3 ∨ n = 4 by omega) with e | e | e <;> subst e
  · obtain ⟨a, ha⟩ := fk_entry hb hw h hno (i := 0) (j := 1) (by decide) (by decide)
    exact fk_hit_ok (by decide) (by decide) fk_psok2 fk_rpok2 ((fk_al_iff 11).mp fk_all2 a ha.1) (fk_t2_ok ha (dg 0 (by decide)) (dg 1 (by decide)))
  · obtain ⟨a, ha⟩ := fk_entry hb hw h hno (i := 0) (j := 1) (by decide) (by decide)
    obtain ⟨b, hb'⟩ := fk_entry hb hw h hno (i := 0) (j := 2) (by decide) (by decide)
    obtain ⟨c, hc⟩ := fk_entry hb hw h hno (i := 1) (j := 2) (by decide) (by decide)
    have h1 := (fk_al_iff 11).mp ((fk_al_iff 11).mp ((fk_al_iff 11).mp fk_all3 a ha.1) b hb'.1) c hc.1
    rw [fk_f_eq, Bool.or_eq_true] at h1
    have hT := fk_t3_ok ha hb' hc (dg 0 (by decide)) (dg 1 (by decide)) (dg 2 (by decide))
    have hq : mu_q 3 (fk_T (fk_t3 a b c)) B0 := fun i hi j hj => by
      rw [hT i hi j hj]
      rcases (show i = 0 ∨ i = 1 ∨ i = 2 by omega) with q | q | q <;> subst q <;> rcases (show j = 0 ∨ j = 1 ∨ j = 2 by omega) with q | q | q <;> subst q <;> rfl
    rcases h1 with h1 | h1
    · have e : fk_cy (fk_t3 a b c) 0 1 2 = true := by
        unfold fk_cy
        apply decide_eq_true
        rw [hq 0 (by decide) 1 (by decide), hq 1 (by decide) 2 (by decide), hq 2 (by decide) 0 (by decide), hq 1 (by decide) 0 (by decide), hq 2 (by decide) 1 (by decide), hq 0 (by decide) 2 (by decide)]
        exact mu_wt_cy hw h (by decide) (by decide) (by decide)
      rw [e] at h1
      cases h1
    · exact fk_hit_ok (by decide) (by decide) fk_psok3 fk_rpok3 h1 hq
  · obtain ⟨a, ha⟩ := fk_entry hb hw h hno (i := 0) (j := 1) (by decide) (by decide)
    obtain ⟨b, hb'⟩ := fk_entry hb hw h hno (i := 0) (j := 2) (by decide) (by decide)
    obtain ⟨c, hc⟩ := fk_entry hb hw h hno (i := 1) (j := 2) (by decide) (by decide)
    obtain ⟨d, hd⟩ := fk_entry hb hw h hno (i := 0) (j := 3) (by decide) (by decide)
    obtain ⟨e, he⟩ := fk_entry hb hw h hno (i := 1) (j := 3) (by decide) (by decide)
    obtain ⟨f, hf⟩ := fk_entry hb hw h hno (i := 2) (j := 3) (by decide) (by decide)
    have t1 := fk_tri hw h hno (x := 0) (y := 1) (z := 2) (by decide) (by decide) (by decide) (by decide) (by decide) (by decide) ha hb' hc
    have t2 := fk_tri hw h hno (x := 0) (y := 1) (z := 3) (by decide) (by decide) (by decide) (by decide) (by decide) (by decide) ha hd he
    have t3 := fk_tri hw h hno (x := 0) (y := 2) (z := 3) (by decide) (by decide) (by decide) (by decide) (by decide) (by decide) hb' hd hf
    have t4 := fk_tri hw h hno (x := 1) (y := 2) (z := 3) (by decide) (by decide) (by decide) (by decide) (by decide) (by decide) hc he hf
    have hq := fk_t4_ok ha hb' hc hd he hf (dg 0 (by decide)) (dg 1 (by decide)) (dg 2 (by decide)) (dg 3 (by decide))
    have h1 := fk_all4 a ha.1 b hb'.1 c hc.1
    unfold fk_in4 at h1
    rw [t1, Bool.not_true, Bool.false_or] at h1
    have h2 := (fk_al_iff 11).mp ((fk_al_iff 11).mp h1 d hd.1) e he.1
    rw [t2, Bool.not_true, Bool.false_or] at h2
    have h3 := (fk_al_iff 11).mp h2 f hf.1
    rw [t3, t4, Bool.not_true, Bool.false_or, Bool.false_or, fk_f_eq, fk_cz_ok hw h hq (by decide) (by decide) (by decide) (by decide), fk_cz_ok hw h hq (by decide) (by decide) (by decide) (by decide), fk_cz_ok hw h hq (by decide) (by decide) (by decide) (by decide), Bool.false_or, Bool.false_or, Bool.false_or] at h3
    exact fk_hit_ok (by decide) (by decide) fk_psok4 fk_rpok4 h3 hq
