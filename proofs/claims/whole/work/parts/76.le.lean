/-! letters, both sides -/
theorem pc_L227 : pc_L[227]? = some (1, 2) := by decide +kernel
theorem pc_beginAs (Z : Nat → Nat → Int) {A P n : Nat} (zA : Z 0 13 = (A : Int)) (zP : Z 0 14 = (P : Int)) (hp : (A = 230 ∧ P = 238) ∨ (A = 238 ∧ P = 230)) (hn : Z (P + 1) 0 = (n : Int)) (hn4 : n ≤ 4) (hB : mu_bd n (pc_T Z (P + 2))) (h0 : ∀ i, i < n → pc_T Z (P + 2) i i = 0) :
    ∃ Y, f_LE_beginAsSpare (pc_h Z) 0 = some (0, pc_h Y) ∧ (∀ o, o ≠ 0 → o ≠ 3 → o ≠ 4 → o ≠ 8 → o ≠ 170 → o ≠ 227 → (o < 202 ∨ 210 ≤ o) → Y o = Z o) ∧ Y 0 13 = (P : Int) ∧ Y 0 14 = (A : Int) ∧ Y 0 16 = 1 ∧ Y 0 17 = 1 ∧ (∀ j, j ≠ 13 → j ≠ 14 → j ≠ 16 → j ≠ 17 → Y 0 j = Z 0 j) ∧ pc_eq Z P Y 202 ∧ Y 170 2 = 0 ∧ Y 8 1 = Z 8 1 ∧ Y 8 2 = 0 ∧ Y 227 0 = 0 ∧ Y 227 1 = 0 ∧ rl_sc n (pc_T Z (P + 2)) Y := by
  have hS : pc_S P = true := by rcases hp with q | q <;> rw [q.2] <;> decide
  have hS2 : pc_S 202 = true := by decide
  obtain ⟨s0, s1, -⟩ := pc_S_all 202 (by decide) hS2
  obtain ⟨r0, -⟩ := pc_S_ref 202 (by decide) hS2
  obtain ⟨Z1, c1, c2, c3⟩ := pc_copyS Z hS2 hS (by omega)
  have a1 : Z1 0 13 = (A : Int) := by rw [c2 0 (by omega)]; exact zA
  have a2 : Z1 0 14 = (P : Int) := by rw [c2 0 (by omega)]; exact zP
  have t := pc_takeSpare Z1 a1 a2
  generalize hZ2 : gx_up (gx_up (gx_up Z1 0 13 (P : Int)) 0 14 (A : Int)) 0 17 1 = Z2 at t
  have zo : ∀ o, o ≠ 0 → Z2 o = Z1 o := fun o ho => by rw [← hZ2, gx_up_ne ho, gx_up_ne ho, gx_up_ne ho]
  have z0 : ∀ j, Z2 0 j = if j = 17 then 1 else if j = 14 then (A : Int) else if j = 13 then (P : Int) else Z1 0 j := fun j => by rw [← hZ2, gx_up_at, gx_up_at, gx_up_at]
  have eq : ∀ i j, i < 4 → j < 4 → pc_T Z2 (203 + 1) i j = pc_T Z (P + 2) i j := fun i j hi hj => by
    show Z2 204 (4 * i + j) = _
    rw [zo 204 (by decide)]
    exact c3.2.1 _ (by omega)
  have en : Z2 203 0 = (n : Int) := by rw [zo 203 (by decide)]; exact c3.1.trans hn
  have hq : mu_q n (pc_T Z2 (203 + 1)) (pc_T Z (P + 2)) := fun i hi j hj => eq i j (by omega) (by omega)
  have w := pc_weigh Z2 (t := 203) (n := n) s1 en hn4 ((mu_q_bd hq).mpr hB)
  have hfa : ∀ m, mu_fa n (pc_T Z2 (203 + 1)) m ↔ mu_wt n (pc_T Z (P + 2)) (mu_dg n m) := fun m => (mu_fa_wt (fun i hi => by rw [hq i hi i hi]; exact h0 i hi)).trans (mu_q_wt hq)
  have w' : ∃ (f : Nat → Int) (b : Int), f_SC_weigh (pc_h Z2) 3 203 = some (0, pc_h (gx_up (gx_us Z2 4 f) 3 0 b)) ∧ ((b = 1 ∧ ∃ m, m < 9 ^ n ∧ (∀ j, j < n → f j = mu_dg n m j) ∧ mu_wt n (pc_T Z (P + 2)) (mu_dg n m) ∧ ∀ m', m' < m → ¬ mu_wt n (pc_T Z (P + 2)) (mu_dg n m')) ∨ (b = 0 ∧ ¬ mu_well n (pc_T Z (P + 2)))) := by
    rcases w with ⟨f, m, x1, x2, x3, x4, x5⟩ | ⟨f, x1, x2⟩
    · exact ⟨f, 1, x1, Or.inl ⟨rfl, m, x2, x3, (hfa m).mp x4, fun m' hm h => x5 m' hm ((hfa m').mpr h)⟩⟩
    · exact ⟨f, 0, x1, Or.inr ⟨rfl, fun ⟨m, hm, h⟩ => x2 m hm ((hfa m).mpr h)⟩⟩
  obtain ⟨f, b, w1, w2⟩ := w'
  obtain ⟨l170, -, -⟩ := pc_L170
  obtain ⟨-, -, e170⟩ := pc_r170
  have lp : ∀ W : Nat → Nat → Int, f_LE_beginAsSpare_46 gx_fu (pc_h W) 0 0 = some (0, pc_h (gx_up (gx_up (gx_up W 227 0 0) 227 1 0) 0 16 1)) := by
    intro W
    show fb_LE_beginAsSpare_46 (fb_LE_beginAsSpare_46 (fb_LE_beginAsSpare_46 (f_LE_beginAsSpare_46 999997))) _ _ _ = _
    unfold fb_LE_beginAsSpare_46
    rw [pl_gi (by decide) (by decide), if_pos (by decide), pc_gr pc_L0 (by decide) pc_r0.2.2.2.2.2.2.2.2.2.2.1 (by decide), pc_ast (i := 0) (a := 0) (Or.inr rfl) trivial pc_L227 rfl (by decide), pl_gi (by decide) (by decide), if_pos (by decide), pc_gr pc_L0 (by decide) pc_r0.2.2.2.2.2.2.2.2.2.2.1 (by decide), pc_ast (i := 1) (a := 0 + 1) (Or.inr rfl) trivial pc_L227 rfl (by decide), pl_gi (by decide) (by decide), if_neg (by decide), pc_put trivial pc_L0 (by decide) pc_r0'.2.2.2.1]
  unfold f_LE_beginAsSpare
  rw [pc_gr pc_L0 (by decide) pc_r0.2.2.2.2.2.2.2.2.1 (by decide), pc_grv pc_L0 (by decide) pc_r0'.2.1 zP, pc_cv s0, c1, pl_call, pc_cv pc_L0, t, pl_call, pc_gr pc_L0 (by decide) pc_r0.2.1 (by decide), pc_gr pc_L0 (by decide) pc_r0.2.2.2.2.2.2.2.2.1 (by decide), pc_gr s0 (by decide) r0 (by decide), pc_cv pc_L3, w1, pl_call, pc_gr pc_L0 (by decide) pc_r0.2.2.2.2.1 (by decide), pc_put trivial l170 (by decide) e170, pc_gr pc_L0 (by decide) pc_r0.2.2.2.1 (by decide), pc_cv pc_L8, pc_forget, pl_call, lp]
  refine ⟨_, rfl, ?_⟩
  generalize hY : gx_up (gx_up (gx_up (gx_up (gx_up (gx_up (gx_us Z2 4 f) 3 0 b) 170 2 0) 8 2 0) 227 0 0) 227 1 0) 0 16 1 = Y
  have yo : ∀ o, o ≠ 0 → o ≠ 3 → o ≠ 4 → o ≠ 8 → o ≠ 170 → o ≠ 227 → Y o = Z1 o := fun o q1 q2 q3 q4 q5 q6 => by rw [← hY, gx_up_ne q1, gx_up_ne q6, gx_up_ne q6, gx_up_ne q4, gx_up_ne q5, gx_up_ne q2, gx_us_ne q3]; exact zo o q1
  have y0 : ∀ j, Y 0 j = if j = 16 then 1 else Z2 0 j := fun j => by rw [← hY, gx_up_at, gx_up_ne (by decide), gx_up_ne (by decide), gx_up_ne (by decide), gx_up_ne (by decide), gx_up_ne (by decide), gx_us_ne (by decide)]
  refine ⟨fun o q1 q2 q3 q4 q5 q6 q7 => (yo o q1 q2 q3 q4 q5 q6).trans (c2 o (by omega)), ?_, ?_, ?_, ?_, fun j q1 q2 q3 q4 => ?_, ?_, ?_, ?_, ?_, ?_, ?_, ?_⟩
  · rw [y0, z0]; rfl
  · rw [y0, z0]; rfl
  · rw [y0]; rfl
  · rw [y0, z0]; rfl
  · rw [y0, z0, if_neg q3, if_neg q4, if_neg q2, if_neg q1, c2 0 (by omega)]
  · have ys : ∀ o, 202 ≤ o → o < 210 → Y o = Z1 o := fun o h1 h2 => yo o (by omega) (by omega) (by omega) (by omega) (by omega) (by omega)
    unfold pc_eq at c3 ⊢
    rw [ys (202 + 1) (by decide) (by decide), ys (202 + 2) (by decide) (by decide), ys (202 + 3) (by decide) (by decide), ys (202 + 4) (by decide) (by decide), ys (202 + 5) (by decide) (by decide), ys (202 + 6) (by decide) (by decide), ys (202 + 7) (by decide) (by decide), ys 202 (by decide) (by decide)]
    exact c3
  · rw [← hY, gx_up_ne (by decide), gx_up_ne (by decide), gx_up_ne (by decide), gx_up_ne (by decide), gx_up_at, if_pos rfl]
  · rw [← hY, gx_up_ne (by decide), gx_up_ne (by decide), gx_up_ne (by decide), gx_up_at, if_neg (by decide), gx_up_ne (by decide), gx_up_ne (by decide), gx_us_ne (by decide), zo 8 (by decide), c2 8 (by omega)]
  · rw [← hY, gx_up_ne (by decide), gx_up_ne (by decide), gx_up_ne (by decide), gx_up_at, if_pos rfl]
  · rw [← hY, gx_up_ne (by decide), gx_up_at, if_neg (by decide), gx_up_at, if_pos rfl]
  · rw [← hY, gx_up_ne (by decide), gx_up_at, if_pos rfl]
  · have y3 : Y 3 0 = b := by rw [← hY, gx_up_ne (by decide), gx_up_ne (by decide), gx_up_ne (by decide), gx_up_ne (by decide), gx_up_ne (by decide), gx_up_at, if_pos rfl]
    have y4 : ∀ j, Y 4 j = f j := fun j => by rw [← hY, gx_up_ne (by decide), gx_up_ne (by decide), gx_up_ne (by decide), gx_up_ne (by decide), gx_up_ne (by decide), gx_up_ne (by decide), gx_us_eq]
    unfold rl_sc
    rw [y3]
    rcases w2 with ⟨q1, m, q2, q3, q4⟩ | q
    · exact Or.inl ⟨q1, m, q2, fun j hj => (y4 j).trans (q3 j hj), q4⟩
    · exact Or.inr q
/-- a state that a text gives, on both sides -/
theorem rl_st_new {n S x : Nat} {Z X X0 : Nat → Nat → Int} (hn4 : n ≤ 4) (hn : Z (S + 1) 0 = (n : Int)) (hN : tx_new S Z) (hb : pm_bg n X0 (fun j => X 1 (x + j))) (ht : ∀ j, j < 16 → X0 14 j = Z (S + 2) j) (hw : ∀ i, i < n → X0 15 i = Z (S + 4) i ∧ 1 ≤ Z (S + 4) i ∧ Z (S + 4) i ≤ 9) (hT : ∀ i j, i < n → j < n → -3 ≤ pc_T Z (S + 2) i j ∧ pc_T Z (S + 2) i j ≤ 3) : rl_st n (pc_T Z (S + 2)) Z S X x := by
  obtain ⟨b1, b2, b3, b4⟩ := hb
  obtain ⟨n1, n2, n3⟩ := hN
  have x1 : ∀ i, i < n → X 1 (x + i) = Z (S + 4) i ∧ X 1 (x + 4 + i) = 1 := fun i hi => by
    obtain ⟨p, q⟩ := b1 i hi
    dsimp only at p q
    rw [show x + (4 + i) = x + 4 + i by omega] at q
    exact ⟨p.trans (hw i hi).1, q⟩
  have x2 : ∀ i j, i < n → j < n → X 1 (x + 8 + 4 * i + j) = Z (S + 2) (4 * i + j) := fun i j hi hj => by
    have p := b2 i j hi hj
    dsimp only at p
    rw [show x + (8 + 4 * i + j) = x + 8 + 4 * i + j by omega] at p
    exact p.trans (ht _ (by omega))
  have x3 : ∀ i j, i < n → j < n → X 1 (x + 24 + 4 * i + j) = (if i = j then -1 else 0) ∧ X 1 (x + 40 + 4 * i + j) = (if i = j then 1 else 0) ∧ X 1 (x + 56 + 4 * i + j) = (if i = j then 1 else 0) := fun i j hi hj => by
    obtain ⟨p, q, r⟩ := b3 i j (by omega) (by omega)
    dsimp only at p q r
    rw [show x + (24 + 4 * i + j) = x + 24 + 4 * i + j by omega] at p
    rw [show x + (40 + 4 * i + j) = x + 40 + 4 * i + j by omega] at q
    rw [show x + (56 + 4 * i + j) = x + 56 + 4 * i + j by omega] at r
    by_cases c : i = j
    · rw [if_pos ⟨c, hi⟩] at p q r
      rw [if_pos c, if_pos c]
      exact ⟨p, q, r⟩
    · rw [if_neg (fun h => c h.1)] at p q r
      rw [if_neg c, if_neg c]
      exact ⟨p, q, r⟩
  have x4 : X 1 (x + 72) = 0 := b4 72 (by decide) (by decide)
  have mi : ∀ c : Prop, ∀ [Decidable c], mu_in (if c then (-1 : Int) else 0) ∧ mu_in (if c then (1 : Int) else 0) := fun c _ => by
    by_cases h : c
    · rw [if_pos h, if_pos h]; decide
    · rw [if_neg h, if_neg h]; decide
  refine ⟨⟨hn, fun i hi j hj => (x2 i j hi hj).symm, fun i hi j hj => ?_, fun i hi j hj => ?_, fun i hi j hj => ?_, fun i hi => ⟨(x1 i hi).1.symm, ?_⟩, ?_⟩, ⟨fun i => (X 1 (x + i)).toNat, fun _ => 1, fun i hi j hj => ?_, fun i hi j hj => ?_, fun i hi j hj => ?_, fun i hi j hj => ?_, fun i hi => ?_, ?_⟩, [], ⟨fun k hk => absurd hk (List.not_mem_nil), Or.inr rfl, fun i hi j hj => x2 i j hi hj, fun i hi j hj => (x3 i j hi hj).1⟩⟩
  · exact (n3 i j (by omega) (by omega)).1.trans (x3 i j hi hj).1.symm
  · exact (n3 i j (by omega) (by omega)).2.1.trans (x3 i j hi hj).2.1.symm
  · exact (n3 i j (by omega) (by omega)).2.2.trans (x3 i j hi hj).2.2.symm
  · rw [(x1 i hi).2]; exact n2 i (by omega)
  · rw [x4]; exact n1
  · have := hT i j hi hj
    show -99 ≤ X 1 (x + 8 + 4 * i + j) ∧ X 1 (x + 8 + 4 * i + j) ≤ 99
    rw [x2 i j hi hj]
    have e : pc_T Z (S + 2) i j = Z (S + 2) (4 * i + j) := rfl
    rw [e] at this
    omega
  · show mu_in (X 1 (x + 24 + 4 * i + j)); rw [(x3 i j hi hj).1]; exact (mi _).1
  · show mu_in (X 1 (x + 40 + 4 * i + j)); rw [(x3 i j hi hj).2.1]; exact (mi _).2
  · show mu_in (X 1 (x + 56 + 4 * i + j)); rw [(x3 i j hi hj).2.2]; exact (mi _).2
  · have h1 := x1 i hi
    have h2 := hw i hi
    have h3 : ((X 1 (x + i)).toNat : Int) = X 1 (x + i) := Int.toNat_of_nonneg (by omega)
    have h4 : 0 < (X 1 (x + i)).toNat ∧ (X 1 (x + i)).toNat ≤ 1000000000 := by omega
    exact ⟨h3.symm, h1.2, h4.1, h4.2, (by decide : 0 < 1), (by decide : 1 ≤ 1000000000)⟩
  · rw [x4]; decide
/-- both sides begin as a text says -/
theorem rl_begun {n A P O : Nat} {Z Y X X2 : Nat → Nat → Int} (hn2 : 2 ≤ n) (hn4 : n ≤ 4) (hp : (A = 230 ∧ P = 238) ∨ (A = 238 ∧ P = 230)) (hn : Z (P + 1) 0 = (n : Int)) (hN : tx_new P Z) (ht : ∀ j, j < 16 → X 14 j = Z (P + 2) j) (hw : ∀ i, i < n → X 15 i = Z (P + 4) i ∧ 1 ≤ Z (P + 4) i ∧ Z (P + 4) i ≤ 9) (hT : tx_T (pc_T Z (P + 2))) (hO : Z 8 1 = (O : Int) ∧ O < 20) (h15 : Z 0 15 = X 0 4 ∧ 0 ≤ X 0 4 ∧ X 0 4 < 2147483648) (hs : tx_s 0 Z X ∧ Z 1 3 = X 0 8)
    (y : (∀ o, o ≠ 0 → o ≠ 3 → o ≠ 4 → o ≠ 8 → o ≠ 170 → o ≠ 227 → (o < 202 ∨ 210 ≤ o) → Y o = Z o) ∧ Y 0 13 = (P : Int) ∧ Y 0 14 = (A : Int) ∧ Y 0 16 = 1 ∧ Y 0 17 = 1 ∧ (∀ j, j ≠ 13 → j ≠ 14 → j ≠ 16 → j ≠ 17 → Y 0 j = Z 0 j) ∧ pc_eq Z P Y 202 ∧ Y 170 2 = 0 ∧ Y 8 1 = Z 8 1 ∧ Y 8 2 = 0 ∧ Y 227 0 = 0 ∧ Y 227 1 = 0 ∧ rl_sc n (pc_T Z (P + 2)) Y)
    (x : (∀ o, o ≠ 0 → o ≠ 1 → X2 o = X o) ∧ X2 0 1 = (n : Int) ∧ X2 0 2 = 0 ∧ X2 0 3 = 0 ∧ X2 0 11 = 0 ∧ (∀ j, j ≠ 1 → j ≠ 2 → j ≠ 3 → j ≠ 11 → X2 0 j = X 0 j) ∧ (∀ q, 80 ≤ q → (q < 1840 ∨ 1920 ≤ q) → X2 1 q = X 1 q) ∧ (∀ j, j < 80 → X2 1 j = X2 1 (1840 + j)) ∧ pm_bg n X (fun j => X2 1 (1840 + j))) : rl Y X2 := by
  obtain ⟨y1, y2, y3, y4, y5, y6, y7, y8, y9, y10, y11, y12, y13⟩ := y
  obtain ⟨x1, x2, x3, x4, x5, x6, x7, x8, x9⟩ := x
  have hT3 : ∀ i j, i < n → j < n → -3 ≤ pc_T Z (P + 2) i j ∧ pc_T Z (P + 2) i j ≤ 3 := fun i j hi hj => ⟨(hT i (by omega) j (by omega)).1, (hT i (by omega) j (by omega)).2.1⟩
  have hst := rl_st_new (x := 1840) hn4 hn hN x9 ht hw hT3
  have hst0 : rl_st n (pc_T Z (P + 2)) Z P X2 0 := rl_st_copy hn4 (A := P) (x := 1840) ⟨rfl, fun _ _ => rfl, fun _ _ => rfl, fun _ _ => rfl, fun _ _ => rfl, fun _ _ => rfl, fun _ _ => rfl, rfl⟩ (fun j hj => by rw [Nat.zero_add]; exact x8 j hj) hst
  refine ⟨n, pc_T Z (P + 2), P, A, 0, O, 0, 0, ⟨⟨hn2, hn4, x2⟩, ⟨y2, y3, by omega⟩, hT3, rl_st_cg hn4 (fun o a b => y1 o (by omega) (by omega) (by omega) (by omega) (by omega) (by omega) (by omega)) (fun _ _ _ => rfl) hst0, rl_st_copy hn4 y7 (fun _ _ => rfl) hst, ⟨y9.trans hO.1, hO.2, y10, x3, by decide, fun e he => by omega⟩, ⟨Or.inl y11, Or.inl y12, by rw [y11, y12, x4]; decide, fun i hi hk => ?_⟩, ⟨?_, ?_, ?_⟩, ⟨⟨?_, ?_, by decide, fun q hq => by omega⟩, ?_⟩, ⟨y8, x5, by decide, fun e he => by omega⟩, y13⟩, ⟨Or.inr y4, Or.inr y5, fun _ => y5, fun h => absurd h (by rw [y4]; decide)⟩⟩
  · rcases (show i = 0 ∨ i = 1 by omega) with q | q
    · subst q; rw [y11] at hk; exact absurd hk (by decide)
    · subst q; rw [y12] at hk; exact absurd hk (by decide)
  · rw [y6 15 (by decide) (by decide) (by decide) (by decide), x6 4 (by decide) (by decide) (by decide) (by decide)]; exact h15.1
  · rw [x6 4 (by decide) (by decide) (by decide) (by decide)]; exact h15.2.1
  · rw [x6 4 (by decide) (by decide) (by decide) (by decide)]; exact h15.2.2
  · rw [y1 1 (by decide) (by decide) (by decide) (by decide) (by decide) (by decide) (by decide)]; exact hs.1.1
  · rw [x6 7 (by decide) (by decide) (by decide) (by decide)]; exact hs.1.2.1
  · rw [y1 1 (by decide) (by decide) (by decide) (by decide) (by decide) (by decide) (by decide), x6 8 (by decide) (by decide) (by decide) (by decide)]; exact hs.2
