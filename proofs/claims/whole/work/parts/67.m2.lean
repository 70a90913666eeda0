/-! deeds, both sides: an exchange tried, taken, remembered -/
theorem mu_cae_q {n k : Nat} {B B' D D' C C' G G' : Nat → Nat → Int} {U V : Nat → Nat} (h1 : mu_q n B B') (h2 : mu_q n D D') (h3 : mu_q n C C') (h4 : mu_q n G G') (hk : k < n) : mu_cae n B D C G U V k ↔ mu_cae n B' D' C' G' U V k := by
  unfold mu_cae
  rw [fr_W_q h1 hk, mu_q_bd (mu_q_B h1 hk), mu_q_fr (mu_q_D h1 h2 hk) hk, mu_q_bd (mu_q_C h1 h3 hk), mu_q_fr (mu_q_G h1 h3 h4 hk) hk]
theorem rl_wt {n m : Nat} {B B0 : Nat → Nat → Int} {ks : List Nat} (hk : ∀ k ∈ ks, k < n) (h : mu_q n B (mu_rB ks B0)) : mu_wt n B (mu_dg n m) ↔ mu_wt n B0 (mu_dg n m) :=
  (mu_q_wt h).trans (mu_rB_wt (fun i _ => (mu_dg_in n m i).1) ks B0 hk)
theorem rl_well {n x : Nat} {B0 X : Nat → Nat → Int} (h : rl_V n B0 X x) : (∀ m, mu_wt n (pm_T X (x + 8)) (mu_dg n m) ↔ mu_wt n B0 (mu_dg n m)) ∧ (mu_well n (pm_T X (x + 8)) ↔ mu_well n B0) := by
  obtain ⟨-, ks, hk, -, e⟩ := h
  have w : ∀ m, mu_wt n (pm_T X (x + 8)) (mu_dg n m) ↔ mu_wt n B0 (mu_dg n m) := fun m => rl_wt hk e.1
  exact ⟨w, ⟨fun ⟨m, a, b⟩ => ⟨m, a, (w m).mp b⟩, fun ⟨m, a, b⟩ => ⟨m, a, (w m).mpr b⟩⟩⟩
theorem rl_sc_1 {n : Nat} {B0 Z : Nat → Nat → Int} (h : rl_sc n B0 Z) : (Z 3 0 = 0 ∨ Z 3 0 = 1) ∧ (Z 3 0 = 1 ↔ mu_well n B0) := by
  rcases h with ⟨a, m, b, c, d, e⟩ | ⟨a, b⟩
  · exact ⟨Or.inr a, ⟨fun _ => ⟨m, b, d⟩, fun _ => a⟩⟩
  · exact ⟨Or.inl a, ⟨fun z => by omega, fun z => absurd z b⟩⟩
theorem fr_W_ok {B : Nat → Nat → Int} {n k : Nat} {U V : Nat → Nat} (hU : ∀ i, i < n → 0 < U i ∧ U i ≤ 1000000000 ∧ 0 < V i ∧ V i ≤ 1000000000) (hk : k < n) (h : (fr_W B n k U V).2.2 = false) : 0 < (fr_W B n k U V).1 ∧ (fr_W B n k U V).1 ≤ 1000000000 ∧ 0 < (fr_W B n k U V).2.1 ∧ (fr_W B n k U V).2.1 ≤ 1000000000 := by
  have o1 := fr_P_ok (B := B) (k := k) (sg := 1) (z := false) hU n (Nat.le_refl _)
  have o2 := fr_P_ok (B := B) (k := k) (sg := -1) (z := (fr_P B k 1 U V false n).2.2) hU n (Nat.le_refl _)
  have zz := fun (q : (fr_P B k 1 U V false n).2.2 = true) => fr_P_z (B := B) (k := k) (sg := -1) (U := U) (V := V) n
  unfold fr_W fr_E at *
  generalize fr_P B k 1 U V false n = s1 at *
  by_cases c : (fr_P B k (-1) U V s1.2.2 n).2.2 = true
  · rw [if_pos c] at h
    rw [c] at h
    cases h
  · rw [if_neg c] at h ⊢
    have c1 : s1.2.2 = false := by
      cases q : s1.2.2 with
      | false => rfl
      | true =>
        rw [q] at c
        exact absurd (zz q) c
    generalize fr_P B k (-1) U V s1.2.2 n = s2 at *
    have c2 : s2.2.2 = false := by simpa using c
    have b1 := o1.2.2.1 c1
    have b2 := o2.2.2.1 c2
    have m1 := fr_mul_le b1.1 b2.2
    have m2 := fr_mul_le b2.1 b1.2
    have m3 := fr_mul_le b1.2 b2.2
    have p1 := Nat.mul_pos o1.1 o2.2.1
    have p3 := Nat.mul_pos o1.2.1 o2.2.1
    have uk := hU k hk
    have f1 := fr_S_ok (a := s1.1 * s2.2.1 + s2.1 * s1.2.1) (b := s1.2.1 * s2.2.1) (by omega) p3 (by omega) (by omega)
    have f2 := fr_T_ok f1 uk.2.2.1 uk.1 uk.2.2.2 uk.2.1
    have f3 := f2.2.2.1 h
    exact ⟨f2.1, f3.1, f2.2.1, f3.2⟩
/-- an exchange tried: both can, or neither -/
def rl_tr (n k A P : Nat) (Z Z' X X' : Nat → Nat → Int) : Prop := ∃ U V, pm_R n X 0 U V ∧ mu_can n (pm_T X 8) (pm_T X 24) (pm_T X 40) (pm_T X 56) U V k ∧ pc_made n k Z A Z' P U V ∧ pm_tried n k X X' U V
theorem pc_r5 : pc_L[5]? = some (3 + 3, 2) := by decide +kernel
theorem both_try {n A P K O len kb k : Nat} {a : Int} {B0 Z X : Nat → Nat → Int} (hC : rl_C n B0 A P K O len kb Z X) (ha : a = (k : Int)) (hk : k < n) :
    ∃ (fl : Int) (Z' X' : Nat → Nat → Int), f_LE_exchangesIntoSpare (pc_h Z) 0 a = some (fl, pc_h Z') ∧ f_MD_tries (pm_h X) 0 a = some (fl, pm_h X') ∧ pc_fA P Z Z' ∧ pm_S X X' ∧ (fl = 0 ∨ (fl = 1 ∧ rl_tr n k A P Z Z' X X')) := by
  subst ha
  obtain ⟨⟨hn2, hn4, hX⟩, ⟨zA, zP, hp⟩, -, ⟨hE, hV⟩, -, -, -, -, -, -, hsc⟩ := id hC
  have hS : pc_S A = true := by rcases hp with q | q <;> rw [q.1] <;> decide
  have hSP : pc_S P = true := by rcases hp with q | q <;> rw [q.2] <;> decide
  have hPA : P ≠ A := by omega
  obtain ⟨w1, w2⟩ := rl_well hV
  obtain ⟨⟨U, V, hR⟩, -⟩ := id hV
  have tr := pm_tries X (k := k) hX hn4 hn2 rfl hk hR
  obtain ⟨sc0, sc1⟩ := rl_sc_1 hsc
  have ok : pc_ok n Z A U V := by
    obtain ⟨r1, r2, r3, r4, r5, r6⟩ := hR
    obtain ⟨e1, e2, e3, e4, e5, e6, e7⟩ := hE
    refine ⟨e1, (mu_q_bd e2).mpr r1, (mu_q_bd e3).mpr r2, (mu_q_bd e4).mpr r3, (mu_q_bd e5).mpr r4, fun i hi => ?_, by rw [e7]; exact r6⟩
    obtain ⟨q1, q2, q3⟩ := r5 i hi
    exact ⟨(e6 i hi).1.trans q1, (e6 i hi).2.trans q2, q3⟩
  have fill := pc_fill Z (A := P) (S := A) (k := k) hSP hS hPA hn4 rfl hk ok
  have cae := mu_cae_q (U := U) (V := V) hE.2.1 hE.2.2.1 hE.2.2.2.1 hE.2.2.2.2.1 hk
  unfold f_LE_exchangesIntoSpare fb_LE_exchangesIntoSpare_33
  rw [pc_gr pc_L0 (by decide) pc_r0.2.1 (by decide), pc_get pc_L3 (by decide) pc_r3.1]
  by_cases c : Z 3 0 = 0
  · rw [if_pos c]
    have no : ¬ mu_can n (pm_T X 8) (pm_T X 24) (pm_T X 40) (pm_T X 56) U V k := fun z => by
      have := sc1.mpr (w2.mp z.1)
      omega
    obtain ⟨X', e, S⟩ := tr.2 no
    exact ⟨0, Z, X', rfl, e, fun _ _ _ _ => rfl, S, Or.inl rfl⟩
  · have hwell : mu_well n (pm_T X 8) := w2.mpr (sc1.mp (by omega))
    rw [if_neg c, pc_gr pc_L0 (by decide) pc_r0.2.2.1 (by decide), pc_grv pc_L0 (by decide) pc_r0'.2.1 zP, pc_grv pc_L0 (by decide) pc_r0'.1 zA, pc_cv pc_r5]
    by_cases d : mu_cae n (pc_T Z (A + 2)) (pc_T Z (A + 3)) (pc_T Z (A + 6)) (pc_T Z (A + 7)) U V k
    · have can : mu_can n (pm_T X 8) (pm_T X 24) (pm_T X 40) (pm_T X 56) U V k := ⟨hwell, cae.mp d⟩
      obtain ⟨Z', e1, f1, m1⟩ := fill.1 d
      obtain ⟨X', e2, S, t2⟩ := tr.1 can
      rw [e1, pl_call, pl_gi (by decide) (by decide), if_neg (by decide)]
      exact ⟨1, Z', X', rfl, e2, f1, S, Or.inr ⟨rfl, U, V, hR, can, m1, t2⟩⟩
    · have no : ¬ mu_can n (pm_T X 8) (pm_T X 24) (pm_T X 40) (pm_T X 56) U V k := fun z => d (cae.mpr z.2)
      obtain ⟨Z', e1, f1⟩ := fill.2 d
      obtain ⟨X', e2, S⟩ := tr.2 no
      rw [e1, pl_call, pl_gi (by decide) (by decide), if_pos rfl]
      exact ⟨0, Z', X', rfl, e2, f1, S, Or.inl rfl⟩
/-- what was tried is taken -/
theorem rl_taken {n A P k : Nat} {B0 Z Z' X X' Y W : Nat → Nat → Int} (hn4 : n ≤ 4) (hk : k < n) (hnow : rl_st n B0 Z A X 0) (h : rl_tr n k A P Z Z' X X') (hY : ∀ j, j < 80 → Y 1 j = if j = 72 then (if X' 1 1992 < 99999 then X' 1 1992 + 1 else 99999) else X' 1 (1920 + j)) (hW : ∀ o, P ≤ o → o < P + 8 → W o = Z' o) : rl_st n B0 W P Y 0 := by
  obtain ⟨U, V, ⟨r1, r2, r3, r4, r5, r6⟩, can, ⟨m1, m2, m3, m4, m5, m6, m7, m8⟩, ⟨t1, t2, t3, t4, t5, t6, t7⟩⟩ := h
  obtain ⟨⟨e1, e2, e3, e4, e5, e6, e7⟩, hV, ks, k1, k2, k3⟩ := hnow
  have y : ∀ c, c + 16 ≤ 72 → mu_q n (pm_T Y (0 + c)) (pm_T X' (1920 + c)) := fun c hc i hi j hj => by
    show Y 1 (0 + c + 4 * i + j) = X' 1 (1920 + c + 4 * i + j)
    rw [hY _ (by omega), if_neg (by omega)]
    exact congrArg (X' 1) (by omega)
  have q8 : mu_q n (pm_T Y (0 + 8)) (mu_B (pm_T X 8) k) := (y 8 (by decide)).trans t1
  have q24 : mu_q n (pm_T Y (0 + 24)) (mu_D n (pm_T X 8) (pm_T X 24) k) := (y 24 (by decide)).trans t2
  have q40 : mu_q n (pm_T Y (0 + 40)) (mu_C (pm_T X 8) (pm_T X 40) k) := (y 40 (by decide)).trans t3
  have q56 : mu_q n (pm_T Y (0 + 56)) (mu_G n (pm_T X 8) (pm_T X 40) (pm_T X 56) k) := (y 56 (by decide)).trans t4
  have tw : ∀ d, d < 8 → W (P + d) = Z' (P + d) := fun d hd => hW _ (by omega) (by omega)
  have pw : ∀ d, d < 8 → pc_T W (P + d) = pc_T Z' (P + d) := fun d hd => by unfold pc_T; rw [tw d hd]
  have fw : fr_W (pc_T Z (A + 2)) n k U V = fr_W (pm_T X 8) n k U V := fr_W_q (U := U) (V := V) e2 hk
  have yv : ∀ i, i < n → Y 1 (0 + i) = X' 1 (1920 + i) := fun i hi => by rw [hY _ (by omega), if_neg (by omega), Nat.zero_add]
  have yb : ∀ i, i < n → Y 1 (0 + 4 + i) = X' 1 (1924 + i) := fun i hi => by
    rw [hY _ (by omega), if_neg (by omega)]
    exact congrArg (X' 1) (by omega)
  have u72 : X' 1 1992 = Z A 5 := t7.trans e7.symm
  refine ⟨⟨?_, ?_, ?_, ?_, ?_, fun i hi => ⟨?_, ?_⟩, ?_⟩, ⟨fun i => if i = k then (fr_W (pm_T X 8) n k U V).1 else U i, fun i => if i = k then (fr_W (pm_T X 8) n k U V).2.1 else V i, ?_, ?_, ?_, ?_, fun i hi => ?_, ?_⟩, ks ++ [k], fun x hx => ?_, Or.inl ?_, ?_⟩
  · rw [tw 1 (by decide)]; exact m1
  · rw [pw 2 (by decide)]; exact m2.trans ((mu_q_B e2 hk).trans q8.symm)
  · rw [pw 3 (by decide)]; exact m3.trans ((mu_q_D e2 e3 hk).trans q24.symm)
  · rw [pw 6 (by decide)]; exact m4.trans ((mu_q_C e2 e4 hk).trans q40.symm)
  · rw [pw 7 (by decide)]; exact m5.trans ((mu_q_G e2 e4 e5 hk).trans q56.symm)
  · rw [tw 4 (by decide), m6 i hi, yv i hi, t5 i hi, fw, (e6 i hi).1, Nat.zero_add]
  · rw [tw 5 (by decide), m7 i hi, yb i hi, t6 i hi, fw, (e6 i hi).2, Nat.zero_add]
  · have w0 : W P = Z' P := tw 0 (by decide)
    rw [w0, m8, hY 72 (by decide), if_pos rfl, u72]
  · exact (mu_q_bd q8).mpr can.2.2.1
  · exact (mu_q_bd q24).mpr ((mu_D_fr r2 hk).mpr can.2.2.2.1)
  · exact (mu_q_bd q40).mpr can.2.2.2.2.1
  · exact (mu_q_bd q56).mpr ((mu_G_fr r4 hk).mpr can.2.2.2.2.2)
  · obtain ⟨x1, x2, x3⟩ := r5 i hi
    rw [yv i hi, yb i hi, t5 i hi, t6 i hi]
    dsimp only
    by_cases c : i = k
    · subst c
      have f := fr_W_ok (B := pm_T X 8) (fun i hi => (r5 i hi).2.2) hi can.2.1
      simp only [if_pos]
      exact ⟨trivial, trivial, f⟩
    · simp only [if_neg c]
      rw [Nat.zero_add] at x1
      exact ⟨x1, x2, x3⟩
  · have r6' : 0 ≤ X 1 (0 + 72) ∧ X 1 (0 + 72) ≤ 99999 := r6
    rw [hY 72 (by decide), if_pos rfl, u72, e7]
    constructor <;> split <;> omega
  · rcases List.mem_append.mp hx with q | q
    · exact k1 x q
    · rw [List.mem_singleton.mp q]; exact hk
  · obtain ⟨m, a1, a2⟩ := can.1
    exact ⟨m, a1, (rl_wt k1 k3.1).mp a2⟩
  · have e := st_mv_E (k := k) k3 hk
    have e' : st_mv n (rc_R n B0 ks) k = rc_R n B0 (ks ++ [k]) := by
      unfold rc_R st_mv
      rw [mu_rB_app, mu_rD_app]
      rfl
    rw [e'] at e
    exact st_E.trans (b := st_mv n (pm_T X (0 + 8), pm_T X (0 + 24)) k) ⟨q8, q24⟩ e
/-- the parts of the relation that deeds leave -/
theorem rl_C_mk {n A P K O len kb A' P' K' O' : Nat} {B0 Z X Z' X' : Nat → Nat → Int} (h : rl_C n B0 A P K O len kb Z X) (zc : ∀ o, o = 1 ∨ o = 2 ∨ o = 3 ∨ o = 4 ∨ o = 170 ∨ o = 171 ∨ o = 172 → Z' o = Z o) (xc : ∀ o, o = 3 ∨ o = 4 ∨ o = 5 → X' o = X o) (x0 : ∀ j, j = 1 ∨ j = 7 ∨ j = 8 ∨ j = 11 → X' 0 j = X 0 j) (zf : ∀ o, 202 ≤ o → o < 210 → Z' o = Z o) (xf : ∀ j, 1840 ≤ j → j < 1920 → X' 1 j = X 1 j)
    (hp : Z' 0 13 = (A' : Int) ∧ Z' 0 14 = (P' : Int) ∧ ((A' = 230 ∧ P' = 238) ∨ (A' = 238 ∧ P' = 230))) (hnow : rl_st n B0 Z' A' X' 0) (hh : Z' 8 1 = (O' : Int) ∧ O' < 20 ∧ Z' 8 2 = (K' : Int) ∧ X' 0 2 = (K' : Int) ∧ K' ≤ 20 ∧ ∀ e, e < K' → rl_st n B0 Z' (10 + 8 * ((O' + e) % 20)) X' (80 * (e + 1)))
    (hk : (Z' 227 0 = 0 ∨ Z' 227 0 = 1) ∧ (Z' 227 1 = 0 ∨ Z' 227 1 = 1) ∧ X' 0 3 = Z' 227 0 + 2 * Z' 227 1 ∧ ∀ i, i < 2 → Z' 227 i = 1 → rl_st n B0 Z' (211 + 8 * i) X' (1680 + 80 * i) ∧ Z' 228 i = X' 2 i ∧ 0 ≤ X' 2 i ∧ X' 2 i < 2147483648) (hs : Z' 0 15 = X' 0 4 ∧ 0 ≤ X' 0 4 ∧ X' 0 4 < 2147483648) : rl_C n B0 A' P' K' O' len kb Z' X' := by
  obtain ⟨⟨h1, h1a, h1b⟩, -, h3, -, h5, -, -, -, ⟨⟨t1, t2, t3, t4⟩, t5⟩, ⟨b1, b2, b3, b4⟩, s⟩ := h
  refine ⟨⟨h1, h1a, (x0 1 (by omega)).trans h1b⟩, hp, h3, hnow, rl_st_cg h1a (fun o a b => zf o a (by omega)) (fun j a b => xf j a (by omega)) h5, hh, hk, hs, ⟨⟨?_, ?_, t3, fun q hq => ?_⟩, ?_⟩, ⟨?_, ?_, b3, fun e he => ?_⟩, ?_⟩
  · rw [zc 1 (by omega)]; exact t1
  · rw [x0 7 (by omega)]; exact t2
  · rw [xc 3 (by omega), zc 2 (by omega)]; exact t4 q hq
  · rw [zc 1 (by omega), x0 8 (by omega)]; exact t5
  · rw [zc 170 (by omega)]; exact b1
  · rw [x0 11 (by omega)]; exact b2
  · rw [zc 171 (by omega), zc 172 (by omega), xc 4 (by omega), xc 5 (by omega)]; exact b4 e he
  · unfold rl_sc
    rw [zc 3 (by omega), zc 4 (by omega)]
    exact s
/-- both remember -/
theorem both_rem {n A P K O len kb : Nat} {B0 Z X : Nat → Nat → Int} (hC : rl_C n B0 A P K O len kb Z X) :
    ∃ (Z' X' : Nat → Nat → Int) (K' O' : Nat), f_HI_remember (pc_h Z) 8 A = some (0, pc_h Z') ∧ f_MD_remember (pm_h X) 0 = some (0, pm_h X') ∧ rl_C n B0 A P K' O' len kb Z' X' ∧ (∀ o, (o < 8 ∨ 170 ≤ o) → Z' o = Z o) ∧ (∀ o, o ≠ 0 → o ≠ 1 → X' o = X o) ∧ (∀ j, j ≠ 2 → X' 0 j = X 0 j) ∧ ∀ j, j < 80 ∨ 1680 ≤ j → X' 1 j = X 1 j := by
  obtain ⟨⟨hn2, hn4, hX⟩, ⟨zA, zP, hp⟩, -, hnow, -, ⟨h6, h6a, h6b, h6c, h6d, h6e⟩, ⟨h7, h7a, h7b, h7c⟩, hs, -⟩ := id hC
  have hS : pc_S A = true := by rcases hp with q | q <;> rw [q.1] <;> decide
  obtain ⟨Z', e1, z1, z2, z3, z4⟩ := pc_remember Z (S := A) (O := O) (K := K) hS (by omega) h6 h6a h6b h6d
  obtain ⟨X', e2, x1, x2, x3, x4, x5⟩ := pm_remember X (K := K) h6c h6d
  have zo : ∀ o, (o < 8 ∨ 170 ≤ o) → Z' o = Z o := fun o ho => z1 o (by omega) (by omega)
  have slot : ∀ e q, q < 80 → e < 20 → X' 1 (80 * (e + 1) + q) = if K < 20 then (if e = K then X 1 q else X 1 (80 * (e + 1) + q)) else (if e = 19 then X 1 q else X 1 (80 * (e + 2) + q)) := fun e q hq he => x5 e q he hq
  refine ⟨Z', X', min (K + 1) 20, if K < 20 then O else (O + 1) % 20, e1, e2, rl_C_mk hC (fun o ho => zo o (by omega)) (fun o ho => x1 o (by omega) (by omega)) (fun j hj => x2 j (by omega)) (fun o a b => zo o (by omega)) (fun j a b => x4 j (by omega)) ⟨by rw [zo 0 (by decide)]; exact zA, by rw [zo 0 (by decide)]; exact zP, hp⟩ (rl_st_cg hn4 (fun o a b => zo o (by omega)) (fun j a b => x4 j (by omega)) hnow) ⟨z3, ?_, z4, x3, by omega, fun e he => ?_⟩ ⟨?_, ?_, ?_, fun i hi hk => ?_⟩ ?_, zo, x1, x2, x4⟩
  · split
    · exact h6a
    · exact Nat.mod_lt _ (by decide)
  · by_cases c : K < 20
    · rw [if_pos c]
      by_cases d : e = K
      · subst d
        exact rl_st_copy hn4 z2 (fun j hj => by rw [slot e j hj (by omega), if_pos c, if_pos rfl, Nat.zero_add]) hnow
      · refine rl_st_cg hn4 (fun o a b => z1 o (by omega) (by omega)) (fun j a b => ?_) (h6e e (by omega))
        have := slot e (j - 80 * (e + 1)) (by omega) (by omega)
        rw [if_pos c, if_neg d, show 80 * (e + 1) + (j - 80 * (e + 1)) = j by omega] at this
        exact this
    · have eK : K = 20 := by omega
      subst eK
      rw [if_neg c]
      by_cases d : e = 19
      · subst d
        rw [show ((O + 1) % 20 + 19) % 20 = (O + 20) % 20 by omega]
        exact rl_st_copy hn4 z2 (fun j hj => by rw [slot 19 j hj (by omega), if_neg c, if_pos rfl, Nat.zero_add]) hnow
      · rw [show ((O + 1) % 20 + e) % 20 = (O + (e + 1)) % 20 by omega]
        refine rl_st_copy hn4 (A := 10 + 8 * ((O + (e + 1)) % 20)) (S := 10 + 8 * ((O + (e + 1)) % 20)) ?_ (fun j hj => ?_) (h6e (e + 1) (by omega))
        · have zz : ∀ o, 10 + 8 * ((O + (e + 1)) % 20) ≤ o → o < 10 + 8 * ((O + (e + 1)) % 20) + 8 → Z' o = Z o := fun o a b => z1 o (by omega) (by omega)
          refine ⟨?_, ?_, ?_, ?_, ?_, ?_, ?_, ?_⟩
          · rw [zz _ (by omega) (by omega)]
          · intro j _; rw [zz _ (by omega) (by omega)]
          · intro j _; rw [zz _ (by omega) (by omega)]
          · intro j _; rw [zz _ (by omega) (by omega)]
          · intro j _; rw [zz _ (by omega) (by omega)]
          · intro j _; rw [zz _ (by omega) (by omega)]
          · intro j _; rw [zz _ (by omega) (by omega)]
          · rw [zz _ (by omega) (by omega)]
        · rw [slot e j hj (by omega), if_neg c, if_neg d]
  · rw [zo 227 (by decide)]; exact h7
  · rw [zo 227 (by decide)]; exact h7a
  · rw [zo 227 (by decide), x2 3 (by decide)]; exact h7b
  · rw [zo 227 (by decide)] at hk
    rw [zo 228 (by decide), x1 2 (by decide) (by decide)]
    obtain ⟨q1, q2⟩ := h7c i hi hk
    exact ⟨rl_st_cg hn4 (fun o a b => zo o (by omega)) (fun j a b => x4 j (by omega)) q1, q2⟩
  · rw [zo 0 (by decide), x2 4 (by decide)]; exact hs
