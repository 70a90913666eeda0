/-! the class and the reference, held against one another -/
def rl_E (n : Nat) (Z : Nat → Nat → Int) (S : Nat) (X : Nat → Nat → Int) (x : Nat) : Prop :=
  Z (S + 1) 0 = (n : Int) ∧ mu_q n (pc_T Z (S + 2)) (pm_T X (x + 8)) ∧ mu_q n (pc_T Z (S + 3)) (pm_T X (x + 24)) ∧ mu_q n (pc_T Z (S + 6)) (pm_T X (x + 40)) ∧ mu_q n (pc_T Z (S + 7)) (pm_T X (x + 56)) ∧
  (∀ i, i < n → Z (S + 4) i = X 1 (x + i) ∧ Z (S + 5) i = X 1 (x + 4 + i)) ∧ Z S 5 = X 1 (x + 72)
def rl_V (n : Nat) (B0 X : Nat → Nat → Int) (x : Nat) : Prop := (∃ U V, pm_R n X x U V) ∧ ∃ ks : List Nat, (∀ k ∈ ks, k < n) ∧ (mu_well n B0 ∨ ks = []) ∧ st_E n (pm_T X (x + 8), pm_T X (x + 24)) (rc_R n B0 ks)
def rl_st (n : Nat) (B0 Z : Nat → Nat → Int) (S : Nat) (X : Nat → Nat → Int) (x : Nat) : Prop := rl_E n Z S X x ∧ rl_V n B0 X x
theorem rl_V_cg {n x y : Nat} {B0 X Y : Nat → Nat → Int} (hn4 : n ≤ 4) (h : ∀ j, j < 80 → Y 1 (y + j) = X 1 (x + j)) (hV : rl_V n B0 X x) : rl_V n B0 Y y := by
  have e : ∀ c, c + 16 ≤ 80 → mu_q n (pm_T Y (y + c)) (pm_T X (x + c)) := fun c hc i hi j hj => by
    show Y 1 (y + c + 4 * i + j) = X 1 (x + c + 4 * i + j)
    have := h (c + 4 * i + j) (by omega)
    rw [show y + (c + 4 * i + j) = y + c + 4 * i + j by omega, show x + (c + 4 * i + j) = x + c + 4 * i + j by omega] at this
    exact this
  obtain ⟨⟨U, V, r1, r2, r3, r4, r5, r6⟩, ks, k1, k2, k3⟩ := hV
  refine ⟨⟨U, V, (mu_q_bd (e 8 (by decide))).mpr r1, (mu_q_bd (e 24 (by decide))).mpr r2, (mu_q_bd (e 40 (by decide))).mpr r3, (mu_q_bd (e 56 (by decide))).mpr r4, fun i hi => ?_, ?_⟩, ks, k1, k2, ?_⟩
  · obtain ⟨a, b, c⟩ := r5 i hi
    refine ⟨(h i (by omega)).trans a, ?_, c⟩
    have := h (4 + i) (by omega)
    rw [show y + (4 + i) = y + 4 + i by omega, show x + (4 + i) = x + 4 + i by omega] at this
    exact this.trans b
  · rw [h 72 (by decide)]
    exact r6
  · exact st_E.trans (a := (pm_T Y (y + 8), pm_T Y (y + 24))) ⟨e 8 (by decide), e 24 (by decide)⟩ k3
theorem rl_st_copy {n S A x y : Nat} {B0 Z Z' X Y : Nat → Nat → Int} (hn4 : n ≤ 4) (h1 : pc_eq Z S Z' A) (h2 : ∀ j, j < 80 → Y 1 (y + j) = X 1 (x + j)) (h : rl_st n B0 Z S X x) : rl_st n B0 Z' A Y y := by
  refine ⟨?_, rl_V_cg hn4 h2 h.2⟩
  obtain ⟨a1, a2, a3, a4, a5, a6, a7⟩ := h.1
  obtain ⟨c0, c1, c2, c3, c4, c5, c6, c7⟩ := h1
  have e : ∀ c, c + 16 ≤ 80 → mu_q n (pm_T X (x + c)) (pm_T Y (y + c)) := fun c hc i hi j hj => by
    show X 1 (x + c + 4 * i + j) = Y 1 (y + c + 4 * i + j)
    have := h2 (c + 4 * i + j) (by omega)
    rw [show y + (c + 4 * i + j) = y + c + 4 * i + j by omega, show x + (c + 4 * i + j) = x + c + 4 * i + j by omega] at this
    exact this.symm
  refine ⟨c0.trans a1, mu_q.trans (fun i hi j hj => c1 _ (by omega)) (a2.trans (e 8 (by decide))), mu_q.trans (fun i hi j hj => c2 _ (by omega)) (a3.trans (e 24 (by decide))), mu_q.trans (fun i hi j hj => c5 _ (by omega)) (a4.trans (e 40 (by decide))), mu_q.trans (fun i hi j hj => c6 _ (by omega)) (a5.trans (e 56 (by decide))), fun i hi => ?_, ?_⟩
  · obtain ⟨b1, b2⟩ := a6 i hi
    refine ⟨(c3 i (by omega)).trans (b1.trans (h2 i (by omega)).symm), (c4 i (by omega)).trans (b2.trans ?_)⟩
    have := h2 (4 + i) (by omega)
    rw [show y + (4 + i) = y + 4 + i by omega, show x + (4 + i) = x + 4 + i by omega] at this
    exact this.symm
  · rw [c7, a7, h2 72 (by decide)]
theorem rl_st_cg {n S x : Nat} {B0 Z Z' X Y : Nat → Nat → Int} (hn4 : n ≤ 4) (h1 : ∀ o, S ≤ o → o < S + 8 → Z' o = Z o) (h2 : ∀ j, x ≤ j → j < x + 80 → Y 1 j = X 1 j) (h : rl_st n B0 Z S X x) : rl_st n B0 Z' S Y x := by
  refine rl_st_copy hn4 ⟨?_, ?_, ?_, ?_, ?_, ?_, ?_, ?_⟩ (fun j hj => h2 _ (by omega) (by omega)) h
  · rw [h1 (S + 1) (by omega) (by omega)]
  · intro j _; rw [h1 (S + 2) (by omega) (by omega)]
  · intro j _; rw [h1 (S + 3) (by omega) (by omega)]
  · intro j _; rw [h1 (S + 4) (by omega) (by omega)]
  · intro j _; rw [h1 (S + 5) (by omega) (by omega)]
  · intro j _; rw [h1 (S + 6) (by omega) (by omega)]
  · intro j _; rw [h1 (S + 7) (by omega) (by omega)]
  · rw [h1 S (by omega) (by omega)]
/-- the scales: well, and by which weights -/
def rl_sc (n : Nat) (B0 Z : Nat → Nat → Int) : Prop := (Z 3 0 = 1 ∧ ∃ m, m < 9 ^ n ∧ (∀ j, j < n → Z 4 j = mu_dg n m j) ∧ mu_wt n B0 (mu_dg n m) ∧ ∀ m', m' < m → ¬ mu_wt n B0 (mu_dg n m')) ∨ (Z 3 0 = 0 ∧ ¬ mu_well n B0)
/-- all but the stands -/
def rl_C (n : Nat) (B0 : Nat → Nat → Int) (A P K O len kb : Nat) (Z X : Nat → Nat → Int) : Prop :=
  (2 ≤ n ∧ n ≤ 4 ∧ X 0 1 = (n : Int)) ∧ (Z 0 13 = (A : Int) ∧ Z 0 14 = (P : Int) ∧ ((A = 230 ∧ P = 238) ∨ (A = 238 ∧ P = 230))) ∧
  (∀ i j, i < n → j < n → -3 ≤ B0 i j ∧ B0 i j ≤ 3) ∧ rl_st n B0 Z A X 0 ∧ rl_st n B0 Z 202 X 1840 ∧
  (Z 8 1 = (O : Int) ∧ O < 20 ∧ Z 8 2 = (K : Int) ∧ X 0 2 = (K : Int) ∧ K ≤ 20 ∧ ∀ e, e < K → rl_st n B0 Z (10 + 8 * ((O + e) % 20)) X (80 * (e + 1))) ∧
  ((Z 227 0 = 0 ∨ Z 227 0 = 1) ∧ (Z 227 1 = 0 ∨ Z 227 1 = 1) ∧ X 0 3 = Z 227 0 + 2 * Z 227 1 ∧ ∀ i, i < 2 → Z 227 i = 1 → rl_st n B0 Z (211 + 8 * i) X (1680 + 80 * i) ∧ Z 228 i = X 2 i ∧ 0 ≤ X 2 i ∧ X 2 i < 2147483648) ∧
  (Z 0 15 = X 0 4 ∧ 0 ≤ X 0 4 ∧ X 0 4 < 2147483648) ∧ (tx_s len Z X ∧ Z 1 3 = X 0 8) ∧
  (Z 170 2 = (kb : Int) ∧ X 0 11 = (kb : Int) ∧ kb ≤ 20 ∧ ∀ e, e < kb → Z 171 e = X 4 e ∧ Z 172 e = X 5 e ∧ 0 ≤ Z 171 e ∧ gx_i (Z 171 e)) ∧ rl_sc n B0 Z
/-- what may be otherwise: scratch of the class -/
def rl_z (P : Nat) (Z Z' : Nat → Nat → Int) : Prop := (∀ o, o ≠ 0 → o ≠ 6 → o ≠ 7 → (o < P ∨ P + 8 ≤ o) → (o < 173 ∨ 201 < o) → o ≠ 229 → Z' o = Z o) ∧ ∀ j, j ≠ 16 → j ≠ 17 → Z' 0 j = Z 0 j
theorem rl_z.rf {P : Nat} {Z : Nat → Nat → Int} : rl_z P Z Z := ⟨fun _ _ _ _ _ _ _ => rfl, fun _ _ _ => rfl⟩
theorem rl_z.trans {P : Nat} {Z Z' Z'' : Nat → Nat → Int} (h : rl_z P Z Z') (h2 : rl_z P Z' Z'') : rl_z P Z Z'' := ⟨fun o a b c d e f => (h2.1 o a b c d e f).trans (h.1 o a b c d e f), fun j a b => (h2.2 j a b).trans (h.2 j a b)⟩
theorem rl_C_z {n A P K O len kb : Nat} {B0 Z Z' X : Nat → Nat → Int} (h : rl_C n B0 A P K O len kb Z X) (hz : rl_z P Z Z') : rl_C n B0 A P K O len kb Z' X := by
  obtain ⟨h1, ⟨h2, h2', h2p⟩, h3, h4, h5, ⟨h6, h6a, h6b, h6c, h6d, h6e⟩, ⟨h7, h7a, h7b, h7c⟩, ⟨h8, h8a⟩, ⟨⟨t1, t2, t3, t4⟩, t5⟩, ⟨b1, b2, b3, b4⟩, s⟩ := h
  have hn4 := h1.2.1
  have z : ∀ o, o ≠ 0 → o ≠ 6 → o ≠ 7 → (o < P ∨ P + 8 ≤ o) → (o < 173 ∨ 201 < o) → o ≠ 229 → Z' o = Z o := hz.1
  have zz : ∀ o, 0 < o → o < 173 → o ≠ 6 → o ≠ 7 → Z' o = Z o := fun o a b c d => z o (by omega) c d (by omega) (by omega) (by omega)
  refine ⟨h1, ⟨(hz.2 13 (by decide) (by decide)).trans h2, (hz.2 14 (by decide) (by decide)).trans h2', h2p⟩, h3, rl_st_cg hn4 (fun o a b => z o (by omega) (by omega) (by omega) (by omega) (by omega) (by omega)) (fun _ _ _ => rfl) h4, rl_st_cg hn4 (fun o a b => z o (by omega) (by omega) (by omega) (by omega) (by omega) (by omega)) (fun _ _ _ => rfl) h5, ⟨?_, h6a, ?_, h6c, h6d, fun e he => rl_st_cg hn4 (fun o a b => zz o (by omega) (by omega) (by omega) (by omega)) (fun _ _ _ => rfl) (h6e e he)⟩, ⟨?_, ?_, ?_, fun i hi hk => ?_⟩, ⟨(hz.2 15 (by decide) (by decide)).trans h8, h8a⟩, ⟨⟨?_, t2, t3, fun q hq => ?_⟩, ?_⟩, ⟨?_, b2, b3, fun e he => ?_⟩, ?_⟩
  · rw [zz 8 (by decide) (by decide) (by decide) (by decide)]; exact h6
  · rw [zz 8 (by decide) (by decide) (by decide) (by decide)]; exact h6b
  · rw [z 227 (by decide) (by decide) (by decide) (by omega) (by decide) (by decide)]; exact h7
  · rw [z 227 (by decide) (by decide) (by decide) (by omega) (by decide) (by decide)]; exact h7a
  · rw [z 227 (by decide) (by decide) (by decide) (by omega) (by decide) (by decide)]; exact h7b
  · rw [z 227 (by decide) (by decide) (by decide) (by omega) (by decide) (by decide)] at hk
    rw [z 228 (by decide) (by decide) (by decide) (by omega) (by decide) (by decide)]
    obtain ⟨q1, q2⟩ := h7c i hi hk
    exact ⟨rl_st_cg hn4 (fun o a b => z o (by omega) (by omega) (by omega) (by omega) (by omega) (by omega)) (fun _ _ _ => rfl) q1, q2⟩
  · rw [zz 1 (by decide) (by decide) (by decide) (by decide)]; exact t1
  · rw [zz 2 (by decide) (by decide) (by decide) (by decide)]; exact t4 q hq
  · rw [zz 1 (by decide) (by decide) (by decide) (by decide)]; exact t5
  · rw [zz 170 (by decide) (by decide) (by decide) (by decide)]; exact b1
  · rw [zz 171 (by decide) (by decide) (by decide) (by decide), zz 172 (by decide) (by decide) (by decide) (by decide)]; exact b4 e he
  · unfold rl_sc
    rw [zz 3 (by decide) (by decide) (by decide) (by decide), zz 4 (by decide) (by decide) (by decide) (by decide)]
    exact s
/-- the reference's scratch does not matter -/
theorem rl_C_S {n A P K O len kb : Nat} {B0 Z X X' : Nat → Nat → Int} (h : rl_C n B0 A P K O len kb Z X) (hS : pm_S X X') : rl_C n B0 A P K O len kb Z X' := by
  obtain ⟨⟨h1, h1a, h1b⟩, h2, h3, h4, h5, ⟨h6, h6a, h6b, h6c, h6d, h6e⟩, ⟨h7, h7a, h7b, h7c⟩, ⟨h8, h8a, h8b⟩, ⟨⟨t1, t2, t3, t4⟩, t5⟩, ⟨b1, b2, b3, b4⟩, s⟩ := h
  obtain ⟨s1, s2, s3⟩ := hS
  have e4 : X' 0 4 = X 0 4 := s3 4 (by omega)
  refine ⟨⟨h1, h1a, (s3 1 (by omega)).trans h1b⟩, h2, h3, rl_st_cg h1a (fun _ _ _ => rfl) (fun j a b => s1 j (by omega)) h4, rl_st_cg h1a (fun _ _ _ => rfl) (fun j a b => s1 j (by omega)) h5, ⟨h6, h6a, h6b, (s3 2 (by omega)).trans h6c, h6d, fun e he => rl_st_cg h1a (fun _ _ _ => rfl) (fun j a b => s1 j (by omega)) (h6e e he)⟩, ⟨h7, h7a, (s3 3 (by omega)).trans h7b, fun i hi hk => ?_⟩, ⟨by rw [e4]; exact h8, by rw [e4]; exact h8a, by rw [e4]; exact h8b⟩, ⟨⟨t1, (s3 7 (by omega)).trans t2, t3, fun q hq => ?_⟩, by rw [s3 8 (by omega)]; exact t5⟩, ⟨b1, (s3 11 (by omega)).trans b2, b3, fun e he => ?_⟩, s⟩
  · obtain ⟨q1, q2⟩ := h7c i hi hk
    rw [s2 2 (by omega)]
    exact ⟨rl_st_cg h1a (fun _ _ _ => rfl) (fun j a b => s1 j (by omega)) q1, q2⟩
  · rw [s2 3 (by omega)]; exact t4 q hq
  · rw [s2 4 (by omega), s2 5 (by omega)]; exact b4 e he
/-- nothing open, nothing unlike -/
def rl_ok (n : Nat) (B0 : Nat → Nat → Int) : Prop := mu_well n B0 ∧ mu_fin n B0
/-- the stands of the class -/
def rl_G (n : Nat) (B0 : Nat → Nat → Int) (A : Nat) (Z : Nat → Nat → Int) : Prop :=
  (Z 0 16 = 0 ∨ Z 0 16 = 1) ∧ (Z 0 17 = 0 ∨ Z 0 17 = 1) ∧ (Z 0 16 = 1 → Z 0 17 = 1) ∧ (Z 0 16 = 0 → (Z 173 3 = 1 ∧ ¬ rl_ok n B0) ∨ (Z 173 3 = 0 ∧ rl_ok n B0 ∧ ∃ (N : Nat) (gn : Nat → st_t), gr_full n (rl_ok n B0) B0 Z N gn ∧
    (Z 0 17 = 0 → ∃ (gl : Nat → Nat → Nat) (W : Nat) (st fr bw : Nat → Nat) (ld : Nat → Nat → Nat), wk_G n Z N gn gl ∧ wk_A n Z N gn gl W st fr bw ld W 0 ∧ st_E n (gn (st 0)) (st_cn n (pc_T Z (A + 2), pc_T Z (A + 3))))))
theorem gr_full_cg {n N : Nat} {G : Prop} {B0 Z Y : Nat → Nat → Int} {gn : Nat → st_t} (h : gr_full n G B0 Z N gn) (e : ∀ o, o = 173 ∨ o = 174 ∨ o = 175 → Y o = Z o) : gr_full n G B0 Y N gn := by
  obtain ⟨a1, a2, a3, c, a4, a5⟩ := h
  have e3 : Y 173 = Z 173 := e 173 (by omega)
  exact ⟨gr_A_cg a1 (by rw [e3]) (by rw [e3]) (e 175 (by omega)) (e 174 (by omega)), a2, fun t k ht hk => by rw [e 174 (by omega)]; exact a3 t k ht hk, c, by rw [e3]; exact a4, a5⟩
theorem wk_A_cg {n N W s k : Nat} {Z Y : Nat → Nat → Int} {gn : Nat → st_t} {gl : Nat → Nat → Nat} {st fr bw : Nat → Nat} {ld : Nat → Nat → Nat} (h : wk_A n Z N gn gl W st fr bw ld s k) (e : ∀ o, 187 ≤ o → o ≤ 192 → Y o = Z o) : wk_A n Y N gn gl W st fr bw ld s k := by
  obtain ⟨a1, a2, a3, a4, a5, a6, a7, a8, a9, a10⟩ := h
  refine ⟨by rw [e 187 (by decide) (by decide)]; exact a1, a2, a3, fun t ht => by rw [e 188 (by decide) (by decide), e 189 (by decide) (by decide), e 190 (by decide) (by decide)]; exact a4 t ht, fun g hg => by rw [e 189 (by decide) (by decide)]; exact a5 g hg, a6, by rw [e 190 (by decide) (by decide)]; exact a7, by rw [e 191 (by decide) (by decide)]; exact a8, by rw [e 192 (by decide) (by decide)]; exact a9, fun t h1 h2 => by rw [e 191 (by decide) (by decide), e 192 (by decide) (by decide), e 190 (by decide) (by decide)]; exact a10 t h1 h2⟩
/-- stands stay, if now is the same -/
theorem rl_G_cg {n A : Nat} {B0 Z Z' : Nat → Nat → Int} (h : rl_G n B0 A Z) (e : ∀ o, 173 ≤ o → o ≤ 192 → Z' o = Z o) (e6 : Z' 0 16 = Z 0 16) (e7 : Z' 0 17 = Z 0 17) (eA : Z' (A + 2) = Z (A + 2) ∧ Z' (A + 3) = Z (A + 3)) : rl_G n B0 A Z' := by
  obtain ⟨a1, a2, a3, a4⟩ := h
  have t1 : pc_T Z' (A + 2) = pc_T Z (A + 2) := by unfold pc_T; rw [eA.1]
  have t2 : pc_T Z' (A + 3) = pc_T Z (A + 3) := by unfold pc_T; rw [eA.2]
  refine ⟨by rw [e6]; exact a1, by rw [e7]; exact a2, by rw [e6, e7]; exact a3, fun z => ?_⟩
  rw [e6] at z
  rcases a4 z with q | ⟨q1, q2, N, gn, q3, q4⟩
  · exact Or.inl (by rw [e 173 (by decide) (by decide)]; exact q)
  · refine Or.inr ⟨by rw [e 173 (by decide) (by decide)]; exact q1, q2, N, gn, gr_full_cg q3 (fun o ho => e o (by omega) (by omega)), fun y => ?_⟩
    rw [e7] at y
    obtain ⟨gl, W, st, fr, bw, ld, w1, w2, w3⟩ := q4 y
    obtain ⟨g1, g2, g3, g4, g5⟩ := w1
    refine ⟨gl, W, st, fr, bw, ld, ⟨by rw [e 173 (by decide) (by decide)]; exact g1, by rw [e 173 (by decide) (by decide)]; exact g2, g3, g4, fun t k ht hk => by rw [e 174 (by decide) (by decide)]; exact g5 t k ht hk⟩, wk_A_cg w2 (fun o h1 h2 => e o (by omega) h2), ?_⟩
    rw [t1, t2]
    exact w3
/-- stands are walked anew, if now is another -/
theorem rl_G_old {n A A' : Nat} {B0 Z Z' : Nat → Nat → Int} (h : rl_G n B0 A Z) (e : ∀ o, 173 ≤ o → o ≤ 175 → Z' o = Z o) (e6 : Z' 0 16 = Z 0 16) (e7 : Z' 0 17 = 1) : rl_G n B0 A' Z' := by
  obtain ⟨a1, a2, a3, a4⟩ := h
  refine ⟨by rw [e6]; exact a1, Or.inr e7, fun _ => e7, fun z => ?_⟩
  rw [e6] at z
  rcases a4 z with q | ⟨q1, q2, N, gn, q3, q4⟩
  · exact Or.inl (by rw [e 173 (by decide) (by decide)]; exact q)
  · exact Or.inr ⟨by rw [e 173 (by decide) (by decide)]; exact q1, q2, N, gn, gr_full_cg q3 (fun o ho => e o (by omega) (by omega)), fun y => absurd y (by rw [e7]; decide)⟩
/-- all together -/
def rl (Z X : Nat → Nat → Int) : Prop := ∃ (n : Nat) (B0 : Nat → Nat → Int) (A P K O len kb : Nat), rl_C n B0 A P K O len kb Z X ∧ rl_G n B0 A Z
/-- a call: like answers, and like states behind it -/
def rl_call (x y : Option (Int × gx_H)) : Prop := ∃ (r : Int) (Z X : Nat → Nat → Int), x = some (r, pc_h Z) ∧ y = some (r, pm_h X) ∧ rl Z X
theorem rl_stay {n A P K O len kb : Nat} {B0 Z X X' : Nat → Nat → Int} (h : rl_C n B0 A P K O len kb Z X) (hG : rl_G n B0 A Z) (hS : pm_S X X') : rl Z X' := ⟨n, B0, A, P, K, O, len, kb, rl_C_S h hS, hG⟩
/-- the class's object -/
theorem pc_L0 : pc_L[0]? = some (0 + 3, 18) := by decide +kernel
theorem pc_r0 : pc_r 0 0 = 1 ∧ pc_r 0 1 = 3 ∧ pc_r 0 2 = 5 ∧ pc_r 0 3 = 8 ∧ pc_r 0 4 = 170 ∧ pc_r 0 5 = 173 ∧ pc_r 0 6 = 187 ∧ pc_r 0 7 = 193 ∧ pc_r 0 8 = 202 ∧ pc_r 0 9 = 210 ∧ pc_r 0 10 = 227 ∧ pc_r 0 11 = 228 ∧ pc_r 0 12 = 229 := by decide +kernel
theorem pc_r0' : pc_r 0 13 = 0 ∧ pc_r 0 14 = 0 ∧ pc_r 0 15 = 0 ∧ pc_r 0 16 = 0 ∧ pc_r 0 17 = 0 := by decide +kernel
/-- a reference that is not fixed -/
theorem pc_grv {β : Type} {Z : Nat → Nat → Int} {o ci k n t : Nat} {K : Nat → Option β} (hL : pc_L[o]? = some (ci + 3, n)) (hk : k < n) (hr : pc_r o k = 0) (hv : Z o k = (t : Int)) : gq_gr (pc_h Z) o ci k K = K t := by
  have e : pc_c Z o k = (t : Int) := by unfold pc_c; rw [if_neg (by omega)]; exact hv
  show ((pc_L[o]?).bind fun q => if q.1 = ci + 3 ∧ k < q.2 ∧ 0 ≤ pc_c Z o k then K (pc_c Z o k).toNat else none) = _
  rw [hL]
  refine (if_pos (c := ci + 3 = ci + 3 ∧ k < n ∧ 0 ≤ pc_c Z o k) ⟨rfl, hk, by rw [e]; omega⟩).trans ?_
  rw [e]
  rfl
theorem pc_SA : pc_S 230 = true ∧ pc_S 238 = true ∧ pc_S 202 = true ∧ pc_S 211 = true ∧ pc_S 219 = true := by decide
theorem pc_noLetter (Z : Nat → Nat → Int) {A n : Nat} {v : Int} (hS : pc_S A = true) (hA : Z 0 13 = (A : Int)) (hn : Z (A + 1) 0 = (n : Int)) (hv : gx_i v) : f_LE_isNoLetter (pc_h Z) 0 v = some (if 0 ≤ v ∧ v < (n : Int) then 0 else 1, pc_h Z) := by
  obtain ⟨s1, s2, -⟩ := pc_S_all A (pc_S_lt hS) hS
  obtain ⟨q0, -⟩ := pc_S_ref A (pc_S_lt hS) hS
  obtain ⟨g0, g1, g2, r0, r1, r2⟩ := pc_H_all (A + 1) (pc_H_lt s2) s2
  unfold f_LE_isNoLetter fb_LE_isNoLetter_18
  rw [gq_g_ok hv]
  by_cases c : v < 0
  · rw [if_pos c, if_neg (by omega)]
  · rw [if_neg c, pc_grv pc_L0 (by decide) pc_r0'.1 hA, pc_gr s1 (by decide) q0 (by omega), pc_get g0 (by decide) r0, hn]
    by_cases d : v < (n : Int)
    · rw [if_pos d, if_pos (by omega)]
    · rw [if_neg d, if_neg (by omega)]
