/-! the reference tries an exchange -/
/-- two tables alike for the letters -/
def mu_q (n : Nat) (B B' : Nat → Nat → Int) : Prop := ∀ i, i < n → ∀ j, j < n → B i j = B' i j
theorem mu_q.symm {n : Nat} {B B' : Nat → Nat → Int} (h : mu_q n B B') : mu_q n B' B := fun i hi j hj => (h i hi j hj).symm
theorem mu_q.trans {n : Nat} {B B' B'' : Nat → Nat → Int} (h : mu_q n B B') (h2 : mu_q n B' B'') : mu_q n B B'' := fun i hi j hj => (h i hi j hj).trans (h2 i hi j hj)
theorem mu_q.rf {n : Nat} {B : Nat → Nat → Int} : mu_q n B B := fun _ _ _ _ => rfl
theorem mu_q_bd {n : Nat} {B B' : Nat → Nat → Int} (h : mu_q n B B') : mu_bd n B ↔ mu_bd n B' := ⟨fun z i hi j hj => by rw [← h i hi j hj]; exact z i hi j hj, fun z i hi j hj => by rw [h i hi j hj]; exact z i hi j hj⟩
theorem mu_q_B {n k : Nat} {B B' : Nat → Nat → Int} (h : mu_q n B B') (hk : k < n) : mu_q n (mu_B B k) (mu_B B' k) := fun i hi j hj => by
  unfold mu_B
  rw [h i hi j hj, h i hi k hk, h k hk j hj]
theorem mu_q_gs {n k m : Nat} {B B' R R' : Nat → Nat → Int} {s : Int} (h : mu_q n B B') (hR : mu_q n R R') (hk : k < n) (hm : m < n) : ∀ i, i ≤ n → mu_gs B R k s m i = mu_gs B' R' k s m i := by
  intro i
  induction i with
  | zero => intro _; rfl
  | succ i ih => intro hi; simp only [mu_gs, ih (by omega), h i (by omega) k hk, hR i (by omega) m hm]
theorem mu_q_D {n k : Nat} {B B' D D' : Nat → Nat → Int} (h : mu_q n B B') (hD : mu_q n D D') (hk : k < n) : mu_q n (mu_D n B D k) (mu_D n B' D' k) := fun i hi j hj => by
  unfold mu_D
  rw [mu_q_gs h hD hk hj n (Nat.le_refl _), mu_q_gs h hD hk hj n (Nat.le_refl _), hD k hk j hj, hD i hi j hj]
theorem mu_q_C {n k : Nat} {B B' C C' : Nat → Nat → Int} (h : mu_q n B B') (hC : mu_q n C C') (hk : k < n) : mu_q n (mu_C B C k) (mu_C B' C' k) := fun i hi j hj => by
  unfold mu_C
  rw [hC k hk j hj, hC i hi j hj, h k hk i hi]
theorem mu_q_up {n k : Nat} {C C' : Nat → Nat → Int} (hC : mu_q n C C') (hk : k < n) : ∀ m, m ≤ n → mu_upb C k m = mu_upb C' k m := by
  intro m
  induction m with
  | zero => intro _; rfl
  | succ m ih => intro hm; simp only [mu_upb, ih (by omega), hC k hk m (by omega)]
theorem mu_q_G {n k : Nat} {B B' C C' G G' : Nat → Nat → Int} (h : mu_q n B B') (hC : mu_q n C C') (hG : mu_q n G G') (hk : k < n) : mu_q n (mu_G n B C G k) (mu_G n B' C' G' k) := fun i hi j hj => by
  unfold mu_G
  rw [mu_q_up hC hk n (Nat.le_refl _), mu_q_gs h hG hk hj n (Nat.le_refl _), hG k hk j hj, hG i hi j hj]
theorem mu_q_fr {n k : Nat} {M M' : Nat → Nat → Int} (h : mu_q n M M') (hk : k < n) : mu_fr M k n ↔ mu_fr M' k n := ⟨fun z c hc => by rw [← h k hk c hc]; exact z c hc, fun z c hc => by rw [h k hk c hc]; exact z c hc⟩
theorem mu_q_wt {n : Nat} {B B' : Nat → Nat → Int} {w : Nat → Int} (h : mu_q n B B') : mu_wt n B w ↔ mu_wt n B' w := ⟨fun z i hi j hj => by rw [← h i hi j hj, ← h j hj i hi]; exact z i hi j hj, fun z i hi j hj => by rw [h i hi j hj, h j hj i hi]; exact z i hi j hj⟩
theorem fr_P_q {n k : Nat} {B B' : Nat → Nat → Int} {sg : Int} {U V : Nat → Nat} {z : Bool} (h : mu_q n B B') (hk : k < n) : ∀ i, i ≤ n → fr_P B k sg U V z i = fr_P B' k sg U V z i := by
  intro i
  induction i with
  | zero => intro _; rfl
  | succ i ih => intro hi; simp only [fr_P, ih (by omega), h i (by omega) k hk]
theorem fr_W_q {n k : Nat} {B B' : Nat → Nat → Int} {U V : Nat → Nat} (h : mu_q n B B') (hk : k < n) : fr_W B n k U V = fr_W B' n k U V := by
  unfold fr_W
  rw [fr_P_q h hk n (Nat.le_refl _), fr_P_q h hk n (Nat.le_refl _)]
/-- what is kept while something is tried -/
def pm_S (X X' : Nat → Nat → Int) : Prop := (∀ j, j < 1920 → X' 1 j = X 1 j) ∧ (∀ o, o = 2 ∨ o = 3 ∨ o = 4 ∨ o = 5 → X' o = X o) ∧ ∀ j, j = 1 ∨ j = 2 ∨ j = 3 ∨ j = 4 ∨ j = 7 ∨ j = 8 ∨ j = 11 → X' 0 j = X 0 j
theorem pm_S.rf {X : Nat → Nat → Int} : pm_S X X := ⟨fun _ _ => rfl, fun _ _ => rfl, fun _ _ => rfl⟩
theorem pm_S.trans {X Y Z : Nat → Nat → Int} (h : pm_S X Y) (h2 : pm_S Y Z) : pm_S X Z := ⟨fun j hj => (h2.1 j hj).trans (h.1 j hj), fun o ho => (h2.2.1 o ho).trans (h.2.1 o ho), fun j hj => (h2.2.2 j hj).trans (h.2.2 j hj)⟩
theorem pm_S.T {X Y : Nat → Nat → Int} (h : pm_S X Y) {n a : Nat} (hn : n ≤ 4) (ha : a + 16 ≤ 1920) : mu_q n (pm_T Y a) (pm_T X a) := fun i hi j hj => h.1 _ (by omega)
theorem pm_S_w {X : Nat → Nat → Int} {f : Nat → Int} (h : ∀ j, j < 1920 → f j = X 1 j) : pm_S X (gx_us X 1 f) := ⟨fun j hj => by rw [gx_us_eq]; exact h j hj, fun o ho => gx_us_ne (by omega), fun j _ => by rw [gx_us_ne (by decide)]⟩
theorem pm_S_o {X : Nat → Nat → Int} {o : Nat} {f : Nat → Int} (h : 6 ≤ o) : pm_S X (gx_us X o f) := ⟨fun j _ => by rw [gx_us_ne (by omega)], fun o' ho => gx_us_ne (by omega), fun j _ => by rw [gx_us_ne (by omega)]⟩
theorem pm_S_f3 {X : Nat → Nat → Int} {s : Nat × Nat × Bool} : pm_S X (pm_f3 X s) := ⟨fun j _ => by rw [pm_f3_o (by decide)], fun o ho => pm_f3_o (by omega), fun j hj => pm_f3_j (by omega) (by omega) (by omega)⟩
/-- a row (from x on) is well made for n letters, with the worths U, V -/
def pm_R (n : Nat) (X : Nat → Nat → Int) (x : Nat) (U V : Nat → Nat) : Prop := mu_bd n (pm_T X (x + 8)) ∧ mu_bd n (pm_T X (x + 24)) ∧ mu_bd n (pm_T X (x + 40)) ∧ mu_bd n (pm_T X (x + 56)) ∧ mu_W n (X 1) x U V ∧ (0 ≤ X 1 (x + 72) ∧ X 1 (x + 72) ≤ 99999)
theorem pm_R_q {n x : Nat} {X Y : Nat → Nat → Int} {U V : Nat → Nat} (hn : n ≤ 4) (h : ∀ j, x ≤ j → j < x + 80 → Y 1 j = X 1 j) (hR : pm_R n X x U V) : pm_R n Y x U V := by
  have hq : ∀ a, a + 16 ≤ 80 → mu_q n (pm_T Y (x + a)) (pm_T X (x + a)) := fun a ha i hi j hj => h _ (by omega) (by omega)
  refine ⟨(mu_q_bd (hq 8 (by omega))).mpr hR.1, (mu_q_bd (hq 24 (by omega))).mpr hR.2.1, (mu_q_bd (hq 40 (by omega))).mpr hR.2.2.1, (mu_q_bd (hq 56 (by omega))).mpr hR.2.2.2.1, fun i hi => ?_, by rw [h _ (by omega) (by omega)]; exact hR.2.2.2.2.2⟩
  rw [h _ (by omega) (by omega), h _ (by omega) (by omega)]
  exact hR.2.2.2.2.1 i hi
/-- whether a letter can be exchanged: well, the worth not beyond, all numbers within -/
def mu_can (n : Nat) (B D C G : Nat → Nat → Int) (U V : Nat → Nat) (k : Nat) : Prop := (∃ m, m < 9 ^ n ∧ mu_wt n B (mu_dg n m)) ∧ (fr_W B n k U V).2.2 = false ∧ mu_bd n (mu_B B k) ∧ mu_fr (mu_D n B D k) k n ∧ mu_bd n (mu_C B C k) ∧ mu_fr (mu_G n B C G k) k n
theorem mu_fl_and2 {β : Type} {P Q : Prop} [Decidable P] [Decidable Q] {A B : Option β} : (gq_g (gx_i (mu_fl P)) (if mu_fl P = 0 then A else gq_g (gx_i (mu_fl Q)) (if mu_fl Q = 0 then A else B))) = if Q ∧ P then B else A := mu_fl_and
theorem fb_tries_87 (h : gx_H) (l1 : Int) (P : Prop) [Decidable P] : (if P then fb_MD_tries_87 h 0 l1 1 else fb_MD_tries_86 h 0 l1) = fb_MD_tries_87 h 0 l1 (mu_fl P) := by
  unfold mu_fl fb_MD_tries_86
  by_cases hp : P
  · rw [if_pos hp, if_pos hp]
  · rw [if_neg hp, if_neg hp]
theorem fb_tries_109 (h : gx_H) (l1 : Int) (P : Prop) [Decidable P] : (if P then fb_MD_tries_109 h 0 l1 1 else fb_MD_tries_108 h 0 l1) = fb_MD_tries_109 h 0 l1 (mu_fl P) := by
  unfold mu_fl fb_MD_tries_108
  by_cases hp : P
  · rw [if_pos hp, if_pos hp]
  · rw [if_neg hp, if_neg hp]
/-- the row tried, behind a good try: what it holds by the row from 0 on -/
def pm_tried (n k : Nat) (X X' : Nat → Nat → Int) (U V : Nat → Nat) : Prop :=
  mu_q n (pm_T X' 1928) (mu_B (pm_T X 8) k) ∧ mu_q n (pm_T X' 1944) (mu_D n (pm_T X 8) (pm_T X 24) k) ∧ mu_q n (pm_T X' 1960) (mu_C (pm_T X 8) (pm_T X 40) k) ∧ mu_q n (pm_T X' 1976) (mu_G n (pm_T X 8) (pm_T X 40) (pm_T X 56) k) ∧
  (∀ i, i < n → X' 1 (1920 + i) = if i = k then ((fr_W (pm_T X 8) n k U V).1 : Int) else X 1 i) ∧ (∀ i, i < n → X' 1 (1924 + i) = if i = k then ((fr_W (pm_T X 8) n k U V).2.1 : Int) else X 1 (4 + i)) ∧ X' 1 1992 = X 1 72
