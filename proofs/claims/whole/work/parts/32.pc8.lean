/-! the component's history and book -/
theorem pc_hi0 : ([0, 1, 2, 3, 4, 5, 6, 7, 8, 9, 10, 11, 12, 13, 14, 15, 16, 17, 18, 19] : List Nat).all (fun r => pc_r 9 r == 10 + 8 * r && pc_S (10 + 8 * r)) = true := by decide +kernel
theorem pc_hi {r : Nat} (h : r < 20) : pc_r 9 r = 10 + 8 * r ∧ pc_S (10 + 8 * r) = true := by
  have h1 := List.all_eq_true.mp pc_hi0 r (by
    have : r = 0 ∨ r = 1 ∨ r = 2 ∨ r = 3 ∨ r = 4 ∨ r = 5 ∨ r = 6 ∨ r = 7 ∨ r = 8 ∨ r = 9 ∨ r = 10 ∨ r = 11 ∨ r = 12 ∨ r = 13 ∨ r = 14 ∨ r = 15 ∨ r = 16 ∨ r = 17 ∨ r = 18 ∨ r = 19 := by omega
    simpa using this)
  simp only [Bool.and_eq_true, beq_iff_eq] at h1
  exact h1
theorem pc_L8 : pc_L[8]? = some (6 + 3, 3) := by decide +kernel
theorem pc_L9 : pc_L[9]? = some (2, 20) := by decide +kernel
theorem pc_r8 : pc_r 8 0 = 9 ∧ pc_r 8 1 = 0 ∧ pc_r 8 2 = 0 := by decide +kernel
theorem pc_tm {a : Int} {x : Nat} (h : a = (x : Int)) : a.tmod 20 = ((x % 20 : Nat) : Int) := by
  subst h
  exact (Int.ofNat_tmod x 20).symm
theorem pc_remember (Z : Nat → Nat → Int) {S O K : Nat} (hS : pc_S S = true) (hS2 : 170 ≤ S) (hO : Z 8 1 = (O : Int)) (hO2 : O < 20) (hK : Z 8 2 = (K : Int)) (hK2 : K ≤ 20) :
    ∃ Z', f_HI_remember (pc_h Z) 8 S = some (0, pc_h Z') ∧ (∀ o, o ≠ 8 → (o < 10 + 8 * ((O + K) % 20) ∨ 10 + 8 * ((O + K) % 20) + 8 ≤ o) → Z' o = Z o) ∧ pc_eq Z S Z' (10 + 8 * ((O + K) % 20)) ∧ Z' 8 1 = ((if K < 20 then O else (O + 1) % 20 : Nat) : Int) ∧ Z' 8 2 = ((min (K + 1) 20 : Nat) : Int) := by
  obtain ⟨e0, e1, e2⟩ := pc_r8
  have hr : (O + K) % 20 < 20 := Nat.mod_lt _ (by decide)
  obtain ⟨i1, i2⟩ := pc_hi hr
  have hne := i2
  have hap := pc_S_apart i2 hS (by omega)
  have tm := pc_tm (a := (O : Int) + (K : Int)) (x := O + K) (by omega)
  generalize hR : (O + K) % 20 = R at hr i1 i2 hap tm ⊢
  obtain ⟨Z1, hr1, ho, hq⟩ := pc_copyS Z (A := 10 + 8 * R) (S := S) i2 hS (by omega)
  obtain ⟨a0, -⟩ := pc_S_all (10 + 8 * R) (pc_S_lt i2) i2
  have o8 : Z1 8 = Z 8 := ho 8 (by omega)
  unfold f_HI_remember
  rw [pc_gr pc_L8 (by decide) e0 (by decide), pc_get pc_L8 (by decide) e1, pc_get pc_L8 (by decide) e2, hO, hK, pl_gi (by omega) (by omega), tm, pc_rld (i := R) pc_L9 rfl hr i1 (by omega), pc_cv a0, hr1, pl_call, pc_get pc_L8 (by decide) e2, o8, hK]
  by_cases c : K < 20
  · rw [if_pos (by omega), pc_get pc_L8 (by decide) e2, o8, hK, pc_put ⟨by omega, by omega⟩ pc_L8 (by decide) e2]
    refine ⟨_, rfl, fun o h8 h => ?_, ?_, ?_, ?_⟩
    · rw [gx_up_ne h8]; exact ho o h
    · unfold pc_eq at hq ⊢
      simpa only [gx_up_ne (show 10 + 8 * R ≠ 8 by omega), gx_up_ne (show 10 + 8 * R + 1 ≠ 8 by omega), gx_up_ne (show 10 + 8 * R + 2 ≠ 8 by omega), gx_up_ne (show 10 + 8 * R + 3 ≠ 8 by omega), gx_up_ne (show 10 + 8 * R + 4 ≠ 8 by omega), gx_up_ne (show 10 + 8 * R + 5 ≠ 8 by omega), gx_up_ne (show 10 + 8 * R + 6 ≠ 8 by omega), gx_up_ne (show 10 + 8 * R + 7 ≠ 8 by omega)] using hq
    · rw [gx_up_at, if_neg (by decide), o8, hO, if_pos c]
    · rw [gx_up_at, if_pos rfl]; omega
  · have tm1 := pc_tm (a := (O : Int) + 1) (x := O + 1) (by omega)
    have hm : (O + 1) % 20 < 20 := Nat.mod_lt _ (by decide)
    rw [if_neg (by omega), pc_get pc_L8 (by decide) e1, o8, hO, pl_gi (by omega) (by omega), tm1, pc_put ⟨by omega, by omega⟩ pc_L8 (by decide) e1]
    refine ⟨_, rfl, fun o h8 h => ?_, ?_, ?_, ?_⟩
    · rw [gx_up_ne h8]; exact ho o h
    · unfold pc_eq at hq ⊢
      simpa only [gx_up_ne (show 10 + 8 * R ≠ 8 by omega), gx_up_ne (show 10 + 8 * R + 1 ≠ 8 by omega), gx_up_ne (show 10 + 8 * R + 2 ≠ 8 by omega), gx_up_ne (show 10 + 8 * R + 3 ≠ 8 by omega), gx_up_ne (show 10 + 8 * R + 4 ≠ 8 by omega), gx_up_ne (show 10 + 8 * R + 5 ≠ 8 by omega), gx_up_ne (show 10 + 8 * R + 6 ≠ 8 by omega), gx_up_ne (show 10 + 8 * R + 7 ≠ 8 by omega)] using hq
    · rw [gx_up_at, if_pos rfl, if_neg c]
    · rw [gx_up_at, if_neg (by decide), o8, hK]; omega
theorem pc_takeBack (Z : Nat → Nat → Int) {S O K m : Nat} {a : Int} (hS : pc_S S = true) (hS2 : 170 ≤ S) (hO : Z 8 1 = (O : Int)) (hO2 : O < 20) (hK : Z 8 2 = (K : Int)) (hK2 : K ≤ 20) (ha : a = (m : Int)) (hm : 1 ≤ m) (hmK : m ≤ K) :
    ∃ Z', f_HI_takeBack (pc_h Z) 8 a S = some (0, pc_h Z') ∧ (∀ o, o ≠ 8 → (o < S ∨ S + 8 ≤ o) → Z' o = Z o) ∧ pc_eq Z (10 + 8 * ((O + (K - m)) % 20)) Z' S ∧ Z' 8 1 = (O : Int) ∧ Z' 8 2 = ((K - m : Nat) : Int) := by
  subst ha
  obtain ⟨e0, e1, e2⟩ := pc_r8
  have hr : (O + (K - m)) % 20 < 20 := Nat.mod_lt _ (by decide)
  obtain ⟨i1, i2⟩ := pc_hi hr
  obtain ⟨a0, -⟩ := pc_S_all S (pc_S_lt hS) hS
  have tm := pc_tm (a := (O : Int) + ((K : Int) - (m : Int))) (x := O + (K - m)) (by omega)
  generalize hR : (O + (K - m)) % 20 = R at hr i1 i2 tm ⊢
  obtain ⟨Z1, hr1, ho, hq⟩ := pc_copyS (gx_up Z 8 2 ((K : Int) - (m : Int))) (A := S) (S := 10 + 8 * R) hS i2 (by omega)
  have k1 : gx_up Z 8 2 ((K : Int) - (m : Int)) 8 1 = (O : Int) := by rw [gx_up_at, if_neg (by decide)]; exact hO
  have k2 : gx_up Z 8 2 ((K : Int) - (m : Int)) 8 2 = (K : Int) - (m : Int) := by rw [gx_up_at, if_pos rfl]
  have o8 := ho 8 (by omega)
  unfold f_HI_takeBack
  rw [pl_gi (by omega) (by omega), if_neg (by omega), pc_get pc_L8 (by decide) e2, hK, if_neg (by omega), pc_get pc_L8 (by decide) e2, hK, pc_put ⟨by omega, by omega⟩ pc_L8 (by decide) e2, pc_gr pc_L8 (by decide) e0 (by decide), pc_get pc_L8 (by decide) e1, pc_get pc_L8 (by decide) e2, k1, k2, pl_gi (by omega) (by omega), tm, pc_rld (i := R) pc_L9 rfl hr i1 (by omega), pc_cv a0, hr1, pl_call]
  refine ⟨Z1, rfl, fun o h8 h => ?_, ?_, ?_, ?_⟩
  · rw [ho o h, gx_up_ne h8]
  · unfold pc_eq at hq ⊢
    simpa only [gx_up_ne (show 10 + 8 * R ≠ 8 by omega), gx_up_ne (show 10 + 8 * R + 1 ≠ 8 by omega), gx_up_ne (show 10 + 8 * R + 2 ≠ 8 by omega), gx_up_ne (show 10 + 8 * R + 3 ≠ 8 by omega), gx_up_ne (show 10 + 8 * R + 4 ≠ 8 by omega), gx_up_ne (show 10 + 8 * R + 5 ≠ 8 by omega), gx_up_ne (show 10 + 8 * R + 6 ≠ 8 by omega), gx_up_ne (show 10 + 8 * R + 7 ≠ 8 by omega)] using hq
  · rw [o8]; exact k1
  · rw [o8, k2]; omega
theorem pc_forget (Z : Nat → Nat → Int) : f_HI_forget (pc_h Z) 8 = some (0, pc_h (gx_up Z 8 2 0)) := by
  obtain ⟨e0, e1, e2⟩ := pc_r8
  unfold f_HI_forget
  rw [pc_put trivial pc_L8 (by decide) e2]
/-! the book -/
theorem pc_L170 : pc_L[170]? = some (2 + 3, 3) ∧ pc_L[171]? = some (0, 20) ∧ pc_L[172]? = some (0, 20) := by decide +kernel
theorem pc_r170 : pc_r 170 0 = 171 ∧ pc_r 170 1 = 172 ∧ pc_r 170 2 = 0 := by decide +kernel
theorem pc_append (Z : Nat → Nat → Int) {K : Nat} {a d : Int} (hK : Z 170 2 = (K : Int)) (hK2 : K ≤ 20) (ha : gx_i a) (hd : gx_i d) :
    f_BK_append (pc_h Z) 170 a d = if K < 20 then some (1, pc_h (gx_up (gx_up (gx_up Z 171 K a) 172 K d) 170 2 ((K : Int) + 1))) else some (0, pc_h Z) := by
  obtain ⟨l0, l1, l2⟩ := pc_L170
  obtain ⟨e0, e1, e2⟩ := pc_r170
  unfold f_BK_append
  rw [pc_get l0 (by decide) e2, hK]
  by_cases c : K < 20
  · have k1 : gx_up Z 171 K a 170 2 = (K : Int) := by rw [gx_up_ne (by decide)]; exact hK
    have k2 : gx_up (gx_up Z 171 K a) 172 K d 170 2 = (K : Int) := by rw [gx_up_ne (by decide)]; exact k1
    rw [if_pos (by omega), if_pos c, pc_gr l0 (by decide) e0 (by decide), pc_get l0 (by decide) e2, hK, pc_ast (i := K) (Or.inl rfl) ha l1 rfl c, pc_gr l0 (by decide) e1 (by decide), pc_get l0 (by decide) e2, k1, pc_ast (i := K) (Or.inl rfl) hd l2 rfl c, pc_get l0 (by decide) e2, k2, pc_put ⟨by omega, by omega⟩ l0 (by decide) e2]
  · rw [if_neg (by omega), if_neg c]
/-- the first entry that is wrong -/
def mu_fw (D : Nat → Nat → Int) (n : Nat) (L C : Nat → Int) (e : Nat) : Prop := ∃ i : Nat, L e = (i : Int) ∧ i < n ∧ mu_cd D i n = C e
theorem pl_find {α : Type} {A : Nat → Nat → α} {out : α} {bad : Nat → α} (n : Nat) (hn : n < 1000000) (P : Nat → Prop) (hs : ∀ i, i < n → ∀ fu, (P i → A (fu + 1) i = A fu (i + 1)) ∧ (¬ P i → A (fu + 1) i = bad i)) (ho : ∀ fu, A (fu + 1) n = out) :
    ((∀ c, c < n → P c) → A gx_fu 0 = out) ∧ ∀ e, e < n → ¬ P e → (∀ c, c < e → P c) → A gx_fu 0 = bad e := by
  constructor
  · intro h
    exact pl_loop0 n hn (fun i hi fu => (hs i hi fu).1 (h i hi)) ho
  · intro e he hp hc
    have key : ∀ d i fu, i + d = e → d < fu → A fu i = bad e := by
      intro d
      induction d with
      | zero =>
        intro i fu hi hf
        obtain ⟨f, rfl⟩ : ∃ f, fu = f + 1 := ⟨fu - 1, by omega⟩
        rw [show i = e by omega]
        exact (hs e he f).2 hp
      | succ d ih =>
        intro i fu hi hf
        obtain ⟨f, rfl⟩ : ∃ f, fu = f + 1 := ⟨fu - 1, by omega⟩
        rw [(hs i (by omega) f).1 (hc i (by omega))]
        exact ih (i + 1) f (by omega) (by omega)
    exact key e 0 gx_fu (by omega) (show e < 1000000 by omega)
theorem pc_firstWrong (Z : Nat → Nat → Int) {t n K : Nat} (ht : pc_H t = true) (hn : Z t 0 = (n : Int)) (hn4 : n ≤ 4) (hD : mu_bd n (pc_T Z (t + 2))) (hK : Z 170 2 = (K : Int)) (hK2 : K ≤ 20) (hL : ∀ e, e < K → 0 ≤ Z 171 e) :
    ((∀ c, c < K → mu_fw (pc_T Z (t + 2)) n (Z 171) (Z 172) c) → f_BK_firstWrong (pc_h Z) 170 t = some (-1, pc_h Z)) ∧ ∀ e, e < K → ¬ mu_fw (pc_T Z (t + 2)) n (Z 171) (Z 172) e → (∀ c, c < e → mu_fw (pc_T Z (t + 2)) n (Z 171) (Z 172) c) → f_BK_firstWrong (pc_h Z) 170 t = some ((e : Int), pc_h Z) := by
  obtain ⟨l0, l1, l2⟩ := pc_L170
  obtain ⟨e0, e1, e2⟩ := pc_r170
  obtain ⟨g0, g1, g2, r0, r1, r2⟩ := pc_H_all t (pc_H_lt ht) ht
  unfold f_BK_firstWrong
  refine pl_find (A := fun fu i => f_BK_firstWrong_2 fu (pc_h Z) 170 t (i : Int)) (bad := fun e => some ((e : Int), pc_h Z)) K (by omega) (mu_fw (pc_T Z (t + 2)) n (Z 171) (Z 172)) (fun i hi fu => ?_) (fun fu => ?_)
  · obtain ⟨x, hx⟩ : ∃ x : Nat, Z 171 i = (x : Int) := ⟨(Z 171 i).toNat, by have := hL i hi; omega⟩
    show (_ → fb_BK_firstWrong_2 (f_BK_firstWrong_2 fu) _ _ _ _ = _) ∧ (_ → fb_BK_firstWrong_2 (f_BK_firstWrong_2 fu) _ _ _ _ = _)
    unfold fb_BK_firstWrong_2
    rw [pc_get l0 (by decide) e2, hK, pl_gi (by omega) (by omega), if_pos (by omega), pc_gr l0 (by decide) e0 (by decide), pc_ald (i := i) l1 rfl (by omega), pc_get g0 (by decide) r0, hn, hx]
    by_cases c : x < n
    · have hb := mu_cd_bd (n := n) (i := x) (fun m hm => hD x c m hm) n (Nat.le_refl _)
      have hp : (200 : Int) ^ n ≤ 1600000000 := by
        have : n = 0 ∨ n = 1 ∨ n = 2 ∨ n = 3 ∨ n = 4 := by omega
        rcases this with h | h | h | h | h <;> subst h <;> decide
      rw [if_pos (by omega), pc_cv g0, pc_code Z ht hn hn4 rfl (by omega), pl_call, pc_gr l0 (by decide) e1 (by decide), pc_ald (i := i) l2 rfl (by omega), pl_gi (by omega) (by omega)]
      by_cases d : mu_cd (pc_T Z (t + 2)) x n = Z 172 i
      · rw [if_pos d]
        exact ⟨fun _ => rfl, fun h => absurd ⟨x, hx, c, d⟩ h⟩
      · rw [if_neg d]
        refine ⟨fun h => ?_, fun _ => rfl⟩
        obtain ⟨y, h1, h2, h3⟩ := h
        have : y = x := by omega
        subst this
        exact absurd h3 d
    · rw [if_neg (by omega)]
      refine ⟨fun h => ?_, fun _ => rfl⟩
      obtain ⟨y, h1, h2, h3⟩ := h
      omega
  · show fb_BK_firstWrong_2 (f_BK_firstWrong_2 fu) _ _ _ _ = _
    unfold fb_BK_firstWrong_2
    rw [pc_get l0 (by decide) e2, hK, pl_gi (by omega) (by omega), if_neg (by omega)]
