/-! the component's small methods -/
theorem pl_srch {α : Type} {A : Nat → Nat → α} {out bad : α} {n : Nat} {P : Nat → Prop} [DecidablePred P] (hs : ∀ i, i < n → ∀ fu, A (fu + 1) i = if P i then A fu (i + 1) else bad) (ho : ∀ fu, A (fu + 1) n = out) : ∀ (d i fu : Nat), i + d = n → d < fu → A fu i = if (∀ c, c < n → i ≤ c → P c) then out else bad := by
  intro d
  induction d with
  | zero =>
    intro i fu hi hf
    obtain ⟨f, rfl⟩ : ∃ f, fu = f + 1 := ⟨fu - 1, by omega⟩
    rw [show i = n by omega, ho f, if_pos (fun c h1 h2 => absurd h1 (by omega))]
  | succ d ih =>
    intro i fu hi hf
    obtain ⟨f, rfl⟩ : ∃ f, fu = f + 1 := ⟨fu - 1, by omega⟩
    rw [hs i (by omega) f]
    by_cases hp : P i
    · rw [if_pos hp, ih (i + 1) f (by omega) (by omega)]
      by_cases h : ∀ c, c < n → i + 1 ≤ c → P c
      · rw [if_pos h, if_pos (fun c h1 h2 => by
          by_cases e : c = i
          · subst e; exact hp
          · exact h c h1 (by omega))]
      · rw [if_neg h, if_neg (fun z => h (fun c h1 h2 => z c h1 (by omega)))]
    · rw [if_neg hp, if_neg (fun z => hp (z i (by omega) (Nat.le_refl _)))]
theorem pl_srch0 {α : Type} {A : Nat → Nat → α} {out bad : α} (n : Nat) (hn : n < 1000000) (P : Nat → Prop) [DecidablePred P] (hs : ∀ i, i < n → ∀ fu, A (fu + 1) i = if P i then A fu (i + 1) else bad) (ho : ∀ fu, A (fu + 1) n = out) : A gx_fu 0 = if (∀ c, c < n → P c) then out else bad := by
  rw [pl_srch hs ho n 0 gx_fu (by omega) (show n < 1000000 from hn)]
  by_cases h : ∀ c, c < n → P c
  · rw [if_pos h, if_pos (fun c h1 _ => h c h1)]
  · rw [if_neg h, if_neg (fun z => h (fun c h1 => z c h1 (Nat.zero_le _)))]
/-- an array of sixteen as a table -/
def pc_T (Z : Nat → Nat → Int) (o : Nat) : Nat → Nat → Int := fun i j => Z o (4 * i + j)
theorem pc_beyond (Z : Nat → Nat → Int) {o n : Nat} {a : Int} (hL : pc_L[o]? = some (0, 16)) (ha : a = (n : Int)) (hn4 : n ≤ 4) : f_LE_hasNumberBeyond (pc_h Z) o a = some (if mu_bd n (pc_T Z o) then 0 else 1, pc_h Z) := by
  subst ha
  unfold f_LE_hasNumberBeyond
  have h := pl_srch0 (A := fun fu i => f_LE_hasNumberBeyond_2 fu (pc_h Z) o (n : Int) (i : Int)) (out := some ((0 : Int), pc_h Z)) (bad := some (1, pc_h Z)) n (by omega) (fun i => ∀ j, j < n → mu_in (pc_T Z o i j)) (fun i hi fu => ?_) (fun fu => ?_)
  · refine h.trans ?_
    by_cases hb : mu_bd n (pc_T Z o)
    · rw [if_pos hb, if_pos hb]
    · rw [if_neg hb, if_neg hb]
  · show fb_LE_hasNumberBeyond_2 (f_LE_hasNumberBeyond_2 fu) _ _ _ _ = _
    unfold fb_LE_hasNumberBeyond_2
    rw [pl_gi (by omega) (by omega), pl_gi (by omega) (by omega), if_pos (by omega)]
    refine pl_srch0 (A := fun gu j => f_LE_hasNumberBeyond_9 (f_LE_hasNumberBeyond_2 fu) gu (pc_h Z) o (n : Int) (i : Int) (j : Int)) n (by omega) (fun j => mu_in (pc_T Z o i j)) (fun j hj gu => ?_) (fun gu => ?_)
    · show fb_LE_hasNumberBeyond_9 (f_LE_hasNumberBeyond_2 fu) (f_LE_hasNumberBeyond_9 (f_LE_hasNumberBeyond_2 fu) gu) _ _ _ _ _ = _
      unfold fb_LE_hasNumberBeyond_9 f_LE_cell
      rw [pl_gi (by omega) (by omega), pl_gi (by omega) (by omega), if_pos (by omega), pl_call, pc_ald (i := 4 * i + j) hL (by omega) (by omega)]
      show (if 99 < pc_T Z o i j then _ else if pc_T Z o i j < -99 then _ else _) = _
      by_cases h1 : 99 < pc_T Z o i j
      · rw [if_pos h1, if_neg (by omega)]
      · rw [if_neg h1]
        by_cases h2 : pc_T Z o i j < -99
        · rw [if_pos h2, if_neg (by omega)]
        · rw [if_neg h2, if_pos (by omega)]; rfl
    · show fb_LE_hasNumberBeyond_9 (f_LE_hasNumberBeyond_2 fu) (f_LE_hasNumberBeyond_9 (f_LE_hasNumberBeyond_2 fu) gu) _ _ _ _ _ = _
      unfold fb_LE_hasNumberBeyond_9
      rw [pl_gi (by omega) (by omega), pl_gi (by omega) (by omega), if_neg (by omega)]
      rfl
  · show fb_LE_hasNumberBeyond_2 (f_LE_hasNumberBeyond_2 fu) _ _ _ _ = _
    unfold fb_LE_hasNumberBeyond_2
    rw [pl_gi (by omega) (by omega), pl_gi (by omega) (by omega), if_neg (by omega)]
theorem pc_codeOf (Z : Nat → Nat → Int) {o n i : Nat} {a b : Int} (hL : pc_L[o]? = some (0, 16)) (ha : a = (i : Int)) (hb : b = (n : Int)) (hn4 : n ≤ 4) (hi : i < 4) : f_LE_codeOf (pc_h Z) o a b = some (mu_cd (pc_T Z o) i n, pc_h Z) := by
  subst ha hb
  unfold f_LE_codeOf
  refine pl_loop0 (A := fun fu m => f_LE_codeOf_5 fu (pc_h Z) o (i : Int) (n : Int) (mu_cd (pc_T Z o) i m) (m : Int)) n (by omega) (fun m hm fu => ?_) (fun fu => ?_)
  · show fb_LE_codeOf_5 (f_LE_codeOf_5 fu) _ _ _ _ _ _ = _
    unfold fb_LE_codeOf_5 f_LE_cell
    rw [pl_gi (by omega) (by omega), pl_gi (by omega) (by omega), if_pos (by omega), pl_call, pc_ald (i := 4 * i + m) hL (by omega) (by omega)]
    have e : mu_cd (pc_T Z o) i m * 200 + Z o (4 * i + m) + 100 = mu_cd (pc_T Z o) i (m + 1) := by
      show _ = 200 * mu_cd (pc_T Z o) i m + Z o (4 * i + m) + 100
      omega
    rw [e]
    rfl
  · show fb_LE_codeOf_5 (f_LE_codeOf_5 fu) _ _ _ _ _ _ = _
    unfold fb_LE_codeOf_5
    rw [pl_gi (by omega) (by omega), pl_gi (by omega) (by omega), if_neg (by omega)]
def mu_pa (c : Nat → Int) (i : Nat) : Nat → Nat
  | 0 => 0
  | j + 1 => mu_pa c i j + (if c j < c i ∨ (c j = c i ∧ j < i) then 1 else 0)
theorem pc_placeAmong (Z : Nat → Nat → Int) {o n i : Nat} {a b : Int} (hL : pc_L[o]? = some (0, 4)) (ha : a = (n : Int)) (hb : b = (i : Int)) (hn4 : n ≤ 4) (hi : i < 4) : f_LE_placeAmong (pc_h Z) o a b = some ((mu_pa (Z o) i n : Int), pc_h Z) := by
  subst ha hb
  unfold f_LE_placeAmong
  refine pl_loop0 (A := fun fu j => f_LE_placeAmong_5 fu (pc_h Z) o (n : Int) (i : Int) (mu_pa (Z o) i j : Int) (j : Int)) n (by omega) (fun j hj fu => ?_) (fun fu => ?_)
  · show fb_LE_placeAmong_5 (f_LE_placeAmong_5 fu) _ _ _ _ _ _ = _
    unfold fb_LE_placeAmong_5 fb_LE_placeAmong_37 fb_LE_placeAmong_40
    rw [pl_gi (by omega) (by omega), pl_gi (by omega) (by omega), if_pos (by omega), pc_ald (i := j) hL rfl (by omega), pc_ald (i := i) hL rfl hi, pc_ald (i := j) hL rfl (by omega), pc_ald (i := i) hL rfl hi]
    have e : mu_pa (Z o) i (j + 1) = mu_pa (Z o) i j + (if Z o j < Z o i ∨ (Z o j = Z o i ∧ j < i) then 1 else 0) := rfl
    rw [e]
    by_cases h1 : Z o j < Z o i
    · rw [if_pos h1, if_pos (Or.inl h1)]; simp
    · rw [if_neg h1]
      by_cases h2 : Z o j = Z o i
      · rw [if_pos h2, pl_gi (by omega) (by omega)]
        by_cases h3 : j < i
        · rw [if_pos (by omega), if_pos (Or.inr ⟨h2, h3⟩)]; simp
        · rw [if_neg (by omega), if_neg (by omega)]; simp
      · rw [if_neg h2, if_neg (by omega)]; simp
  · show fb_LE_placeAmong_5 (f_LE_placeAmong_5 fu) _ _ _ _ _ _ = _
    unfold fb_LE_placeAmong_5
    rw [pl_gi (by omega) (by omega), pl_gi (by omega) (by omega), if_neg (by omega)]
/-! shapes -/
theorem pc_tableAfter (Z : Nat → Nat → Int) {t i j k n : Nat} {a b c : Int} (ht : pc_H t = true) (ha : a = (i : Int)) (hb : b = (j : Int)) (hc : c = (k : Int)) (hi : i < 4) (hj : j < 4) (hk : k < 4) (b1 : gx_i (pc_T Z (t + 1) i k)) (b2 : gx_i (pc_T Z (t + 1) k j)) : f_SH_tableAfter (pc_h Z) t a b c = some (mu_B (pc_T Z (t + 1)) k i j, pc_h Z) := by
  subst ha hb hc
  obtain ⟨g0, g1, g2, r0, r1, r2⟩ := pc_H_all t (pc_H_lt ht) ht
  unfold f_SH_tableAfter fb_SH_tableAfter_69 f_LE_cell
  rw [pc_gr g0 (by decide) r1 (by omega), pl_call, pc_ald (i := 4 * i + j) g1 (by omega) (by omega), pl_gi (by omega) (by omega), pl_gi (by omega) (by omega)]
  unfold mu_B
  by_cases h1 : i = k
  · rw [if_pos (by omega), if_pos (Or.inl h1)]; rfl
  · rw [if_neg (by omega), pl_gi (by omega) (by omega)]
    by_cases h2 : j = k
    · rw [if_pos (by omega), if_pos (Or.inr h2)]; rfl
    · rw [if_neg (by omega), if_neg (by omega), pc_gr g0 (by decide) r1 (by omega), pl_call, pc_ald (i := 4 * i + k) g1 (by omega) (by omega), pc_gr g0 (by decide) r1 (by omega), pl_call, pc_ald (i := 4 * k + j) g1 (by omega) (by omega)]
      show (if 0 < pc_T Z (t + 1) i k then if 0 < pc_T Z (t + 1) k j then some (pc_T Z (t + 1) i j + pc_T Z (t + 1) i k * pc_T Z (t + 1) k j, pc_h Z) else gq_g (gx_i (pc_T Z (t + 1) i k)) (if pc_T Z (t + 1) i k < 0 then gq_g (gx_i (pc_T Z (t + 1) k j)) (if pc_T Z (t + 1) k j < 0 then some (pc_T Z (t + 1) i j - pc_T Z (t + 1) i k * pc_T Z (t + 1) k j, pc_h Z) else some (pc_T Z (t + 1) i j, pc_h Z)) else some (pc_T Z (t + 1) i j, pc_h Z)) else gq_g (gx_i (pc_T Z (t + 1) i k)) (if pc_T Z (t + 1) i k < 0 then gq_g (gx_i (pc_T Z (t + 1) k j)) (if pc_T Z (t + 1) k j < 0 then some (pc_T Z (t + 1) i j - pc_T Z (t + 1) i k * pc_T Z (t + 1) k j, pc_h Z) else some (pc_T Z (t + 1) i j, pc_h Z)) else some (pc_T Z (t + 1) i j, pc_h Z))) = _
      simp only [gq_g_ok b1, gq_g_ok b2]
      unfold mu_both
      generalize pc_T Z (t + 1) i k = p
      generalize pc_T Z (t + 1) k j = q
      by_cases c1 : 0 < p <;> by_cases c2 : 0 < q <;> by_cases c3 : p < 0 <;> by_cases c4 : q < 0 <;> simp [c1, c2, c3, c4, Int.sub_eq_add_neg, Int.neg_mul]
set_option maxHeartbeats 1000000 in
theorem pc_rowAfter (Z : Nat → Nat → Int) {t k m n : Nat} {a b : Int} (ht : pc_H t = true) (hn : Z t 0 = (n : Int)) (hn4 : n ≤ 4) (ha : a = (k : Int)) (hb : b = (m : Int)) (hk : k < n) (hm : m < n) (hB : mu_bd n (pc_T Z (t + 1))) (hD : mu_bd n (pc_T Z (t + 2))) : f_SH_rowAfter (pc_h Z) t a b = some (mu_D n (pc_T Z (t + 1)) (pc_T Z (t + 2)) k k m, pc_h Z) := by
  subst ha hb
  obtain ⟨g0, g1, g2, r0, r1, r2⟩ := pc_H_all t (pc_H_lt ht) ht
  unfold f_SH_rowAfter
  refine pl_loop0 (A := fun fu i => f_SH_rowAfter_8 fu (pc_h Z) t (k : Int) (m : Int) (mu_gs (pc_T Z (t + 1)) (pc_T Z (t + 2)) k 1 m i) (mu_gs (pc_T Z (t + 1)) (pc_T Z (t + 2)) k (-1) m i) (i : Int)) n (by omega) (fun i hi fu => ?_) (fun fu => ?_)
  · show fb_SH_rowAfter_8 (f_SH_rowAfter_8 fu) _ _ _ _ _ _ _ = _
    unfold fb_SH_rowAfter_8 fb_SH_rowAfter_74 f_LE_cell
    rw [pc_get g0 (by decide) r0, hn, pl_gi (by omega) (by omega), if_pos (by omega), pc_gr g0 (by decide) r1 (by omega), pl_call, pc_ald (i := 4 * i + k) g1 (by omega) (by omega)]
    simp only [pl_call]
    rw [pc_gr g0 (by decide) r2 (by omega), pc_gr g0 (by decide) r2 (by omega), pc_ald (i := 4 * i + m) g2 (by omega) (by omega), pc_ald (i := 4 * i + m) g2 (by omega) (by omega)]
    have eB : Z (t + 1) (4 * i + k) = pc_T Z (t + 1) i k := rfl
    have eD : Z (t + 2) (4 * i + m) = pc_T Z (t + 2) i m := rfl
    rw [eB, eD]
    have e1 : mu_gs (pc_T Z (t + 1)) (pc_T Z (t + 2)) k 1 m (i + 1) = mu_gs (pc_T Z (t + 1)) (pc_T Z (t + 2)) k 1 m i + (if 0 < pc_T Z (t + 1) i k then pc_T Z (t + 1) i k * pc_T Z (t + 2) i m else 0) := by simp only [mu_gs, Int.one_mul]
    have e2 : mu_gs (pc_T Z (t + 1)) (pc_T Z (t + 2)) k (-1) m (i + 1) = mu_gs (pc_T Z (t + 1)) (pc_T Z (t + 2)) k (-1) m i + (if 0 < pc_T Z (t + 1) i k then 0 else -(pc_T Z (t + 1) i k * pc_T Z (t + 2) i m)) := by
      simp only [mu_gs]
      rw [show (-1 : Int) * pc_T Z (t + 1) i k = -pc_T Z (t + 1) i k by omega]
      by_cases c : 0 < pc_T Z (t + 1) i k
      · rw [if_pos c, if_neg (by omega)]
      · rw [if_neg c]
        by_cases c2 : 0 < -pc_T Z (t + 1) i k
        · rw [if_pos c2, Int.neg_mul]
        · rw [if_neg c2, show pc_T Z (t + 1) i k = 0 by omega]; simp
    rw [e1, e2]
    by_cases c : 0 < pc_T Z (t + 1) i k
    · rw [if_pos c, if_pos c, if_pos c, Int.add_zero]; rfl
    · rw [if_neg c, if_neg c, if_neg c, Int.add_zero, Int.sub_eq_add_neg]; rfl
  · show fb_SH_rowAfter_8 (f_SH_rowAfter_8 fu) _ _ _ _ _ _ _ = _
    unfold fb_SH_rowAfter_8 f_LE_cell
    have hbd := mu_D_bd hn4 hB hD hk hm
    rw [pc_get g0 (by decide) r0, hn, pl_gi (by omega) (by omega), if_neg (by omega), pl_gi (by omega) (by omega), pl_gi (by omega) (by omega), pc_gr g0 (by decide) r2 (by omega), pl_call, pc_ald (i := 4 * k + m) g2 (by omega) (by omega)]
    have eD : Z (t + 2) (4 * k + m) = pc_T Z (t + 2) k m := rfl
    rw [eD]
    unfold mu_D
    rw [if_pos rfl]
    by_cases c : mu_gs (pc_T Z (t + 1)) (pc_T Z (t + 2)) k 1 m n < mu_gs (pc_T Z (t + 1)) (pc_T Z (t + 2)) k (-1) m n
    · rw [if_pos c, if_neg (by omega)]
    · rw [if_neg c]
      by_cases c2 : mu_gs (pc_T Z (t + 1)) (pc_T Z (t + 2)) k (-1) m n < mu_gs (pc_T Z (t + 1)) (pc_T Z (t + 2)) k 1 m n
      · rw [if_pos c2]
      · rw [if_neg c2, show mu_gs (pc_T Z (t + 1)) (pc_T Z (t + 2)) k 1 m n = mu_gs (pc_T Z (t + 1)) (pc_T Z (t + 2)) k (-1) m n by omega]
