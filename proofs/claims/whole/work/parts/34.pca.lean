/-! loops by what holds; what begins -/
theorem pl_inv {σ α : Type} {A : Nat → Nat → σ → α} {out : σ → α} {Q : Nat → σ → Prop} (n : Nat) (hn : n < 1000000) (hs : ∀ i, i < n → ∀ s, Q i s → ∀ fu, ∃ s', Q (i + 1) s' ∧ A (fu + 1) i s = A fu (i + 1) s') (ho : ∀ fu s, Q n s → A (fu + 1) n s = out s) (s0 : σ) (h0 : Q 0 s0) : ∃ s, Q n s ∧ A gx_fu 0 s0 = out s := by
  have key : ∀ d i fu s, i + d = n → d < fu → Q i s → ∃ s', Q n s' ∧ A fu i s = out s' := by
    intro d
    induction d with
    | zero =>
      intro i fu s hi hf hq
      obtain ⟨f, rfl⟩ : ∃ f, fu = f + 1 := ⟨fu - 1, by omega⟩
      have e : i = n := by omega
      subst e
      exact ⟨s, hq, ho f s hq⟩
    | succ d ih =>
      intro i fu s hi hf hq
      obtain ⟨f, rfl⟩ : ∃ f, fu = f + 1 := ⟨fu - 1, by omega⟩
      obtain ⟨s', h1, h2⟩ := hs i (by omega) s hq f
      obtain ⟨s2, h3, h4⟩ := ih (i + 1) f s' (by omega) (by omega) h1
      exact ⟨s2, h3, h2.trans h4⟩
  exact key n 0 gx_fu s0 (by omega) (show n < 1000000 from hn) h0
/-- bound, as a set -/
def mu_bo (B : Nat → Nat → Int) (i : Nat) : Nat → Int
  | 0 => 0
  | j + 1 => if B i j = 0 then mu_bo B i j else gq_or (mu_bo B i j) (gq_shl 1 (j : Int))
theorem mu_bo_or {B : Nat → Nat → Int} {i : Nat} : ∀ j, gq_or (mu_bo B i j) 0 = mu_bo B i j := by
  have h32 : ∀ x : Int32, gq_or x.toInt 0 = x.toInt := by
    intro x
    unfold gq_or
    rw [Int32.ofInt_toInt, show Int32.ofInt 0 = 0 from rfl, Int32.or_zero]
  intro j
  induction j with
  | zero => exact (show gq_or 0 0 = 0 by decide)
  | succ j ih =>
    unfold mu_bo
    split
    · exact ih
    · exact h32 _
theorem pc_boundTo (Z : Nat → Nat → Int) {t n i : Nat} {a : Int} (ht : pc_H t = true) (hn : Z t 0 = (n : Int)) (hn4 : n ≤ 4) (ha : a = (i : Int)) (hi : i < 4) : f_SH_boundTo (pc_h Z) t a = some (mu_bo (pc_T Z (t + 1)) i n, pc_h Z) := by
  subst ha
  obtain ⟨g0, g1, g2, r0, r1, r2⟩ := pc_H_all t (pc_H_lt ht) ht
  unfold f_SH_boundTo
  refine pl_loop0 (A := fun fu j => f_SH_boundTo_4 fu (pc_h Z) t (i : Int) (mu_bo (pc_T Z (t + 1)) i j) (j : Int)) n (by omega) (fun j hj fu => ?_) (fun fu => ?_)
  · show fb_SH_boundTo_4 (f_SH_boundTo_4 fu) _ _ _ _ _ = _
    unfold fb_SH_boundTo_4 fb_SH_boundTo_31 f_LE_cell
    rw [pc_get g0 (by decide) r0, hn, pl_gi (by omega) (by omega), if_pos (by omega), pc_gr g0 (by decide) r1 (by omega), pl_call, pc_ald (i := 4 * i + j) g1 (by omega) (by omega)]
    have e : mu_bo (pc_T Z (t + 1)) i (j + 1) = if Z (t + 1) (4 * i + j) = 0 then mu_bo (pc_T Z (t + 1)) i j else gq_or (mu_bo (pc_T Z (t + 1)) i j) (gq_shl 1 (j : Int)) := rfl
    rw [e]
    by_cases c : Z (t + 1) (4 * i + j) = 0
    · rw [if_pos c, if_pos c]; rfl
    · rw [if_neg c, if_neg c]; rfl
  · show fb_SH_boundTo_4 (f_SH_boundTo_4 fu) _ _ _ _ _ = _
    unfold fb_SH_boundTo_4
    rw [pc_get g0 (by decide) r0, hn, pl_gi (by omega) (by omega), if_neg (by omega)]
/-- what has been written of a shape that begins -/
def pc_Qb (Z : Nat → Nat → Int) (t n i j : Nat) (Y : Nat → Nat → Int) : Prop :=
  (∀ o, (o < t ∨ t + 3 ≤ o) → Y o = Z o) ∧ Y t 0 = (n : Int) ∧ ∀ r c, r < 4 → c < 4 → (r < i ∨ (r = i ∧ c < j)) → Y (t + 1) (4 * r + c) = 0 ∧ Y (t + 2) (4 * r + c) = if r = c then -1 else 0
theorem pc_Qb_st {Z Y : Nat → Nat → Int} {t n i j : Nat} {v : Int} (hi : i < 4) (hj : j < 4) (hv : v = if i = j then -1 else 0) (h : pc_Qb Z t n i j Y) : pc_Qb Z t n i (j + 1) (gx_up (gx_up Y (t + 1) (4 * i + j) 0) (t + 2) (4 * i + j) v) := by
  subst hv
  obtain ⟨h1, h2, h3⟩ := h
  refine ⟨fun o ho => ?_, ?_, fun r c hr hc hp => ?_⟩
  · rw [gx_up_ne (by omega), gx_up_ne (by omega)]; exact h1 o ho
  · rw [gx_up_ne (by omega), gx_up_ne (by omega)]; exact h2
  · rw [gx_up_ne (show t + 1 ≠ t + 2 by omega), gx_up_at, gx_up_at, gx_up_ne (show t + 2 ≠ t + 1 by omega)]
    by_cases e : 4 * r + c = 4 * i + j
    · rw [if_pos e, if_pos e]
      have e1 : r = i := by omega
      have e2 : c = j := by omega
      rw [e1, e2]
      exact ⟨rfl, rfl⟩
    · rw [if_neg e, if_neg e]; exact h3 r c hr hc (by omega)
set_option maxHeartbeats 1000000 in
theorem pc_beginH (Z : Nat → Nat → Int) {t n : Nat} {a : Int} (ht : pc_H t = true) (ha : a = (n : Int)) (hn4 : n ≤ 4) : ∃ Y, pc_Qb Z t n 4 0 Y ∧ f_SH_begin (pc_h Z) t a = some (0, pc_h Y) := by
  subst ha
  obtain ⟨g0, g1, g2, r0, r1, r2⟩ := pc_H_all t (pc_H_lt ht) ht
  unfold f_SH_begin
  rw [pc_put ⟨by omega, by omega⟩ g0 (by decide) r0]
  refine pl_inv (A := fun fu i Y => f_SH_begin_7 fu (pc_h Y) t (i : Int)) (out := fun Y => some (0, pc_h Y)) (Q := fun i Y => pc_Qb Z t n i 0 Y) 4 (by decide) (fun i hi Y hY fu => ?_) (fun fu Y hY => ?_) (gx_up Z t 0 (n : Int)) ?_
  · have := pl_inv (A := fun gu j Y => f_SH_begin_14 (f_SH_begin_7 fu) gu (pc_h Y) t (i : Int) (j : Int)) (out := fun Y => f_SH_begin_7 fu (pc_h Y) t ((i + 1 : Nat) : Int)) (Q := fun j Y => pc_Qb Z t n i j Y) 4 (by decide) (fun j hj Y hY gu => ?_) (fun gu Y hY => ?_) Y hY
    · obtain ⟨Y2, hq, he⟩ := this
      refine ⟨Y2, ⟨hq.1, hq.2.1, fun r c hr hc hp => hq.2.2 r c hr hc (by omega)⟩, ?_⟩
      show fb_SH_begin_7 (f_SH_begin_7 fu) _ _ _ = _
      unfold fb_SH_begin_7
      rw [pl_gi (by omega) (by omega), if_pos (by omega)]
      exact he
    · show ∃ s', _ ∧ fb_SH_begin_14 (f_SH_begin_7 fu) (f_SH_begin_14 (f_SH_begin_7 fu) gu) _ _ _ _ = _
      unfold fb_SH_begin_14 fb_SH_begin_49 f_LE_cell
      rw [pl_gi (by omega) (by omega), if_pos (by omega), pc_gr g0 (by decide) r1 (by omega), pl_call, pc_ast (i := 4 * i + j) (Or.inl rfl) trivial g1 (by omega) (by omega), pc_gr g0 (by decide) r2 (by omega), pl_call, pl_gi (by omega) (by omega)]
      by_cases c : i = j
      · rw [if_pos (by omega), pc_ast (i := 4 * i + j) (Or.inl rfl) (by decide) g2 (by omega) (by omega)]
        exact ⟨_, pc_Qb_st (by omega) (by omega) (by rw [if_pos c]) hY, rfl⟩
      · rw [if_neg (by omega), pc_ast (i := 4 * i + j) (Or.inl rfl) (by decide) g2 (by omega) (by omega)]
        exact ⟨_, pc_Qb_st (by omega) (by omega) (by rw [if_neg c]) hY, rfl⟩
    · show fb_SH_begin_14 (f_SH_begin_7 fu) (f_SH_begin_14 (f_SH_begin_7 fu) gu) _ _ _ _ = _
      unfold fb_SH_begin_14
      rw [pl_gi (by omega) (by omega), if_neg (by omega)]
      rfl
  · show fb_SH_begin_7 (f_SH_begin_7 fu) _ _ _ = _
    unfold fb_SH_begin_7
    rw [pl_gi (by omega) (by omega), if_neg (by omega)]
  · exact ⟨fun o ho => gx_up_ne (by omega), by rw [gx_up_at, if_pos rfl], fun r c hr hc hp => by omega⟩
/-- what has been written of the rest of a state that begins -/
def pc_Qs (Z : Nat → Nat → Int) (A i j : Nat) (Y : Nat → Nat → Int) : Prop :=
  (∀ o, (o < A + 4 ∨ A + 8 ≤ o) → Y o = Z o) ∧ (∀ r, r < i → Y (A + 4) r = 1 ∧ Y (A + 5) r = 1) ∧ ∀ r c, r < 4 → c < 4 → (4 * r + c < j) → Y (A + 6) (4 * r + c) = (if r = c then 1 else 0) ∧ Y (A + 7) (4 * r + c) = if r = c then 1 else 0
theorem pc_Qs_st {Z Y : Nat → Nat → Int} {A i j q : Nat} {v w : Int} (hi : i < 4) (hj : j < 4) (hv : v = if i = j then 1 else 0) (hw : w = if i = j then 1 else 0) (h : pc_Qs Z A q (4 * i + j) Y) : pc_Qs Z A q (4 * i + (j + 1)) (gx_up (gx_up Y (A + 6) (4 * i + j) v) (A + 7) (4 * i + j) w) := by
  subst hv hw
  obtain ⟨h1, h2, h3⟩ := h
  refine ⟨fun o ho => ?_, fun r hr => ?_, fun r c hr hc hp => ?_⟩
  · rw [gx_up_ne (by omega), gx_up_ne (by omega)]; exact h1 o ho
  · rw [gx_up_ne (by omega), gx_up_ne (by omega), gx_up_ne (by omega), gx_up_ne (by omega)]; exact h2 r hr
  · rw [gx_up_ne (show A + 6 ≠ A + 7 by omega), gx_up_at, gx_up_at, gx_up_ne (show A + 7 ≠ A + 6 by omega)]
    by_cases e : 4 * r + c = 4 * i + j
    · rw [if_pos e, if_pos e]
      have e1 : r = i := by omega
      have e2 : c = j := by omega
      rw [e1, e2]
      exact ⟨rfl, rfl⟩
    · rw [if_neg e, if_neg e]; exact h3 r c hr hc (by omega)
/-- a state that begins -/
def pc_new (Z : Nat → Nat → Int) (A n : Nat) (Y : Nat → Nat → Int) : Prop :=
  (∀ o, (o < A ∨ A + 8 ≤ o) → Y o = Z o) ∧ Y (A + 1) 0 = (n : Int) ∧ Y A 5 = 0 ∧ (∀ r, r < 4 → Y (A + 4) r = 1 ∧ Y (A + 5) r = 1) ∧ ∀ r c, r < 4 → c < 4 → Y (A + 2) (4 * r + c) = 0 ∧ Y (A + 3) (4 * r + c) = (if r = c then -1 else 0) ∧ Y (A + 6) (4 * r + c) = (if r = c then 1 else 0) ∧ Y (A + 7) (4 * r + c) = if r = c then 1 else 0
set_option maxHeartbeats 1000000 in
theorem pc_beginS (Z : Nat → Nat → Int) {A n : Nat} {a : Int} (hA : pc_S A = true) (ha : a = (n : Int)) (hn4 : n ≤ 4) : ∃ Y, pc_new Z A n Y ∧ f_ST_begin (pc_h Z) A a = some (0, pc_h Y) := by
  obtain ⟨a0, ah, a4, a5, a6, a7⟩ := pc_S_all A (pc_S_lt hA) hA
  obtain ⟨z0, z1, z2, z3, z4, z5⟩ := pc_S_ref A (pc_S_lt hA) hA
  obtain ⟨u0, u1, u2, t0, t1, t2⟩ := pc_H_all (A + 1) (pc_H_lt ah) ah
  obtain ⟨Z1, hq, he⟩ := pc_beginH Z (t := A + 1) ah ha hn4
  obtain ⟨q1, q2, q3⟩ := hq
  unfold f_ST_begin
  rw [pc_gr a0 (by decide) z0 (by omega), pc_cv u0, he, pl_call, pc_put trivial a0 (by decide) z5]
  have main := pl_inv (A := fun fu i Y => f_ST_begin_15 fu (pc_h Y) A (i : Int)) (out := fun Y => some (0, pc_h Y)) (Q := fun i Y => pc_Qs (gx_up Z1 A 5 0) A i (4 * i) Y) 4 (by decide) (fun i hi Y hY fu => ?_) (fun fu Y hY => ?_) (gx_up Z1 A 5 0) ?_
  · obtain ⟨Y, ⟨h1, h2, h3⟩, hx⟩ := main
    have hx' : f_ST_begin_15 gx_fu (pc_h (gx_up Z1 A 5 0)) A 0 = some (0, pc_h Y) := hx
    refine ⟨Y, ⟨fun o ho => ?_, ?_, ?_, fun r hr => h2 r hr, fun r c hr hc => ⟨?_, ?_, (h3 r c hr hc (by omega)).1, (h3 r c hr hc (by omega)).2⟩⟩, hx'⟩
    · rw [h1 o (by omega), gx_up_ne (by omega)]; exact q1 o (by omega)
    · rw [h1 _ (by omega), gx_up_ne (by omega)]; exact q2
    · rw [h1 _ (by omega), gx_up_at, if_pos rfl]
    · rw [h1 _ (by omega), gx_up_ne (by omega)]; exact (q3 r c hr hc (by omega)).1
    · rw [h1 _ (by omega), gx_up_ne (by omega)]; exact (q3 r c hr hc (by omega)).2
  · have hY1 : pc_Qs (gx_up Z1 A 5 0) A (i + 1) (4 * i) (gx_up (gx_up Y (A + 4) i 1) (A + 5) i 1) := by
      obtain ⟨h1, h2, h3⟩ := hY
      refine ⟨fun o ho => ?_, fun r hr => ?_, fun r c hr hc hp => ?_⟩
      · rw [gx_up_ne (by omega), gx_up_ne (by omega)]; exact h1 o ho
      · rw [gx_up_ne (show A + 4 ≠ A + 5 by omega), gx_up_at, gx_up_at, gx_up_ne (show A + 5 ≠ A + 4 by omega)]
        by_cases e : r = i
        · rw [if_pos e, if_pos e]; exact ⟨rfl, rfl⟩
        · rw [if_neg e, if_neg e]; exact h2 r (by omega)
      · rw [gx_up_ne (by omega), gx_up_ne (by omega), gx_up_ne (by omega), gx_up_ne (by omega)]; exact h3 r c hr hc hp
    have := pl_inv (A := fun gu j Y => f_ST_begin_36 (f_ST_begin_15 fu) gu (pc_h Y) A (i : Int) (j : Int)) (out := fun Y => f_ST_begin_15 fu (pc_h Y) A ((i + 1 : Nat) : Int)) (Q := fun j Y => pc_Qs (gx_up Z1 A 5 0) A (i + 1) (4 * i + j) Y) 4 (by decide) (fun j hj Y hY gu => ?_) (fun gu Y hY => ?_) _ hY1
    · obtain ⟨Y2, hq, he⟩ := this
      refine ⟨Y2, by rw [show 4 * (i + 1) = 4 * i + 4 by omega]; exact hq, ?_⟩
      show fb_ST_begin_15 (f_ST_begin_15 fu) _ _ _ = _
      unfold fb_ST_begin_15
      rw [pl_gi (by omega) (by omega), if_pos (by omega), pc_gr a0 (by decide) z1 (by omega), pc_ast (i := i) (Or.inl rfl) trivial a4 rfl (by omega), pc_gr a0 (by decide) z2 (by omega), pc_ast (i := i) (Or.inl rfl) trivial a5 rfl (by omega)]
      exact he
    · show ∃ s', _ ∧ fb_ST_begin_36 (f_ST_begin_15 fu) (f_ST_begin_36 (f_ST_begin_15 fu) gu) _ _ _ _ = _
      unfold fb_ST_begin_36 fb_ST_begin_60 fb_ST_begin_80 f_LE_cell
      rw [pl_gi (by omega) (by omega), if_pos (by omega), pc_gr a0 (by decide) z3 (by omega), pl_call, pl_gi (by omega) (by omega)]
      by_cases c : i = j
      · rw [if_pos (by omega), pc_ast (i := 4 * i + j) (Or.inl rfl) (by decide) a6 (by omega) (by omega), pc_gr a0 (by decide) z4 (by omega), pl_call, pl_gi (by omega) (by omega), pl_gi (by omega) (by omega), if_pos (by omega), pc_ast (i := 4 * i + j) (Or.inl rfl) (by decide) a7 (by omega) (by omega)]
        exact ⟨_, pc_Qs_st (by omega) (by omega) (by rw [if_pos c]) (by rw [if_pos c]) hY, rfl⟩
      · rw [if_neg (by omega), pc_ast (i := 4 * i + j) (Or.inl rfl) (by decide) a6 (by omega) (by omega), pc_gr a0 (by decide) z4 (by omega), pl_call, pl_gi (by omega) (by omega), pl_gi (by omega) (by omega), if_neg (by omega), pc_ast (i := 4 * i + j) (Or.inl rfl) (by decide) a7 (by omega) (by omega)]
        exact ⟨_, pc_Qs_st (by omega) (by omega) (by rw [if_neg c]) (by rw [if_neg c]) hY, rfl⟩
    · show fb_ST_begin_36 (f_ST_begin_15 fu) (f_ST_begin_36 (f_ST_begin_15 fu) gu) _ _ _ _ = _
      unfold fb_ST_begin_36
      rw [pl_gi (by omega) (by omega), if_neg (by omega)]
      rfl
  · show fb_ST_begin_15 (f_ST_begin_15 fu) _ _ _ = _
    unfold fb_ST_begin_15
    rw [pl_gi (by omega) (by omega), if_neg (by omega)]
  · exact ⟨fun o ho => rfl, fun r hr => by omega, fun r c hr hc hp => by omega⟩
