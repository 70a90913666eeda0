/-! the pure side: loops, heaps of the reference -/
theorem pl_loop {α : Type} {A : Nat → Nat → α} {out : α} {n : Nat} (hs : ∀ i, i < n → ∀ fu, A (fu + 1) i = A fu (i + 1)) (ho : ∀ fu, A (fu + 1) n = out) : ∀ (d i fu : Nat), i + d = n → d < fu → A fu i = out := by
  intro d
  induction d with
  | zero =>
    intro i fu hi hf
    obtain ⟨f, rfl⟩ : ∃ f, fu = f + 1 := ⟨fu - 1, by omega⟩
    rw [show i = n by omega]
    exact ho f
  | succ d ih =>
    intro i fu hi hf
    obtain ⟨f, rfl⟩ : ∃ f, fu = f + 1 := ⟨fu - 1, by omega⟩
    rw [hs i (by omega) f]
    exact ih (i + 1) f (by omega) (by omega)
theorem pl_loop0 {α : Type} {A : Nat → Nat → α} {out : α} (n : Nat) (hn : n < 1000000) (hs : ∀ i, i < n → ∀ fu, A (fu + 1) i = A fu (i + 1)) (ho : ∀ fu, A (fu + 1) n = out) : A gx_fu 0 = out := pl_loop hs ho n 0 gx_fu (by omega) (show n < 1000000 from hn)
theorem pl_gi {β : Type} {a : Int} {A : Option β} (h1 : -2147483648 ≤ a) (h2 : a ≤ 2147483647) : gq_g (gx_i a) A = A := if_pos ⟨h1, h2⟩
theorem pl_gl {β : Type} {a : Int} {A : Option β} (h1 : -9223372036854775808 ≤ a) (h2 : a ≤ 9223372036854775807) : gq_g (gx_l a) A = A := if_pos ⟨h1, h2⟩
theorem pl_call {β : Type} {r : Int} {h : gx_H} {K : Int → gx_H → Option β} : gq_call (some (r, h)) K = K r h := rfl
theorem pl_callN {β : Type} {K : Int → gx_H → Option β} : gq_call none K = none := rfl
/-! cells of the reference -/
def pm_L : List gx_K := [(4, 30), (0, 2000), (0, 2), (0, 100), (0, 20), (0, 20), (0, 4), (0, 3200), (0, 3200), (0, 800), (0, 200), (0, 200), (0, 200), (0, 80), (0, 16), (0, 4)]
def pm_r (j : Nat) : Int := match j with
  | 0 => 1 | 5 => 2 | 6 => 3 | 9 => 4 | 10 => 5 | 12 => 6 | 16 => 7 | 17 => 8 | 18 => 9 | 19 => 10 | 20 => 11 | 21 => 12 | 23 => 13 | 28 => 14 | 29 => 15 | _ => 0
def pm_c (X : Nat → Nat → Int) : Nat → Nat → Int := fun o j => if o = 0 ∧ pm_r j ≠ 0 then pm_r j else X o j
/-- the heap of the reference with the contents X (fields that are references aside) -/
def pm_h (X : Nat → Nat → Int) : gx_H := (pm_L, pm_c X)
theorem pm_get {β : Type} {X : Nat → Nat → Int} {k : Nat} {K : Int → Option β} (hk : k < 30) (hr : pm_r k = 0) : gq_get (pm_h X) 0 1 k K = K (X 0 k) := by
  show (if 4 = 1 + 3 ∧ k < 30 then K (pm_c X 0 k) else none) = _
  rw [if_pos ⟨rfl, hk⟩]
  simp [pm_c, hr]
theorem pm_gr {β : Type} {X : Nat → Nat → Int} {k t : Nat} {K : Nat → Option β} (hk : k < 30) (hr : pm_r k = (t : Int)) (ht : t ≠ 0) : gq_gr (pm_h X) 0 1 k K = K t := by
  have e : pm_c X 0 k = (t : Int) := by simp [pm_c, hr, ht]
  refine (if_pos (c := (4 : Nat) = 1 + 3 ∧ k < 30 ∧ 0 ≤ pm_c X 0 k) ⟨rfl, hk, by rw [e]; omega⟩).trans ?_
  show K (pm_c X 0 k).toNat = K t
  rw [e]
  rfl
theorem pm_us {X : Nat → Nat → Int} {o : Nat} {f : Nat → Int} (ho : o ≠ 0) : gx_us (pm_c X) o f = pm_c (gx_us X o f) := by
  funext o' j
  unfold gx_us pm_c
  by_cases e : o' = o
  · subst e; simp [ho]
  · simp [e]
theorem pm_up {X : Nat → Nat → Int} {o i : Nat} {v : Int} (ho : o ≠ 0) : gx_up (pm_c X) o i v = pm_c (gx_up X o i v) := by
  have e : gx_u1 (pm_c X o) i v = gx_u1 (X o) i v := by
    funext j
    simp [gx_u1, pm_c, ho]
  rw [gx_up, gx_up, e, pm_us ho]
theorem pm_up0 {X : Nat → Nat → Int} {i : Nat} {v : Int} (hr : pm_r i = 0) : gx_up (pm_c X) 0 i v = pm_c (gx_up X 0 i v) := by
  funext o j
  unfold gx_up gx_us gx_u1 pm_c
  by_cases e : o = 0
  · subst e
    by_cases e2 : j = i
    · subst e2; simp [hr]
    · simp [e2]
  · simp [e]
theorem pm_put {β : Type} {X : Nat → Nat → Int} {c : Prop} [Decidable c] {k : Nat} {v : Int} {K : gx_H → Option β} (hc : c) (hk : k < 30) (hr : pm_r k = 0) : gq_put c (pm_h X) 0 1 k v K = K (pm_h (gx_up X 0 k v)) := by
  show (if 4 = 1 + 3 ∧ k < 30 ∧ c then K (pm_L, gx_up (pm_c X) 0 k v) else none) = _
  rw [if_pos ⟨rfl, hk, hc⟩, pm_up0 hr]
  rfl
/-- lengths of its arrays -/
def pm_n (o : Nat) : Nat := match o with
  | 1 => 2000 | 2 => 2 | 3 => 100 | 4 => 20 | 5 => 20 | 6 => 4 | 7 => 3200 | 8 => 3200 | 9 => 800 | 10 => 200 | 11 => 200 | 12 => 200 | 13 => 80 | 14 => 16 | 15 => 4 | _ => 0
theorem pm_at {o : Nat} (h : 0 < pm_n o) : pm_L[o]? = some (0, pm_n o) := by
  match o with
  | 1 => rfl
  | 2 => rfl
  | 3 => rfl
  | 4 => rfl
  | 5 => rfl
  | 6 => rfl
  | 7 => rfl
  | 8 => rfl
  | 9 => rfl
  | 10 => rfl
  | 11 => rfl
  | 12 => rfl
  | 13 => rfl
  | 14 => rfl
  | 15 => rfl
  | 0 => exact absurd h (by decide)
  | o + 16 => exact absurd h (by simp [pm_n])
theorem pm_ald {β : Type} {X : Nat → Nat → Int} {o i : Nat} {a : Int} {K : Int → Option β} (ha : a = (i : Int)) (hi : i < pm_n o) : gq_ald 0 (pm_h X) o a K = K (X o i) := by
  subst ha
  have h0 : 0 < pm_n o := by omega
  have ho : o ≠ 0 := fun e => by subst e; exact absurd h0 (by decide)
  show ((pm_L[o]?).bind fun q => if q.1 = 0 ∧ 0 ≤ (i : Int) ∧ (i : Int) < (q.2 : Int) then K (pm_c X o (i : Int).toNat) else none) = _
  rw [pm_at h0]
  show (if 0 = 0 ∧ 0 ≤ (i : Int) ∧ (i : Int) < (pm_n o : Int) then K (pm_c X o (i : Int).toNat) else none) = _
  rw [if_pos ⟨rfl, by omega, by omega⟩]
  simp [pm_c, ho]
theorem pm_ast {β : Type} {X : Nat → Nat → Int} {c : Prop} [Decidable c] {o i : Nat} {a v : Int} {K : gx_H → Option β} (hc : c) (ha : a = (i : Int)) (hi : i < pm_n o) : gq_ast 0 c (pm_h X) o a v K = K (pm_h (gx_up X o i v)) := by
  subst ha
  have h0 : 0 < pm_n o := by omega
  have ho : o ≠ 0 := fun e => by subst e; exact absurd h0 (by decide)
  show ((pm_L[o]?).bind fun q => if q.1 = 0 ∧ 0 ≤ (i : Int) ∧ (i : Int) < (q.2 : Int) ∧ c then K (pm_L, gx_up (pm_c X) o (i : Int).toNat v) else none) = _
  rw [pm_at h0]
  show (if 0 = 0 ∧ 0 ≤ (i : Int) ∧ (i : Int) < (pm_n o : Int) ∧ c then K (pm_L, gx_up (pm_c X) o (i : Int).toNat v) else none) = _
  rw [if_pos ⟨rfl, by omega, by omega, hc⟩, pm_up ho]
  rfl
theorem pm_cv {β : Type} {X : Nat → Nat → Int} {x : Option (Int × gx_H)} {K : Int → gx_H → Option β} : gq_cv (pm_h X) 0 1 x K = gq_call x K := rfl
/-! first methods -/
theorem pm_in (h : gx_H) {v a b : Int} (hv : gx_i v) (ha : gx_i a) (hb : gx_i b) : f_MD_in h v a b = some (if a ≤ v ∧ v ≤ b then 1 else 0, h) := by
  unfold f_MD_in fb_MD_in_14
  rw [gq_g_ok hv, gq_g_ok ha, gq_g_ok hb]
  by_cases h1 : v < a
  · rw [if_pos h1, if_neg (by omega)]
  · rw [if_neg h1]
    by_cases h2 : b < v
    · rw [if_pos h2, if_neg (by omega)]
    · rw [if_neg h2, if_pos (by omega)]
theorem pm_b (X : Nat → Nat → Int) {x i j : Nat} {a b c : Int} (ha : a = (x : Int)) (hb : b = (i : Int)) (hc : c = (j : Int)) (h : x + 8 + 4 * i + j < 2000) : f_MD_b (pm_h X) 0 a b c = some (X 1 (x + 8 + 4 * i + j), pm_h X) := by
  unfold f_MD_b
  rw [pm_gr (t := 1) (by decide) rfl (by decide), pm_ald (o := 1) (i := x + 8 + 4 * i + j) (by omega) h]
/-- a piece of the row w, copied -/
def pm_cp (f : Nat → Int) (x y n : Nat) : Nat → Int := fun j => if y ≤ j ∧ j < y + n then f (x + (j - y)) else f j
theorem pm_copy (X : Nat → Nat → Int) {x y : Nat} {a b : Int} (ha : a = (x : Int)) (hb : b = (y : Int)) (hx : x + 80 ≤ 2000) (hy : y + 80 ≤ 2000) (hxy : x + 80 ≤ y ∨ y + 80 ≤ x) : f_MD_copyRow (pm_h X) 0 a b = some (0, pm_h (gx_us X 1 (pm_cp (X 1) x y 80))) := by
  subst ha hb
  unfold f_MD_copyRow
  have e0 : pm_h X = pm_h (gx_us X 1 (pm_cp (X 1) x y 0)) := by
    congr 1
    funext o j
    unfold gx_us pm_cp
    by_cases e : o = 1
    · subst e; rw [if_pos rfl, if_neg (by omega)]
    · rw [if_neg e]
  rw [e0]
  refine pl_loop0 (A := fun fu i => f_MD_copyRow_2 fu (pm_h (gx_us X 1 (pm_cp (X 1) x y i))) 0 (x : Int) (y : Int) (i : Int)) 80 (by decide) (fun i hi fu => ?_) (fun fu => ?_)
  · show fb_MD_copyRow_2 (f_MD_copyRow_2 fu) _ 0 _ _ _ = _
    unfold fb_MD_copyRow_2
    rw [pl_gi (by omega) (by omega), if_pos (by omega), pm_gr (t := 1) (by decide) rfl (by decide), pm_gr (t := 1) (by decide) rfl (by decide), pm_ald (i := x + i) (by omega) (by show x + i < 2000; omega), pm_ast (i := y + i) trivial (by omega) (by show y + i < 2000; omega)]
    have e1 : gx_up (gx_us X 1 (pm_cp (X 1) x y i)) 1 (y + i) (gx_us X 1 (pm_cp (X 1) x y i) 1 (x + i)) = gx_us X 1 (pm_cp (X 1) x y (i + 1)) := by
      funext o j
      unfold gx_up gx_us gx_u1 pm_cp
      by_cases e : o = 1
      · subst e
        simp only [if_true]
        by_cases ej : j = y + i
        · subst ej
          rw [if_pos rfl, if_neg (by omega), if_pos (by omega)]
          congr 1; omega
        · rw [if_neg ej]
          by_cases e3 : y ≤ j ∧ j < y + i
          · rw [if_pos e3, if_pos (by omega)]
          · rw [if_neg e3, if_neg (by omega)]
      · simp [e]
    rw [e1]
    rfl
  · show fb_MD_copyRow_2 (f_MD_copyRow_2 fu) _ 0 _ _ _ = _
    unfold fb_MD_copyRow_2
    rw [pl_gi (by omega) (by omega), if_neg (by omega)]
