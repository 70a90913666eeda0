/-! the cells of the component (written by gen_pc.py) -/
def pc_L : List gx_K := [(3, 18), (13, 6), (0, 100), (10, 2), (0, 4), (6, 2), (7, 2), (7, 2), (9, 3), (2, 20), (12, 6), (11, 3), (0, 16), (0, 16), (0, 4), (0, 4), (0, 16), (0, 16), (12, 6), (11, 3), (0, 16), (0, 16), (0, 4), (0, 4), (0, 16), (0, 16), (12, 6), (11, 3), (0, 16), (0, 16), (0, 4), (0, 4), (0, 16), (0, 16), (12, 6), (11, 3), (0, 16), (0, 16), (0, 4), (0, 4), (0, 16), (0, 16), (12, 6), (11, 3), (0, 16), (0, 16), (0, 4), (0, 4), (0, 16), (0, 16), (12, 6), (11, 3), (0, 16), (0, 16), (0, 4), (0, 4), (0, 16), (0, 16), (12, 6), (11, 3), (0, 16), (0, 16), (0, 4), (0, 4), (0, 16), (0, 16), (12, 6), (11, 3), (0, 16), (0, 16), (0, 4), (0, 4), (0, 16), (0, 16), (12, 6), (11, 3), (0, 16), (0, 16), (0, 4), (0, 4), (0, 16), (0, 16), (12, 6), (11, 3), (0, 16), (0, 16), (0, 4), (0, 4), (0, 16), (0, 16), (12, 6), (11, 3), (0, 16), (0, 16), (0, 4), (0, 4), (0, 16), (0, 16), (12, 6), (11, 3), (0, 16), (0, 16), (0, 4), (0, 4), (0, 16), (0, 16), (12, 6), (11, 3), (0, 16), (0, 16), (0, 4), (0, 4), (0, 16), (0, 16), (12, 6), (11, 3), (0, 16), (0, 16), (0, 4), (0, 4), (0, 16), (0, 16), (12, 6), (11, 3), (0, 16), (0, 16), (0, 4), (0, 4), (0, 16), (0, 16), (12, 6), (11, 3), (0, 16), (0, 16), (0, 4), (0, 4), (0, 16), (0, 16), (12, 6), (11, 3), (0, 16), (0, 16), (0, 4), (0, 4), (0, 16), (0, 16), (12, 6), (11, 3), (0, 16), (0, 16), (0, 4), (0, 4), (0, 16), (0, 16), (12, 6), (11, 3), (0, 16), (0, 16), (0, 4), (0, 4), (0, 16), (0, 16), (12, 6), (11, 3), (0, 16), (0, 16), (0, 4), (0, 4), (0, 16), (0, 16), (5, 3), (0, 20), (0, 20), (8, 13), (0, 800), (0, 1600), (0, 8), (0, 4), (0, 4), (0, 4), (0, 800), (11, 3), (0, 16), (0, 16), (11, 3), (0, 16), (0, 16), (15, 6), (0, 200), (0, 200), (0, 200), (0, 200), (0, 200), (14, 4), (11, 3), (0, 16), (0, 16), (11, 3), (0, 16), (0, 16), (0, 4), (0, 4), (12, 6), (11, 3), (0, 16), (0, 16), (0, 4), (0, 4), (0, 16), (0, 16), (2, 2), (12, 6), (11, 3), (0, 16), (0, 16), (0, 4), (0, 4), (0, 16), (0, 16), (12, 6), (11, 3), (0, 16), (0, 16), (0, 4), (0, 4), (0, 16), (0, 16), (1, 2), (0, 2), (0, 4), (12, 6), (11, 3), (0, 16), (0, 16), (0, 4), (0, 4), (0, 16), (0, 16), (12, 6), (11, 3), (0, 16), (0, 16), (0, 4), (0, 4), (0, 16), (0, 16)]
def pc_R : List (List Nat) := [[1, 3, 5, 8, 170, 173, 187, 193, 202, 210, 227, 228, 229], [2], [], [0, 4], [], [6, 7], [], [], [9], [10, 18, 26, 34, 42, 50, 58, 66, 74, 82, 90, 98, 106, 114, 122, 130, 138, 146, 154, 162], [11, 14, 15, 16, 17], [0, 12, 13], [], [], [], [], [], [], [19, 22, 23, 24, 25], [0, 20, 21], [], [], [], [], [], [], [27, 30, 31, 32, 33], [0, 28, 29], [], [], [], [], [], [], [35, 38, 39, 40, 41], [0, 36, 37], [], [], [], [], [], [], [43, 46, 47, 48, 49], [0, 44, 45], [], [], [], [], [], [], [51, 54, 55, 56, 57], [0, 52, 53], [], [], [], [], [], [], [59, 62, 63, 64, 65], [0, 60, 61], [], [], [], [], [], [], [67, 70, 71, 72, 73], [0, 68, 69], [], [], [], [], [], [], [75, 78, 79, 80, 81], [0, 76, 77], [], [], [], [], [], [], [83, 86, 87, 88, 89], [0, 84, 85], [], [], [], [], [], [], [91, 94, 95, 96, 97], [0, 92, 93], [], [], [], [], [], [], [99, 102, 103, 104, 105], [0, 100, 101], [], [], [], [], [], [], [107, 110, 111, 112, 113], [0, 108, 109], [], [], [], [], [], [], [115, 118, 119, 120, 121], [0, 116, 117], [], [], [], [], [], [], [123, 126, 127, 128, 129], [0, 124, 125], [], [], [], [], [], [], [131, 134, 135, 136, 137], [0, 132, 133], [], [], [], [], [], [], [139, 142, 143, 144, 145], [0, 140, 141], [], [], [], [], [], [], [147, 150, 151, 152, 153], [0, 148, 149], [], [], [], [], [], [], [155, 158, 159, 160, 161], [0, 156, 157], [], [], [], [], [], [], [163, 166, 167, 168, 169], [0, 164, 165], [], [], [], [], [], [], [171, 172], [], [], [0, 0, 0, 0, 174, 175, 176, 177, 178, 179, 180, 181, 184], [], [], [], [], [], [], [], [0, 182, 183], [], [], [0, 185, 186], [], [], [0, 188, 189, 190, 191, 192], [], [], [], [], [], [194, 197, 200, 201], [0, 195, 196], [], [], [0, 198, 199], [], [], [], [], [203, 206, 207, 208, 209], [0, 204, 205], [], [], [], [], [], [], [211, 219], [212, 215, 216, 217, 218], [0, 213, 214], [], [], [], [], [], [], [220, 223, 224, 225, 226], [0, 221, 222], [], [], [], [], [], [], [], [], [], [231, 234, 235, 236, 237], [0, 232, 233], [], [], [], [], [], [], [239, 242, 243, 244, 245], [0, 240, 241], [], [], [], [], [], []]
def pc_r (o j : Nat) : Nat := (pc_R.getD o []).getD j 0
def pc_c (Z : Nat → Nat → Int) : Nat → Nat → Int := fun o j => if pc_r o j ≠ 0 then (pc_r o j : Int) else Z o j
/-- the heap of the component with the contents Z (fixed references aside) -/
def pc_h (Z : Nat → Nat → Int) : gx_H := (pc_L, pc_c Z)
/-- where states and shapes lie -/
def pc_S (s : Nat) : Bool := ([10, 18, 26, 34, 42, 50, 58, 66, 74, 82, 90, 98, 106, 114, 122, 130, 138, 146, 154, 162, 202, 211, 219, 230, 238] : List Nat).contains s
def pc_H (s : Nat) : Bool := ([11, 19, 27, 35, 43, 51, 59, 67, 75, 83, 91, 99, 107, 115, 123, 131, 139, 147, 155, 163, 181, 184, 194, 197, 203, 212, 220, 231, 239] : List Nat).contains s
theorem pc_len : pc_L.length = 246 := by decide +kernel
theorem pc_S_a1 : ∀ s, s < 246 → pc_S s = true → pc_L[s]? = some (12, 6) ∧ pc_H (s + 1) = true := by decide +kernel
theorem pc_S_a2 : ∀ s, s < 246 → pc_S s = true → pc_L[s + 4]? = some (0, 4) ∧ pc_L[s + 5]? = some (0, 4) := by decide +kernel
theorem pc_S_a3 : ∀ s, s < 246 → pc_S s = true → pc_L[s + 6]? = some (0, 16) ∧ pc_L[s + 7]? = some (0, 16) := by decide +kernel
theorem pc_S_all (s : Nat) (h : s < 246) (hs : pc_S s = true) : pc_L[s]? = some (12, 6) ∧ pc_H (s + 1) = true ∧ pc_L[s + 4]? = some (0, 4) ∧ pc_L[s + 5]? = some (0, 4) ∧ pc_L[s + 6]? = some (0, 16) ∧ pc_L[s + 7]? = some (0, 16) := ⟨(pc_S_a1 s h hs).1, (pc_S_a1 s h hs).2, (pc_S_a2 s h hs).1, (pc_S_a2 s h hs).2, (pc_S_a3 s h hs).1, (pc_S_a3 s h hs).2⟩
theorem pc_S_ref : ∀ s, s < 246 → pc_S s = true → pc_r s 0 = s + 1 ∧ pc_r s 1 = s + 4 ∧ pc_r s 2 = s + 5 ∧ pc_r s 3 = s + 6 ∧ pc_r s 4 = s + 7 ∧ pc_r s 5 = 0 := by decide +kernel
theorem pc_H_all : ∀ s, s < 246 → pc_H s = true → pc_L[s]? = some (11, 3) ∧ pc_L[s + 1]? = some (0, 16) ∧ pc_L[s + 2]? = some (0, 16) ∧ pc_r s 0 = 0 ∧ pc_r s 1 = s + 1 ∧ pc_r s 2 = s + 2 := by decide +kernel
theorem pc_arr0 : ∀ o, o < 246 → (match pc_L[o]? with | some (0, _) => true | some (1, _) => true | _ => false) = true → pc_R.getD o [] = [] := by decide +kernel
theorem pc_S_lt {s : Nat} (h : pc_S s = true) : s < 246 := by
  have h1 : s ∈ ([10, 18, 26, 34, 42, 50, 58, 66, 74, 82, 90, 98, 106, 114, 122, 130, 138, 146, 154, 162, 202, 211, 219, 230, 238] : List Nat) := by simpa [pc_S] using h
  have h2 : ∀ x ∈ ([10, 18, 26, 34, 42, 50, 58, 66, 74, 82, 90, 98, 106, 114, 122, 130, 138, 146, 154, 162, 202, 211, 219, 230, 238] : List Nat), x < 246 := by decide
  exact h2 s h1
theorem pc_H_lt {s : Nat} (h : pc_H s = true) : s < 246 := by
  have h1 : s ∈ ([11, 19, 27, 35, 43, 51, 59, 67, 75, 83, 91, 99, 107, 115, 123, 131, 139, 147, 155, 163, 181, 184, 194, 197, 203, 212, 220, 231, 239] : List Nat) := by simpa [pc_H] using h
  have h2 : ∀ x ∈ ([11, 19, 27, 35, 43, 51, 59, 67, 75, 83, 91, 99, 107, 115, 123, 131, 139, 147, 155, 163, 181, 184, 194, 197, 203, 212, 220, 231, 239] : List Nat), x < 246 := by decide
  exact h2 s h1
theorem pc_r_arr {o n t : Nat} (ht : t = 0 ∨ t = 1) (h : pc_L[o]? = some (t, n)) (j : Nat) : pc_r o j = 0 := by
  have hl : o < 246 := by rw [← pc_len]; exact (List.getElem?_eq_some_iff.mp h).1
  have e := pc_arr0 o hl (by rw [h]; rcases ht with e | e <;> subst e <;> rfl)
  unfold pc_r
  rw [e]
  rfl
theorem pc_get {β : Type} {Z : Nat → Nat → Int} {o ci k n : Nat} {K : Int → Option β} (hL : pc_L[o]? = some (ci + 3, n)) (hk : k < n) (hr : pc_r o k = 0) : gq_get (pc_h Z) o ci k K = K (Z o k) := by
  show ((pc_L[o]?).bind fun q => if q.1 = ci + 3 ∧ k < q.2 then K (pc_c Z o k) else none) = _
  rw [hL]
  refine (if_pos (c := ci + 3 = ci + 3 ∧ k < n) ⟨rfl, hk⟩).trans ?_
  unfold pc_c
  rw [if_neg (by omega)]
theorem pc_gr {β : Type} {Z : Nat → Nat → Int} {o ci k n t : Nat} {K : Nat → Option β} (hL : pc_L[o]? = some (ci + 3, n)) (hk : k < n) (hr : pc_r o k = t) (ht : t ≠ 0) : gq_gr (pc_h Z) o ci k K = K t := by
  have e : pc_c Z o k = (t : Int) := by unfold pc_c; rw [hr, if_pos ht]
  show ((pc_L[o]?).bind fun q => if q.1 = ci + 3 ∧ k < q.2 ∧ 0 ≤ pc_c Z o k then K (pc_c Z o k).toNat else none) = _
  rw [hL]
  refine (if_pos (c := ci + 3 = ci + 3 ∧ k < n ∧ 0 ≤ pc_c Z o k) ⟨rfl, hk, by rw [e]; omega⟩).trans ?_
  rw [e]
  rfl
theorem pc_up {Z : Nat → Nat → Int} {o i : Nat} {v : Int} (hr : pc_r o i = 0) : gx_up (pc_c Z) o i v = pc_c (gx_up Z o i v) := by
  funext o' j
  unfold gx_up gx_us gx_u1 pc_c
  by_cases e : o' = o
  · subst e
    by_cases e2 : j = i
    · subst e2; simp [hr]
    · simp [e2]
  · simp [e]
theorem pc_us {Z : Nat → Nat → Int} {o : Nat} {f : Nat → Int} (hr : ∀ j, pc_r o j = 0) : gx_us (pc_c Z) o f = pc_c (gx_us Z o f) := by
  funext o' j
  unfold gx_us pc_c
  by_cases e : o' = o
  · subst e; simp [hr]
  · simp [e]
theorem pc_put {β : Type} {Z : Nat → Nat → Int} {c : Prop} [Decidable c] {o ci k n : Nat} {v : Int} {K : gx_H → Option β} (hc : c) (hL : pc_L[o]? = some (ci + 3, n)) (hk : k < n) (hr : pc_r o k = 0) : gq_put c (pc_h Z) o ci k v K = K (pc_h (gx_up Z o k v)) := by
  show ((pc_L[o]?).bind fun q => if q.1 = ci + 3 ∧ k < q.2 ∧ c then K (pc_L, gx_up (pc_c Z) o k v) else none) = _
  rw [hL]
  refine (if_pos (c := ci + 3 = ci + 3 ∧ k < n ∧ c) ⟨rfl, hk, hc⟩).trans ?_
  rw [pc_up hr]
  rfl
theorem pc_ald {β : Type} {Z : Nat → Nat → Int} {o i n : Nat} {a : Int} {K : Int → Option β} (hL : pc_L[o]? = some (0, n)) (ha : a = (i : Int)) (hi : i < n) : gq_ald 0 (pc_h Z) o a K = K (Z o i) := by
  subst ha
  show ((pc_L[o]?).bind fun q => if q.1 = 0 ∧ 0 ≤ (i : Int) ∧ (i : Int) < (q.2 : Int) then K (pc_c Z o (i : Int).toNat) else none) = _
  rw [hL]
  refine (if_pos (c := 0 = 0 ∧ 0 ≤ (i : Int) ∧ (i : Int) < (n : Int)) ⟨rfl, by omega, by omega⟩).trans ?_
  unfold pc_c
  rw [if_neg (by rw [pc_r_arr (Or.inl rfl) hL]; simp)]
  rfl
theorem pc_zld {β : Type} {Z : Nat → Nat → Int} {o i n : Nat} {a : Int} {K : Int → Option β} (hL : pc_L[o]? = some (1, n)) (ha : a = (i : Int)) (hi : i < n) : gq_ald 1 (pc_h Z) o a K = K (Z o i) := by
  subst ha
  show ((pc_L[o]?).bind fun q => if q.1 = 1 ∧ 0 ≤ (i : Int) ∧ (i : Int) < (q.2 : Int) then K (pc_c Z o (i : Int).toNat) else none) = _
  rw [hL]
  refine (if_pos (c := 1 = 1 ∧ 0 ≤ (i : Int) ∧ (i : Int) < (n : Int)) ⟨rfl, by omega, by omega⟩).trans ?_
  unfold pc_c
  rw [if_neg (by rw [pc_r_arr (Or.inr rfl) hL]; simp)]
  rfl
theorem pc_ast {β : Type} {Z : Nat → Nat → Int} {c : Prop} [Decidable c] {t o i n : Nat} {a v : Int} {K : gx_H → Option β} (ht : t = 0 ∨ t = 1) (hc : c) (hL : pc_L[o]? = some (t, n)) (ha : a = (i : Int)) (hi : i < n) : gq_ast t c (pc_h Z) o a v K = K (pc_h (gx_up Z o i v)) := by
  subst ha
  show ((pc_L[o]?).bind fun q => if q.1 = t ∧ 0 ≤ (i : Int) ∧ (i : Int) < (q.2 : Int) ∧ c then K (pc_L, gx_up (pc_c Z) o (i : Int).toNat v) else none) = _
  rw [hL]
  refine (if_pos (c := t = t ∧ 0 ≤ (i : Int) ∧ (i : Int) < (n : Int) ∧ c) ⟨rfl, by omega, by omega, hc⟩).trans ?_
  rw [pc_up (pc_r_arr ht hL _)]
  rfl
theorem pc_rld {β : Type} {Z : Nat → Nat → Int} {o i n t : Nat} {a : Int} {K : Nat → Option β} (hL : pc_L[o]? = some (2, n)) (ha : a = (i : Int)) (hi : i < n) (hr : pc_r o i = t) (ht : t ≠ 0) : gq_rld (pc_h Z) o a K = K t := by
  subst ha
  have e : pc_c Z o (i : Int).toNat = (t : Int) := by unfold pc_c; rw [show (i : Int).toNat = i from rfl, hr, if_pos ht]
  show ((pc_L[o]?).bind fun q => if q.1 = 2 ∧ 0 ≤ (i : Int) ∧ (i : Int) < (q.2 : Int) ∧ 0 ≤ pc_c Z o (i : Int).toNat then K (pc_c Z o (i : Int).toNat).toNat else none) = _
  rw [hL]
  refine (if_pos (c := 2 = 2 ∧ 0 ≤ (i : Int) ∧ (i : Int) < (n : Int) ∧ 0 ≤ pc_c Z o (i : Int).toNat) ⟨rfl, by omega, by omega, by rw [e]; omega⟩).trans ?_
  rw [e]
  rfl
theorem pc_cv {β : Type} {Z : Nat → Nat → Int} {o ci n : Nat} {x : Option (Int × gx_H)} {K : Int → gx_H → Option β} (hL : pc_L[o]? = some (ci + 3, n)) : gq_cv (pc_h Z) o ci x K = gq_call x K := by
  show ((pc_L[o]?).bind fun q => if q.1 = ci + 3 then x.bind (fun y => K y.1 y.2) else none) = _
  rw [hL]
  exact if_pos (c := ci + 3 = ci + 3) rfl
theorem pc_copy {β : Type} {Z : Nat → Nat → Int} {s d n0 n1 m : Nat} {c : Int} {K : gx_H → Option β} (h0 : pc_L[s]? = some (0, n0)) (h1 : pc_L[d]? = some (0, n1)) (hc : c = (m : Int)) (hm : m ≤ n0) (hm1 : m ≤ n1) : gq_copy (pc_h Z) s 0 d 0 c K = K (pc_h (gx_us Z d (fun j => if j < m then Z s j else Z d j))) := by
  subst hc
  show ((pc_L[s]?).bind fun q0 => (pc_L[d]?).bind fun q1 => if q0.1 = 0 ∧ q1.1 = 0 ∧ (0 : Int) ≤ 0 ∧ (0 : Int) ≤ 0 ∧ 0 ≤ (m : Int) ∧ 0 + (m : Int) ≤ (q0.2 : Int) ∧ 0 + (m : Int) ≤ (q1.2 : Int) then K (pc_L, gx_us (pc_c Z) d (gx_cpy (pc_c Z s) (pc_c Z d) (0 : Int).toNat (0 : Int).toNat (m : Int).toNat)) else none) = _
  rw [h0, h1]
  refine (if_pos (c := 0 = 0 ∧ 0 = 0 ∧ (0 : Int) ≤ 0 ∧ (0 : Int) ≤ 0 ∧ 0 ≤ (m : Int) ∧ 0 + (m : Int) ≤ (n0 : Int) ∧ 0 + (m : Int) ≤ (n1 : Int)) ⟨rfl, rfl, by omega, by omega, by omega, by omega, by omega⟩).trans ?_
  have e : gx_cpy (pc_c Z s) (pc_c Z d) (0 : Int).toNat (0 : Int).toNat (m : Int).toNat = fun j => if j < m then Z s j else Z d j := by
    funext j
    show (if 0 ≤ j ∧ j < 0 + m then pc_c Z s (0 + (j - 0)) else pc_c Z d j) = _
    have es : ∀ q, pc_c Z s q = Z s q := fun q => by unfold pc_c; rw [if_neg (by rw [pc_r_arr (Or.inl rfl) h0]; simp)]
    have ed : ∀ q, pc_c Z d q = Z d q := fun q => by unfold pc_c; rw [if_neg (by rw [pc_r_arr (Or.inl rfl) h1]; simp)]
    rw [es, ed]
    by_cases hj : j < m
    · rw [if_pos (by omega), if_pos hj]; simp
    · rw [if_neg (by omega), if_neg hj]
  rw [e, pc_us (pc_r_arr (Or.inl rfl) h1)]
  rfl
