/-! rows: locals written, three-way compare, fields, arrays, returns -/
def gx_nl : Option (Option gx_V) → Bool
  | some (some (.inr (.inl _))) => false
  | _ => true
def gx_nk (l : List (Option gx_V)) (i : Nat) : Bool := match i with
  | 0 => true
  | i + 1 => gx_nl l[i]?
def gx_lo (ad : Nat → Nat) (l : List (Option gx_V)) : List (Nat × Value) := (List.range l.length).filterMap (fun i => (l.getD i none).map (fun v => (i, gx_v ad v)))
theorem gx_lo_in {ad : Nat → Nat} {l : List (Option gx_V)} {i : Nat} {v : gx_V} (h : l[i]? = some (some v)) : (i, gx_v ad v) ∈ gx_lo ad l := by
  refine List.mem_filterMap.mpr ⟨i, List.mem_range.mpr (List.getElem?_eq_some_iff.mp h).1, ?_⟩
  simp [h]
theorem gx_lo_has {ad : Nat → Nat} {ls : Array Slot} {nL : Nat} {l : List (Option gx_V)} (h : gx_has ad ls nL l) : lv_has ls nL (gx_lo ad l) := by
  refine ⟨h.1, h.2.1, fun q hq => ?_⟩
  obtain ⟨i, hi, he⟩ := List.mem_filterMap.mp hq
  have hil := List.mem_range.mp hi
  have h1 : l[i]? = some (l.getD i none) := by simp [hil]
  generalize l.getD i none = w at h1 he
  cases w with
  | none => cases he
  | some v => cases he; exact h.2.2 i v h1
theorem gx_cat {ad : Nat → Nat} {v : gx_V} (h : gx_nl (some (some v)) = true) : ((gx_v ad v).category == 2) = false := by
  match v with
  | .inl _ => rfl
  | .inr (.inl _) => cases h
  | .inr (.inr _) => rfl
theorem gx_nk_at {l : List (Option gx_V)} {i j : Nat} {v : gx_V} (hk : gx_nk l i = true) (hj : j + 1 = i) (h : l[j]? = some (some v)) (ad : Nat → Nat) : ((gx_v ad v).category == 2) = false := by
  subst hj
  have h1 : gx_nl l[j]? = true := hk
  rw [h] at h1
  exact gx_cat h1
theorem gx_st1 {ad : Nat → Nat} {ls' : Array Slot} {nL i : Nat} {l : List (Option gx_V)} {x : gx_V} (hk : gx_nk l i = true) (hi : i < l.length)
    (h : lv_has ls' nL ((i, gx_v ad x) :: (gx_lo ad l).filter (fun q => !(q.1 == i) && !(q.1 + 1 == i && q.2.category == 2)))) : gx_has ad ls' nL (l.set i (some x)) := by
  refine ⟨h.1, h.2.1, fun j v hj => ?_⟩
  by_cases e : j = i
  · subst e
    rw [List.getElem?_set_self hi] at hj
    cases hj
    exact h.2.2 _ List.mem_cons_self
  · rw [List.getElem?_set_ne (fun z => e z.symm)] at hj
    refine h.2.2 (j, gx_v ad v) (List.mem_cons_of_mem _ (List.mem_filter.mpr ⟨gx_lo_in hj, ?_⟩))
    have e1 : (j == i) = false := by simpa using e
    by_cases e2 : j + 1 = i
    · simp only [e1, gx_nk_at hk e2 hj ad]; simp
    · simp [e1, e2]
theorem gx_st2 {ad : Nat → Nat} {ls' : Array Slot} {nL i : Nat} {l : List (Option gx_V)} {x : gx_V} (hk : gx_nk l i = true) (hi : i + 1 < l.length)
    (h : lv_has ls' nL ((i, gx_v ad x) :: (gx_lo ad l).filter (fun q => !(q.1 == i) && (!(q.1 == i + 1) && !(q.1 + 1 == i && q.2.category == 2))))) : gx_has ad ls' nL ((l.set i (some x)).set (i + 1) none) := by
  refine ⟨h.1, h.2.1, fun j v hj => ?_⟩
  by_cases e0 : j = i + 1
  · subst e0
    rw [List.getElem?_set_self (by simpa using hi)] at hj
    cases hj
  · rw [List.getElem?_set_ne (fun z => e0 z.symm)] at hj
    by_cases e : j = i
    · subst e
      rw [List.getElem?_set_self (by omega)] at hj
      cases hj
      exact h.2.2 _ List.mem_cons_self
    · rw [List.getElem?_set_ne (fun z => e z.symm)] at hj
      refine h.2.2 (j, gx_v ad v) (List.mem_cons_of_mem _ (List.mem_filter.mpr ⟨gx_lo_in hj, ?_⟩))
      have e1 : (j == i) = false := by simpa using e
      have e3 : (j == i + 1) = false := by simpa using e0
      by_cases e2 : j + 1 = i
      · simp only [e1, e3, gx_nk_at hk e2 hj ad]; simp
      · simp [e1, e3, e2]
theorem gx_mem_set {l : List (Option gx_V)} {i : Nat} {x : gx_V} {n : Nat} (hl : ∀ v, some v ∈ l → gx_vl n v) (hx : gx_vl n x) : ∀ v, some v ∈ l.set i (some x) → gx_vl n v := fun v hv => by
  rcases List.mem_or_eq_of_mem_set hv with h | h
  · exact hl v h
  · cases h; exact hx
theorem gx_mem_set0 {l : List (Option gx_V)} {i : Nat} {n : Nat} (hl : ∀ v, some v ∈ l → gx_vl n v) : ∀ v, some v ∈ l.set i none → gx_vl n v := fun v hv => by
  rcases List.mem_or_eq_of_mem_set hv with h | h
  · exact hl v h
  · cases h
section GXT
variable {M : gx_M} {u : Nat × Nat} {pc : Nat} {l : List (Option gx_V)} {st : List gx_V} {h : gx_H} {res : Option (Int × gx_H)}
theorem gx_istore_n {l' : List (Option gx_V)} {i : Fin 4} {a : Int} (hd : decode M.2.1 pc = .ok (.istore_n i, 1)) (hk : gx_nk l i = true) (hi : (i : Nat) < l.length) (hn : (i : Nat) < M.2.2.1) (hl' : l.set i (some (gx_I a)) = l') (k : gx_Y M u (pc + 1) l' st h res) : gx_Y M u pc l (gx_I a :: st) h res := by
  subst hl'
  intro r h' hr p la e s m args below meth c D cA ad0 n0 A ad ls H locs E B hs hl hh
  exact lv_istore_n E.1 E.2.1 hd rfl (gx_lo_has hh) hn rfl (fun ls' hl' => k r h' hr p la e s m args below meth c D cA ad0 n0 A ad ls' H locs E B (gx_t1 hs) (gx_mem_set hl trivial) (gx_st1 hk hi hl'))
theorem gx_istore {l' : List (Option gx_V)} {i : Nat} {a : Int} (hd : decode M.2.1 pc = .ok (.istore i, 2)) (hk : gx_nk l i = true) (hi : i < l.length) (hn : i < M.2.2.1) (hl' : l.set i (some (gx_I a)) = l') (k : gx_Y M u (pc + 2) l' st h res) : gx_Y M u pc l (gx_I a :: st) h res := by
  subst hl'
  intro r h' hr p la e s m args below meth c D cA ad0 n0 A ad ls H locs E B hs hl hh
  exact lv_istore E.1 E.2.1 hd (gx_lo_has hh) hn rfl (fun ls' hl' => k r h' hr p la e s m args below meth c D cA ad0 n0 A ad ls' H locs E B (gx_t1 hs) (gx_mem_set hl trivial) (gx_st1 hk hi hl'))
theorem gx_astore_n {l' : List (Option gx_V)} {i : Fin 4} {o : Nat} (hd : decode M.2.1 pc = .ok (.astore_n i, 1)) (hk : gx_nk l i = true) (hi : (i : Nat) < l.length) (hn : (i : Nat) < M.2.2.1) (hl' : l.set i (some (gx_R o)) = l') (k : gx_Y M u (pc + 1) l' st h res) : gx_Y M u pc l (gx_R o :: st) h res := by
  subst hl'
  intro r h' hr p la e s m args below meth c D cA ad0 n0 A ad ls H locs E B hs hl hh
  exact lv_astore_n E.1 E.2.1 hd rfl (gx_lo_has hh) hn rfl (fun ls' hl' => k r h' hr p la e s m args below meth c D cA ad0 n0 A ad ls' H locs E B (gx_t1 hs) (gx_mem_set hl (List.forall_mem_cons.mp hs).1) (gx_st1 hk hi hl'))
theorem gx_astore {l' : List (Option gx_V)} {i : Nat} {o : Nat} (hd : decode M.2.1 pc = .ok (.astore i, 2)) (hk : gx_nk l i = true) (hi : i < l.length) (hn : i < M.2.2.1) (hl' : l.set i (some (gx_R o)) = l') (k : gx_Y M u (pc + 2) l' st h res) : gx_Y M u pc l (gx_R o :: st) h res := by
  subst hl'
  intro r h' hr p la e s m args below meth c D cA ad0 n0 A ad ls H locs E B hs hl hh
  exact lv_astore E.1 E.2.1 hd (gx_lo_has hh) hn rfl (fun ls' hl' => k r h' hr p la e s m args below meth c D cA ad0 n0 A ad ls' H locs E B (gx_t1 hs) (gx_mem_set hl (List.forall_mem_cons.mp hs).1) (gx_st1 hk hi hl'))
theorem gx_lstore_n {l' : List (Option gx_V)} {i : Fin 4} {a : Int} (hd : decode M.2.1 pc = .ok (.lstore_n i, 1)) (hk : gx_nk l i = true) (hi : (i : Nat) + 1 < l.length) (hn : (i : Nat) + 1 < M.2.2.1) (hl' : (l.set i (some (gx_L a))).set ((i : Nat) + 1) none = l') (k : gx_Y M u (pc + 1) l' st h res) : gx_Y M u pc l (gx_L a :: st) h res := by
  subst hl'
  intro r h' hr p la e s m args below meth c D cA ad0 n0 A ad ls H locs E B hs hl hh
  exact lv_lstore_n E.1 E.2.1 hd rfl (gx_lo_has hh) hn rfl (fun ls' hl' => k r h' hr p la e s m args below meth c D cA ad0 n0 A ad ls' H locs E B (gx_t1 hs) (gx_mem_set0 (gx_mem_set hl trivial)) (gx_st2 hk hi hl'))
theorem gx_lstore {l' : List (Option gx_V)} {i : Nat} {a : Int} (hd : decode M.2.1 pc = .ok (.lstore i, 2)) (hk : gx_nk l i = true) (hi : i + 1 < l.length) (hn : i + 1 < M.2.2.1) (hl' : (l.set i (some (gx_L a))).set (i + 1) none = l') (k : gx_Y M u (pc + 2) l' st h res) : gx_Y M u pc l (gx_L a :: st) h res := by
  subst hl'
  intro r h' hr p la e s m args below meth c D cA ad0 n0 A ad ls H locs E B hs hl hh
  exact lv_lstore E.1 E.2.1 hd (gx_lo_has hh) hn rfl (fun ls' hl' => k r h' hr p la e s m args below meth c D cA ad0 n0 A ad ls' H locs E B (gx_t1 hs) (gx_mem_set0 (gx_mem_set hl trivial)) (gx_st2 hk hi hl'))
theorem gx_iinc {l' : List (Option gx_V)} {i : Nat} {n a : Int} (hd : decode M.2.1 pc = .ok (.iinc i n, 3)) (hla : l[i]? = some (some (gx_I a))) (hk : gx_nk l i = true) (hi : i < l.length) (hn : i < M.2.2.1) (hl' : l.set i (some (gx_I (a + n))) = l') (k : gx_Y M u (pc + 3) l' st h res) : gx_Y M u pc l st h res := by
  subst hl'
  intro r h' hr p la e s m args below meth c D cA ad0 n0 A ad ls H locs E B hs hl hh
  obtain ⟨j, hj⟩ := List.getElem?_of_mem (gx_lo_in (ad := ad) hla)
  exact lv_iinc E.1 E.2.1 hd (gx_lo_has hh) hj (Int32.ofInt_add a n).symm hn rfl (fun ls' hl' => k r h' hr p la e s m args below meth c D cA ad0 n0 A ad ls' H locs E B hs (gx_mem_set hl trivial) (gx_st1 hk hi hl'))
theorem gx_lcmp {a b : Int} (ha : gx_l a) (hb : gx_l b) (hd : decode M.2.1 pc = .ok (.lcmp, 1)) (k : gx_Y M u (pc + 1) l (gx_I (gq_cmp a b) :: st) h res) : gx_Y M u pc l (gx_L b :: gx_L a :: st) h res :=
  gx_pure k (fun _ hs _ => gx_c2 hs trivial) (fun _ _ _ _ _ _ _ _ _ _ _ _ _ _ E _ w => W.lcmp E.1 E.2.1 hd (by
    have e : lg_cmp (Int64.ofInt a) (Int64.ofInt b) = Int32.ofInt (gq_cmp a b) := by
      unfold lg_cmp gq_cmp
      by_cases h1 : a < b
      · rw [if_pos h1, if_neg (fun z => by have := (gx_ltL hb ha).mp z; omega), if_neg (fun z => by have := (gx_eL ha hb).mp z; omega)]; rfl
      · by_cases h2 : a = b
        · subst h2
          simp
        · rw [if_neg h1, if_neg h2, if_pos ((gx_ltL hb ha).mpr (by omega))]; rfl
    rw [e]; exact w))
end GXT
theorem gx_ok_us {h : gx_H} {o : Nat} {q : gx_K} {f : Nat → Int} (hok : gx_ok h) (hq : h.1[o]? = some q) (hf : ∀ j, j < q.2 → gx_sl h.1.length (gx_ty q j) (f j)) : gx_ok (h.1, gx_us h.2 o f) := by
  intro o' k hk
  refine ⟨(hok o' k hk).1, fun j hj => ?_⟩
  by_cases e : o' = o
  · subst e
    have e2 : k = q := Option.some.inj (hk.symm.trans hq)
    subst e2
    simp only [gx_us, if_pos]
    exact hf j hj
  · simp only [gx_us, if_neg e]
    exact (hok o' k hk).2 j hj
theorem gx_ok_up {h : gx_H} {o i : Nat} {q : gx_K} {v : Int} (hok : gx_ok h) (hq : h.1[o]? = some q) (hv : gx_sl h.1.length (gx_ty q i) v) : gx_ok (h.1, gx_up h.2 o i v) := by
  refine gx_ok_us hok hq (fun j hj => ?_)
  by_cases e : j = i
  · subst e; simp only [gx_u1, if_pos]; exact hv
  · simp only [gx_u1, if_neg e]; exact (hok o q hq).2 j hj
theorem gx_fs_at {ad : Nat → Nat} {ci n k : Nat} {f : Nat → Int} (hk : k < n) : (gx_fs ad ci n f)[k]? = some (gx_f ad (gx_fty ci k) (f k)) := by
  simp [gx_fs, List.getElem?_range hk]
theorem gx_fs_set {ad : Nat → Nat} {ci n k : Nat} {f : Nat → Int} {v : Int} : (gx_fs ad ci n f).set k (gx_f ad (gx_fty ci k) v) = gx_fs ad ci n (gx_u1 f k v) := by
  apply List.ext_getElem?
  intro j
  by_cases hj : j < n
  · rw [gx_fs_at hj]
    by_cases e : j = k
    · subst e
      rw [List.getElem?_set_self (by simpa [gx_fs] using hj)]
      simp [gx_u1]
    · rw [List.getElem?_set_ne (fun z => e z.symm), gx_fs_at hj]
      simp [gx_u1, e]
  · rw [List.getElem?_eq_none (by simp [gx_fs]; omega), List.getElem?_eq_none (by simp [gx_fs]; omega)]
/-! the combinators of the pure texts -/
def gq_get {β : Type} (h : gx_H) (o ci k : Nat) (K : Int → Option β) : Option β := (h.1[o]?).bind (fun q => if q.1 = ci + 3 ∧ k < q.2 then K (h.2 o k) else none)
def gq_gr {β : Type} (h : gx_H) (o ci k : Nat) (K : Nat → Option β) : Option β := (h.1[o]?).bind (fun q => if q.1 = ci + 3 ∧ k < q.2 ∧ 0 ≤ h.2 o k then K (h.2 o k).toNat else none)
def gq_put {β : Type} (c : Prop) [Decidable c] (h : gx_H) (o ci k : Nat) (v : Int) (K : gx_H → Option β) : Option β := (h.1[o]?).bind (fun q => if q.1 = ci + 3 ∧ k < q.2 ∧ c then K (h.1, gx_up h.2 o k v) else none)
def gq_ald {β : Type} (t : Nat) (h : gx_H) (o : Nat) (i : Int) (K : Int → Option β) : Option β := (h.1[o]?).bind (fun q => if q.1 = t ∧ 0 ≤ i ∧ i < (q.2 : Int) then K (h.2 o i.toNat) else none)
def gq_rld {β : Type} (h : gx_H) (o : Nat) (i : Int) (K : Nat → Option β) : Option β := (h.1[o]?).bind (fun q => if q.1 = 2 ∧ 0 ≤ i ∧ i < (q.2 : Int) ∧ 0 ≤ h.2 o i.toNat then K (h.2 o i.toNat).toNat else none)
def gq_ast {β : Type} (t : Nat) (c : Prop) [Decidable c] (h : gx_H) (o : Nat) (i v : Int) (K : gx_H → Option β) : Option β := (h.1[o]?).bind (fun q => if q.1 = t ∧ 0 ≤ i ∧ i < (q.2 : Int) ∧ c then K (h.1, gx_up h.2 o i.toNat v) else none)
theorem gq_m {β γ : Type} {x : Option γ} {f : γ → Option β} {r : β} (h : x.bind f = some r) : ∃ q, x = some q ∧ f q = some r := by
  cases x with
  | none => cases h
  | some q => exact ⟨q, rfl, h⟩
theorem gq_i {β : Type} {c : Prop} [Decidable c] {A : Option β} {r : β} (h : (if c then A else none) = some r) : c ∧ A = some r := by
  by_cases hc : c
  · rw [if_pos hc] at h; exact ⟨hc, h⟩
  · rw [if_neg hc] at h; cases h
theorem gx_in {i : Int} {n : Nat} (h0 : 0 ≤ i) (h1 : i < (n : Int)) (hn : n ≤ 2147483647) : vp_in (Int32.ofInt i) n ∧ (Int32.ofInt i).toNatClampNeg = i.toNat := by
  refine ⟨vp_in_iff.mpr ?_, Int32.toNatClampNeg_ofInt_of_le (by omega) (by omega)⟩
  rw [Int32.toInt_ofInt_of_le (by omega) (by omega)]
  exact ⟨h0, h1⟩
section GXH
variable {M : gx_M} {u : Nat × Nat} {pc : Nat} {l : List (Option gx_V)} {st : List gx_V} {h : gx_H} {res : Option (Int × gx_H)} {ci k ix o : Nat} {C : String} {T : u_T} {N : Nat} {ty : Nat → FieldType}
theorem gx_getg {n : Nat} {w : gx_V} (hq : h.1[o]? = some (ci + 3, n)) (hkn : k < n) (hN : k < N) (g : gx_CL ci C T N ty) (hl : Cond.fieldLink M.1.cls ix C (T k).2.1 (T k).2.2.1 ∈ lw_tbl) (hd : decode M.2.1 pc = .ok (.getfield ix, 3))
    (hw : ∀ ad, gx_f ad (gx_fty ci k) (h.2 o k) = gx_v ad w) (hv : gx_ok h → gx_vl h.1.length w) (kk : gx_Y M u (pc + 3) l (w :: st) h res) : gx_Y M u pc l (gx_R o :: st) h res := by
  intro r h' hr p la e s m args below meth c D cA ad0 n0 A ad ls H locs E B hs hlo hh
  have hat : (gx_W cA ad h)[o]? = some (ad o, .inr (ci, gx_fs ad ci n (h.2 o))) := gx_W_at hq
  refine va_get E.1 E.2.1 E.2.2.2.2.1 g.2.1 E.2.2.2.1 B.1.1 B.2.2.2.2.1 o hat g.1 k hN (E.2.2.2.2.1 _ (gx_gd hl rfl)) (fun _ z => by rw [g.2.2.2.2.2 k hN] at z; exact z) (gx_fs_at hkn) hd ?_
  rw [hw ad]
  exact kk r h' hr p la e s m args below meth c D cA ad0 n0 A ad ls H locs E B (gx_c1 hs (hv B.2.2.2.1)) hlo hh
theorem gx_get {K : Int → Option (Int × gx_H)} (g : gx_CL ci C T N ty) (hN : k < N) (hl : Cond.fieldLink M.1.cls ix C (T k).2.1 (T k).2.2.1 ∈ lw_tbl) (ht : gx_fty ci k = 0 ∨ gx_fty ci k = 1) (hd : decode M.2.1 pc = .ok (.getfield ix, 3)) (kk : gx_Y M u (pc + 3) l (gx_I (h.2 o k) :: st) h (K (h.2 o k))) : gx_Y M u pc l (gx_R o :: st) h (gq_get h o ci k K) := by
  intro r h' hr
  obtain ⟨⟨t, n⟩, hq, hr1⟩ := gq_m hr
  obtain ⟨⟨rfl, hkn⟩, hr2⟩ := gq_i hr1
  exact gx_getg (w := gx_I (h.2 o k)) hq hkn hN g hl hd (fun ad => by rcases ht with e | e <;> rw [e] <;> rfl) (fun _ => trivial) kk r h' hr2
theorem gx_getl {K : Int → Option (Int × gx_H)} (g : gx_CL ci C T N ty) (hN : k < N) (hl : Cond.fieldLink M.1.cls ix C (T k).2.1 (T k).2.2.1 ∈ lw_tbl) (ht : gx_fty ci k = 2) (hd : decode M.2.1 pc = .ok (.getfield ix, 3)) (kk : gx_Y M u (pc + 3) l (gx_L (h.2 o k) :: st) h (K (h.2 o k))) : gx_Y M u pc l (gx_R o :: st) h (gq_get h o ci k K) := by
  intro r h' hr
  obtain ⟨⟨t, n⟩, hq, hr1⟩ := gq_m hr
  obtain ⟨⟨rfl, hkn⟩, hr2⟩ := gq_i hr1
  exact gx_getg (w := gx_L (h.2 o k)) hq hkn hN g hl hd (fun ad => by rw [ht]; rfl) (fun _ => trivial) kk r h' hr2
theorem gx_getr {K : Nat → Option (Int × gx_H)} (g : gx_CL ci C T N ty) (hN : k < N) (hl : Cond.fieldLink M.1.cls ix C (T k).2.1 (T k).2.2.1 ∈ lw_tbl) (ht : gx_fty ci k = 3) (hd : decode M.2.1 pc = .ok (.getfield ix, 3)) (kk : gx_Y M u (pc + 3) l (gx_R (h.2 o k).toNat :: st) h (K (h.2 o k).toNat)) : gx_Y M u pc l (gx_R o :: st) h (gq_gr h o ci k K) := by
  intro r h' hr
  obtain ⟨⟨t, n⟩, hq, hr1⟩ := gq_m hr
  obtain ⟨⟨rfl, hkn, h0⟩, hr2⟩ := gq_i hr1
  refine gx_getg (w := gx_R (h.2 o k).toNat) hq hkn hN g hl hd (fun ad => ?_) (fun hok => ?_) kk r h' hr2
  · rw [ht]
    show (if h.2 o k < 0 then Value.null else .ref (ad (h.2 o k).toNat)) = _
    rw [if_neg (by omega)]; rfl
  · have h1 := (hok o _ hq).2 k hkn
    have e : gx_ty (ci + 3, n) k = 3 := ht
    rw [e] at h1
    have h2 : h.2 o k < (h.1.length : Int) := h1
    show (h.2 o k).toNat < h.1.length
    omega
theorem gx_fit {ty : FieldType} {t n : Nat} {v : Int} {ad : Nat → Nat} (h : gx_tyok t ty) (hs : gx_sl n t v) : narrow ty (gx_f ad t v) = gx_f ad t v ∧ fits ty (gx_f ad t v) = true := by
  match t with
  | 0 => cases h; exact ⟨rfl, rfl⟩
  | 1 =>
    cases h
    rcases hs with e | e <;> subst e <;> exact ⟨by rfl, by rfl⟩
  | 2 => cases h; exact ⟨rfl, rfl⟩
  | t + 3 =>
    show narrow ty (if v < 0 then Value.null else .ref (ad v.toNat)) = (if v < 0 then Value.null else .ref (ad v.toNat)) ∧ fits ty (if v < 0 then Value.null else .ref (ad v.toNat)) = true
    rcases h with ⟨_, rfl⟩ | ⟨_, rfl⟩ <;> split <;> exact ⟨rfl, rfl⟩
theorem gx_putg {n : Nat} {w : gx_V} {v : Int} (hq : h.1[o]? = some (ci + 3, n)) (hkn : k < n) (hN : k < N) (g : gx_CL ci C T N ty) (hl : Cond.fieldLink M.1.cls ix C (T k).2.1 (T k).2.2.1 ∈ lw_tbl) (hf : (T k).2.2.2 = false) (hd : decode M.2.1 pc = .ok (.putfield ix, 3))
    (hw : ∀ ad, gx_v ad w = gx_f ad (gx_fty ci k) v) (hv : gx_vl h.1.length w → gx_sl h.1.length (gx_fty ci k) v) (kk : gx_Y M u (pc + 3) l st (h.1, gx_up h.2 o k v) res) : gx_Y M u pc l (w :: gx_R o :: st) h res := by
  intro r h' hr p la e s m args below meth c D cA ad0 n0 A ad ls H locs E B hs hlo hh
  have hat : (gx_W cA ad h)[o]? = some (ad o, .inr (ci, gx_fs ad ci n (h.2 o))) := gx_W_at hq
  have hsl := hv (List.forall_mem_cons.mp hs).1
  have hfit := gx_fit (ad := ad) (g.2.2.2.2.1 k hN) hsl
  show W _ _ _ _ _ _ _ _ _ _ _ _ _ _ _ (F0 m pc ls (gx_v ad w :: .ref (ad o) :: st.map (gx_v ad)))
  rw [hw ad]
  refine va_put E.1 E.2.1 E.2.2.2.2.1 g.2.1 ty g.2.2.1 g.2.2.2.1 E.2.2.2.1 B.1.1 B.2.2.2.2.1 B.2.2.2.2.2.1 B.2.2.2.2.2.2 o hat g.1 k hN (E.2.2.2.2.1 _ (gx_gd hl rfl)) (fun _ z => by rw [g.2.2.2.2.2 k hN] at z; exact z) hf (g.2.2.1 k hN) hfit.1 hfit.2 (by simpa [gx_fs] using hkn) hd (fun H1 locs1 hP hD hS => ?_)
  rw [gx_fs_set] at hP hD
  have e2 := gx_W_set (cA := cA) (ad := ad) hq (gx_u1 (h.2 o) k v)
  have hP1 : va_P D gx_cls (gx_W cA ad (h.1, gx_up h.2 o k v)) H1 := by rw [gx_up, ← e2]; exact hP
  have hD1 : va_D A (gx_W cA ad (h.1, gx_up h.2 o k v)) := by rw [gx_up, ← e2]; exact hD
  exact kk r h' hr p la e s m args below meth c D cA ad0 n0 A ad ls H1 locs1 E ⟨B.1, B.2.1, B.2.2.1, gx_ok_up B.2.2.2.1 hq hsl, hP1, hD1, hS⟩ (gx_t2 hs) hlo hh
theorem gx_putF {n : Nat} {w : gx_V} {v : Int} (hq : h.1[o]? = some (ci + 3, n)) (hkn : k < n) (hN : k < N) (g : gx_CL ci C T N ty) (hl : Cond.fieldLink M.1.cls ix C (T k).2.1 (T k).2.2.1 ∈ lw_tbl) (hf : (T k).2.2.2 = true) (hnm : M.1.name = "<init>") (hC : M.1.cls = C) (hd : decode M.2.1 pc = .ok (.putfield ix, 3))
    (hw : ∀ ad, gx_v ad w = gx_f ad (gx_fty ci k) v) (hv : gx_vl h.1.length w → gx_sl h.1.length (gx_fty ci k) v) (kk : gx_Y M u (pc + 3) l st (h.1, gx_up h.2 o k v) res) : gx_Y M u pc l (w :: gx_R o :: st) h res := by
  intro r h' hr p la e s m args below meth c D cA ad0 n0 A ad ls H locs E B hs hlo hh
  have hat : (gx_W cA ad h)[o]? = some (ad o, .inr (ci, gx_fs ad ci n (h.2 o))) := gx_W_at hq
  have hsl := hv (List.forall_mem_cons.mp hs).1
  have hfit := gx_fit (ad := ad) (g.2.2.2.2.1 k hN) hsl
  show W _ _ _ _ _ _ _ _ _ _ _ _ _ _ _ (F0 m pc ls (gx_v ad w :: .ref (ad o) :: st.map (gx_v ad)))
  rw [hw ad]
  refine va_putF E.1 E.2.1 E.2.2.2.2.1 g.2.1 ty g.2.2.1 g.2.2.2.1 E.2.2.2.1 B.1.1 B.2.2.2.2.1 B.2.2.2.2.2.1 B.2.2.2.2.2.2 o hat g.1 k hN (E.2.2.2.2.1 _ (gx_gd hl rfl)) (fun _ z => by rw [g.2.2.2.2.2 k hN] at z; exact z) hf (E.2.2.2.2.2.2.2.trans hnm) ((g.2.2.2.2.2 k hN).trans hC.symm) (g.2.2.1 k hN) hfit.1 hfit.2 (by simpa [gx_fs] using hkn) hd (fun H1 locs1 hP hD hS => ?_)
  rw [gx_fs_set] at hP hD
  have e2 := gx_W_set (cA := cA) (ad := ad) hq (gx_u1 (h.2 o) k v)
  have hP1 : va_P D gx_cls (gx_W cA ad (h.1, gx_up h.2 o k v)) H1 := by rw [gx_up, ← e2]; exact hP
  have hD1 : va_D A (gx_W cA ad (h.1, gx_up h.2 o k v)) := by rw [gx_up, ← e2]; exact hD
  exact kk r h' hr p la e s m args below meth c D cA ad0 n0 A ad ls H1 locs1 E ⟨B.1, B.2.1, B.2.2.1, gx_ok_up B.2.2.2.1 hq hsl, hP1, hD1, hS⟩ (gx_t2 hs) hlo hh
theorem gx_puti {a : Int} {K : gx_H → Option (Int × gx_H)} (g : gx_CL ci C T N ty) (hN : k < N) (hl : Cond.fieldLink M.1.cls ix C (T k).2.1 (T k).2.2.1 ∈ lw_tbl) (hf : (T k).2.2.2 = false) (ht : gx_fty ci k = 0) (hd : decode M.2.1 pc = .ok (.putfield ix, 3)) (kk : gx_Y M u (pc + 3) l st (h.1, gx_up h.2 o k a) (K (h.1, gx_up h.2 o k a))) : gx_Y M u pc l (gx_I a :: gx_R o :: st) h (gq_put (gx_i a) h o ci k a K) := by
  intro r h' hr
  obtain ⟨⟨t, n⟩, hq, hr1⟩ := gq_m hr
  obtain ⟨⟨rfl, hkn, hc⟩, hr2⟩ := gq_i hr1
  exact gx_putg (v := a) hq hkn hN g hl hf hd (fun ad => by rw [ht]; rfl) (fun _ => by rw [ht]; exact hc) kk r h' hr2
theorem gx_putz {a : Int} {K : gx_H → Option (Int × gx_H)} (g : gx_CL ci C T N ty) (hN : k < N) (hl : Cond.fieldLink M.1.cls ix C (T k).2.1 (T k).2.2.1 ∈ lw_tbl) (hf : (T k).2.2.2 = false) (ht : gx_fty ci k = 1) (hd : decode M.2.1 pc = .ok (.putfield ix, 3)) (kk : gx_Y M u (pc + 3) l st (h.1, gx_up h.2 o k a) (K (h.1, gx_up h.2 o k a))) : gx_Y M u pc l (gx_I a :: gx_R o :: st) h (gq_put (a = 0 ∨ a = 1) h o ci k a K) := by
  intro r h' hr
  obtain ⟨⟨t, n⟩, hq, hr1⟩ := gq_m hr
  obtain ⟨⟨rfl, hkn, hc⟩, hr2⟩ := gq_i hr1
  exact gx_putg (v := a) hq hkn hN g hl hf hd (fun ad => by rw [ht]; rfl) (fun _ => by rw [ht]; exact hc) kk r h' hr2
theorem gx_putl {a : Int} {K : gx_H → Option (Int × gx_H)} (g : gx_CL ci C T N ty) (hN : k < N) (hl : Cond.fieldLink M.1.cls ix C (T k).2.1 (T k).2.2.1 ∈ lw_tbl) (hf : (T k).2.2.2 = false) (ht : gx_fty ci k = 2) (hd : decode M.2.1 pc = .ok (.putfield ix, 3)) (kk : gx_Y M u (pc + 3) l st (h.1, gx_up h.2 o k a) (K (h.1, gx_up h.2 o k a))) : gx_Y M u pc l (gx_L a :: gx_R o :: st) h (gq_put (gx_l a) h o ci k a K) := by
  intro r h' hr
  obtain ⟨⟨t, n⟩, hq, hr1⟩ := gq_m hr
  obtain ⟨⟨rfl, hkn, hc⟩, hr2⟩ := gq_i hr1
  exact gx_putg (v := a) hq hkn hN g hl hf hd (fun ad => by rw [ht]; rfl) (fun _ => by rw [ht]; exact hc) kk r h' hr2
theorem gx_fref {ad : Nat → Nat} {o : Nat} : gx_v ad (gx_R o) = gx_f ad 3 (o : Int) := by
  show Value.ref (ad o) = if (o : Int) < 0 then Value.null else .ref (ad (o : Int).toNat)
  rw [if_neg (by omega)]; rfl
theorem gx_putr {b : Nat} {K : gx_H → Option (Int × gx_H)} (g : gx_CL ci C T N ty) (hN : k < N) (hl : Cond.fieldLink M.1.cls ix C (T k).2.1 (T k).2.2.1 ∈ lw_tbl) (hf : (T k).2.2.2 = false) (ht : gx_fty ci k = 3) (hd : decode M.2.1 pc = .ok (.putfield ix, 3)) (kk : gx_Y M u (pc + 3) l st (h.1, gx_up h.2 o k (b : Int)) (K (h.1, gx_up h.2 o k (b : Int)))) : gx_Y M u pc l (gx_R b :: gx_R o :: st) h (gq_put True h o ci k (b : Int) K) := by
  intro r h' hr
  obtain ⟨⟨t, n⟩, hq, hr1⟩ := gq_m hr
  obtain ⟨⟨rfl, hkn, -⟩, hr2⟩ := gq_i hr1
  exact gx_putg (v := (b : Int)) hq hkn hN g hl hf hd (fun ad => by rw [ht]; exact gx_fref) (fun hb => by rw [ht]; show (b : Int) < _; have : b < h.1.length := hb; omega) kk r h' hr2
end GXH
