/-! THE ABSTRACT MACHINE. Values: int, long, a cell's number. A heap: kinds of cells (tag, length), and what each slot holds. Tags: 0 int[], 1 boolean[], 2 State[], 3 + ci an object of class ci. -/
abbrev gx_V : Type := Int ⊕ Int ⊕ Nat
abbrev gx_I (a : Int) : gx_V := Sum.inl a
abbrev gx_L (a : Int) : gx_V := Sum.inr (Sum.inl a)
abbrev gx_R (o : Nat) : gx_V := Sum.inr (Sum.inr o)
def gx_v (ad : Nat → Nat) (v : gx_V) : Value := match v with
  | .inl a => .int (Int32.ofInt a)
  | .inr (.inl a) => .long (Int64.ofInt a)
  | .inr (.inr o) => .ref (ad o)
abbrev gx_K : Type := Nat × Nat
abbrev gx_H : Type := List gx_K × (Nat → Nat → Int)
abbrev gx_i (v : Int) : Prop := -2147483648 ≤ v ∧ v ≤ 2147483647
abbrev gx_l (v : Int) : Prop := -9223372036854775808 ≤ v ∧ v ≤ 9223372036854775807
def gx_sl (n t : Nat) (v : Int) : Prop := match t with
  | 0 => gx_i v
  | 1 => v = 0 ∨ v = 1
  | 2 => gx_l v
  | _ => v < (n : Int)
def gx_ty (k : gx_K) (j : Nat) : Nat := match k.1 with
  | 0 => 0
  | 1 => 1
  | 2 => 3
  | t + 3 => gx_fty t j
def gx_ok (h : gx_H) : Prop := ∀ (o : Nat) (k : gx_K), h.1[o]? = some k → k.2 ≤ 2147483647 ∧ ∀ j, j < k.2 → gx_sl h.1.length (gx_ty k j) (h.2 o j)
def gx_f (ad : Nat → Nat) (t : Nat) (v : Int) : Value := match t with
  | 0 => .int (Int32.ofInt v)
  | 1 => .int (Int32.ofInt v)
  | 2 => .long (Int64.ofInt v)
  | _ => if v < 0 then .null else .ref (ad v.toNat)
def gx_fs (ad : Nat → Nat) (ci n : Nat) (f : Nat → Int) : List Value := (List.range n).map (fun j => gx_f ad (gx_fty ci j) (f j))
def gx_rf (ad : Nat → Nat) (n : Nat) (f : Nat → Int) : Nat → Option Nat := fun j => if j < n then (if f j < 0 then none else some (ad (f j).toNat)) else none
def gx_c (cA : Nat → ClassId) (ad : Nat → Nat) (k : gx_K) (f : Nat → Int) : va_E := match k.1 with
  | 0 => .inl (cA 0, k.2, .inl (fun j => Int32.ofInt (f j)))
  | 1 => .inl (cA 1, k.2, .inl (fun j => Int32.ofInt (f j)))
  | 2 => .inl (cA 2, k.2, .inr (.inr (.inr (.inr (gx_rf ad k.2 f)))))
  | t + 3 => .inr (t, gx_fs ad t k.2 f)
def gx_W (cA : Nat → ClassId) (ad : Nat → Nat) (h : gx_H) : va_W := (List.range h.1.length).map (fun o => (ad o, gx_c cA ad (h.1.getD o (0, 0)) (h.2 o)))
def gx_us (c : Nat → Nat → Int) (o : Nat) (f : Nat → Int) : Nat → Nat → Int := fun o' => if o' = o then f else c o'
def gx_u1 (f : Nat → Int) (i : Nat) (v : Int) : Nat → Int := fun j => if j = i then v else f j
def gx_up (c : Nat → Nat → Int) (o i : Nat) (v : Int) : Nat → Nat → Int := gx_us c o (gx_u1 (c o) i v)
theorem gx_lt {h : gx_H} {o : Nat} {k : gx_K} (hk : h.1[o]? = some k) : o < h.1.length := (List.getElem?_eq_some_iff.mp hk).1
theorem gx_W_at {cA : Nat → ClassId} {ad : Nat → Nat} {h : gx_H} {o : Nat} {k : gx_K} (hk : h.1[o]? = some k) : (gx_W cA ad h)[o]? = some (ad o, gx_c cA ad k (h.2 o)) := by
  unfold gx_W
  rw [List.getElem?_map, List.getElem?_range (gx_lt hk)]
  simp [hk]
theorem gx_W_set {cA : Nat → ClassId} {ad : Nat → Nat} {h : gx_H} {o : Nat} {k : gx_K} (hk : h.1[o]? = some k) (f : Nat → Int) : (gx_W cA ad h).set o (ad o, gx_c cA ad k f) = gx_W cA ad (h.1, gx_us h.2 o f) := by
  apply List.ext_getElem?
  intro i
  have hl := gx_lt hk
  by_cases hi : i = o
  · subst hi
    rw [gx_W_at (h := (h.1, gx_us h.2 i f)) hk]
    rw [List.getElem?_set_self (by simp [gx_W]; exact hl)]
    simp [gx_us]
  · rw [List.getElem?_set_ne (fun e => hi e.symm)]
    simp only [gx_W, List.getElem?_map, gx_us, if_neg hi]
    by_cases hil : i < h.1.length
    · rw [List.getElem?_range hil]
      simp [if_neg hi]
    · rw [List.getElem?_eq_none (by simpa using hil)]
      rfl
def gx_ad (ad : Nat → Nat) (n q : Nat) : Nat → Nat := fun o => if o = n then q else ad o
theorem gx_f_ad {ad : Nat → Nat} {n q t : Nat} {v : Int} (h : t < 3 ∨ v < (n : Int)) : gx_f (gx_ad ad n q) t v = gx_f ad t v := by
  match t with
  | 0 => rfl
  | 1 => rfl
  | 2 => rfl
  | t + 3 =>
    have hv : v < (n : Int) := h.elim (fun z => absurd z (by omega)) id
    show (if v < 0 then Value.null else .ref (gx_ad ad n q v.toNat)) = if v < 0 then Value.null else .ref (ad v.toNat)
    by_cases h0 : v < 0
    · rw [if_pos h0, if_pos h0]
    · rw [if_neg h0, if_neg h0, gx_ad, if_neg (by omega)]
theorem gx_sl_ref {n t : Nat} {v : Int} (h : gx_sl n t v) : t < 3 ∨ v < (n : Int) := by
  match t with
  | 0 => exact Or.inl (by omega)
  | 1 => exact Or.inl (by omega)
  | 2 => exact Or.inl (by omega)
  | t + 3 => exact Or.inr h
theorem gx_c_ad {cA : Nat → ClassId} {ad : Nat → Nat} {n q : Nat} {k : gx_K} {f : Nat → Int} (h : ∀ j, j < k.2 → gx_sl n (gx_ty k j) (f j)) : gx_c cA (gx_ad ad n q) k f = gx_c cA ad k f := by
  obtain ⟨t, m⟩ := k
  match t with
  | 0 => rfl
  | 1 => rfl
  | 2 =>
    have e : gx_rf (gx_ad ad n q) m f = gx_rf ad m f := by
      funext j
      unfold gx_rf
      by_cases hj : j < m
      · rw [if_pos hj, if_pos hj]
        have h1 : f j < (n : Int) := h j hj
        by_cases h0 : f j < 0
        · rw [if_pos h0, if_pos h0]
        · rw [if_neg h0, if_neg h0, gx_ad, if_neg (by omega)]
      · rw [if_neg hj, if_neg hj]
    show Sum.inl (cA 2, m, _) = Sum.inl (cA 2, m, _)
    rw [e]
  | t + 3 =>
    have e : gx_fs (gx_ad ad n q) t m f = gx_fs ad t m f := by
      unfold gx_fs
      apply List.map_congr_left
      intro j hj
      exact gx_f_ad (gx_sl_ref (h j (List.mem_range.mp hj)))
    show Sum.inr (t, _) = Sum.inr (t, _)
    rw [e]
theorem gx_W_push {cA : Nat → ClassId} {ad : Nat → Nat} {h : gx_H} {q : Nat} {k : gx_K} {f : Nat → Int} (hok : gx_ok h) (hf : ∀ j, j < k.2 → gx_sl h.1.length (gx_ty k j) (f j)) : gx_W cA (gx_ad ad h.1.length q) (h.1 ++ [k], gx_us h.2 h.1.length f) = gx_W cA ad h ++ [(q, gx_c cA ad k f)] := by
  apply List.ext_getElem?
  intro i
  by_cases hi : i < h.1.length
  · have hk : h.1[i]? = some h.1[i] := List.getElem?_eq_getElem hi
    rw [gx_W_at (h := (h.1 ++ [k], gx_us h.2 h.1.length f)) (k := h.1[i]) (by rw [List.getElem?_append_left hi]; exact hk)]
    rw [List.getElem?_append_left (by simp [gx_W]; exact hi), gx_W_at hk]
    simp only [gx_us, gx_ad, if_neg (Nat.ne_of_lt hi)]
    exact congrArg (fun z => some (ad i, z)) (gx_c_ad (hok i _ hk).2)
  · by_cases he : i = h.1.length
    · subst he
      rw [gx_W_at (h := (h.1 ++ [k], gx_us h.2 h.1.length f)) (k := k) (by simp)]
      rw [List.getElem?_append_right (by simp [gx_W])]
      simp only [gx_us, gx_ad, if_true]
      rw [show h.1.length - (gx_W cA ad h).length = 0 by simp [gx_W]]
      exact congrArg (fun z => some (q, z)) (gx_c_ad hf)
    · rw [List.getElem?_eq_none (by simp [gx_W]; omega), List.getElem?_eq_none (by simp [gx_W]; omega)]
/-! the judgement -/
def gx_ws (M : gx_M) : List Cond := Cond.code M.1 M.2.1 M.2.2.1 M.2.2.2.1 :: gx_tbl
def gx_isN : Cond → Bool
  | .methodLinkNest .. => true
  | _ => false
def gx_Kn (D : va_G) (cA : Nat → ClassId) (U : State) : Prop := va_K D gx_cls [(cA 0, .int), (cA 1, .boolean), (cA 2, .object "LetterExchange$State")] U ∧ (∀ w ∈ lw_tbl, gx_isN w = true → va_Nw w U) ∧ va_AO "LetterExchange$State" U
theorem gx_Kn.warm {D : va_G} {cA : Nat → ClassId} {s U : State} (hW : s.WarmedH U.vm) (h : gx_Kn D cA s) : gx_Kn D cA U := by
  refine ⟨va_K.moved hW.alike h.1, fun w hw hn => ?_, va_AO.moved hW.alike h.2.2⟩
  have h1 := h.2.1 w hw hn
  cases w <;> first | exact va_Nw.warmM hW h1 | cases hn
theorem gx_Kn.same {D : va_G} {cA : Nat → ClassId} {s U : State} (hv : s.vm = U.vm) (h : gx_Kn D cA s) : gx_Kn D cA U := by
  have ha : s.vm.Alike U.vm := by rw [← hv]; exact Vm.Alike.refl _
  refine ⟨va_K.moved ha h.1, fun w hw hn => ?_, va_AO.moved ha h.2.2⟩
  have h1 := h.2.1 w hw hn
  cases w <;> first | exact va_Nw.same rfl hv h1 | cases hn
def gx_ret (ret : Option FieldType) (r : Int) : Option Value := match ret with
  | none => none
  | some _ => some (.int (Int32.ofInt r))
def gx_Q (ret : Option FieldType) (cA : Nat → ClassId) (D : va_G) (ad0 : Nat → Nat) (n0 : Nat) (A : Nat → Prop) (r : Int) (h' : gx_H) : Array Value → State → Outcome → State → Prop := fun _ s oc t =>
  (∃ ad : Nat → Nat, (∀ o, o < n0 → ad o = ad0 o) ∧ n0 ≤ h'.1.length ∧ oc = .returned (gx_ret ret r) ∧ gx_ok h' ∧ va_P D gx_cls (gx_W cA ad h') t.heap ∧ va_D A (gx_W cA ad h')) ∧ va_F A s t
def gx_vl (n : Nat) (v : gx_V) : Prop := match v with
  | .inl _ => True
  | .inr (.inl _) => True
  | .inr (.inr o) => o < n
def gx_has (ad : Nat → Nat) (ls : Array Slot) (nL : Nat) (l : List (Option gx_V)) : Prop := ls.size = nL ∧ lv_wf ls ∧ ∀ (i : Nat) (v : gx_V), l[i]? = some (some v) → ls[i]? = some (.val (gx_v ad v))
def gx_E (M : gx_M) (p : Program) (s : State) (m : MethodId) (args : Array Value) (meth : Method) (c : Code) : Prop :=
  p.tables.exec = Jvm.exec ∧ c.code = M.2.1 ∧ c.maxLocals = M.2.2.1 ∧ s.vm.findClass M.1.cls = some m.cls ∧ (∀ w ∈ gx_tbl, w.before args s = true) ∧ meth.sig.returnType = M.2.2.2.1 ∧ meth.locks = false ∧ meth.name = M.1.name
def gx_B (D : va_G) (cA : Nat → ClassId) (ad0 : Nat → Nat) (n0 : Nat) (A : Nat → Prop) (s : State) (ad : Nat → Nat) (H : Heap) (locs : List Loc) (h : gx_H) : Prop :=
  gx_Kn D cA s ∧ (∀ q, s.heap.size ≤ q → A q) ∧ (n0 ≤ h.1.length ∧ ∀ o, o < n0 → ad o = ad0 o) ∧ gx_ok h ∧ va_P D gx_cls (gx_W cA ad h) H ∧ va_D A (gx_W cA ad h) ∧ va_S A s.heap H locs
def gx_Y (M : gx_M) (u : Nat × Nat) (pc : Nat) (l : List (Option gx_V)) (st : List gx_V) (h : gx_H) (res : Option (Int × gx_H)) : Prop :=
  ∀ (r : Int) (h' : gx_H), res = some (r, h') →
  ∀ (p : Program) (la : Launch) (e : Env) (s : State) (m : MethodId) (args : Array Value) (below : List Frame) (meth : Method) (c : Code) (D : va_G) (cA : Nat → ClassId) (ad0 : Nat → Nat) (n0 : Nat) (A : Nat → Prop) (ad : Nat → Nat) (ls : Array Slot) (H : Heap) (locs : List Loc),
  gx_E M p s m args meth c → gx_B D cA ad0 n0 A s ad H locs h → (∀ v ∈ st, gx_vl h.1.length v) → (∀ v, some v ∈ l → gx_vl h.1.length v) → gx_has ad ls M.2.2.1 l →
  W p la e M.2.2.2.2.1 s m args below meth c H locs u.1 u.2 (MQ below (gx_Q M.2.2.2.1 cA D ad0 n0 A r h') args s M.2.2.2.2.2.1 M.2.2.2.2.2.2 A) (F0 m pc ls (st.map (gx_v ad)))
/-- a row that touches the stack alone -/
theorem gx_pure {M : gx_M} {u : Nat × Nat} {pc pc' : Nat} {l : List (Option gx_V)} {st st' : List gx_V} {h : gx_H} {res : Option (Int × gx_H)} (k : gx_Y M u pc' l st' h res)
    (hv : ∀ n, (∀ v ∈ st, gx_vl n v) → (∀ v, some v ∈ l → gx_vl n v) → ∀ v ∈ st', gx_vl n v)
    (hw : ∀ (p : Program) (la : Launch) (e : Env) (s : State) (m : MethodId) (args : Array Value) (below : List Frame) (meth : Method) (c : Code) (ad : Nat → Nat) (ls : Array Slot) (H : Heap) (locs : List Loc) (Q : State → Prop), gx_E M p s m args meth c → gx_has ad ls M.2.2.1 l →
      W p la e M.2.2.2.2.1 s m args below meth c H locs u.1 u.2 Q (F0 m pc' ls (st'.map (gx_v ad))) → W p la e M.2.2.2.2.1 s m args below meth c H locs u.1 u.2 Q (F0 m pc ls (st.map (gx_v ad)))) : gx_Y M u pc l st h res := by
  intro r h' hr p la e s m args below meth c D cA ad0 n0 A ad ls H locs E B hs hl hh
  exact hw p la e s m args below meth c ad ls H locs _ E hh (k r h' hr p la e s m args below meth c D cA ad0 n0 A ad ls H locs E B (hv _ hs hl) hl hh)
section GXP
variable {M : gx_M} {u : Nat × Nat} {pc : Nat} {l : List (Option gx_V)} {st : List gx_V} {h : gx_H} {res : Option (Int × gx_H)}
theorem gx_iconst {n : Int} (hd : decode M.2.1 pc = .ok (.iconst n, 1)) (k : gx_Y M u (pc + 1) l (gx_I n :: st) h res) : gx_Y M u pc l st h res :=
  gx_pure k (fun _ hs _ => List.forall_mem_cons.mpr ⟨trivial, hs⟩) (fun _ _ _ _ _ _ _ _ _ _ _ _ _ _ E _ w => lv_iconst E.1 E.2.1 hd rfl w)
theorem gx_bipush {n : Int} (hd : decode M.2.1 pc = .ok (.bipush n, 2)) (hn : (Int8.ofInt n).toInt32 = Int32.ofInt n) (k : gx_Y M u (pc + 2) l (gx_I n :: st) h res) : gx_Y M u pc l st h res :=
  gx_pure k (fun _ hs _ => List.forall_mem_cons.mpr ⟨trivial, hs⟩) (fun _ _ _ _ _ _ _ _ _ _ _ _ _ _ E _ w => lv_bipush E.1 E.2.1 hd hn w)
theorem gx_sipush {n : Int} (hd : decode M.2.1 pc = .ok (.sipush n, 3)) (hn : (Int16.ofInt n).toInt32 = Int32.ofInt n) (k : gx_Y M u (pc + 3) l (gx_I n :: st) h res) : gx_Y M u pc l st h res :=
  gx_pure k (fun _ hs _ => List.forall_mem_cons.mpr ⟨trivial, hs⟩) (fun _ _ _ _ _ _ _ _ _ _ _ _ _ _ E _ w => lv_sipush E.1 E.2.1 hd hn w)
theorem gx_lconst {n : Fin 2} {a : Int} (hd : decode M.2.1 pc = .ok (.lconst n, 1)) (hn : Int64.ofNat (n : Nat) = Int64.ofInt a) (k : gx_Y M u (pc + 1) l (gx_L a :: st) h res) : gx_Y M u pc l st h res :=
  gx_pure k (fun _ hs _ => List.forall_mem_cons.mpr ⟨trivial, hs⟩) (fun _ _ _ _ _ _ _ _ _ _ _ _ _ _ E _ w => lv_lconst E.1 E.2.1 hd hn w)
theorem gx_ldc {ix : Nat} {a : Int} (hc : Cond.constant M.1.cls ix (Int32.ofInt a) ∈ lw_tbl) (hd : decode M.2.1 pc = .ok (.ldc ix, 2)) (k : gx_Y M u (pc + 2) l (gx_I a :: st) h res) : gx_Y M u pc l st h res :=
  gx_pure k (fun _ hs _ => List.forall_mem_cons.mpr ⟨trivial, hs⟩) (fun _ _ _ _ _ _ _ _ _ _ _ _ _ _ E _ w => lv_ldc E.1 E.2.1 E.2.2.2.1 (E.2.2.2.2.1 _ (gx_gd hc rfl)) hd w)
theorem gx_ldcw {ix : Nat} {a : Int} (hc : Cond.constant M.1.cls ix (Int32.ofInt a) ∈ lw_tbl) (hd : decode M.2.1 pc = .ok (.ldc_w ix, 3)) (k : gx_Y M u (pc + 3) l (gx_I a :: st) h res) : gx_Y M u pc l st h res :=
  gx_pure k (fun _ hs _ => List.forall_mem_cons.mpr ⟨trivial, hs⟩) (fun _ _ _ _ _ _ _ _ _ _ _ _ _ _ E _ w => lv_ldcw E.1 E.2.1 E.2.2.2.1 (E.2.2.2.2.1 _ (gx_gd hc rfl)) hd w)
theorem gx_ldc2 {ix : Nat} {a : Int} (hc : Cond.constantLong M.1.cls ix (Int64.ofInt a) ∈ lw_tbl) (hd : decode M.2.1 pc = .ok (.ldc2_w ix, 3)) (k : gx_Y M u (pc + 3) l (gx_L a :: st) h res) : gx_Y M u pc l st h res :=
  gx_pure k (fun _ hs _ => List.forall_mem_cons.mpr ⟨trivial, hs⟩) (fun _ _ _ _ _ _ _ _ _ _ _ _ _ _ E _ w => lv_ldc2 E.1 E.2.1 E.2.2.2.1 (E.2.2.2.2.1 _ (gx_gd hc rfl)) hd w)
theorem gx_iload_n {i : Fin 4} {a : Int} (hd : decode M.2.1 pc = .ok (.iload_n i, 1)) (hl : l[(i : Nat)]? = some (some (gx_I a))) (k : gx_Y M u (pc + 1) l (gx_I a :: st) h res) : gx_Y M u pc l st h res :=
  gx_pure k (fun _ hs _ => List.forall_mem_cons.mpr ⟨trivial, hs⟩) (fun _ _ _ _ _ _ _ _ _ _ _ _ _ _ E L w => lv_iload_n E.1 E.2.1 hd rfl (L.2.2 _ _ hl) w)
theorem gx_iload {i : Nat} {a : Int} (hd : decode M.2.1 pc = .ok (.iload i, 2)) (hl : l[i]? = some (some (gx_I a))) (k : gx_Y M u (pc + 2) l (gx_I a :: st) h res) : gx_Y M u pc l st h res :=
  gx_pure k (fun _ hs _ => List.forall_mem_cons.mpr ⟨trivial, hs⟩) (fun _ _ _ _ _ _ _ _ _ _ _ _ _ _ E L w => lv_iload E.1 E.2.1 hd (L.2.2 _ _ hl) w)
theorem gx_lload_n {i : Fin 4} {a : Int} (hd : decode M.2.1 pc = .ok (.lload_n i, 1)) (hl : l[(i : Nat)]? = some (some (gx_L a))) (k : gx_Y M u (pc + 1) l (gx_L a :: st) h res) : gx_Y M u pc l st h res :=
  gx_pure k (fun _ hs _ => List.forall_mem_cons.mpr ⟨trivial, hs⟩) (fun _ _ _ _ _ _ _ _ _ _ _ _ _ _ E L w => lv_lload_n E.1 E.2.1 hd rfl (L.2.2 _ _ hl) w)
theorem gx_lload {i : Nat} {a : Int} (hd : decode M.2.1 pc = .ok (.lload i, 2)) (hl : l[i]? = some (some (gx_L a))) (k : gx_Y M u (pc + 2) l (gx_L a :: st) h res) : gx_Y M u pc l st h res :=
  gx_pure k (fun _ hs _ => List.forall_mem_cons.mpr ⟨trivial, hs⟩) (fun _ _ _ _ _ _ _ _ _ _ _ _ _ _ E L w => lv_lload E.1 E.2.1 hd (L.2.2 _ _ hl) w)
theorem gx_aload_n {i : Fin 4} {o : Nat} (hd : decode M.2.1 pc = .ok (.aload_n i, 1)) (hl : l[(i : Nat)]? = some (some (gx_R o))) (k : gx_Y M u (pc + 1) l (gx_R o :: st) h res) : gx_Y M u pc l st h res :=
  gx_pure k (fun _ hs hk => List.forall_mem_cons.mpr ⟨hk _ (List.mem_of_getElem? hl), hs⟩) (fun _ _ _ _ _ _ _ _ _ _ _ _ _ _ E L w => lv_aload_n E.1 E.2.1 hd rfl (L.2.2 _ _ hl) w)
theorem gx_aload {i : Nat} {o : Nat} (hd : decode M.2.1 pc = .ok (.aload i, 2)) (hl : l[i]? = some (some (gx_R o))) (k : gx_Y M u (pc + 2) l (gx_R o :: st) h res) : gx_Y M u pc l st h res :=
  gx_pure k (fun _ hs hk => List.forall_mem_cons.mpr ⟨hk _ (List.mem_of_getElem? hl), hs⟩) (fun _ _ _ _ _ _ _ _ _ _ _ _ _ _ E L w => lv_aload E.1 E.2.1 hd (L.2.2 _ _ hl) w)
theorem gx_dup {v : gx_V} (hd : decode M.2.1 pc = .ok (.dup, 1)) (hc : ∀ ad, (gx_v ad v).category = 1) (k : gx_Y M u (pc + 1) l (v :: v :: st) h res) : gx_Y M u pc l (v :: st) h res :=
  gx_pure k (fun _ hs _ => List.forall_mem_cons.mpr ⟨(List.forall_mem_cons.mp hs).1, hs⟩) (fun _ _ _ _ _ _ _ _ _ _ _ _ _ _ E _ w => lv_dup E.1 E.2.1 hd (hc _) w)
theorem gx_pop {v : gx_V} (hd : decode M.2.1 pc = .ok (.pop, 1)) (hc : ∀ ad, (gx_v ad v).category = 1) (k : gx_Y M u (pc + 1) l st h res) : gx_Y M u pc l (v :: st) h res :=
  gx_pure k (fun _ hs _ => (List.forall_mem_cons.mp hs).2) (fun _ _ _ _ _ _ _ _ _ _ _ _ _ _ E _ w => lv_pop E.1 E.2.1 hd (hc _) w)
theorem gx_goto {off : Int} {tgt : Nat} (hd : decode M.2.1 pc = .ok (.goto off, 3)) (ht : (pc : Int) + off = (tgt : Int)) (k : gx_Y M u tgt l st h res) : gx_Y M u pc l st h res :=
  gx_pure k (fun _ hs _ => hs) (fun _ _ _ _ _ _ _ _ _ _ _ _ _ _ E _ w => lv_goto E.1 E.2.1 hd ht w)
theorem gx_c2 {n : Nat} {a b v : gx_V} {st : List gx_V} (hs : ∀ w ∈ b :: a :: st, gx_vl n w) (hv : gx_vl n v) : ∀ w ∈ v :: st, gx_vl n w := List.forall_mem_cons.mpr ⟨hv, (List.forall_mem_cons.mp (List.forall_mem_cons.mp hs).2).2⟩
theorem gx_c1 {n : Nat} {a v : gx_V} {st : List gx_V} (hs : ∀ w ∈ a :: st, gx_vl n w) (hv : gx_vl n v) : ∀ w ∈ v :: st, gx_vl n w := List.forall_mem_cons.mpr ⟨hv, (List.forall_mem_cons.mp hs).2⟩
theorem gx_iadd {a b : Int} (hd : decode M.2.1 pc = .ok (.iadd, 1)) (k : gx_Y M u (pc + 1) l (gx_I (a + b) :: st) h res) : gx_Y M u pc l (gx_I b :: gx_I a :: st) h res :=
  gx_pure k (fun _ hs _ => gx_c2 hs trivial) (fun _ _ _ _ _ _ _ _ _ _ _ _ _ _ E _ w => lv_iadd E.1 E.2.1 hd (by rw [← Int32.ofInt_add]; exact w))
theorem gx_isub {a b : Int} (hd : decode M.2.1 pc = .ok (.isub, 1)) (k : gx_Y M u (pc + 1) l (gx_I (a - b) :: st) h res) : gx_Y M u pc l (gx_I b :: gx_I a :: st) h res :=
  gx_pure k (fun _ hs _ => gx_c2 hs trivial) (fun _ _ _ _ _ _ _ _ _ _ _ _ _ _ E _ w => lv_isub E.1 E.2.1 hd (by rw [← Int32.ofInt_sub]; exact w))
theorem gx_imul {a b : Int} (hd : decode M.2.1 pc = .ok (.imul, 1)) (k : gx_Y M u (pc + 1) l (gx_I (a * b) :: st) h res) : gx_Y M u pc l (gx_I b :: gx_I a :: st) h res :=
  gx_pure k (fun _ hs _ => gx_c2 hs trivial) (fun _ _ _ _ _ _ _ _ _ _ _ _ _ _ E _ w => lv_imul E.1 E.2.1 hd (by rw [← Int32.ofInt_mul]; exact w))
theorem gx_ineg {a : Int} (hd : decode M.2.1 pc = .ok (.ineg, 1)) (k : gx_Y M u (pc + 1) l (gx_I (-a) :: st) h res) : gx_Y M u pc l (gx_I a :: st) h res :=
  gx_pure k (fun _ hs _ => gx_c1 hs trivial) (fun _ _ _ _ _ _ _ _ _ _ _ _ _ _ E _ w => lv_ineg E.1 E.2.1 hd (by rw [← Int32.ofInt_neg]; exact w))
theorem gx_ladd {a b : Int} (hd : decode M.2.1 pc = .ok (.ladd, 1)) (k : gx_Y M u (pc + 1) l (gx_L (a + b) :: st) h res) : gx_Y M u pc l (gx_L b :: gx_L a :: st) h res :=
  gx_pure k (fun _ hs _ => gx_c2 hs trivial) (fun _ _ _ _ _ _ _ _ _ _ _ _ _ _ E _ w => lv_ladd E.1 E.2.1 hd (by rw [← Int64.ofInt_add]; exact w))
theorem gx_lmul {a b : Int} (hd : decode M.2.1 pc = .ok (.lmul, 1)) (k : gx_Y M u (pc + 1) l (gx_L (a * b) :: st) h res) : gx_Y M u pc l (gx_L b :: gx_L a :: st) h res :=
  gx_pure k (fun _ hs _ => gx_c2 hs trivial) (fun _ _ _ _ _ _ _ _ _ _ _ _ _ _ E _ w => lv_lmul E.1 E.2.1 hd (by rw [← Int64.ofInt_mul]; exact w))
end GXP
theorem gx_nz {b : Int} (h : 0 < b) (hb : gx_i b) : ¬ Int32.ofInt b = 0 := fun e => by
  have h1 := congrArg Int32.toInt e
  rw [Int32.toInt_ofInt_of_le (by omega) (by omega)] at h1
  have h2 : (0 : Int32).toInt = 0 := rfl
  omega
theorem gx_nzl {b : Int} (h : 0 < b) (hb : gx_l b) : ¬ Int64.ofInt b = 0 := fun e => by
  have h1 := congrArg Int64.toInt e
  rw [Int64.toInt_ofInt_of_le (by omega) (by omega)] at h1
  have h2 : (0 : Int64).toInt = 0 := rfl
  omega
theorem gx_div {a b : Int} (ha : gx_i a) (h : 0 < b) (hb : gx_i b) : Int32.ofInt a / Int32.ofInt b = Int32.ofInt (a.tdiv b) := (Int32.ofInt_tdiv ha.1 ha.2 hb.1 hb.2).symm
theorem gx_divl {a b : Int} (ha : gx_l a) (h : 0 < b) (hb : gx_l b) : Int64.ofInt a / Int64.ofInt b = Int64.ofInt (a.tdiv b) := (Int64.ofInt_tdiv ha.1 ha.2 hb.1 hb.2).symm
theorem gx_tm (a b : Int) : a - a.tdiv b * b = a.tmod b := by
  have h := Int.tmod_add_mul_tdiv a b
  rw [Int.mul_comm] at h
  omega
