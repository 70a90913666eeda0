/-! rows: cells that are made -/
def gx_d (ci : Nat) : Nat → Int := fun j => if 3 ≤ gx_fty ci j then -1 else 0
def gq_new {β : Type} (h : gx_H) (ci n : Nat) (K : Nat → gx_H → Option β) : Option β := K h.1.length (h.1 ++ [(ci + 3, n)], gx_us h.2 h.1.length (gx_d ci))
def gq_na {β : Type} (h : gx_H) (t n : Nat) (v : Int) (K : Nat → gx_H → Option β) : Option β := K h.1.length (h.1 ++ [(t, n)], gx_us h.2 h.1.length (fun _ => v))
def gq_aas {β : Type} (h : gx_H) (o : Nat) (i : Int) (b ci : Nat) (K : gx_H → Option β) : Option β := (h.1[o]?).bind (fun q => (h.1[b]?).bind (fun q1 => if q.1 = 2 ∧ 0 ≤ i ∧ i < (q.2 : Int) ∧ q1.1 = ci + 3 then K (h.1, gx_up h.2 o i.toNat (b : Int)) else none))
theorem gx_sl_mono {n n1 t : Nat} {v : Int} (h : gx_sl n t v) (hn : n ≤ n1) : gx_sl n1 t v := by
  match t, h with
  | 0, h => exact h
  | 1, h => exact h
  | 2, h => exact h
  | t + 3, h => have h : v < (n : Int) := h; show v < (n1 : Int); omega
theorem gx_ok_push {h : gx_H} {k : gx_K} {f : Nat → Int} (hok : gx_ok h) (hk : k.2 ≤ 2147483647) (hf : ∀ j, j < k.2 → gx_sl h.1.length (gx_ty k j) (f j)) : gx_ok (h.1 ++ [k], gx_us h.2 h.1.length f) := by
  intro o q hq
  have hlen : (h.1 ++ [k]).length = h.1.length + 1 := by simp
  by_cases ho : o < h.1.length
  · rw [List.getElem?_append_left ho] at hq
    refine ⟨(hok o q hq).1, fun j hj => ?_⟩
    simp only [gx_us, if_neg (Nat.ne_of_lt ho)]
    exact gx_sl_mono ((hok o q hq).2 j hj) (by rw [hlen]; omega)
  · have h1 : o < (h.1 ++ [k]).length := (List.getElem?_eq_some_iff.mp hq).1
    have e : o = h.1.length := by omega
    subst e
    simp at hq
    subst hq
    refine ⟨hk, fun j hj => ?_⟩
    simp only [gx_us, if_pos]
    exact gx_sl_mono (hf j hj) (by rw [hlen]; omega)
theorem gx_ad_eq {ad : Nat → Nat} {n q : Nat} : ∀ o, o < n → gx_ad ad n q o = ad o := fun o ho => by rw [gx_ad, if_neg (Nat.ne_of_lt ho)]
section GXN
variable {M : gx_M} {u : Nat × Nat} {pc pc' : Nat} {l : List (Option gx_V)} {st : List gx_V} {h : gx_H} {res : Option (Int × gx_H)}
/-- behind a cell that was made -/
theorem gx_made {k : gx_K} {f : Nat → Int} {q : Nat} {u' : Nat × Nat} (kk : gx_Y M u' pc' l (gx_R h.1.length :: st) (h.1 ++ [k], gx_us h.2 h.1.length f) res) (hk : k.2 ≤ 2147483647)
    {r : Int} {h' : gx_H} (hr : res = some (r, h')) {p : Program} {la : Launch} {e : Env} {s : State} {m : MethodId} {args : Array Value} {below : List Frame} {meth : Method} {c : Code} {D : va_G} {cA : Nat → ClassId} {ad0 : Nat → Nat} {n0 : Nat} {A : Nat → Prop} {ad : Nat → Nat} {ls : Array Slot} {H H1 : Heap} {locs locs1 : List Loc}
    (hf : ∀ j, j < k.2 → gx_sl h.1.length (gx_ty k j) (f j)) (E : gx_E M p s m args meth c) (B : gx_B D cA ad0 n0 A s ad H locs h) (hs : ∀ v ∈ st, gx_vl h.1.length v) (hl : ∀ v, some v ∈ l → gx_vl h.1.length v) (hh : gx_has ad ls M.2.2.1 l)
    (hP : va_P D gx_cls (gx_W cA ad h ++ [(q, gx_c cA ad k f)]) H1) (hD : va_D A (gx_W cA ad h ++ [(q, gx_c cA ad k f)])) (hS : va_S A s.heap H1 locs1) :
    W p la e M.2.2.2.2.1 s m args below meth c H1 locs1 u'.1 u'.2 (MQ below (gx_Q M.2.2.2.1 cA D ad0 n0 A r h') args s M.2.2.2.2.2.1 M.2.2.2.2.2.2 A) (F0 m pc' ls (.ref q :: st.map (gx_v ad))) := by
  have hlen : (h.1 ++ [k]).length = h.1.length + 1 := by simp
  have e0 := gx_W_push (cA := cA) (ad := ad) (q := q) B.2.2.2.1 hf
  rw [← e0] at hP hD
  have e1 : (Value.ref q :: st.map (gx_v ad)) = (gx_R h.1.length :: st).map (gx_v (gx_ad ad h.1.length q)) := by
    rw [List.map_cons, gx_map_eq hs gx_ad_eq]
    show _ = Value.ref (gx_ad ad h.1.length q h.1.length) :: _
    rw [gx_ad, if_pos rfl]
  rw [e1]
  refine kk r h' hr p la e s m args below meth c D cA ad0 n0 A (gx_ad ad h.1.length q) ls H1 locs1 E ⟨B.1, B.2.1, ⟨by rw [hlen]; exact Nat.le_succ_of_le B.2.2.1.1, fun o ho => (gx_ad_eq o (Nat.lt_of_lt_of_le ho B.2.2.1.1)).trans (B.2.2.1.2 o ho)⟩, gx_ok_push B.2.2.2.1 hk hf, hP, hD, hS⟩ ?_ ?_ (gx_has_eq hl gx_ad_eq hh)
  · exact List.forall_mem_cons.mpr ⟨show h.1.length < _ by rw [hlen]; omega, fun v hv => gx_vl_mono (hs v hv) (by rw [hlen]; omega)⟩
  · exact fun v hv => gx_vl_mono (hl v hv) (by rw [hlen]; omega)
theorem gx_new {ci ix : Nat} {C : String} {T : u_T} {N : Nat} {ty : Nat → FieldType} {K : Nat → gx_H → Option (Int × gx_H)} (g : gx_CL ci C T N ty) (hl : Cond.classLink M.1.cls ix C ∈ lw_tbl) (hinst : Cond.instantiable C N ∈ lw_tbl) (hini : Cond.initialized C ∈ lw_tbl) (hN : N ≤ 2147483647) (hrm : u.1 + 1 ≤ M.2.2.2.2.1.cells ∧ u.2 + N ≤ M.2.2.2.2.1.slots) (hd : decode M.2.1 pc = .ok (.new ix, 3))
    (k : gx_Y M (u.1 + 1, u.2 + N) (pc + 3) l (gx_R h.1.length :: st) (h.1 ++ [(ci + 3, N)], gx_us h.2 h.1.length (gx_d ci)) (K h.1.length (h.1 ++ [(ci + 3, N)], gx_us h.2 h.1.length (gx_d ci)))) : gx_Y M u pc l st h (gq_new h ci N K) := by
  intro r h' hr p la e s m args below meth c D cA ad0 n0 A ad ls H locs E B hs hlo hh
  refine va_new (fs := gx_fs ad ci N (gx_d ci)) E.1 E.2.1 E.2.2.2.2.1 g.2.1 ty g.2.2.1 E.2.2.2.1 (E.2.2.2.2.1 _ (gx_gd hl rfl)) (E.2.2.2.2.1 _ (gx_gd hinst rfl)) (E.2.2.2.2.1 _ (gx_gd hini rfl)) B.1.1 B.2.2.2.2.1 B.2.2.2.2.2.1 B.2.2.2.2.2.2 B.2.1 g.1 (fun j hj => ?_) hrm.1 hrm.2 hd (fun q H1 hP hD hS => ?_)
  · have e1 := gx_fs_at (ad := ad) (ci := ci) (f := gx_d ci) hj
    unfold vp_V
    rw [List.getD_eq_getElem?_getD, e1]
    have ht := g.2.2.2.2.1 j hj
    simp only [Option.getD_some, gx_d]
    generalize gx_fty ci j = t at ht ⊢
    match t, ht with
    | 0, ht => rw [show ty j = .int from ht]; rfl
    | 1, ht => rw [show ty j = .boolean from ht]; rfl
    | 2, ht => rw [show ty j = .long from ht]; rfl
    | t + 3, ht =>
      rw [if_pos (by omega)]
      rcases ht with ⟨_, e⟩ | ⟨_, e⟩ <;> rw [e] <;> rfl
  · refine gx_made (k := (ci + 3, N)) k hN hr (fun j hj => ?_) E B hs hlo hh hP hD hS
    show gx_sl h.1.length (gx_fty ci j) (gx_d ci j)
    unfold gx_d
    generalize gx_fty ci j = t
    match t with
    | 0 => show gx_i _; decide
    | 1 => exact Or.inl rfl
    | 2 => show gx_l _; decide
    | t + 3 => rw [if_pos (by omega)]; show (-1 : Int) < _; omega
theorem nw_ac_int : Cond.arrayClass .int ∈ lw_tbl := by decide +kernel
theorem nw_ac_bool : Cond.arrayClass .boolean ∈ lw_tbl := by decide +kernel
theorem gx_newi {n : Int} {N : Nat} {K : Nat → gx_H → Option (Int × gx_H)} (hn : n = (N : Int)) (hN : N ≤ 1000000) (hrm : u.1 + 1 ≤ M.2.2.2.2.1.cells ∧ u.2 + N ≤ M.2.2.2.2.1.slots) (hd : decode M.2.1 pc = .ok (.newarray .int, 2))
    (k : gx_Y M (u.1 + 1, u.2 + N) (pc + 2) l (gx_R h.1.length :: st) (h.1 ++ [(0, N)], gx_us h.2 h.1.length (fun _ => 0)) (K h.1.length (h.1 ++ [(0, N)], gx_us h.2 h.1.length (fun _ => 0)))) : gx_Y M u pc l (gx_I n :: st) h (gq_na h 0 N 0 K) := by
  intro r h' hr p la e s m args below meth c D cA ad0 n0 A ad ls H locs E B hs hlo hh
  subst hn
  obtain ⟨z1, z2⟩ := gx_nn (i := (N : Int)) (by omega) (by omega)
  refine va_newa (atype := .int) (N' := N) (a0 := (N, .inl (fun _ => Int32.ofInt 0))) E.1 E.2.1 (E.2.2.2.2.1 _ (gx_gd nw_ac_int rfl)) rfl B.1.1 B.2.2.2.2.1 B.2.2.2.2.2.1 B.2.2.2.2.2.2 B.2.1 (fun _ => rfl) z1 (by rw [z2]; omega) (by show N * 4 ≤ _; omega) hrm.1 hrm.2 hd (fun q cA' H1 hK hP hD hS => ?_)
  have e1 : cA' = cA 0 := by
    have h1 : s.vm.findClass _ = some cA' := (hK.2 3 (cA', .int) rfl).2
    have h2 : s.vm.findClass _ = some (cA 0) := (B.1.1.2 0 (cA 0, .int) rfl).2
    exact Option.some.inj (h1.symm.trans h2)
  subst e1
  exact gx_made (k := (0, N)) (f := fun _ => 0) k (by show N ≤ _; omega) hr (fun j hj => by show gx_i 0; decide) E B (gx_t1 hs) hlo hh hP hD hS
theorem gx_newz {n : Int} {N : Nat} {K : Nat → gx_H → Option (Int × gx_H)} (hn : n = (N : Int)) (hN : N ≤ 1000000) (hrm : u.1 + 1 ≤ M.2.2.2.2.1.cells ∧ u.2 + N ≤ M.2.2.2.2.1.slots) (hd : decode M.2.1 pc = .ok (.newarray .boolean, 2))
    (k : gx_Y M (u.1 + 1, u.2 + N) (pc + 2) l (gx_R h.1.length :: st) (h.1 ++ [(1, N)], gx_us h.2 h.1.length (fun _ => 0)) (K h.1.length (h.1 ++ [(1, N)], gx_us h.2 h.1.length (fun _ => 0)))) : gx_Y M u pc l (gx_I n :: st) h (gq_na h 1 N 0 K) := by
  intro r h' hr p la e s m args below meth c D cA ad0 n0 A ad ls H locs E B hs hlo hh
  subst hn
  obtain ⟨z1, z2⟩ := gx_nn (i := (N : Int)) (by omega) (by omega)
  refine va_newa (atype := .boolean) (N' := N) (a0 := (N, .inl (fun _ => Int32.ofInt 0))) E.1 E.2.1 (E.2.2.2.2.1 _ (gx_gd nw_ac_bool rfl)) rfl B.1.1 B.2.2.2.2.1 B.2.2.2.2.2.1 B.2.2.2.2.2.2 B.2.1 (fun _ => rfl) z1 (by rw [z2]; omega) (by show N * 1 ≤ _; omega) hrm.1 hrm.2 hd (fun q cA' H1 hK hP hD hS => ?_)
  have e1 : cA' = cA 1 := by
    have h1 : s.vm.findClass _ = some cA' := (hK.2 3 (cA', .boolean) rfl).2
    have h2 : s.vm.findClass _ = some (cA 1) := (B.1.1.2 1 (cA 1, .boolean) rfl).2
    exact Option.some.inj (h1.symm.trans h2)
  subst e1
  exact gx_made (k := (1, N)) (f := fun _ => 0) k (by show N ≤ _; omega) hr (fun j hj => by exact Or.inl rfl) E B (gx_t1 hs) hlo hh hP hD hS
theorem gx_newr {n : Int} {N ix : Nat} {K : Nat → gx_H → Option (Int × gx_H)} (hl : Cond.classLink M.1.cls ix "LetterExchange$State" ∈ lw_tbl) (hn : n = (N : Int)) (hN : N ≤ 1000000) (hrm : u.1 + 1 ≤ M.2.2.2.2.1.cells ∧ u.2 + N ≤ M.2.2.2.2.1.slots) (hd : decode M.2.1 pc = .ok (.anewarray ix, 3))
    (k : gx_Y M (u.1 + 1, u.2 + N) (pc + 3) l (gx_R h.1.length :: st) (h.1 ++ [(2, N)], gx_us h.2 h.1.length (fun _ => -1)) (K h.1.length (h.1 ++ [(2, N)], gx_us h.2 h.1.length (fun _ => -1)))) : gx_Y M u pc l (gx_I n :: st) h (gq_na h 2 N (-1) K) := by
  intro r h' hr p la e s m args below meth c D cA ad0 n0 A ad ls H locs E B hs hlo hh
  subst hn
  obtain ⟨z1, z2⟩ := gx_nn (i := (N : Int)) (by omega) (by omega)
  refine va_newq (N' := N) E.1 E.2.1 E.2.2.2.1 (E.2.2.2.2.1 _ (gx_gd hl rfl)) B.1.2.2 B.1.1 B.2.2.2.2.1 B.2.2.2.2.2.1 B.2.2.2.2.2.2 B.2.1 z1 (by rw [z2]; omega) (by omega) hrm.1 hrm.2 hd (fun q cA' H1 hK hP hD hS => ?_)
  have e1 : cA' = cA 2 := by
    obtain ⟨kA, comp, -, -, -, h1⟩ := (hK.2 3 (cA', .object "LetterExchange$State") rfl).2
    obtain ⟨kA2, comp2, -, -, -, h2⟩ := (B.1.1.2 2 (cA 2, .object "LetterExchange$State") rfl).2
    exact Option.some.inj (h1.symm.trans h2)
  subst e1
  have e2 : (Sum.inl (cA 2, N, .inr (.inr (.inr (.inr (fun _ => none))))) : va_E) = gx_c cA ad (2, N) (fun _ => -1) := by
    show _ = Sum.inl (cA 2, N, _)
    have : gx_rf ad N (fun _ => -1) = fun _ => none := by
      funext j
      unfold gx_rf
      by_cases hj : j < N
      · rw [if_pos hj, if_pos (show (-1 : Int) < 0 by omega)]
      · rw [if_neg hj]
    rw [this]
  rw [e2] at hP hD
  exact gx_made (k := (2, N)) (f := fun _ => -1) k (by show N ≤ _; omega) hr (fun j hj => by show (-1 : Int) < _; omega) E B (gx_t1 hs) hlo hh hP hD hS
theorem gx_aast {o b ci : Nat} {i : Int} {q : vw_C} {K : gx_H → Option (Int × gx_H)} (hcl : gx_cls[ci]? = some q) (hq0 : q.1 = "LetterExchange$State") (hd : decode M.2.1 pc = .ok (.aastore, 1)) (kk : gx_Y M u (pc + 1) l st (h.1, gx_up h.2 o i.toNat (b : Int)) (K (h.1, gx_up h.2 o i.toNat (b : Int)))) : gx_Y M u pc l (gx_R b :: gx_I i :: gx_R o :: st) h (gq_aas h o i b ci K) := by
  intro r h' hr p la e s m args below meth c D cA ad0 n0 A ad ls H locs E B hs hlo hh
  obtain ⟨⟨t, n⟩, hq, hr0⟩ := gq_m hr
  obtain ⟨⟨t1, n1⟩, hq1, hr1⟩ := gq_m hr0
  obtain ⟨⟨rfl, h0, h1, rfl⟩, hr2⟩ := gq_i hr1
  have h1 : i < (n : Int) := h1
  have hat : (gx_W cA ad h)[o]? = some (ad o, .inl (cA 2, n, .inr (.inr (.inr (.inr (gx_rf ad n (h.2 o))))))) := gx_W_at hq
  have hatb : (gx_W cA ad h)[b]? = some (ad b, .inr (ci, gx_fs ad ci n1 (h.2 b))) := gx_W_at hq1
  obtain ⟨hin, hc⟩ := gx_in h0 h1 (B.2.2.2.1 o _ hq).1
  refine va_astq E.1 E.2.1 B.1.1 B.2.2.2.2.1 B.2.2.2.2.2.1 B.2.2.2.2.2.2 o 2 b ci (r := q) hat (by rw [hq0]; rfl) hatb hcl hin hd (fun H1 locs1 hP hD hS => ?_)
  have e1 : va_up (gx_rf ad n (h.2 o)) (Int32.ofInt i).toNatClampNeg (some (ad b)) = gx_rf ad n (gx_u1 (h.2 o) i.toNat (b : Int)) := by
    rw [hc]
    funext j
    unfold va_up gx_rf gx_u1
    by_cases e : j = i.toNat
    · rw [if_pos e, if_pos (by omega), if_pos e, if_neg (by omega)]; rfl
    · rw [if_neg e, if_neg e]
  rw [e1] at hP hD
  have e2 := gx_W_set (cA := cA) (ad := ad) hq (gx_u1 (h.2 o) i.toNat (b : Int))
  have hP1 : va_P D gx_cls (gx_W cA ad (h.1, gx_up h.2 o i.toNat (b : Int))) H1 := by rw [gx_up, ← e2]; exact hP
  have hD1 : va_D A (gx_W cA ad (h.1, gx_up h.2 o i.toNat (b : Int))) := by rw [gx_up, ← e2]; exact hD
  have hb := gx_lt hq1
  exact kk r h' hr2 p la e s m args below meth c D cA ad0 n0 A ad ls H1 locs1 E ⟨B.1, B.2.1, B.2.2.1, gx_ok_up B.2.2.2.1 hq (show (b : Int) < _ by omega), hP1, hD1, hS⟩ (gx_t1 (gx_t2 hs)) hlo hh
variable {ci k ix o : Nat} {C : String} {T : u_T} {N : Nat} {ty : Nat → FieldType}
theorem gx_putFr {b : Nat} {K : gx_H → Option (Int × gx_H)} (g : gx_CL ci C T N ty) (hN : k < N) (hl : Cond.fieldLink M.1.cls ix C (T k).2.1 (T k).2.2.1 ∈ lw_tbl) (hf : (T k).2.2.2 = true) (hnm : M.1.name = "<init>") (hC : M.1.cls = C) (ht : gx_fty ci k = 3) (hd : decode M.2.1 pc = .ok (.putfield ix, 3)) (kk : gx_Y M u (pc + 3) l st (h.1, gx_up h.2 o k (b : Int)) (K (h.1, gx_up h.2 o k (b : Int)))) : gx_Y M u pc l (gx_R b :: gx_R o :: st) h (gq_put True h o ci k (b : Int) K) := by
  intro r h' hr
  obtain ⟨⟨t, n⟩, hq, hr1⟩ := gq_m hr
  obtain ⟨⟨rfl, hkn, -⟩, hr2⟩ := gq_i hr1
  exact gx_putF (v := (b : Int)) hq hkn hN g hl hf hnm hC hd (fun ad => by rw [ht]; exact gx_fref) (fun hb => by rw [ht]; show (b : Int) < _; have : b < h.1.length := hb; omega) kk r h' hr2
end GXN
