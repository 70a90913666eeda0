/-! contracts, calls, the entry, cells that are made -/
def gx_Met (M : gx_M) (avs : List gx_V) (h : gx_H) (r : Int) (h' : gx_H) : Prop := ∀ (la : Launch) (D : va_G) (cA : Nat → ClassId) (ad : Nat → Nat) (sz : Nat),
  Met la M.1 (gx_ws M) M.2.2.2.2.1 (va_Pc (avs.map (gx_v ad)) (fun U => U.heap.size = sz ∧ gx_Kn D cA U ∧ gx_ok h ∧ (∀ v ∈ avs, gx_vl h.1.length v) ∧ va_P D gx_cls (gx_W cA ad h) U.heap ∧ va_D (fun _ => True) (gx_W cA ad h)))
    (gx_Q M.2.2.2.1 cA D ad h.1.length (va_A (gx_W cA ad h) sz) r h') M.2.2.2.2.2.1 M.2.2.2.2.2.2 (va_A (gx_W cA ad h) sz)
/-- what the tables say of a method that is called -/
def gx_CK (M : gx_M) (n : Nat) : Prop := Cond.code M.1 M.2.1 M.2.2.1 M.2.2.2.1 ∈ lw_tbl ∧ Cond.initialized M.1.cls ∈ lw_tbl ∧ (M.1.cls ≠ "java/lang/invoke/MethodHandle" ∧ M.1.cls ≠ "java/lang/invoke/VarHandle" ∧ (parseMethodDescriptor M.1.desc).map (fun d => d.parameters.length) = some n) ∧ M.2.2.2.2.1.cells = M.2.2.2.2.2.1 ∧ M.2.2.2.2.1.slots = M.2.2.2.2.2.2
theorem gx_goodIn {M : gx_M} (h : Cond.code M.1 M.2.1 M.2.2.1 M.2.2.2.1 ∈ lw_tbl) : GoodIn gx_tbl (gx_ws M) := by
  intro w hw
  have hm : w ∈ gx_tbl := by
    rcases List.mem_cons.mp hw with e | e
    · rw [e]; exact gx_gd h rfl
    · exact e
  exact ⟨hm, good_of_word (List.mem_filter.mp hm).2⟩
theorem gx_v_eq {ad ad1 : Nat → Nat} {n : Nat} {v : gx_V} (h : gx_vl n v) (he : ∀ o, o < n → ad1 o = ad o) : gx_v ad1 v = gx_v ad v := by
  match v, h with
  | .inl _, _ => rfl
  | .inr (.inl _), _ => rfl
  | .inr (.inr o), h => show Value.ref (ad1 o) = .ref (ad o); rw [he o h]
theorem gx_vl_mono {n n1 : Nat} {v : gx_V} (h : gx_vl n v) (hn : n ≤ n1) : gx_vl n1 v := by
  match v, h with
  | .inl _, _ => trivial
  | .inr (.inl _), _ => trivial
  | .inr (.inr o), h => exact Nat.lt_of_lt_of_le h hn
theorem gx_map_eq {ad ad1 : Nat → Nat} {n : Nat} {st : List gx_V} (h : ∀ v ∈ st, gx_vl n v) (he : ∀ o, o < n → ad1 o = ad o) : st.map (gx_v ad) = st.map (gx_v ad1) := List.map_congr_left (fun v hv => (gx_v_eq (h v hv) he).symm)
theorem gx_has_eq {ad ad1 : Nat → Nat} {n nL : Nat} {ls : Array Slot} {l : List (Option gx_V)} (h : ∀ v, some v ∈ l → gx_vl n v) (he : ∀ o, o < n → ad1 o = ad o) (hh : gx_has ad ls nL l) : gx_has ad1 ls nL l :=
  ⟨hh.1, hh.2.1, fun i v hi => by rw [gx_v_eq (h v (List.mem_of_getElem? hi)) he]; exact hh.2.2 i v hi⟩
section GXC
variable {p : Program} {la : Launch} {e : Env} {R : Room} {s : State} {m : MethodId} {args : Array Value} {below : List Frame} {meth : Method} {c : Code} {H : Heap} {locs : List Loc} {cells slots : Nat} {Q : State → Prop}
variable {pc : Nat} {ls : Array Slot} {rest st0 : List Value} {a : Array Value} {A0 A1 : Nat → Prop} {H0 : Heap} {mc ms n0 : Nat} {free : Addr → Prop}
theorem gx_after {ret : Option FieldType} {cA : Nat → ClassId} {D : va_G} {ad : Nat → Nat} {r : Int} {h1 : gx_H} (hr : va_Run p la e R s m args below meth c H locs cells slots mc ms (F0 m pc ls st0) rest (gx_Q ret cA D ad n0 A1 r h1 a) free) (hS : va_S A0 H0 H locs) (hA : ∀ q, A1 q → A0 q) (hf : ∀ q, free q → A0 q)
    (kk : ∀ (ad1 : Nat → Nat) (H1 : Heap) (locs1 : List Loc), (∀ o, o < n0 → ad1 o = ad o) → n0 ≤ h1.1.length → gx_ok h1 → va_P D gx_cls (gx_W cA ad1 h1) H1 → va_D A0 (gx_W cA ad1 h1) → va_S A0 H0 H1 locs1 → W p la e R s m args below meth c H1 locs1 (cells + mc) (slots + ms) Q (F0 m (pc + 3) ls ((gx_ret ret r).toList ++ rest))) : W p la e R s m args below meth c H locs cells slots Q (F0 m pc ls st0) := by
  intro T hT X
  obtain ⟨v, st₀, t, T', L, h0, X', hL, e1, e2, ⟨⟨ad1, g1, g2, hv, g3, g4, g5⟩, hz, hk⟩, st⟩ := hr T hT X
  cases hv
  rw [h0] at hz hk
  obtain ⟨t2, a1, b1⟩ := kk ad1 T'.heap (locs ++ L) g1 g2 g3 (by rw [e1]; exact g4) (g5.weaken (fun _ _ _ z => hA _ z))
    ⟨Nat.le_trans hS.1 (by rw [e1]; exact hz), fun q h1 h2 => by rw [e1, hk q (Nat.lt_of_lt_of_le h1 hS.1) (fun z => h2 (hA q z))]; exact hS.2.1 q h1 h2, fun q hq => by
      rcases List.mem_append.mp hq with h | h
      · exact hS.2.2 q h
      · exact hf _ (hL q h)⟩ T' rfl X'
  exact ⟨t2, st t2 a1, b1⟩
end GXC
def gx_rs (ret : Option FieldType) (r : Int) (st : List gx_V) : List gx_V := match ret with
  | none => st
  | some _ => gx_I r :: st
theorem gx_rs_map (ret : Option FieldType) (r : Int) (st : List gx_V) (ad : Nat → Nat) : (gx_ret ret r).toList ++ st.map (gx_v ad) = (gx_rs ret r st).map (gx_v ad) := by
  cases ret <;> rfl
theorem gx_rs_vl {ret : Option FieldType} {r : Int} {st : List gx_V} {n : Nat} (h : ∀ v ∈ st, gx_vl n v) : ∀ v ∈ gx_rs ret r st, gx_vl n v := by
  cases ret with
  | none => exact h
  | some _ => exact List.forall_mem_cons.mpr ⟨trivial, h⟩
theorem gx_blind {D : va_G} {cA : Nat → ClassId} {ad : Nat → Nat} {avs : List gx_V} {h : gx_H} {sz : Nat} : FrameBlind (va_Pc (avs.map (gx_v ad)) (fun U => U.heap.size = sz ∧ gx_Kn D cA U ∧ gx_ok h ∧ (∀ v ∈ avs, gx_vl h.1.length v) ∧ va_P D gx_cls (gx_W cA ad h) U.heap ∧ va_D (fun _ => True) (gx_W cA ad h))) :=
  fun _ U g mk q => by
    obtain ⟨q0, q1, qK, q2, q3, qP, qD⟩ := q
    exact ⟨q0, q1, gx_Kn.same (s := U) (U := U.calling g mk _) rfl qK, q2, q3, qP, qD⟩
def gq_call {β : Type} (x : Option (Int × gx_H)) (K : Int → gx_H → Option β) : Option β := x.bind (fun q => K q.1 q.2)
def gq_cv {β : Type} (h : gx_H) (o ci : Nat) (x : Option (Int × gx_H)) (K : Int → gx_H → Option β) : Option β := (h.1[o]?).bind (fun q => if q.1 = ci + 3 then x.bind (fun y => K y.1 y.2) else none)
section GXD
variable {M Mc : gx_M} {u : Nat × Nat} {pc : Nat} {l : List (Option gx_V)} {st : List gx_V} {h : gx_H}
/-- what is the same behind every call -/
theorem gx_go {r : Int} {h1 : gx_H} {res : Option (Int × gx_H)} (k : gx_Y M (u.1 + Mc.2.2.2.2.2.1, u.2 + Mc.2.2.2.2.2.2) (pc + 3) l (gx_rs Mc.2.2.2.1 r st) h1 res)
    {p : Program} {la : Launch} {e : Env} {s : State} {m : MethodId} {args : Array Value} {below : List Frame} {meth : Method} {c : Code} {D : va_G} {cA : Nat → ClassId} {ad0 : Nat → Nat} {n0 : Nat} {A : Nat → Prop} {ad : Nat → Nat} {ls : Array Slot} {H : Heap} {locs : List Loc} {a : Array Value} {st0 : List Value} {r' : Int} {h' : gx_H} (hr : res = some (r', h'))
    (E : gx_E M p s m args meth c) (B : gx_B D cA ad0 n0 A s ad H locs h) (hs : ∀ v ∈ st, gx_vl h.1.length v) (hl : ∀ v, some v ∈ l → gx_vl h.1.length v) (hh : gx_has ad ls M.2.2.1 l)
    (hrun : va_Run p la e M.2.2.2.2.1 s m args below meth c H locs u.1 u.2 Mc.2.2.2.2.2.1 Mc.2.2.2.2.2.2 (F0 m pc ls st0) (st.map (gx_v ad)) (gx_Q Mc.2.2.2.1 cA D ad h.1.length (va_A (gx_W cA ad h) H.size) r h1 a) (va_A (gx_W cA ad h) H.size)) :
    W p la e M.2.2.2.2.1 s m args below meth c H locs u.1 u.2 (MQ below (gx_Q M.2.2.2.1 cA D ad0 n0 A r' h') args s M.2.2.2.2.2.1 M.2.2.2.2.2.2 A) (F0 m pc ls st0) := by
  have hA : ∀ q, va_A (gx_W cA ad h) H.size q → A q := fun q hq => by
    rcases hq with ⟨k, e, hk⟩ | hq
    · exact B.2.2.2.2.2.1.2 k (q, e) hk
    · exact B.2.1 q (Nat.le_trans B.2.2.2.2.2.2.1 hq)
  refine gx_after hrun B.2.2.2.2.2.2 hA hA (fun ad1 H1 locs1 g1 g2 g3 g4 g5 g6 => ?_)
  rw [gx_map_eq hs g1, gx_rs_map]
  exact k r' h' hr p la e s m args below meth c D cA ad0 n0 A ad1 ls H1 locs1 E ⟨B.1, B.2.1, ⟨Nat.le_trans B.2.2.1.1 g2, fun o ho => (g1 o (Nat.lt_of_lt_of_le ho B.2.2.1.1)).trans (B.2.2.1.2 o ho)⟩, g3, g4, g5, g6⟩
    (gx_rs_vl (fun v hv => gx_vl_mono (hs v hv) g2)) (fun v hv => gx_vl_mono (hl v hv) g2) (gx_has_eq hl g1 hh)
theorem gx_pre {avs : List gx_V} {s : State} {D : va_G} {cA : Nat → ClassId} {ad0 : Nat → Nat} {n0 : Nat} {A : Nat → Prop} {ad : Nat → Nat} {H : Heap} {locs : List Loc} (B : gx_B D cA ad0 n0 A s ad H locs h) (hv : ∀ v ∈ avs, gx_vl h.1.length v) (U : State) (hU : U.heap = H) (hW : s.WarmedH U.vm) :
    va_Pc (avs.map (gx_v ad)) (fun U => U.heap.size = H.size ∧ gx_Kn D cA U ∧ gx_ok h ∧ (∀ v ∈ avs, gx_vl h.1.length v) ∧ va_P D gx_cls (gx_W cA ad h) U.heap ∧ va_D (fun _ => True) (gx_W cA ad h)) (avs.map (gx_v ad)).toArray U :=
  ⟨rfl, by rw [hU], gx_Kn.warm hW B.1, B.2.2.2.1, hv, by rw [hU]; exact B.2.2.2.2.1, B.2.2.2.2.2.1.weaken (fun _ _ _ _ => trivial)⟩
theorem gx_rev {n : Nat} {avs st : List gx_V} (h : ∀ v ∈ avs.reverse ++ st, gx_vl n v) : (∀ v ∈ avs, gx_vl n v) ∧ ∀ v ∈ st, gx_vl n v := ⟨fun v hv => h v (List.mem_append_left _ (List.mem_reverse.mpr hv)), fun v hv => h v (List.mem_append_right _ hv)⟩
abbrev gx_rm (M Mc : gx_M) (u : Nat × Nat) : Prop := Mc.2.2.2.2.1.frames + 1 ≤ M.2.2.2.2.1.frames ∧ 8 + (Mc.2.2.1 + 11) + Mc.2.2.2.2.1.locals ≤ M.2.2.2.2.1.locals ∧ u.1 + Mc.2.2.2.2.2.1 ≤ M.2.2.2.2.1.cells ∧ u.2 + Mc.2.2.2.2.2.2 ≤ M.2.2.2.2.1.slots
theorem gx_room8 {m : MethodId} {pc : Nat} {ls : Array Slot} {rest : List Value} {ad : Nat → Nat} {st : List gx_V} (h : gx_cs st ≤ 8) : 2 * (F0 m pc ls rest).monitorRoom + ((st.map (gx_v ad)).map fun v => v.category).sum ≤ 8 := lv_room (by rw [gx_cs_eq]; exact h)
/-- a virtual call of a method of the object's own class -/
theorem gx_callV {avs : List gx_V} {o ci ix n : Nat} {q : vw_C} {x : Option (Int × gx_H)} {K : Int → gx_H → Option (Int × gx_H)} (hM : ∀ r h1, x = some (r, h1) → gx_Met Mc (gx_R o :: avs) h r h1) (ck : gx_CK Mc n) (hin : Cond.instanceMethod Mc.1 ∈ lw_tbl) (hsel : Cond.selects Mc.1.cls Mc.1 Mc.1 ∈ lw_tbl) (hcl : gx_cls[ci]? = some q) (hq : q.1 = Mc.1.cls)
    (hl : Cond.methodLink M.1.cls ix Mc.1 ∈ lw_tbl) (hn : avs.length = n) (hrm : gx_rm M Mc u) (h8 : gx_cs st ≤ 8) (hd : decode M.2.1 pc = .ok (.invokevirtual ix, 3))
    (k : ∀ r h1, gx_Y M (u.1 + Mc.2.2.2.2.2.1, u.2 + Mc.2.2.2.2.2.2) (pc + 3) l (gx_rs Mc.2.2.2.1 r st) h1 (K r h1)) : gx_Y M u pc l (avs.reverse ++ gx_R o :: st) h (gq_cv h o ci x K) := by
  intro r' h' hr p la e s m args below meth c D cA ad0 n0 A ad ls H locs E B hs hlo hh
  obtain ⟨⟨t, w⟩, hk, hr1⟩ := gq_m hr
  obtain ⟨rfl, hr2⟩ := gq_i hr1
  obtain ⟨⟨r, h1⟩, hx, hr3⟩ := gq_m hr2
  obtain ⟨hv, hs1⟩ := gx_rev hs
  obtain ⟨ho, hs2⟩ := List.forall_mem_cons.mp hs1
  have hat : (gx_W cA ad h)[o]? = some (ad o, .inr (ci, gx_fs ad ci w (h.2 o))) := gx_W_at hk
  have hcall : CallW M.2.2.2.2.1 s args M.1.cls Mc.1.cls ix Mc.1 Mc.2.1 Mc.2.2.1 Mc.2.2.2.1 (gx_ws Mc) Mc.2.2.2.2.1 Mc.2.2.2.2.2.1 Mc.2.2.2.2.2.2 n :=
    ⟨callB_of n E.2.2.2.2.1 (gx_goodIn ck.1) rfl ck.2.2.2.1 ck.2.2.2.2 (E.2.2.2.2.1 _ (gx_gd ck.2.1 rfl)) (E.2.2.2.2.1 _ (gx_gd hl rfl)) ck.2.2.1 ⟨hrm.1, hrm.2.1⟩, E.2.2.2.2.1 _ (gx_gd hin rfl), E.2.2.2.2.1 _ (gx_gd hsel rfl)⟩
  refine gx_go (k r h1) hr3 E B hs2 hlo hh (va_runV ⟨E.1, E.2.1, E.2.2.1, E.2.2.2.1, E.2.2.2.2.1⟩ (hM r h1 hx la D cA ad H.size) hcall ⟨gx_blind, ?_, fun U hU hW => gx_pre B (List.forall_mem_cons.mpr ⟨ho, hv⟩) U hU hW⟩ rfl (by simpa using hn) hh.1 (by simp [gx_v]) (gx_room8 h8) hd ⟨hrm.2.2.1, hrm.2.2.2⟩)
  rw [← hq]
  exact va_recv B.1.1 B.2.2.2.2.1 hcl hat
/-- a static call of a method of one's own class -/
theorem gx_callS {avs : List gx_V} {ix n : Nat} {x : Option (Int × gx_H)} {K : Int → gx_H → Option (Int × gx_H)} (hM : ∀ r h1, x = some (r, h1) → gx_Met Mc avs h r h1) (ck : gx_CK Mc n) (hst : Cond.static Mc.1 ∈ lw_tbl)
    (hl : Cond.methodLink M.1.cls ix Mc.1 ∈ lw_tbl) (hn : avs.length = n) (hrm : gx_rm M Mc u) (h8 : gx_cs st ≤ 8) (hd : decode M.2.1 pc = .ok (.invokestatic ix, 3))
    (k : ∀ r h1, gx_Y M (u.1 + Mc.2.2.2.2.2.1, u.2 + Mc.2.2.2.2.2.2) (pc + 3) l (gx_rs Mc.2.2.2.1 r st) h1 (K r h1)) : gx_Y M u pc l (avs.reverse ++ st) h (gq_call x K) := by
  intro r' h' hr p la e s m args below meth c D cA ad0 n0 A ad ls H locs E B hs hlo hh
  obtain ⟨⟨r, h1⟩, hx, hr3⟩ := gq_m hr
  obtain ⟨hv, hs2⟩ := gx_rev hs
  have hcall : CallB M.2.2.2.2.1 s args M.1.cls ix Mc.1 Mc.2.1 Mc.2.2.1 Mc.2.2.2.1 (gx_ws Mc) Mc.2.2.2.2.1 Mc.2.2.2.2.2.1 Mc.2.2.2.2.2.2 n :=
    callB_of n E.2.2.2.2.1 (gx_goodIn ck.1) rfl ck.2.2.2.1 ck.2.2.2.2 (E.2.2.2.2.1 _ (gx_gd ck.2.1 rfl)) (E.2.2.2.2.1 _ (gx_gd hl rfl)) ck.2.2.1 ⟨hrm.1, hrm.2.1⟩
  exact gx_go (k r h1) hr3 E B hs2 hlo hh (va_runS ⟨E.1, E.2.1, E.2.2.1, E.2.2.2.1, E.2.2.2.2.1⟩ (hM r h1 hx la D cA ad H.size) ⟨hcall, E.2.2.2.2.1 _ (gx_gd hst rfl)⟩ ⟨gx_blind, fun U hU hW => gx_pre B hv U hU hW⟩ rfl (by simpa using hn) hh.1 (by simp) (gx_room8 h8) hd ⟨hrm.2.2.1, hrm.2.2.2⟩)
/-- a static call of a nest mate's private method -/
theorem gx_callSN {avs : List gx_V} {ix n : Nat} {x : Option (Int × gx_H)} {K : Int → gx_H → Option (Int × gx_H)} (hM : ∀ r h1, x = some (r, h1) → gx_Met Mc avs h r h1) (ck : gx_CK Mc n) (hst : Cond.static Mc.1 ∈ lw_tbl)
    (hl : Cond.methodLinkNest M.1.cls ix Mc.1 "LetterExchange" ∈ lw_tbl) (hn : avs.length = n) (hrm : gx_rm M Mc u) (h8 : gx_cs st ≤ 8) (hd : decode M.2.1 pc = .ok (.invokestatic ix, 3))
    (k : ∀ r h1, gx_Y M (u.1 + Mc.2.2.2.2.2.1, u.2 + Mc.2.2.2.2.2.2) (pc + 3) l (gx_rs Mc.2.2.2.1 r st) h1 (K r h1)) : gx_Y M u pc l (avs.reverse ++ st) h (gq_call x K) := by
  intro r' h' hr p la e s m args below meth c D cA ad0 n0 A ad ls H locs E B hs hlo hh
  obtain ⟨⟨r, h1⟩, hx, hr3⟩ := gq_m hr
  obtain ⟨hv, hs2⟩ := gx_rev hs
  have hcall : va_CN M.2.2.2.2.1 s args M.1.cls ix Mc.1 "LetterExchange" Mc.2.1 Mc.2.2.1 Mc.2.2.2.1 (gx_ws Mc) Mc.2.2.2.2.1 Mc.2.2.2.2.2.1 Mc.2.2.2.2.2.2 n :=
    va_cnB n E.2.2.2.2.1 (gx_goodIn ck.1) rfl ck.2.2.2.1 ck.2.2.2.2 (B.1.2.1 _ hl rfl) (E.2.2.2.2.1 _ (gx_gd ck.2.1 rfl)) ck.2.2.1 ⟨hrm.1, hrm.2.1⟩
  exact gx_go (k r h1) hr3 E B hs2 hlo hh (va_runSN ⟨E.1, E.2.1, E.2.2.1, E.2.2.2.1, E.2.2.2.2.1⟩ (hM r h1 hx la D cA ad H.size) ⟨hcall, E.2.2.2.2.1 _ (gx_gd hst rfl), trivial⟩ ⟨gx_blind, fun U hU hW => gx_pre B hv U hU hW⟩ rfl (by simpa using hn) hh.1 (by simp) (gx_room8 h8) hd ⟨hrm.2.2.1, hrm.2.2.2⟩)
/-- a nest mate's private constructor -/
theorem gx_callIN {ix o : Nat} {x : Option (Int × gx_H)} {K : Int → gx_H → Option (Int × gx_H)} (hM : ∀ r h1, x = some (r, h1) → gx_Met Mc [gx_R o] h r h1) (ck : gx_CK Mc 0) (hin : Cond.instanceMethod Mc.1 ∈ lw_tbl) (hnm : Mc.1.name = "<init>") (hret : Mc.2.2.2.1 = none)
    (hl : Cond.methodLinkNest M.1.cls ix Mc.1 "LetterExchange" ∈ lw_tbl) (hrm : gx_rm M Mc u) (h8 : gx_cs st ≤ 8) (hd : decode M.2.1 pc = .ok (.invokespecial ix, 3))
    (k : ∀ r h1, gx_Y M (u.1 + Mc.2.2.2.2.2.1, u.2 + Mc.2.2.2.2.2.2) (pc + 3) l (gx_rs Mc.2.2.2.1 r st) h1 (K r h1)) : gx_Y M u pc l (gx_R o :: st) h (gq_call x K) := by
  intro r' h' hr p la e s m args below meth c D cA ad0 n0 A ad ls H locs E B hs hlo hh
  obtain ⟨⟨r, h1⟩, hx, hr3⟩ := gq_m hr
  obtain ⟨ho, hs2⟩ := List.forall_mem_cons.mp hs
  have hcall : va_CN M.2.2.2.2.1 s args M.1.cls ix Mc.1 "LetterExchange" Mc.2.1 Mc.2.2.1 Mc.2.2.2.1 (gx_ws Mc) Mc.2.2.2.2.1 Mc.2.2.2.2.2.1 Mc.2.2.2.2.2.2 0 :=
    va_cnB 0 E.2.2.2.2.1 (gx_goodIn ck.1) rfl ck.2.2.2.1 ck.2.2.2.2 (B.1.2.1 _ hl rfl) (E.2.2.2.2.1 _ (gx_gd ck.2.1 rfl)) ck.2.2.1 ⟨hrm.1, hrm.2.1⟩
  rw [hret] at hcall
  exact gx_go (k r h1) hr3 E B hs2 hlo hh (va_runIN (As := []) ⟨E.1, E.2.1, E.2.2.1, E.2.2.2.1, E.2.2.2.2.1⟩ (hM r h1 hx la D cA ad H.size) ⟨hcall, hnm, E.2.2.2.2.1 _ (gx_gd hin rfl)⟩ ⟨gx_blind, fun U hU hW => gx_pre B (avs := [gx_R o]) (List.forall_mem_cons.mpr ⟨ho, fun _ h => by cases h⟩) U hU hW⟩ rfl rfl hh.1 rfl (gx_room8 h8) hd ⟨hrm.2.2.1, hrm.2.2.2⟩)
/-- a constructor that anyone may call -/
theorem gx_callI {ix o : Nat} {x : Option (Int × gx_H)} {K : Int → gx_H → Option (Int × gx_H)} (hM : ∀ r h1, x = some (r, h1) → gx_Met Mc [gx_R o] h r h1) (ck : gx_CK Mc 0) (hin : Cond.instanceMethod Mc.1 ∈ lw_tbl) (hnm : Mc.1.name = "<init>") (hret : Mc.2.2.2.1 = none)
    (hl : Cond.methodLink M.1.cls ix Mc.1 ∈ lw_tbl) (hrm : gx_rm M Mc u) (h8 : gx_cs st ≤ 8) (hd : decode M.2.1 pc = .ok (.invokespecial ix, 3))
    (k : ∀ r h1, gx_Y M (u.1 + Mc.2.2.2.2.2.1, u.2 + Mc.2.2.2.2.2.2) (pc + 3) l (gx_rs Mc.2.2.2.1 r st) h1 (K r h1)) : gx_Y M u pc l (gx_R o :: st) h (gq_call x K) := by
  intro r' h' hr p la e s m args below meth c D cA ad0 n0 A ad ls H locs E B hs hlo hh
  obtain ⟨⟨r, h1⟩, hx, hr3⟩ := gq_m hr
  obtain ⟨ho, hs2⟩ := List.forall_mem_cons.mp hs
  have hcall : CallB M.2.2.2.2.1 s args M.1.cls ix Mc.1 Mc.2.1 Mc.2.2.1 Mc.2.2.2.1 (gx_ws Mc) Mc.2.2.2.2.1 Mc.2.2.2.2.2.1 Mc.2.2.2.2.2.2 0 :=
    callB_of 0 E.2.2.2.2.1 (gx_goodIn ck.1) rfl ck.2.2.2.1 ck.2.2.2.2 (E.2.2.2.2.1 _ (gx_gd ck.2.1 rfl)) (E.2.2.2.2.1 _ (gx_gd hl rfl)) ck.2.2.1 ⟨hrm.1, hrm.2.1⟩
  rw [hret] at hcall
  exact gx_go (k r h1) hr3 E B hs2 hlo hh (va_runI (As := []) ⟨E.1, E.2.1, E.2.2.1, E.2.2.2.1, E.2.2.2.2.1⟩ (hM r h1 hx la D cA ad H.size) ⟨hcall, hnm, E.2.2.2.2.1 _ (gx_gd hin rfl)⟩ ⟨gx_blind, fun U hU hW => gx_pre B (avs := [gx_R o]) (List.forall_mem_cons.mpr ⟨ho, fun _ h => by cases h⟩) U hU hW⟩ rfl rfl hh.1 rfl (gx_room8 h8) hd ⟨hrm.2.2.1, hrm.2.2.2⟩)
end GXD
/-! the entry -/
def gx_en : List gx_V → List (Option gx_V)
  | [] => []
  | .inr (.inl a) :: t => some (gx_L a) :: none :: gx_en t
  | .inl a :: t => some (gx_I a) :: gx_en t
  | .inr (.inr o) :: t => some (gx_R o) :: gx_en t
theorem gx_en_len (ad : Nat → Nat) (avs : List gx_V) : (lg_sl (avs.map (gx_v ad))).length = (gx_en avs).length := by
  induction avs with
  | nil => rfl
  | cons v t ih =>
    have e : lg_sl ((v :: t).map (gx_v ad)) = (if (gx_v ad v).category = 2 then [Slot.val (gx_v ad v), .second] else [.val (gx_v ad v)]) ++ lg_sl (t.map (gx_v ad)) := rfl
    rw [e, List.length_append, ih]
    match v with
    | .inl _ => simp [gx_en, gx_v, Value.category]; omega
    | .inr (.inl _) => simp [gx_en, gx_v, Value.category]; omega
    | .inr (.inr _) => simp [gx_en, gx_v, Value.category]; omega
theorem gx_en_at (ad : Nat → Nat) : ∀ (avs : List gx_V) (i j : Nat) (v : gx_V), (gx_en avs)[j]? = some (some v) → (i + j, gx_v ad v) ∈ lv_args i (avs.map (gx_v ad))
  | [], i, j, v, h => by simp [gx_en] at h
  | .inl a :: t, i, 0, v, h => by
    simp only [gx_en, List.getElem?_cons_zero, Option.some.injEq] at h
    subst h
    exact List.mem_cons_self
  | .inl a :: t, i, j + 1, v, h => by
    simp only [gx_en, List.getElem?_cons_succ] at h
    have := gx_en_at ad t (i + 1) j v h
    rw [show i + (j + 1) = i + 1 + j by omega]
    exact List.mem_cons_of_mem _ this
  | .inr (.inr a) :: t, i, 0, v, h => by
    simp only [gx_en, List.getElem?_cons_zero, Option.some.injEq] at h
    subst h
    exact List.mem_cons_self
  | .inr (.inr a) :: t, i, j + 1, v, h => by
    simp only [gx_en, List.getElem?_cons_succ] at h
    have := gx_en_at ad t (i + 1) j v h
    rw [show i + (j + 1) = i + 1 + j by omega]
    exact List.mem_cons_of_mem _ this
  | .inr (.inl a) :: t, i, 0, v, h => by
    simp only [gx_en, List.getElem?_cons_zero, Option.some.injEq] at h
    subst h
    exact List.mem_cons_self
  | .inr (.inl a) :: t, i, 1, v, h => by simp [gx_en] at h
  | .inr (.inl a) :: t, i, j + 2, v, h => by
    simp only [gx_en, List.getElem?_cons_succ] at h
    have := gx_en_at ad t (i + 2) j v h
    rw [show i + (j + 2) = i + 2 + j by omega]
    exact List.mem_cons_of_mem _ this
theorem gx_en_mem : ∀ (avs : List gx_V) (v : gx_V), some v ∈ gx_en avs → v ∈ avs
  | [], v, h => by simp [gx_en] at h
  | .inl a :: t, v, h => by
    rcases List.mem_cons.mp h with e | e
    · cases e; exact List.mem_cons_self
    · exact List.mem_cons_of_mem _ (gx_en_mem t v e)
  | .inr (.inr a) :: t, v, h => by
    rcases List.mem_cons.mp h with e | e
    · cases e; exact List.mem_cons_self
    · exact List.mem_cons_of_mem _ (gx_en_mem t v e)
  | .inr (.inl a) :: t, v, h => by
    rcases List.mem_cons.mp h with e | e
    · cases e; exact List.mem_cons_self
    · rcases List.mem_cons.mp e with e | e
      · cases e
      · exact List.mem_cons_of_mem _ (gx_en_mem t v e)
theorem gx_enter {M : gx_M} {avs : List gx_V} {h : gx_H} {res : Option (Int × gx_H)} {l : List (Option gx_V)} (hp : plainName M.1.cls = true) (hn : (gx_en avs).length ≤ M.2.2.1) (hl : gx_en avs ++ List.replicate (M.2.2.1 - (gx_en avs).length) none = l) (k : gx_Y M (0, 0) 0 l [] h res) : ∀ r h', res = some (r, h') → gx_Met M avs h r h' := by
  intro r h' hr la D cA ad sz
  refine Met.ofW (cc := M.2.1) (maxL := M.2.2.1) (ret := M.2.2.2.1) hp rfl ?_
  intro p e s m args below meth c s₁ B hml hv
  obtain ⟨rfl, hsz, hK, hok, hvl, hP, hD0⟩ := hv
  subst hsz
  have hts := atoms_spec (ws := gx_ws M) B.pre
  have hown : s.vm.findClass M.1.cls = some m.cls := findClass_of_methodNamed B.named
  have hnm : meth.name = M.1.name := (name_of_methodNamed B.named B.method).1
  have hlv := lv_entry (avs.map (gx_v ad)) (n := M.2.2.1) (by rw [gx_en_len]; exact hn)
  rw [lg_entry_eq]
  generalize (lg_sl (avs.map (gx_v ad)) ++ List.replicate (M.2.2.1 - (lg_sl (avs.map (gx_v ad))).length) Slot.unset).toArray = ls at hlv ⊢
  refine k r h' hr p la e s m _ below meth c D cA ad h.1.length (va_A (gx_W cA ad h) s.heap.size) ad ls s.heap [] ⟨B.exec, B.bytes, hml, hown, fun w hw => hts w (List.mem_cons_of_mem _ hw), B.returns, B.notSynchronized, hnm⟩ ⟨hK, fun q hq => Or.inr hq, ⟨Nat.le_refl _, fun _ _ => rfl⟩, hok, hP, hD0.self, va_S.rf⟩ (fun _ hv => by cases hv) (fun v hv => ?_) ⟨hlv.1, hlv.2.1, fun i v hi => ?_⟩
  · rw [← hl] at hv
    rcases List.mem_append.mp hv with hv | hv
    · exact hvl v (gx_en_mem avs v hv)
    · cases List.eq_of_mem_replicate hv
  · rw [← hl] at hi
    by_cases hj : i < (gx_en avs).length
    · rw [List.getElem?_append_left hj] at hi
      have := gx_en_at ad avs 0 i v hi
      rw [Nat.zero_add] at this
      exact hlv.2.2 _ this
    · rw [List.getElem?_append_right (by omega)] at hi
      cases List.eq_of_mem_replicate (List.mem_of_getElem? hi)
