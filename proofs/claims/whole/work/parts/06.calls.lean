/-! rows: arrays, library calls, returns, calls, the entry -/
section GXA
variable {M : gx_M} {u : Nat × Nat} {pc : Nat} {l : List (Option gx_V)} {st : List gx_V} {h : gx_H} {o : Nat} {i : Int}
theorem gx_iald {K : Int → Option (Int × gx_H)} (hd : decode M.2.1 pc = .ok (.iaload, 1)) (kk : gx_Y M u (pc + 1) l (gx_I (h.2 o i.toNat) :: st) h (K (h.2 o i.toNat))) : gx_Y M u pc l (gx_I i :: gx_R o :: st) h (gq_ald 0 h o i K) := by
  intro r h' hr p la e s m args below meth c D cA ad0 n0 A ad ls H locs E B hs hlo hh
  obtain ⟨⟨t, n⟩, hq, hr1⟩ := gq_m hr
  obtain ⟨⟨rfl, h0, h1⟩, hr2⟩ := gq_i hr1
  have hat : (gx_W cA ad h)[o]? = some (ad o, .inl (cA 0, n, .inl (fun j => Int32.ofInt (h.2 o j)))) := gx_W_at hq
  obtain ⟨hin, hc⟩ := gx_in h0 h1 (B.2.2.2.1 o _ hq).1
  refine va_iald E.1 E.2.1 B.1.1 B.2.2.2.2.1 o 0 hat rfl hin hd ?_
  rw [hc]
  exact kk r h' hr2 p la e s m args below meth c D cA ad0 n0 A ad ls H locs E B (gx_c2 hs trivial) hlo hh
theorem gx_zald {K : Int → Option (Int × gx_H)} (hd : decode M.2.1 pc = .ok (.baload, 1)) (kk : gx_Y M u (pc + 1) l (gx_I (h.2 o i.toNat) :: st) h (K (h.2 o i.toNat))) : gx_Y M u pc l (gx_I i :: gx_R o :: st) h (gq_ald 1 h o i K) := by
  intro r h' hr p la e s m args below meth c D cA ad0 n0 A ad ls H locs E B hs hlo hh
  obtain ⟨⟨t, n⟩, hq, hr1⟩ := gq_m hr
  obtain ⟨⟨rfl, h0, h1⟩, hr2⟩ := gq_i hr1
  have hat : (gx_W cA ad h)[o]? = some (ad o, .inl (cA 1, n, .inl (fun j => Int32.ofInt (h.2 o j)))) := gx_W_at hq
  obtain ⟨hin, hc⟩ := gx_in h0 h1 (B.2.2.2.1 o _ hq).1
  refine va_zald E.1 E.2.1 B.1.1 B.2.2.2.2.1 o 1 hat rfl hin hd ?_
  rw [hc]
  exact kk r h' hr2 p la e s m args below meth c D cA ad0 n0 A ad ls H locs E B (gx_c2 hs trivial) hlo hh
theorem gx_aald {K : Nat → Option (Int × gx_H)} (hd : decode M.2.1 pc = .ok (.aaload, 1)) (kk : gx_Y M u (pc + 1) l (gx_R (h.2 o i.toNat).toNat :: st) h (K (h.2 o i.toNat).toNat)) : gx_Y M u pc l (gx_I i :: gx_R o :: st) h (gq_rld h o i K) := by
  intro r h' hr p la e s m args below meth c D cA ad0 n0 A ad ls H locs E B hs hlo hh
  obtain ⟨⟨t, n⟩, hq, hr1⟩ := gq_m hr
  obtain ⟨⟨rfl, h0, h1, h2⟩, hr2⟩ := gq_i hr1
  have h1 : i < (n : Int) := h1
  have hat : (gx_W cA ad h)[o]? = some (ad o, .inl (cA 2, n, .inr (.inr (.inr (.inr (gx_rf ad n (h.2 o))))))) := gx_W_at hq
  obtain ⟨hin, hc⟩ := gx_in h0 h1 (B.2.2.2.1 o _ hq).1
  refine va_aldq E.1 E.2.1 B.1.1 B.2.2.2.2.1 o 2 hat rfl hin hd ?_
  have hlt : h.2 o i.toNat < (h.1.length : Int) := (B.2.2.2.1 o _ hq).2 i.toNat (show i.toNat < n by omega)
  have e1 : va_rf (gx_rf ad n (h.2 o) (Int32.ofInt i).toNatClampNeg) = gx_v ad (gx_R (h.2 o i.toNat).toNat) := by
    rw [hc]
    unfold gx_rf
    rw [if_pos (by omega), if_neg (by omega)]
    rfl
  rw [e1]
  exact kk r h' hr2 p la e s m args below meth c D cA ad0 n0 A ad ls H locs E B (gx_c2 hs (show (h.2 o i.toNat).toNat < h.1.length by omega)) hlo hh
theorem gx_upd32 (f : Nat → Int) (i : Nat) (v : Int) : upd (fun j => Int32.ofInt (f j)) i (Int32.ofInt v) = fun j => Int32.ofInt (gx_u1 f i v j) := by
  funext j
  unfold upd gx_u1
  by_cases e : j = i
  · rw [if_pos e, if_pos e]
  · rw [if_neg e, if_neg e]
theorem gx_iast {v : Int} {K : gx_H → Option (Int × gx_H)} (hd : decode M.2.1 pc = .ok (.iastore, 1)) (kk : gx_Y M u (pc + 1) l st (h.1, gx_up h.2 o i.toNat v) (K (h.1, gx_up h.2 o i.toNat v))) : gx_Y M u pc l (gx_I v :: gx_I i :: gx_R o :: st) h (gq_ast 0 (gx_i v) h o i v K) := by
  intro r h' hr p la e s m args below meth c D cA ad0 n0 A ad ls H locs E B hs hlo hh
  obtain ⟨⟨t, n⟩, hq, hr1⟩ := gq_m hr
  obtain ⟨⟨rfl, h0, h1, h2⟩, hr2⟩ := gq_i hr1
  have hat : (gx_W cA ad h)[o]? = some (ad o, .inl (cA 0, n, .inl (fun j => Int32.ofInt (h.2 o j)))) := gx_W_at hq
  obtain ⟨hin, hc⟩ := gx_in h0 h1 (B.2.2.2.1 o _ hq).1
  refine va_iast E.1 E.2.1 B.1.1 B.2.2.2.2.1 B.2.2.2.2.2.1 B.2.2.2.2.2.2 o 0 hat rfl hin hd (fun H1 locs1 hP hD hS => ?_)
  rw [hc, gx_upd32] at hP hD
  have e2 := gx_W_set (cA := cA) (ad := ad) hq (gx_u1 (h.2 o) i.toNat v)
  have hP1 : va_P D gx_cls (gx_W cA ad (h.1, gx_up h.2 o i.toNat v)) H1 := by rw [gx_up, ← e2]; exact hP
  have hD1 : va_D A (gx_W cA ad (h.1, gx_up h.2 o i.toNat v)) := by rw [gx_up, ← e2]; exact hD
  exact kk r h' hr2 p la e s m args below meth c D cA ad0 n0 A ad ls H1 locs1 E ⟨B.1, B.2.1, B.2.2.1, gx_ok_up B.2.2.2.1 hq h2, hP1, hD1, hS⟩ (gx_t1 (gx_t2 hs)) hlo hh
theorem gx_zast {v : Int} {K : gx_H → Option (Int × gx_H)} (hd : decode M.2.1 pc = .ok (.bastore, 1)) (kk : gx_Y M u (pc + 1) l st (h.1, gx_up h.2 o i.toNat v) (K (h.1, gx_up h.2 o i.toNat v))) : gx_Y M u pc l (gx_I v :: gx_I i :: gx_R o :: st) h (gq_ast 1 (v = 0 ∨ v = 1) h o i v K) := by
  intro r h' hr p la e s m args below meth c D cA ad0 n0 A ad ls H locs E B hs hlo hh
  obtain ⟨⟨t, n⟩, hq, hr1⟩ := gq_m hr
  obtain ⟨⟨rfl, h0, h1, h2⟩, hr2⟩ := gq_i hr1
  have hat : (gx_W cA ad h)[o]? = some (ad o, .inl (cA 1, n, .inl (fun j => Int32.ofInt (h.2 o j)))) := gx_W_at hq
  obtain ⟨hin, hc⟩ := gx_in h0 h1 (B.2.2.2.1 o _ hq).1
  refine va_zast E.1 E.2.1 B.1.1 B.2.2.2.2.1 B.2.2.2.2.2.1 B.2.2.2.2.2.2 o 1 hat rfl hin hd (fun H1 locs1 hP hD hS => ?_)
  have e0 : vp_nar .boolean (Int32.ofInt v) = Int32.ofInt v := by rcases h2 with e | e <;> subst e <;> rfl
  rw [hc, e0, gx_upd32] at hP hD
  have e2 := gx_W_set (cA := cA) (ad := ad) hq (gx_u1 (h.2 o) i.toNat v)
  have hP1 : va_P D gx_cls (gx_W cA ad (h.1, gx_up h.2 o i.toNat v)) H1 := by rw [gx_up, ← e2]; exact hP
  have hD1 : va_D A (gx_W cA ad (h.1, gx_up h.2 o i.toNat v)) := by rw [gx_up, ← e2]; exact hD
  exact kk r h' hr2 p la e s m args below meth c D cA ad0 n0 A ad ls H1 locs1 E ⟨B.1, B.2.1, B.2.2.1, gx_ok_up B.2.2.2.1 hq h2, hP1, hD1, hS⟩ (gx_t1 (gx_t2 hs)) hlo hh
end GXA
def gx_cpy (f g : Nat → Int) (sp dp n : Nat) : Nat → Int := fun k => if dp ≤ k ∧ k < dp + n then f (sp + (k - dp)) else g k
def gq_copy {β : Type} (h : gx_H) (src : Nat) (sp : Int) (dst : Nat) (dp n : Int) (K : gx_H → Option β) : Option β := (h.1[src]?).bind (fun q0 => (h.1[dst]?).bind (fun q1 => if q0.1 = 0 ∧ q1.1 = 0 ∧ 0 ≤ sp ∧ 0 ≤ dp ∧ 0 ≤ n ∧ sp + n ≤ (q0.2 : Int) ∧ dp + n ≤ (q1.2 : Int) then K (h.1, gx_us h.2 dst (gx_cpy (h.2 src) (h.2 dst) sp.toNat dp.toNat n.toNat)) else none))
def gx_ct (v : gx_V) : Nat := match v with
  | .inr (.inl _) => 2
  | _ => 1
def gx_cs (st : List gx_V) : Nat := (st.map gx_ct).sum
theorem gx_cs_eq (ad : Nat → Nat) (st : List gx_V) : ((st.map (gx_v ad)).map fun v => v.category).sum = gx_cs st := by
  induction st with
  | nil => rfl
  | cons v t ih =>
    simp only [List.map_cons, List.sum_cons, gx_cs] at ih ⊢
    rw [ih]
    match v with
    | .inl _ => rfl
    | .inr (.inl _) => rfl
    | .inr (.inr _) => rfl
theorem nw_copy_native : Cond.native arraycopyName ∈ lw_tbl := by decide +kernel
theorem nw_copy_static : Cond.static arraycopyName ∈ lw_tbl := by decide +kernel
theorem nw_copy_init : Cond.initialized "java/lang/System" ∈ lw_tbl := by decide +kernel
theorem nw_max_static : Cond.static Lib.Math.max.name ∈ lw_tbl := by decide +kernel
theorem nw_min_static : Cond.static Lib.Math.min.name ∈ lw_tbl := by decide +kernel
theorem nw_math_init : Cond.initialized "java/lang/Math" ∈ lw_tbl := by decide +kernel
theorem nw_max_code : Cond.code Lib.Math.max.name Lib.Math.max.code 2 (some .int) ∈ lw_tbl := by decide +kernel
theorem nw_min_code : Cond.code Lib.Math.min.name Lib.Math.min.code 2 (some .int) ∈ lw_tbl := by decide +kernel
theorem nw_obj_inst : Cond.instanceMethod Lib.objectInit ∈ lw_tbl := by decide +kernel
theorem nw_obj_code : Cond.code Lib.objectInit ⟨#[0xb1]⟩ 1 none ∈ lw_tbl := by decide +kernel
theorem gx_nn {i : Int} (h0 : 0 ≤ i) (h1 : i ≤ 2147483647) : ¬ Int32.ofInt i < 0 ∧ (Int32.ofInt i).toNatClampNeg = i.toNat := by
  refine ⟨fun z => ?_, Int32.toNatClampNeg_ofInt_of_le (by omega) (by omega)⟩
  have := (gx_ltI (a := i) (b := 0) ⟨by omega, by omega⟩ gx_i0).mp z
  omega
section GXL
variable {M : gx_M} {u : Nat × Nat} {pc : Nat} {l : List (Option gx_V)} {st : List gx_V} {h : gx_H} {res : Option (Int × gx_H)}
theorem gx_copy {src dst ix : Nat} {sp dp n : Int} {K : gx_H → Option (Int × gx_H)} (hl : Cond.methodLink M.1.cls ix arraycopyName ∈ lw_tbl) (hf : 1 ≤ M.2.2.2.2.1.frames) (hlo : gx_cs st + 18 ≤ M.2.2.2.2.1.locals) (hd : decode M.2.1 pc = .ok (.invokestatic ix, 3))
    (kk : gx_Y M u (pc + 3) l st (h.1, gx_us h.2 dst (gx_cpy (h.2 src) (h.2 dst) sp.toNat dp.toNat n.toNat)) (K (h.1, gx_us h.2 dst (gx_cpy (h.2 src) (h.2 dst) sp.toNat dp.toNat n.toNat)))) : gx_Y M u pc l (gx_I n :: gx_I dp :: gx_R dst :: gx_I sp :: gx_R src :: st) h (gq_copy h src sp dst dp n K) := by
  intro r h' hr p la e s m args below meth c D cA ad0 n0 A ad ls H locs E B hs hlo' hh
  obtain ⟨⟨t0, m0⟩, hq0, hr0⟩ := gq_m hr
  obtain ⟨⟨t1, m1⟩, hq1, hr1⟩ := gq_m hr0
  obtain ⟨⟨rfl, rfl, g1, g2, g3, g4, g5⟩, hr2⟩ := gq_i hr1
  have g4 : sp + n ≤ (m0 : Int) := g4
  have g5 : dp + n ≤ (m1 : Int) := g5
  have b0 : m0 ≤ 2147483647 := (B.2.2.2.1 src _ hq0).1
  have b1 : m1 ≤ 2147483647 := (B.2.2.2.1 dst _ hq1).1
  have hat0 : (gx_W cA ad h)[src]? = some (ad src, .inl (cA 0, m0, .inl (fun j => Int32.ofInt (h.2 src j)))) := gx_W_at hq0
  have hat1 : (gx_W cA ad h)[dst]? = some (ad dst, .inl (cA 0, m1, .inl (fun j => Int32.ofInt (h.2 dst j)))) := gx_W_at hq1
  obtain ⟨s1, s2⟩ := gx_nn g1 (by omega)
  obtain ⟨d1, d2⟩ := gx_nn g2 (by omega)
  obtain ⟨k1, k2⟩ := gx_nn g3 (by omega)
  refine va_copyi E.1 E.2.1 (E.2.2.1.trans hh.1.symm) E.2.2.2.1 (E.2.2.2.2.1 _ (gx_gd hl rfl)) (E.2.2.2.2.1 _ (gx_gd nw_copy_native rfl)) (E.2.2.2.2.1 _ (gx_gd nw_copy_static rfl)) (E.2.2.2.2.1 _ (gx_gd nw_copy_init rfl)) B.1.1 B.2.2.2.2.1 B.2.2.2.2.2.1 B.2.2.2.2.2.2 src dst 0 0 hat0 hat1 rfl rfl rfl s1 d1 k1 (by rw [s2, k2]; omega) (by rw [d2, k2]; omega) (fun _ _ => rfl) hf (by show ((st.map (gx_v ad)).map fun v => v.category).sum + (nativeFrameWords "java/lang/System" "arraycopy" 5 + 11) ≤ _; rw [gx_cs_eq, show nativeFrameWords "java/lang/System" "arraycopy" 5 = 7 from by decide]; exact hlo) hd (fun H1 locs1 hP hD hS => ?_)
  rw [s2, d2, k2] at hP hD
  have e0 : va_cpy (fun j => Int32.ofInt (h.2 src j)) (fun j => Int32.ofInt (h.2 dst j)) sp.toNat dp.toNat n.toNat = fun j => Int32.ofInt (gx_cpy (h.2 src) (h.2 dst) sp.toNat dp.toNat n.toNat j) := by
    funext j
    unfold va_cpy gx_cpy
    by_cases e : dp.toNat ≤ j ∧ j < dp.toNat + n.toNat
    · rw [if_pos e, if_pos e]
    · rw [if_neg e, if_neg e]
  rw [e0] at hP hD
  have e2 := gx_W_set (cA := cA) (ad := ad) hq1 (gx_cpy (h.2 src) (h.2 dst) sp.toNat dp.toNat n.toNat)
  have hP1 : va_P D gx_cls (gx_W cA ad (h.1, gx_us h.2 dst (gx_cpy (h.2 src) (h.2 dst) sp.toNat dp.toNat n.toNat))) H1 := by rw [← e2]; exact hP
  have hD1 : va_D A (gx_W cA ad (h.1, gx_us h.2 dst (gx_cpy (h.2 src) (h.2 dst) sp.toNat dp.toNat n.toNat))) := by rw [← e2]; exact hD
  refine kk r h' hr2 p la e s m args below meth c D cA ad0 n0 A ad ls H1 locs1 E ⟨B.1, B.2.1, B.2.2.1, gx_ok_us B.2.2.2.1 hq1 (fun j hj => ?_), hP1, hD1, hS⟩ (gx_t1 (gx_t2 (gx_t2 hs))) hlo' hh
  show gx_i (gx_cpy (h.2 src) (h.2 dst) sp.toNat dp.toNat n.toNat j)
  unfold gx_cpy
  by_cases e : dp.toNat ≤ j ∧ j < dp.toNat + n.toNat
  · rw [if_pos e]; exact (B.2.2.2.1 src _ hq0).2 (sp.toNat + (j - dp.toNat)) (show _ < m0 by omega)
  · rw [if_neg e]; exact (B.2.2.2.1 dst _ hq1).2 j hj
theorem gx_max {a b : Int} {ix : Nat} (ha : gx_i a) (hb : gx_i b) (hl : Cond.methodLink M.1.cls ix Lib.Math.max.name ∈ lw_tbl) (hf : 1 ≤ M.2.2.2.2.1.frames) (hlo : gx_cs st + 13 ≤ M.2.2.2.2.1.locals) (hu : u.1 ≤ M.2.2.2.2.1.cells ∧ u.2 ≤ M.2.2.2.2.1.slots) (hd : decode M.2.1 pc = .ok (.invokestatic ix, 3))
    (k : gx_Y M u (pc + 3) l (gx_I (if a < b then b else a) :: st) h res) : gx_Y M u pc l (gx_I b :: gx_I a :: st) h res :=
  gx_pure k (fun _ hs _ => gx_c2 hs trivial) (fun _ _ _ _ _ _ _ _ _ ad _ _ _ _ E L w => va_mmax E.1 E.2.1 (E.2.2.1.trans L.1.symm) E.2.2.2.1 (E.2.2.2.2.1 _ (gx_gd hl rfl)) (E.2.2.2.2.1 _ (gx_gd nw_max_static rfl)) (E.2.2.2.2.1 _ (gx_gd nw_math_init rfl)) (E.2.2.2.2.1 _ (gx_gd nw_max_code rfl)) hf (by show ((st.map (gx_v ad)).map fun v => v.category).sum + 13 ≤ _; rw [gx_cs_eq]; exact hlo) hu.1 hu.2 hd (by
    have e : (if Int32.ofInt a < Int32.ofInt b then Int32.ofInt b else Int32.ofInt a) = Int32.ofInt (if a < b then b else a) := by
      by_cases c : a < b
      · rw [if_pos c, if_pos ((gx_ltI ha hb).mpr c)]
      · rw [if_neg c, if_neg (fun z => c ((gx_ltI ha hb).mp z))]
    rw [e]; exact w))
theorem gx_min {a b : Int} {ix : Nat} (ha : gx_i a) (hb : gx_i b) (hl : Cond.methodLink M.1.cls ix Lib.Math.min.name ∈ lw_tbl) (hf : 1 ≤ M.2.2.2.2.1.frames) (hlo : gx_cs st + 13 ≤ M.2.2.2.2.1.locals) (hu : u.1 ≤ M.2.2.2.2.1.cells ∧ u.2 ≤ M.2.2.2.2.1.slots) (hd : decode M.2.1 pc = .ok (.invokestatic ix, 3))
    (k : gx_Y M u (pc + 3) l (gx_I (if b < a then b else a) :: st) h res) : gx_Y M u pc l (gx_I b :: gx_I a :: st) h res :=
  gx_pure k (fun _ hs _ => gx_c2 hs trivial) (fun _ _ _ _ _ _ _ _ _ ad _ _ _ _ E L w => va_mmin E.1 E.2.1 (E.2.2.1.trans L.1.symm) E.2.2.2.1 (E.2.2.2.2.1 _ (gx_gd hl rfl)) (E.2.2.2.2.1 _ (gx_gd nw_min_static rfl)) (E.2.2.2.2.1 _ (gx_gd nw_math_init rfl)) (E.2.2.2.2.1 _ (gx_gd nw_min_code rfl)) hf (by show ((st.map (gx_v ad)).map fun v => v.category).sum + 13 ≤ _; rw [gx_cs_eq]; exact hlo) hu.1 hu.2 hd (by
    have e : (if Int32.ofInt b < Int32.ofInt a then Int32.ofInt b else Int32.ofInt a) = Int32.ofInt (if b < a then b else a) := by
      by_cases c : b < a
      · rw [if_pos c, if_pos ((gx_ltI hb ha).mpr c)]
      · rw [if_neg c, if_neg (fun z => c ((gx_ltI hb ha).mp z))]
    rw [e]; exact w))
theorem gx_obj {o ix : Nat} (hl : Cond.methodLink M.1.cls ix Lib.objectInit ∈ lw_tbl) (hf : 1 ≤ M.2.2.2.2.1.frames) (hlo : gx_cs st + 12 ≤ M.2.2.2.2.1.locals) (hd : decode M.2.1 pc = .ok (.invokespecial ix, 3)) (k : gx_Y M u (pc + 3) l st h res) : gx_Y M u pc l (gx_R o :: st) h res :=
  gx_pure k (fun _ hs _ => gx_t1 hs) (fun _ _ _ _ m _ _ _ _ ad ls _ _ _ E L w => W.objInit E.1 E.2.1 E.2.2.2.1 (E.2.2.2.2.1 _ (gx_gd hl rfl)) (E.2.2.2.2.1 _ (gx_gd nw_obj_inst rfl)) (E.2.2.2.2.1 _ (gx_gd nw_obj_code rfl)) rfl (L.1.trans E.2.2.1.symm) rfl hd hf (by
    have e1 : (F0 m pc ls ((gx_R o :: st).map (gx_v ad))).monitorRoom = 0 := rfl
    rw [e1]
    show 2 * 0 + ((st.map (gx_v ad)).map fun v => v.category).sum + 12 ≤ _
    rw [gx_cs_eq]; omega) w)
theorem gx_end {p : Program} {s : State} {m : MethodId} {args : Array Value} {meth : Method} {c : Code} {D : va_G} {cA : Nat → ClassId} {ad0 : Nat → Nat} {n0 : Nat} {A : Nat → Prop} {ad : Nat → Nat} {H : Heap} {locs : List Loc} {a : Int} {v : Option Value} (B : gx_B D cA ad0 n0 A s ad H locs h) (hv : v = gx_ret M.2.2.2.1 a) (t : State) (ht : t.heap = H) : gx_Q M.2.2.2.1 cA D ad0 n0 A a h args s (.returned v) t := by
  refine ⟨⟨ad, B.2.2.1.2, B.2.2.1.1, by rw [hv], B.2.2.2.1, by rw [ht]; exact B.2.2.2.2.1, B.2.2.2.2.2.1⟩, B.2.2.2.2.2.2.F ht⟩
theorem gx_ireturn {a : Int} (hu : M.2.2.2.2.2 = u) (hret : M.2.2.2.1 = some .int) (hd : decode M.2.1 pc = .ok (.ireturn, 1)) : gx_Y M u pc l [gx_I a] h (some (a, h)) := by
  intro r h' hr p la e s m args below meth c D cA ad0 n0 A ad ls H locs E B hs hlo hh
  cases hr
  subst hu
  exact W.iret (v := Int32.ofInt a) E.1 E.2.1 (E.2.2.2.2.2.1.trans hret) (fun t ht _ => gx_end (p := p) (m := m) (meth := meth) (c := c) B (by rw [hret]; rfl) t ht) B.2.2.2.2.2.2.2.2 hd E.2.2.2.2.2.2.1
theorem gx_zreturn {a : Int} (ha : a = 0 ∨ a = 1) (hu : M.2.2.2.2.2 = u) (hret : M.2.2.2.1 = some .boolean) (hd : decode M.2.1 pc = .ok (.ireturn, 1)) : gx_Y M u pc l [gx_I a] h (some (a, h)) := by
  intro r h' hr p la e s m args below meth c D cA ad0 n0 A ad ls H locs E B hs hlo hh
  cases hr
  subst hu
  exact W.zret (v := Int32.ofInt a) E.1 E.2.1 (E.2.2.2.2.2.1.trans hret) (by rcases ha with e | e <;> subst e <;> rfl) (fun t ht _ => gx_end (p := p) (m := m) (meth := meth) (c := c) B (by rw [hret]; rfl) t ht) B.2.2.2.2.2.2.2.2 hd E.2.2.2.2.2.2.1
theorem gx_return (hu : M.2.2.2.2.2 = u) (hret : M.2.2.2.1 = none) (hd : decode M.2.1 pc = .ok (.return_, 1)) : gx_Y M u pc l [] h (some (0, h)) := by
  intro r h' hr p la e s m args below meth c D cA ad0 n0 A ad ls H locs E B hs hlo hh
  cases hr
  subst hu
  exact W.vret E.1 E.2.1 (E.2.2.2.2.2.1.trans hret) (fun t ht _ => gx_end (p := p) (m := m) (meth := meth) (c := c) B (by rw [hret]; rfl) t ht) B.2.2.2.2.2.2.2.2 hd E.2.2.2.2.2.2.1
end GXL
