/-! rows in the shape that the printed walks use -/
theorem gx_none {M : gx_M} {u : Nat × Nat} {pc : Nat} {l : List (Option gx_V)} {st : List gx_V} {h : gx_H} : gx_Y M u pc l st h none := fun _ _ hr => by cases hr
theorem gx_less' {M : gx_M} {u : Nat × Nat} {pc : Nat} {l l' : List (Option gx_V)} {st : List gx_V} {h : gx_H} {res : Option (Int × gx_H)} (k : gx_Y M u pc l' st h res) (hl : gx_le l' l) : gx_Y M u pc l st h res := gx_less hl k
theorem gx_il {a : Int} (h : gx_i a) : gx_l a := ⟨by have := h.1; omega, by have := h.2; omega⟩
theorem gx_toI (x : Int32) : gx_i x.toInt := ⟨by have := Int32.le_toInt x; omega, by have := Int32.toInt_lt x; omega⟩
theorem gx_toL (x : Int64) : gx_l x.toInt := ⟨by have := Int64.le_toInt x; omega, by have := Int64.toInt_lt x; omega⟩
theorem gx_cmpI (a b : Int) : gx_i (gq_cmp a b) := by
  unfold gq_cmp
  split
  · decide
  · split <;> decide
def gx_fu : Nat := 1000000
section GXU
variable {M : gx_M} {u : Nat × Nat} {pc : Nat} {l : List (Option gx_V)} {st : List gx_V} {h : gx_H} {ci k ix o : Nat} {C : String} {T : u_T} {N : Nat} {ty : Nat → FieldType}
theorem gx_geti {K : Int → Option (Int × gx_H)} (g : gx_CL ci C T N ty) (hN : k < N) (hl : Cond.fieldLink M.1.cls ix C (T k).2.1 (T k).2.2.1 ∈ lw_tbl) (ht : gx_fty ci k = 0 ∨ gx_fty ci k = 1) (hd : decode M.2.1 pc = .ok (.getfield ix, 3)) (kk : gx_i (h.2 o k) → gx_Y M u (pc + 3) l (gx_I (h.2 o k) :: st) h (K (h.2 o k))) : gx_Y M u pc l (gx_R o :: st) h (gq_get h o ci k K) := by
  intro r h' hr p la e s m args below meth c D cA ad0 n0 A ad ls H locs E B hs hlo hh
  obtain ⟨⟨t, n⟩, hq, hr1⟩ := gq_m hr
  obtain ⟨⟨rfl, hkn⟩, hr2⟩ := gq_i hr1
  have h1 : gx_sl h.1.length (gx_fty ci k) (h.2 o k) := (B.2.2.2.1 o _ hq).2 k hkn
  have hi : gx_i (h.2 o k) := by
    rcases ht with e | e
    · rw [e] at h1; exact h1
    · rw [e] at h1; rcases h1 with z | z <;> rw [z] <;> decide
  exact gx_get g hN hl ht hd (kk hi) r h' hr p la e s m args below meth c D cA ad0 n0 A ad ls H locs E B hs hlo hh
theorem gx_getL {K : Int → Option (Int × gx_H)} (g : gx_CL ci C T N ty) (hN : k < N) (hl : Cond.fieldLink M.1.cls ix C (T k).2.1 (T k).2.2.1 ∈ lw_tbl) (ht : gx_fty ci k = 2) (hd : decode M.2.1 pc = .ok (.getfield ix, 3)) (kk : gx_l (h.2 o k) → gx_Y M u (pc + 3) l (gx_L (h.2 o k) :: st) h (K (h.2 o k))) : gx_Y M u pc l (gx_R o :: st) h (gq_get h o ci k K) := by
  intro r h' hr p la e s m args below meth c D cA ad0 n0 A ad ls H locs E B hs hlo hh
  obtain ⟨⟨t, n⟩, hq, hr1⟩ := gq_m hr
  obtain ⟨⟨rfl, hkn⟩, hr2⟩ := gq_i hr1
  have h1 : gx_sl h.1.length (gx_fty ci k) (h.2 o k) := (B.2.2.2.1 o _ hq).2 k hkn
  rw [ht] at h1
  exact gx_getl g hN hl ht hd (kk h1) r h' hr p la e s m args below meth c D cA ad0 n0 A ad ls H locs E B hs hlo hh
theorem gx_ialdi {i : Int} {K : Int → Option (Int × gx_H)} (hd : decode M.2.1 pc = .ok (.iaload, 1)) (kk : gx_i (h.2 o i.toNat) → gx_Y M u (pc + 1) l (gx_I (h.2 o i.toNat) :: st) h (K (h.2 o i.toNat))) : gx_Y M u pc l (gx_I i :: gx_R o :: st) h (gq_ald 0 h o i K) := by
  intro r h' hr p la e s m args below meth c D cA ad0 n0 A ad ls H locs E B hs hlo hh
  obtain ⟨⟨t, n⟩, hq, hr1⟩ := gq_m hr
  obtain ⟨⟨rfl, h0, h1⟩, hr2⟩ := gq_i hr1
  have h1 : i < (n : Int) := h1
  exact gx_iald hd (kk ((B.2.2.2.1 o _ hq).2 i.toNat (show i.toNat < n by omega))) r h' hr p la e s m args below meth c D cA ad0 n0 A ad ls H locs E B hs hlo hh
theorem gx_zaldi {i : Int} {K : Int → Option (Int × gx_H)} (hd : decode M.2.1 pc = .ok (.baload, 1)) (kk : gx_i (h.2 o i.toNat) → gx_Y M u (pc + 1) l (gx_I (h.2 o i.toNat) :: st) h (K (h.2 o i.toNat))) : gx_Y M u pc l (gx_I i :: gx_R o :: st) h (gq_ald 1 h o i K) := by
  intro r h' hr p la e s m args below meth c D cA ad0 n0 A ad ls H locs E B hs hlo hh
  obtain ⟨⟨t, n⟩, hq, hr1⟩ := gq_m hr
  obtain ⟨⟨rfl, h0, h1⟩, hr2⟩ := gq_i hr1
  have h1 : i < (n : Int) := h1
  have h2 : gx_sl h.1.length 1 (h.2 o i.toNat) := (B.2.2.2.1 o _ hq).2 i.toNat (show i.toNat < n by omega)
  exact gx_zald hd (kk (by rcases h2 with z | z <;> rw [z] <;> decide)) r h' hr p la e s m args below meth c D cA ad0 n0 A ad ls H locs E B hs hlo hh
end GXU
def gx_VK (Mc : gx_M) (n ci : Nat) : Prop := gx_CK Mc n ∧ Cond.instanceMethod Mc.1 ∈ lw_tbl ∧ Cond.selects Mc.1.cls Mc.1 Mc.1 ∈ lw_tbl ∧ ∃ q, gx_cls[ci]? = some q ∧ q.1 = Mc.1.cls
def gx_SK (Mc : gx_M) (n : Nat) : Prop := gx_CK Mc n ∧ Cond.static Mc.1 ∈ lw_tbl
def gx_IK (Mc : gx_M) : Prop := gx_CK Mc 0 ∧ Cond.instanceMethod Mc.1 ∈ lw_tbl ∧ Mc.1.name = "<init>" ∧ Mc.2.2.2.1 = none
section GXX
variable {M Mc : gx_M} {u u' : Nat × Nat} {pc : Nat} {l : List (Option gx_V)} {st : List gx_V} {h : gx_H} {ix : Nat} {x : Option (Int × gx_H)} {K : Int → gx_H → Option (Int × gx_H)} {w1 w2 w3 w4 w5 : gx_V} {ty : FieldType} {o ci : Nat}
theorem gx_cVi0 (hM : ∀ r h1, x = some (r, h1) → gx_Met Mc [gx_R o] h r h1) (vk : gx_VK Mc 0 ci) (hl : Cond.methodLink M.1.cls ix Mc.1 ∈ lw_tbl) (hret : Mc.2.2.2.1 = some ty) (hu : (u.1 + Mc.2.2.2.2.2.1, u.2 + Mc.2.2.2.2.2.2) = u') (hrm : gx_rm M Mc u) (h8 : gx_cs st ≤ 8) (hd : decode M.2.1 pc = .ok (.invokevirtual ix, 3)) (k : ∀ r h1, gx_Y M u' (pc + 3) l (gx_I r :: st) h1 (K r h1)) : gx_Y M u pc l (gx_R o :: st) h (gq_cv h o ci x K) := by
  obtain ⟨ck, hin, hsel, q, hcl, hq⟩ := vk
  subst hu
  exact gx_callV (avs := []) hM ck hin hsel hcl hq hl rfl hrm h8 hd (fun r h1 => by rw [hret]; exact k r h1)
theorem gx_cVv0 (hM : ∀ r h1, x = some (r, h1) → gx_Met Mc [gx_R o] h r h1) (vk : gx_VK Mc 0 ci) (hl : Cond.methodLink M.1.cls ix Mc.1 ∈ lw_tbl) (hret : Mc.2.2.2.1 = none) (hu : (u.1 + Mc.2.2.2.2.2.1, u.2 + Mc.2.2.2.2.2.2) = u') (hrm : gx_rm M Mc u) (h8 : gx_cs st ≤ 8) (hd : decode M.2.1 pc = .ok (.invokevirtual ix, 3)) (k : ∀ r h1, gx_Y M u' (pc + 3) l (st) h1 (K r h1)) : gx_Y M u pc l (gx_R o :: st) h (gq_cv h o ci x K) := by
  obtain ⟨ck, hin, hsel, q, hcl, hq⟩ := vk
  subst hu
  exact gx_callV (avs := []) hM ck hin hsel hcl hq hl rfl hrm h8 hd (fun r h1 => by rw [hret]; exact k r h1)
theorem gx_cVi1 (hM : ∀ r h1, x = some (r, h1) → gx_Met Mc [gx_R o, w1] h r h1) (vk : gx_VK Mc 1 ci) (hl : Cond.methodLink M.1.cls ix Mc.1 ∈ lw_tbl) (hret : Mc.2.2.2.1 = some ty) (hu : (u.1 + Mc.2.2.2.2.2.1, u.2 + Mc.2.2.2.2.2.2) = u') (hrm : gx_rm M Mc u) (h8 : gx_cs st ≤ 8) (hd : decode M.2.1 pc = .ok (.invokevirtual ix, 3)) (k : ∀ r h1, gx_Y M u' (pc + 3) l (gx_I r :: st) h1 (K r h1)) : gx_Y M u pc l (w1 :: gx_R o :: st) h (gq_cv h o ci x K) := by
  obtain ⟨ck, hin, hsel, q, hcl, hq⟩ := vk
  subst hu
  exact gx_callV (avs := [w1]) hM ck hin hsel hcl hq hl rfl hrm h8 hd (fun r h1 => by rw [hret]; exact k r h1)
theorem gx_cVv1 (hM : ∀ r h1, x = some (r, h1) → gx_Met Mc [gx_R o, w1] h r h1) (vk : gx_VK Mc 1 ci) (hl : Cond.methodLink M.1.cls ix Mc.1 ∈ lw_tbl) (hret : Mc.2.2.2.1 = none) (hu : (u.1 + Mc.2.2.2.2.2.1, u.2 + Mc.2.2.2.2.2.2) = u') (hrm : gx_rm M Mc u) (h8 : gx_cs st ≤ 8) (hd : decode M.2.1 pc = .ok (.invokevirtual ix, 3)) (k : ∀ r h1, gx_Y M u' (pc + 3) l (st) h1 (K r h1)) : gx_Y M u pc l (w1 :: gx_R o :: st) h (gq_cv h o ci x K) := by
  obtain ⟨ck, hin, hsel, q, hcl, hq⟩ := vk
  subst hu
  exact gx_callV (avs := [w1]) hM ck hin hsel hcl hq hl rfl hrm h8 hd (fun r h1 => by rw [hret]; exact k r h1)
theorem gx_cVi2 (hM : ∀ r h1, x = some (r, h1) → gx_Met Mc [gx_R o, w1, w2] h r h1) (vk : gx_VK Mc 2 ci) (hl : Cond.methodLink M.1.cls ix Mc.1 ∈ lw_tbl) (hret : Mc.2.2.2.1 = some ty) (hu : (u.1 + Mc.2.2.2.2.2.1, u.2 + Mc.2.2.2.2.2.2) = u') (hrm : gx_rm M Mc u) (h8 : gx_cs st ≤ 8) (hd : decode M.2.1 pc = .ok (.invokevirtual ix, 3)) (k : ∀ r h1, gx_Y M u' (pc + 3) l (gx_I r :: st) h1 (K r h1)) : gx_Y M u pc l (w2 :: w1 :: gx_R o :: st) h (gq_cv h o ci x K) := by
  obtain ⟨ck, hin, hsel, q, hcl, hq⟩ := vk
  subst hu
  exact gx_callV (avs := [w1, w2]) hM ck hin hsel hcl hq hl rfl hrm h8 hd (fun r h1 => by rw [hret]; exact k r h1)
theorem gx_cVv2 (hM : ∀ r h1, x = some (r, h1) → gx_Met Mc [gx_R o, w1, w2] h r h1) (vk : gx_VK Mc 2 ci) (hl : Cond.methodLink M.1.cls ix Mc.1 ∈ lw_tbl) (hret : Mc.2.2.2.1 = none) (hu : (u.1 + Mc.2.2.2.2.2.1, u.2 + Mc.2.2.2.2.2.2) = u') (hrm : gx_rm M Mc u) (h8 : gx_cs st ≤ 8) (hd : decode M.2.1 pc = .ok (.invokevirtual ix, 3)) (k : ∀ r h1, gx_Y M u' (pc + 3) l (st) h1 (K r h1)) : gx_Y M u pc l (w2 :: w1 :: gx_R o :: st) h (gq_cv h o ci x K) := by
  obtain ⟨ck, hin, hsel, q, hcl, hq⟩ := vk
  subst hu
  exact gx_callV (avs := [w1, w2]) hM ck hin hsel hcl hq hl rfl hrm h8 hd (fun r h1 => by rw [hret]; exact k r h1)
theorem gx_cVi3 (hM : ∀ r h1, x = some (r, h1) → gx_Met Mc [gx_R o, w1, w2, w3] h r h1) (vk : gx_VK Mc 3 ci) (hl : Cond.methodLink M.1.cls ix Mc.1 ∈ lw_tbl) (hret : Mc.2.2.2.1 = some ty) (hu : (u.1 + Mc.2.2.2.2.2.1, u.2 + Mc.2.2.2.2.2.2) = u') (hrm : gx_rm M Mc u) (h8 : gx_cs st ≤ 8) (hd : decode M.2.1 pc = .ok (.invokevirtual ix, 3)) (k : ∀ r h1, gx_Y M u' (pc + 3) l (gx_I r :: st) h1 (K r h1)) : gx_Y M u pc l (w3 :: w2 :: w1 :: gx_R o :: st) h (gq_cv h o ci x K) := by
  obtain ⟨ck, hin, hsel, q, hcl, hq⟩ := vk
  subst hu
  exact gx_callV (avs := [w1, w2, w3]) hM ck hin hsel hcl hq hl rfl hrm h8 hd (fun r h1 => by rw [hret]; exact k r h1)
theorem gx_cVv3 (hM : ∀ r h1, x = some (r, h1) → gx_Met Mc [gx_R o, w1, w2, w3] h r h1) (vk : gx_VK Mc 3 ci) (hl : Cond.methodLink M.1.cls ix Mc.1 ∈ lw_tbl) (hret : Mc.2.2.2.1 = none) (hu : (u.1 + Mc.2.2.2.2.2.1, u.2 + Mc.2.2.2.2.2.2) = u') (hrm : gx_rm M Mc u) (h8 : gx_cs st ≤ 8) (hd : decode M.2.1 pc = .ok (.invokevirtual ix, 3)) (k : ∀ r h1, gx_Y M u' (pc + 3) l (st) h1 (K r h1)) : gx_Y M u pc l (w3 :: w2 :: w1 :: gx_R o :: st) h (gq_cv h o ci x K) := by
  obtain ⟨ck, hin, hsel, q, hcl, hq⟩ := vk
  subst hu
  exact gx_callV (avs := [w1, w2, w3]) hM ck hin hsel hcl hq hl rfl hrm h8 hd (fun r h1 => by rw [hret]; exact k r h1)
theorem gx_cVi4 (hM : ∀ r h1, x = some (r, h1) → gx_Met Mc [gx_R o, w1, w2, w3, w4] h r h1) (vk : gx_VK Mc 4 ci) (hl : Cond.methodLink M.1.cls ix Mc.1 ∈ lw_tbl) (hret : Mc.2.2.2.1 = some ty) (hu : (u.1 + Mc.2.2.2.2.2.1, u.2 + Mc.2.2.2.2.2.2) = u') (hrm : gx_rm M Mc u) (h8 : gx_cs st ≤ 8) (hd : decode M.2.1 pc = .ok (.invokevirtual ix, 3)) (k : ∀ r h1, gx_Y M u' (pc + 3) l (gx_I r :: st) h1 (K r h1)) : gx_Y M u pc l (w4 :: w3 :: w2 :: w1 :: gx_R o :: st) h (gq_cv h o ci x K) := by
  obtain ⟨ck, hin, hsel, q, hcl, hq⟩ := vk
  subst hu
  exact gx_callV (avs := [w1, w2, w3, w4]) hM ck hin hsel hcl hq hl rfl hrm h8 hd (fun r h1 => by rw [hret]; exact k r h1)
theorem gx_cVv4 (hM : ∀ r h1, x = some (r, h1) → gx_Met Mc [gx_R o, w1, w2, w3, w4] h r h1) (vk : gx_VK Mc 4 ci) (hl : Cond.methodLink M.1.cls ix Mc.1 ∈ lw_tbl) (hret : Mc.2.2.2.1 = none) (hu : (u.1 + Mc.2.2.2.2.2.1, u.2 + Mc.2.2.2.2.2.2) = u') (hrm : gx_rm M Mc u) (h8 : gx_cs st ≤ 8) (hd : decode M.2.1 pc = .ok (.invokevirtual ix, 3)) (k : ∀ r h1, gx_Y M u' (pc + 3) l (st) h1 (K r h1)) : gx_Y M u pc l (w4 :: w3 :: w2 :: w1 :: gx_R o :: st) h (gq_cv h o ci x K) := by
  obtain ⟨ck, hin, hsel, q, hcl, hq⟩ := vk
  subst hu
  exact gx_callV (avs := [w1, w2, w3, w4]) hM ck hin hsel hcl hq hl rfl hrm h8 hd (fun r h1 => by rw [hret]; exact k r h1)
theorem gx_cVi5 (hM : ∀ r h1, x = some (r, h1) → gx_Met Mc [gx_R o, w1, w2, w3, w4, w5] h r h1) (vk : gx_VK Mc 5 ci) (hl : Cond.methodLink M.1.cls ix Mc.1 ∈ lw_tbl) (hret : Mc.2.2.2.1 = some ty) (hu : (u.1 + Mc.2.2.2.2.2.1, u.2 + Mc.2.2.2.2.2.2) = u') (hrm : gx_rm M Mc u) (h8 : gx_cs st ≤ 8) (hd : decode M.2.1 pc = .ok (.invokevirtual ix, 3)) (k : ∀ r h1, gx_Y M u' (pc + 3) l (gx_I r :: st) h1 (K r h1)) : gx_Y M u pc l (w5 :: w4 :: w3 :: w2 :: w1 :: gx_R o :: st) h (gq_cv h o ci x K) := by
  obtain ⟨ck, hin, hsel, q, hcl, hq⟩ := vk
  subst hu
  exact gx_callV (avs := [w1, w2, w3, w4, w5]) hM ck hin hsel hcl hq hl rfl hrm h8 hd (fun r h1 => by rw [hret]; exact k r h1)
theorem gx_cVv5 (hM : ∀ r h1, x = some (r, h1) → gx_Met Mc [gx_R o, w1, w2, w3, w4, w5] h r h1) (vk : gx_VK Mc 5 ci) (hl : Cond.methodLink M.1.cls ix Mc.1 ∈ lw_tbl) (hret : Mc.2.2.2.1 = none) (hu : (u.1 + Mc.2.2.2.2.2.1, u.2 + Mc.2.2.2.2.2.2) = u') (hrm : gx_rm M Mc u) (h8 : gx_cs st ≤ 8) (hd : decode M.2.1 pc = .ok (.invokevirtual ix, 3)) (k : ∀ r h1, gx_Y M u' (pc + 3) l (st) h1 (K r h1)) : gx_Y M u pc l (w5 :: w4 :: w3 :: w2 :: w1 :: gx_R o :: st) h (gq_cv h o ci x K) := by
  obtain ⟨ck, hin, hsel, q, hcl, hq⟩ := vk
  subst hu
  exact gx_callV (avs := [w1, w2, w3, w4, w5]) hM ck hin hsel hcl hq hl rfl hrm h8 hd (fun r h1 => by rw [hret]; exact k r h1)
theorem gx_cSi1 (hM : ∀ r h1, x = some (r, h1) → gx_Met Mc [w1] h r h1) (sk : gx_SK Mc 1) (hl : Cond.methodLink M.1.cls ix Mc.1 ∈ lw_tbl) (hret : Mc.2.2.2.1 = some ty) (hu : (u.1 + Mc.2.2.2.2.2.1, u.2 + Mc.2.2.2.2.2.2) = u') (hrm : gx_rm M Mc u) (h8 : gx_cs st ≤ 8) (hd : decode M.2.1 pc = .ok (.invokestatic ix, 3)) (k : ∀ r h1, gx_Y M u' (pc + 3) l (gx_I r :: st) h1 (K r h1)) : gx_Y M u pc l (w1 :: st) h (gq_call x K) := by
  subst hu
  exact gx_callS (avs := [w1]) hM sk.1 sk.2 hl rfl hrm h8 hd (fun r h1 => by rw [hret]; exact k r h1)
theorem gx_cSNi1 (hM : ∀ r h1, x = some (r, h1) → gx_Met Mc [w1] h r h1) (sk : gx_SK Mc 1) (hl : Cond.methodLinkNest M.1.cls ix Mc.1 "LetterExchange" ∈ lw_tbl) (hret : Mc.2.2.2.1 = some ty) (hu : (u.1 + Mc.2.2.2.2.2.1, u.2 + Mc.2.2.2.2.2.2) = u') (hrm : gx_rm M Mc u) (h8 : gx_cs st ≤ 8) (hd : decode M.2.1 pc = .ok (.invokestatic ix, 3)) (k : ∀ r h1, gx_Y M u' (pc + 3) l (gx_I r :: st) h1 (K r h1)) : gx_Y M u pc l (w1 :: st) h (gq_call x K) := by
  subst hu
  exact gx_callSN (avs := [w1]) hM sk.1 sk.2 hl rfl hrm h8 hd (fun r h1 => by rw [hret]; exact k r h1)
theorem gx_cSv1 (hM : ∀ r h1, x = some (r, h1) → gx_Met Mc [w1] h r h1) (sk : gx_SK Mc 1) (hl : Cond.methodLink M.1.cls ix Mc.1 ∈ lw_tbl) (hret : Mc.2.2.2.1 = none) (hu : (u.1 + Mc.2.2.2.2.2.1, u.2 + Mc.2.2.2.2.2.2) = u') (hrm : gx_rm M Mc u) (h8 : gx_cs st ≤ 8) (hd : decode M.2.1 pc = .ok (.invokestatic ix, 3)) (k : ∀ r h1, gx_Y M u' (pc + 3) l (st) h1 (K r h1)) : gx_Y M u pc l (w1 :: st) h (gq_call x K) := by
  subst hu
  exact gx_callS (avs := [w1]) hM sk.1 sk.2 hl rfl hrm h8 hd (fun r h1 => by rw [hret]; exact k r h1)
theorem gx_cSNv1 (hM : ∀ r h1, x = some (r, h1) → gx_Met Mc [w1] h r h1) (sk : gx_SK Mc 1) (hl : Cond.methodLinkNest M.1.cls ix Mc.1 "LetterExchange" ∈ lw_tbl) (hret : Mc.2.2.2.1 = none) (hu : (u.1 + Mc.2.2.2.2.2.1, u.2 + Mc.2.2.2.2.2.2) = u') (hrm : gx_rm M Mc u) (h8 : gx_cs st ≤ 8) (hd : decode M.2.1 pc = .ok (.invokestatic ix, 3)) (k : ∀ r h1, gx_Y M u' (pc + 3) l (st) h1 (K r h1)) : gx_Y M u pc l (w1 :: st) h (gq_call x K) := by
  subst hu
  exact gx_callSN (avs := [w1]) hM sk.1 sk.2 hl rfl hrm h8 hd (fun r h1 => by rw [hret]; exact k r h1)
theorem gx_cSi2 (hM : ∀ r h1, x = some (r, h1) → gx_Met Mc [w1, w2] h r h1) (sk : gx_SK Mc 2) (hl : Cond.methodLink M.1.cls ix Mc.1 ∈ lw_tbl) (hret : Mc.2.2.2.1 = some ty) (hu : (u.1 + Mc.2.2.2.2.2.1, u.2 + Mc.2.2.2.2.2.2) = u') (hrm : gx_rm M Mc u) (h8 : gx_cs st ≤ 8) (hd : decode M.2.1 pc = .ok (.invokestatic ix, 3)) (k : ∀ r h1, gx_Y M u' (pc + 3) l (gx_I r :: st) h1 (K r h1)) : gx_Y M u pc l (w2 :: w1 :: st) h (gq_call x K) := by
  subst hu
  exact gx_callS (avs := [w1, w2]) hM sk.1 sk.2 hl rfl hrm h8 hd (fun r h1 => by rw [hret]; exact k r h1)
theorem gx_cSNi2 (hM : ∀ r h1, x = some (r, h1) → gx_Met Mc [w1, w2] h r h1) (sk : gx_SK Mc 2) (hl : Cond.methodLinkNest M.1.cls ix Mc.1 "LetterExchange" ∈ lw_tbl) (hret : Mc.2.2.2.1 = some ty) (hu : (u.1 + Mc.2.2.2.2.2.1, u.2 + Mc.2.2.2.2.2.2) = u') (hrm : gx_rm M Mc u) (h8 : gx_cs st ≤ 8) (hd : decode M.2.1 pc = .ok (.invokestatic ix, 3)) (k : ∀ r h1, gx_Y M u' (pc + 3) l (gx_I r :: st) h1 (K r h1)) : gx_Y M u pc l (w2 :: w1 :: st) h (gq_call x K) := by
  subst hu
  exact gx_callSN (avs := [w1, w2]) hM sk.1 sk.2 hl rfl hrm h8 hd (fun r h1 => by rw [hret]; exact k r h1)
theorem gx_cSv2 (hM : ∀ r h1, x = some (r, h1) → gx_Met Mc [w1, w2] h r h1) (sk : gx_SK Mc 2) (hl : Cond.methodLink M.1.cls ix Mc.1 ∈ lw_tbl) (hret : Mc.2.2.2.1 = none) (hu : (u.1 + Mc.2.2.2.2.2.1, u.2 + Mc.2.2.2.2.2.2) = u') (hrm : gx_rm M Mc u) (h8 : gx_cs st ≤ 8) (hd : decode M.2.1 pc = .ok (.invokestatic ix, 3)) (k : ∀ r h1, gx_Y M u' (pc + 3) l (st) h1 (K r h1)) : gx_Y M u pc l (w2 :: w1 :: st) h (gq_call x K) := by
  subst hu
  exact gx_callS (avs := [w1, w2]) hM sk.1 sk.2 hl rfl hrm h8 hd (fun r h1 => by rw [hret]; exact k r h1)
theorem gx_cSNv2 (hM : ∀ r h1, x = some (r, h1) → gx_Met Mc [w1, w2] h r h1) (sk : gx_SK Mc 2) (hl : Cond.methodLinkNest M.1.cls ix Mc.1 "LetterExchange" ∈ lw_tbl) (hret : Mc.2.2.2.1 = none) (hu : (u.1 + Mc.2.2.2.2.2.1, u.2 + Mc.2.2.2.2.2.2) = u') (hrm : gx_rm M Mc u) (h8 : gx_cs st ≤ 8) (hd : decode M.2.1 pc = .ok (.invokestatic ix, 3)) (k : ∀ r h1, gx_Y M u' (pc + 3) l (st) h1 (K r h1)) : gx_Y M u pc l (w2 :: w1 :: st) h (gq_call x K) := by
  subst hu
  exact gx_callSN (avs := [w1, w2]) hM sk.1 sk.2 hl rfl hrm h8 hd (fun r h1 => by rw [hret]; exact k r h1)
theorem gx_cSi3 (hM : ∀ r h1, x = some (r, h1) → gx_Met Mc [w1, w2, w3] h r h1) (sk : gx_SK Mc 3) (hl : Cond.methodLink M.1.cls ix Mc.1 ∈ lw_tbl) (hret : Mc.2.2.2.1 = some ty) (hu : (u.1 + Mc.2.2.2.2.2.1, u.2 + Mc.2.2.2.2.2.2) = u') (hrm : gx_rm M Mc u) (h8 : gx_cs st ≤ 8) (hd : decode M.2.1 pc = .ok (.invokestatic ix, 3)) (k : ∀ r h1, gx_Y M u' (pc + 3) l (gx_I r :: st) h1 (K r h1)) : gx_Y M u pc l (w3 :: w2 :: w1 :: st) h (gq_call x K) := by
  subst hu
  exact gx_callS (avs := [w1, w2, w3]) hM sk.1 sk.2 hl rfl hrm h8 hd (fun r h1 => by rw [hret]; exact k r h1)
theorem gx_cSNi3 (hM : ∀ r h1, x = some (r, h1) → gx_Met Mc [w1, w2, w3] h r h1) (sk : gx_SK Mc 3) (hl : Cond.methodLinkNest M.1.cls ix Mc.1 "LetterExchange" ∈ lw_tbl) (hret : Mc.2.2.2.1 = some ty) (hu : (u.1 + Mc.2.2.2.2.2.1, u.2 + Mc.2.2.2.2.2.2) = u') (hrm : gx_rm M Mc u) (h8 : gx_cs st ≤ 8) (hd : decode M.2.1 pc = .ok (.invokestatic ix, 3)) (k : ∀ r h1, gx_Y M u' (pc + 3) l (gx_I r :: st) h1 (K r h1)) : gx_Y M u pc l (w3 :: w2 :: w1 :: st) h (gq_call x K) := by
  subst hu
  exact gx_callSN (avs := [w1, w2, w3]) hM sk.1 sk.2 hl rfl hrm h8 hd (fun r h1 => by rw [hret]; exact k r h1)
theorem gx_cSv3 (hM : ∀ r h1, x = some (r, h1) → gx_Met Mc [w1, w2, w3] h r h1) (sk : gx_SK Mc 3) (hl : Cond.methodLink M.1.cls ix Mc.1 ∈ lw_tbl) (hret : Mc.2.2.2.1 = none) (hu : (u.1 + Mc.2.2.2.2.2.1, u.2 + Mc.2.2.2.2.2.2) = u') (hrm : gx_rm M Mc u) (h8 : gx_cs st ≤ 8) (hd : decode M.2.1 pc = .ok (.invokestatic ix, 3)) (k : ∀ r h1, gx_Y M u' (pc + 3) l (st) h1 (K r h1)) : gx_Y M u pc l (w3 :: w2 :: w1 :: st) h (gq_call x K) := by
  subst hu
  exact gx_callS (avs := [w1, w2, w3]) hM sk.1 sk.2 hl rfl hrm h8 hd (fun r h1 => by rw [hret]; exact k r h1)
theorem gx_cSNv3 (hM : ∀ r h1, x = some (r, h1) → gx_Met Mc [w1, w2, w3] h r h1) (sk : gx_SK Mc 3) (hl : Cond.methodLinkNest M.1.cls ix Mc.1 "LetterExchange" ∈ lw_tbl) (hret : Mc.2.2.2.1 = none) (hu : (u.1 + Mc.2.2.2.2.2.1, u.2 + Mc.2.2.2.2.2.2) = u') (hrm : gx_rm M Mc u) (h8 : gx_cs st ≤ 8) (hd : decode M.2.1 pc = .ok (.invokestatic ix, 3)) (k : ∀ r h1, gx_Y M u' (pc + 3) l (st) h1 (K r h1)) : gx_Y M u pc l (w3 :: w2 :: w1 :: st) h (gq_call x K) := by
  subst hu
  exact gx_callSN (avs := [w1, w2, w3]) hM sk.1 sk.2 hl rfl hrm h8 hd (fun r h1 => by rw [hret]; exact k r h1)
theorem gx_cSi4 (hM : ∀ r h1, x = some (r, h1) → gx_Met Mc [w1, w2, w3, w4] h r h1) (sk : gx_SK Mc 4) (hl : Cond.methodLink M.1.cls ix Mc.1 ∈ lw_tbl) (hret : Mc.2.2.2.1 = some ty) (hu : (u.1 + Mc.2.2.2.2.2.1, u.2 + Mc.2.2.2.2.2.2) = u') (hrm : gx_rm M Mc u) (h8 : gx_cs st ≤ 8) (hd : decode M.2.1 pc = .ok (.invokestatic ix, 3)) (k : ∀ r h1, gx_Y M u' (pc + 3) l (gx_I r :: st) h1 (K r h1)) : gx_Y M u pc l (w4 :: w3 :: w2 :: w1 :: st) h (gq_call x K) := by
  subst hu
  exact gx_callS (avs := [w1, w2, w3, w4]) hM sk.1 sk.2 hl rfl hrm h8 hd (fun r h1 => by rw [hret]; exact k r h1)
theorem gx_cSNi4 (hM : ∀ r h1, x = some (r, h1) → gx_Met Mc [w1, w2, w3, w4] h r h1) (sk : gx_SK Mc 4) (hl : Cond.methodLinkNest M.1.cls ix Mc.1 "LetterExchange" ∈ lw_tbl) (hret : Mc.2.2.2.1 = some ty) (hu : (u.1 + Mc.2.2.2.2.2.1, u.2 + Mc.2.2.2.2.2.2) = u') (hrm : gx_rm M Mc u) (h8 : gx_cs st ≤ 8) (hd : decode M.2.1 pc = .ok (.invokestatic ix, 3)) (k : ∀ r h1, gx_Y M u' (pc + 3) l (gx_I r :: st) h1 (K r h1)) : gx_Y M u pc l (w4 :: w3 :: w2 :: w1 :: st) h (gq_call x K) := by
  subst hu
  exact gx_callSN (avs := [w1, w2, w3, w4]) hM sk.1 sk.2 hl rfl hrm h8 hd (fun r h1 => by rw [hret]; exact k r h1)
theorem gx_cSv4 (hM : ∀ r h1, x = some (r, h1) → gx_Met Mc [w1, w2, w3, w4] h r h1) (sk : gx_SK Mc 4) (hl : Cond.methodLink M.1.cls ix Mc.1 ∈ lw_tbl) (hret : Mc.2.2.2.1 = none) (hu : (u.1 + Mc.2.2.2.2.2.1, u.2 + Mc.2.2.2.2.2.2) = u') (hrm : gx_rm M Mc u) (h8 : gx_cs st ≤ 8) (hd : decode M.2.1 pc = .ok (.invokestatic ix, 3)) (k : ∀ r h1, gx_Y M u' (pc + 3) l (st) h1 (K r h1)) : gx_Y M u pc l (w4 :: w3 :: w2 :: w1 :: st) h (gq_call x K) := by
  subst hu
  exact gx_callS (avs := [w1, w2, w3, w4]) hM sk.1 sk.2 hl rfl hrm h8 hd (fun r h1 => by rw [hret]; exact k r h1)
theorem gx_cSNv4 (hM : ∀ r h1, x = some (r, h1) → gx_Met Mc [w1, w2, w3, w4] h r h1) (sk : gx_SK Mc 4) (hl : Cond.methodLinkNest M.1.cls ix Mc.1 "LetterExchange" ∈ lw_tbl) (hret : Mc.2.2.2.1 = none) (hu : (u.1 + Mc.2.2.2.2.2.1, u.2 + Mc.2.2.2.2.2.2) = u') (hrm : gx_rm M Mc u) (h8 : gx_cs st ≤ 8) (hd : decode M.2.1 pc = .ok (.invokestatic ix, 3)) (k : ∀ r h1, gx_Y M u' (pc + 3) l (st) h1 (K r h1)) : gx_Y M u pc l (w4 :: w3 :: w2 :: w1 :: st) h (gq_call x K) := by
  subst hu
  exact gx_callSN (avs := [w1, w2, w3, w4]) hM sk.1 sk.2 hl rfl hrm h8 hd (fun r h1 => by rw [hret]; exact k r h1)
theorem gx_cI (hM : ∀ r h1, x = some (r, h1) → gx_Met Mc [gx_R o] h r h1) (ik : gx_IK Mc) (hl : Cond.methodLink M.1.cls ix Mc.1 ∈ lw_tbl) (hu : (u.1 + Mc.2.2.2.2.2.1, u.2 + Mc.2.2.2.2.2.2) = u') (hrm : gx_rm M Mc u) (h8 : gx_cs st ≤ 8) (hd : decode M.2.1 pc = .ok (.invokespecial ix, 3)) (k : ∀ r h1, gx_Y M u' (pc + 3) l st h1 (K r h1)) : gx_Y M u pc l (gx_R o :: st) h (gq_call x K) := by
  subst hu
  exact gx_callI hM ik.1 ik.2.1 ik.2.2.1 ik.2.2.2 hl hrm h8 hd (fun r h1 => by rw [ik.2.2.2]; exact k r h1)
theorem gx_cIN (hM : ∀ r h1, x = some (r, h1) → gx_Met Mc [gx_R o] h r h1) (ik : gx_IK Mc) (hl : Cond.methodLinkNest M.1.cls ix Mc.1 "LetterExchange" ∈ lw_tbl) (hu : (u.1 + Mc.2.2.2.2.2.1, u.2 + Mc.2.2.2.2.2.2) = u') (hrm : gx_rm M Mc u) (h8 : gx_cs st ≤ 8) (hd : decode M.2.1 pc = .ok (.invokespecial ix, 3)) (k : ∀ r h1, gx_Y M u' (pc + 3) l st h1 (K r h1)) : gx_Y M u pc l (gx_R o :: st) h (gq_call x K) := by
  subst hu
  exact gx_callIN hM ik.1 ik.2.1 ik.2.2.1 ik.2.2.2 hl hrm h8 hd (fun r h1 => by rw [ik.2.2.2]; exact k r h1)
end GXX
theorem gx_lookd {a : Int} (h1 : ¬ a = 98) (h2 : ¬ a = 110) (h3 : ¬ a = 120) {x y z d : Int} : Op.lookupswitch.offset [(98, x), (110, y), (120, z)] d a = d := by
  simp [Op.lookupswitch.offset, h1, h2, h3, Ne.symm h1, Ne.symm h2, Ne.symm h3, eq_comm]
