/-! stores of a value that is known to fit: no check in the pure text -/
theorem gq_astT {β : Type} {t : Nat} {c : Prop} [Decidable c] {h : gx_H} {o : Nat} {i v : Int} {K : gx_H → Option β} (hc : c) : gq_ast t True h o i v K = gq_ast t c h o i v K := by
  unfold gq_ast
  simp only [hc]
theorem gq_putT {β : Type} {c : Prop} [Decidable c] {h : gx_H} {o ci k : Nat} {v : Int} {K : gx_H → Option β} (hc : c) : gq_put True h o ci k v K = gq_put c h o ci k v K := by
  unfold gq_put
  simp only [hc]
section GXT2
variable {M : gx_M} {u : Nat × Nat} {pc : Nat} {l : List (Option gx_V)} {st : List gx_V} {h : gx_H} {o : Nat} {i a v : Int} {ci k ix : Nat} {C : String} {T : u_T} {N : Nat} {ty : Nat → FieldType} {K : gx_H → Option (Int × gx_H)}
theorem gx_iastT (hv : gx_i v) (hd : decode M.2.1 pc = .ok (.iastore, 1)) (kk : gx_Y M u (pc + 1) l st (h.1, gx_up h.2 o i.toNat v) (K (h.1, gx_up h.2 o i.toNat v))) : gx_Y M u pc l (gx_I v :: gx_I i :: gx_R o :: st) h (gq_ast 0 True h o i v K) := by
  rw [gq_astT hv]
  exact gx_iast hd kk
theorem gx_zastT (hv : v = 0 ∨ v = 1) (hd : decode M.2.1 pc = .ok (.bastore, 1)) (kk : gx_Y M u (pc + 1) l st (h.1, gx_up h.2 o i.toNat v) (K (h.1, gx_up h.2 o i.toNat v))) : gx_Y M u pc l (gx_I v :: gx_I i :: gx_R o :: st) h (gq_ast 1 True h o i v K) := by
  rw [gq_astT hv]
  exact gx_zast hd kk
theorem gx_putiT (hv : gx_i a) (g : gx_CL ci C T N ty) (hN : k < N) (hl : Cond.fieldLink M.1.cls ix C (T k).2.1 (T k).2.2.1 ∈ lw_tbl) (hf : (T k).2.2.2 = false) (ht : gx_fty ci k = 0) (hd : decode M.2.1 pc = .ok (.putfield ix, 3)) (kk : gx_Y M u (pc + 3) l st (h.1, gx_up h.2 o k a) (K (h.1, gx_up h.2 o k a))) : gx_Y M u pc l (gx_I a :: gx_R o :: st) h (gq_put True h o ci k a K) := by
  rw [gq_putT hv]
  exact gx_puti g hN hl hf ht hd kk
theorem gx_putzT (hv : a = 0 ∨ a = 1) (g : gx_CL ci C T N ty) (hN : k < N) (hl : Cond.fieldLink M.1.cls ix C (T k).2.1 (T k).2.2.1 ∈ lw_tbl) (hf : (T k).2.2.2 = false) (ht : gx_fty ci k = 1) (hd : decode M.2.1 pc = .ok (.putfield ix, 3)) (kk : gx_Y M u (pc + 3) l st (h.1, gx_up h.2 o k a) (K (h.1, gx_up h.2 o k a))) : gx_Y M u pc l (gx_I a :: gx_R o :: st) h (gq_put True h o ci k a K) := by
  rw [gq_putT hv]
  exact gx_putz g hN hl hf ht hd kk
theorem gx_putlT (hv : gx_l a) (g : gx_CL ci C T N ty) (hN : k < N) (hl : Cond.fieldLink M.1.cls ix C (T k).2.1 (T k).2.2.1 ∈ lw_tbl) (hf : (T k).2.2.2 = false) (ht : gx_fty ci k = 2) (hd : decode M.2.1 pc = .ok (.putfield ix, 3)) (kk : gx_Y M u (pc + 3) l st (h.1, gx_up h.2 o k a) (K (h.1, gx_up h.2 o k a))) : gx_Y M u pc l (gx_L a :: gx_R o :: st) h (gq_put True h o ci k a K) := by
  rw [gq_putT hv]
  exact gx_putl g hN hl hf ht hd kk
end GXT2
