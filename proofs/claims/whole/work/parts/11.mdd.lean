def fb_MD_readTable_91 (h : gx_H) (l0 : Nat) (l1 : Int) (l2 : Int) (l3 : Int) (l4 : Int) (t0 : Nat) (t1 : Int) : Option (Int × gx_H) :=
  gq_cv h t0 1 (f_MD_pass h t0 t1) (fun r1 h2 => gq_get h2 l0 1 25 (fun v3 => if v3 = 0 then gq_gr h2 l0 1 28 (fun o5 => gq_ast 0 (gx_i l3) h2 o5 ((4 * l1) + l2) l3 (fun h6 => gq_gr h6 l0 1 28 (fun o7 => gq_ast 0 (gx_i (-l4)) h6 o7 ((4 * l2) + l1) (-l4) (fun h8 => some (0, h8))))) else some (0, h2)))
set_option maxHeartbeats 4000000 in
set_option maxRecDepth 100000 in
theorem y_MD_readTable_91 (h : gx_H) (l0 : Nat) (l1 : Int) (l2 : Int) (l3 : Int) (l4 : Int) (t0 : Nat) (t1 : Int) : gx_Y gm_MD_readTable (0, 0) 91 [some (gx_R l0), some (gx_I l1), some (gx_I l2), some (gx_I l3), some (gx_I l4)] [gx_I t1, gx_R t0] h (fb_MD_readTable_91 h l0 l1 l2 l3 l4 t0 t1) := by
  unfold fb_MD_readTable_91
  refine gx_cVv1 (Mc := gm_MD_pass) (u' := (0, 0)) (c_MD_pass _ _ _) vk_MD_pass ml_MD_217 rfl rfl ⟨by decide, by decide, by decide, by decide⟩ (Nat.le_of_ble_eq_true rfl) (by decide +kernel) (fun r1 h2 => ?_)
  refine gx_aload_n (i := 0) (by decide +kernel) rfl ?_
  refine gx_geti gk_MD (by decide) fl_MD_199 (Or.inl rfl) (by decide +kernel) (fun c4 => ?_)
  refine gx_if_ne (off := 27) (tgt := 125) c4 (by decide +kernel) (by decide) ?_ ?_
  · exact gx_return rfl rfl (by decide +kernel)
  · refine gx_aload_n (i := 0) (by decide +kernel) rfl ?_
    refine gx_getr gk_MD (by decide) fl_MD_56 rfl (by decide +kernel) ?_
    refine gx_iconst (n := 4) (by decide +kernel) ?_
    refine gx_iload_n (i := 1) (by decide +kernel) rfl ?_
    refine gx_imul (by decide +kernel) ?_
    refine gx_iload_n (i := 2) (by decide +kernel) rfl ?_
    refine gx_iadd (by decide +kernel) ?_
    refine gx_iload_n (i := 3) (by decide +kernel) rfl ?_
    refine gx_iast (by decide +kernel) ?_
    refine gx_aload_n (i := 0) (by decide +kernel) rfl ?_
    refine gx_getr gk_MD (by decide) fl_MD_56 rfl (by decide +kernel) ?_
    refine gx_iconst (n := 4) (by decide +kernel) ?_
    refine gx_iload_n (i := 2) (by decide +kernel) rfl ?_
    refine gx_imul (by decide +kernel) ?_
    refine gx_iload_n (i := 1) (by decide +kernel) rfl ?_
    refine gx_iadd (by decide +kernel) ?_
    refine gx_iload (i := 4) (by decide +kernel) rfl ?_
    refine gx_ineg (by decide +kernel) ?_
    refine gx_iast (by decide +kernel) ?_
    exact gx_return rfl rfl (by decide +kernel)
def fb_MD_readTable_83 (h : gx_H) (l0 : Nat) (l1 : Int) (l2 : Int) (l3 : Int) (l4 : Int) (t0 : Nat) (t1 : Int) (t2 : Int) : Option (Int × gx_H) :=
  gq_g (gx_i t1) (gq_g (gx_i t2) (if t1 = t2 then fb_MD_readTable_91 h l0 l1 l2 l3 l4 t0 0 else fb_MD_readTable_91 h l0 l1 l2 l3 l4 t0 1))
set_option maxHeartbeats 4000000 in
set_option maxRecDepth 100000 in
theorem y_MD_readTable_83 (h : gx_H) (l0 : Nat) (l1 : Int) (l2 : Int) (l3 : Int) (l4 : Int) (t0 : Nat) (t1 : Int) (t2 : Int) : gx_Y gm_MD_readTable (0, 0) 83 [some (gx_R l0), some (gx_I l1), some (gx_I l2), some (gx_I l3), some (gx_I l4)] [gx_I t2, gx_I t1, gx_R t0] h (fb_MD_readTable_83 h l0 l1 l2 l3 l4 t0 t1 t2) := by
  unfold fb_MD_readTable_83
  refine gx_g (fun c1 => ?_)
  refine gx_g (fun c2 => ?_)
  refine gx_icmp_eq (off := 7) (tgt := 90) c1 c2 (by decide +kernel) (by decide) ?_ ?_
  · refine gx_iconst (n := 0) (by decide +kernel) ?_
    exact gx_less' (y_MD_readTable_91 _ _ _ _ _ _ _ _) ⟨rfl, rfl, rfl, rfl, rfl, trivial⟩
  · refine gx_iconst (n := 1) (by decide +kernel) ?_
    refine gx_goto (off := 4) (tgt := 91) (by decide +kernel) (by decide) ?_
    exact gx_less' (y_MD_readTable_91 _ _ _ _ _ _ _ _) ⟨rfl, rfl, rfl, rfl, rfl, trivial⟩
def fb_MD_readTable_73 (h : gx_H) (l0 : Nat) (l1 : Int) (l2 : Int) (l3 : Int) (l4 : Int) (t0 : Nat) (t1 : Int) : Option (Int × gx_H) :=
  gq_g (gx_i l4) (if l4 = 0 then fb_MD_readTable_83 h l0 l1 l2 l3 l4 t0 t1 1 else fb_MD_readTable_83 h l0 l1 l2 l3 l4 t0 t1 0)
set_option maxHeartbeats 4000000 in
set_option maxRecDepth 100000 in
theorem y_MD_readTable_73 (h : gx_H) (l0 : Nat) (l1 : Int) (l2 : Int) (l3 : Int) (l4 : Int) (t0 : Nat) (t1 : Int) : gx_Y gm_MD_readTable (0, 0) 73 [some (gx_R l0), some (gx_I l1), some (gx_I l2), some (gx_I l3), some (gx_I l4)] [gx_I t1, gx_R t0] h (fb_MD_readTable_73 h l0 l1 l2 l3 l4 t0 t1) := by
  unfold fb_MD_readTable_73
  refine gx_iload (i := 4) (by decide +kernel) rfl ?_
  refine gx_g (fun c1 => ?_)
  refine gx_if_ne (off := 7) (tgt := 82) c1 (by decide +kernel) (by decide) ?_ ?_
  · refine gx_iconst (n := 0) (by decide +kernel) ?_
    exact gx_less' (y_MD_readTable_83 _ _ _ _ _ _ _ _ _) ⟨rfl, rfl, rfl, rfl, rfl, trivial⟩
  · refine gx_iconst (n := 1) (by decide +kernel) ?_
    refine gx_goto (off := 4) (tgt := 83) (by decide +kernel) (by decide) ?_
    exact gx_less' (y_MD_readTable_83 _ _ _ _ _ _ _ _ _) ⟨rfl, rfl, rfl, rfl, rfl, trivial⟩
def fb_MD_readTable_40 (h : gx_H) (l0 : Nat) (l1 : Int) (l2 : Int) (t0 : Nat) (t1 : Int) : Option (Int × gx_H) :=
  gq_cv h t0 1 (f_MD_pass h t0 t1) (fun r1 h2 => gq_cv h2 l0 1 (f_MD_figure h2 l0 0 3) (fun r3 h4 => gq_cv h4 l0 1 (f_MD_pass h4 l0 0) (fun r5 h6 => gq_cv h6 l0 1 (f_MD_figure h6 l0 0 3) (fun r7 h8 => gq_g (gx_i r3) (if r3 = 0 then fb_MD_readTable_73 h8 l0 l1 l2 r3 r7 l0 1 else fb_MD_readTable_73 h8 l0 l1 l2 r3 r7 l0 0)))))
set_option maxHeartbeats 4000000 in
set_option maxRecDepth 100000 in
theorem y_MD_readTable_40 (h : gx_H) (l0 : Nat) (l1 : Int) (l2 : Int) (t0 : Nat) (t1 : Int) : gx_Y gm_MD_readTable (0, 0) 40 [some (gx_R l0), some (gx_I l1), some (gx_I l2), none, none] [gx_I t1, gx_R t0] h (fb_MD_readTable_40 h l0 l1 l2 t0 t1) := by
  unfold fb_MD_readTable_40
  refine gx_cVv1 (Mc := gm_MD_pass) (u' := (0, 0)) (c_MD_pass _ _ _) vk_MD_pass ml_MD_217 rfl rfl ⟨by decide, by decide, by decide, by decide⟩ (Nat.le_of_ble_eq_true rfl) (by decide +kernel) (fun r1 h2 => ?_)
  refine gx_aload_n (i := 0) (by decide +kernel) rfl ?_
  refine gx_iconst (n := 0) (by decide +kernel) ?_
  refine gx_iconst (n := 3) (by decide +kernel) ?_
  refine gx_cVi2 (Mc := gm_MD_figure) (u' := (0, 0)) (c_MD_figure _ _ _ _) vk_MD_figure ml_MD_214 rfl rfl ⟨by decide, by decide, by decide, by decide⟩ (Nat.le_of_ble_eq_true rfl) (by decide +kernel) (fun r3 h4 => ?_)
  refine gx_istore_n (i := 3) (l' := [some (gx_R _), some (gx_I _), some (gx_I _), some (gx_I _), none]) (by decide +kernel) rfl (Nat.le_of_ble_eq_true rfl) (by decide) rfl ?_
  refine gx_aload_n (i := 0) (by decide +kernel) rfl ?_
  refine gx_iconst (n := 0) (by decide +kernel) ?_
  refine gx_cVv1 (Mc := gm_MD_pass) (u' := (0, 0)) (c_MD_pass _ _ _) vk_MD_pass ml_MD_217 rfl rfl ⟨by decide, by decide, by decide, by decide⟩ (Nat.le_of_ble_eq_true rfl) (by decide +kernel) (fun r5 h6 => ?_)
  refine gx_aload_n (i := 0) (by decide +kernel) rfl ?_
  refine gx_iconst (n := 0) (by decide +kernel) ?_
  refine gx_iconst (n := 3) (by decide +kernel) ?_
  refine gx_cVi2 (Mc := gm_MD_figure) (u' := (0, 0)) (c_MD_figure _ _ _ _) vk_MD_figure ml_MD_214 rfl rfl ⟨by decide, by decide, by decide, by decide⟩ (Nat.le_of_ble_eq_true rfl) (by decide +kernel) (fun r7 h8 => ?_)
  refine gx_istore (i := 4) (l' := [some (gx_R _), some (gx_I _), some (gx_I _), some (gx_I _), some (gx_I _)]) (by decide +kernel) rfl (Nat.le_of_ble_eq_true rfl) (by decide) rfl ?_
  refine gx_aload_n (i := 0) (by decide +kernel) rfl ?_
  refine gx_iload_n (i := 3) (by decide +kernel) rfl ?_
  refine gx_g (fun c9 => ?_)
  refine gx_if_ne (off := 7) (tgt := 72) c9 (by decide +kernel) (by decide) ?_ ?_
  · refine gx_iconst (n := 0) (by decide +kernel) ?_
    exact gx_less' (y_MD_readTable_73 _ _ _ _ _ _ _ _) ⟨rfl, rfl, rfl, rfl, rfl, trivial⟩
  · refine gx_iconst (n := 1) (by decide +kernel) ?_
    refine gx_goto (off := 4) (tgt := 73) (by decide +kernel) (by decide) ?_
    exact gx_less' (y_MD_readTable_73 _ _ _ _ _ _ _ _) ⟨rfl, rfl, rfl, rfl, rfl, trivial⟩
def f_MD_readTable (h : gx_H) (l0 : Nat) : Option (Int × gx_H) :=
  gq_get h l0 1 27 (fun v1 => gq_cv h l0 1 (f_MD_figure h l0 0 (v1 - 1)) (fun r3 h4 => gq_cv h4 l0 1 (f_MD_pass h4 l0 0) (fun r5 h6 => gq_get h6 l0 1 27 (fun v7 => gq_cv h6 l0 1 (f_MD_figure h6 l0 0 (v7 - 1)) (fun r9 h10 => gq_g (gx_i r3) (gq_g (gx_i r9) (if r3 = r9 then fb_MD_readTable_40 h10 l0 r3 r9 l0 1 else fb_MD_readTable_40 h10 l0 r3 r9 l0 0)))))))
set_option maxHeartbeats 4000000 in
set_option maxRecDepth 100000 in
theorem c_MD_readTable (h : gx_H) (l0 : Nat) : ∀ r h1, f_MD_readTable h l0 = some (r, h1) → gx_Met gm_MD_readTable [gx_R l0] h r h1 := by
  refine gx_enter (l := [some (gx_R l0), none, none, none, none]) (by decide) (Nat.le_of_ble_eq_true rfl) rfl ?_
  unfold f_MD_readTable
  refine gx_aload_n (i := 0) (by decide +kernel) rfl ?_
  refine gx_iconst (n := 0) (by decide +kernel) ?_
  refine gx_aload_n (i := 0) (by decide +kernel) rfl ?_
  refine gx_geti gk_MD (by decide) fl_MD_62 (Or.inl rfl) (by decide +kernel) (fun c2 => ?_)
  refine gx_iconst (n := 1) (by decide +kernel) ?_
  refine gx_isub (by decide +kernel) ?_
  refine gx_cVi2 (Mc := gm_MD_figure) (u' := (0, 0)) (c_MD_figure _ _ _ _) vk_MD_figure ml_MD_214 rfl rfl ⟨by decide, by decide, by decide, by decide⟩ (Nat.le_of_ble_eq_true rfl) (by decide +kernel) (fun r3 h4 => ?_)
  refine gx_istore_n (i := 1) (l' := [some (gx_R _), some (gx_I _), none, none, none]) (by decide +kernel) rfl (Nat.le_of_ble_eq_true rfl) (by decide) rfl ?_
  refine gx_aload_n (i := 0) (by decide +kernel) rfl ?_
  refine gx_iconst (n := 0) (by decide +kernel) ?_
  refine gx_cVv1 (Mc := gm_MD_pass) (u' := (0, 0)) (c_MD_pass _ _ _) vk_MD_pass ml_MD_217 rfl rfl ⟨by decide, by decide, by decide, by decide⟩ (Nat.le_of_ble_eq_true rfl) (by decide +kernel) (fun r5 h6 => ?_)
  refine gx_aload_n (i := 0) (by decide +kernel) rfl ?_
  refine gx_iconst (n := 0) (by decide +kernel) ?_
  refine gx_aload_n (i := 0) (by decide +kernel) rfl ?_
  refine gx_geti gk_MD (by decide) fl_MD_62 (Or.inl rfl) (by decide +kernel) (fun c8 => ?_)
  refine gx_iconst (n := 1) (by decide +kernel) ?_
  refine gx_isub (by decide +kernel) ?_
  refine gx_cVi2 (Mc := gm_MD_figure) (u' := (0, 0)) (c_MD_figure _ _ _ _) vk_MD_figure ml_MD_214 rfl rfl ⟨by decide, by decide, by decide, by decide⟩ (Nat.le_of_ble_eq_true rfl) (by decide +kernel) (fun r9 h10 => ?_)
  refine gx_istore_n (i := 2) (l' := [some (gx_R _), some (gx_I _), some (gx_I _), none, none]) (by decide +kernel) rfl (Nat.le_of_ble_eq_true rfl) (by decide) rfl ?_
  refine gx_aload_n (i := 0) (by decide +kernel) rfl ?_
  refine gx_iload_n (i := 1) (by decide +kernel) rfl ?_
  refine gx_iload_n (i := 2) (by decide +kernel) rfl ?_
  refine gx_g (fun c11 => ?_)
  refine gx_g (fun c12 => ?_)
  refine gx_icmp_ne (off := 7) (tgt := 39) c11 c12 (by decide +kernel) (by decide) ?_ ?_
  · refine gx_iconst (n := 0) (by decide +kernel) ?_
    exact gx_less' (y_MD_readTable_40 _ _ _ _ _ _) ⟨rfl, rfl, rfl, trivial⟩
  · refine gx_iconst (n := 1) (by decide +kernel) ?_
    refine gx_goto (off := 4) (tgt := 40) (by decide +kernel) (by decide) ?_
    exact gx_less' (y_MD_readTable_40 _ _ _ _ _ _) ⟨rfl, rfl, rfl, trivial⟩
def f_MD_readWorth (h : gx_H) (l0 : Nat) : Option (Int × gx_H) :=
  gq_get h l0 1 27 (fun v1 => gq_cv h l0 1 (f_MD_figure h l0 0 (v1 - 1)) (fun r3 h4 => gq_cv h4 l0 1 (f_MD_pass h4 l0 0) (fun r5 h6 => gq_cv h6 l0 1 (f_MD_figure h6 l0 1 9) (fun r7 h8 => gq_cv h8 l0 1 (f_MD_pass h8 l0 0) (fun r9 h10 => gq_get h10 l0 1 25 (fun v11 => if v11 = 0 then gq_gr h10 l0 1 29 (fun o13 => gq_ast 0 (gx_i r7) h10 o13 r3 r7 (fun h14 => some (0, h14))) else some (0, h10)))))))
set_option maxHeartbeats 4000000 in
set_option maxRecDepth 100000 in
theorem c_MD_readWorth (h : gx_H) (l0 : Nat) : ∀ r h1, f_MD_readWorth h l0 = some (r, h1) → gx_Met gm_MD_readWorth [gx_R l0] h r h1 := by
  refine gx_enter (l := [some (gx_R l0), none, none]) (by decide) (Nat.le_of_ble_eq_true rfl) rfl ?_
  unfold f_MD_readWorth
  refine gx_aload_n (i := 0) (by decide +kernel) rfl ?_
  refine gx_iconst (n := 0) (by decide +kernel) ?_
  refine gx_aload_n (i := 0) (by decide +kernel) rfl ?_
  refine gx_geti gk_MD (by decide) fl_MD_62 (Or.inl rfl) (by decide +kernel) (fun c2 => ?_)
  refine gx_iconst (n := 1) (by decide +kernel) ?_
  refine gx_isub (by decide +kernel) ?_
  refine gx_cVi2 (Mc := gm_MD_figure) (u' := (0, 0)) (c_MD_figure _ _ _ _) vk_MD_figure ml_MD_214 rfl rfl ⟨by decide, by decide, by decide, by decide⟩ (Nat.le_of_ble_eq_true rfl) (by decide +kernel) (fun r3 h4 => ?_)
  refine gx_istore_n (i := 1) (l' := [some (gx_R _), some (gx_I _), none]) (by decide +kernel) rfl (Nat.le_of_ble_eq_true rfl) (by decide) rfl ?_
  refine gx_aload_n (i := 0) (by decide +kernel) rfl ?_
  refine gx_iconst (n := 0) (by decide +kernel) ?_
  refine gx_cVv1 (Mc := gm_MD_pass) (u' := (0, 0)) (c_MD_pass _ _ _) vk_MD_pass ml_MD_217 rfl rfl ⟨by decide, by decide, by decide, by decide⟩ (Nat.le_of_ble_eq_true rfl) (by decide +kernel) (fun r5 h6 => ?_)
  refine gx_aload_n (i := 0) (by decide +kernel) rfl ?_
  refine gx_iconst (n := 1) (by decide +kernel) ?_
  refine gx_bipush (n := 9) (by decide +kernel) (by decide) ?_
  refine gx_cVi2 (Mc := gm_MD_figure) (u' := (0, 0)) (c_MD_figure _ _ _ _) vk_MD_figure ml_MD_214 rfl rfl ⟨by decide, by decide, by decide, by decide⟩ (Nat.le_of_ble_eq_true rfl) (by decide +kernel) (fun r7 h8 => ?_)
  refine gx_istore_n (i := 2) (l' := [some (gx_R _), some (gx_I _), some (gx_I _)]) (by decide +kernel) rfl (Nat.le_of_ble_eq_true rfl) (by decide) rfl ?_
  refine gx_aload_n (i := 0) (by decide +kernel) rfl ?_
  refine gx_iconst (n := 0) (by decide +kernel) ?_
  refine gx_cVv1 (Mc := gm_MD_pass) (u' := (0, 0)) (c_MD_pass _ _ _) vk_MD_pass ml_MD_217 rfl rfl ⟨by decide, by decide, by decide, by decide⟩ (Nat.le_of_ble_eq_true rfl) (by decide +kernel) (fun r9 h10 => ?_)
  refine gx_aload_n (i := 0) (by decide +kernel) rfl ?_
  refine gx_geti gk_MD (by decide) fl_MD_199 (Or.inl rfl) (by decide +kernel) (fun c12 => ?_)
  refine gx_if_ne (off := 10) (tgt := 44) c12 (by decide +kernel) (by decide) ?_ ?_
  · exact gx_return rfl rfl (by decide +kernel)
  · refine gx_aload_n (i := 0) (by decide +kernel) rfl ?_
    refine gx_getr gk_MD (by decide) fl_MD_59 rfl (by decide +kernel) ?_
    refine gx_iload_n (i := 1) (by decide +kernel) rfl ?_
    refine gx_iload_n (i := 2) (by decide +kernel) rfl ?_
    refine gx_iast (by decide +kernel) ?_
    exact gx_return rfl rfl (by decide +kernel)
def fb_MD_readClause_36 (h : gx_H) (l0 : Nat) : Option (Int × gx_H) :=
  gq_cv h l0 1 (f_MD_fail h l0 1) (fun r1 h2 => some (0, h2))
set_option maxHeartbeats 4000000 in
set_option maxRecDepth 100000 in
theorem y_MD_readClause_36 (h : gx_H) (l0 : Nat) : gx_Y gm_MD_readClause (0, 0) 36 [some (gx_R l0), none, none] [] h (fb_MD_readClause_36 h l0) := by
  unfold fb_MD_readClause_36
  refine gx_aload_n (i := 0) (by decide +kernel) rfl ?_
  refine gx_iconst (n := 1) (by decide +kernel) ?_
  refine gx_cVv1 (Mc := gm_MD_fail) (u' := (0, 0)) (c_MD_fail _ _ _) vk_MD_fail ml_MD_211 rfl rfl ⟨by decide, by decide, by decide, by decide⟩ (Nat.le_of_ble_eq_true rfl) (by decide +kernel) (fun r1 h2 => ?_)
  exact gx_return rfl rfl (by decide +kernel)
def fb_MD_readClause_119 (h : gx_H) (l0 : Nat) : Option (Int × gx_H) :=
  gq_get h l0 1 24 (fun v1 => gq_put (gx_i (v1 + 1)) h l0 1 24 (v1 + 1) (fun h3 => some (0, h3)))
set_option maxHeartbeats 4000000 in
set_option maxRecDepth 100000 in
theorem y_MD_readClause_119 (h : gx_H) (l0 : Nat) : gx_Y gm_MD_readClause (0, 0) 119 [some (gx_R l0), none, none] [] h (fb_MD_readClause_119 h l0) := by
  unfold fb_MD_readClause_119
  refine gx_aload_n (i := 0) (by decide +kernel) rfl ?_
  refine gx_dup (by decide +kernel) (fun _ => rfl) ?_
  refine gx_geti gk_MD (by decide) fl_MD_202 (Or.inl rfl) (by decide +kernel) (fun c2 => ?_)
  refine gx_iconst (n := 1) (by decide +kernel) ?_
  refine gx_iadd (by decide +kernel) ?_
  refine gx_puti gk_MD (by decide) fl_MD_202 rfl rfl (by decide +kernel) ?_
  exact gx_return rfl rfl (by decide +kernel)
def fb_MD_readClause_98 (h : gx_H) (l0 : Nat) : Option (Int × gx_H) :=
  gq_get h l0 1 25 (fun v1 => if v1 = 0 then gq_cv h l0 1 (f_MD_here h l0) (fun r3 h4 => gq_g (gx_i r3) (if r3 = 59 then fb_MD_readClause_119 h4 l0 else gq_cv h4 l0 1 (f_MD_fail h4 l0 1) (fun r6 h7 => fb_MD_readClause_119 h7 l0))) else fb_MD_readClause_119 h l0)
set_option maxHeartbeats 4000000 in
set_option maxRecDepth 100000 in
theorem y_MD_readClause_98 (h : gx_H) (l0 : Nat) : gx_Y gm_MD_readClause (0, 0) 98 [some (gx_R l0), none, none] [] h (fb_MD_readClause_98 h l0) := by
  unfold fb_MD_readClause_98
  refine gx_aload_n (i := 0) (by decide +kernel) rfl ?_
  refine gx_geti gk_MD (by decide) fl_MD_199 (Or.inl rfl) (by decide +kernel) (fun c2 => ?_)
  refine gx_if_ne (off := 17) (tgt := 119) c2 (by decide +kernel) (by decide) ?_ ?_
  · exact gx_less' (y_MD_readClause_119 _ _) ⟨rfl, trivial⟩
  · refine gx_aload_n (i := 0) (by decide +kernel) rfl ?_
    refine gx_cVi0 (Mc := gm_MD_here) (u' := (0, 0)) (c_MD_here _ _) vk_MD_here ml_MD_208 rfl rfl ⟨by decide, by decide, by decide, by decide⟩ (Nat.le_of_ble_eq_true rfl) (by decide +kernel) (fun r3 h4 => ?_)
    refine gx_bipush (n := 59) (by decide +kernel) (by decide) ?_
    refine gx_g (fun c5 => ?_)
    refine gx_icmp_eq (off := 8) (tgt := 119) c5 (by decide) (by decide +kernel) (by decide) ?_ ?_
    · exact gx_less' (y_MD_readClause_119 _ _) ⟨rfl, trivial⟩
    · refine gx_aload_n (i := 0) (by decide +kernel) rfl ?_
      refine gx_iconst (n := 1) (by decide +kernel) ?_
      refine gx_cVv1 (Mc := gm_MD_fail) (u' := (0, 0)) (c_MD_fail _ _ _) vk_MD_fail ml_MD_211 rfl rfl ⟨by decide, by decide, by decide, by decide⟩ (Nat.le_of_ble_eq_true rfl) (by decide +kernel) (fun r6 h7 => ?_)
      exact gx_less' (y_MD_readClause_119 _ _) ⟨rfl, trivial⟩
def fb_MD_readClause_58 (h : gx_H) (l0 : Nat) (l2 : Int) : Option (Int × gx_H) :=
  gq_get h l0 1 24 (fun v1 => gq_put (gx_i (v1 + 1)) h l0 1 24 (v1 + 1) (fun h3 => gq_g (gx_i l2) (if l2 = 110 then gq_cv h3 l0 1 (f_MD_readMany h3 l0) (fun r9 h10 => fb_MD_readClause_98 h10 l0) else if l2 = 98 then gq_cv h3 l0 1 (f_MD_readTable h3 l0) (fun r7 h8 => fb_MD_readClause_98 h8 l0) else gq_cv h3 l0 1 (f_MD_readWorth h3 l0) (fun r5 h6 => fb_MD_readClause_98 h6 l0))))
set_option maxHeartbeats 4000000 in
set_option maxRecDepth 100000 in
theorem y_MD_readClause_58 (h : gx_H) (l0 : Nat) (l2 : Int) : gx_Y gm_MD_readClause (0, 0) 58 [some (gx_R l0), none, some (gx_I l2)] [] h (fb_MD_readClause_58 h l0 l2) := by
  unfold fb_MD_readClause_58
  refine gx_aload_n (i := 0) (by decide +kernel) rfl ?_
  refine gx_dup (by decide +kernel) (fun _ => rfl) ?_
  refine gx_geti gk_MD (by decide) fl_MD_202 (Or.inl rfl) (by decide +kernel) (fun c2 => ?_)
  refine gx_iconst (n := 1) (by decide +kernel) ?_
  refine gx_iadd (by decide +kernel) ?_
  refine gx_puti gk_MD (by decide) fl_MD_202 rfl rfl (by decide +kernel) ?_
  refine gx_iload_n (i := 2) (by decide +kernel) rfl ?_
  refine gx_bipush (n := 110) (by decide +kernel) (by decide) ?_
  refine gx_g (fun c4 => ?_)
  refine gx_icmp_ne (off := 10) (tgt := 81) c4 (by decide) (by decide +kernel) (by decide) ?_ ?_
  · refine gx_iload_n (i := 2) (by decide +kernel) rfl ?_
    refine gx_bipush (n := 98) (by decide +kernel) (by decide) ?_
    refine gx_icmp_ne (off := 10) (tgt := 94) c4 (by decide) (by decide +kernel) (by decide) ?_ ?_
    · refine gx_aload_n (i := 0) (by decide +kernel) rfl ?_
      refine gx_cVv0 (Mc := gm_MD_readWorth) (u' := (0, 0)) (c_MD_readWorth _ _) vk_MD_readWorth ml_MD_227 rfl rfl ⟨by decide, by decide, by decide, by decide⟩ (Nat.le_of_ble_eq_true rfl) (by decide +kernel) (fun r5 h6 => ?_)
      exact gx_less' (y_MD_readClause_98 _ _) ⟨rfl, trivial⟩
    · refine gx_aload_n (i := 0) (by decide +kernel) rfl ?_
      refine gx_cVv0 (Mc := gm_MD_readTable) (u' := (0, 0)) (c_MD_readTable _ _) vk_MD_readTable ml_MD_224 rfl rfl ⟨by decide, by decide, by decide, by decide⟩ (Nat.le_of_ble_eq_true rfl) (by decide +kernel) (fun r7 h8 => ?_)
      refine gx_goto (off := 7) (tgt := 98) (by decide +kernel) (by decide) ?_
      exact gx_less' (y_MD_readClause_98 _ _) ⟨rfl, trivial⟩
  · refine gx_aload_n (i := 0) (by decide +kernel) rfl ?_
    refine gx_cVv0 (Mc := gm_MD_readMany) (u' := (0, 0)) (c_MD_readMany _ _) vk_MD_readMany ml_MD_221 rfl rfl ⟨by decide, by decide, by decide, by decide⟩ (Nat.le_of_ble_eq_true rfl) (by decide +kernel) (fun r9 h10 => ?_)
    refine gx_goto (off := 20) (tgt := 98) (by decide +kernel) (by decide) ?_
    exact gx_less' (y_MD_readClause_98 _ _) ⟨rfl, trivial⟩
def fb_MD_readClause_42 (h : gx_H) (l0 : Nat) (l1 : Int) (l2 : Int) : Option (Int × gx_H) :=
  gq_g (gx_i l1) (if l1 = 0 then gq_g (gx_i l2) (if l2 = 110 then gq_cv h l0 1 (f_MD_fail h l0 3) (fun r3 h4 => some (0, h4)) else fb_MD_readClause_58 h l0 l2) else fb_MD_readClause_58 h l0 l2)
set_option maxHeartbeats 4000000 in
set_option maxRecDepth 100000 in
theorem y_MD_readClause_42 (h : gx_H) (l0 : Nat) (l1 : Int) (l2 : Int) : gx_Y gm_MD_readClause (0, 0) 42 [some (gx_R l0), some (gx_I l1), some (gx_I l2)] [] h (fb_MD_readClause_42 h l0 l1 l2) := by
  unfold fb_MD_readClause_42
  refine gx_iload_n (i := 1) (by decide +kernel) rfl ?_
  refine gx_g (fun c1 => ?_)
  refine gx_if_ne (off := 15) (tgt := 58) c1 (by decide +kernel) (by decide) ?_ ?_
  · exact gx_less' (y_MD_readClause_58 _ _ _) ⟨rfl, rfl, trivial⟩
  · refine gx_iload_n (i := 2) (by decide +kernel) rfl ?_
    refine gx_bipush (n := 110) (by decide +kernel) (by decide) ?_
    refine gx_g (fun c2 => ?_)
    refine gx_icmp_ne (off := 9) (tgt := 58) c2 (by decide) (by decide +kernel) (by decide) ?_ ?_
    · exact gx_less' (y_MD_readClause_58 _ _ _) ⟨rfl, rfl, trivial⟩
    · refine gx_aload_n (i := 0) (by decide +kernel) rfl ?_
      refine gx_iconst (n := 3) (by decide +kernel) ?_
      refine gx_cVv1 (Mc := gm_MD_fail) (u' := (0, 0)) (c_MD_fail _ _ _) vk_MD_fail ml_MD_211 rfl rfl ⟨by decide, by decide, by decide, by decide⟩ (Nat.le_of_ble_eq_true rfl) (by decide +kernel) (fun r3 h4 => ?_)
      exact gx_return rfl rfl (by decide +kernel)
def f_MD_readClause (h : gx_H) (l0 : Nat) (l1 : Int) : Option (Int × gx_H) :=
  gq_cv h l0 1 (f_MD_here h l0) (fun r1 h2 => gq_g (gx_i l1) (if l1 = 0 then gq_g (gx_i r1) (if r1 = 110 then fb_MD_readClause_42 h2 l0 l1 r1 else if r1 = 98 then fb_MD_readClause_42 h2 l0 l1 r1 else if r1 = 120 then fb_MD_readClause_42 h2 l0 l1 r1 else fb_MD_readClause_36 h2 l0) else gq_g (gx_i r1) (if r1 = 110 then fb_MD_readClause_42 h2 l0 l1 r1 else fb_MD_readClause_36 h2 l0)))
set_option maxHeartbeats 4000000 in
set_option maxRecDepth 100000 in
theorem c_MD_readClause (h : gx_H) (l0 : Nat) (l1 : Int) : ∀ r h1, f_MD_readClause h l0 l1 = some (r, h1) → gx_Met gm_MD_readClause [gx_R l0, gx_I l1] h r h1 := by
  refine gx_enter (l := [some (gx_R l0), some (gx_I l1), none]) (by decide) (Nat.le_of_ble_eq_true rfl) rfl ?_
  unfold f_MD_readClause
  refine gx_aload_n (i := 0) (by decide +kernel) rfl ?_
  refine gx_cVi0 (Mc := gm_MD_here) (u' := (0, 0)) (c_MD_here _ _) vk_MD_here ml_MD_208 rfl rfl ⟨by decide, by decide, by decide, by decide⟩ (Nat.le_of_ble_eq_true rfl) (by decide +kernel) (fun r1 h2 => ?_)
  refine gx_istore_n (i := 2) (l' := [some (gx_R _), some (gx_I _), some (gx_I _)]) (by decide +kernel) rfl (Nat.le_of_ble_eq_true rfl) (by decide) rfl ?_
  refine gx_iload_n (i := 1) (by decide +kernel) rfl ?_
  refine gx_g (fun c3 => ?_)
  refine gx_if_eq (off := 12) (tgt := 18) c3 (by decide +kernel) (by decide) ?_ ?_
  · refine gx_iload_n (i := 2) (by decide +kernel) rfl ?_
    refine gx_bipush (n := 110) (by decide +kernel) (by decide) ?_
    refine gx_g (fun c4 => ?_)
    refine gx_icmp_eq (off := 21) (tgt := 42) c4 (by decide) (by decide +kernel) (by decide) ?_ ?_
    · exact gx_less' (y_MD_readClause_42 _ _ _ _) ⟨rfl, rfl, rfl, trivial⟩
    · refine gx_iload_n (i := 2) (by decide +kernel) rfl ?_
      refine gx_bipush (n := 98) (by decide +kernel) (by decide) ?_
      refine gx_icmp_eq (off := 15) (tgt := 42) c4 (by decide) (by decide +kernel) (by decide) ?_ ?_
      · exact gx_less' (y_MD_readClause_42 _ _ _ _) ⟨rfl, rfl, rfl, trivial⟩
      · refine gx_iload_n (i := 2) (by decide +kernel) rfl ?_
        refine gx_bipush (n := 120) (by decide +kernel) (by decide) ?_
        refine gx_icmp_eq (off := 9) (tgt := 42) c4 (by decide) (by decide +kernel) (by decide) ?_ ?_
        · exact gx_less' (y_MD_readClause_42 _ _ _ _) ⟨rfl, rfl, rfl, trivial⟩
        · exact gx_less' (y_MD_readClause_36 _ _) ⟨rfl, trivial⟩
  · refine gx_iload_n (i := 2) (by decide +kernel) rfl ?_
    refine gx_bipush (n := 110) (by decide +kernel) (by decide) ?_
    refine gx_g (fun c5 => ?_)
    refine gx_icmp_eq (off := 30) (tgt := 42) c5 (by decide) (by decide +kernel) (by decide) ?_ ?_
    · exact gx_less' (y_MD_readClause_42 _ _ _ _) ⟨rfl, rfl, rfl, trivial⟩
    · refine gx_goto (off := 21) (tgt := 36) (by decide +kernel) (by decide) ?_
      exact gx_less' (y_MD_readClause_36 _ _) ⟨rfl, trivial⟩
def fb_MD_letters_43 (h : gx_H) (l0 : Nat) : Option (Int × gx_H) :=
  gq_put True h l0 1 7 0 (fun h1 => gq_get h1 l0 1 25 (fun v2 => if v2 = 0 then gq_cv h1 l0 1 (f_MD_begin h1 l0) (fun r4 h5 => gq_get h5 l0 1 1 (fun v6 => some (v6, h5))) else gq_get h1 l0 1 26 (fun v8 => gq_put True h1 l0 1 8 v8 (fun h10 => gq_get h10 l0 1 25 (fun v11 => some (((-10) - v11), h10))))))
set_option maxHeartbeats 4000000 in
set_option maxRecDepth 100000 in
theorem y_MD_letters_43 (h : gx_H) (l0 : Nat) : gx_Y gm_MD_letters (0, 0) 43 [some (gx_R l0)] [] h (fb_MD_letters_43 h l0) := by
  unfold fb_MD_letters_43
  refine gx_aload_n (i := 0) (by decide +kernel) rfl ?_
  refine gx_iconst (n := 0) (by decide +kernel) ?_
  refine gx_putiT (by decide) gk_MD (by decide) fl_MD_195 rfl rfl (by decide +kernel) ?_
  refine gx_aload_n (i := 0) (by decide +kernel) rfl ?_
  refine gx_geti gk_MD (by decide) fl_MD_199 (Or.inl rfl) (by decide +kernel) (fun c3 => ?_)
  refine gx_if_eq (off := 19) (tgt := 71) c3 (by decide +kernel) (by decide) ?_ ?_
  · refine gx_aload_n (i := 0) (by decide +kernel) rfl ?_
    refine gx_cVv0 (Mc := gm_MD_begin) (u' := (0, 0)) (c_MD_begin _ _) vk_MD_begin ml_MD_65 rfl rfl ⟨by decide, by decide, by decide, by decide⟩ (Nat.le_of_ble_eq_true rfl) (by decide +kernel) (fun r4 h5 => ?_)
    refine gx_aload_n (i := 0) (by decide +kernel) rfl ?_
    refine gx_geti gk_MD (by decide) fl_MD_13 (Or.inl rfl) (by decide +kernel) (fun c7 => ?_)
    exact gx_ireturn rfl rfl (by decide +kernel)
  · refine gx_aload_n (i := 0) (by decide +kernel) rfl ?_
    refine gx_aload_n (i := 0) (by decide +kernel) rfl ?_
    refine gx_geti gk_MD (by decide) fl_MD_205 (Or.inl rfl) (by decide +kernel) (fun c9 => ?_)
    refine gx_putiT c9 gk_MD (by decide) fl_MD_23 rfl rfl (by decide +kernel) ?_
    refine gx_bipush (n := (-10)) (by decide +kernel) (by decide) ?_
    refine gx_aload_n (i := 0) (by decide +kernel) rfl ?_
    refine gx_geti gk_MD (by decide) fl_MD_199 (Or.inl rfl) (by decide +kernel) (fun c12 => ?_)
    refine gx_isub (by decide +kernel) ?_
    exact gx_ireturn rfl rfl (by decide +kernel)
def fb_MD_letters_20 (N20 : gx_H → Nat → Option (Int × gx_H)) (h : gx_H) (l0 : Nat) : Option (Int × gx_H) :=
  gq_get h l0 1 25 (fun v1 => if v1 = 0 then gq_cv h l0 1 (f_MD_here h l0) (fun r3 h4 => gq_g (gx_i r3) (if r3 = (-1) then fb_MD_letters_43 h4 l0 else gq_cv h4 l0 1 (f_MD_readClause h4 l0 0) (fun r6 h7 => N20 h7 l0))) else fb_MD_letters_43 h l0)
set_option maxHeartbeats 4000000 in
set_option maxRecDepth 100000 in
theorem yb_MD_letters_20 (N20 : gx_H → Nat → Option (Int × gx_H)) (hN20 : ∀ (h : gx_H) (l0 : Nat), gx_Y gm_MD_letters (0, 0) 20 [some (gx_R l0)] [] h (N20 h l0)) (h : gx_H) (l0 : Nat) : gx_Y gm_MD_letters (0, 0) 20 [some (gx_R l0)] [] h (fb_MD_letters_20 N20 h l0) := by
  unfold fb_MD_letters_20
  refine gx_aload_n (i := 0) (by decide +kernel) rfl ?_
  refine gx_geti gk_MD (by decide) fl_MD_199 (Or.inl rfl) (by decide +kernel) (fun c2 => ?_)
  refine gx_if_ne (off := 19) (tgt := 43) c2 (by decide +kernel) (by decide) ?_ ?_
  · exact gx_less' (y_MD_letters_43 _ _) ⟨rfl, trivial⟩
  · refine gx_aload_n (i := 0) (by decide +kernel) rfl ?_
    refine gx_cVi0 (Mc := gm_MD_here) (u' := (0, 0)) (c_MD_here _ _) vk_MD_here ml_MD_208 rfl rfl ⟨by decide, by decide, by decide, by decide⟩ (Nat.le_of_ble_eq_true rfl) (by decide +kernel) (fun r3 h4 => ?_)
    refine gx_iconst (n := (-1)) (by decide +kernel) ?_
    refine gx_g (fun c5 => ?_)
    refine gx_icmp_eq (off := 11) (tgt := 43) c5 (by decide) (by decide +kernel) (by decide) ?_ ?_
    · exact gx_less' (y_MD_letters_43 _ _) ⟨rfl, trivial⟩
    · refine gx_aload_n (i := 0) (by decide +kernel) rfl ?_
      refine gx_iconst (n := 0) (by decide +kernel) ?_
      refine gx_cVv1 (Mc := gm_MD_readClause) (u' := (0, 0)) (c_MD_readClause _ _ _) vk_MD_readClause ml_MD_239 rfl rfl ⟨by decide, by decide, by decide, by decide⟩ (Nat.le_of_ble_eq_true rfl) (by decide +kernel) (fun r6 h7 => ?_)
      refine gx_goto (off := -20) (tgt := 20) (by decide +kernel) (by decide) ?_
      exact gx_less' (hN20 _ _) ⟨rfl, trivial⟩
def f_MD_letters_20 : Nat → gx_H → Nat → Option (Int × gx_H)
  | 0 => fun _ _ => none
  | fu + 1 => fb_MD_letters_20 (f_MD_letters_20 fu)
theorem y_MD_letters_20 : ∀ (fu : Nat) (h : gx_H) (l0 : Nat), gx_Y gm_MD_letters (0, 0) 20 [some (gx_R l0)] [] h (f_MD_letters_20 fu h l0) := by
  intro fu
  induction fu with
  | zero => intro h l0; exact gx_none
  | succ fu ih => intro h l0; exact yb_MD_letters_20 (f_MD_letters_20 fu) ih h l0
def f_MD_letters (h : gx_H) (l0 : Nat) : Option (Int × gx_H) :=
  gq_put True h l0 1 24 0 (fun h1 => gq_put True h1 l0 1 25 0 (fun h2 => gq_put True h2 l0 1 8 (-1) (fun h3 => gq_cv h3 l0 1 (f_MD_readClause h3 l0 1) (fun r4 h5 => f_MD_letters_20 gx_fu h5 l0))))
set_option maxHeartbeats 4000000 in
set_option maxRecDepth 100000 in
theorem c_MD_letters (h : gx_H) (l0 : Nat) : ∀ r h1, f_MD_letters h l0 = some (r, h1) → gx_Met gm_MD_letters [gx_R l0] h r h1 := by
  refine gx_enter (l := [some (gx_R l0)]) (by decide) (Nat.le_of_ble_eq_true rfl) rfl ?_
  unfold f_MD_letters
  refine gx_aload_n (i := 0) (by decide +kernel) rfl ?_
  refine gx_iconst (n := 0) (by decide +kernel) ?_
  refine gx_putiT (by decide) gk_MD (by decide) fl_MD_202 rfl rfl (by decide +kernel) ?_
  refine gx_aload_n (i := 0) (by decide +kernel) rfl ?_
  refine gx_iconst (n := 0) (by decide +kernel) ?_
  refine gx_putiT (by decide) gk_MD (by decide) fl_MD_199 rfl rfl (by decide +kernel) ?_
  refine gx_aload_n (i := 0) (by decide +kernel) rfl ?_
  refine gx_iconst (n := (-1)) (by decide +kernel) ?_
  refine gx_putiT (by decide) gk_MD (by decide) fl_MD_23 rfl rfl (by decide +kernel) ?_
  refine gx_aload_n (i := 0) (by decide +kernel) rfl ?_
  refine gx_iconst (n := 1) (by decide +kernel) ?_
  refine gx_cVv1 (Mc := gm_MD_readClause) (u' := (0, 0)) (c_MD_readClause _ _ _) vk_MD_readClause ml_MD_239 rfl rfl ⟨by decide, by decide, by decide, by decide⟩ (Nat.le_of_ble_eq_true rfl) (by decide +kernel) (fun r4 h5 => ?_)
  exact gx_less' (y_MD_letters_20 gx_fu _ _) ⟨rfl, trivial⟩
def f_MD_fault (h : gx_H) (l0 : Nat) : Option (Int × gx_H) :=
  gq_get h l0 1 8 (fun v1 => some (v1, h))
set_option maxHeartbeats 4000000 in
set_option maxRecDepth 100000 in
theorem c_MD_fault (h : gx_H) (l0 : Nat) : ∀ r h1, f_MD_fault h l0 = some (r, h1) → gx_Met gm_MD_fault [gx_R l0] h r h1 := by
  refine gx_enter (l := [some (gx_R l0)]) (by decide) (Nat.le_of_ble_eq_true rfl) rfl ?_
  unfold f_MD_fault
  refine gx_aload_n (i := 0) (by decide +kernel) rfl ?_
  refine gx_geti gk_MD (by decide) fl_MD_23 (Or.inl rfl) (by decide +kernel) (fun c2 => ?_)
  exact gx_ireturn rfl rfl (by decide +kernel)
def fb_MD_code_4 (N4 : gx_H → Nat → Int → Int → Int → Option (Int × gx_H)) (h : gx_H) (l0 : Nat) (l1 : Int) (l2 : Int) (l3 : Int) : Option (Int × gx_H) :=
  gq_get h l0 1 1 (fun v1 => gq_g (gx_i l3) (if l3 < v1 then gq_gr h l0 1 0 (fun o4 => gq_ald 0 h o4 ((24 + (4 * l1)) + l3) (fun v5 => N4 h l0 l1 (((200 * l2) + v5) + 100) (l3 + 1))) else some (l2, h)))
set_option maxHeartbeats 4000000 in
set_option maxRecDepth 100000 in
theorem yb_MD_code_4 (N4 : gx_H → Nat → Int → Int → Int → Option (Int × gx_H)) (hN4 : ∀ (h : gx_H) (l0 : Nat) (l1 : Int) (l2 : Int) (l3 : Int), gx_Y gm_MD_code (0, 0) 4 [some (gx_R l0), some (gx_I l1), some (gx_I l2), some (gx_I l3)] [] h (N4 h l0 l1 l2 l3)) (h : gx_H) (l0 : Nat) (l1 : Int) (l2 : Int) (l3 : Int) : gx_Y gm_MD_code (0, 0) 4 [some (gx_R l0), some (gx_I l1), some (gx_I l2), some (gx_I l3)] [] h (fb_MD_code_4 N4 h l0 l1 l2 l3) := by
  unfold fb_MD_code_4
  refine gx_iload_n (i := 3) (by decide +kernel) rfl ?_
  refine gx_aload_n (i := 0) (by decide +kernel) rfl ?_
  refine gx_geti gk_MD (by decide) fl_MD_13 (Or.inl rfl) (by decide +kernel) (fun c2 => ?_)
  refine gx_g (fun c3 => ?_)
  refine gx_icmp_ge (off := 32) (tgt := 41) c3 c2 (by decide +kernel) (by decide) ?_ ?_
  · refine gx_iload_n (i := 2) (by decide +kernel) rfl ?_
    exact gx_ireturn rfl rfl (by decide +kernel)
  · refine gx_sipush (n := 200) (by decide +kernel) (by decide) ?_
    refine gx_iload_n (i := 2) (by decide +kernel) rfl ?_
    refine gx_imul (by decide +kernel) ?_
    refine gx_aload_n (i := 0) (by decide +kernel) rfl ?_
    refine gx_getr gk_MD (by decide) fl_MD_7 rfl (by decide +kernel) ?_
    refine gx_bipush (n := 24) (by decide +kernel) (by decide) ?_
    refine gx_iconst (n := 4) (by decide +kernel) ?_
    refine gx_iload_n (i := 1) (by decide +kernel) rfl ?_
    refine gx_imul (by decide +kernel) ?_
    refine gx_iadd (by decide +kernel) ?_
    refine gx_iload_n (i := 3) (by decide +kernel) rfl ?_
    refine gx_iadd (by decide +kernel) ?_
    refine gx_ialdi (by decide +kernel) (fun c6 => ?_)
    refine gx_iadd (by decide +kernel) ?_
    refine gx_bipush (n := 100) (by decide +kernel) (by decide) ?_
    refine gx_iadd (by decide +kernel) ?_
    refine gx_istore_n (i := 2) (l' := [some (gx_R _), some (gx_I _), some (gx_I _), some (gx_I _)]) (by decide +kernel) rfl (Nat.le_of_ble_eq_true rfl) (by decide) rfl ?_
    refine gx_iinc (i := 3) (n := 1) (l' := [some (gx_R _), some (gx_I _), some (gx_I _), some (gx_I _)]) (by decide +kernel) rfl rfl (Nat.le_of_ble_eq_true rfl) (by decide) rfl ?_
    refine gx_goto (off := -34) (tgt := 4) (by decide +kernel) (by decide) ?_
    exact gx_less' (hN4 _ _ _ _ _) ⟨rfl, rfl, rfl, rfl, trivial⟩
def f_MD_code_4 : Nat → gx_H → Nat → Int → Int → Int → Option (Int × gx_H)
  | 0 => fun _ _ _ _ _ => none
  | fu + 1 => fb_MD_code_4 (f_MD_code_4 fu)
theorem y_MD_code_4 : ∀ (fu : Nat) (h : gx_H) (l0 : Nat) (l1 : Int) (l2 : Int) (l3 : Int), gx_Y gm_MD_code (0, 0) 4 [some (gx_R l0), some (gx_I l1), some (gx_I l2), some (gx_I l3)] [] h (f_MD_code_4 fu h l0 l1 l2 l3) := by
  intro fu
  induction fu with
  | zero => intro h l0 l1 l2 l3; exact gx_none
  | succ fu ih => intro h l0 l1 l2 l3; exact yb_MD_code_4 (f_MD_code_4 fu) ih h l0 l1 l2 l3
def f_MD_code (h : gx_H) (l0 : Nat) (l1 : Int) : Option (Int × gx_H) :=
  f_MD_code_4 gx_fu h l0 l1 0 0
set_option maxHeartbeats 4000000 in
set_option maxRecDepth 100000 in
theorem c_MD_code (h : gx_H) (l0 : Nat) (l1 : Int) : ∀ r h1, f_MD_code h l0 l1 = some (r, h1) → gx_Met gm_MD_code [gx_R l0, gx_I l1] h r h1 := by
  refine gx_enter (l := [some (gx_R l0), some (gx_I l1), none, none]) (by decide) (Nat.le_of_ble_eq_true rfl) rfl ?_
  unfold f_MD_code
  refine gx_iconst (n := 0) (by decide +kernel) ?_
  refine gx_istore_n (i := 2) (l' := [some (gx_R _), some (gx_I _), some (gx_I _), none]) (by decide +kernel) rfl (Nat.le_of_ble_eq_true rfl) (by decide) rfl ?_
  refine gx_iconst (n := 0) (by decide +kernel) ?_
  refine gx_istore_n (i := 3) (l' := [some (gx_R _), some (gx_I _), some (gx_I _), some (gx_I _)]) (by decide +kernel) rfl (Nat.le_of_ble_eq_true rfl) (by decide) rfl ?_
  exact gx_less' (y_MD_code_4 gx_fu _ _ _ _ _) ⟨rfl, rfl, rfl, rfl, trivial⟩
def fb_MD_wrongEntry_2 (N2 : gx_H → Nat → Int → Option (Int × gx_H)) (h : gx_H) (l0 : Nat) (l1 : Int) : Option (Int × gx_H) :=
  gq_get h l0 1 11 (fun v1 => gq_g (gx_i l1) (if l1 < v1 then gq_gr h l0 1 9 (fun o4 => gq_ald 0 h o4 l1 (fun v5 => gq_cv h l0 1 (f_MD_isLetter h l0 v5) (fun r7 h8 => gq_g (gx_i r7) (if r7 = 0 then some (l1, h8) else gq_gr h8 l0 1 9 (fun o10 => gq_ald 0 h8 o10 l1 (fun v11 => gq_cv h8 l0 1 (f_MD_code h8 l0 v11) (fun r13 h14 => gq_gr h14 l0 1 10 (fun o15 => gq_ald 0 h14 o15 l1 (fun v16 => gq_g (gx_i r13) (if r13 = v16 then N2 h14 l0 (l1 + 1) else some (l1, h14))))))))))) else some ((-1), h)))
set_option maxHeartbeats 4000000 in
set_option maxRecDepth 100000 in
theorem yb_MD_wrongEntry_2 (N2 : gx_H → Nat → Int → Option (Int × gx_H)) (hN2 : ∀ (h : gx_H) (l0 : Nat) (l1 : Int), gx_Y gm_MD_wrongEntry (0, 0) 2 [some (gx_R l0), some (gx_I l1)] [] h (N2 h l0 l1)) (h : gx_H) (l0 : Nat) (l1 : Int) : gx_Y gm_MD_wrongEntry (0, 0) 2 [some (gx_R l0), some (gx_I l1)] [] h (fb_MD_wrongEntry_2 N2 h l0 l1) := by
  unfold fb_MD_wrongEntry_2
  refine gx_iload_n (i := 1) (by decide +kernel) rfl ?_
  refine gx_aload_n (i := 0) (by decide +kernel) rfl ?_
  refine gx_geti gk_MD (by decide) fl_MD_236 (Or.inl rfl) (by decide +kernel) (fun c2 => ?_)
  refine gx_g (fun c3 => ?_)
  refine gx_icmp_ge (off := 43) (tgt := 50) c3 c2 (by decide +kernel) (by decide) ?_ ?_
  · refine gx_iconst (n := (-1)) (by decide +kernel) ?_
    exact gx_ireturn rfl rfl (by decide +kernel)
  · refine gx_aload_n (i := 0) (by decide +kernel) rfl ?_
    refine gx_aload_n (i := 0) (by decide +kernel) rfl ?_
    refine gx_getr gk_MD (by decide) fl_MD_26 rfl (by decide +kernel) ?_
    refine gx_iload_n (i := 1) (by decide +kernel) rfl ?_
    refine gx_ialdi (by decide +kernel) (fun c6 => ?_)
    refine gx_cVi1 (Mc := gm_MD_isLetter) (u' := (0, 0)) (c_MD_isLetter _ _ _) vk_MD_isLetter ml_MD_189 rfl rfl ⟨by decide, by decide, by decide, by decide⟩ (Nat.le_of_ble_eq_true rfl) (by decide +kernel) (fun r7 h8 => ?_)
    refine gx_g (fun c9 => ?_)
    refine gx_if_eq (off := 22) (tgt := 42) c9 (by decide +kernel) (by decide) ?_ ?_
    · refine gx_iload_n (i := 1) (by decide +kernel) rfl ?_
      exact gx_ireturn rfl rfl (by decide +kernel)
    · refine gx_aload_n (i := 0) (by decide +kernel) rfl ?_
      refine gx_aload_n (i := 0) (by decide +kernel) rfl ?_
      refine gx_getr gk_MD (by decide) fl_MD_26 rfl (by decide +kernel) ?_
      refine gx_iload_n (i := 1) (by decide +kernel) rfl ?_
      refine gx_ialdi (by decide +kernel) (fun c12 => ?_)
      refine gx_cVi1 (Mc := gm_MD_code) (u' := (0, 0)) (c_MD_code _ _ _) vk_MD_code ml_MD_242 rfl rfl ⟨by decide, by decide, by decide, by decide⟩ (Nat.le_of_ble_eq_true rfl) (by decide +kernel) (fun r13 h14 => ?_)
      refine gx_aload_n (i := 0) (by decide +kernel) rfl ?_
      refine gx_getr gk_MD (by decide) fl_MD_29 rfl (by decide +kernel) ?_
      refine gx_iload_n (i := 1) (by decide +kernel) rfl ?_
      refine gx_ialdi (by decide +kernel) (fun c17 => ?_)
      refine gx_g (fun c18 => ?_)
      refine gx_icmp_eq (off := 5) (tgt := 44) c18 c17 (by decide +kernel) (by decide) ?_ ?_
      · refine gx_iinc (i := 1) (n := 1) (l' := [some (gx_R _), some (gx_I _)]) (by decide +kernel) rfl rfl (Nat.le_of_ble_eq_true rfl) (by decide) rfl ?_
        refine gx_goto (off := -45) (tgt := 2) (by decide +kernel) (by decide) ?_
        exact gx_less' (hN2 _ _ _) ⟨rfl, rfl, trivial⟩
      · refine gx_iload_n (i := 1) (by decide +kernel) rfl ?_
        exact gx_ireturn rfl rfl (by decide +kernel)
def f_MD_wrongEntry_2 : Nat → gx_H → Nat → Int → Option (Int × gx_H)
  | 0 => fun _ _ _ => none
  | fu + 1 => fb_MD_wrongEntry_2 (f_MD_wrongEntry_2 fu)
theorem y_MD_wrongEntry_2 : ∀ (fu : Nat) (h : gx_H) (l0 : Nat) (l1 : Int), gx_Y gm_MD_wrongEntry (0, 0) 2 [some (gx_R l0), some (gx_I l1)] [] h (f_MD_wrongEntry_2 fu h l0 l1) := by
  intro fu
  induction fu with
  | zero => intro h l0 l1; exact gx_none
  | succ fu ih => intro h l0 l1; exact yb_MD_wrongEntry_2 (f_MD_wrongEntry_2 fu) ih h l0 l1
def f_MD_wrongEntry (h : gx_H) (l0 : Nat) : Option (Int × gx_H) :=
  f_MD_wrongEntry_2 gx_fu h l0 0
set_option maxHeartbeats 4000000 in
set_option maxRecDepth 100000 in
theorem c_MD_wrongEntry (h : gx_H) (l0 : Nat) : ∀ r h1, f_MD_wrongEntry h l0 = some (r, h1) → gx_Met gm_MD_wrongEntry [gx_R l0] h r h1 := by
  refine gx_enter (l := [some (gx_R l0), none]) (by decide) (Nat.le_of_ble_eq_true rfl) rfl ?_
  unfold f_MD_wrongEntry
  refine gx_iconst (n := 0) (by decide +kernel) ?_
  refine gx_istore_n (i := 1) (l' := [some (gx_R _), some (gx_I _)]) (by decide +kernel) rfl (Nat.le_of_ble_eq_true rfl) (by decide) rfl ?_
  exact gx_less' (y_MD_wrongEntry_2 gx_fu _ _ _) ⟨rfl, rfl, trivial⟩
def f_MD_told (h : gx_H) (l0 : Nat) (l1 : Int) : Option (Int × gx_H) :=
  gq_g (gx_i l1) (if l1 = 0 then gq_get h l0 1 1 (fun v3 => some (v3, h)) else if l1 = 1 then gq_get h l0 1 7 (fun v6 => some (v6, h)) else if l1 = 2 then gq_cv h l0 1 (f_MD_isWell h l0) (fun r9 h10 => gq_g (gx_i r9) (if r9 = 0 then some (0, h10) else some (1, h10))) else if l1 = 3 then gq_gr h l0 1 0 (fun o13 => gq_ald 0 h o13 72 (fun v14 => some (v14, h))) else if l1 = 4 then gq_cv h l0 1 (f_MD_ofStands h l0 l1) (fun r17 h18 => some (r17, h18)) else if l1 = 5 then gq_cv h l0 1 (f_MD_ofStands h l0 l1) (fun r20 h21 => some (r20, h21)) else if l1 = 6 then gq_cv h l0 1 (f_MD_ofStands h l0 l1) (fun r23 h24 => some (r23, h24)) else if l1 = 7 then gq_get h l0 1 11 (fun v26 => some (v26, h)) else if l1 = 8 then gq_cv h l0 1 (f_MD_wrongEntry h l0) (fun r29 h30 => some (r29, h30)) else if l1 = 9 then gq_get h l0 1 2 (fun v32 => some (v32, h)) else some ((-1000000002), h))
set_option maxHeartbeats 4000000 in
set_option maxRecDepth 100000 in
theorem c_MD_told (h : gx_H) (l0 : Nat) (l1 : Int) : ∀ r h1, f_MD_told h l0 l1 = some (r, h1) → gx_Met gm_MD_told [gx_R l0, gx_I l1] h r h1 := by
  refine gx_enter (l := [some (gx_R l0), some (gx_I l1)]) (by decide) (Nat.le_of_ble_eq_true rfl) rfl ?_
  unfold f_MD_told
  refine gx_iload_n (i := 1) (by decide +kernel) rfl ?_
  refine gx_g (fun c1 => ?_)
  refine gx_ite (fun c2 => ?_) (fun c2 => ?_)
  · refine gx_swIn (dflt := 107) (lo := 0) (hi := 9) (offs := #[55, 60, 65, 78, 86, 86, 86, 92, 97, 102]) (len := 55) (off := 55) (tgt := 56) c1 (by decide +kernel) (by rw [c2]; decide) (by rw [c2]; decide) (by rw [c2]; decide) (by decide) ?_
    refine gx_aload_n (i := 0) (by decide +kernel) rfl ?_
    refine gx_geti gk_MD (by decide) fl_MD_13 (Or.inl rfl) (by decide +kernel) (fun c4 => ?_)
    exact gx_ireturn rfl rfl (by decide +kernel)
  · refine gx_ite (fun c5 => ?_) (fun c5 => ?_)
    · refine gx_swIn (dflt := 107) (lo := 0) (hi := 9) (offs := #[55, 60, 65, 78, 86, 86, 86, 92, 97, 102]) (len := 55) (off := 60) (tgt := 61) c1 (by decide +kernel) (by rw [c5]; decide) (by rw [c5]; decide) (by rw [c5]; decide) (by decide) ?_
      refine gx_aload_n (i := 0) (by decide +kernel) rfl ?_
      refine gx_geti gk_MD (by decide) fl_MD_195 (Or.inl rfl) (by decide +kernel) (fun c7 => ?_)
      exact gx_ireturn rfl rfl (by decide +kernel)
    · refine gx_ite (fun c8 => ?_) (fun c8 => ?_)
      · refine gx_swIn (dflt := 107) (lo := 0) (hi := 9) (offs := #[55, 60, 65, 78, 86, 86, 86, 92, 97, 102]) (len := 55) (off := 65) (tgt := 66) c1 (by decide +kernel) (by rw [c8]; decide) (by rw [c8]; decide) (by rw [c8]; decide) (by decide) ?_
        refine gx_aload_n (i := 0) (by decide +kernel) rfl ?_
        refine gx_cVi0 (Mc := gm_MD_isWell) (u' := (0, 0)) (c_MD_isWell _ _) vk_MD_isWell ml_MD_120 rfl rfl ⟨by decide, by decide, by decide, by decide⟩ (Nat.le_of_ble_eq_true rfl) (by decide +kernel) (fun r9 h10 => ?_)
        refine gx_g (fun c11 => ?_)
        refine gx_if_eq (off := 7) (tgt := 77) c11 (by decide +kernel) (by decide) ?_ ?_
        · refine gx_iconst (n := 0) (by decide +kernel) ?_
          exact gx_ireturn rfl rfl (by decide +kernel)
        · refine gx_iconst (n := 1) (by decide +kernel) ?_
          refine gx_goto (off := 4) (tgt := 78) (by decide +kernel) (by decide) ?_
          exact gx_ireturn rfl rfl (by decide +kernel)
      · refine gx_ite (fun c12 => ?_) (fun c12 => ?_)
        · refine gx_swIn (dflt := 107) (lo := 0) (hi := 9) (offs := #[55, 60, 65, 78, 86, 86, 86, 92, 97, 102]) (len := 55) (off := 78) (tgt := 79) c1 (by decide +kernel) (by rw [c12]; decide) (by rw [c12]; decide) (by rw [c12]; decide) (by decide) ?_
          refine gx_aload_n (i := 0) (by decide +kernel) rfl ?_
          refine gx_getr gk_MD (by decide) fl_MD_7 rfl (by decide +kernel) ?_
          refine gx_bipush (n := 72) (by decide +kernel) (by decide) ?_
          refine gx_ialdi (by decide +kernel) (fun c15 => ?_)
          exact gx_ireturn rfl rfl (by decide +kernel)
        · refine gx_ite (fun c16 => ?_) (fun c16 => ?_)
          · refine gx_swIn (dflt := 107) (lo := 0) (hi := 9) (offs := #[55, 60, 65, 78, 86, 86, 86, 92, 97, 102]) (len := 55) (off := 86) (tgt := 87) c1 (by decide +kernel) (by rw [c16]; decide) (by rw [c16]; decide) (by rw [c16]; decide) (by decide) ?_
            refine gx_aload_n (i := 0) (by decide +kernel) rfl ?_
            refine gx_iload_n (i := 1) (by decide +kernel) rfl ?_
            refine gx_cVi1 (Mc := gm_MD_ofStands) (u' := (0, 0)) (c_MD_ofStands _ _ _) vk_MD_ofStands ml_MD_245 rfl rfl ⟨by decide, by decide, by decide, by decide⟩ (Nat.le_of_ble_eq_true rfl) (by decide +kernel) (fun r17 h18 => ?_)
            exact gx_ireturn rfl rfl (by decide +kernel)
          · refine gx_ite (fun c19 => ?_) (fun c19 => ?_)
            · refine gx_swIn (dflt := 107) (lo := 0) (hi := 9) (offs := #[55, 60, 65, 78, 86, 86, 86, 92, 97, 102]) (len := 55) (off := 86) (tgt := 87) c1 (by decide +kernel) (by rw [c19]; decide) (by rw [c19]; decide) (by rw [c19]; decide) (by decide) ?_
              refine gx_aload_n (i := 0) (by decide +kernel) rfl ?_
              refine gx_iload_n (i := 1) (by decide +kernel) rfl ?_
              refine gx_cVi1 (Mc := gm_MD_ofStands) (u' := (0, 0)) (c_MD_ofStands _ _ _) vk_MD_ofStands ml_MD_245 rfl rfl ⟨by decide, by decide, by decide, by decide⟩ (Nat.le_of_ble_eq_true rfl) (by decide +kernel) (fun r20 h21 => ?_)
              exact gx_ireturn rfl rfl (by decide +kernel)
            · refine gx_ite (fun c22 => ?_) (fun c22 => ?_)
              · refine gx_swIn (dflt := 107) (lo := 0) (hi := 9) (offs := #[55, 60, 65, 78, 86, 86, 86, 92, 97, 102]) (len := 55) (off := 86) (tgt := 87) c1 (by decide +kernel) (by rw [c22]; decide) (by rw [c22]; decide) (by rw [c22]; decide) (by decide) ?_
                refine gx_aload_n (i := 0) (by decide +kernel) rfl ?_
                refine gx_iload_n (i := 1) (by decide +kernel) rfl ?_
                refine gx_cVi1 (Mc := gm_MD_ofStands) (u' := (0, 0)) (c_MD_ofStands _ _ _) vk_MD_ofStands ml_MD_245 rfl rfl ⟨by decide, by decide, by decide, by decide⟩ (Nat.le_of_ble_eq_true rfl) (by decide +kernel) (fun r23 h24 => ?_)
                exact gx_ireturn rfl rfl (by decide +kernel)
              · refine gx_ite (fun c25 => ?_) (fun c25 => ?_)
                · refine gx_swIn (dflt := 107) (lo := 0) (hi := 9) (offs := #[55, 60, 65, 78, 86, 86, 86, 92, 97, 102]) (len := 55) (off := 92) (tgt := 93) c1 (by decide +kernel) (by rw [c25]; decide) (by rw [c25]; decide) (by rw [c25]; decide) (by decide) ?_
                  refine gx_aload_n (i := 0) (by decide +kernel) rfl ?_
                  refine gx_geti gk_MD (by decide) fl_MD_236 (Or.inl rfl) (by decide +kernel) (fun c27 => ?_)
                  exact gx_ireturn rfl rfl (by decide +kernel)
                · refine gx_ite (fun c28 => ?_) (fun c28 => ?_)
                  · refine gx_swIn (dflt := 107) (lo := 0) (hi := 9) (offs := #[55, 60, 65, 78, 86, 86, 86, 92, 97, 102]) (len := 55) (off := 97) (tgt := 98) c1 (by decide +kernel) (by rw [c28]; decide) (by rw [c28]; decide) (by rw [c28]; decide) (by decide) ?_
                    refine gx_aload_n (i := 0) (by decide +kernel) rfl ?_
                    refine gx_cVi0 (Mc := gm_MD_wrongEntry) (u' := (0, 0)) (c_MD_wrongEntry _ _) vk_MD_wrongEntry ml_MD_248 rfl rfl ⟨by decide, by decide, by decide, by decide⟩ (Nat.le_of_ble_eq_true rfl) (by decide +kernel) (fun r29 h30 => ?_)
                    exact gx_ireturn rfl rfl (by decide +kernel)
                  · refine gx_ite (fun c31 => ?_) (fun c31 => ?_)
                    · refine gx_swIn (dflt := 107) (lo := 0) (hi := 9) (offs := #[55, 60, 65, 78, 86, 86, 86, 92, 97, 102]) (len := 55) (off := 102) (tgt := 103) c1 (by decide +kernel) (by rw [c31]; decide) (by rw [c31]; decide) (by rw [c31]; decide) (by decide) ?_
                      refine gx_aload_n (i := 0) (by decide +kernel) rfl ?_
                      refine gx_geti gk_MD (by decide) fl_MD_230 (Or.inl rfl) (by decide +kernel) (fun c33 => ?_)
                      exact gx_ireturn rfl rfl (by decide +kernel)
                    · refine gx_swOut (dflt := 107) (lo := 0) (hi := 9) (offs := #[55, 60, 65, 78, 86, 86, 86, 92, 97, 102]) (len := 55) (tgt := 108) c1 (by decide +kernel) (by omega) (by decide) ?_
                      refine gx_ldc (a := (-1000000002)) kc_MD_188 (by decide +kernel) ?_
                      exact gx_ireturn rfl rfl (by decide +kernel)
def f_MD_table (h : gx_H) (l0 : Nat) (l1 : Int) (l2 : Int) : Option (Int × gx_H) :=
  gq_cv h l0 1 (f_MD_isLetter h l0 l1) (fun r1 h2 => gq_g (gx_i r1) (if r1 = 0 then some ((-1000000001), h2) else gq_cv h2 l0 1 (f_MD_isLetter h2 l0 l2) (fun r4 h5 => gq_g (gx_i r4) (if r4 = 0 then some ((-1000000001), h5) else gq_cv h5 l0 1 (f_MD_b h5 l0 0 l1 l2) (fun r7 h8 => some ((r7 + 1000), h8))))))
set_option maxHeartbeats 4000000 in
set_option maxRecDepth 100000 in
theorem c_MD_table (h : gx_H) (l0 : Nat) (l1 : Int) (l2 : Int) : ∀ r h1, f_MD_table h l0 l1 l2 = some (r, h1) → gx_Met gm_MD_table [gx_R l0, gx_I l1, gx_I l2] h r h1 := by
  refine gx_enter (l := [some (gx_R l0), some (gx_I l1), some (gx_I l2)]) (by decide) (Nat.le_of_ble_eq_true rfl) rfl ?_
  unfold f_MD_table
  refine gx_aload_n (i := 0) (by decide +kernel) rfl ?_
  refine gx_iload_n (i := 1) (by decide +kernel) rfl ?_
  refine gx_cVi1 (Mc := gm_MD_isLetter) (u' := (0, 0)) (c_MD_isLetter _ _ _) vk_MD_isLetter ml_MD_189 rfl rfl ⟨by decide, by decide, by decide, by decide⟩ (Nat.le_of_ble_eq_true rfl) (by decide +kernel) (fun r1 h2 => ?_)
  refine gx_g (fun c3 => ?_)
  refine gx_if_eq (off := 11) (tgt := 16) c3 (by decide +kernel) (by decide) ?_ ?_
  · refine gx_ldc (a := (-1000000001)) kc_MD_187 (by decide +kernel) ?_
    exact gx_ireturn rfl rfl (by decide +kernel)
  · refine gx_aload_n (i := 0) (by decide +kernel) rfl ?_
    refine gx_iload_n (i := 2) (by decide +kernel) rfl ?_
    refine gx_cVi1 (Mc := gm_MD_isLetter) (u' := (0, 0)) (c_MD_isLetter _ _ _) vk_MD_isLetter ml_MD_189 rfl rfl ⟨by decide, by decide, by decide, by decide⟩ (Nat.le_of_ble_eq_true rfl) (by decide +kernel) (fun r4 h5 => ?_)
    refine gx_g (fun c6 => ?_)
    refine gx_if_ne (off := 6) (tgt := 19) c6 (by decide +kernel) (by decide) ?_ ?_
    · refine gx_aload_n (i := 0) (by decide +kernel) rfl ?_
      refine gx_iconst (n := 0) (by decide +kernel) ?_
      refine gx_iload_n (i := 1) (by decide +kernel) rfl ?_
      refine gx_iload_n (i := 2) (by decide +kernel) rfl ?_
      refine gx_cVi3 (Mc := gm_MD_b) (u' := (0, 0)) (c_MD_b _ _ _ _ _) vk_MD_b ml_MD_72 rfl rfl ⟨by decide, by decide, by decide, by decide⟩ (Nat.le_of_ble_eq_true rfl) (by decide +kernel) (fun r7 h8 => ?_)
      refine gx_sipush (n := 1000) (by decide +kernel) (by decide) ?_
      refine gx_iadd (by decide +kernel) ?_
      exact gx_ireturn rfl rfl (by decide +kernel)
    · refine gx_ldc (a := (-1000000001)) kc_MD_187 (by decide +kernel) ?_
      exact gx_ireturn rfl rfl (by decide +kernel)
def fb_MD_bound_30 (N4 : gx_H → Nat → Int → Int → Int → Option (Int × gx_H)) (h : gx_H) (l0 : Nat) (l1 : Int) (l3 : Int) (t0 : Int) (t1 : Int) : Option (Int × gx_H) :=
  N4 h l0 l1 (gq_or t0 t1) (l3 + 1)
set_option maxHeartbeats 4000000 in
set_option maxRecDepth 100000 in
theorem y_MD_bound_30 (N4 : gx_H → Nat → Int → Int → Int → Option (Int × gx_H)) (hN4 : ∀ (h : gx_H) (l0 : Nat) (l1 : Int) (l2 : Int) (l3 : Int), gx_Y gm_MD_bound (0, 0) 4 [some (gx_R l0), some (gx_I l1), some (gx_I l2), some (gx_I l3)] [] h (N4 h l0 l1 l2 l3)) (h : gx_H) (l0 : Nat) (l1 : Int) (l3 : Int) (t0 : Int) (t1 : Int) : gx_Y gm_MD_bound (0, 0) 30 [some (gx_R l0), some (gx_I l1), none, some (gx_I l3)] [gx_I t1, gx_I t0] h (fb_MD_bound_30 N4 h l0 l1 l3 t0 t1) := by
  unfold fb_MD_bound_30
  refine gx_ior (by decide +kernel) ?_
  refine gx_istore_n (i := 2) (l' := [some (gx_R _), some (gx_I _), some (gx_I _), some (gx_I _)]) (by decide +kernel) rfl (Nat.le_of_ble_eq_true rfl) (by decide) rfl ?_
  refine gx_iinc (i := 3) (n := 1) (l' := [some (gx_R _), some (gx_I _), some (gx_I _), some (gx_I _)]) (by decide +kernel) rfl rfl (Nat.le_of_ble_eq_true rfl) (by decide) rfl ?_
  refine gx_goto (off := -31) (tgt := 4) (by decide +kernel) (by decide) ?_
  exact gx_less' (hN4 _ _ _ _ _) ⟨rfl, rfl, rfl, rfl, trivial⟩
def fb_MD_bound_4 (N4 : gx_H → Nat → Int → Int → Int → Option (Int × gx_H)) (h : gx_H) (l0 : Nat) (l1 : Int) (l2 : Int) (l3 : Int) : Option (Int × gx_H) :=
  gq_get h l0 1 1 (fun v1 => gq_g (gx_i l3) (if l3 < v1 then gq_cv h l0 1 (f_MD_b h l0 0 l1 l3) (fun r4 h5 => gq_g (gx_i r4) (if r4 = 0 then fb_MD_bound_30 N4 h5 l0 l1 l3 l2 0 else fb_MD_bound_30 N4 h5 l0 l1 l3 l2 (gq_shl 1 l3))) else some (l2, h)))
set_option maxHeartbeats 4000000 in
set_option maxRecDepth 100000 in
theorem yb_MD_bound_4 (N4 : gx_H → Nat → Int → Int → Int → Option (Int × gx_H)) (hN4 : ∀ (h : gx_H) (l0 : Nat) (l1 : Int) (l2 : Int) (l3 : Int), gx_Y gm_MD_bound (0, 0) 4 [some (gx_R l0), some (gx_I l1), some (gx_I l2), some (gx_I l3)] [] h (N4 h l0 l1 l2 l3)) (h : gx_H) (l0 : Nat) (l1 : Int) (l2 : Int) (l3 : Int) : gx_Y gm_MD_bound (0, 0) 4 [some (gx_R l0), some (gx_I l1), some (gx_I l2), some (gx_I l3)] [] h (fb_MD_bound_4 N4 h l0 l1 l2 l3) := by
  unfold fb_MD_bound_4
  refine gx_iload_n (i := 3) (by decide +kernel) rfl ?_
  refine gx_aload_n (i := 0) (by decide +kernel) rfl ?_
  refine gx_geti gk_MD (by decide) fl_MD_13 (Or.inl rfl) (by decide +kernel) (fun c2 => ?_)
  refine gx_g (fun c3 => ?_)
  refine gx_icmp_ge (off := 29) (tgt := 38) c3 c2 (by decide +kernel) (by decide) ?_ ?_
  · refine gx_iload_n (i := 2) (by decide +kernel) rfl ?_
    exact gx_ireturn rfl rfl (by decide +kernel)
  · refine gx_iload_n (i := 2) (by decide +kernel) rfl ?_
    refine gx_aload_n (i := 0) (by decide +kernel) rfl ?_
    refine gx_iconst (n := 0) (by decide +kernel) ?_
    refine gx_iload_n (i := 1) (by decide +kernel) rfl ?_
    refine gx_iload_n (i := 3) (by decide +kernel) rfl ?_
    refine gx_cVi3 (Mc := gm_MD_b) (u' := (0, 0)) (c_MD_b _ _ _ _ _) vk_MD_b ml_MD_72 rfl rfl ⟨by decide, by decide, by decide, by decide⟩ (Nat.le_of_ble_eq_true rfl) (by decide +kernel) (fun r4 h5 => ?_)
    refine gx_g (fun c6 => ?_)
    refine gx_if_eq (off := 9) (tgt := 29) c6 (by decide +kernel) (by decide) ?_ ?_
    · refine gx_iconst (n := 0) (by decide +kernel) ?_
      exact gx_less' (y_MD_bound_30 _ hN4 _ _ _ _ _ _) ⟨rfl, rfl, rfl, trivial⟩
    · refine gx_iconst (n := 1) (by decide +kernel) ?_
      refine gx_iload_n (i := 3) (by decide +kernel) rfl ?_
      refine gx_ishl (by decide +kernel) ?_
      refine gx_goto (off := 4) (tgt := 30) (by decide +kernel) (by decide) ?_
      exact gx_less' (y_MD_bound_30 _ hN4 _ _ _ _ _ _) ⟨rfl, rfl, rfl, trivial⟩
def f_MD_bound_4 : Nat → gx_H → Nat → Int → Int → Int → Option (Int × gx_H)
  | 0 => fun _ _ _ _ _ => none
  | fu + 1 => fb_MD_bound_4 (f_MD_bound_4 fu)
theorem y_MD_bound_4 : ∀ (fu : Nat) (h : gx_H) (l0 : Nat) (l1 : Int) (l2 : Int) (l3 : Int), gx_Y gm_MD_bound (0, 0) 4 [some (gx_R l0), some (gx_I l1), some (gx_I l2), some (gx_I l3)] [] h (f_MD_bound_4 fu h l0 l1 l2 l3) := by
  intro fu
  induction fu with
  | zero => intro h l0 l1 l2 l3; exact gx_none
  | succ fu ih => intro h l0 l1 l2 l3; exact yb_MD_bound_4 (f_MD_bound_4 fu) ih h l0 l1 l2 l3
def f_MD_bound (h : gx_H) (l0 : Nat) (l1 : Int) : Option (Int × gx_H) :=
  f_MD_bound_4 gx_fu h l0 l1 0 0
set_option maxHeartbeats 4000000 in
set_option maxRecDepth 100000 in
theorem c_MD_bound (h : gx_H) (l0 : Nat) (l1 : Int) : ∀ r h1, f_MD_bound h l0 l1 = some (r, h1) → gx_Met gm_MD_bound [gx_R l0, gx_I l1] h r h1 := by
  refine gx_enter (l := [some (gx_R l0), some (gx_I l1), none, none]) (by decide) (Nat.le_of_ble_eq_true rfl) rfl ?_
  unfold f_MD_bound
  refine gx_iconst (n := 0) (by decide +kernel) ?_
  refine gx_istore_n (i := 2) (l' := [some (gx_R _), some (gx_I _), some (gx_I _), none]) (by decide +kernel) rfl (Nat.le_of_ble_eq_true rfl) (by decide) rfl ?_
  refine gx_iconst (n := 0) (by decide +kernel) ?_
  refine gx_istore_n (i := 3) (l' := [some (gx_R _), some (gx_I _), some (gx_I _), some (gx_I _)]) (by decide +kernel) rfl (Nat.le_of_ble_eq_true rfl) (by decide) rfl ?_
  exact gx_less' (y_MD_bound_4 gx_fu _ _ _ _ _) ⟨rfl, rfl, rfl, rfl, trivial⟩
def f_MD_would (h : gx_H) (l0 : Nat) (l1 : Int) (l2 : Int) : Option (Int × gx_H) :=
  gq_cv h l0 1 (f_MD_tries h l0 l1) (fun r1 h2 => gq_g (gx_i r1) (if r1 = 0 then some ((-1), h2) else gq_gr h2 l0 1 0 (fun o4 => gq_ald 0 h2 o4 ((1920 + l2) + l1) (fun v5 => some (v5, h2)))))
set_option maxHeartbeats 4000000 in
set_option maxRecDepth 100000 in
theorem c_MD_would (h : gx_H) (l0 : Nat) (l1 : Int) (l2 : Int) : ∀ r h1, f_MD_would h l0 l1 l2 = some (r, h1) → gx_Met gm_MD_would [gx_R l0, gx_I l1, gx_I l2] h r h1 := by
  refine gx_enter (l := [some (gx_R l0), some (gx_I l1), some (gx_I l2)]) (by decide) (Nat.le_of_ble_eq_true rfl) rfl ?_
  unfold f_MD_would
  refine gx_aload_n (i := 0) (by decide +kernel) rfl ?_
  refine gx_iload_n (i := 1) (by decide +kernel) rfl ?_
  refine gx_cVi1 (Mc := gm_MD_tries) (u' := (0, 0)) (c_MD_tries _ _ _) vk_MD_tries ml_MD_251 rfl rfl ⟨by decide, by decide, by decide, by decide⟩ (Nat.le_of_ble_eq_true rfl) (by decide +kernel) (fun r1 h2 => ?_)
  refine gx_g (fun c3 => ?_)
  refine gx_if_ne (off := 5) (tgt := 10) c3 (by decide +kernel) (by decide) ?_ ?_
  · refine gx_aload_n (i := 0) (by decide +kernel) rfl ?_
    refine gx_getr gk_MD (by decide) fl_MD_7 rfl (by decide +kernel) ?_
    refine gx_sipush (n := 1920) (by decide +kernel) (by decide) ?_
    refine gx_iload_n (i := 2) (by decide +kernel) rfl ?_
    refine gx_iadd (by decide +kernel) ?_
    refine gx_iload_n (i := 1) (by decide +kernel) rfl ?_
    refine gx_iadd (by decide +kernel) ?_
    refine gx_ialdi (by decide +kernel) (fun c6 => ?_)
    exact gx_ireturn rfl rfl (by decide +kernel)
  · refine gx_iconst (n := (-1)) (by decide +kernel) ?_
    exact gx_ireturn rfl rfl (by decide +kernel)
def f_MD_letter (h : gx_H) (l0 : Nat) (l1 : Int) (l2 : Int) : Option (Int × gx_H) :=
  gq_cv h l0 1 (f_MD_isLetter h l0 l1) (fun r1 h2 => gq_g (gx_i r1) (if r1 = 0 then some ((-1000000001), h2) else gq_g (gx_i l2) (if l2 = 0 then gq_gr h2 l0 1 0 (fun o6 => gq_ald 0 h2 o6 (0 + l1) (fun v7 => some (v7, h2))) else if l2 = 1 then gq_gr h2 l0 1 0 (fun o10 => gq_ald 0 h2 o10 (4 + l1) (fun v11 => some (v11, h2))) else if l2 = 2 then gq_cv h2 l0 1 (f_MD_isWell h2 l0) (fun r14 h15 => gq_g (gx_i r14) (if r14 = 0 then some ((-1), h15) else gq_gr h15 l0 1 12 (fun o17 => gq_ald 0 h15 o17 l1 (fun v18 => some (v18, h15))))) else if l2 = 3 then gq_cv h2 l0 1 (f_MD_bound h2 l0 l1) (fun r21 h22 => some (r21, h22)) else if l2 = 4 then gq_cv h2 l0 1 (f_MD_placeOf h2 l0 0 l1) (fun r24 h25 => some (r24, h25)) else if l2 = 5 then gq_cv h2 l0 1 (f_MD_would h2 l0 l1 0) (fun r27 h28 => some (r27, h28)) else if l2 = 6 then gq_cv h2 l0 1 (f_MD_would h2 l0 l1 4) (fun r30 h31 => some (r30, h31)) else some ((-1000000002), h2))))
set_option maxHeartbeats 4000000 in
set_option maxRecDepth 100000 in
theorem c_MD_letter (h : gx_H) (l0 : Nat) (l1 : Int) (l2 : Int) : ∀ r h1, f_MD_letter h l0 l1 l2 = some (r, h1) → gx_Met gm_MD_letter [gx_R l0, gx_I l1, gx_I l2] h r h1 := by
  refine gx_enter (l := [some (gx_R l0), some (gx_I l1), some (gx_I l2)]) (by decide) (Nat.le_of_ble_eq_true rfl) rfl ?_
  unfold f_MD_letter
  refine gx_aload_n (i := 0) (by decide +kernel) rfl ?_
  refine gx_iload_n (i := 1) (by decide +kernel) rfl ?_
  refine gx_cVi1 (Mc := gm_MD_isLetter) (u' := (0, 0)) (c_MD_isLetter _ _ _) vk_MD_isLetter ml_MD_189 rfl rfl ⟨by decide, by decide, by decide, by decide⟩ (Nat.le_of_ble_eq_true rfl) (by decide +kernel) (fun r1 h2 => ?_)
  refine gx_g (fun c3 => ?_)
  refine gx_if_ne (off := 6) (tgt := 11) c3 (by decide +kernel) (by decide) ?_ ?_
  · refine gx_iload_n (i := 2) (by decide +kernel) rfl ?_
    refine gx_g (fun c4 => ?_)
    refine gx_ite (fun c5 => ?_) (fun c5 => ?_)
    · refine gx_swIn (dflt := 107) (lo := 0) (hi := 6) (offs := #[44, 53, 62, 80, 86, 93, 100]) (len := 44) (off := 44) (tgt := 56) c4 (by decide +kernel) (by rw [c5]; decide) (by rw [c5]; decide) (by rw [c5]; decide) (by decide) ?_
      refine gx_aload_n (i := 0) (by decide +kernel) rfl ?_
      refine gx_getr gk_MD (by decide) fl_MD_7 rfl (by decide +kernel) ?_
      refine gx_iconst (n := 0) (by decide +kernel) ?_
      refine gx_iload_n (i := 1) (by decide +kernel) rfl ?_
      refine gx_iadd (by decide +kernel) ?_
      refine gx_ialdi (by decide +kernel) (fun c8 => ?_)
      exact gx_ireturn rfl rfl (by decide +kernel)
    · refine gx_ite (fun c9 => ?_) (fun c9 => ?_)
      · refine gx_swIn (dflt := 107) (lo := 0) (hi := 6) (offs := #[44, 53, 62, 80, 86, 93, 100]) (len := 44) (off := 53) (tgt := 65) c4 (by decide +kernel) (by rw [c9]; decide) (by rw [c9]; decide) (by rw [c9]; decide) (by decide) ?_
        refine gx_aload_n (i := 0) (by decide +kernel) rfl ?_
        refine gx_getr gk_MD (by decide) fl_MD_7 rfl (by decide +kernel) ?_
        refine gx_iconst (n := 4) (by decide +kernel) ?_
        refine gx_iload_n (i := 1) (by decide +kernel) rfl ?_
        refine gx_iadd (by decide +kernel) ?_
        refine gx_ialdi (by decide +kernel) (fun c12 => ?_)
        exact gx_ireturn rfl rfl (by decide +kernel)
      · refine gx_ite (fun c13 => ?_) (fun c13 => ?_)
        · refine gx_swIn (dflt := 107) (lo := 0) (hi := 6) (offs := #[44, 53, 62, 80, 86, 93, 100]) (len := 44) (off := 62) (tgt := 74) c4 (by decide +kernel) (by rw [c13]; decide) (by rw [c13]; decide) (by rw [c13]; decide) (by decide) ?_
          refine gx_aload_n (i := 0) (by decide +kernel) rfl ?_
          refine gx_cVi0 (Mc := gm_MD_isWell) (u' := (0, 0)) (c_MD_isWell _ _) vk_MD_isWell ml_MD_120 rfl rfl ⟨by decide, by decide, by decide, by decide⟩ (Nat.le_of_ble_eq_true rfl) (by decide +kernel) (fun r14 h15 => ?_)
          refine gx_g (fun c16 => ?_)
          refine gx_if_eq (off := 12) (tgt := 90) c16 (by decide +kernel) (by decide) ?_ ?_
          · refine gx_iconst (n := (-1)) (by decide +kernel) ?_
            exact gx_ireturn rfl rfl (by decide +kernel)
          · refine gx_aload_n (i := 0) (by decide +kernel) rfl ?_
            refine gx_getr gk_MD (by decide) fl_MD_32 rfl (by decide +kernel) ?_
            refine gx_iload_n (i := 1) (by decide +kernel) rfl ?_
            refine gx_ialdi (by decide +kernel) (fun c19 => ?_)
            refine gx_goto (off := 4) (tgt := 91) (by decide +kernel) (by decide) ?_
            exact gx_ireturn rfl rfl (by decide +kernel)
        · refine gx_ite (fun c20 => ?_) (fun c20 => ?_)
          · refine gx_swIn (dflt := 107) (lo := 0) (hi := 6) (offs := #[44, 53, 62, 80, 86, 93, 100]) (len := 44) (off := 80) (tgt := 92) c4 (by decide +kernel) (by rw [c20]; decide) (by rw [c20]; decide) (by rw [c20]; decide) (by decide) ?_
            refine gx_aload_n (i := 0) (by decide +kernel) rfl ?_
            refine gx_iload_n (i := 1) (by decide +kernel) rfl ?_
            refine gx_cVi1 (Mc := gm_MD_bound) (u' := (0, 0)) (c_MD_bound _ _ _) vk_MD_bound ml_MD_254 rfl rfl ⟨by decide, by decide, by decide, by decide⟩ (Nat.le_of_ble_eq_true rfl) (by decide +kernel) (fun r21 h22 => ?_)
            exact gx_ireturn rfl rfl (by decide +kernel)
          · refine gx_ite (fun c23 => ?_) (fun c23 => ?_)
            · refine gx_swIn (dflt := 107) (lo := 0) (hi := 6) (offs := #[44, 53, 62, 80, 86, 93, 100]) (len := 44) (off := 86) (tgt := 98) c4 (by decide +kernel) (by rw [c23]; decide) (by rw [c23]; decide) (by rw [c23]; decide) (by decide) ?_
              refine gx_aload_n (i := 0) (by decide +kernel) rfl ?_
              refine gx_iconst (n := 0) (by decide +kernel) ?_
              refine gx_iload_n (i := 1) (by decide +kernel) rfl ?_
              refine gx_cVi2 (Mc := gm_MD_placeOf) (u' := (0, 0)) (c_MD_placeOf _ _ _ _) vk_MD_placeOf ml_MD_141 rfl rfl ⟨by decide, by decide, by decide, by decide⟩ (Nat.le_of_ble_eq_true rfl) (by decide +kernel) (fun r24 h25 => ?_)
              exact gx_ireturn rfl rfl (by decide +kernel)
            · refine gx_ite (fun c26 => ?_) (fun c26 => ?_)
              · refine gx_swIn (dflt := 107) (lo := 0) (hi := 6) (offs := #[44, 53, 62, 80, 86, 93, 100]) (len := 44) (off := 93) (tgt := 105) c4 (by decide +kernel) (by rw [c26]; decide) (by rw [c26]; decide) (by rw [c26]; decide) (by decide) ?_
                refine gx_aload_n (i := 0) (by decide +kernel) rfl ?_
                refine gx_iload_n (i := 1) (by decide +kernel) rfl ?_
                refine gx_iconst (n := 0) (by decide +kernel) ?_
                refine gx_cVi2 (Mc := gm_MD_would) (u' := (0, 0)) (c_MD_would _ _ _ _) vk_MD_would ml_MD_257 rfl rfl ⟨by decide, by decide, by decide, by decide⟩ (Nat.le_of_ble_eq_true rfl) (by decide +kernel) (fun r27 h28 => ?_)
                exact gx_ireturn rfl rfl (by decide +kernel)
              · refine gx_ite (fun c29 => ?_) (fun c29 => ?_)
                · refine gx_swIn (dflt := 107) (lo := 0) (hi := 6) (offs := #[44, 53, 62, 80, 86, 93, 100]) (len := 44) (off := 100) (tgt := 112) c4 (by decide +kernel) (by rw [c29]; decide) (by rw [c29]; decide) (by rw [c29]; decide) (by decide) ?_
                  refine gx_aload_n (i := 0) (by decide +kernel) rfl ?_
                  refine gx_iload_n (i := 1) (by decide +kernel) rfl ?_
                  refine gx_iconst (n := 4) (by decide +kernel) ?_
                  refine gx_cVi2 (Mc := gm_MD_would) (u' := (0, 0)) (c_MD_would _ _ _ _) vk_MD_would ml_MD_257 rfl rfl ⟨by decide, by decide, by decide, by decide⟩ (Nat.le_of_ble_eq_true rfl) (by decide +kernel) (fun r30 h31 => ?_)
                  exact gx_ireturn rfl rfl (by decide +kernel)
                · refine gx_swOut (dflt := 107) (lo := 0) (hi := 6) (offs := #[44, 53, 62, 80, 86, 93, 100]) (len := 44) (tgt := 119) c4 (by decide +kernel) (by omega) (by decide) ?_
                  refine gx_ldc (a := (-1000000002)) kc_MD_188 (by decide +kernel) ?_
                  exact gx_ireturn rfl rfl (by decide +kernel)
  · refine gx_ldc (a := (-1000000001)) kc_MD_187 (by decide +kernel) ?_
    exact gx_ireturn rfl rfl (by decide +kernel)
def fb_MD_row_56 (h : gx_H) (l1 : Int) (l3 : Int) (t0 : Nat) (t1 : Int) : Option (Int × gx_H) :=
  gq_ald 0 h t0 ((t1 + (4 * l1)) + l3) (fun v1 => some ((v1 + 1000), h))
set_option maxHeartbeats 4000000 in
set_option maxRecDepth 100000 in
theorem y_MD_row_56 (h : gx_H) (l1 : Int) (l3 : Int) (t0 : Nat) (t1 : Int) : gx_Y gm_MD_row (0, 0) 56 [none, some (gx_I l1), none, some (gx_I l3)] [gx_I t1, gx_R t0] h (fb_MD_row_56 h l1 l3 t0 t1) := by
  unfold fb_MD_row_56
  refine gx_iconst (n := 4) (by decide +kernel) ?_
  refine gx_iload_n (i := 1) (by decide +kernel) rfl ?_
  refine gx_imul (by decide +kernel) ?_
  refine gx_iadd (by decide +kernel) ?_
  refine gx_iload_n (i := 3) (by decide +kernel) rfl ?_
  refine gx_iadd (by decide +kernel) ?_
  refine gx_ialdi (by decide +kernel) (fun c2 => ?_)
  refine gx_sipush (n := 1000) (by decide +kernel) (by decide) ?_
  refine gx_iadd (by decide +kernel) ?_
  exact gx_ireturn rfl rfl (by decide +kernel)
def f_MD_row (h : gx_H) (l0 : Nat) (l1 : Int) (l2 : Int) (l3 : Int) : Option (Int × gx_H) :=
  gq_cv h l0 1 (f_MD_isLetter h l0 l1) (fun r1 h2 => gq_g (gx_i r1) (if r1 = 0 then some ((-1000000001), h2) else gq_call (f_MD_in h2 l2 0 2) (fun r4 h5 => gq_g (gx_i r4) (if r4 = 0 then some ((-1000000002), h5) else gq_cv h5 l0 1 (f_MD_isLetter h5 l0 l3) (fun r7 h8 => gq_g (gx_i r7) (if r7 = 0 then some ((-1000000002), h8) else gq_gr h8 l0 1 0 (fun o10 => gq_g (gx_i l2) (if l2 = 0 then fb_MD_row_56 h8 l1 l3 o10 24 else if l2 = 1 then fb_MD_row_56 h8 l1 l3 o10 40 else fb_MD_row_56 h8 l1 l3 o10 56))))))))
set_option maxHeartbeats 4000000 in
set_option maxRecDepth 100000 in
theorem c_MD_row (h : gx_H) (l0 : Nat) (l1 : Int) (l2 : Int) (l3 : Int) : ∀ r h1, f_MD_row h l0 l1 l2 l3 = some (r, h1) → gx_Met gm_MD_row [gx_R l0, gx_I l1, gx_I l2, gx_I l3] h r h1 := by
  refine gx_enter (l := [some (gx_R l0), some (gx_I l1), some (gx_I l2), some (gx_I l3)]) (by decide) (Nat.le_of_ble_eq_true rfl) rfl ?_
  unfold f_MD_row
  refine gx_aload_n (i := 0) (by decide +kernel) rfl ?_
  refine gx_iload_n (i := 1) (by decide +kernel) rfl ?_
  refine gx_cVi1 (Mc := gm_MD_isLetter) (u' := (0, 0)) (c_MD_isLetter _ _ _) vk_MD_isLetter ml_MD_189 rfl rfl ⟨by decide, by decide, by decide, by decide⟩ (Nat.le_of_ble_eq_true rfl) (by decide +kernel) (fun r1 h2 => ?_)
  refine gx_g (fun c3 => ?_)
  refine gx_if_ne (off := 6) (tgt := 11) c3 (by decide +kernel) (by decide) ?_ ?_
  · refine gx_iload_n (i := 2) (by decide +kernel) rfl ?_
    refine gx_iconst (n := 0) (by decide +kernel) ?_
    refine gx_iconst (n := 2) (by decide +kernel) ?_
    refine gx_cSi3 (Mc := gm_MD_in) (u' := (0, 0)) (c_MD_in _ _ _ _) sk_MD_in ml_MD_68 rfl rfl ⟨by decide, by decide, by decide, by decide⟩ (Nat.le_of_ble_eq_true rfl) (by decide +kernel) (fun r4 h5 => ?_)
    refine gx_g (fun c6 => ?_)
    refine gx_if_eq (off := 11) (tgt := 28) c6 (by decide +kernel) (by decide) ?_ ?_
    · refine gx_ldc (a := (-1000000002)) kc_MD_188 (by decide +kernel) ?_
      exact gx_ireturn rfl rfl (by decide +kernel)
    · refine gx_aload_n (i := 0) (by decide +kernel) rfl ?_
      refine gx_iload_n (i := 3) (by decide +kernel) rfl ?_
      refine gx_cVi1 (Mc := gm_MD_isLetter) (u' := (0, 0)) (c_MD_isLetter _ _ _) vk_MD_isLetter ml_MD_189 rfl rfl ⟨by decide, by decide, by decide, by decide⟩ (Nat.le_of_ble_eq_true rfl) (by decide +kernel) (fun r7 h8 => ?_)
      refine gx_g (fun c9 => ?_)
      refine gx_if_ne (off := 6) (tgt := 31) c9 (by decide +kernel) (by decide) ?_ ?_
      · refine gx_aload_n (i := 0) (by decide +kernel) rfl ?_
        refine gx_getr gk_MD (by decide) fl_MD_7 rfl (by decide +kernel) ?_
        refine gx_iload_n (i := 2) (by decide +kernel) rfl ?_
        refine gx_g (fun c11 => ?_)
        refine gx_if_ne (off := 8) (tgt := 44) c11 (by decide +kernel) (by decide) ?_ ?_
        · refine gx_iload_n (i := 2) (by decide +kernel) rfl ?_
          refine gx_iconst (n := 1) (by decide +kernel) ?_
          refine gx_icmp_ne (off := 8) (tgt := 54) c11 (by decide) (by decide +kernel) (by decide) ?_ ?_
          · refine gx_bipush (n := 56) (by decide +kernel) (by decide) ?_
            exact gx_less' (y_MD_row_56 _ _ _ _ _) ⟨rfl, rfl, trivial⟩
          · refine gx_bipush (n := 40) (by decide +kernel) (by decide) ?_
            refine gx_goto (off := 5) (tgt := 56) (by decide +kernel) (by decide) ?_
            exact gx_less' (y_MD_row_56 _ _ _ _ _) ⟨rfl, rfl, trivial⟩
        · refine gx_bipush (n := 24) (by decide +kernel) (by decide) ?_
          refine gx_goto (off := 15) (tgt := 56) (by decide +kernel) (by decide) ?_
          exact gx_less' (y_MD_row_56 _ _ _ _ _) ⟨rfl, rfl, trivial⟩
      · refine gx_ldc (a := (-1000000002)) kc_MD_188 (by decide +kernel) ?_
        exact gx_ireturn rfl rfl (by decide +kernel)
  · refine gx_ldc (a := (-1000000001)) kc_MD_187 (by decide +kernel) ?_
    exact gx_ireturn rfl rfl (by decide +kernel)
def fb_MD_remember_47 (h : gx_H) (l0 : Nat) : Option (Int × gx_H) :=
  gq_get h l0 1 2 (fun v1 => gq_cv h l0 1 (f_MD_copyRow h l0 0 (80 * (v1 + 1))) (fun r3 h4 => gq_get h4 l0 1 2 (fun v5 => gq_put (gx_i (v5 + 1)) h4 l0 1 2 (v5 + 1) (fun h7 => some (0, h7)))))
set_option maxHeartbeats 4000000 in
set_option maxRecDepth 100000 in
theorem y_MD_remember_47 (h : gx_H) (l0 : Nat) : gx_Y gm_MD_remember (0, 0) 47 [some (gx_R l0), none] [] h (fb_MD_remember_47 h l0) := by
  unfold fb_MD_remember_47
  refine gx_aload_n (i := 0) (by decide +kernel) rfl ?_
  refine gx_iconst (n := 0) (by decide +kernel) ?_
  refine gx_bipush (n := 80) (by decide +kernel) (by decide) ?_
  refine gx_aload_n (i := 0) (by decide +kernel) rfl ?_
  refine gx_geti gk_MD (by decide) fl_MD_230 (Or.inl rfl) (by decide +kernel) (fun c2 => ?_)
  refine gx_iconst (n := 1) (by decide +kernel) ?_
  refine gx_iadd (by decide +kernel) ?_
  refine gx_imul (by decide +kernel) ?_
  refine gx_cVv2 (Mc := gm_MD_copyRow) (u' := (0, 0)) (c_MD_copyRow _ _ _ _) vk_MD_copyRow ml_MD_116 rfl rfl ⟨by decide, by decide, by decide, by decide⟩ (Nat.le_of_ble_eq_true rfl) (by decide +kernel) (fun r3 h4 => ?_)
  refine gx_aload_n (i := 0) (by decide +kernel) rfl ?_
  refine gx_dup (by decide +kernel) (fun _ => rfl) ?_
  refine gx_geti gk_MD (by decide) fl_MD_230 (Or.inl rfl) (by decide +kernel) (fun c6 => ?_)
  refine gx_iconst (n := 1) (by decide +kernel) ?_
  refine gx_iadd (by decide +kernel) ?_
  refine gx_puti gk_MD (by decide) fl_MD_230 rfl rfl (by decide +kernel) ?_
  exact gx_return rfl rfl (by decide +kernel)
def fb_MD_remember_11 (N11 : gx_H → Nat → Int → Option (Int × gx_H)) (h : gx_H) (l0 : Nat) (l1 : Int) : Option (Int × gx_H) :=
  gq_g (gx_i l1) (if l1 < 20 then gq_cv h l0 1 (f_MD_copyRow h l0 (80 * (l1 + 1)) (80 * l1)) (fun r5 h6 => N11 h6 l0 (l1 + 1)) else gq_get h l0 1 2 (fun v2 => gq_put (gx_i (v2 - 1)) h l0 1 2 (v2 - 1) (fun h4 => fb_MD_remember_47 h4 l0)))
set_option maxHeartbeats 4000000 in
set_option maxRecDepth 100000 in
theorem yb_MD_remember_11 (N11 : gx_H → Nat → Int → Option (Int × gx_H)) (hN11 : ∀ (h : gx_H) (l0 : Nat) (l1 : Int), gx_Y gm_MD_remember (0, 0) 11 [some (gx_R l0), some (gx_I l1)] [] h (N11 h l0 l1)) (h : gx_H) (l0 : Nat) (l1 : Int) : gx_Y gm_MD_remember (0, 0) 11 [some (gx_R l0), some (gx_I l1)] [] h (fb_MD_remember_11 N11 h l0 l1) := by
  unfold fb_MD_remember_11
  refine gx_iload_n (i := 1) (by decide +kernel) rfl ?_
  refine gx_bipush (n := 20) (by decide +kernel) (by decide) ?_
  refine gx_g (fun c1 => ?_)
  refine gx_icmp_ge (off := 23) (tgt := 37) c1 (by decide) (by decide +kernel) (by decide) ?_ ?_
  · refine gx_aload_n (i := 0) (by decide +kernel) rfl ?_
    refine gx_dup (by decide +kernel) (fun _ => rfl) ?_
    refine gx_geti gk_MD (by decide) fl_MD_230 (Or.inl rfl) (by decide +kernel) (fun c3 => ?_)
    refine gx_iconst (n := 1) (by decide +kernel) ?_
    refine gx_isub (by decide +kernel) ?_
    refine gx_puti gk_MD (by decide) fl_MD_230 rfl rfl (by decide +kernel) ?_
    exact gx_less' (y_MD_remember_47 _ _) ⟨rfl, trivial⟩
  · refine gx_aload_n (i := 0) (by decide +kernel) rfl ?_
    refine gx_bipush (n := 80) (by decide +kernel) (by decide) ?_
    refine gx_iload_n (i := 1) (by decide +kernel) rfl ?_
    refine gx_iconst (n := 1) (by decide +kernel) ?_
    refine gx_iadd (by decide +kernel) ?_
    refine gx_imul (by decide +kernel) ?_
    refine gx_bipush (n := 80) (by decide +kernel) (by decide) ?_
    refine gx_iload_n (i := 1) (by decide +kernel) rfl ?_
    refine gx_imul (by decide +kernel) ?_
    refine gx_cVv2 (Mc := gm_MD_copyRow) (u' := (0, 0)) (c_MD_copyRow _ _ _ _) vk_MD_copyRow ml_MD_116 rfl rfl ⟨by decide, by decide, by decide, by decide⟩ (Nat.le_of_ble_eq_true rfl) (by decide +kernel) (fun r5 h6 => ?_)
    refine gx_iinc (i := 1) (n := 1) (l' := [some (gx_R _), some (gx_I _)]) (by decide +kernel) rfl rfl (Nat.le_of_ble_eq_true rfl) (by decide) rfl ?_
    refine gx_goto (off := -23) (tgt := 11) (by decide +kernel) (by decide) ?_
    exact gx_less' (hN11 _ _ _) ⟨rfl, rfl, trivial⟩
def f_MD_remember_11 : Nat → gx_H → Nat → Int → Option (Int × gx_H)
  | 0 => fun _ _ _ => none
  | fu + 1 => fb_MD_remember_11 (f_MD_remember_11 fu)
theorem y_MD_remember_11 : ∀ (fu : Nat) (h : gx_H) (l0 : Nat) (l1 : Int), gx_Y gm_MD_remember (0, 0) 11 [some (gx_R l0), some (gx_I l1)] [] h (f_MD_remember_11 fu h l0 l1) := by
  intro fu
  induction fu with
  | zero => intro h l0 l1; exact gx_none
  | succ fu ih => intro h l0 l1; exact yb_MD_remember_11 (f_MD_remember_11 fu) ih h l0 l1
def f_MD_remember (h : gx_H) (l0 : Nat) : Option (Int × gx_H) :=
  gq_get h l0 1 2 (fun v1 => if v1 = 20 then f_MD_remember_11 gx_fu h l0 1 else fb_MD_remember_47 h l0)
set_option maxHeartbeats 4000000 in
set_option maxRecDepth 100000 in
theorem c_MD_remember (h : gx_H) (l0 : Nat) : ∀ r h1, f_MD_remember h l0 = some (r, h1) → gx_Met gm_MD_remember [gx_R l0] h r h1 := by
  refine gx_enter (l := [some (gx_R l0), none]) (by decide) (Nat.le_of_ble_eq_true rfl) rfl ?_
  unfold f_MD_remember
  refine gx_aload_n (i := 0) (by decide +kernel) rfl ?_
  refine gx_geti gk_MD (by decide) fl_MD_230 (Or.inl rfl) (by decide +kernel) (fun c2 => ?_)
  refine gx_bipush (n := 20) (by decide +kernel) (by decide) ?_
  refine gx_icmp_ne (off := 41) (tgt := 47) c2 (by decide) (by decide +kernel) (by decide) ?_ ?_
  · exact gx_less' (y_MD_remember_47 _ _) ⟨rfl, trivial⟩
  · refine gx_iconst (n := 1) (by decide +kernel) ?_
    refine gx_istore_n (i := 1) (l' := [some (gx_R _), some (gx_I _)]) (by decide +kernel) rfl (Nat.le_of_ble_eq_true rfl) (by decide) rfl ?_
    exact gx_less' (y_MD_remember_11 gx_fu _ _ _) ⟨rfl, rfl, trivial⟩
def f_MD_take (h : gx_H) (l0 : Nat) : Option (Int × gx_H) :=
  gq_cv h l0 1 (f_MD_copyRow h l0 1920 0) (fun r1 h2 => gq_gr h2 l0 1 0 (fun o3 => gq_gr h2 l0 1 0 (fun o4 => gq_ald 0 h2 o4 72 (fun v5 => if v5 < 99999 then gq_gr h2 l0 1 0 (fun o8 => gq_ald 0 h2 o8 72 (fun v9 => gq_ast 0 (gx_i (v9 + 1)) h2 o3 72 (v9 + 1) (fun h11 => some (0, h11)))) else gq_ast 0 True h2 o3 72 99999 (fun h7 => some (0, h7))))))
set_option maxHeartbeats 4000000 in
set_option maxRecDepth 100000 in
theorem c_MD_take (h : gx_H) (l0 : Nat) : ∀ r h1, f_MD_take h l0 = some (r, h1) → gx_Met gm_MD_take [gx_R l0] h r h1 := by
  refine gx_enter (l := [some (gx_R l0)]) (by decide) (Nat.le_of_ble_eq_true rfl) rfl ?_
  unfold f_MD_take
  refine gx_aload_n (i := 0) (by decide +kernel) rfl ?_
  refine gx_sipush (n := 1920) (by decide +kernel) (by decide) ?_
  refine gx_iconst (n := 0) (by decide +kernel) ?_
  refine gx_cVv2 (Mc := gm_MD_copyRow) (u' := (0, 0)) (c_MD_copyRow _ _ _ _) vk_MD_copyRow ml_MD_116 rfl rfl ⟨by decide, by decide, by decide, by decide⟩ (Nat.le_of_ble_eq_true rfl) (by decide +kernel) (fun r1 h2 => ?_)
  refine gx_aload_n (i := 0) (by decide +kernel) rfl ?_
  refine gx_getr gk_MD (by decide) fl_MD_7 rfl (by decide +kernel) ?_
  refine gx_bipush (n := 72) (by decide +kernel) (by decide) ?_
  refine gx_aload_n (i := 0) (by decide +kernel) rfl ?_
  refine gx_getr gk_MD (by decide) fl_MD_7 rfl (by decide +kernel) ?_
  refine gx_bipush (n := 72) (by decide +kernel) (by decide) ?_
  refine gx_ialdi (by decide +kernel) (fun c6 => ?_)
  refine gx_ldcw (a := 99999) kc_MD_260 (by decide +kernel) ?_
  refine gx_icmp_ge (off := 15) (tgt := 39) c6 (by decide) (by decide +kernel) (by decide) ?_ ?_
  · refine gx_ldcw (a := 99999) kc_MD_260 (by decide +kernel) ?_
    refine gx_iastT (by decide) (by decide +kernel) ?_
    exact gx_return rfl rfl (by decide +kernel)
  · refine gx_aload_n (i := 0) (by decide +kernel) rfl ?_
    refine gx_getr gk_MD (by decide) fl_MD_7 rfl (by decide +kernel) ?_
    refine gx_bipush (n := 72) (by decide +kernel) (by decide) ?_
    refine gx_ialdi (by decide +kernel) (fun c10 => ?_)
    refine gx_iconst (n := 1) (by decide +kernel) ?_
    refine gx_iadd (by decide +kernel) ?_
    refine gx_goto (off := 6) (tgt := 42) (by decide +kernel) (by decide) ?_
    refine gx_iast (by decide +kernel) ?_
    exact gx_return rfl rfl (by decide +kernel)
def f_MD_exchange (h : gx_H) (l0 : Nat) (l1 : Int) : Option (Int × gx_H) :=
  gq_cv h l0 1 (f_MD_isLetter h l0 l1) (fun r1 h2 => gq_g (gx_i r1) (if r1 = 0 then some ((-1000000001), h2) else gq_cv h2 l0 1 (f_MD_tries h2 l0 l1) (fun r4 h5 => gq_g (gx_i r4) (if r4 = 0 then some ((-1000000003), h5) else gq_cv h5 l0 1 (f_MD_remember h5 l0) (fun r7 h8 => gq_cv h8 l0 1 (f_MD_take h8 l0) (fun r9 h10 => gq_cv h10 l0 1 (f_MD_placeOf h10 l0 0 l1) (fun r11 h12 => some (r11, h12))))))))
set_option maxHeartbeats 4000000 in
set_option maxRecDepth 100000 in
theorem c_MD_exchange (h : gx_H) (l0 : Nat) (l1 : Int) : ∀ r h1, f_MD_exchange h l0 l1 = some (r, h1) → gx_Met gm_MD_exchange [gx_R l0, gx_I l1] h r h1 := by
  refine gx_enter (l := [some (gx_R l0), some (gx_I l1)]) (by decide) (Nat.le_of_ble_eq_true rfl) rfl ?_
  unfold f_MD_exchange
  refine gx_aload_n (i := 0) (by decide +kernel) rfl ?_
  refine gx_iload_n (i := 1) (by decide +kernel) rfl ?_
  refine gx_cVi1 (Mc := gm_MD_isLetter) (u' := (0, 0)) (c_MD_isLetter _ _ _) vk_MD_isLetter ml_MD_189 rfl rfl ⟨by decide, by decide, by decide, by decide⟩ (Nat.le_of_ble_eq_true rfl) (by decide +kernel) (fun r1 h2 => ?_)
  refine gx_g (fun c3 => ?_)
  refine gx_if_ne (off := 6) (tgt := 11) c3 (by decide +kernel) (by decide) ?_ ?_
  · refine gx_aload_n (i := 0) (by decide +kernel) rfl ?_
    refine gx_iload_n (i := 1) (by decide +kernel) rfl ?_
    refine gx_cVi1 (Mc := gm_MD_tries) (u' := (0, 0)) (c_MD_tries _ _ _) vk_MD_tries ml_MD_251 rfl rfl ⟨by decide, by decide, by decide, by decide⟩ (Nat.le_of_ble_eq_true rfl) (by decide +kernel) (fun r4 h5 => ?_)
    refine gx_g (fun c6 => ?_)
    refine gx_if_ne (off := 7) (tgt := 23) c6 (by decide +kernel) (by decide) ?_ ?_
    · refine gx_aload_n (i := 0) (by decide +kernel) rfl ?_
      refine gx_cVv0 (Mc := gm_MD_remember) (u' := (0, 0)) (c_MD_remember _ _) vk_MD_remember ml_MD_262 rfl rfl ⟨by decide, by decide, by decide, by decide⟩ (Nat.le_of_ble_eq_true rfl) (by decide +kernel) (fun r7 h8 => ?_)
      refine gx_aload_n (i := 0) (by decide +kernel) rfl ?_
      refine gx_cVv0 (Mc := gm_MD_take) (u' := (0, 0)) (c_MD_take _ _) vk_MD_take ml_MD_265 rfl rfl ⟨by decide, by decide, by decide, by decide⟩ (Nat.le_of_ble_eq_true rfl) (by decide +kernel) (fun r9 h10 => ?_)
      refine gx_aload_n (i := 0) (by decide +kernel) rfl ?_
      refine gx_iconst (n := 0) (by decide +kernel) ?_
      refine gx_iload_n (i := 1) (by decide +kernel) rfl ?_
      refine gx_cVi2 (Mc := gm_MD_placeOf) (u' := (0, 0)) (c_MD_placeOf _ _ _ _) vk_MD_placeOf ml_MD_141 rfl rfl ⟨by decide, by decide, by decide, by decide⟩ (Nat.le_of_ble_eq_true rfl) (by decide +kernel) (fun r11 h12 => ?_)
      exact gx_ireturn rfl rfl (by decide +kernel)
    · refine gx_ldcw (a := (-1000000003)) kc_MD_261 (by decide +kernel) ?_
      exact gx_ireturn rfl rfl (by decide +kernel)
  · refine gx_ldc (a := (-1000000001)) kc_MD_187 (by decide +kernel) ?_
    exact gx_ireturn rfl rfl (by decide +kernel)
def f_MD_start (h : gx_H) (l0 : Nat) : Option (Int × gx_H) :=
  gq_cv h l0 1 (f_MD_remember h l0) (fun r1 h2 => gq_gr h2 l0 1 0 (fun o3 => gq_ald 0 h2 o3 72 (fun v4 => gq_cv h2 l0 1 (f_MD_copyRow h2 l0 1840 0) (fun r6 h7 => some (v4, h7)))))
set_option maxHeartbeats 4000000 in
set_option maxRecDepth 100000 in
theorem c_MD_start (h : gx_H) (l0 : Nat) : ∀ r h1, f_MD_start h l0 = some (r, h1) → gx_Met gm_MD_start [gx_R l0] h r h1 := by
  refine gx_enter (l := [some (gx_R l0), none]) (by decide) (Nat.le_of_ble_eq_true rfl) rfl ?_
  unfold f_MD_start
  refine gx_aload_n (i := 0) (by decide +kernel) rfl ?_
  refine gx_cVv0 (Mc := gm_MD_remember) (u' := (0, 0)) (c_MD_remember _ _) vk_MD_remember ml_MD_262 rfl rfl ⟨by decide, by decide, by decide, by decide⟩ (Nat.le_of_ble_eq_true rfl) (by decide +kernel) (fun r1 h2 => ?_)
  refine gx_aload_n (i := 0) (by decide +kernel) rfl ?_
  refine gx_getr gk_MD (by decide) fl_MD_7 rfl (by decide +kernel) ?_
  refine gx_bipush (n := 72) (by decide +kernel) (by decide) ?_
  refine gx_ialdi (by decide +kernel) (fun c5 => ?_)
  refine gx_istore_n (i := 1) (l' := [some (gx_R _), some (gx_I _)]) (by decide +kernel) rfl (Nat.le_of_ble_eq_true rfl) (by decide) rfl ?_
  refine gx_aload_n (i := 0) (by decide +kernel) rfl ?_
  refine gx_sipush (n := 1840) (by decide +kernel) (by decide) ?_
  refine gx_iconst (n := 0) (by decide +kernel) ?_
  refine gx_cVv2 (Mc := gm_MD_copyRow) (u' := (0, 0)) (c_MD_copyRow _ _ _ _) vk_MD_copyRow ml_MD_116 rfl rfl ⟨by decide, by decide, by decide, by decide⟩ (Nat.le_of_ble_eq_true rfl) (by decide +kernel) (fun r6 h7 => ?_)
  refine gx_iload_n (i := 1) (by decide +kernel) rfl ?_
  exact gx_ireturn rfl rfl (by decide +kernel)
def f_MD_draw (h : gx_H) (l0 : Nat) (l1 : Int) : Option (Int × gx_H) :=
  gq_get h l0 1 4 (fun v1 => gq_g (gx_l ((v1 * 1103515245) + 12345)) (gq_put (gx_i (((v1 * 1103515245) + 12345).tmod 2147483648)) h l0 1 4 (((v1 * 1103515245) + 12345).tmod 2147483648) (fun h4 => gq_get h4 l0 1 4 (fun v5 => gq_g (gx_i (v5.tdiv 65536)) (gq_g (0 < l1) (gq_g (gx_i l1) (some (((v5.tdiv 65536).tmod l1), h4))))))))
set_option maxHeartbeats 4000000 in
set_option maxRecDepth 100000 in
theorem c_MD_draw (h : gx_H) (l0 : Nat) (l1 : Int) : ∀ r h1, f_MD_draw h l0 l1 = some (r, h1) → gx_Met gm_MD_draw [gx_R l0, gx_I l1] h r h1 := by
  refine gx_enter (l := [some (gx_R l0), some (gx_I l1), none, none]) (by decide) (Nat.le_of_ble_eq_true rfl) rfl ?_
  unfold f_MD_draw
  refine gx_aload_n (i := 0) (by decide +kernel) rfl ?_
  refine gx_geti gk_MD (by decide) fl_MD_268 (Or.inl rfl) (by decide +kernel) (fun c2 => ?_)
  refine gx_i2l c2 (by decide +kernel) ?_
  refine gx_ldc2 (a := 1103515245) kc_MD_271 (by decide +kernel) ?_
  refine gx_lmul (by decide +kernel) ?_
  refine gx_ldc2 (a := 12345) kc_MD_273 (by decide +kernel) ?_
  refine gx_ladd (by decide +kernel) ?_
  refine gx_ldc2 (a := 2147483648) kc_MD_275 (by decide +kernel) ?_
  refine gx_g (fun c3 => ?_)
  refine gx_lrem c3 (by decide) (by decide) (by decide +kernel) ?_
  refine gx_lstore_n (i := 2) (l' := [some (gx_R _), some (gx_I _), some (gx_L _), none]) (by decide +kernel) rfl (Nat.le_of_ble_eq_true rfl) (by decide) rfl ?_
  refine gx_aload_n (i := 0) (by decide +kernel) rfl ?_
  refine gx_lload_n (i := 2) (by decide +kernel) rfl ?_
  refine gx_l2i (by decide +kernel) ?_
  refine gx_puti gk_MD (by decide) fl_MD_268 rfl rfl (by decide +kernel) ?_
  refine gx_aload_n (i := 0) (by decide +kernel) rfl ?_
  refine gx_geti gk_MD (by decide) fl_MD_268 (Or.inl rfl) (by decide +kernel) (fun c6 => ?_)
  refine gx_ldcw (a := 65536) kc_MD_277 (by decide +kernel) ?_
  refine gx_idiv c6 (by decide) (by decide) (by decide +kernel) ?_
  refine gx_iload_n (i := 1) (by decide +kernel) rfl ?_
  refine gx_g (fun c7 => ?_)
  refine gx_g (fun c8 => ?_)
  refine gx_g (fun c9 => ?_)
  refine gx_irem c7 c8 c9 (by decide +kernel) ?_
  exact gx_ireturn rfl rfl (by decide +kernel)
def fb_MD_drift_45 (N15 : gx_H → Nat → Int → Int → Option (Int × gx_H)) (h : gx_H) (l0 : Nat) (l1 : Int) (l2 : Int) : Option (Int × gx_H) :=
  N15 h l0 l1 (l2 + 1)
set_option maxHeartbeats 4000000 in
set_option maxRecDepth 100000 in
theorem y_MD_drift_45 (N15 : gx_H → Nat → Int → Int → Option (Int × gx_H)) (hN15 : ∀ (h : gx_H) (l0 : Nat) (l1 : Int) (l2 : Int), gx_Y gm_MD_drift (0, 0) 15 [some (gx_R l0), some (gx_I l1), some (gx_I l2), none] [] h (N15 h l0 l1 l2)) (h : gx_H) (l0 : Nat) (l1 : Int) (l2 : Int) : gx_Y gm_MD_drift (0, 0) 45 [some (gx_R l0), some (gx_I l1), some (gx_I l2), none] [] h (fb_MD_drift_45 N15 h l0 l1 l2) := by
  unfold fb_MD_drift_45
  refine gx_iinc (i := 2) (n := 1) (l' := [some (gx_R _), some (gx_I _), some (gx_I _), none]) (by decide +kernel) rfl rfl (Nat.le_of_ble_eq_true rfl) (by decide) rfl ?_
  refine gx_goto (off := -33) (tgt := 15) (by decide +kernel) (by decide) ?_
  exact gx_less' (hN15 _ _ _ _) ⟨rfl, rfl, rfl, trivial⟩
def fb_MD_drift_15 (N15 : gx_H → Nat → Int → Int → Option (Int × gx_H)) (h : gx_H) (l0 : Nat) (l1 : Int) (l2 : Int) : Option (Int × gx_H) :=
  gq_g (gx_i l2) (gq_g (gx_i l1) (if l2 < l1 then gq_get h l0 1 1 (fun v6 => gq_cv h l0 1 (f_MD_draw h l0 v6) (fun r8 h9 => gq_cv h9 l0 1 (f_MD_remember h9 l0) (fun r10 h11 => gq_cv h11 l0 1 (f_MD_tries h11 l0 r8) (fun r12 h13 => gq_g (gx_i r12) (if r12 = 0 then fb_MD_drift_45 N15 h13 l0 l1 l2 else gq_cv h13 l0 1 (f_MD_take h13 l0) (fun r15 h16 => fb_MD_drift_45 N15 h16 l0 l1 l2)))))) else gq_gr h l0 1 0 (fun o3 => gq_ald 0 h o3 72 (fun v4 => some (v4, h)))))
set_option maxHeartbeats 4000000 in
set_option maxRecDepth 100000 in
theorem yb_MD_drift_15 (N15 : gx_H → Nat → Int → Int → Option (Int × gx_H)) (hN15 : ∀ (h : gx_H) (l0 : Nat) (l1 : Int) (l2 : Int), gx_Y gm_MD_drift (0, 0) 15 [some (gx_R l0), some (gx_I l1), some (gx_I l2), none] [] h (N15 h l0 l1 l2)) (h : gx_H) (l0 : Nat) (l1 : Int) (l2 : Int) : gx_Y gm_MD_drift (0, 0) 15 [some (gx_R l0), some (gx_I l1), some (gx_I l2), none] [] h (fb_MD_drift_15 N15 h l0 l1 l2) := by
  unfold fb_MD_drift_15
  refine gx_iload_n (i := 2) (by decide +kernel) rfl ?_
  refine gx_iload_n (i := 1) (by decide +kernel) rfl ?_
  refine gx_g (fun c1 => ?_)
  refine gx_g (fun c2 => ?_)
  refine gx_icmp_ge (off := 34) (tgt := 51) c1 c2 (by decide +kernel) (by decide) ?_ ?_
  · refine gx_aload_n (i := 0) (by decide +kernel) rfl ?_
    refine gx_getr gk_MD (by decide) fl_MD_7 rfl (by decide +kernel) ?_
    refine gx_bipush (n := 72) (by decide +kernel) (by decide) ?_
    refine gx_ialdi (by decide +kernel) (fun c5 => ?_)
    exact gx_ireturn rfl rfl (by decide +kernel)
  · refine gx_aload_n (i := 0) (by decide +kernel) rfl ?_
    refine gx_aload_n (i := 0) (by decide +kernel) rfl ?_
    refine gx_geti gk_MD (by decide) fl_MD_13 (Or.inl rfl) (by decide +kernel) (fun c7 => ?_)
    refine gx_cVi1 (Mc := gm_MD_draw) (u' := (0, 0)) (c_MD_draw _ _ _) vk_MD_draw ml_MD_278 rfl rfl ⟨by decide, by decide, by decide, by decide⟩ (Nat.le_of_ble_eq_true rfl) (by decide +kernel) (fun r8 h9 => ?_)
    refine gx_istore_n (i := 3) (l' := [some (gx_R _), some (gx_I _), some (gx_I _), some (gx_I _)]) (by decide +kernel) rfl (Nat.le_of_ble_eq_true rfl) (by decide) rfl ?_
    refine gx_aload_n (i := 0) (by decide +kernel) rfl ?_
    refine gx_cVv0 (Mc := gm_MD_remember) (u' := (0, 0)) (c_MD_remember _ _) vk_MD_remember ml_MD_262 rfl rfl ⟨by decide, by decide, by decide, by decide⟩ (Nat.le_of_ble_eq_true rfl) (by decide +kernel) (fun r10 h11 => ?_)
    refine gx_aload_n (i := 0) (by decide +kernel) rfl ?_
    refine gx_iload_n (i := 3) (by decide +kernel) rfl ?_
    refine gx_cVi1 (Mc := gm_MD_tries) (u' := (0, 0)) (c_MD_tries _ _ _) vk_MD_tries ml_MD_251 rfl rfl ⟨by decide, by decide, by decide, by decide⟩ (Nat.le_of_ble_eq_true rfl) (by decide +kernel) (fun r12 h13 => ?_)
    refine gx_g (fun c14 => ?_)
    refine gx_if_eq (off := 7) (tgt := 45) c14 (by decide +kernel) (by decide) ?_ ?_
    · exact gx_less' (y_MD_drift_45 _ hN15 _ _ _ _) ⟨rfl, rfl, rfl, trivial⟩
    · refine gx_aload_n (i := 0) (by decide +kernel) rfl ?_
      refine gx_cVv0 (Mc := gm_MD_take) (u' := (0, 0)) (c_MD_take _ _) vk_MD_take ml_MD_265 rfl rfl ⟨by decide, by decide, by decide, by decide⟩ (Nat.le_of_ble_eq_true rfl) (by decide +kernel) (fun r15 h16 => ?_)
      exact gx_less' (y_MD_drift_45 _ hN15 _ _ _ _) ⟨rfl, rfl, rfl, trivial⟩
def f_MD_drift_15 : Nat → gx_H → Nat → Int → Int → Option (Int × gx_H)
  | 0 => fun _ _ _ _ => none
  | fu + 1 => fb_MD_drift_15 (f_MD_drift_15 fu)
theorem y_MD_drift_15 : ∀ (fu : Nat) (h : gx_H) (l0 : Nat) (l1 : Int) (l2 : Int), gx_Y gm_MD_drift (0, 0) 15 [some (gx_R l0), some (gx_I l1), some (gx_I l2), none] [] h (f_MD_drift_15 fu h l0 l1 l2) := by
  intro fu
  induction fu with
  | zero => intro h l0 l1 l2; exact gx_none
  | succ fu ih => intro h l0 l1 l2; exact yb_MD_drift_15 (f_MD_drift_15 fu) ih h l0 l1 l2
def f_MD_drift (h : gx_H) (l0 : Nat) (l1 : Int) : Option (Int × gx_H) :=
  gq_call (f_MD_in h l1 1 20) (fun r1 h2 => gq_g (gx_i r1) (if r1 = 0 then some ((-1000000002), h2) else f_MD_drift_15 gx_fu h2 l0 l1 0))
set_option maxHeartbeats 4000000 in
set_option maxRecDepth 100000 in
theorem c_MD_drift (h : gx_H) (l0 : Nat) (l1 : Int) : ∀ r h1, f_MD_drift h l0 l1 = some (r, h1) → gx_Met gm_MD_drift [gx_R l0, gx_I l1] h r h1 := by
  refine gx_enter (l := [some (gx_R l0), some (gx_I l1), none, none]) (by decide) (Nat.le_of_ble_eq_true rfl) rfl ?_
  unfold f_MD_drift
  refine gx_iload_n (i := 1) (by decide +kernel) rfl ?_
  refine gx_iconst (n := 1) (by decide +kernel) ?_
  refine gx_bipush (n := 20) (by decide +kernel) (by decide) ?_
  refine gx_cSi3 (Mc := gm_MD_in) (u' := (0, 0)) (c_MD_in _ _ _ _) sk_MD_in ml_MD_68 rfl rfl ⟨by decide, by decide, by decide, by decide⟩ (Nat.le_of_ble_eq_true rfl) (by decide +kernel) (fun r1 h2 => ?_)
  refine gx_g (fun c3 => ?_)
  refine gx_if_ne (off := 6) (tgt := 13) c3 (by decide +kernel) (by decide) ?_ ?_
  · refine gx_iconst (n := 0) (by decide +kernel) ?_
    refine gx_istore_n (i := 2) (l' := [some (gx_R _), some (gx_I _), some (gx_I _), none]) (by decide +kernel) rfl (Nat.le_of_ble_eq_true rfl) (by decide) rfl ?_
    exact gx_less' (y_MD_drift_15 gx_fu _ _ _ _) ⟨rfl, rfl, rfl, trivial⟩
  · refine gx_ldc (a := (-1000000002)) kc_MD_188 (by decide +kernel) ?_
    exact gx_ireturn rfl rfl (by decide +kernel)
def f_MD_undo (h : gx_H) (l0 : Nat) (l1 : Int) : Option (Int × gx_H) :=
  gq_call (f_MD_in h l1 1 20) (fun r1 h2 => gq_g (gx_i r1) (if r1 = 0 then some ((-1000000002), h2) else gq_get h2 l0 1 2 (fun v4 => gq_g (gx_i l1) (if v4 < l1 then some ((-1000000003), h2) else gq_get h2 l0 1 2 (fun v7 => gq_put (gx_i (v7 - l1)) h2 l0 1 2 (v7 - l1) (fun h9 => gq_get h9 l0 1 2 (fun v10 => gq_cv h9 l0 1 (f_MD_copyRow h9 l0 (80 * (v10 + 1)) 0) (fun r12 h13 => gq_gr h13 l0 1 0 (fun o14 => gq_ald 0 h13 o14 72 (fun v15 => some (v15, h13)))))))))))
set_option maxHeartbeats 4000000 in
set_option maxRecDepth 100000 in
theorem c_MD_undo (h : gx_H) (l0 : Nat) (l1 : Int) : ∀ r h1, f_MD_undo h l0 l1 = some (r, h1) → gx_Met gm_MD_undo [gx_R l0, gx_I l1] h r h1 := by
  refine gx_enter (l := [some (gx_R l0), some (gx_I l1)]) (by decide) (Nat.le_of_ble_eq_true rfl) rfl ?_
  unfold f_MD_undo
  refine gx_iload_n (i := 1) (by decide +kernel) rfl ?_
  refine gx_iconst (n := 1) (by decide +kernel) ?_
  refine gx_bipush (n := 20) (by decide +kernel) (by decide) ?_
  refine gx_cSi3 (Mc := gm_MD_in) (u' := (0, 0)) (c_MD_in _ _ _ _) sk_MD_in ml_MD_68 rfl rfl ⟨by decide, by decide, by decide, by decide⟩ (Nat.le_of_ble_eq_true rfl) (by decide +kernel) (fun r1 h2 => ?_)
  refine gx_g (fun c3 => ?_)
  refine gx_if_ne (off := 6) (tgt := 13) c3 (by decide +kernel) (by decide) ?_ ?_
  · refine gx_iload_n (i := 1) (by decide +kernel) rfl ?_
    refine gx_aload_n (i := 0) (by decide +kernel) rfl ?_
    refine gx_geti gk_MD (by decide) fl_MD_230 (Or.inl rfl) (by decide +kernel) (fun c5 => ?_)
    refine gx_g (fun c6 => ?_)
    refine gx_icmp_le (off := 7) (tgt := 25) c6 c5 (by decide +kernel) (by decide) ?_ ?_
    · refine gx_aload_n (i := 0) (by decide +kernel) rfl ?_
      refine gx_dup (by decide +kernel) (fun _ => rfl) ?_
      refine gx_geti gk_MD (by decide) fl_MD_230 (Or.inl rfl) (by decide +kernel) (fun c8 => ?_)
      refine gx_iload_n (i := 1) (by decide +kernel) rfl ?_
      refine gx_isub (by decide +kernel) ?_
      refine gx_puti gk_MD (by decide) fl_MD_230 rfl rfl (by decide +kernel) ?_
      refine gx_aload_n (i := 0) (by decide +kernel) rfl ?_
      refine gx_bipush (n := 80) (by decide +kernel) (by decide) ?_
      refine gx_aload_n (i := 0) (by decide +kernel) rfl ?_
      refine gx_geti gk_MD (by decide) fl_MD_230 (Or.inl rfl) (by decide +kernel) (fun c11 => ?_)
      refine gx_iconst (n := 1) (by decide +kernel) ?_
      refine gx_iadd (by decide +kernel) ?_
      refine gx_imul (by decide +kernel) ?_
      refine gx_iconst (n := 0) (by decide +kernel) ?_
      refine gx_cVv2 (Mc := gm_MD_copyRow) (u' := (0, 0)) (c_MD_copyRow _ _ _ _) vk_MD_copyRow ml_MD_116 rfl rfl ⟨by decide, by decide, by decide, by decide⟩ (Nat.le_of_ble_eq_true rfl) (by decide +kernel) (fun r12 h13 => ?_)
      refine gx_aload_n (i := 0) (by decide +kernel) rfl ?_
      refine gx_getr gk_MD (by decide) fl_MD_7 rfl (by decide +kernel) ?_
      refine gx_bipush (n := 72) (by decide +kernel) (by decide) ?_
      refine gx_ialdi (by decide +kernel) (fun c16 => ?_)
      exact gx_ireturn rfl rfl (by decide +kernel)
    · refine gx_ldcw (a := (-1000000003)) kc_MD_261 (by decide +kernel) ?_
      exact gx_ireturn rfl rfl (by decide +kernel)
  · refine gx_ldc (a := (-1000000002)) kc_MD_188 (by decide +kernel) ?_
    exact gx_ireturn rfl rfl (by decide +kernel)
def f_MD_write (h : gx_H) (l0 : Nat) (l1 : Int) (l2 : Int) : Option (Int × gx_H) :=
  gq_cv h l0 1 (f_MD_isLetter h l0 l1) (fun r1 h2 => gq_g (gx_i r1) (if r1 = 0 then some ((-1000000001), h2) else gq_get h2 l0 1 11 (fun v4 => if v4 = 20 then some ((-1000000004), h2) else gq_gr h2 l0 1 9 (fun o6 => gq_get h2 l0 1 11 (fun v7 => gq_ast 0 (gx_i l1) h2 o6 v7 l1 (fun h9 => gq_gr h9 l0 1 10 (fun o10 => gq_get h9 l0 1 11 (fun v11 => gq_ast 0 (gx_i l2) h9 o10 v11 l2 (fun h13 => gq_get h13 l0 1 11 (fun v14 => gq_put (gx_i (v14 + 1)) h13 l0 1 11 (v14 + 1) (fun h16 => gq_get h16 l0 1 11 (fun v17 => some (v17, h16)))))))))))))
set_option maxHeartbeats 4000000 in
set_option maxRecDepth 100000 in
theorem c_MD_write (h : gx_H) (l0 : Nat) (l1 : Int) (l2 : Int) : ∀ r h1, f_MD_write h l0 l1 l2 = some (r, h1) → gx_Met gm_MD_write [gx_R l0, gx_I l1, gx_I l2] h r h1 := by
  refine gx_enter (l := [some (gx_R l0), some (gx_I l1), some (gx_I l2)]) (by decide) (Nat.le_of_ble_eq_true rfl) rfl ?_
  unfold f_MD_write
  refine gx_aload_n (i := 0) (by decide +kernel) rfl ?_
  refine gx_iload_n (i := 1) (by decide +kernel) rfl ?_
  refine gx_cVi1 (Mc := gm_MD_isLetter) (u' := (0, 0)) (c_MD_isLetter _ _ _) vk_MD_isLetter ml_MD_189 rfl rfl ⟨by decide, by decide, by decide, by decide⟩ (Nat.le_of_ble_eq_true rfl) (by decide +kernel) (fun r1 h2 => ?_)
  refine gx_g (fun c3 => ?_)
  refine gx_if_ne (off := 6) (tgt := 11) c3 (by decide +kernel) (by decide) ?_ ?_
  · refine gx_aload_n (i := 0) (by decide +kernel) rfl ?_
    refine gx_geti gk_MD (by decide) fl_MD_236 (Or.inl rfl) (by decide +kernel) (fun c5 => ?_)
    refine gx_bipush (n := 20) (by decide +kernel) (by decide) ?_
    refine gx_icmp_ne (off := 6) (tgt := 23) c5 (by decide) (by decide +kernel) (by decide) ?_ ?_
    · refine gx_aload_n (i := 0) (by decide +kernel) rfl ?_
      refine gx_getr gk_MD (by decide) fl_MD_26 rfl (by decide +kernel) ?_
      refine gx_aload_n (i := 0) (by decide +kernel) rfl ?_
      refine gx_geti gk_MD (by decide) fl_MD_236 (Or.inl rfl) (by decide +kernel) (fun c8 => ?_)
      refine gx_iload_n (i := 1) (by decide +kernel) rfl ?_
      refine gx_iast (by decide +kernel) ?_
      refine gx_aload_n (i := 0) (by decide +kernel) rfl ?_
      refine gx_getr gk_MD (by decide) fl_MD_29 rfl (by decide +kernel) ?_
      refine gx_aload_n (i := 0) (by decide +kernel) rfl ?_
      refine gx_geti gk_MD (by decide) fl_MD_236 (Or.inl rfl) (by decide +kernel) (fun c12 => ?_)
      refine gx_iload_n (i := 2) (by decide +kernel) rfl ?_
      refine gx_iast (by decide +kernel) ?_
      refine gx_aload_n (i := 0) (by decide +kernel) rfl ?_
      refine gx_dup (by decide +kernel) (fun _ => rfl) ?_
      refine gx_geti gk_MD (by decide) fl_MD_236 (Or.inl rfl) (by decide +kernel) (fun c15 => ?_)
      refine gx_iconst (n := 1) (by decide +kernel) ?_
      refine gx_iadd (by decide +kernel) ?_
      refine gx_puti gk_MD (by decide) fl_MD_236 rfl rfl (by decide +kernel) ?_
      refine gx_aload_n (i := 0) (by decide +kernel) rfl ?_
      refine gx_geti gk_MD (by decide) fl_MD_236 (Or.inl rfl) (by decide +kernel) (fun c18 => ?_)
      exact gx_ireturn rfl rfl (by decide +kernel)
    · refine gx_ldc (a := (-1000000004)) kc_MD_198 (by decide +kernel) ?_
      exact gx_ireturn rfl rfl (by decide +kernel)
  · refine gx_ldc (a := (-1000000001)) kc_MD_187 (by decide +kernel) ?_
    exact gx_ireturn rfl rfl (by decide +kernel)
def f_MD_tear (h : gx_H) (l0 : Nat) : Option (Int × gx_H) :=
  gq_get h l0 1 11 (fun v1 => gq_put True h l0 1 11 0 (fun h3 => some (v1, h3)))
set_option maxHeartbeats 4000000 in
set_option maxRecDepth 100000 in
theorem c_MD_tear (h : gx_H) (l0 : Nat) : ∀ r h1, f_MD_tear h l0 = some (r, h1) → gx_Met gm_MD_tear [gx_R l0] h r h1 := by
  refine gx_enter (l := [some (gx_R l0), none]) (by decide) (Nat.le_of_ble_eq_true rfl) rfl ?_
  unfold f_MD_tear
  refine gx_aload_n (i := 0) (by decide +kernel) rfl ?_
  refine gx_geti gk_MD (by decide) fl_MD_236 (Or.inl rfl) (by decide +kernel) (fun c2 => ?_)
  refine gx_istore_n (i := 1) (l' := [some (gx_R _), some (gx_I _)]) (by decide +kernel) rfl (Nat.le_of_ble_eq_true rfl) (by decide) rfl ?_
  refine gx_aload_n (i := 0) (by decide +kernel) rfl ?_
  refine gx_iconst (n := 0) (by decide +kernel) ?_
  refine gx_putiT (by decide) gk_MD (by decide) fl_MD_236 rfl rfl (by decide +kernel) ?_
  refine gx_iload_n (i := 1) (by decide +kernel) rfl ?_
  exact gx_ireturn rfl rfl (by decide +kernel)
def f_MD_seed (h : gx_H) (l0 : Nat) (l1 : Int) : Option (Int × gx_H) :=
  gq_g (gx_i l1) (if l1 < 0 then some ((-1000000002), h) else gq_get h l0 1 4 (fun v2 => gq_put True h l0 1 4 l1 (fun h4 => some (v2, h4))))
set_option maxHeartbeats 4000000 in
set_option maxRecDepth 100000 in
theorem c_MD_seed (h : gx_H) (l0 : Nat) (l1 : Int) : ∀ r h1, f_MD_seed h l0 l1 = some (r, h1) → gx_Met gm_MD_seed [gx_R l0, gx_I l1] h r h1 := by
  refine gx_enter (l := [some (gx_R l0), some (gx_I l1), none]) (by decide) (Nat.le_of_ble_eq_true rfl) rfl ?_
  unfold f_MD_seed
  refine gx_iload_n (i := 1) (by decide +kernel) rfl ?_
  refine gx_g (fun c1 => ?_)
  refine gx_if_ge (off := 6) (tgt := 7) c1 (by decide +kernel) (by decide) ?_ ?_
  · refine gx_aload_n (i := 0) (by decide +kernel) rfl ?_
    refine gx_geti gk_MD (by decide) fl_MD_268 (Or.inl rfl) (by decide +kernel) (fun c3 => ?_)
    refine gx_istore_n (i := 2) (l' := [some (gx_R _), some (gx_I _), some (gx_I _)]) (by decide +kernel) rfl (Nat.le_of_ble_eq_true rfl) (by decide) rfl ?_
    refine gx_aload_n (i := 0) (by decide +kernel) rfl ?_
    refine gx_iload_n (i := 1) (by decide +kernel) rfl ?_
    refine gx_putiT c1 gk_MD (by decide) fl_MD_268 rfl rfl (by decide +kernel) ?_
    refine gx_iload_n (i := 2) (by decide +kernel) rfl ?_
    exact gx_ireturn rfl rfl (by decide +kernel)
  · refine gx_ldc (a := (-1000000002)) kc_MD_188 (by decide +kernel) ?_
    exact gx_ireturn rfl rfl (by decide +kernel)
