def f_FR_multiply (h : gx_H) (l0 : Nat) (l1 : Int) (l3 : Int) : Option (Int × gx_H) :=
  gq_get h l0 4 0 (fun v1 => gq_put (gx_l (v1 * l1)) h l0 4 0 (v1 * l1) (fun h3 => gq_get h3 l0 4 1 (fun v4 => gq_put (gx_l (v4 * l3)) h3 l0 4 1 (v4 * l3) (fun h6 => gq_cv h6 l0 4 (f_FR_isSmallInLowestTerms h6 l0) (fun r7 h8 => gq_g ((r7 : Int) = 0 ∨ (r7 : Int) = 1) (some (r7, h8)))))))
set_option maxHeartbeats 4000000 in
set_option maxRecDepth 100000 in
theorem c_FR_multiply (h : gx_H) (l0 : Nat) (l1 : Int) (l3 : Int) : ∀ r h1, f_FR_multiply h l0 l1 l3 = some (r, h1) → gx_Met gm_FR_multiply [gx_R l0, gx_L l1, gx_L l3] h r h1 := by
  refine gx_enter (l := [some (gx_R l0), some (gx_L l1), none, some (gx_L l3), none]) (by decide) (Nat.le_of_ble_eq_true rfl) rfl ?_
  unfold f_FR_multiply
  refine gx_aload_n (i := 0) (by decide +kernel) rfl ?_
  refine gx_dup (by decide +kernel) (fun _ => rfl) ?_
  refine gx_getL gk_FR (by decide) fl_FR_7 rfl (by decide +kernel) (fun c2 => ?_)
  refine gx_lload_n (i := 1) (by decide +kernel) rfl ?_
  refine gx_lmul (by decide +kernel) ?_
  refine gx_putl gk_FR (by decide) fl_FR_7 rfl rfl (by decide +kernel) ?_
  refine gx_aload_n (i := 0) (by decide +kernel) rfl ?_
  refine gx_dup (by decide +kernel) (fun _ => rfl) ?_
  refine gx_getL gk_FR (by decide) fl_FR_13 rfl (by decide +kernel) (fun c5 => ?_)
  refine gx_lload_n (i := 3) (by decide +kernel) rfl ?_
  refine gx_lmul (by decide +kernel) ?_
  refine gx_putl gk_FR (by decide) fl_FR_13 rfl rfl (by decide +kernel) ?_
  refine gx_aload_n (i := 0) (by decide +kernel) rfl ?_
  refine gx_cVi0 (Mc := gm_FR_isSmallInLowestTerms) (u' := (0, 0)) (c_FR_isSmallInLowestTerms _ _) vk_FR_isSmallInLowestTerms ml_FR_16 rfl rfl ⟨by decide, by decide, by decide, by decide⟩ (Nat.le_of_ble_eq_true rfl) (by decide +kernel) (fun r7 h8 => ?_)
  refine gx_g (fun c9 => ?_)
  exact gx_zreturn c9 rfl rfl (by decide +kernel)
def fb_EX_multiplyAll_40 (N7 : gx_H → Nat → Nat → Int → Int → Int → Option (Int × gx_H)) (N40 : gx_H → Nat → Nat → Int → Int → Int → Int → Int → Option (Int × gx_H)) (h : gx_H) (l0 : Nat) (l1 : Nat) (l2 : Int) (l3 : Int) (l4 : Int) (l5 : Int) (l6 : Int) : Option (Int × gx_H) :=
  gq_g (gx_i l6) (gq_g (gx_i l5) (if l6 < l5 then gq_gr h l1 9 1 (fun o3 => gq_ald 0 h o3 l4 (fun v4 => gq_gr h l1 9 2 (fun o6 => gq_ald 0 h o6 l4 (fun v7 => gq_cv h l0 4 (f_FR_multiply h l0 v4 v7) (fun r9 h10 => gq_g (gx_i r9) (if r9 = 0 then some (0, h10) else N40 h10 l0 l1 l2 l3 l4 l5 (l6 + 1))))))) else N7 h l0 l1 l2 l3 (l4 + 1)))
set_option maxHeartbeats 4000000 in
set_option maxRecDepth 100000 in
theorem yb_EX_multiplyAll_40 (N7 : gx_H → Nat → Nat → Int → Int → Int → Option (Int × gx_H)) (hN7 : ∀ (h : gx_H) (l0 : Nat) (l1 : Nat) (l2 : Int) (l3 : Int) (l4 : Int), gx_Y gm_EX_multiplyAll (0, 0) 7 [some (gx_R l0), some (gx_R l1), some (gx_I l2), some (gx_I l3), some (gx_I l4), none, none] [] h (N7 h l0 l1 l2 l3 l4)) (N40 : gx_H → Nat → Nat → Int → Int → Int → Int → Int → Option (Int × gx_H)) (hN40 : ∀ (h : gx_H) (l0 : Nat) (l1 : Nat) (l2 : Int) (l3 : Int) (l4 : Int) (l5 : Int) (l6 : Int), gx_Y gm_EX_multiplyAll (0, 0) 40 [some (gx_R l0), some (gx_R l1), some (gx_I l2), some (gx_I l3), some (gx_I l4), some (gx_I l5), some (gx_I l6)] [] h (N40 h l0 l1 l2 l3 l4 l5 l6)) (h : gx_H) (l0 : Nat) (l1 : Nat) (l2 : Int) (l3 : Int) (l4 : Int) (l5 : Int) (l6 : Int) : gx_Y gm_EX_multiplyAll (0, 0) 40 [some (gx_R l0), some (gx_R l1), some (gx_I l2), some (gx_I l3), some (gx_I l4), some (gx_I l5), some (gx_I l6)] [] h (fb_EX_multiplyAll_40 N7 N40 h l0 l1 l2 l3 l4 l5 l6) := by
  unfold fb_EX_multiplyAll_40
  refine gx_iload (i := 6) (by decide +kernel) rfl ?_
  refine gx_iload (i := 5) (by decide +kernel) rfl ?_
  refine gx_g (fun c1 => ?_)
  refine gx_g (fun c2 => ?_)
  refine gx_icmp_ge (off := 34) (tgt := 78) c1 c2 (by decide +kernel) (by decide) ?_ ?_
  · refine gx_iinc (i := 4) (n := 1) (l' := [some (gx_R _), some (gx_R _), some (gx_I _), some (gx_I _), some (gx_I _), some (gx_I _), some (gx_I _)]) (by decide +kernel) rfl rfl (Nat.le_of_ble_eq_true rfl) (by decide) rfl ?_
    refine gx_goto (off := -74) (tgt := 7) (by decide +kernel) (by decide) ?_
    exact gx_less' (hN7 _ _ _ _ _ _) ⟨rfl, rfl, rfl, rfl, rfl, trivial⟩
  · refine gx_aload_n (i := 0) (by decide +kernel) rfl ?_
    refine gx_aload_n (i := 1) (by decide +kernel) rfl ?_
    refine gx_getr gk_ST (by decide) fl_EX_59 rfl (by decide +kernel) ?_
    refine gx_iload (i := 4) (by decide +kernel) rfl ?_
    refine gx_ialdi (by decide +kernel) (fun c5 => ?_)
    refine gx_i2l c5 (by decide +kernel) ?_
    refine gx_aload_n (i := 1) (by decide +kernel) rfl ?_
    refine gx_getr gk_ST (by decide) fl_EX_68 rfl (by decide +kernel) ?_
    refine gx_iload (i := 4) (by decide +kernel) rfl ?_
    refine gx_ialdi (by decide +kernel) (fun c8 => ?_)
    refine gx_i2l c8 (by decide +kernel) ?_
    refine gx_cVi2 (Mc := gm_FR_multiply) (u' := (0, 0)) (c_FR_multiply _ _ _ _) vk_FR_multiply ml_EX_94 rfl rfl ⟨by decide, by decide, by decide, by decide⟩ (Nat.le_of_ble_eq_true rfl) (by decide +kernel) (fun r9 h10 => ?_)
    refine gx_g (fun c11 => ?_)
    refine gx_if_ne (off := 5) (tgt := 72) c11 (by decide +kernel) (by decide) ?_ ?_
    · refine gx_iinc (i := 6) (n := 1) (l' := [some (gx_R _), some (gx_R _), some (gx_I _), some (gx_I _), some (gx_I _), some (gx_I _), some (gx_I _)]) (by decide +kernel) rfl rfl (Nat.le_of_ble_eq_true rfl) (by decide) rfl ?_
      refine gx_goto (off := -35) (tgt := 40) (by decide +kernel) (by decide) ?_
      exact gx_less' (hN40 _ _ _ _ _ _ _ _) ⟨rfl, rfl, rfl, rfl, rfl, rfl, rfl, trivial⟩
    · refine gx_iconst (n := 0) (by decide +kernel) ?_
      exact gx_zreturn (by decide) rfl rfl (by decide +kernel)
def f_EX_multiplyAll_40 (N7 : gx_H → Nat → Nat → Int → Int → Int → Option (Int × gx_H)) : Nat → gx_H → Nat → Nat → Int → Int → Int → Int → Int → Option (Int × gx_H)
  | 0 => fun _ _ _ _ _ _ _ _ => none
  | fu + 1 => fb_EX_multiplyAll_40 N7 (f_EX_multiplyAll_40 N7 fu)
theorem y_EX_multiplyAll_40 (N7 : gx_H → Nat → Nat → Int → Int → Int → Option (Int × gx_H)) (hN7 : ∀ (h : gx_H) (l0 : Nat) (l1 : Nat) (l2 : Int) (l3 : Int) (l4 : Int), gx_Y gm_EX_multiplyAll (0, 0) 7 [some (gx_R l0), some (gx_R l1), some (gx_I l2), some (gx_I l3), some (gx_I l4), none, none] [] h (N7 h l0 l1 l2 l3 l4)) : ∀ (fu : Nat) (h : gx_H) (l0 : Nat) (l1 : Nat) (l2 : Int) (l3 : Int) (l4 : Int) (l5 : Int) (l6 : Int), gx_Y gm_EX_multiplyAll (0, 0) 40 [some (gx_R l0), some (gx_R l1), some (gx_I l2), some (gx_I l3), some (gx_I l4), some (gx_I l5), some (gx_I l6)] [] h (f_EX_multiplyAll_40 N7 fu h l0 l1 l2 l3 l4 l5 l6) := by
  intro fu
  induction fu with
  | zero => intro h l0 l1 l2 l3 l4 l5 l6; exact gx_none
  | succ fu ih => intro h l0 l1 l2 l3 l4 l5 l6; exact yb_EX_multiplyAll_40 N7 hN7 (f_EX_multiplyAll_40 N7 fu) ih h l0 l1 l2 l3 l4 l5 l6
def fb_EX_multiplyAll_7 (N7 : gx_H → Nat → Nat → Int → Int → Int → Option (Int × gx_H)) (h : gx_H) (l0 : Nat) (l1 : Nat) (l2 : Int) (l3 : Int) (l4 : Int) : Option (Int × gx_H) :=
  gq_gr h l1 9 0 (fun o1 => gq_get h o1 8 0 (fun v2 => gq_g (gx_i l4) (if l4 < v2 then gq_gr h l1 9 0 (fun o5 => gq_gr h o5 8 1 (fun o6 => gq_call (f_LE_cell h l4 l2) (fun r7 h8 => gq_ald 0 h8 o6 r7 (fun v9 => f_EX_multiplyAll_40 N7 gx_fu h8 l0 l1 l2 l3 l4 (l3 * v9) 0)))) else some (1, h))))
set_option maxHeartbeats 4000000 in
set_option maxRecDepth 100000 in
theorem yb_EX_multiplyAll_7 (N7 : gx_H → Nat → Nat → Int → Int → Int → Option (Int × gx_H)) (hN7 : ∀ (h : gx_H) (l0 : Nat) (l1 : Nat) (l2 : Int) (l3 : Int) (l4 : Int), gx_Y gm_EX_multiplyAll (0, 0) 7 [some (gx_R l0), some (gx_R l1), some (gx_I l2), some (gx_I l3), some (gx_I l4), none, none] [] h (N7 h l0 l1 l2 l3 l4)) (h : gx_H) (l0 : Nat) (l1 : Nat) (l2 : Int) (l3 : Int) (l4 : Int) : gx_Y gm_EX_multiplyAll (0, 0) 7 [some (gx_R l0), some (gx_R l1), some (gx_I l2), some (gx_I l3), some (gx_I l4), none, none] [] h (fb_EX_multiplyAll_7 N7 h l0 l1 l2 l3 l4) := by
  unfold fb_EX_multiplyAll_7
  refine gx_iload (i := 4) (by decide +kernel) rfl ?_
  refine gx_aload_n (i := 1) (by decide +kernel) rfl ?_
  refine gx_getr gk_ST (by decide) fl_EX_25 rfl (by decide +kernel) ?_
  refine gx_geti gk_SH (by decide) fl_EX_37 (Or.inl rfl) (by decide +kernel) (fun c3 => ?_)
  refine gx_g (fun c4 => ?_)
  refine gx_icmp_ge (off := 68) (tgt := 84) c4 c3 (by decide +kernel) (by decide) ?_ ?_
  · refine gx_iconst (n := 1) (by decide +kernel) ?_
    exact gx_zreturn (by decide) rfl rfl (by decide +kernel)
  · refine gx_iload_n (i := 3) (by decide +kernel) rfl ?_
    refine gx_aload_n (i := 1) (by decide +kernel) rfl ?_
    refine gx_getr gk_ST (by decide) fl_EX_25 rfl (by decide +kernel) ?_
    refine gx_getr gk_SH (by decide) fl_EX_101 rfl (by decide +kernel) ?_
    refine gx_iload (i := 4) (by decide +kernel) rfl ?_
    refine gx_iload_n (i := 2) (by decide +kernel) rfl ?_
    refine gx_cSNi2 (Mc := gm_LE_cell) (u' := (0, 0)) (c_LE_cell _ _ _) sk_LE_cell ml_EX_104 rfl rfl ⟨by decide, by decide, by decide, by decide⟩ (Nat.le_of_ble_eq_true rfl) (by decide +kernel) (fun r7 h8 => ?_)
    refine gx_ialdi (by decide +kernel) (fun c10 => ?_)
    refine gx_imul (by decide +kernel) ?_
    refine gx_istore (i := 5) (l' := [some (gx_R _), some (gx_R _), some (gx_I _), some (gx_I _), some (gx_I _), some (gx_I _), none]) (by decide +kernel) rfl (Nat.le_of_ble_eq_true rfl) (by decide) rfl ?_
    refine gx_iconst (n := 0) (by decide +kernel) ?_
    refine gx_istore (i := 6) (l' := [some (gx_R _), some (gx_R _), some (gx_I _), some (gx_I _), some (gx_I _), some (gx_I _), some (gx_I _)]) (by decide +kernel) rfl (Nat.le_of_ble_eq_true rfl) (by decide) rfl ?_
    exact gx_less' (y_EX_multiplyAll_40 _ hN7 gx_fu _ _ _ _ _ _ _ _) ⟨rfl, rfl, rfl, rfl, rfl, rfl, rfl, trivial⟩
def f_EX_multiplyAll_7 : Nat → gx_H → Nat → Nat → Int → Int → Int → Option (Int × gx_H)
  | 0 => fun _ _ _ _ _ _ => none
  | fu + 1 => fb_EX_multiplyAll_7 (f_EX_multiplyAll_7 fu)
theorem y_EX_multiplyAll_7 : ∀ (fu : Nat) (h : gx_H) (l0 : Nat) (l1 : Nat) (l2 : Int) (l3 : Int) (l4 : Int), gx_Y gm_EX_multiplyAll (0, 0) 7 [some (gx_R l0), some (gx_R l1), some (gx_I l2), some (gx_I l3), some (gx_I l4), none, none] [] h (f_EX_multiplyAll_7 fu h l0 l1 l2 l3 l4) := by
  intro fu
  induction fu with
  | zero => intro h l0 l1 l2 l3 l4; exact gx_none
  | succ fu ih => intro h l0 l1 l2 l3 l4; exact yb_EX_multiplyAll_7 (f_EX_multiplyAll_7 fu) ih h l0 l1 l2 l3 l4
def f_EX_multiplyAll (h : gx_H) (l0 : Nat) (l1 : Nat) (l2 : Int) (l3 : Int) : Option (Int × gx_H) :=
  gq_cv h l0 4 (f_FR_becomeOne h l0) (fun r1 h2 => f_EX_multiplyAll_7 gx_fu h2 l0 l1 l2 l3 0)
set_option maxHeartbeats 4000000 in
set_option maxRecDepth 100000 in
theorem c_EX_multiplyAll (h : gx_H) (l0 : Nat) (l1 : Nat) (l2 : Int) (l3 : Int) : ∀ r h1, f_EX_multiplyAll h l0 l1 l2 l3 = some (r, h1) → gx_Met gm_EX_multiplyAll [gx_R l0, gx_R l1, gx_I l2, gx_I l3] h r h1 := by
  refine gx_enter (l := [some (gx_R l0), some (gx_R l1), some (gx_I l2), some (gx_I l3), none, none, none]) (by decide) (Nat.le_of_ble_eq_true rfl) rfl ?_
  unfold f_EX_multiplyAll
  refine gx_aload_n (i := 0) (by decide +kernel) rfl ?_
  refine gx_cVv0 (Mc := gm_FR_becomeOne) (u' := (0, 0)) (c_FR_becomeOne _ _) vk_FR_becomeOne ml_EX_98 rfl rfl ⟨by decide, by decide, by decide, by decide⟩ (Nat.le_of_ble_eq_true rfl) (by decide +kernel) (fun r1 h2 => ?_)
  refine gx_iconst (n := 0) (by decide +kernel) ?_
  refine gx_istore (i := 4) (l' := [some (gx_R _), some (gx_R _), some (gx_I _), some (gx_I _), some (gx_I _), none, none]) (by decide +kernel) rfl (Nat.le_of_ble_eq_true rfl) (by decide) rfl ?_
  exact gx_less' (y_EX_multiplyAll_7 gx_fu _ _ _ _ _ _) ⟨rfl, rfl, rfl, rfl, rfl, trivial⟩
def f_FR_add (h : gx_H) (l0 : Nat) (l1 : Nat) : Option (Int × gx_H) :=
  gq_get h l0 4 0 (fun v1 => gq_get h l1 4 1 (fun v3 => gq_get h l1 4 0 (fun v5 => gq_get h l0 4 1 (fun v7 => gq_put (gx_l ((v1 * v3) + (v5 * v7))) h l0 4 0 ((v1 * v3) + (v5 * v7)) (fun h9 => gq_get h9 l0 4 1 (fun v10 => gq_get h9 l1 4 1 (fun v12 => gq_put (gx_l (v10 * v12)) h9 l0 4 1 (v10 * v12) (fun h14 => gq_cv h14 l0 4 (f_FR_isSmallInLowestTerms h14 l0) (fun r15 h16 => gq_g ((r15 : Int) = 0 ∨ (r15 : Int) = 1) (some (r15, h16)))))))))))
set_option maxHeartbeats 4000000 in
set_option maxRecDepth 100000 in
theorem c_FR_add (h : gx_H) (l0 : Nat) (l1 : Nat) : ∀ r h1, f_FR_add h l0 l1 = some (r, h1) → gx_Met gm_FR_add [gx_R l0, gx_R l1] h r h1 := by
  refine gx_enter (l := [some (gx_R l0), some (gx_R l1)]) (by decide) (Nat.le_of_ble_eq_true rfl) rfl ?_
  unfold f_FR_add
  refine gx_aload_n (i := 0) (by decide +kernel) rfl ?_
  refine gx_aload_n (i := 0) (by decide +kernel) rfl ?_
  refine gx_getL gk_FR (by decide) fl_FR_7 rfl (by decide +kernel) (fun c2 => ?_)
  refine gx_aload_n (i := 1) (by decide +kernel) rfl ?_
  refine gx_getL gk_FR (by decide) fl_FR_13 rfl (by decide +kernel) (fun c4 => ?_)
  refine gx_lmul (by decide +kernel) ?_
  refine gx_aload_n (i := 1) (by decide +kernel) rfl ?_
  refine gx_getL gk_FR (by decide) fl_FR_7 rfl (by decide +kernel) (fun c6 => ?_)
  refine gx_aload_n (i := 0) (by decide +kernel) rfl ?_
  refine gx_getL gk_FR (by decide) fl_FR_13 rfl (by decide +kernel) (fun c8 => ?_)
  refine gx_lmul (by decide +kernel) ?_
  refine gx_ladd (by decide +kernel) ?_
  refine gx_putl gk_FR (by decide) fl_FR_7 rfl rfl (by decide +kernel) ?_
  refine gx_aload_n (i := 0) (by decide +kernel) rfl ?_
  refine gx_dup (by decide +kernel) (fun _ => rfl) ?_
  refine gx_getL gk_FR (by decide) fl_FR_13 rfl (by decide +kernel) (fun c11 => ?_)
  refine gx_aload_n (i := 1) (by decide +kernel) rfl ?_
  refine gx_getL gk_FR (by decide) fl_FR_13 rfl (by decide +kernel) (fun c13 => ?_)
  refine gx_lmul (by decide +kernel) ?_
  refine gx_putl gk_FR (by decide) fl_FR_13 rfl rfl (by decide +kernel) ?_
  refine gx_aload_n (i := 0) (by decide +kernel) rfl ?_
  refine gx_cVi0 (Mc := gm_FR_isSmallInLowestTerms) (u' := (0, 0)) (c_FR_isSmallInLowestTerms _ _) vk_FR_isSmallInLowestTerms ml_FR_16 rfl rfl ⟨by decide, by decide, by decide, by decide⟩ (Nat.le_of_ble_eq_true rfl) (by decide +kernel) (fun r15 h16 => ?_)
  refine gx_g (fun c17 => ?_)
  exact gx_zreturn c17 rfl rfl (by decide +kernel)
def fb_EX_findWorth_68 (h : gx_H) : Option (Int × gx_H) :=
  some (0, h)
set_option maxHeartbeats 4000000 in
set_option maxRecDepth 100000 in
theorem y_EX_findWorth_68 (h : gx_H) : gx_Y gm_EX_findWorth (0, 0) 68 [none, none, none] [] h (fb_EX_findWorth_68 h) := by
  unfold fb_EX_findWorth_68
  refine gx_iconst (n := 0) (by decide +kernel) ?_
  exact gx_zreturn (by decide) rfl rfl (by decide +kernel)
def f_EX_findWorth (h : gx_H) (l0 : Nat) (l1 : Nat) (l2 : Int) : Option (Int × gx_H) :=
  gq_gr h l0 3 0 (fun o1 => gq_call (f_EX_multiplyAll h o1 l1 l2 1) (fun r2 h3 => gq_g (gx_i r2) (if r2 = 0 then fb_EX_findWorth_68 h3  else gq_gr h3 l0 3 1 (fun o5 => gq_call (f_EX_multiplyAll h3 o5 l1 l2 (-1)) (fun r6 h7 => gq_g (gx_i r6) (if r6 = 0 then fb_EX_findWorth_68 h7  else gq_gr h7 l0 3 0 (fun o9 => gq_gr h7 l0 3 1 (fun o10 => gq_cv h7 o9 4 (f_FR_add h7 o9 o10) (fun r11 h12 => gq_g (gx_i r11) (if r11 = 0 then fb_EX_findWorth_68 h12  else gq_gr h12 l0 3 0 (fun o14 => gq_gr h12 l1 9 2 (fun o15 => gq_ald 0 h12 o15 l2 (fun v16 => gq_gr h12 l1 9 1 (fun o18 => gq_ald 0 h12 o18 l2 (fun v19 => gq_cv h12 o14 4 (f_FR_multiply h12 o14 v16 v19) (fun r21 h22 => gq_g (gx_i r21) (if r21 = 0 then fb_EX_findWorth_68 h22  else some (1, h22))))))))))))))))))
set_option maxHeartbeats 4000000 in
set_option maxRecDepth 100000 in
theorem c_EX_findWorth (h : gx_H) (l0 : Nat) (l1 : Nat) (l2 : Int) : ∀ r h1, f_EX_findWorth h l0 l1 l2 = some (r, h1) → gx_Met gm_EX_findWorth [gx_R l0, gx_R l1, gx_I l2] h r h1 := by
  refine gx_enter (l := [some (gx_R l0), some (gx_R l1), some (gx_I l2)]) (by decide) (Nat.le_of_ble_eq_true rfl) rfl ?_
  unfold f_EX_findWorth
  refine gx_aload_n (i := 0) (by decide +kernel) rfl ?_
  refine gx_getr gk_EX (by decide) fl_EX_12 rfl (by decide +kernel) ?_
  refine gx_aload_n (i := 1) (by decide +kernel) rfl ?_
  refine gx_iload_n (i := 2) (by decide +kernel) rfl ?_
  refine gx_iconst (n := 1) (by decide +kernel) ?_
  refine gx_cSi4 (Mc := gm_EX_multiplyAll) (u' := (0, 0)) (c_EX_multiplyAll _ _ _ _ _) sk_EX_multiplyAll ml_EX_86 rfl rfl ⟨by decide, by decide, by decide, by decide⟩ (Nat.le_of_ble_eq_true rfl) (by decide +kernel) (fun r2 h3 => ?_)
  refine gx_g (fun c4 => ?_)
  refine gx_if_eq (off := 58) (tgt := 68) c4 (by decide +kernel) (by decide) ?_ ?_
  · exact gx_less' (y_EX_findWorth_68 _) trivial
  · refine gx_aload_n (i := 0) (by decide +kernel) rfl ?_
    refine gx_getr gk_EX (by decide) fl_EX_18 rfl (by decide +kernel) ?_
    refine gx_aload_n (i := 1) (by decide +kernel) rfl ?_
    refine gx_iload_n (i := 2) (by decide +kernel) rfl ?_
    refine gx_iconst (n := (-1)) (by decide +kernel) ?_
    refine gx_cSi4 (Mc := gm_EX_multiplyAll) (u' := (0, 0)) (c_EX_multiplyAll _ _ _ _ _) sk_EX_multiplyAll ml_EX_86 rfl rfl ⟨by decide, by decide, by decide, by decide⟩ (Nat.le_of_ble_eq_true rfl) (by decide +kernel) (fun r6 h7 => ?_)
    refine gx_g (fun c8 => ?_)
    refine gx_if_eq (off := 45) (tgt := 68) c8 (by decide +kernel) (by decide) ?_ ?_
    · exact gx_less' (y_EX_findWorth_68 _) trivial
    · refine gx_aload_n (i := 0) (by decide +kernel) rfl ?_
      refine gx_getr gk_EX (by decide) fl_EX_12 rfl (by decide +kernel) ?_
      refine gx_aload_n (i := 0) (by decide +kernel) rfl ?_
      refine gx_getr gk_EX (by decide) fl_EX_18 rfl (by decide +kernel) ?_
      refine gx_cVi1 (Mc := gm_FR_add) (u' := (0, 0)) (c_FR_add _ _ _) vk_FR_add ml_EX_90 rfl rfl ⟨by decide, by decide, by decide, by decide⟩ (Nat.le_of_ble_eq_true rfl) (by decide +kernel) (fun r11 h12 => ?_)
      refine gx_g (fun c13 => ?_)
      refine gx_if_eq (off := 31) (tgt := 68) c13 (by decide +kernel) (by decide) ?_ ?_
      · exact gx_less' (y_EX_findWorth_68 _) trivial
      · refine gx_aload_n (i := 0) (by decide +kernel) rfl ?_
        refine gx_getr gk_EX (by decide) fl_EX_12 rfl (by decide +kernel) ?_
        refine gx_aload_n (i := 1) (by decide +kernel) rfl ?_
        refine gx_getr gk_ST (by decide) fl_EX_68 rfl (by decide +kernel) ?_
        refine gx_iload_n (i := 2) (by decide +kernel) rfl ?_
        refine gx_ialdi (by decide +kernel) (fun c17 => ?_)
        refine gx_i2l c17 (by decide +kernel) ?_
        refine gx_aload_n (i := 1) (by decide +kernel) rfl ?_
        refine gx_getr gk_ST (by decide) fl_EX_59 rfl (by decide +kernel) ?_
        refine gx_iload_n (i := 2) (by decide +kernel) rfl ?_
        refine gx_ialdi (by decide +kernel) (fun c20 => ?_)
        refine gx_i2l c20 (by decide +kernel) ?_
        refine gx_cVi2 (Mc := gm_FR_multiply) (u' := (0, 0)) (c_FR_multiply _ _ _ _) vk_FR_multiply ml_EX_94 rfl rfl ⟨by decide, by decide, by decide, by decide⟩ (Nat.le_of_ble_eq_true rfl) (by decide +kernel) (fun r21 h22 => ?_)
        refine gx_g (fun c23 => ?_)
        refine gx_if_eq (off := 7) (tgt := 68) c23 (by decide +kernel) (by decide) ?_ ?_
        · exact gx_less' (y_EX_findWorth_68 _) trivial
        · refine gx_iconst (n := 1) (by decide +kernel) ?_
          refine gx_goto (off := 4) (tgt := 69) (by decide +kernel) (by decide) ?_
          exact gx_zreturn (by decide) rfl rfl (by decide +kernel)
def fb_EX_signAfter_67 (h : gx_H) (l4 : Int) (l5 : Int) (l6 : Int) : Option (Int × gx_H) :=
  gq_g (gx_i l4) (if l4 < 0 then gq_g (gx_i l5) (if l5 < 0 then some ((l6 - (l4 * l5)), h) else some (l6, h)) else some (l6, h))
set_option maxHeartbeats 4000000 in
set_option maxRecDepth 100000 in
theorem y_EX_signAfter_67 (h : gx_H) (l4 : Int) (l5 : Int) (l6 : Int) : gx_Y gm_EX_signAfter (0, 0) 67 [none, none, none, none, some (gx_I l4), some (gx_I l5), some (gx_I l6)] [] h (fb_EX_signAfter_67 h l4 l5 l6) := by
  unfold fb_EX_signAfter_67
  refine gx_iload (i := 4) (by decide +kernel) rfl ?_
  refine gx_g (fun c1 => ?_)
  refine gx_if_ge (off := 17) (tgt := 86) c1 (by decide +kernel) (by decide) ?_ ?_
  · refine gx_iload (i := 6) (by decide +kernel) rfl ?_
    exact gx_ireturn rfl rfl (by decide +kernel)
  · refine gx_iload (i := 5) (by decide +kernel) rfl ?_
    refine gx_g (fun c2 => ?_)
    refine gx_if_ge (off := 12) (tgt := 86) c2 (by decide +kernel) (by decide) ?_ ?_
    · refine gx_iload (i := 6) (by decide +kernel) rfl ?_
      exact gx_ireturn rfl rfl (by decide +kernel)
    · refine gx_iload (i := 6) (by decide +kernel) rfl ?_
      refine gx_iload (i := 4) (by decide +kernel) rfl ?_
      refine gx_iload (i := 5) (by decide +kernel) rfl ?_
      refine gx_imul (by decide +kernel) ?_
      refine gx_isub (by decide +kernel) ?_
      exact gx_ireturn rfl rfl (by decide +kernel)
def f_EX_signAfter (h : gx_H) (l0 : Nat) (l1 : Int) (l2 : Int) (l3 : Int) : Option (Int × gx_H) :=
  gq_gr h l0 9 3 (fun o1 => gq_call (f_LE_cell h l2 l3) (fun r2 h3 => gq_ald 0 h3 o1 r2 (fun v4 => gq_g (gx_i l1) (gq_g (gx_i l2) (if l1 = l2 then some ((-v4), h3) else gq_gr h3 l0 9 0 (fun o8 => gq_gr h3 o8 8 1 (fun o9 => gq_call (f_LE_cell h3 l2 l1) (fun r10 h11 => gq_ald 0 h11 o9 r10 (fun v12 => gq_gr h11 l0 9 3 (fun o14 => gq_call (f_LE_cell h11 l1 l3) (fun r15 h16 => gq_ald 0 h16 o14 r15 (fun v17 => if 0 < v4 then if 0 < v12 then some ((v17 + (v4 * v12)), h16) else fb_EX_signAfter_67 h16 v4 v12 v17 else fb_EX_signAfter_67 h16 v4 v12 v17))))))))))))
set_option maxHeartbeats 4000000 in
set_option maxRecDepth 100000 in
theorem c_EX_signAfter (h : gx_H) (l0 : Nat) (l1 : Int) (l2 : Int) (l3 : Int) : ∀ r h1, f_EX_signAfter h l0 l1 l2 l3 = some (r, h1) → gx_Met gm_EX_signAfter [gx_R l0, gx_I l1, gx_I l2, gx_I l3] h r h1 := by
  refine gx_enter (l := [some (gx_R l0), some (gx_I l1), some (gx_I l2), some (gx_I l3), none, none, none]) (by decide) (Nat.le_of_ble_eq_true rfl) rfl ?_
  unfold f_EX_signAfter
  refine gx_aload_n (i := 0) (by decide +kernel) rfl ?_
  refine gx_getr gk_ST (by decide) fl_EX_48 rfl (by decide +kernel) ?_
  refine gx_iload_n (i := 2) (by decide +kernel) rfl ?_
  refine gx_iload_n (i := 3) (by decide +kernel) rfl ?_
  refine gx_cSNi2 (Mc := gm_LE_cell) (u' := (0, 0)) (c_LE_cell _ _ _) sk_LE_cell ml_EX_104 rfl rfl ⟨by decide, by decide, by decide, by decide⟩ (Nat.le_of_ble_eq_true rfl) (by decide +kernel) (fun r2 h3 => ?_)
  refine gx_ialdi (by decide +kernel) (fun c5 => ?_)
  refine gx_istore (i := 4) (l' := [some (gx_R _), some (gx_I _), some (gx_I _), some (gx_I _), some (gx_I _), none, none]) (by decide +kernel) rfl (Nat.le_of_ble_eq_true rfl) (by decide) rfl ?_
  refine gx_iload_n (i := 1) (by decide +kernel) rfl ?_
  refine gx_iload_n (i := 2) (by decide +kernel) rfl ?_
  refine gx_g (fun c6 => ?_)
  refine gx_g (fun c7 => ?_)
  refine gx_icmp_ne (off := 7) (tgt := 21) c6 c7 (by decide +kernel) (by decide) ?_ ?_
  · refine gx_aload_n (i := 0) (by decide +kernel) rfl ?_
    refine gx_getr gk_ST (by decide) fl_EX_25 rfl (by decide +kernel) ?_
    refine gx_getr gk_SH (by decide) fl_EX_101 rfl (by decide +kernel) ?_
    refine gx_iload_n (i := 2) (by decide +kernel) rfl ?_
    refine gx_iload_n (i := 1) (by decide +kernel) rfl ?_
    refine gx_cSNi2 (Mc := gm_LE_cell) (u' := (0, 0)) (c_LE_cell _ _ _) sk_LE_cell ml_EX_104 rfl rfl ⟨by decide, by decide, by decide, by decide⟩ (Nat.le_of_ble_eq_true rfl) (by decide +kernel) (fun r10 h11 => ?_)
    refine gx_ialdi (by decide +kernel) (fun c13 => ?_)
    refine gx_istore (i := 5) (l' := [some (gx_R _), some (gx_I _), some (gx_I _), some (gx_I _), some (gx_I _), some (gx_I _), none]) (by decide +kernel) rfl (Nat.le_of_ble_eq_true rfl) (by decide) rfl ?_
    refine gx_aload_n (i := 0) (by decide +kernel) rfl ?_
    refine gx_getr gk_ST (by decide) fl_EX_48 rfl (by decide +kernel) ?_
    refine gx_iload_n (i := 1) (by decide +kernel) rfl ?_
    refine gx_iload_n (i := 3) (by decide +kernel) rfl ?_
    refine gx_cSNi2 (Mc := gm_LE_cell) (u' := (0, 0)) (c_LE_cell _ _ _) sk_LE_cell ml_EX_104 rfl rfl ⟨by decide, by decide, by decide, by decide⟩ (Nat.le_of_ble_eq_true rfl) (by decide +kernel) (fun r15 h16 => ?_)
    refine gx_ialdi (by decide +kernel) (fun c18 => ?_)
    refine gx_istore (i := 6) (l' := [some (gx_R _), some (gx_I _), some (gx_I _), some (gx_I _), some (gx_I _), some (gx_I _), some (gx_I _)]) (by decide +kernel) rfl (Nat.le_of_ble_eq_true rfl) (by decide) rfl ?_
    refine gx_iload (i := 4) (by decide +kernel) rfl ?_
    refine gx_if_le (off := 17) (tgt := 67) c5 (by decide +kernel) (by decide) ?_ ?_
    · exact gx_less' (y_EX_signAfter_67 _ _ _ _) ⟨rfl, rfl, rfl, trivial⟩
    · refine gx_iload (i := 5) (by decide +kernel) rfl ?_
      refine gx_if_le (off := 12) (tgt := 67) c13 (by decide +kernel) (by decide) ?_ ?_
      · exact gx_less' (y_EX_signAfter_67 _ _ _ _) ⟨rfl, rfl, rfl, trivial⟩
      · refine gx_iload (i := 6) (by decide +kernel) rfl ?_
        refine gx_iload (i := 4) (by decide +kernel) rfl ?_
        refine gx_iload (i := 5) (by decide +kernel) rfl ?_
        refine gx_imul (by decide +kernel) ?_
        refine gx_iadd (by decide +kernel) ?_
        exact gx_ireturn rfl rfl (by decide +kernel)
  · refine gx_iload (i := 4) (by decide +kernel) rfl ?_
    refine gx_ineg (by decide +kernel) ?_
    exact gx_ireturn rfl rfl (by decide +kernel)
def fb_EX_fillSigns_20 (N11 : gx_H → Nat → Nat → Int → Int → Int → Option (Int × gx_H)) (N20 : gx_H → Nat → Nat → Int → Int → Int → Int → Option (Int × gx_H)) (h : gx_H) (l0 : Nat) (l1 : Nat) (l2 : Int) (l3 : Int) (l4 : Int) (l5 : Int) : Option (Int × gx_H) :=
  gq_g (gx_i l5) (gq_g (gx_i l3) (if l5 < l3 then gq_gr h l0 9 3 (fun o3 => gq_call (f_LE_cell h l4 l5) (fun r4 h5 => gq_call (f_EX_signAfter h5 l1 l4 l2 l5) (fun r6 h7 => gq_ast 0 (gx_i r6) h7 o3 r4 r6 (fun h8 => N20 h8 l0 l1 l2 l3 l4 (l5 + 1))))) else N11 h l0 l1 l2 l3 (l4 + 1)))
set_option maxHeartbeats 4000000 in
set_option maxRecDepth 100000 in
theorem yb_EX_fillSigns_20 (N11 : gx_H → Nat → Nat → Int → Int → Int → Option (Int × gx_H)) (hN11 : ∀ (h : gx_H) (l0 : Nat) (l1 : Nat) (l2 : Int) (l3 : Int) (l4 : Int), gx_Y gm_EX_fillSigns (0, 0) 11 [some (gx_R l0), some (gx_R l1), some (gx_I l2), some (gx_I l3), some (gx_I l4), none] [] h (N11 h l0 l1 l2 l3 l4)) (N20 : gx_H → Nat → Nat → Int → Int → Int → Int → Option (Int × gx_H)) (hN20 : ∀ (h : gx_H) (l0 : Nat) (l1 : Nat) (l2 : Int) (l3 : Int) (l4 : Int) (l5 : Int), gx_Y gm_EX_fillSigns (0, 0) 20 [some (gx_R l0), some (gx_R l1), some (gx_I l2), some (gx_I l3), some (gx_I l4), some (gx_I l5)] [] h (N20 h l0 l1 l2 l3 l4 l5)) (h : gx_H) (l0 : Nat) (l1 : Nat) (l2 : Int) (l3 : Int) (l4 : Int) (l5 : Int) : gx_Y gm_EX_fillSigns (0, 0) 20 [some (gx_R l0), some (gx_R l1), some (gx_I l2), some (gx_I l3), some (gx_I l4), some (gx_I l5)] [] h (fb_EX_fillSigns_20 N11 N20 h l0 l1 l2 l3 l4 l5) := by
  unfold fb_EX_fillSigns_20
  refine gx_iload (i := 5) (by decide +kernel) rfl ?_
  refine gx_iload_n (i := 3) (by decide +kernel) rfl ?_
  refine gx_g (fun c1 => ?_)
  refine gx_g (fun c2 => ?_)
  refine gx_icmp_ge (off := 30) (tgt := 53) c1 c2 (by decide +kernel) (by decide) ?_ ?_
  · refine gx_iinc (i := 4) (n := 1) (l' := [some (gx_R _), some (gx_R _), some (gx_I _), some (gx_I _), some (gx_I _), some (gx_I _)]) (by decide +kernel) rfl rfl (Nat.le_of_ble_eq_true rfl) (by decide) rfl ?_
    refine gx_goto (off := -45) (tgt := 11) (by decide +kernel) (by decide) ?_
    exact gx_less' (hN11 _ _ _ _ _ _) ⟨rfl, rfl, rfl, rfl, rfl, trivial⟩
  · refine gx_aload_n (i := 0) (by decide +kernel) rfl ?_
    refine gx_getr gk_ST (by decide) fl_EX_48 rfl (by decide +kernel) ?_
    refine gx_iload (i := 4) (by decide +kernel) rfl ?_
    refine gx_iload (i := 5) (by decide +kernel) rfl ?_
    refine gx_cSNi2 (Mc := gm_LE_cell) (u' := (0, 0)) (c_LE_cell _ _ _) sk_LE_cell ml_EX_104 rfl rfl ⟨by decide, by decide, by decide, by decide⟩ (Nat.le_of_ble_eq_true rfl) (by decide +kernel) (fun r4 h5 => ?_)
    refine gx_aload_n (i := 1) (by decide +kernel) rfl ?_
    refine gx_iload (i := 4) (by decide +kernel) rfl ?_
    refine gx_iload_n (i := 2) (by decide +kernel) rfl ?_
    refine gx_iload (i := 5) (by decide +kernel) rfl ?_
    refine gx_cSi4 (Mc := gm_EX_signAfter) (u' := (0, 0)) (c_EX_signAfter _ _ _ _ _) sk_EX_signAfter ml_EX_107 rfl rfl ⟨by decide, by decide, by decide, by decide⟩ (Nat.le_of_ble_eq_true rfl) (by decide +kernel) (fun r6 h7 => ?_)
    refine gx_iast (by decide +kernel) ?_
    refine gx_iinc (i := 5) (n := 1) (l' := [some (gx_R _), some (gx_R _), some (gx_I _), some (gx_I _), some (gx_I _), some (gx_I _)]) (by decide +kernel) rfl rfl (Nat.le_of_ble_eq_true rfl) (by decide) rfl ?_
    refine gx_goto (off := -30) (tgt := 20) (by decide +kernel) (by decide) ?_
    exact gx_less' (hN20 _ _ _ _ _ _ _) ⟨rfl, rfl, rfl, rfl, rfl, rfl, trivial⟩
def f_EX_fillSigns_20 (N11 : gx_H → Nat → Nat → Int → Int → Int → Option (Int × gx_H)) : Nat → gx_H → Nat → Nat → Int → Int → Int → Int → Option (Int × gx_H)
  | 0 => fun _ _ _ _ _ _ _ => none
  | fu + 1 => fb_EX_fillSigns_20 N11 (f_EX_fillSigns_20 N11 fu)
theorem y_EX_fillSigns_20 (N11 : gx_H → Nat → Nat → Int → Int → Int → Option (Int × gx_H)) (hN11 : ∀ (h : gx_H) (l0 : Nat) (l1 : Nat) (l2 : Int) (l3 : Int) (l4 : Int), gx_Y gm_EX_fillSigns (0, 0) 11 [some (gx_R l0), some (gx_R l1), some (gx_I l2), some (gx_I l3), some (gx_I l4), none] [] h (N11 h l0 l1 l2 l3 l4)) : ∀ (fu : Nat) (h : gx_H) (l0 : Nat) (l1 : Nat) (l2 : Int) (l3 : Int) (l4 : Int) (l5 : Int), gx_Y gm_EX_fillSigns (0, 0) 20 [some (gx_R l0), some (gx_R l1), some (gx_I l2), some (gx_I l3), some (gx_I l4), some (gx_I l5)] [] h (f_EX_fillSigns_20 N11 fu h l0 l1 l2 l3 l4 l5) := by
  intro fu
  induction fu with
  | zero => intro h l0 l1 l2 l3 l4 l5; exact gx_none
  | succ fu ih => intro h l0 l1 l2 l3 l4 l5; exact yb_EX_fillSigns_20 N11 hN11 (f_EX_fillSigns_20 N11 fu) ih h l0 l1 l2 l3 l4 l5
def fb_EX_fillSigns_11 (N11 : gx_H → Nat → Nat → Int → Int → Int → Option (Int × gx_H)) (h : gx_H) (l0 : Nat) (l1 : Nat) (l2 : Int) (l3 : Int) (l4 : Int) : Option (Int × gx_H) :=
  gq_g (gx_i l4) (gq_g (gx_i l3) (if l4 < l3 then f_EX_fillSigns_20 N11 gx_fu h l0 l1 l2 l3 l4 0 else some (0, h)))
set_option maxHeartbeats 4000000 in
set_option maxRecDepth 100000 in
theorem yb_EX_fillSigns_11 (N11 : gx_H → Nat → Nat → Int → Int → Int → Option (Int × gx_H)) (hN11 : ∀ (h : gx_H) (l0 : Nat) (l1 : Nat) (l2 : Int) (l3 : Int) (l4 : Int), gx_Y gm_EX_fillSigns (0, 0) 11 [some (gx_R l0), some (gx_R l1), some (gx_I l2), some (gx_I l3), some (gx_I l4), none] [] h (N11 h l0 l1 l2 l3 l4)) (h : gx_H) (l0 : Nat) (l1 : Nat) (l2 : Int) (l3 : Int) (l4 : Int) : gx_Y gm_EX_fillSigns (0, 0) 11 [some (gx_R l0), some (gx_R l1), some (gx_I l2), some (gx_I l3), some (gx_I l4), none] [] h (fb_EX_fillSigns_11 N11 h l0 l1 l2 l3 l4) := by
  unfold fb_EX_fillSigns_11
  refine gx_iload (i := 4) (by decide +kernel) rfl ?_
  refine gx_iload_n (i := 3) (by decide +kernel) rfl ?_
  refine gx_g (fun c1 => ?_)
  refine gx_g (fun c2 => ?_)
  refine gx_icmp_ge (off := 45) (tgt := 59) c1 c2 (by decide +kernel) (by decide) ?_ ?_
  · exact gx_return rfl rfl (by decide +kernel)
  · refine gx_iconst (n := 0) (by decide +kernel) ?_
    refine gx_istore (i := 5) (l' := [some (gx_R _), some (gx_R _), some (gx_I _), some (gx_I _), some (gx_I _), some (gx_I _)]) (by decide +kernel) rfl (Nat.le_of_ble_eq_true rfl) (by decide) rfl ?_
    exact gx_less' (y_EX_fillSigns_20 _ hN11 gx_fu _ _ _ _ _ _ _) ⟨rfl, rfl, rfl, rfl, rfl, rfl, trivial⟩
def f_EX_fillSigns_11 : Nat → gx_H → Nat → Nat → Int → Int → Int → Option (Int × gx_H)
  | 0 => fun _ _ _ _ _ _ => none
  | fu + 1 => fb_EX_fillSigns_11 (f_EX_fillSigns_11 fu)
theorem y_EX_fillSigns_11 : ∀ (fu : Nat) (h : gx_H) (l0 : Nat) (l1 : Nat) (l2 : Int) (l3 : Int) (l4 : Int), gx_Y gm_EX_fillSigns (0, 0) 11 [some (gx_R l0), some (gx_R l1), some (gx_I l2), some (gx_I l3), some (gx_I l4), none] [] h (f_EX_fillSigns_11 fu h l0 l1 l2 l3 l4) := by
  intro fu
  induction fu with
  | zero => intro h l0 l1 l2 l3 l4; exact gx_none
  | succ fu ih => intro h l0 l1 l2 l3 l4; exact yb_EX_fillSigns_11 (f_EX_fillSigns_11 fu) ih h l0 l1 l2 l3 l4
def f_EX_fillSigns (h : gx_H) (l0 : Nat) (l1 : Nat) (l2 : Int) : Option (Int × gx_H) :=
  gq_gr h l1 9 0 (fun o1 => gq_get h o1 8 0 (fun v2 => f_EX_fillSigns_11 gx_fu h l0 l1 l2 v2 0))
set_option maxHeartbeats 4000000 in
set_option maxRecDepth 100000 in
theorem c_EX_fillSigns (h : gx_H) (l0 : Nat) (l1 : Nat) (l2 : Int) : ∀ r h1, f_EX_fillSigns h l0 l1 l2 = some (r, h1) → gx_Met gm_EX_fillSigns [gx_R l0, gx_R l1, gx_I l2] h r h1 := by
  refine gx_enter (l := [some (gx_R l0), some (gx_R l1), some (gx_I l2), none, none, none]) (by decide) (Nat.le_of_ble_eq_true rfl) rfl ?_
  unfold f_EX_fillSigns
  refine gx_aload_n (i := 1) (by decide +kernel) rfl ?_
  refine gx_getr gk_ST (by decide) fl_EX_25 rfl (by decide +kernel) ?_
  refine gx_geti gk_SH (by decide) fl_EX_37 (Or.inl rfl) (by decide +kernel) (fun c3 => ?_)
  refine gx_istore_n (i := 3) (l' := [some (gx_R _), some (gx_R _), some (gx_I _), some (gx_I _), none, none]) (by decide +kernel) rfl (Nat.le_of_ble_eq_true rfl) (by decide) rfl ?_
  refine gx_iconst (n := 0) (by decide +kernel) ?_
  refine gx_istore (i := 4) (l' := [some (gx_R _), some (gx_R _), some (gx_I _), some (gx_I _), some (gx_I _), none]) (by decide +kernel) rfl (Nat.le_of_ble_eq_true rfl) (by decide) rfl ?_
  exact gx_less' (y_EX_fillSigns_11 gx_fu _ _ _ _ _ _) ⟨rfl, rfl, rfl, rfl, rfl, trivial⟩
def fb_EX_hasPositiveSign_2 (N2 : gx_H → Nat → Int → Int → Option (Int × gx_H)) (h : gx_H) (l0 : Nat) (l1 : Int) (l2 : Int) : Option (Int × gx_H) :=
  gq_gr h l0 9 0 (fun o1 => gq_get h o1 8 0 (fun v2 => gq_g (gx_i l2) (if l2 < v2 then gq_gr h l0 9 3 (fun o5 => gq_call (f_LE_cell h l1 l2) (fun r6 h7 => gq_ald 0 h7 o5 r6 (fun v8 => if 0 < v8 then some (1, h7) else N2 h7 l0 l1 (l2 + 1)))) else some (0, h))))
set_option maxHeartbeats 4000000 in
set_option maxRecDepth 100000 in
theorem yb_EX_hasPositiveSign_2 (N2 : gx_H → Nat → Int → Int → Option (Int × gx_H)) (hN2 : ∀ (h : gx_H) (l0 : Nat) (l1 : Int) (l2 : Int), gx_Y gm_EX_hasPositiveSign (0, 0) 2 [some (gx_R l0), some (gx_I l1), some (gx_I l2)] [] h (N2 h l0 l1 l2)) (h : gx_H) (l0 : Nat) (l1 : Int) (l2 : Int) : gx_Y gm_EX_hasPositiveSign (0, 0) 2 [some (gx_R l0), some (gx_I l1), some (gx_I l2)] [] h (fb_EX_hasPositiveSign_2 N2 h l0 l1 l2) := by
  unfold fb_EX_hasPositiveSign_2
  refine gx_iload_n (i := 2) (by decide +kernel) rfl ?_
  refine gx_aload_n (i := 0) (by decide +kernel) rfl ?_
  refine gx_getr gk_ST (by decide) fl_EX_25 rfl (by decide +kernel) ?_
  refine gx_geti gk_SH (by decide) fl_EX_37 (Or.inl rfl) (by decide +kernel) (fun c3 => ?_)
  refine gx_g (fun c4 => ?_)
  refine gx_icmp_ge (off := 24) (tgt := 34) c4 c3 (by decide +kernel) (by decide) ?_ ?_
  · refine gx_iconst (n := 0) (by decide +kernel) ?_
    exact gx_zreturn (by decide) rfl rfl (by decide +kernel)
  · refine gx_aload_n (i := 0) (by decide +kernel) rfl ?_
    refine gx_getr gk_ST (by decide) fl_EX_48 rfl (by decide +kernel) ?_
    refine gx_iload_n (i := 1) (by decide +kernel) rfl ?_
    refine gx_iload_n (i := 2) (by decide +kernel) rfl ?_
    refine gx_cSNi2 (Mc := gm_LE_cell) (u' := (0, 0)) (c_LE_cell _ _ _) sk_LE_cell ml_EX_104 rfl rfl ⟨by decide, by decide, by decide, by decide⟩ (Nat.le_of_ble_eq_true rfl) (by decide +kernel) (fun r6 h7 => ?_)
    refine gx_ialdi (by decide +kernel) (fun c9 => ?_)
    refine gx_if_le (off := 5) (tgt := 28) c9 (by decide +kernel) (by decide) ?_ ?_
    · refine gx_iinc (i := 2) (n := 1) (l' := [some (gx_R _), some (gx_I _), some (gx_I _)]) (by decide +kernel) rfl rfl (Nat.le_of_ble_eq_true rfl) (by decide) rfl ?_
      refine gx_goto (off := -29) (tgt := 2) (by decide +kernel) (by decide) ?_
      exact gx_less' (hN2 _ _ _ _) ⟨rfl, rfl, rfl, trivial⟩
    · refine gx_iconst (n := 1) (by decide +kernel) ?_
      exact gx_zreturn (by decide) rfl rfl (by decide +kernel)
def f_EX_hasPositiveSign_2 : Nat → gx_H → Nat → Int → Int → Option (Int × gx_H)
  | 0 => fun _ _ _ _ => none
  | fu + 1 => fb_EX_hasPositiveSign_2 (f_EX_hasPositiveSign_2 fu)
theorem y_EX_hasPositiveSign_2 : ∀ (fu : Nat) (h : gx_H) (l0 : Nat) (l1 : Int) (l2 : Int), gx_Y gm_EX_hasPositiveSign (0, 0) 2 [some (gx_R l0), some (gx_I l1), some (gx_I l2)] [] h (f_EX_hasPositiveSign_2 fu h l0 l1 l2) := by
  intro fu
  induction fu with
  | zero => intro h l0 l1 l2; exact gx_none
  | succ fu ih => intro h l0 l1 l2; exact yb_EX_hasPositiveSign_2 (f_EX_hasPositiveSign_2 fu) ih h l0 l1 l2
def f_EX_hasPositiveSign (h : gx_H) (l0 : Nat) (l1 : Int) : Option (Int × gx_H) :=
  f_EX_hasPositiveSign_2 gx_fu h l0 l1 0
set_option maxHeartbeats 4000000 in
set_option maxRecDepth 100000 in
theorem c_EX_hasPositiveSign (h : gx_H) (l0 : Nat) (l1 : Int) : ∀ r h1, f_EX_hasPositiveSign h l0 l1 = some (r, h1) → gx_Met gm_EX_hasPositiveSign [gx_R l0, gx_I l1] h r h1 := by
  refine gx_enter (l := [some (gx_R l0), some (gx_I l1), none]) (by decide) (Nat.le_of_ble_eq_true rfl) rfl ?_
  unfold f_EX_hasPositiveSign
  refine gx_iconst (n := 0) (by decide +kernel) ?_
  refine gx_istore_n (i := 2) (l' := [some (gx_R _), some (gx_I _), some (gx_I _)]) (by decide +kernel) rfl (Nat.le_of_ble_eq_true rfl) (by decide) rfl ?_
  exact gx_less' (y_EX_hasPositiveSign_2 gx_fu _ _ _ _) ⟨rfl, rfl, rfl, trivial⟩
def fb_EX_degreeAfter_60 (N6 : gx_H → Nat → Int → Int → Int → Int → Int → Option (Int × gx_H)) (h : gx_H) (l0 : Nat) (l1 : Int) (l2 : Int) (l3 : Int) (l4 : Int) (l5 : Int) : Option (Int × gx_H) :=
  N6 h l0 l1 l2 l3 l4 (l5 + 1)
set_option maxHeartbeats 4000000 in
set_option maxRecDepth 100000 in
theorem y_EX_degreeAfter_60 (N6 : gx_H → Nat → Int → Int → Int → Int → Int → Option (Int × gx_H)) (hN6 : ∀ (h : gx_H) (l0 : Nat) (l1 : Int) (l2 : Int) (l3 : Int) (l4 : Int) (l5 : Int), gx_Y gm_EX_degreeAfter (0, 0) 6 [some (gx_R l0), some (gx_I l1), some (gx_I l2), some (gx_I l3), some (gx_I l4), some (gx_I l5), none] [] h (N6 h l0 l1 l2 l3 l4 l5)) (h : gx_H) (l0 : Nat) (l1 : Int) (l2 : Int) (l3 : Int) (l4 : Int) (l5 : Int) : gx_Y gm_EX_degreeAfter (0, 0) 60 [some (gx_R l0), some (gx_I l1), some (gx_I l2), some (gx_I l3), some (gx_I l4), some (gx_I l5), none] [] h (fb_EX_degreeAfter_60 N6 h l0 l1 l2 l3 l4 l5) := by
  unfold fb_EX_degreeAfter_60
  refine gx_iinc (i := 5) (n := 1) (l' := [some (gx_R _), some (gx_I _), some (gx_I _), some (gx_I _), some (gx_I _), some (gx_I _), none]) (by decide +kernel) rfl rfl (Nat.le_of_ble_eq_true rfl) (by decide) rfl ?_
  refine gx_goto (off := -57) (tgt := 6) (by decide +kernel) (by decide) ?_
  exact gx_less' (hN6 _ _ _ _ _ _ _) ⟨rfl, rfl, rfl, rfl, rfl, rfl, trivial⟩
def fb_EX_degreeAfter_6 (N6 : gx_H → Nat → Int → Int → Int → Int → Int → Option (Int × gx_H)) (h : gx_H) (l0 : Nat) (l1 : Int) (l2 : Int) (l3 : Int) (l4 : Int) (l5 : Int) : Option (Int × gx_H) :=
  gq_gr h l0 9 0 (fun o1 => gq_get h o1 8 0 (fun v2 => gq_g (gx_i l5) (if l5 < v2 then gq_gr h l0 9 0 (fun o10 => gq_gr h o10 8 1 (fun o11 => gq_call (f_LE_cell h l5 l1) (fun r12 h13 => gq_ald 0 h13 o11 r12 (fun v14 => gq_g (gx_i (l3 * v14)) (if 0 < (l3 * v14) then gq_gr h13 l0 9 4 (fun o17 => gq_call (f_LE_cell h13 l5 l2) (fun r18 h19 => gq_ald 0 h19 o17 r18 (fun v20 => fb_EX_degreeAfter_60 N6 h19 l0 l1 l2 l3 (l4 + ((l3 * v14) * v20)) l5))) else fb_EX_degreeAfter_60 N6 h13 l0 l1 l2 l3 l4 l5))))) else gq_gr h l0 9 4 (fun o5 => gq_call (f_LE_cell h l1 l2) (fun r6 h7 => gq_ald 0 h7 o5 r6 (fun v8 => some ((l4 - v8), h7)))))))
set_option maxHeartbeats 4000000 in
set_option maxRecDepth 100000 in
theorem yb_EX_degreeAfter_6 (N6 : gx_H → Nat → Int → Int → Int → Int → Int → Option (Int × gx_H)) (hN6 : ∀ (h : gx_H) (l0 : Nat) (l1 : Int) (l2 : Int) (l3 : Int) (l4 : Int) (l5 : Int), gx_Y gm_EX_degreeAfter (0, 0) 6 [some (gx_R l0), some (gx_I l1), some (gx_I l2), some (gx_I l3), some (gx_I l4), some (gx_I l5), none] [] h (N6 h l0 l1 l2 l3 l4 l5)) (h : gx_H) (l0 : Nat) (l1 : Int) (l2 : Int) (l3 : Int) (l4 : Int) (l5 : Int) : gx_Y gm_EX_degreeAfter (0, 0) 6 [some (gx_R l0), some (gx_I l1), some (gx_I l2), some (gx_I l3), some (gx_I l4), some (gx_I l5), none] [] h (fb_EX_degreeAfter_6 N6 h l0 l1 l2 l3 l4 l5) := by
  unfold fb_EX_degreeAfter_6
  refine gx_iload (i := 5) (by decide +kernel) rfl ?_
  refine gx_aload_n (i := 0) (by decide +kernel) rfl ?_
  refine gx_getr gk_ST (by decide) fl_EX_25 rfl (by decide +kernel) ?_
  refine gx_geti gk_SH (by decide) fl_EX_37 (Or.inl rfl) (by decide +kernel) (fun c3 => ?_)
  refine gx_g (fun c4 => ?_)
  refine gx_icmp_ge (off := 51) (tgt := 66) c4 c3 (by decide +kernel) (by decide) ?_ ?_
  · refine gx_iload (i := 4) (by decide +kernel) rfl ?_
    refine gx_aload_n (i := 0) (by decide +kernel) rfl ?_
    refine gx_getr gk_ST (by decide) fl_EX_56 rfl (by decide +kernel) ?_
    refine gx_iload_n (i := 1) (by decide +kernel) rfl ?_
    refine gx_iload_n (i := 2) (by decide +kernel) rfl ?_
    refine gx_cSNi2 (Mc := gm_LE_cell) (u' := (0, 0)) (c_LE_cell _ _ _) sk_LE_cell ml_EX_104 rfl rfl ⟨by decide, by decide, by decide, by decide⟩ (Nat.le_of_ble_eq_true rfl) (by decide +kernel) (fun r6 h7 => ?_)
    refine gx_ialdi (by decide +kernel) (fun c9 => ?_)
    refine gx_isub (by decide +kernel) ?_
    exact gx_ireturn rfl rfl (by decide +kernel)
  · refine gx_iload_n (i := 3) (by decide +kernel) rfl ?_
    refine gx_aload_n (i := 0) (by decide +kernel) rfl ?_
    refine gx_getr gk_ST (by decide) fl_EX_25 rfl (by decide +kernel) ?_
    refine gx_getr gk_SH (by decide) fl_EX_101 rfl (by decide +kernel) ?_
    refine gx_iload (i := 5) (by decide +kernel) rfl ?_
    refine gx_iload_n (i := 1) (by decide +kernel) rfl ?_
    refine gx_cSNi2 (Mc := gm_LE_cell) (u' := (0, 0)) (c_LE_cell _ _ _) sk_LE_cell ml_EX_104 rfl rfl ⟨by decide, by decide, by decide, by decide⟩ (Nat.le_of_ble_eq_true rfl) (by decide +kernel) (fun r12 h13 => ?_)
    refine gx_ialdi (by decide +kernel) (fun c15 => ?_)
    refine gx_imul (by decide +kernel) ?_
    refine gx_istore (i := 6) (l' := [some (gx_R _), some (gx_I _), some (gx_I _), some (gx_I _), some (gx_I _), some (gx_I _), some (gx_I _)]) (by decide +kernel) rfl (Nat.le_of_ble_eq_true rfl) (by decide) rfl ?_
    refine gx_iload (i := 6) (by decide +kernel) rfl ?_
    refine gx_g (fun c16 => ?_)
    refine gx_if_le (off := 22) (tgt := 60) c16 (by decide +kernel) (by decide) ?_ ?_
    · exact gx_less' (y_EX_degreeAfter_60 _ hN6 _ _ _ _ _ _ _) ⟨rfl, rfl, rfl, rfl, rfl, rfl, trivial⟩
    · refine gx_iload (i := 4) (by decide +kernel) rfl ?_
      refine gx_iload (i := 6) (by decide +kernel) rfl ?_
      refine gx_aload_n (i := 0) (by decide +kernel) rfl ?_
      refine gx_getr gk_ST (by decide) fl_EX_56 rfl (by decide +kernel) ?_
      refine gx_iload (i := 5) (by decide +kernel) rfl ?_
      refine gx_iload_n (i := 2) (by decide +kernel) rfl ?_
      refine gx_cSNi2 (Mc := gm_LE_cell) (u' := (0, 0)) (c_LE_cell _ _ _) sk_LE_cell ml_EX_104 rfl rfl ⟨by decide, by decide, by decide, by decide⟩ (Nat.le_of_ble_eq_true rfl) (by decide +kernel) (fun r18 h19 => ?_)
      refine gx_ialdi (by decide +kernel) (fun c21 => ?_)
      refine gx_imul (by decide +kernel) ?_
      refine gx_iadd (by decide +kernel) ?_
      refine gx_istore (i := 4) (l' := [some (gx_R _), some (gx_I _), some (gx_I _), some (gx_I _), some (gx_I _), some (gx_I _), some (gx_I _)]) (by decide +kernel) rfl (Nat.le_of_ble_eq_true rfl) (by decide) rfl ?_
      exact gx_less' (y_EX_degreeAfter_60 _ hN6 _ _ _ _ _ _ _) ⟨rfl, rfl, rfl, rfl, rfl, rfl, trivial⟩
def f_EX_degreeAfter_6 : Nat → gx_H → Nat → Int → Int → Int → Int → Int → Option (Int × gx_H)
  | 0 => fun _ _ _ _ _ _ _ => none
  | fu + 1 => fb_EX_degreeAfter_6 (f_EX_degreeAfter_6 fu)
theorem y_EX_degreeAfter_6 : ∀ (fu : Nat) (h : gx_H) (l0 : Nat) (l1 : Int) (l2 : Int) (l3 : Int) (l4 : Int) (l5 : Int), gx_Y gm_EX_degreeAfter (0, 0) 6 [some (gx_R l0), some (gx_I l1), some (gx_I l2), some (gx_I l3), some (gx_I l4), some (gx_I l5), none] [] h (f_EX_degreeAfter_6 fu h l0 l1 l2 l3 l4 l5) := by
  intro fu
  induction fu with
  | zero => intro h l0 l1 l2 l3 l4 l5; exact gx_none
  | succ fu ih => intro h l0 l1 l2 l3 l4 l5; exact yb_EX_degreeAfter_6 (f_EX_degreeAfter_6 fu) ih h l0 l1 l2 l3 l4 l5
def f_EX_degreeAfter (h : gx_H) (l0 : Nat) (l1 : Int) (l2 : Int) (l3 : Int) : Option (Int × gx_H) :=
  f_EX_degreeAfter_6 gx_fu h l0 l1 l2 l3 0 0
set_option maxHeartbeats 4000000 in
set_option maxRecDepth 100000 in
theorem c_EX_degreeAfter (h : gx_H) (l0 : Nat) (l1 : Int) (l2 : Int) (l3 : Int) : ∀ r h1, f_EX_degreeAfter h l0 l1 l2 l3 = some (r, h1) → gx_Met gm_EX_degreeAfter [gx_R l0, gx_I l1, gx_I l2, gx_I l3] h r h1 := by
  refine gx_enter (l := [some (gx_R l0), some (gx_I l1), some (gx_I l2), some (gx_I l3), none, none, none]) (by decide) (Nat.le_of_ble_eq_true rfl) rfl ?_
  unfold f_EX_degreeAfter
  refine gx_iconst (n := 0) (by decide +kernel) ?_
  refine gx_istore (i := 4) (l' := [some (gx_R _), some (gx_I _), some (gx_I _), some (gx_I _), some (gx_I _), none, none]) (by decide +kernel) rfl (Nat.le_of_ble_eq_true rfl) (by decide) rfl ?_
  refine gx_iconst (n := 0) (by decide +kernel) ?_
  refine gx_istore (i := 5) (l' := [some (gx_R _), some (gx_I _), some (gx_I _), some (gx_I _), some (gx_I _), some (gx_I _), none]) (by decide +kernel) rfl (Nat.le_of_ble_eq_true rfl) (by decide) rfl ?_
  exact gx_less' (y_EX_degreeAfter_6 gx_fu _ _ _ _ _ _ _) ⟨rfl, rfl, rfl, rfl, rfl, rfl, trivial⟩
def fb_EX_fillDegrees_82 (N26 : gx_H → Nat → Nat → Int → Int → Int → Int → Option (Int × gx_H)) (N35 : gx_H → Nat → Nat → Int → Int → Int → Int → Int → Option (Int × gx_H)) (h : gx_H) (l0 : Nat) (l1 : Nat) (l2 : Int) (l3 : Int) (l4 : Int) (l5 : Int) (l6 : Int) (t0 : Nat) (t1 : Int) (t2 : Int) : Option (Int × gx_H) :=
  gq_ast 0 (gx_i t2) h t0 t1 t2 (fun h1 => N35 h1 l0 l1 l2 l3 l4 l5 (l6 + 1))
set_option maxHeartbeats 4000000 in
set_option maxRecDepth 100000 in
theorem y_EX_fillDegrees_82 (N26 : gx_H → Nat → Nat → Int → Int → Int → Int → Option (Int × gx_H)) (hN26 : ∀ (h : gx_H) (l0 : Nat) (l1 : Nat) (l2 : Int) (l3 : Int) (l4 : Int) (l5 : Int), gx_Y gm_EX_fillDegrees (0, 0) 26 [some (gx_R l0), some (gx_R l1), some (gx_I l2), some (gx_I l3), some (gx_I l4), some (gx_I l5), none] [] h (N26 h l0 l1 l2 l3 l4 l5)) (N35 : gx_H → Nat → Nat → Int → Int → Int → Int → Int → Option (Int × gx_H)) (hN35 : ∀ (h : gx_H) (l0 : Nat) (l1 : Nat) (l2 : Int) (l3 : Int) (l4 : Int) (l5 : Int) (l6 : Int), gx_Y gm_EX_fillDegrees (0, 0) 35 [some (gx_R l0), some (gx_R l1), some (gx_I l2), some (gx_I l3), some (gx_I l4), some (gx_I l5), some (gx_I l6)] [] h (N35 h l0 l1 l2 l3 l4 l5 l6)) (h : gx_H) (l0 : Nat) (l1 : Nat) (l2 : Int) (l3 : Int) (l4 : Int) (l5 : Int) (l6 : Int) (t0 : Nat) (t1 : Int) (t2 : Int) : gx_Y gm_EX_fillDegrees (0, 0) 82 [some (gx_R l0), some (gx_R l1), some (gx_I l2), some (gx_I l3), some (gx_I l4), some (gx_I l5), some (gx_I l6)] [gx_I t2, gx_I t1, gx_R t0] h (fb_EX_fillDegrees_82 N26 N35 h l0 l1 l2 l3 l4 l5 l6 t0 t1 t2) := by
  unfold fb_EX_fillDegrees_82
  refine gx_iast (by decide +kernel) ?_
  refine gx_iinc (i := 6) (n := 1) (l' := [some (gx_R _), some (gx_R _), some (gx_I _), some (gx_I _), some (gx_I _), some (gx_I _), some (gx_I _)]) (by decide +kernel) rfl rfl (Nat.le_of_ble_eq_true rfl) (by decide) rfl ?_
  refine gx_goto (off := -51) (tgt := 35) (by decide +kernel) (by decide) ?_
  exact gx_less' (hN35 _ _ _ _ _ _ _ _) ⟨rfl, rfl, rfl, rfl, rfl, rfl, rfl, trivial⟩
def fb_EX_fillDegrees_35 (N26 : gx_H → Nat → Nat → Int → Int → Int → Int → Option (Int × gx_H)) (N35 : gx_H → Nat → Nat → Int → Int → Int → Int → Int → Option (Int × gx_H)) (h : gx_H) (l0 : Nat) (l1 : Nat) (l2 : Int) (l3 : Int) (l4 : Int) (l5 : Int) (l6 : Int) : Option (Int × gx_H) :=
  gq_g (gx_i l6) (gq_g (gx_i l3) (if l6 < l3 then gq_gr h l0 9 4 (fun o3 => gq_call (f_LE_cell h l5 l6) (fun r4 h5 => gq_g (gx_i l5) (gq_g (gx_i l2) (if l5 = l2 then gq_call (f_EX_degreeAfter h5 l1 l2 l6 l4) (fun r13 h14 => fb_EX_fillDegrees_82 N26 N35 h14 l0 l1 l2 l3 l4 l5 l6 o3 r4 r13) else gq_gr h5 l1 9 4 (fun o8 => gq_call (f_LE_cell h5 l5 l6) (fun r9 h10 => gq_ald 0 h10 o8 r9 (fun v11 => fb_EX_fillDegrees_82 N26 N35 h10 l0 l1 l2 l3 l4 l5 l6 o3 r4 v11))))))) else N26 h l0 l1 l2 l3 l4 (l5 + 1)))
set_option maxHeartbeats 4000000 in
set_option maxRecDepth 100000 in
theorem yb_EX_fillDegrees_35 (N26 : gx_H → Nat → Nat → Int → Int → Int → Int → Option (Int × gx_H)) (hN26 : ∀ (h : gx_H) (l0 : Nat) (l1 : Nat) (l2 : Int) (l3 : Int) (l4 : Int) (l5 : Int), gx_Y gm_EX_fillDegrees (0, 0) 26 [some (gx_R l0), some (gx_R l1), some (gx_I l2), some (gx_I l3), some (gx_I l4), some (gx_I l5), none] [] h (N26 h l0 l1 l2 l3 l4 l5)) (N35 : gx_H → Nat → Nat → Int → Int → Int → Int → Int → Option (Int × gx_H)) (hN35 : ∀ (h : gx_H) (l0 : Nat) (l1 : Nat) (l2 : Int) (l3 : Int) (l4 : Int) (l5 : Int) (l6 : Int), gx_Y gm_EX_fillDegrees (0, 0) 35 [some (gx_R l0), some (gx_R l1), some (gx_I l2), some (gx_I l3), some (gx_I l4), some (gx_I l5), some (gx_I l6)] [] h (N35 h l0 l1 l2 l3 l4 l5 l6)) (h : gx_H) (l0 : Nat) (l1 : Nat) (l2 : Int) (l3 : Int) (l4 : Int) (l5 : Int) (l6 : Int) : gx_Y gm_EX_fillDegrees (0, 0) 35 [some (gx_R l0), some (gx_R l1), some (gx_I l2), some (gx_I l3), some (gx_I l4), some (gx_I l5), some (gx_I l6)] [] h (fb_EX_fillDegrees_35 N26 N35 h l0 l1 l2 l3 l4 l5 l6) := by
  unfold fb_EX_fillDegrees_35
  refine gx_iload (i := 6) (by decide +kernel) rfl ?_
  refine gx_iload_n (i := 3) (by decide +kernel) rfl ?_
  refine gx_g (fun c1 => ?_)
  refine gx_g (fun c2 => ?_)
  refine gx_icmp_ge (off := 51) (tgt := 89) c1 c2 (by decide +kernel) (by decide) ?_ ?_
  · refine gx_iinc (i := 5) (n := 1) (l' := [some (gx_R _), some (gx_R _), some (gx_I _), some (gx_I _), some (gx_I _), some (gx_I _), some (gx_I _)]) (by decide +kernel) rfl rfl (Nat.le_of_ble_eq_true rfl) (by decide) rfl ?_
    refine gx_goto (off := -66) (tgt := 26) (by decide +kernel) (by decide) ?_
    exact gx_less' (hN26 _ _ _ _ _ _ _) ⟨rfl, rfl, rfl, rfl, rfl, rfl, trivial⟩
  · refine gx_aload_n (i := 0) (by decide +kernel) rfl ?_
    refine gx_getr gk_ST (by decide) fl_EX_56 rfl (by decide +kernel) ?_
    refine gx_iload (i := 5) (by decide +kernel) rfl ?_
    refine gx_iload (i := 6) (by decide +kernel) rfl ?_
    refine gx_cSNi2 (Mc := gm_LE_cell) (u' := (0, 0)) (c_LE_cell _ _ _) sk_LE_cell ml_EX_104 rfl rfl ⟨by decide, by decide, by decide, by decide⟩ (Nat.le_of_ble_eq_true rfl) (by decide +kernel) (fun r4 h5 => ?_)
    refine gx_iload (i := 5) (by decide +kernel) rfl ?_
    refine gx_iload_n (i := 2) (by decide +kernel) rfl ?_
    refine gx_g (fun c6 => ?_)
    refine gx_g (fun c7 => ?_)
    refine gx_icmp_ne (off := 15) (tgt := 70) c6 c7 (by decide +kernel) (by decide) ?_ ?_
    · refine gx_aload_n (i := 1) (by decide +kernel) rfl ?_
      refine gx_getr gk_ST (by decide) fl_EX_56 rfl (by decide +kernel) ?_
      refine gx_iload (i := 5) (by decide +kernel) rfl ?_
      refine gx_iload (i := 6) (by decide +kernel) rfl ?_
      refine gx_cSNi2 (Mc := gm_LE_cell) (u' := (0, 0)) (c_LE_cell _ _ _) sk_LE_cell ml_EX_104 rfl rfl ⟨by decide, by decide, by decide, by decide⟩ (Nat.le_of_ble_eq_true rfl) (by decide +kernel) (fun r9 h10 => ?_)
      refine gx_ialdi (by decide +kernel) (fun c12 => ?_)
      exact gx_less' (y_EX_fillDegrees_82 _ hN26 _ hN35 _ _ _ _ _ _ _ _ _ _ _) ⟨rfl, rfl, rfl, rfl, rfl, rfl, rfl, trivial⟩
    · refine gx_aload_n (i := 1) (by decide +kernel) rfl ?_
      refine gx_iload_n (i := 2) (by decide +kernel) rfl ?_
      refine gx_iload (i := 6) (by decide +kernel) rfl ?_
      refine gx_iload (i := 4) (by decide +kernel) rfl ?_
      refine gx_cSi4 (Mc := gm_EX_degreeAfter) (u' := (0, 0)) (c_EX_degreeAfter _ _ _ _ _) sk_EX_degreeAfter ml_EX_114 rfl rfl ⟨by decide, by decide, by decide, by decide⟩ (Nat.le_of_ble_eq_true rfl) (by decide +kernel) (fun r13 h14 => ?_)
      refine gx_goto (off := 15) (tgt := 82) (by decide +kernel) (by decide) ?_
      exact gx_less' (y_EX_fillDegrees_82 _ hN26 _ hN35 _ _ _ _ _ _ _ _ _ _ _) ⟨rfl, rfl, rfl, rfl, rfl, rfl, rfl, trivial⟩
def f_EX_fillDegrees_35 (N26 : gx_H → Nat → Nat → Int → Int → Int → Int → Option (Int × gx_H)) : Nat → gx_H → Nat → Nat → Int → Int → Int → Int → Int → Option (Int × gx_H)
  | 0 => fun _ _ _ _ _ _ _ _ => none
  | fu + 1 => fb_EX_fillDegrees_35 N26 (f_EX_fillDegrees_35 N26 fu)
theorem y_EX_fillDegrees_35 (N26 : gx_H → Nat → Nat → Int → Int → Int → Int → Option (Int × gx_H)) (hN26 : ∀ (h : gx_H) (l0 : Nat) (l1 : Nat) (l2 : Int) (l3 : Int) (l4 : Int) (l5 : Int), gx_Y gm_EX_fillDegrees (0, 0) 26 [some (gx_R l0), some (gx_R l1), some (gx_I l2), some (gx_I l3), some (gx_I l4), some (gx_I l5), none] [] h (N26 h l0 l1 l2 l3 l4 l5)) : ∀ (fu : Nat) (h : gx_H) (l0 : Nat) (l1 : Nat) (l2 : Int) (l3 : Int) (l4 : Int) (l5 : Int) (l6 : Int), gx_Y gm_EX_fillDegrees (0, 0) 35 [some (gx_R l0), some (gx_R l1), some (gx_I l2), some (gx_I l3), some (gx_I l4), some (gx_I l5), some (gx_I l6)] [] h (f_EX_fillDegrees_35 N26 fu h l0 l1 l2 l3 l4 l5 l6) := by
  intro fu
  induction fu with
  | zero => intro h l0 l1 l2 l3 l4 l5 l6; exact gx_none
  | succ fu ih => intro h l0 l1 l2 l3 l4 l5 l6; exact yb_EX_fillDegrees_35 N26 hN26 (f_EX_fillDegrees_35 N26 fu) ih h l0 l1 l2 l3 l4 l5 l6
def fb_EX_fillDegrees_26 (N26 : gx_H → Nat → Nat → Int → Int → Int → Int → Option (Int × gx_H)) (h : gx_H) (l0 : Nat) (l1 : Nat) (l2 : Int) (l3 : Int) (l4 : Int) (l5 : Int) : Option (Int × gx_H) :=
  gq_g (gx_i l5) (gq_g (gx_i l3) (if l5 < l3 then f_EX_fillDegrees_35 N26 gx_fu h l0 l1 l2 l3 l4 l5 0 else some (0, h)))
set_option maxHeartbeats 4000000 in
set_option maxRecDepth 100000 in
theorem yb_EX_fillDegrees_26 (N26 : gx_H → Nat → Nat → Int → Int → Int → Int → Option (Int × gx_H)) (hN26 : ∀ (h : gx_H) (l0 : Nat) (l1 : Nat) (l2 : Int) (l3 : Int) (l4 : Int) (l5 : Int), gx_Y gm_EX_fillDegrees (0, 0) 26 [some (gx_R l0), some (gx_R l1), some (gx_I l2), some (gx_I l3), some (gx_I l4), some (gx_I l5), none] [] h (N26 h l0 l1 l2 l3 l4 l5)) (h : gx_H) (l0 : Nat) (l1 : Nat) (l2 : Int) (l3 : Int) (l4 : Int) (l5 : Int) : gx_Y gm_EX_fillDegrees (0, 0) 26 [some (gx_R l0), some (gx_R l1), some (gx_I l2), some (gx_I l3), some (gx_I l4), some (gx_I l5), none] [] h (fb_EX_fillDegrees_26 N26 h l0 l1 l2 l3 l4 l5) := by
  unfold fb_EX_fillDegrees_26
  refine gx_iload (i := 5) (by decide +kernel) rfl ?_
  refine gx_iload_n (i := 3) (by decide +kernel) rfl ?_
  refine gx_g (fun c1 => ?_)
  refine gx_g (fun c2 => ?_)
  refine gx_icmp_ge (off := 66) (tgt := 95) c1 c2 (by decide +kernel) (by decide) ?_ ?_
  · exact gx_return rfl rfl (by decide +kernel)
  · refine gx_iconst (n := 0) (by decide +kernel) ?_
    refine gx_istore (i := 6) (l' := [some (gx_R _), some (gx_R _), some (gx_I _), some (gx_I _), some (gx_I _), some (gx_I _), some (gx_I _)]) (by decide +kernel) rfl (Nat.le_of_ble_eq_true rfl) (by decide) rfl ?_
    exact gx_less' (y_EX_fillDegrees_35 _ hN26 gx_fu _ _ _ _ _ _ _ _) ⟨rfl, rfl, rfl, rfl, rfl, rfl, rfl, trivial⟩
def f_EX_fillDegrees_26 : Nat → gx_H → Nat → Nat → Int → Int → Int → Int → Option (Int × gx_H)
  | 0 => fun _ _ _ _ _ _ _ => none
  | fu + 1 => fb_EX_fillDegrees_26 (f_EX_fillDegrees_26 fu)
theorem y_EX_fillDegrees_26 : ∀ (fu : Nat) (h : gx_H) (l0 : Nat) (l1 : Nat) (l2 : Int) (l3 : Int) (l4 : Int) (l5 : Int), gx_Y gm_EX_fillDegrees (0, 0) 26 [some (gx_R l0), some (gx_R l1), some (gx_I l2), some (gx_I l3), some (gx_I l4), some (gx_I l5), none] [] h (f_EX_fillDegrees_26 fu h l0 l1 l2 l3 l4 l5) := by
  intro fu
  induction fu with
  | zero => intro h l0 l1 l2 l3 l4 l5; exact gx_none
  | succ fu ih => intro h l0 l1 l2 l3 l4 l5; exact yb_EX_fillDegrees_26 (f_EX_fillDegrees_26 fu) ih h l0 l1 l2 l3 l4 l5
def fb_EX_fillDegrees_21 (h : gx_H) (l0 : Nat) (l1 : Nat) (l2 : Int) (l3 : Int) (t0 : Int) : Option (Int × gx_H) :=
  f_EX_fillDegrees_26 gx_fu h l0 l1 l2 l3 t0 0
set_option maxHeartbeats 4000000 in
set_option maxRecDepth 100000 in
theorem y_EX_fillDegrees_21 (h : gx_H) (l0 : Nat) (l1 : Nat) (l2 : Int) (l3 : Int) (t0 : Int) : gx_Y gm_EX_fillDegrees (0, 0) 21 [some (gx_R l0), some (gx_R l1), some (gx_I l2), some (gx_I l3), none, none, none] [gx_I t0] h (fb_EX_fillDegrees_21 h l0 l1 l2 l3 t0) := by
  unfold fb_EX_fillDegrees_21
  refine gx_istore (i := 4) (l' := [some (gx_R _), some (gx_R _), some (gx_I _), some (gx_I _), some (gx_I _), none, none]) (by decide +kernel) rfl (Nat.le_of_ble_eq_true rfl) (by decide) rfl ?_
  refine gx_iconst (n := 0) (by decide +kernel) ?_
  refine gx_istore (i := 5) (l' := [some (gx_R _), some (gx_R _), some (gx_I _), some (gx_I _), some (gx_I _), some (gx_I _), none]) (by decide +kernel) rfl (Nat.le_of_ble_eq_true rfl) (by decide) rfl ?_
  exact gx_less' (y_EX_fillDegrees_26 gx_fu _ _ _ _ _ _ _) ⟨rfl, rfl, rfl, rfl, rfl, rfl, trivial⟩
def f_EX_fillDegrees (h : gx_H) (l0 : Nat) (l1 : Nat) (l2 : Int) : Option (Int × gx_H) :=
  gq_gr h l1 9 0 (fun o1 => gq_get h o1 8 0 (fun v2 => gq_call (f_EX_hasPositiveSign h l1 l2) (fun r4 h5 => gq_g (gx_i r4) (if r4 = 0 then fb_EX_fillDegrees_21 h5 l0 l1 l2 v2 1 else fb_EX_fillDegrees_21 h5 l0 l1 l2 v2 (-1)))))
set_option maxHeartbeats 4000000 in
set_option maxRecDepth 100000 in
theorem c_EX_fillDegrees (h : gx_H) (l0 : Nat) (l1 : Nat) (l2 : Int) : ∀ r h1, f_EX_fillDegrees h l0 l1 l2 = some (r, h1) → gx_Met gm_EX_fillDegrees [gx_R l0, gx_R l1, gx_I l2] h r h1 := by
  refine gx_enter (l := [some (gx_R l0), some (gx_R l1), some (gx_I l2), none, none, none, none]) (by decide) (Nat.le_of_ble_eq_true rfl) rfl ?_
  unfold f_EX_fillDegrees
  refine gx_aload_n (i := 1) (by decide +kernel) rfl ?_
  refine gx_getr gk_ST (by decide) fl_EX_25 rfl (by decide +kernel) ?_
  refine gx_geti gk_SH (by decide) fl_EX_37 (Or.inl rfl) (by decide +kernel) (fun c3 => ?_)
  refine gx_istore_n (i := 3) (l' := [some (gx_R _), some (gx_R _), some (gx_I _), some (gx_I _), none, none, none]) (by decide +kernel) rfl (Nat.le_of_ble_eq_true rfl) (by decide) rfl ?_
  refine gx_aload_n (i := 1) (by decide +kernel) rfl ?_
  refine gx_iload_n (i := 2) (by decide +kernel) rfl ?_
  refine gx_cSi2 (Mc := gm_EX_hasPositiveSign) (u' := (0, 0)) (c_EX_hasPositiveSign _ _ _) sk_EX_hasPositiveSign ml_EX_111 rfl rfl ⟨by decide, by decide, by decide, by decide⟩ (Nat.le_of_ble_eq_true rfl) (by decide +kernel) (fun r4 h5 => ?_)
  refine gx_g (fun c6 => ?_)
  refine gx_if_eq (off := 7) (tgt := 20) c6 (by decide +kernel) (by decide) ?_ ?_
  · refine gx_iconst (n := 1) (by decide +kernel) ?_
    exact gx_less' (y_EX_fillDegrees_21 _ _ _ _ _ _) ⟨rfl, rfl, rfl, rfl, trivial⟩
  · refine gx_iconst (n := (-1)) (by decide +kernel) ?_
    refine gx_goto (off := 4) (tgt := 21) (by decide +kernel) (by decide) ?_
    exact gx_less' (y_EX_fillDegrees_21 _ _ _ _ _ _) ⟨rfl, rfl, rfl, rfl, trivial⟩
def f_EX_fill (h : gx_H) (l0 : Nat) (l1 : Nat) (l2 : Nat) (l3 : Int) : Option (Int × gx_H) :=
  gq_cv h l0 3 (f_EX_findWorth h l0 l2 l3) (fun r1 h2 => gq_g (gx_i r1) (if r1 = 0 then some (0, h2) else gq_gr h2 l1 9 0 (fun o4 => gq_gr h2 l2 9 0 (fun o5 => gq_cv h2 o4 8 (f_SH_becomeExchanged h2 o4 o5 l3) (fun r6 h7 => gq_g (gx_i r6) (if r6 = 0 then some (0, h7) else gq_gr h7 l2 9 0 (fun o9 => gq_get h7 o9 8 0 (fun v10 => gq_call (f_EX_fillSigns h7 l1 l2 l3) (fun r12 h13 => gq_call (f_EX_fillDegrees h13 l1 l2 l3) (fun r14 h15 => gq_gr h15 l1 9 3 (fun o16 => gq_call (f_LE_hasNumberBeyond h15 o16 v10) (fun r17 h18 => gq_g (gx_i r17) (if r17 = 0 then gq_gr h18 l1 9 4 (fun o20 => gq_call (f_LE_hasNumberBeyond h18 o20 v10) (fun r21 h22 => gq_g (gx_i r21) (if r21 = 0 then gq_gr h22 l2 9 1 (fun o24 => gq_gr h22 l1 9 1 (fun o25 => gq_copy h22 o24 0 o25 0 4 (fun h26 => gq_gr h26 l2 9 2 (fun o27 => gq_gr h26 l1 9 2 (fun o28 => gq_copy h26 o27 0 o28 0 4 (fun h29 => gq_gr h29 l1 9 1 (fun o30 => gq_gr h29 l0 3 0 (fun o31 => gq_get h29 o31 4 0 (fun v32 => gq_ast 0 (gx_i v32) h29 o30 l3 v32 (fun h34 => gq_gr h34 l1 9 2 (fun o35 => gq_gr h34 l0 3 0 (fun o36 => gq_get h34 o36 4 1 (fun v37 => gq_ast 0 (gx_i v37) h34 o35 l3 v37 (fun h39 => gq_get h39 l2 9 5 (fun v40 => gq_g (gx_i (v40 + 1)) (gq_put (gx_i (if 99999 < (v40 + 1) then 99999 else (v40 + 1))) h39 l1 9 5 (if 99999 < (v40 + 1) then 99999 else (v40 + 1)) (fun h43 => some (1, h43)))))))))))))))))) else some (0, h22)))) else some (0, h18))))))))))))))
set_option maxHeartbeats 4000000 in
set_option maxRecDepth 100000 in
theorem c_EX_fill (h : gx_H) (l0 : Nat) (l1 : Nat) (l2 : Nat) (l3 : Int) : ∀ r h1, f_EX_fill h l0 l1 l2 l3 = some (r, h1) → gx_Met gm_EX_fill [gx_R l0, gx_R l1, gx_R l2, gx_I l3] h r h1 := by
  refine gx_enter (l := [some (gx_R l0), some (gx_R l1), some (gx_R l2), some (gx_I l3), none]) (by decide) (Nat.le_of_ble_eq_true rfl) rfl ?_
  unfold f_EX_fill
  refine gx_aload_n (i := 0) (by decide +kernel) rfl ?_
  refine gx_aload_n (i := 2) (by decide +kernel) rfl ?_
  refine gx_iload_n (i := 3) (by decide +kernel) rfl ?_
  refine gx_cVi2 (Mc := gm_EX_findWorth) (u' := (0, 0)) (c_EX_findWorth _ _ _ _) vk_EX_findWorth ml_EX_21 rfl rfl ⟨by decide, by decide, by decide, by decide⟩ (Nat.le_of_ble_eq_true rfl) (by decide +kernel) (fun r1 h2 => ?_)
  refine gx_g (fun c3 => ?_)
  refine gx_if_eq (off := 18) (tgt := 24) c3 (by decide +kernel) (by decide) ?_ ?_
  · refine gx_iconst (n := 0) (by decide +kernel) ?_
    exact gx_zreturn (by decide) rfl rfl (by decide +kernel)
  · refine gx_aload_n (i := 1) (by decide +kernel) rfl ?_
    refine gx_getr gk_ST (by decide) fl_EX_25 rfl (by decide +kernel) ?_
    refine gx_aload_n (i := 2) (by decide +kernel) rfl ?_
    refine gx_getr gk_ST (by decide) fl_EX_25 rfl (by decide +kernel) ?_
    refine gx_iload_n (i := 3) (by decide +kernel) rfl ?_
    refine gx_cVi2 (Mc := gm_SH_becomeExchanged) (u' := (0, 0)) (c_SH_becomeExchanged _ _ _ _) vk_SH_becomeExchanged ml_EX_31 rfl rfl ⟨by decide, by decide, by decide, by decide⟩ (Nat.le_of_ble_eq_true rfl) (by decide +kernel) (fun r6 h7 => ?_)
    refine gx_g (fun c8 => ?_)
    refine gx_if_ne (off := 5) (tgt := 26) c8 (by decide +kernel) (by decide) ?_ ?_
    · refine gx_aload_n (i := 2) (by decide +kernel) rfl ?_
      refine gx_getr gk_ST (by decide) fl_EX_25 rfl (by decide +kernel) ?_
      refine gx_geti gk_SH (by decide) fl_EX_37 (Or.inl rfl) (by decide +kernel) (fun c11 => ?_)
      refine gx_istore (i := 4) (l' := [some (gx_R _), some (gx_R _), some (gx_R _), some (gx_I _), some (gx_I _)]) (by decide +kernel) rfl (Nat.le_of_ble_eq_true rfl) (by decide) rfl ?_
      refine gx_aload_n (i := 1) (by decide +kernel) rfl ?_
      refine gx_aload_n (i := 2) (by decide +kernel) rfl ?_
      refine gx_iload_n (i := 3) (by decide +kernel) rfl ?_
      refine gx_cSv3 (Mc := gm_EX_fillSigns) (u' := (0, 0)) (c_EX_fillSigns _ _ _ _) sk_EX_fillSigns ml_EX_41 rfl rfl ⟨by decide, by decide, by decide, by decide⟩ (Nat.le_of_ble_eq_true rfl) (by decide +kernel) (fun r12 h13 => ?_)
      refine gx_aload_n (i := 1) (by decide +kernel) rfl ?_
      refine gx_aload_n (i := 2) (by decide +kernel) rfl ?_
      refine gx_iload_n (i := 3) (by decide +kernel) rfl ?_
      refine gx_cSv3 (Mc := gm_EX_fillDegrees) (u' := (0, 0)) (c_EX_fillDegrees _ _ _ _) sk_EX_fillDegrees ml_EX_45 rfl rfl ⟨by decide, by decide, by decide, by decide⟩ (Nat.le_of_ble_eq_true rfl) (by decide +kernel) (fun r14 h15 => ?_)
      refine gx_aload_n (i := 1) (by decide +kernel) rfl ?_
      refine gx_getr gk_ST (by decide) fl_EX_48 rfl (by decide +kernel) ?_
      refine gx_iload (i := 4) (by decide +kernel) rfl ?_
      refine gx_cSNi2 (Mc := gm_LE_hasNumberBeyond) (u' := (0, 0)) (c_LE_hasNumberBeyond _ _ _) sk_LE_hasNumberBeyond ml_EX_52 rfl rfl ⟨by decide, by decide, by decide, by decide⟩ (Nat.le_of_ble_eq_true rfl) (by decide +kernel) (fun r17 h18 => ?_)
      refine gx_g (fun c19 => ?_)
      refine gx_if_ne (off := 15) (tgt := 71) c19 (by decide +kernel) (by decide) ?_ ?_
      · refine gx_iconst (n := 0) (by decide +kernel) ?_
        exact gx_zreturn (by decide) rfl rfl (by decide +kernel)
      · refine gx_aload_n (i := 1) (by decide +kernel) rfl ?_
        refine gx_getr gk_ST (by decide) fl_EX_56 rfl (by decide +kernel) ?_
        refine gx_iload (i := 4) (by decide +kernel) rfl ?_
        refine gx_cSNi2 (Mc := gm_LE_hasNumberBeyond) (u' := (0, 0)) (c_LE_hasNumberBeyond _ _ _) sk_LE_hasNumberBeyond ml_EX_52 rfl rfl ⟨by decide, by decide, by decide, by decide⟩ (Nat.le_of_ble_eq_true rfl) (by decide +kernel) (fun r21 h22 => ?_)
        refine gx_g (fun c23 => ?_)
        refine gx_if_eq (off := 5) (tgt := 73) c23 (by decide +kernel) (by decide) ?_ ?_
        · refine gx_aload_n (i := 2) (by decide +kernel) rfl ?_
          refine gx_getr gk_ST (by decide) fl_EX_59 rfl (by decide +kernel) ?_
          refine gx_iconst (n := 0) (by decide +kernel) ?_
          refine gx_aload_n (i := 1) (by decide +kernel) rfl ?_
          refine gx_getr gk_ST (by decide) fl_EX_59 rfl (by decide +kernel) ?_
          refine gx_iconst (n := 0) (by decide +kernel) ?_
          refine gx_iconst (n := 4) (by decide +kernel) ?_
          refine gx_copy ml_EX_62 (by decide) (Nat.le_of_ble_eq_true rfl) (by decide +kernel) ?_
          refine gx_aload_n (i := 2) (by decide +kernel) rfl ?_
          refine gx_getr gk_ST (by decide) fl_EX_68 rfl (by decide +kernel) ?_
          refine gx_iconst (n := 0) (by decide +kernel) ?_
          refine gx_aload_n (i := 1) (by decide +kernel) rfl ?_
          refine gx_getr gk_ST (by decide) fl_EX_68 rfl (by decide +kernel) ?_
          refine gx_iconst (n := 0) (by decide +kernel) ?_
          refine gx_iconst (n := 4) (by decide +kernel) ?_
          refine gx_copy ml_EX_62 (by decide) (Nat.le_of_ble_eq_true rfl) (by decide +kernel) ?_
          refine gx_aload_n (i := 1) (by decide +kernel) rfl ?_
          refine gx_getr gk_ST (by decide) fl_EX_59 rfl (by decide +kernel) ?_
          refine gx_iload_n (i := 3) (by decide +kernel) rfl ?_
          refine gx_aload_n (i := 0) (by decide +kernel) rfl ?_
          refine gx_getr gk_EX (by decide) fl_EX_12 rfl (by decide +kernel) ?_
          refine gx_getL gk_FR (by decide) fl_EX_71 rfl (by decide +kernel) (fun c33 => ?_)
          refine gx_l2i (by decide +kernel) ?_
          refine gx_iast (by decide +kernel) ?_
          refine gx_aload_n (i := 1) (by decide +kernel) rfl ?_
          refine gx_getr gk_ST (by decide) fl_EX_68 rfl (by decide +kernel) ?_
          refine gx_iload_n (i := 3) (by decide +kernel) rfl ?_
          refine gx_aload_n (i := 0) (by decide +kernel) rfl ?_
          refine gx_getr gk_EX (by decide) fl_EX_12 rfl (by decide +kernel) ?_
          refine gx_getL gk_FR (by decide) fl_EX_74 rfl (by decide +kernel) (fun c38 => ?_)
          refine gx_l2i (by decide +kernel) ?_
          refine gx_iast (by decide +kernel) ?_
          refine gx_aload_n (i := 1) (by decide +kernel) rfl ?_
          refine gx_aload_n (i := 2) (by decide +kernel) rfl ?_
          refine gx_geti gk_ST (by decide) fl_EX_76 (Or.inl rfl) (by decide +kernel) (fun c41 => ?_)
          refine gx_iconst (n := 1) (by decide +kernel) ?_
          refine gx_iadd (by decide +kernel) ?_
          refine gx_ldc (a := 99999) kc_EX_79 (by decide +kernel) ?_
          refine gx_g (fun c42 => ?_)
          refine gx_min c42 (by decide) ml_EX_80 (by decide) (Nat.le_of_ble_eq_true rfl) ⟨by decide, by decide⟩ (by decide +kernel) ?_
          refine gx_puti gk_ST (by decide) fl_EX_76 rfl rfl (by decide +kernel) ?_
          refine gx_iconst (n := 1) (by decide +kernel) ?_
          exact gx_zreturn (by decide) rfl rfl (by decide +kernel)
        · refine gx_iconst (n := 0) (by decide +kernel) ?_
          exact gx_zreturn (by decide) rfl rfl (by decide +kernel)
    · refine gx_iconst (n := 0) (by decide +kernel) ?_
      exact gx_zreturn (by decide) rfl rfl (by decide +kernel)
def fb_LE_exchangesIntoSpare_33 (h : gx_H) : Option (Int × gx_H) :=
  some (0, h)
set_option maxHeartbeats 4000000 in
set_option maxRecDepth 100000 in
theorem y_LE_exchangesIntoSpare_33 (h : gx_H) : gx_Y gm_LE_exchangesIntoSpare (0, 0) 33 [none, none] [] h (fb_LE_exchangesIntoSpare_33 h) := by
  unfold fb_LE_exchangesIntoSpare_33
  refine gx_iconst (n := 0) (by decide +kernel) ?_
  exact gx_zreturn (by decide) rfl rfl (by decide +kernel)
def f_LE_exchangesIntoSpare (h : gx_H) (l0 : Nat) (l1 : Int) : Option (Int × gx_H) :=
  gq_gr h l0 0 1 (fun o1 => gq_get h o1 7 0 (fun v2 => if v2 = 0 then fb_LE_exchangesIntoSpare_33 h  else gq_gr h l0 0 2 (fun o4 => gq_gr h l0 0 14 (fun o5 => gq_gr h l0 0 13 (fun o6 => gq_cv h o4 3 (f_EX_fill h o4 o5 o6 l1) (fun r7 h8 => gq_g (gx_i r7) (if r7 = 0 then fb_LE_exchangesIntoSpare_33 h8  else some (1, h8))))))))
set_option maxHeartbeats 4000000 in
set_option maxRecDepth 100000 in
theorem c_LE_exchangesIntoSpare (h : gx_H) (l0 : Nat) (l1 : Int) : ∀ r h1, f_LE_exchangesIntoSpare h l0 l1 = some (r, h1) → gx_Met gm_LE_exchangesIntoSpare [gx_R l0, gx_I l1] h r h1 := by
  refine gx_enter (l := [some (gx_R l0), some (gx_I l1)]) (by decide) (Nat.le_of_ble_eq_true rfl) rfl ?_
  unfold f_LE_exchangesIntoSpare
  refine gx_aload_n (i := 0) (by decide +kernel) rfl ?_
  refine gx_getr gk_LE (by decide) fl_LE_19 rfl (by decide +kernel) ?_
  refine gx_geti gk_SC (by decide) fl_LE_143 (Or.inr rfl) (by decide +kernel) (fun c3 => ?_)
  refine gx_if_eq (off := 26) (tgt := 33) c3 (by decide +kernel) (by decide) ?_ ?_
  · exact gx_less' (y_LE_exchangesIntoSpare_33 _) trivial
  · refine gx_aload_n (i := 0) (by decide +kernel) rfl ?_
    refine gx_getr gk_LE (by decide) fl_LE_26 rfl (by decide +kernel) ?_
    refine gx_aload_n (i := 0) (by decide +kernel) rfl ?_
    refine gx_getr gk_LE (by decide) fl_LE_90 rfl (by decide +kernel) ?_
    refine gx_aload_n (i := 0) (by decide +kernel) rfl ?_
    refine gx_getr gk_LE (by decide) fl_LE_87 rfl (by decide +kernel) ?_
    refine gx_iload_n (i := 1) (by decide +kernel) rfl ?_
    refine gx_cVi3 (Mc := gm_EX_fill) (u' := (0, 0)) (c_EX_fill _ _ _ _ _) vk_EX_fill ml_LE_279 rfl rfl ⟨by decide, by decide, by decide, by decide⟩ (Nat.le_of_ble_eq_true rfl) (by decide +kernel) (fun r7 h8 => ?_)
    refine gx_g (fun c9 => ?_)
    refine gx_if_eq (off := 7) (tgt := 33) c9 (by decide +kernel) (by decide) ?_ ?_
    · exact gx_less' (y_LE_exchangesIntoSpare_33 _) trivial
    · refine gx_iconst (n := 1) (by decide +kernel) ?_
      refine gx_goto (off := 4) (tgt := 34) (by decide +kernel) (by decide) ?_
      exact gx_zreturn (by decide) rfl rfl (by decide +kernel)
def f_LE_letter (h : gx_H) (l0 : Nat) (l1 : Int) (l2 : Int) : Option (Int × gx_H) :=
  gq_cv h l0 0 (f_LE_isNoLetter h l0 l1) (fun r1 h2 => gq_g (gx_i r1) (if r1 = 0 then gq_g (gx_i l2) (if l2 = 0 then gq_gr h2 l0 0 13 (fun o6 => gq_gr h2 o6 9 1 (fun o7 => gq_ald 0 h2 o7 l1 (fun v8 => some (v8, h2)))) else if l2 = 1 then gq_gr h2 l0 0 13 (fun o11 => gq_gr h2 o11 9 2 (fun o12 => gq_ald 0 h2 o12 l1 (fun v13 => some (v13, h2)))) else if l2 = 2 then gq_gr h2 l0 0 1 (fun o16 => gq_get h2 o16 7 0 (fun v17 => if v17 = 0 then some ((-1), h2) else gq_gr h2 l0 0 1 (fun o19 => gq_gr h2 o19 7 1 (fun o20 => gq_ald 0 h2 o20 l1 (fun v21 => some (v21, h2)))))) else if l2 = 3 then gq_gr h2 l0 0 13 (fun o24 => gq_gr h2 o24 9 0 (fun o25 => gq_cv h2 o25 8 (f_SH_boundTo h2 o25 l1) (fun r26 h27 => some (r26, h27)))) else if l2 = 4 then gq_cv h2 l0 0 (f_LE_placeNow h2 l0 l1) (fun r29 h30 => some (r29, h30)) else if l2 = 5 then gq_cv h2 l0 0 (f_LE_exchangesIntoSpare h2 l0 l1) (fun r32 h33 => gq_g (gx_i r32) (if r32 = 0 then some ((-1), h33) else gq_gr h33 l0 0 14 (fun o35 => gq_gr h33 o35 9 1 (fun o36 => gq_ald 0 h33 o36 l1 (fun v37 => some (v37, h33)))))) else if l2 = 6 then gq_cv h2 l0 0 (f_LE_exchangesIntoSpare h2 l0 l1) (fun r40 h41 => gq_g (gx_i r40) (if r40 = 0 then some ((-1), h41) else gq_gr h41 l0 0 14 (fun o43 => gq_gr h41 o43 9 2 (fun o44 => gq_ald 0 h41 o44 l1 (fun v45 => some (v45, h41)))))) else some ((-1000000002), h2)) else some ((-1000000001), h2)))
set_option maxHeartbeats 4000000 in
set_option maxRecDepth 100000 in
theorem c_LE_letter (h : gx_H) (l0 : Nat) (l1 : Int) (l2 : Int) : ∀ r h1, f_LE_letter h l0 l1 l2 = some (r, h1) → gx_Met gm_LE_letter [gx_R l0, gx_I l1, gx_I l2] h r h1 := by
  refine gx_enter (l := [some (gx_R l0), some (gx_I l1), some (gx_I l2)]) (by decide) (Nat.le_of_ble_eq_true rfl) rfl ?_
  unfold f_LE_letter
  refine gx_aload_n (i := 0) (by decide +kernel) rfl ?_
  refine gx_iload_n (i := 1) (by decide +kernel) rfl ?_
  refine gx_cVi1 (Mc := gm_LE_isNoLetter) (u' := (0, 0)) (c_LE_isNoLetter _ _ _) vk_LE_isNoLetter ml_LE_169 rfl rfl ⟨by decide, by decide, by decide, by decide⟩ (Nat.le_of_ble_eq_true rfl) (by decide +kernel) (fun r1 h2 => ?_)
  refine gx_g (fun c3 => ?_)
  refine gx_if_eq (off := 6) (tgt := 11) c3 (by decide +kernel) (by decide) ?_ ?_
  · refine gx_iload_n (i := 2) (by decide +kernel) rfl ?_
    refine gx_g (fun c4 => ?_)
    refine gx_ite (fun c5 => ?_) (fun c5 => ?_)
    · refine gx_swIn (dflt := 150) (lo := 0) (hi := 6) (offs := #[44, 54, 64, 88, 100, 106, 128]) (len := 44) (off := 44) (tgt := 56) c4 (by decide +kernel) (by rw [c5]; decide) (by rw [c5]; decide) (by rw [c5]; decide) (by decide) ?_
      refine gx_aload_n (i := 0) (by decide +kernel) rfl ?_
      refine gx_getr gk_LE (by decide) fl_LE_87 rfl (by decide +kernel) ?_
      refine gx_getr gk_ST (by decide) fl_LE_180 rfl (by decide +kernel) ?_
      refine gx_iload_n (i := 1) (by decide +kernel) rfl ?_
      refine gx_ialdi (by decide +kernel) (fun c9 => ?_)
      exact gx_ireturn rfl rfl (by decide +kernel)
    · refine gx_ite (fun c10 => ?_) (fun c10 => ?_)
      · refine gx_swIn (dflt := 150) (lo := 0) (hi := 6) (offs := #[44, 54, 64, 88, 100, 106, 128]) (len := 44) (off := 54) (tgt := 66) c4 (by decide +kernel) (by rw [c10]; decide) (by rw [c10]; decide) (by rw [c10]; decide) (by decide) ?_
        refine gx_aload_n (i := 0) (by decide +kernel) rfl ?_
        refine gx_getr gk_LE (by decide) fl_LE_87 rfl (by decide +kernel) ?_
        refine gx_getr gk_ST (by decide) fl_LE_183 rfl (by decide +kernel) ?_
        refine gx_iload_n (i := 1) (by decide +kernel) rfl ?_
        refine gx_ialdi (by decide +kernel) (fun c14 => ?_)
        exact gx_ireturn rfl rfl (by decide +kernel)
      · refine gx_ite (fun c15 => ?_) (fun c15 => ?_)
        · refine gx_swIn (dflt := 150) (lo := 0) (hi := 6) (offs := #[44, 54, 64, 88, 100, 106, 128]) (len := 44) (off := 64) (tgt := 76) c4 (by decide +kernel) (by rw [c15]; decide) (by rw [c15]; decide) (by rw [c15]; decide) (by decide) ?_
          refine gx_aload_n (i := 0) (by decide +kernel) rfl ?_
          refine gx_getr gk_LE (by decide) fl_LE_19 rfl (by decide +kernel) ?_
          refine gx_geti gk_SC (by decide) fl_LE_143 (Or.inr rfl) (by decide +kernel) (fun c18 => ?_)
          refine gx_if_eq (off := 15) (tgt := 98) c18 (by decide +kernel) (by decide) ?_ ?_
          · refine gx_iconst (n := (-1)) (by decide +kernel) ?_
            exact gx_ireturn rfl rfl (by decide +kernel)
          · refine gx_aload_n (i := 0) (by decide +kernel) rfl ?_
            refine gx_getr gk_LE (by decide) fl_LE_19 rfl (by decide +kernel) ?_
            refine gx_getr gk_SC (by decide) fl_LE_186 rfl (by decide +kernel) ?_
            refine gx_iload_n (i := 1) (by decide +kernel) rfl ?_
            refine gx_ialdi (by decide +kernel) (fun c22 => ?_)
            refine gx_goto (off := 4) (tgt := 99) (by decide +kernel) (by decide) ?_
            exact gx_ireturn rfl rfl (by decide +kernel)
        · refine gx_ite (fun c23 => ?_) (fun c23 => ?_)
          · refine gx_swIn (dflt := 150) (lo := 0) (hi := 6) (offs := #[44, 54, 64, 88, 100, 106, 128]) (len := 44) (off := 88) (tgt := 100) c4 (by decide +kernel) (by rw [c23]; decide) (by rw [c23]; decide) (by rw [c23]; decide) (by decide) ?_
            refine gx_aload_n (i := 0) (by decide +kernel) rfl ?_
            refine gx_getr gk_LE (by decide) fl_LE_87 rfl (by decide +kernel) ?_
            refine gx_getr gk_ST (by decide) fl_LE_108 rfl (by decide +kernel) ?_
            refine gx_iload_n (i := 1) (by decide +kernel) rfl ?_
            refine gx_cVi1 (Mc := gm_SH_boundTo) (u' := (0, 0)) (c_SH_boundTo _ _ _) vk_SH_boundTo ml_LE_189 rfl rfl ⟨by decide, by decide, by decide, by decide⟩ (Nat.le_of_ble_eq_true rfl) (by decide +kernel) (fun r26 h27 => ?_)
            exact gx_ireturn rfl rfl (by decide +kernel)
          · refine gx_ite (fun c28 => ?_) (fun c28 => ?_)
            · refine gx_swIn (dflt := 150) (lo := 0) (hi := 6) (offs := #[44, 54, 64, 88, 100, 106, 128]) (len := 44) (off := 100) (tgt := 112) c4 (by decide +kernel) (by rw [c28]; decide) (by rw [c28]; decide) (by rw [c28]; decide) (by decide) ?_
              refine gx_aload_n (i := 0) (by decide +kernel) rfl ?_
              refine gx_iload_n (i := 1) (by decide +kernel) rfl ?_
              refine gx_cVi1 (Mc := gm_LE_placeNow) (u' := (0, 0)) (c_LE_placeNow _ _ _) vk_LE_placeNow ml_LE_193 rfl rfl ⟨by decide, by decide, by decide, by decide⟩ (Nat.le_of_ble_eq_true rfl) (by decide +kernel) (fun r29 h30 => ?_)
              exact gx_ireturn rfl rfl (by decide +kernel)
            · refine gx_ite (fun c31 => ?_) (fun c31 => ?_)
              · refine gx_swIn (dflt := 150) (lo := 0) (hi := 6) (offs := #[44, 54, 64, 88, 100, 106, 128]) (len := 44) (off := 106) (tgt := 118) c4 (by decide +kernel) (by rw [c31]; decide) (by rw [c31]; decide) (by rw [c31]; decide) (by decide) ?_
                refine gx_aload_n (i := 0) (by decide +kernel) rfl ?_
                refine gx_iload_n (i := 1) (by decide +kernel) rfl ?_
                refine gx_cVi1 (Mc := gm_LE_exchangesIntoSpare) (u' := (0, 0)) (c_LE_exchangesIntoSpare _ _ _) vk_LE_exchangesIntoSpare ml_LE_196 rfl rfl ⟨by decide, by decide, by decide, by decide⟩ (Nat.le_of_ble_eq_true rfl) (by decide +kernel) (fun r32 h33 => ?_)
                refine gx_g (fun c34 => ?_)
                refine gx_if_eq (off := 15) (tgt := 138) c34 (by decide +kernel) (by decide) ?_ ?_
                · refine gx_iconst (n := (-1)) (by decide +kernel) ?_
                  exact gx_ireturn rfl rfl (by decide +kernel)
                · refine gx_aload_n (i := 0) (by decide +kernel) rfl ?_
                  refine gx_getr gk_LE (by decide) fl_LE_90 rfl (by decide +kernel) ?_
                  refine gx_getr gk_ST (by decide) fl_LE_180 rfl (by decide +kernel) ?_
                  refine gx_iload_n (i := 1) (by decide +kernel) rfl ?_
                  refine gx_ialdi (by decide +kernel) (fun c38 => ?_)
                  refine gx_goto (off := 4) (tgt := 139) (by decide +kernel) (by decide) ?_
                  exact gx_ireturn rfl rfl (by decide +kernel)
              · refine gx_ite (fun c39 => ?_) (fun c39 => ?_)
                · refine gx_swIn (dflt := 150) (lo := 0) (hi := 6) (offs := #[44, 54, 64, 88, 100, 106, 128]) (len := 44) (off := 128) (tgt := 140) c4 (by decide +kernel) (by rw [c39]; decide) (by rw [c39]; decide) (by rw [c39]; decide) (by decide) ?_
                  refine gx_aload_n (i := 0) (by decide +kernel) rfl ?_
                  refine gx_iload_n (i := 1) (by decide +kernel) rfl ?_
                  refine gx_cVi1 (Mc := gm_LE_exchangesIntoSpare) (u' := (0, 0)) (c_LE_exchangesIntoSpare _ _ _) vk_LE_exchangesIntoSpare ml_LE_196 rfl rfl ⟨by decide, by decide, by decide, by decide⟩ (Nat.le_of_ble_eq_true rfl) (by decide +kernel) (fun r40 h41 => ?_)
                  refine gx_g (fun c42 => ?_)
                  refine gx_if_eq (off := 15) (tgt := 160) c42 (by decide +kernel) (by decide) ?_ ?_
                  · refine gx_iconst (n := (-1)) (by decide +kernel) ?_
                    exact gx_ireturn rfl rfl (by decide +kernel)
                  · refine gx_aload_n (i := 0) (by decide +kernel) rfl ?_
                    refine gx_getr gk_LE (by decide) fl_LE_90 rfl (by decide +kernel) ?_
                    refine gx_getr gk_ST (by decide) fl_LE_183 rfl (by decide +kernel) ?_
                    refine gx_iload_n (i := 1) (by decide +kernel) rfl ?_
                    refine gx_ialdi (by decide +kernel) (fun c46 => ?_)
                    refine gx_goto (off := 4) (tgt := 161) (by decide +kernel) (by decide) ?_
                    exact gx_ireturn rfl rfl (by decide +kernel)
                · refine gx_swOut (dflt := 150) (lo := 0) (hi := 6) (offs := #[44, 54, 64, 88, 100, 106, 128]) (len := 44) (tgt := 162) c4 (by decide +kernel) (by omega) (by decide) ?_
                  refine gx_ldc (a := (-1000000002)) kc_LE_121 (by decide +kernel) ?_
                  exact gx_ireturn rfl rfl (by decide +kernel)
  · refine gx_ldc (a := (-1000000001)) kc_LE_172 (by decide +kernel) ?_
    exact gx_ireturn rfl rfl (by decide +kernel)
def f_LE_row (h : gx_H) (l0 : Nat) (l1 : Int) (l2 : Int) (l3 : Int) : Option (Int × gx_H) :=
  gq_cv h l0 0 (f_LE_isNoLetter h l0 l1) (fun r1 h2 => gq_g (gx_i r1) (if r1 = 0 then gq_cv h2 l0 0 (f_LE_isNoLetter h2 l0 l3) (fun r4 h5 => gq_g (gx_i r4) (if r4 = 0 then gq_g (gx_i l2) (if l2 = 0 then gq_gr h5 l0 0 13 (fun o9 => gq_gr h5 o9 9 0 (fun o10 => gq_gr h5 o10 8 2 (fun o11 => gq_call (f_LE_cell h5 l1 l3) (fun r12 h13 => gq_ald 0 h13 o11 r12 (fun v14 => some ((v14 + 1000), h13)))))) else if l2 = 1 then gq_gr h5 l0 0 13 (fun o17 => gq_gr h5 o17 9 3 (fun o18 => gq_call (f_LE_cell h5 l1 l3) (fun r19 h20 => gq_ald 0 h20 o18 r19 (fun v21 => some ((v21 + 1000), h20))))) else if l2 = 2 then gq_gr h5 l0 0 13 (fun o24 => gq_gr h5 o24 9 4 (fun o25 => gq_call (f_LE_cell h5 l1 l3) (fun r26 h27 => gq_ald 0 h27 o25 r26 (fun v28 => some ((v28 + 1000), h27))))) else some ((-1000000002), h5)) else some ((-1000000002), h5))) else some ((-1000000001), h2)))
set_option maxHeartbeats 4000000 in
set_option maxRecDepth 100000 in
theorem c_LE_row (h : gx_H) (l0 : Nat) (l1 : Int) (l2 : Int) (l3 : Int) : ∀ r h1, f_LE_row h l0 l1 l2 l3 = some (r, h1) → gx_Met gm_LE_row [gx_R l0, gx_I l1, gx_I l2, gx_I l3] h r h1 := by
  refine gx_enter (l := [some (gx_R l0), some (gx_I l1), some (gx_I l2), some (gx_I l3)]) (by decide) (Nat.le_of_ble_eq_true rfl) rfl ?_
  unfold f_LE_row
  refine gx_aload_n (i := 0) (by decide +kernel) rfl ?_
  refine gx_iload_n (i := 1) (by decide +kernel) rfl ?_
  refine gx_cVi1 (Mc := gm_LE_isNoLetter) (u' := (0, 0)) (c_LE_isNoLetter _ _ _) vk_LE_isNoLetter ml_LE_169 rfl rfl ⟨by decide, by decide, by decide, by decide⟩ (Nat.le_of_ble_eq_true rfl) (by decide +kernel) (fun r1 h2 => ?_)
  refine gx_g (fun c3 => ?_)
  refine gx_if_eq (off := 6) (tgt := 11) c3 (by decide +kernel) (by decide) ?_ ?_
  · refine gx_aload_n (i := 0) (by decide +kernel) rfl ?_
    refine gx_iload_n (i := 3) (by decide +kernel) rfl ?_
    refine gx_cVi1 (Mc := gm_LE_isNoLetter) (u' := (0, 0)) (c_LE_isNoLetter _ _ _) vk_LE_isNoLetter ml_LE_169 rfl rfl ⟨by decide, by decide, by decide, by decide⟩ (Nat.le_of_ble_eq_true rfl) (by decide +kernel) (fun r4 h5 => ?_)
    refine gx_g (fun c6 => ?_)
    refine gx_if_eq (off := 6) (tgt := 22) c6 (by decide +kernel) (by decide) ?_ ?_
    · refine gx_iload_n (i := 2) (by decide +kernel) rfl ?_
      refine gx_g (fun c7 => ?_)
      refine gx_ite (fun c8 => ?_) (fun c8 => ?_)
      · refine gx_swIn (dflt := 82) (lo := 0) (hi := 2) (offs := #[25, 46, 64]) (len := 25) (off := 25) (tgt := 48) c7 (by decide +kernel) (by rw [c8]; decide) (by rw [c8]; decide) (by rw [c8]; decide) (by decide) ?_
        refine gx_aload_n (i := 0) (by decide +kernel) rfl ?_
        refine gx_getr gk_LE (by decide) fl_LE_87 rfl (by decide +kernel) ?_
        refine gx_getr gk_ST (by decide) fl_LE_108 rfl (by decide +kernel) ?_
        refine gx_getr gk_SH (by decide) fl_LE_199 rfl (by decide +kernel) ?_
        refine gx_iload_n (i := 1) (by decide +kernel) rfl ?_
        refine gx_iload_n (i := 3) (by decide +kernel) rfl ?_
        refine gx_cSi2 (Mc := gm_LE_cell) (u' := (0, 0)) (c_LE_cell _ _ _) sk_LE_cell ml_LE_176 rfl rfl ⟨by decide, by decide, by decide, by decide⟩ (Nat.le_of_ble_eq_true rfl) (by decide +kernel) (fun r12 h13 => ?_)
        refine gx_ialdi (by decide +kernel) (fun c15 => ?_)
        refine gx_sipush (n := 1000) (by decide +kernel) (by decide) ?_
        refine gx_iadd (by decide +kernel) ?_
        exact gx_ireturn rfl rfl (by decide +kernel)
      · refine gx_ite (fun c16 => ?_) (fun c16 => ?_)
        · refine gx_swIn (dflt := 82) (lo := 0) (hi := 2) (offs := #[25, 46, 64]) (len := 25) (off := 46) (tgt := 69) c7 (by decide +kernel) (by rw [c16]; decide) (by rw [c16]; decide) (by rw [c16]; decide) (by decide) ?_
          refine gx_aload_n (i := 0) (by decide +kernel) rfl ?_
          refine gx_getr gk_LE (by decide) fl_LE_87 rfl (by decide +kernel) ?_
          refine gx_getr gk_ST (by decide) fl_LE_202 rfl (by decide +kernel) ?_
          refine gx_iload_n (i := 1) (by decide +kernel) rfl ?_
          refine gx_iload_n (i := 3) (by decide +kernel) rfl ?_
          refine gx_cSi2 (Mc := gm_LE_cell) (u' := (0, 0)) (c_LE_cell _ _ _) sk_LE_cell ml_LE_176 rfl rfl ⟨by decide, by decide, by decide, by decide⟩ (Nat.le_of_ble_eq_true rfl) (by decide +kernel) (fun r19 h20 => ?_)
          refine gx_ialdi (by decide +kernel) (fun c22 => ?_)
          refine gx_sipush (n := 1000) (by decide +kernel) (by decide) ?_
          refine gx_iadd (by decide +kernel) ?_
          exact gx_ireturn rfl rfl (by decide +kernel)
        · refine gx_ite (fun c23 => ?_) (fun c23 => ?_)
          · refine gx_swIn (dflt := 82) (lo := 0) (hi := 2) (offs := #[25, 46, 64]) (len := 25) (off := 64) (tgt := 87) c7 (by decide +kernel) (by rw [c23]; decide) (by rw [c23]; decide) (by rw [c23]; decide) (by decide) ?_
            refine gx_aload_n (i := 0) (by decide +kernel) rfl ?_
            refine gx_getr gk_LE (by decide) fl_LE_87 rfl (by decide +kernel) ?_
            refine gx_getr gk_ST (by decide) fl_LE_205 rfl (by decide +kernel) ?_
            refine gx_iload_n (i := 1) (by decide +kernel) rfl ?_
            refine gx_iload_n (i := 3) (by decide +kernel) rfl ?_
            refine gx_cSi2 (Mc := gm_LE_cell) (u' := (0, 0)) (c_LE_cell _ _ _) sk_LE_cell ml_LE_176 rfl rfl ⟨by decide, by decide, by decide, by decide⟩ (Nat.le_of_ble_eq_true rfl) (by decide +kernel) (fun r26 h27 => ?_)
            refine gx_ialdi (by decide +kernel) (fun c29 => ?_)
            refine gx_sipush (n := 1000) (by decide +kernel) (by decide) ?_
            refine gx_iadd (by decide +kernel) ?_
            exact gx_ireturn rfl rfl (by decide +kernel)
          · refine gx_swOut (dflt := 82) (lo := 0) (hi := 2) (offs := #[25, 46, 64]) (len := 25) (tgt := 105) c7 (by decide +kernel) (by omega) (by decide) ?_
            refine gx_ldc (a := (-1000000002)) kc_LE_121 (by decide +kernel) ?_
            exact gx_ireturn rfl rfl (by decide +kernel)
    · refine gx_ldc (a := (-1000000002)) kc_LE_121 (by decide +kernel) ?_
      exact gx_ireturn rfl rfl (by decide +kernel)
  · refine gx_ldc (a := (-1000000001)) kc_LE_172 (by decide +kernel) ?_
    exact gx_ireturn rfl rfl (by decide +kernel)
def fb_TU_fillRanked_50 (N2 : gx_H → Nat → Nat → Int → Option (Int × gx_H)) (h : gx_H) (l0 : Nat) (l1 : Nat) (l2 : Int) (l3 : Int) (l4 : Int) : Option (Int × gx_H) :=
  gq_ast 0 (gx_i l3) h l0 l4 l3 (fun h1 => N2 h1 l0 l1 (l2 + 1))
set_option maxHeartbeats 4000000 in
set_option maxRecDepth 100000 in
theorem y_TU_fillRanked_50 (N2 : gx_H → Nat → Nat → Int → Option (Int × gx_H)) (hN2 : ∀ (h : gx_H) (l0 : Nat) (l1 : Nat) (l2 : Int), gx_Y gm_TU_fillRanked (0, 0) 2 [some (gx_R l0), some (gx_R l1), some (gx_I l2), none, none] [] h (N2 h l0 l1 l2)) (h : gx_H) (l0 : Nat) (l1 : Nat) (l2 : Int) (l3 : Int) (l4 : Int) : gx_Y gm_TU_fillRanked (0, 0) 50 [some (gx_R l0), some (gx_R l1), some (gx_I l2), some (gx_I l3), some (gx_I l4)] [] h (fb_TU_fillRanked_50 N2 h l0 l1 l2 l3 l4) := by
  unfold fb_TU_fillRanked_50
  refine gx_aload_n (i := 0) (by decide +kernel) rfl ?_
  refine gx_iload (i := 4) (by decide +kernel) rfl ?_
  refine gx_iload_n (i := 3) (by decide +kernel) rfl ?_
  refine gx_iast (by decide +kernel) ?_
  refine gx_iinc (i := 2) (n := 1) (l' := [some (gx_R _), some (gx_R _), some (gx_I _), some (gx_I _), some (gx_I _)]) (by decide +kernel) rfl rfl (Nat.le_of_ble_eq_true rfl) (by decide) rfl ?_
  refine gx_goto (off := -56) (tgt := 2) (by decide +kernel) (by decide) ?_
  exact gx_less' (hN2 _ _ _ _) ⟨rfl, rfl, rfl, trivial⟩
def fb_TU_fillRanked_19 (N2 : gx_H → Nat → Nat → Int → Option (Int × gx_H)) (N19 : gx_H → Nat → Nat → Int → Int → Int → Option (Int × gx_H)) (h : gx_H) (l0 : Nat) (l1 : Nat) (l2 : Int) (l3 : Int) (l4 : Int) : Option (Int × gx_H) :=
  gq_g (gx_i l4) (if 0 < l4 then gq_ald 0 h l0 (l4 - 1) (fun v2 => gq_g (gx_i l3) (if l3 < v2 then gq_ald 0 h l0 (l4 - 1) (fun v5 => gq_ast 0 True h l0 l4 v5 (fun h7 => N19 h7 l0 l1 l2 l3 (l4 + (-1)))) else fb_TU_fillRanked_50 N2 h l0 l1 l2 l3 l4)) else fb_TU_fillRanked_50 N2 h l0 l1 l2 l3 l4)
set_option maxHeartbeats 4000000 in
set_option maxRecDepth 100000 in
theorem yb_TU_fillRanked_19 (N2 : gx_H → Nat → Nat → Int → Option (Int × gx_H)) (hN2 : ∀ (h : gx_H) (l0 : Nat) (l1 : Nat) (l2 : Int), gx_Y gm_TU_fillRanked (0, 0) 2 [some (gx_R l0), some (gx_R l1), some (gx_I l2), none, none] [] h (N2 h l0 l1 l2)) (N19 : gx_H → Nat → Nat → Int → Int → Int → Option (Int × gx_H)) (hN19 : ∀ (h : gx_H) (l0 : Nat) (l1 : Nat) (l2 : Int) (l3 : Int) (l4 : Int), gx_Y gm_TU_fillRanked (0, 0) 19 [some (gx_R l0), some (gx_R l1), some (gx_I l2), some (gx_I l3), some (gx_I l4)] [] h (N19 h l0 l1 l2 l3 l4)) (h : gx_H) (l0 : Nat) (l1 : Nat) (l2 : Int) (l3 : Int) (l4 : Int) : gx_Y gm_TU_fillRanked (0, 0) 19 [some (gx_R l0), some (gx_R l1), some (gx_I l2), some (gx_I l3), some (gx_I l4)] [] h (fb_TU_fillRanked_19 N2 N19 h l0 l1 l2 l3 l4) := by
  unfold fb_TU_fillRanked_19
  refine gx_iload (i := 4) (by decide +kernel) rfl ?_
  refine gx_g (fun c1 => ?_)
  refine gx_if_le (off := 29) (tgt := 50) c1 (by decide +kernel) (by decide) ?_ ?_
  · exact gx_less' (y_TU_fillRanked_50 _ hN2 _ _ _ _ _ _) ⟨rfl, rfl, rfl, rfl, rfl, trivial⟩
  · refine gx_aload_n (i := 0) (by decide +kernel) rfl ?_
    refine gx_iload (i := 4) (by decide +kernel) rfl ?_
    refine gx_iconst (n := 1) (by decide +kernel) ?_
    refine gx_isub (by decide +kernel) ?_
    refine gx_ialdi (by decide +kernel) (fun c3 => ?_)
    refine gx_iload_n (i := 3) (by decide +kernel) rfl ?_
    refine gx_g (fun c4 => ?_)
    refine gx_icmp_le (off := 19) (tgt := 50) c3 c4 (by decide +kernel) (by decide) ?_ ?_
    · exact gx_less' (y_TU_fillRanked_50 _ hN2 _ _ _ _ _ _) ⟨rfl, rfl, rfl, rfl, rfl, trivial⟩
    · refine gx_aload_n (i := 0) (by decide +kernel) rfl ?_
      refine gx_iload (i := 4) (by decide +kernel) rfl ?_
      refine gx_aload_n (i := 0) (by decide +kernel) rfl ?_
      refine gx_iload (i := 4) (by decide +kernel) rfl ?_
      refine gx_iconst (n := 1) (by decide +kernel) ?_
      refine gx_isub (by decide +kernel) ?_
      refine gx_ialdi (by decide +kernel) (fun c6 => ?_)
      refine gx_iastT c6 (by decide +kernel) ?_
      refine gx_iinc (i := 4) (n := (-1)) (l' := [some (gx_R _), some (gx_R _), some (gx_I _), some (gx_I _), some (gx_I _)]) (by decide +kernel) rfl rfl (Nat.le_of_ble_eq_true rfl) (by decide) rfl ?_
      refine gx_goto (off := -28) (tgt := 19) (by decide +kernel) (by decide) ?_
      exact gx_less' (hN19 _ _ _ _ _ _) ⟨rfl, rfl, rfl, rfl, rfl, trivial⟩
def f_TU_fillRanked_19 (N2 : gx_H → Nat → Nat → Int → Option (Int × gx_H)) : Nat → gx_H → Nat → Nat → Int → Int → Int → Option (Int × gx_H)
  | 0 => fun _ _ _ _ _ _ => none
  | fu + 1 => fb_TU_fillRanked_19 N2 (f_TU_fillRanked_19 N2 fu)
theorem y_TU_fillRanked_19 (N2 : gx_H → Nat → Nat → Int → Option (Int × gx_H)) (hN2 : ∀ (h : gx_H) (l0 : Nat) (l1 : Nat) (l2 : Int), gx_Y gm_TU_fillRanked (0, 0) 2 [some (gx_R l0), some (gx_R l1), some (gx_I l2), none, none] [] h (N2 h l0 l1 l2)) : ∀ (fu : Nat) (h : gx_H) (l0 : Nat) (l1 : Nat) (l2 : Int) (l3 : Int) (l4 : Int), gx_Y gm_TU_fillRanked (0, 0) 19 [some (gx_R l0), some (gx_R l1), some (gx_I l2), some (gx_I l3), some (gx_I l4)] [] h (f_TU_fillRanked_19 N2 fu h l0 l1 l2 l3 l4) := by
  intro fu
  induction fu with
  | zero => intro h l0 l1 l2 l3 l4; exact gx_none
  | succ fu ih => intro h l0 l1 l2 l3 l4; exact yb_TU_fillRanked_19 N2 hN2 (f_TU_fillRanked_19 N2 fu) ih h l0 l1 l2 l3 l4
def fb_TU_fillRanked_2 (N2 : gx_H → Nat → Nat → Int → Option (Int × gx_H)) (h : gx_H) (l0 : Nat) (l1 : Nat) (l2 : Int) : Option (Int × gx_H) :=
  gq_get h l1 8 0 (fun v1 => gq_g (gx_i l2) (if l2 < v1 then gq_cv h l1 8 (f_SH_code h l1 l2) (fun r4 h5 => f_TU_fillRanked_19 N2 gx_fu h5 l0 l1 l2 r4 l2) else some (0, h)))
set_option maxHeartbeats 4000000 in
set_option maxRecDepth 100000 in
theorem yb_TU_fillRanked_2 (N2 : gx_H → Nat → Nat → Int → Option (Int × gx_H)) (hN2 : ∀ (h : gx_H) (l0 : Nat) (l1 : Nat) (l2 : Int), gx_Y gm_TU_fillRanked (0, 0) 2 [some (gx_R l0), some (gx_R l1), some (gx_I l2), none, none] [] h (N2 h l0 l1 l2)) (h : gx_H) (l0 : Nat) (l1 : Nat) (l2 : Int) : gx_Y gm_TU_fillRanked (0, 0) 2 [some (gx_R l0), some (gx_R l1), some (gx_I l2), none, none] [] h (fb_TU_fillRanked_2 N2 h l0 l1 l2) := by
  unfold fb_TU_fillRanked_2
  refine gx_iload_n (i := 2) (by decide +kernel) rfl ?_
  refine gx_aload_n (i := 1) (by decide +kernel) rfl ?_
  refine gx_geti gk_SH (by decide) fl_TU_40 (Or.inl rfl) (by decide +kernel) (fun c2 => ?_)
  refine gx_g (fun c3 => ?_)
  refine gx_icmp_ge (off := 54) (tgt := 61) c3 c2 (by decide +kernel) (by decide) ?_ ?_
  · exact gx_return rfl rfl (by decide +kernel)
  · refine gx_aload_n (i := 1) (by decide +kernel) rfl ?_
    refine gx_iload_n (i := 2) (by decide +kernel) rfl ?_
    refine gx_cVi1 (Mc := gm_SH_code) (u' := (0, 0)) (c_SH_code _ _ _) vk_SH_code ml_TU_48 rfl rfl ⟨by decide, by decide, by decide, by decide⟩ (Nat.le_of_ble_eq_true rfl) (by decide +kernel) (fun r4 h5 => ?_)
    refine gx_istore_n (i := 3) (l' := [some (gx_R _), some (gx_R _), some (gx_I _), some (gx_I _), none]) (by decide +kernel) rfl (Nat.le_of_ble_eq_true rfl) (by decide) rfl ?_
    refine gx_iload_n (i := 2) (by decide +kernel) rfl ?_
    refine gx_istore (i := 4) (l' := [some (gx_R _), some (gx_R _), some (gx_I _), some (gx_I _), some (gx_I _)]) (by decide +kernel) rfl (Nat.le_of_ble_eq_true rfl) (by decide) rfl ?_
    exact gx_less' (y_TU_fillRanked_19 _ hN2 gx_fu _ _ _ _ _ _) ⟨rfl, rfl, rfl, rfl, rfl, trivial⟩
def f_TU_fillRanked_2 : Nat → gx_H → Nat → Nat → Int → Option (Int × gx_H)
  | 0 => fun _ _ _ _ => none
  | fu + 1 => fb_TU_fillRanked_2 (f_TU_fillRanked_2 fu)
theorem y_TU_fillRanked_2 : ∀ (fu : Nat) (h : gx_H) (l0 : Nat) (l1 : Nat) (l2 : Int), gx_Y gm_TU_fillRanked (0, 0) 2 [some (gx_R l0), some (gx_R l1), some (gx_I l2), none, none] [] h (f_TU_fillRanked_2 fu h l0 l1 l2) := by
  intro fu
  induction fu with
  | zero => intro h l0 l1 l2; exact gx_none
  | succ fu ih => intro h l0 l1 l2; exact yb_TU_fillRanked_2 (f_TU_fillRanked_2 fu) ih h l0 l1 l2
def f_TU_fillRanked (h : gx_H) (l0 : Nat) (l1 : Nat) : Option (Int × gx_H) :=
  f_TU_fillRanked_2 gx_fu h l0 l1 0
set_option maxHeartbeats 4000000 in
set_option maxRecDepth 100000 in
theorem c_TU_fillRanked (h : gx_H) (l0 : Nat) (l1 : Nat) : ∀ r h1, f_TU_fillRanked h l0 l1 = some (r, h1) → gx_Met gm_TU_fillRanked [gx_R l0, gx_R l1] h r h1 := by
  refine gx_enter (l := [some (gx_R l0), some (gx_R l1), none, none, none]) (by decide) (Nat.le_of_ble_eq_true rfl) rfl ?_
  unfold f_TU_fillRanked
  refine gx_iconst (n := 0) (by decide +kernel) ?_
  refine gx_istore_n (i := 2) (l' := [some (gx_R _), some (gx_R _), some (gx_I _), none, none]) (by decide +kernel) rfl (Nat.le_of_ble_eq_true rfl) (by decide) rfl ?_
  exact gx_less' (y_TU_fillRanked_2 gx_fu _ _ _ _) ⟨rfl, rfl, rfl, trivial⟩
def fb_TU_areAlike_2 (N2 : gx_H → Nat → Nat → Int → Int → Option (Int × gx_H)) (h : gx_H) (l0 : Nat) (l1 : Nat) (l2 : Int) (l3 : Int) : Option (Int × gx_H) :=
  gq_g (gx_i l3) (gq_g (gx_i l2) (if l3 < l2 then gq_ald 0 h l0 l3 (fun v3 => gq_ald 0 h l1 l3 (fun v5 => if v3 = v5 then N2 h l0 l1 l2 (l3 + 1) else some (0, h))) else some (1, h)))
set_option maxHeartbeats 4000000 in
set_option maxRecDepth 100000 in
theorem yb_TU_areAlike_2 (N2 : gx_H → Nat → Nat → Int → Int → Option (Int × gx_H)) (hN2 : ∀ (h : gx_H) (l0 : Nat) (l1 : Nat) (l2 : Int) (l3 : Int), gx_Y gm_TU_areAlike (0, 0) 2 [some (gx_R l0), some (gx_R l1), some (gx_I l2), some (gx_I l3)] [] h (N2 h l0 l1 l2 l3)) (h : gx_H) (l0 : Nat) (l1 : Nat) (l2 : Int) (l3 : Int) : gx_Y gm_TU_areAlike (0, 0) 2 [some (gx_R l0), some (gx_R l1), some (gx_I l2), some (gx_I l3)] [] h (fb_TU_areAlike_2 N2 h l0 l1 l2 l3) := by
  unfold fb_TU_areAlike_2
  refine gx_iload_n (i := 3) (by decide +kernel) rfl ?_
  refine gx_iload_n (i := 2) (by decide +kernel) rfl ?_
  refine gx_g (fun c1 => ?_)
  refine gx_g (fun c2 => ?_)
  refine gx_icmp_ge (off := 20) (tgt := 24) c1 c2 (by decide +kernel) (by decide) ?_ ?_
  · refine gx_iconst (n := 1) (by decide +kernel) ?_
    exact gx_zreturn (by decide) rfl rfl (by decide +kernel)
  · refine gx_aload_n (i := 0) (by decide +kernel) rfl ?_
    refine gx_iload_n (i := 3) (by decide +kernel) rfl ?_
    refine gx_ialdi (by decide +kernel) (fun c4 => ?_)
    refine gx_aload_n (i := 1) (by decide +kernel) rfl ?_
    refine gx_iload_n (i := 3) (by decide +kernel) rfl ?_
    refine gx_ialdi (by decide +kernel) (fun c6 => ?_)
    refine gx_icmp_eq (off := 5) (tgt := 18) c4 c6 (by decide +kernel) (by decide) ?_ ?_
    · refine gx_iinc (i := 3) (n := 1) (l' := [some (gx_R _), some (gx_R _), some (gx_I _), some (gx_I _)]) (by decide +kernel) rfl rfl (Nat.le_of_ble_eq_true rfl) (by decide) rfl ?_
      refine gx_goto (off := -19) (tgt := 2) (by decide +kernel) (by decide) ?_
      exact gx_less' (hN2 _ _ _ _ _) ⟨rfl, rfl, rfl, rfl, trivial⟩
    · refine gx_iconst (n := 0) (by decide +kernel) ?_
      exact gx_zreturn (by decide) rfl rfl (by decide +kernel)
def f_TU_areAlike_2 : Nat → gx_H → Nat → Nat → Int → Int → Option (Int × gx_H)
  | 0 => fun _ _ _ _ _ => none
  | fu + 1 => fb_TU_areAlike_2 (f_TU_areAlike_2 fu)
theorem y_TU_areAlike_2 : ∀ (fu : Nat) (h : gx_H) (l0 : Nat) (l1 : Nat) (l2 : Int) (l3 : Int), gx_Y gm_TU_areAlike (0, 0) 2 [some (gx_R l0), some (gx_R l1), some (gx_I l2), some (gx_I l3)] [] h (f_TU_areAlike_2 fu h l0 l1 l2 l3) := by
  intro fu
  induction fu with
  | zero => intro h l0 l1 l2 l3; exact gx_none
  | succ fu ih => intro h l0 l1 l2 l3; exact yb_TU_areAlike_2 (f_TU_areAlike_2 fu) ih h l0 l1 l2 l3
def f_TU_areAlike (h : gx_H) (l0 : Nat) (l1 : Nat) (l2 : Int) : Option (Int × gx_H) :=
  f_TU_areAlike_2 gx_fu h l0 l1 l2 0
set_option maxHeartbeats 4000000 in
set_option maxRecDepth 100000 in
theorem c_TU_areAlike (h : gx_H) (l0 : Nat) (l1 : Nat) (l2 : Int) : ∀ r h1, f_TU_areAlike h l0 l1 l2 = some (r, h1) → gx_Met gm_TU_areAlike [gx_R l0, gx_R l1, gx_I l2] h r h1 := by
  refine gx_enter (l := [some (gx_R l0), some (gx_R l1), some (gx_I l2), none]) (by decide) (Nat.le_of_ble_eq_true rfl) rfl ?_
  unfold f_TU_areAlike
  refine gx_iconst (n := 0) (by decide +kernel) ?_
  refine gx_istore_n (i := 3) (l' := [some (gx_R _), some (gx_R _), some (gx_I _), some (gx_I _)]) (by decide +kernel) rfl (Nat.le_of_ble_eq_true rfl) (by decide) rfl ?_
  exact gx_less' (y_TU_areAlike_2 gx_fu _ _ _ _ _) ⟨rfl, rfl, rfl, rfl, trivial⟩
def fb_TU_count_53 (N29 : gx_H → Nat → Nat → Int → Int → Nat → Nat → Int → Option (Int × gx_H)) (h : gx_H) (l0 : Nat) (l1 : Nat) (l2 : Int) (l3 : Int) (l4 : Nat) (l5 : Nat) (l6 : Int) (t0 : Nat) (t1 : Nat) (t2 : Int) : Option (Int × gx_H) :=
  gq_cv h t0 8 (f_SH_becomeExchanged h t0 t1 t2) (fun r1 h2 => gq_g (gx_i r1) (if r1 = 0 then some ((-1), h2) else gq_gr h2 l0 11 3 (fun o4 => gq_call (f_TU_fillRanked h2 o4 l5) (fun r5 h6 => gq_gr h6 l0 11 2 (fun o7 => gq_gr h6 l0 11 3 (fun o8 => gq_get h6 l1 8 0 (fun v9 => gq_call (f_TU_areAlike h6 o7 o8 v9) (fun r11 h12 => gq_g (gx_i r11) (if r11 = 0 then N29 h12 l0 l1 l2 l3 l5 l4 (l6 + 1) else some (l6, h12))))))))))
set_option maxHeartbeats 4000000 in
set_option maxRecDepth 100000 in
theorem y_TU_count_53 (N29 : gx_H → Nat → Nat → Int → Int → Nat → Nat → Int → Option (Int × gx_H)) (hN29 : ∀ (h : gx_H) (l0 : Nat) (l1 : Nat) (l2 : Int) (l3 : Int) (l4 : Nat) (l5 : Nat) (l6 : Int), gx_Y gm_TU_count (0, 0) 29 [some (gx_R l0), some (gx_R l1), some (gx_I l2), some (gx_I l3), some (gx_R l4), some (gx_R l5), some (gx_I l6), none] [] h (N29 h l0 l1 l2 l3 l4 l5 l6)) (h : gx_H) (l0 : Nat) (l1 : Nat) (l2 : Int) (l3 : Int) (l4 : Nat) (l5 : Nat) (l6 : Int) (t0 : Nat) (t1 : Nat) (t2 : Int) : gx_Y gm_TU_count (0, 0) 53 [some (gx_R l0), some (gx_R l1), some (gx_I l2), some (gx_I l3), some (gx_R l4), some (gx_R l5), some (gx_I l6), none] [gx_I t2, gx_R t1, gx_R t0] h (fb_TU_count_53 N29 h l0 l1 l2 l3 l4 l5 l6 t0 t1 t2) := by
  unfold fb_TU_count_53
  refine gx_cVi2 (Mc := gm_SH_becomeExchanged) (u' := (0, 0)) (c_SH_becomeExchanged _ _ _ _) vk_SH_becomeExchanged ml_TU_36 rfl rfl ⟨by decide, by decide, by decide, by decide⟩ (Nat.le_of_ble_eq_true rfl) (by decide +kernel) (fun r1 h2 => ?_)
  refine gx_g (fun c3 => ?_)
  refine gx_if_ne (off := 5) (tgt := 61) c3 (by decide +kernel) (by decide) ?_ ?_
  · refine gx_aload_n (i := 0) (by decide +kernel) rfl ?_
    refine gx_getr gk_TU (by decide) fl_TU_25 rfl (by decide +kernel) ?_
    refine gx_aload (i := 5) (by decide +kernel) rfl ?_
    refine gx_cSv2 (Mc := gm_TU_fillRanked) (u' := (0, 0)) (c_TU_fillRanked _ _ _) sk_TU_fillRanked ml_TU_28 rfl rfl ⟨by decide, by decide, by decide, by decide⟩ (Nat.le_of_ble_eq_true rfl) (by decide +kernel) (fun r5 h6 => ?_)
    refine gx_aload_n (i := 0) (by decide +kernel) rfl ?_
    refine gx_getr gk_TU (by decide) fl_TU_21 rfl (by decide +kernel) ?_
    refine gx_aload_n (i := 0) (by decide +kernel) rfl ?_
    refine gx_getr gk_TU (by decide) fl_TU_25 rfl (by decide +kernel) ?_
    refine gx_aload_n (i := 1) (by decide +kernel) rfl ?_
    refine gx_geti gk_SH (by decide) fl_TU_40 (Or.inl rfl) (by decide +kernel) (fun c10 => ?_)
    refine gx_cSi3 (Mc := gm_TU_areAlike) (u' := (0, 0)) (c_TU_areAlike _ _ _ _) sk_TU_areAlike ml_TU_44 rfl rfl ⟨by decide, by decide, by decide, by decide⟩ (Nat.le_of_ble_eq_true rfl) (by decide +kernel) (fun r11 h12 => ?_)
    refine gx_g (fun c13 => ?_)
    refine gx_if_eq (off := 6) (tgt := 91) c13 (by decide +kernel) (by decide) ?_ ?_
    · refine gx_aload (i := 4) (by decide +kernel) rfl ?_
      refine gx_astore (i := 7) (l' := [some (gx_R _), some (gx_R _), some (gx_I _), some (gx_I _), some (gx_R _), some (gx_R _), some (gx_I _), some (gx_R _)]) (by decide +kernel) rfl (Nat.le_of_ble_eq_true rfl) (by decide) rfl ?_
      refine gx_aload (i := 5) (by decide +kernel) rfl ?_
      refine gx_astore (i := 4) (l' := [some (gx_R _), some (gx_R _), some (gx_I _), some (gx_I _), some (gx_R _), some (gx_R _), some (gx_I _), some (gx_R _)]) (by decide +kernel) rfl (Nat.le_of_ble_eq_true rfl) (by decide) rfl ?_
      refine gx_aload (i := 7) (by decide +kernel) rfl ?_
      refine gx_astore (i := 5) (l' := [some (gx_R _), some (gx_R _), some (gx_I _), some (gx_I _), some (gx_R _), some (gx_R _), some (gx_I _), some (gx_R _)]) (by decide +kernel) rfl (Nat.le_of_ble_eq_true rfl) (by decide) rfl ?_
      refine gx_iinc (i := 6) (n := 1) (l' := [some (gx_R _), some (gx_R _), some (gx_I _), some (gx_I _), some (gx_R _), some (gx_R _), some (gx_I _), some (gx_R _)]) (by decide +kernel) rfl rfl (Nat.le_of_ble_eq_true rfl) (by decide) rfl ?_
      refine gx_goto (off := -77) (tgt := 29) (by decide +kernel) (by decide) ?_
      exact gx_less' (hN29 _ _ _ _ _ _ _ _) ⟨rfl, rfl, rfl, rfl, rfl, rfl, rfl, trivial⟩
    · refine gx_iload (i := 6) (by decide +kernel) rfl ?_
      exact gx_ireturn rfl rfl (by decide +kernel)
  · refine gx_iconst (n := (-1)) (by decide +kernel) ?_
    exact gx_ireturn rfl rfl (by decide +kernel)
def fb_TU_count_29 (N29 : gx_H → Nat → Nat → Int → Int → Nat → Nat → Int → Option (Int × gx_H)) (h : gx_H) (l0 : Nat) (l1 : Nat) (l2 : Int) (l3 : Int) (l4 : Nat) (l5 : Nat) (l6 : Int) : Option (Int × gx_H) :=
  gq_g (gx_i l6) (if 20 < l6 then some ((-1), h) else gq_g (gx_i (l6.tmod 2)) (if (l6.tmod 2) = 1 then fb_TU_count_53 N29 h l0 l1 l2 l3 l4 l5 l6 l5 l4 l2 else fb_TU_count_53 N29 h l0 l1 l2 l3 l4 l5 l6 l5 l4 l3))
set_option maxHeartbeats 4000000 in
set_option maxRecDepth 100000 in
theorem yb_TU_count_29 (N29 : gx_H → Nat → Nat → Int → Int → Nat → Nat → Int → Option (Int × gx_H)) (hN29 : ∀ (h : gx_H) (l0 : Nat) (l1 : Nat) (l2 : Int) (l3 : Int) (l4 : Nat) (l5 : Nat) (l6 : Int), gx_Y gm_TU_count (0, 0) 29 [some (gx_R l0), some (gx_R l1), some (gx_I l2), some (gx_I l3), some (gx_R l4), some (gx_R l5), some (gx_I l6), none] [] h (N29 h l0 l1 l2 l3 l4 l5 l6)) (h : gx_H) (l0 : Nat) (l1 : Nat) (l2 : Int) (l3 : Int) (l4 : Nat) (l5 : Nat) (l6 : Int) : gx_Y gm_TU_count (0, 0) 29 [some (gx_R l0), some (gx_R l1), some (gx_I l2), some (gx_I l3), some (gx_R l4), some (gx_R l5), some (gx_I l6), none] [] h (fb_TU_count_29 N29 h l0 l1 l2 l3 l4 l5 l6) := by
  unfold fb_TU_count_29
  refine gx_iload (i := 6) (by decide +kernel) rfl ?_
  refine gx_bipush (n := 20) (by decide +kernel) (by decide) ?_
  refine gx_g (fun c1 => ?_)
  refine gx_icmp_gt (off := 76) (tgt := 109) c1 (by decide) (by decide +kernel) (by decide) ?_ ?_
  · refine gx_iconst (n := (-1)) (by decide +kernel) ?_
    exact gx_ireturn rfl rfl (by decide +kernel)
  · refine gx_aload (i := 5) (by decide +kernel) rfl ?_
    refine gx_aload (i := 4) (by decide +kernel) rfl ?_
    refine gx_iload (i := 6) (by decide +kernel) rfl ?_
    refine gx_iconst (n := 2) (by decide +kernel) ?_
    refine gx_irem c1 (by decide) (by decide) (by decide +kernel) ?_
    refine gx_iconst (n := 1) (by decide +kernel) ?_
    refine gx_g (fun c2 => ?_)
    refine gx_icmp_ne (off := 7) (tgt := 52) c2 (by decide) (by decide +kernel) (by decide) ?_ ?_
    · refine gx_iload_n (i := 3) (by decide +kernel) rfl ?_
      exact gx_less' (y_TU_count_53 _ hN29 _ _ _ _ _ _ _ _ _ _ _) ⟨rfl, rfl, rfl, rfl, rfl, rfl, rfl, trivial⟩
    · refine gx_iload_n (i := 2) (by decide +kernel) rfl ?_
      refine gx_goto (off := 4) (tgt := 53) (by decide +kernel) (by decide) ?_
      exact gx_less' (y_TU_count_53 _ hN29 _ _ _ _ _ _ _ _ _ _ _) ⟨rfl, rfl, rfl, rfl, rfl, rfl, rfl, trivial⟩
def f_TU_count_29 : Nat → gx_H → Nat → Nat → Int → Int → Nat → Nat → Int → Option (Int × gx_H)
  | 0 => fun _ _ _ _ _ _ _ _ => none
  | fu + 1 => fb_TU_count_29 (f_TU_count_29 fu)
theorem y_TU_count_29 : ∀ (fu : Nat) (h : gx_H) (l0 : Nat) (l1 : Nat) (l2 : Int) (l3 : Int) (l4 : Nat) (l5 : Nat) (l6 : Int), gx_Y gm_TU_count (0, 0) 29 [some (gx_R l0), some (gx_R l1), some (gx_I l2), some (gx_I l3), some (gx_R l4), some (gx_R l5), some (gx_I l6), none] [] h (f_TU_count_29 fu h l0 l1 l2 l3 l4 l5 l6) := by
  intro fu
  induction fu with
  | zero => intro h l0 l1 l2 l3 l4 l5 l6; exact gx_none
  | succ fu ih => intro h l0 l1 l2 l3 l4 l5 l6; exact yb_TU_count_29 (f_TU_count_29 fu) ih h l0 l1 l2 l3 l4 l5 l6
def f_TU_count (h : gx_H) (l0 : Nat) (l1 : Nat) (l2 : Int) (l3 : Int) : Option (Int × gx_H) :=
  gq_gr h l0 11 2 (fun o1 => gq_call (f_TU_fillRanked h o1 l1) (fun r2 h3 => gq_gr h3 l0 11 0 (fun o4 => gq_gr h3 l0 11 1 (fun o5 => gq_cv h3 o4 8 (f_SH_copyFrom h3 o4 l1) (fun r6 h7 => f_TU_count_29 gx_fu h7 l0 l1 l2 l3 o4 o5 1)))))
set_option maxHeartbeats 4000000 in
set_option maxRecDepth 100000 in
theorem c_TU_count (h : gx_H) (l0 : Nat) (l1 : Nat) (l2 : Int) (l3 : Int) : ∀ r h1, f_TU_count h l0 l1 l2 l3 = some (r, h1) → gx_Met gm_TU_count [gx_R l0, gx_R l1, gx_I l2, gx_I l3] h r h1 := by
  refine gx_enter (l := [some (gx_R l0), some (gx_R l1), some (gx_I l2), some (gx_I l3), none, none, none, none]) (by decide) (Nat.le_of_ble_eq_true rfl) rfl ?_
  unfold f_TU_count
  refine gx_aload_n (i := 0) (by decide +kernel) rfl ?_
  refine gx_getr gk_TU (by decide) fl_TU_21 rfl (by decide +kernel) ?_
  refine gx_aload_n (i := 1) (by decide +kernel) rfl ?_
  refine gx_cSv2 (Mc := gm_TU_fillRanked) (u' := (0, 0)) (c_TU_fillRanked _ _ _) sk_TU_fillRanked ml_TU_28 rfl rfl ⟨by decide, by decide, by decide, by decide⟩ (Nat.le_of_ble_eq_true rfl) (by decide +kernel) (fun r2 h3 => ?_)
  refine gx_aload_n (i := 0) (by decide +kernel) rfl ?_
  refine gx_getr gk_TU (by decide) fl_TU_12 rfl (by decide +kernel) ?_
  refine gx_astore (i := 4) (l' := [some (gx_R _), some (gx_R _), some (gx_I _), some (gx_I _), some (gx_R _), none, none, none]) (by decide +kernel) rfl (Nat.le_of_ble_eq_true rfl) (by decide) rfl ?_
  refine gx_aload_n (i := 0) (by decide +kernel) rfl ?_
  refine gx_getr gk_TU (by decide) fl_TU_18 rfl (by decide +kernel) ?_
  refine gx_astore (i := 5) (l' := [some (gx_R _), some (gx_R _), some (gx_I _), some (gx_I _), some (gx_R _), some (gx_R _), none, none]) (by decide +kernel) rfl (Nat.le_of_ble_eq_true rfl) (by decide) rfl ?_
  refine gx_aload (i := 4) (by decide +kernel) rfl ?_
  refine gx_aload_n (i := 1) (by decide +kernel) rfl ?_
  refine gx_cVv1 (Mc := gm_SH_copyFrom) (u' := (0, 0)) (c_SH_copyFrom _ _ _) vk_SH_copyFrom ml_TU_32 rfl rfl ⟨by decide, by decide, by decide, by decide⟩ (Nat.le_of_ble_eq_true rfl) (by decide +kernel) (fun r6 h7 => ?_)
  refine gx_iconst (n := 1) (by decide +kernel) ?_
  refine gx_istore (i := 6) (l' := [some (gx_R _), some (gx_R _), some (gx_I _), some (gx_I _), some (gx_R _), some (gx_R _), some (gx_I _), none]) (by decide +kernel) rfl (Nat.le_of_ble_eq_true rfl) (by decide) rfl ?_
  exact gx_less' (y_TU_count_29 gx_fu _ _ _ _ _ _ _ _) ⟨rfl, rfl, rfl, rfl, rfl, rfl, rfl, trivial⟩
def f_LE_byTurns (h : gx_H) (l0 : Nat) (l1 : Int) (l2 : Int) : Option (Int × gx_H) :=
  gq_cv h l0 0 (f_LE_isNoLetter h l0 l1) (fun r1 h2 => gq_g (gx_i r1) (if r1 = 0 then gq_cv h2 l0 0 (f_LE_isNoLetter h2 l0 l2) (fun r4 h5 => gq_g (gx_i r4) (if r4 = 0 then gq_g (gx_i l1) (gq_g (gx_i l2) (if l1 = l2 then some ((-1000000001), h5) else gq_gr h5 l0 0 1 (fun o9 => gq_get h5 o9 7 0 (fun v10 => if v10 = 0 then some ((-1), h5) else gq_gr h5 l0 0 7 (fun o12 => gq_gr h5 l0 0 13 (fun o13 => gq_gr h5 o13 9 0 (fun o14 => gq_cv h5 o12 11 (f_TU_count h5 o12 o14 l1 l2) (fun r15 h16 => some (r15, h16))))))))) else some ((-1000000001), h5))) else some ((-1000000001), h2)))
set_option maxHeartbeats 4000000 in
set_option maxRecDepth 100000 in
theorem c_LE_byTurns (h : gx_H) (l0 : Nat) (l1 : Int) (l2 : Int) : ∀ r h1, f_LE_byTurns h l0 l1 l2 = some (r, h1) → gx_Met gm_LE_byTurns [gx_R l0, gx_I l1, gx_I l2] h r h1 := by
  refine gx_enter (l := [some (gx_R l0), some (gx_I l1), some (gx_I l2)]) (by decide) (Nat.le_of_ble_eq_true rfl) rfl ?_
  unfold f_LE_byTurns
  refine gx_aload_n (i := 0) (by decide +kernel) rfl ?_
  refine gx_iload_n (i := 1) (by decide +kernel) rfl ?_
  refine gx_cVi1 (Mc := gm_LE_isNoLetter) (u' := (0, 0)) (c_LE_isNoLetter _ _ _) vk_LE_isNoLetter ml_LE_169 rfl rfl ⟨by decide, by decide, by decide, by decide⟩ (Nat.le_of_ble_eq_true rfl) (by decide +kernel) (fun r1 h2 => ?_)
  refine gx_g (fun c3 => ?_)
  refine gx_if_ne (off := 16) (tgt := 21) c3 (by decide +kernel) (by decide) ?_ ?_
  · refine gx_ldc (a := (-1000000001)) kc_LE_172 (by decide +kernel) ?_
    exact gx_ireturn rfl rfl (by decide +kernel)
  · refine gx_aload_n (i := 0) (by decide +kernel) rfl ?_
    refine gx_iload_n (i := 2) (by decide +kernel) rfl ?_
    refine gx_cVi1 (Mc := gm_LE_isNoLetter) (u' := (0, 0)) (c_LE_isNoLetter _ _ _) vk_LE_isNoLetter ml_LE_169 rfl rfl ⟨by decide, by decide, by decide, by decide⟩ (Nat.le_of_ble_eq_true rfl) (by decide +kernel) (fun r4 h5 => ?_)
    refine gx_g (fun c6 => ?_)
    refine gx_if_ne (off := 8) (tgt := 21) c6 (by decide +kernel) (by decide) ?_ ?_
    · refine gx_ldc (a := (-1000000001)) kc_LE_172 (by decide +kernel) ?_
      exact gx_ireturn rfl rfl (by decide +kernel)
    · refine gx_iload_n (i := 1) (by decide +kernel) rfl ?_
      refine gx_iload_n (i := 2) (by decide +kernel) rfl ?_
      refine gx_g (fun c7 => ?_)
      refine gx_g (fun c8 => ?_)
      refine gx_icmp_ne (off := 6) (tgt := 24) c7 c8 (by decide +kernel) (by decide) ?_ ?_
      · refine gx_aload_n (i := 0) (by decide +kernel) rfl ?_
        refine gx_getr gk_LE (by decide) fl_LE_19 rfl (by decide +kernel) ?_
        refine gx_geti gk_SC (by decide) fl_LE_143 (Or.inr rfl) (by decide +kernel) (fun c11 => ?_)
        refine gx_if_eq (off := 22) (tgt := 53) c11 (by decide +kernel) (by decide) ?_ ?_
        · refine gx_iconst (n := (-1)) (by decide +kernel) ?_
          exact gx_ireturn rfl rfl (by decide +kernel)
        · refine gx_aload_n (i := 0) (by decide +kernel) rfl ?_
          refine gx_getr gk_LE (by decide) fl_LE_61 rfl (by decide +kernel) ?_
          refine gx_aload_n (i := 0) (by decide +kernel) rfl ?_
          refine gx_getr gk_LE (by decide) fl_LE_87 rfl (by decide +kernel) ?_
          refine gx_getr gk_ST (by decide) fl_LE_108 rfl (by decide +kernel) ?_
          refine gx_iload_n (i := 1) (by decide +kernel) rfl ?_
          refine gx_iload_n (i := 2) (by decide +kernel) rfl ?_
          refine gx_cVi3 (Mc := gm_TU_count) (u' := (0, 0)) (c_TU_count _ _ _ _ _) vk_TU_count ml_LE_208 rfl rfl ⟨by decide, by decide, by decide, by decide⟩ (Nat.le_of_ble_eq_true rfl) (by decide +kernel) (fun r15 h16 => ?_)
          refine gx_goto (off := 4) (tgt := 54) (by decide +kernel) (by decide) ?_
          exact gx_ireturn rfl rfl (by decide +kernel)
      · refine gx_ldc (a := (-1000000001)) kc_LE_172 (by decide +kernel) ?_
        exact gx_ireturn rfl rfl (by decide +kernel)
def f_HI_remember (h : gx_H) (l0 : Nat) (l1 : Nat) : Option (Int × gx_H) :=
  gq_gr h l0 6 0 (fun o1 => gq_get h l0 6 1 (fun v2 => gq_get h l0 6 2 (fun v4 => gq_g (gx_i (v2 + v4)) (gq_rld h o1 ((v2 + v4).tmod 20) (fun o7 => gq_cv h o7 9 (f_ST_copyFrom h o7 l1) (fun r8 h9 => gq_get h9 l0 6 2 (fun v10 => if v10 < 20 then gq_get h9 l0 6 2 (fun v16 => gq_put (gx_i (v16 + 1)) h9 l0 6 2 (v16 + 1) (fun h18 => some (0, h18))) else gq_get h9 l0 6 1 (fun v12 => gq_g (gx_i (v12 + 1)) (gq_put (gx_i ((v12 + 1).tmod 20)) h9 l0 6 1 ((v12 + 1).tmod 20) (fun h15 => some (0, h15)))))))))))
set_option maxHeartbeats 4000000 in
set_option maxRecDepth 100000 in
theorem c_HI_remember (h : gx_H) (l0 : Nat) (l1 : Nat) : ∀ r h1, f_HI_remember h l0 l1 = some (r, h1) → gx_Met gm_HI_remember [gx_R l0, gx_R l1] h r h1 := by
  refine gx_enter (l := [some (gx_R l0), some (gx_R l1)]) (by decide) (Nat.le_of_ble_eq_true rfl) rfl ?_
  unfold f_HI_remember
  refine gx_aload_n (i := 0) (by decide +kernel) rfl ?_
  refine gx_getr gk_HI (by decide) fl_HI_11 rfl (by decide +kernel) ?_
  refine gx_aload_n (i := 0) (by decide +kernel) rfl ?_
  refine gx_geti gk_HI (by decide) fl_HI_17 (Or.inl rfl) (by decide +kernel) (fun c3 => ?_)
  refine gx_aload_n (i := 0) (by decide +kernel) rfl ?_
  refine gx_geti gk_HI (by decide) fl_HI_21 (Or.inl rfl) (by decide +kernel) (fun c5 => ?_)
  refine gx_iadd (by decide +kernel) ?_
  refine gx_bipush (n := 20) (by decide +kernel) (by decide) ?_
  refine gx_g (fun c6 => ?_)
  refine gx_irem c6 (by decide) (by decide) (by decide +kernel) ?_
  refine gx_aald (by decide +kernel) ?_
  refine gx_aload_n (i := 1) (by decide +kernel) rfl ?_
  refine gx_cVv1 (Mc := gm_ST_copyFrom) (u' := (0, 0)) (c_ST_copyFrom _ _ _) vk_ST_copyFrom ml_HI_25 rfl rfl ⟨by decide, by decide, by decide, by decide⟩ (Nat.le_of_ble_eq_true rfl) (by decide +kernel) (fun r8 h9 => ?_)
  refine gx_aload_n (i := 0) (by decide +kernel) rfl ?_
  refine gx_geti gk_HI (by decide) fl_HI_21 (Or.inl rfl) (by decide +kernel) (fun c11 => ?_)
  refine gx_bipush (n := 20) (by decide +kernel) (by decide) ?_
  refine gx_icmp_ge (off := 16) (tgt := 43) c11 (by decide) (by decide +kernel) (by decide) ?_ ?_
  · refine gx_aload_n (i := 0) (by decide +kernel) rfl ?_
    refine gx_aload_n (i := 0) (by decide +kernel) rfl ?_
    refine gx_geti gk_HI (by decide) fl_HI_17 (Or.inl rfl) (by decide +kernel) (fun c13 => ?_)
    refine gx_iconst (n := 1) (by decide +kernel) ?_
    refine gx_iadd (by decide +kernel) ?_
    refine gx_bipush (n := 20) (by decide +kernel) (by decide) ?_
    refine gx_g (fun c14 => ?_)
    refine gx_irem c14 (by decide) (by decide) (by decide +kernel) ?_
    refine gx_puti gk_HI (by decide) fl_HI_17 rfl rfl (by decide +kernel) ?_
    exact gx_return rfl rfl (by decide +kernel)
  · refine gx_aload_n (i := 0) (by decide +kernel) rfl ?_
    refine gx_dup (by decide +kernel) (fun _ => rfl) ?_
    refine gx_geti gk_HI (by decide) fl_HI_21 (Or.inl rfl) (by decide +kernel) (fun c17 => ?_)
    refine gx_iconst (n := 1) (by decide +kernel) ?_
    refine gx_iadd (by decide +kernel) ?_
    refine gx_puti gk_HI (by decide) fl_HI_21 rfl rfl (by decide +kernel) ?_
    refine gx_goto (off := 16) (tgt := 56) (by decide +kernel) (by decide) ?_
    exact gx_return rfl rfl (by decide +kernel)
def f_LE_exchange (h : gx_H) (l0 : Nat) (l1 : Int) : Option (Int × gx_H) :=
  gq_cv h l0 0 (f_LE_isNoLetter h l0 l1) (fun r1 h2 => gq_g (gx_i r1) (if r1 = 0 then gq_cv h2 l0 0 (f_LE_exchangesIntoSpare h2 l0 l1) (fun r4 h5 => gq_g (gx_i r4) (if r4 = 0 then some ((-1000000003), h5) else gq_gr h5 l0 0 3 (fun o7 => gq_gr h5 l0 0 13 (fun o8 => gq_cv h5 o7 6 (f_HI_remember h5 o7 o8) (fun r9 h10 => gq_cv h10 l0 0 (f_LE_takeSpare h10 l0) (fun r11 h12 => gq_cv h12 l0 0 (f_LE_placeNow h12 l0 l1) (fun r13 h14 => some (r13, h14)))))))) else some ((-1000000001), h2)))
set_option maxHeartbeats 4000000 in
set_option maxRecDepth 100000 in
theorem c_LE_exchange (h : gx_H) (l0 : Nat) (l1 : Int) : ∀ r h1, f_LE_exchange h l0 l1 = some (r, h1) → gx_Met gm_LE_exchange [gx_R l0, gx_I l1] h r h1 := by
  refine gx_enter (l := [some (gx_R l0), some (gx_I l1)]) (by decide) (Nat.le_of_ble_eq_true rfl) rfl ?_
  unfold f_LE_exchange
  refine gx_aload_n (i := 0) (by decide +kernel) rfl ?_
  refine gx_iload_n (i := 1) (by decide +kernel) rfl ?_
  refine gx_cVi1 (Mc := gm_LE_isNoLetter) (u' := (0, 0)) (c_LE_isNoLetter _ _ _) vk_LE_isNoLetter ml_LE_169 rfl rfl ⟨by decide, by decide, by decide, by decide⟩ (Nat.le_of_ble_eq_true rfl) (by decide +kernel) (fun r1 h2 => ?_)
  refine gx_g (fun c3 => ?_)
  refine gx_if_eq (off := 6) (tgt := 11) c3 (by decide +kernel) (by decide) ?_ ?_
  · refine gx_aload_n (i := 0) (by decide +kernel) rfl ?_
    refine gx_iload_n (i := 1) (by decide +kernel) rfl ?_
    refine gx_cVi1 (Mc := gm_LE_exchangesIntoSpare) (u' := (0, 0)) (c_LE_exchangesIntoSpare _ _ _) vk_LE_exchangesIntoSpare ml_LE_196 rfl rfl ⟨by decide, by decide, by decide, by decide⟩ (Nat.le_of_ble_eq_true rfl) (by decide +kernel) (fun r4 h5 => ?_)
    refine gx_g (fun c6 => ?_)
    refine gx_if_ne (off := 6) (tgt := 22) c6 (by decide +kernel) (by decide) ?_ ?_
    · refine gx_aload_n (i := 0) (by decide +kernel) rfl ?_
      refine gx_getr gk_LE (by decide) fl_LE_33 rfl (by decide +kernel) ?_
      refine gx_aload_n (i := 0) (by decide +kernel) rfl ?_
      refine gx_getr gk_LE (by decide) fl_LE_87 rfl (by decide +kernel) ?_
      refine gx_cVv1 (Mc := gm_HI_remember) (u' := (0, 0)) (c_HI_remember _ _ _) vk_HI_remember ml_LE_212 rfl rfl ⟨by decide, by decide, by decide, by decide⟩ (Nat.le_of_ble_eq_true rfl) (by decide +kernel) (fun r9 h10 => ?_)
      refine gx_aload_n (i := 0) (by decide +kernel) rfl ?_
      refine gx_cVv0 (Mc := gm_LE_takeSpare) (u' := (0, 0)) (c_LE_takeSpare _ _) vk_LE_takeSpare ml_LE_216 rfl rfl ⟨by decide, by decide, by decide, by decide⟩ (Nat.le_of_ble_eq_true rfl) (by decide +kernel) (fun r11 h12 => ?_)
      refine gx_aload_n (i := 0) (by decide +kernel) rfl ?_
      refine gx_iload_n (i := 1) (by decide +kernel) rfl ?_
      refine gx_cVi1 (Mc := gm_LE_placeNow) (u' := (0, 0)) (c_LE_placeNow _ _ _) vk_LE_placeNow ml_LE_193 rfl rfl ⟨by decide, by decide, by decide, by decide⟩ (Nat.le_of_ble_eq_true rfl) (by decide +kernel) (fun r13 h14 => ?_)
      exact gx_ireturn rfl rfl (by decide +kernel)
    · refine gx_ldc (a := (-1000000003)) kc_LE_211 (by decide +kernel) ?_
      exact gx_ireturn rfl rfl (by decide +kernel)
  · refine gx_ldc (a := (-1000000001)) kc_LE_172 (by decide +kernel) ?_
    exact gx_ireturn rfl rfl (by decide +kernel)
