def f_TX_blame (h : gx_H) (l0 : Nat) (l1 : Int) : Option (Int × gx_H) :=
  gq_put (gx_i l1) h l0 10 2 l1 (fun h1 => gq_get h1 l0 10 5 (fun v2 => gq_put True h1 l0 10 3 v2 (fun h4 => some (0, h4))))
set_option maxHeartbeats 4000000 in
set_option maxRecDepth 100000 in
theorem c_TX_blame (h : gx_H) (l0 : Nat) (l1 : Int) : ∀ r h1, f_TX_blame h l0 l1 = some (r, h1) → gx_Met gm_TX_blame [gx_R l0, gx_I l1] h r h1 := by
  refine gx_enter (l := [some (gx_R l0), some (gx_I l1)]) (by decide) (Nat.le_of_ble_eq_true rfl) rfl ?_
  unfold f_TX_blame
  refine gx_aload_n (i := 0) (by decide +kernel) rfl ?_
  refine gx_iload_n (i := 1) (by decide +kernel) rfl ?_
  refine gx_puti gk_TX (by decide) fl_TX_19 rfl rfl (by decide +kernel) ?_
  refine gx_aload_n (i := 0) (by decide +kernel) rfl ?_
  refine gx_aload_n (i := 0) (by decide +kernel) rfl ?_
  refine gx_geti gk_TX (by decide) fl_TX_28 (Or.inl rfl) (by decide +kernel) (fun c3 => ?_)
  refine gx_putiT c3 gk_TX (by decide) fl_TX_22 rfl rfl (by decide +kernel) ?_
  refine gx_iconst (n := 0) (by decide +kernel) ?_
  exact gx_zreturn (by decide) rfl rfl (by decide +kernel)
def fb_TX_figure_17 (h : gx_H) (l0 : Nat) : Option (Int × gx_H) :=
  gq_cv h l0 10 (f_TX_blame h l0 1) (fun r1 h2 => some ((-1), h2))
set_option maxHeartbeats 4000000 in
set_option maxRecDepth 100000 in
theorem y_TX_figure_17 (h : gx_H) (l0 : Nat) : gx_Y gm_TX_figure (0, 0) 17 [some (gx_R l0), none, none, none, none] [] h (fb_TX_figure_17 h l0) := by
  unfold fb_TX_figure_17
  refine gx_aload_n (i := 0) (by decide +kernel) rfl ?_
  refine gx_iconst (n := 1) (by decide +kernel) ?_
  refine gx_cVi1 (Mc := gm_TX_blame) (u' := (0, 0)) (c_TX_blame _ _ _) vk_TX_blame ml_TX_43 rfl rfl ⟨by decide, by decide, by decide, by decide⟩ (Nat.le_of_ble_eq_true rfl) (by decide +kernel) (fun r1 h2 => ?_)
  refine gx_pop (by decide +kernel) (fun _ => rfl) ?_
  refine gx_iconst (n := (-1)) (by decide +kernel) ?_
  exact gx_ireturn rfl rfl (by decide +kernel)
def fb_TX_figure_43 (h : gx_H) (l0 : Nat) : Option (Int × gx_H) :=
  gq_cv h l0 10 (f_TX_blame h l0 2) (fun r1 h2 => some ((-1), h2))
set_option maxHeartbeats 4000000 in
set_option maxRecDepth 100000 in
theorem y_TX_figure_43 (h : gx_H) (l0 : Nat) : gx_Y gm_TX_figure (0, 0) 43 [some (gx_R l0), none, none, none, none] [] h (fb_TX_figure_43 h l0) := by
  unfold fb_TX_figure_43
  refine gx_aload_n (i := 0) (by decide +kernel) rfl ?_
  refine gx_iconst (n := 2) (by decide +kernel) ?_
  refine gx_cVi1 (Mc := gm_TX_blame) (u' := (0, 0)) (c_TX_blame _ _ _) vk_TX_blame ml_TX_43 rfl rfl ⟨by decide, by decide, by decide, by decide⟩ (Nat.le_of_ble_eq_true rfl) (by decide +kernel) (fun r1 h2 => ?_)
  refine gx_pop (by decide +kernel) (fun _ => rfl) ?_
  refine gx_iconst (n := (-1)) (by decide +kernel) ?_
  exact gx_ireturn rfl rfl (by decide +kernel)
def f_TX_figure (h : gx_H) (l0 : Nat) (l1 : Int) (l2 : Int) : Option (Int × gx_H) :=
  gq_cv h l0 10 (f_TX_take h l0) (fun r1 h2 => gq_g (gx_i r1) (if r1 < 48 then fb_TX_figure_17 h2 l0 else if 57 < r1 then fb_TX_figure_17 h2 l0 else gq_g (gx_i (r1 - 48)) (gq_g (gx_i l1) (if (r1 - 48) < l1 then fb_TX_figure_43 h2 l0 else gq_g (gx_i l2) (if l2 < (r1 - 48) then fb_TX_figure_43 h2 l0 else some ((r1 - 48), h2))))))
set_option maxHeartbeats 4000000 in
set_option maxRecDepth 100000 in
theorem c_TX_figure (h : gx_H) (l0 : Nat) (l1 : Int) (l2 : Int) : ∀ r h1, f_TX_figure h l0 l1 l2 = some (r, h1) → gx_Met gm_TX_figure [gx_R l0, gx_I l1, gx_I l2] h r h1 := by
  refine gx_enter (l := [some (gx_R l0), some (gx_I l1), some (gx_I l2), none, none]) (by decide) (Nat.le_of_ble_eq_true rfl) rfl ?_
  unfold f_TX_figure
  refine gx_aload_n (i := 0) (by decide +kernel) rfl ?_
  refine gx_cVi0 (Mc := gm_TX_take) (u' := (0, 0)) (c_TX_take _ _) vk_TX_take ml_TX_35 rfl rfl ⟨by decide, by decide, by decide, by decide⟩ (Nat.le_of_ble_eq_true rfl) (by decide +kernel) (fun r1 h2 => ?_)
  refine gx_istore_n (i := 3) (l' := [some (gx_R _), some (gx_I _), some (gx_I _), some (gx_I _), none]) (by decide +kernel) rfl (Nat.le_of_ble_eq_true rfl) (by decide) rfl ?_
  refine gx_iload_n (i := 3) (by decide +kernel) rfl ?_
  refine gx_bipush (n := 48) (by decide +kernel) (by decide) ?_
  refine gx_g (fun c3 => ?_)
  refine gx_icmp_lt (off := 9) (tgt := 17) c3 (by decide) (by decide +kernel) (by decide) ?_ ?_
  · exact gx_less' (y_TX_figure_17 _ _) ⟨rfl, trivial⟩
  · refine gx_iload_n (i := 3) (by decide +kernel) rfl ?_
    refine gx_bipush (n := 57) (by decide +kernel) (by decide) ?_
    refine gx_icmp_le (off := 11) (tgt := 25) c3 (by decide) (by decide +kernel) (by decide) ?_ ?_
    · refine gx_iload_n (i := 3) (by decide +kernel) rfl ?_
      refine gx_bipush (n := 48) (by decide +kernel) (by decide) ?_
      refine gx_isub (by decide +kernel) ?_
      refine gx_istore (i := 4) (l' := [some (gx_R _), some (gx_I _), some (gx_I _), some (gx_I _), some (gx_I _)]) (by decide +kernel) rfl (Nat.le_of_ble_eq_true rfl) (by decide) rfl ?_
      refine gx_iload (i := 4) (by decide +kernel) rfl ?_
      refine gx_iload_n (i := 1) (by decide +kernel) rfl ?_
      refine gx_g (fun c4 => ?_)
      refine gx_g (fun c5 => ?_)
      refine gx_icmp_lt (off := 9) (tgt := 43) c4 c5 (by decide +kernel) (by decide) ?_ ?_
      · exact gx_less' (y_TX_figure_43 _ _) ⟨rfl, trivial⟩
      · refine gx_iload (i := 4) (by decide +kernel) rfl ?_
        refine gx_iload_n (i := 2) (by decide +kernel) rfl ?_
        refine gx_g (fun c6 => ?_)
        refine gx_icmp_le (off := 11) (tgt := 51) c4 c6 (by decide +kernel) (by decide) ?_ ?_
        · refine gx_iload (i := 4) (by decide +kernel) rfl ?_
          exact gx_ireturn rfl rfl (by decide +kernel)
        · exact gx_less' (y_TX_figure_43 _ _) ⟨rfl, trivial⟩
    · exact gx_less' (y_TX_figure_17 _ _) ⟨rfl, trivial⟩
def fb_TX_readEnd_17 (h : gx_H) : Option (Int × gx_H) :=
  some (1, h)
set_option maxHeartbeats 4000000 in
set_option maxRecDepth 100000 in
theorem y_TX_readEnd_17 (h : gx_H) : gx_Y gm_TX_readEnd (0, 0) 17 [none] [] h (fb_TX_readEnd_17 h) := by
  unfold fb_TX_readEnd_17
  refine gx_iconst (n := 1) (by decide +kernel) ?_
  refine gx_goto (off := 4) (tgt := 22) (by decide +kernel) (by decide) ?_
  exact gx_zreturn (by decide) rfl rfl (by decide +kernel)
def f_TX_readEnd (h : gx_H) (l0 : Nat) : Option (Int × gx_H) :=
  gq_cv h l0 10 (f_TX_take h l0) (fun r1 h2 => gq_g (gx_i r1) (if r1 = 59 then fb_TX_readEnd_17 h2  else gq_cv h2 l0 10 (f_TX_blame h2 l0 1) (fun r4 h5 => gq_g (gx_i r4) (if r4 = 0 then some (0, h5) else fb_TX_readEnd_17 h5 ))))
set_option maxHeartbeats 4000000 in
set_option maxRecDepth 100000 in
theorem c_TX_readEnd (h : gx_H) (l0 : Nat) : ∀ r h1, f_TX_readEnd h l0 = some (r, h1) → gx_Met gm_TX_readEnd [gx_R l0] h r h1 := by
  refine gx_enter (l := [some (gx_R l0)]) (by decide) (Nat.le_of_ble_eq_true rfl) rfl ?_
  unfold f_TX_readEnd
  refine gx_aload_n (i := 0) (by decide +kernel) rfl ?_
  refine gx_cVi0 (Mc := gm_TX_take) (u' := (0, 0)) (c_TX_take _ _) vk_TX_take ml_TX_35 rfl rfl ⟨by decide, by decide, by decide, by decide⟩ (Nat.le_of_ble_eq_true rfl) (by decide +kernel) (fun r1 h2 => ?_)
  refine gx_bipush (n := 59) (by decide +kernel) (by decide) ?_
  refine gx_g (fun c3 => ?_)
  refine gx_icmp_eq (off := 11) (tgt := 17) c3 (by decide) (by decide +kernel) (by decide) ?_ ?_
  · exact gx_less' (y_TX_readEnd_17 _) trivial
  · refine gx_aload_n (i := 0) (by decide +kernel) rfl ?_
    refine gx_iconst (n := 1) (by decide +kernel) ?_
    refine gx_cVi1 (Mc := gm_TX_blame) (u' := (0, 0)) (c_TX_blame _ _ _) vk_TX_blame ml_TX_43 rfl rfl ⟨by decide, by decide, by decide, by decide⟩ (Nat.le_of_ble_eq_true rfl) (by decide +kernel) (fun r4 h5 => ?_)
    refine gx_g (fun c6 => ?_)
    refine gx_if_eq (off := 7) (tgt := 21) c6 (by decide +kernel) (by decide) ?_ ?_
    · refine gx_iconst (n := 0) (by decide +kernel) ?_
      exact gx_zreturn (by decide) rfl rfl (by decide +kernel)
    · exact gx_less' (y_TX_readEnd_17 _) trivial
def f_TX_readCount (h : gx_H) (l0 : Nat) (l1 : Nat) : Option (Int × gx_H) :=
  gq_cv h l0 10 (f_TX_take h l0) (fun r1 h2 => gq_g (gx_i r1) (if r1 = 110 then gq_cv h2 l0 10 (f_TX_figure h2 l0 2 4) (fun r4 h5 => gq_g (gx_i r4) (if r4 = (-1) then some (0, h5) else gq_cv h5 l1 9 (f_ST_begin h5 l1 r4) (fun r7 h8 => gq_cv h8 l0 10 (f_TX_readEnd h8 l0) (fun r9 h10 => gq_g ((r9 : Int) = 0 ∨ (r9 : Int) = 1) (some (r9, h10)))))) else gq_cv h2 l0 10 (f_TX_blame h2 l0 1) (fun r12 h13 => gq_g ((r12 : Int) = 0 ∨ (r12 : Int) = 1) (some (r12, h13)))))
set_option maxHeartbeats 4000000 in
set_option maxRecDepth 100000 in
theorem c_TX_readCount (h : gx_H) (l0 : Nat) (l1 : Nat) : ∀ r h1, f_TX_readCount h l0 l1 = some (r, h1) → gx_Met gm_TX_readCount [gx_R l0, gx_R l1] h r h1 := by
  refine gx_enter (l := [some (gx_R l0), some (gx_R l1), none]) (by decide) (Nat.le_of_ble_eq_true rfl) rfl ?_
  unfold f_TX_readCount
  refine gx_aload_n (i := 0) (by decide +kernel) rfl ?_
  refine gx_cVi0 (Mc := gm_TX_take) (u' := (0, 0)) (c_TX_take _ _) vk_TX_take ml_TX_35 rfl rfl ⟨by decide, by decide, by decide, by decide⟩ (Nat.le_of_ble_eq_true rfl) (by decide +kernel) (fun r1 h2 => ?_)
  refine gx_bipush (n := 110) (by decide +kernel) (by decide) ?_
  refine gx_g (fun c3 => ?_)
  refine gx_icmp_eq (off := 9) (tgt := 15) c3 (by decide) (by decide +kernel) (by decide) ?_ ?_
  · refine gx_aload_n (i := 0) (by decide +kernel) rfl ?_
    refine gx_iconst (n := 2) (by decide +kernel) ?_
    refine gx_iconst (n := 4) (by decide +kernel) ?_
    refine gx_cVi2 (Mc := gm_TX_figure) (u' := (0, 0)) (c_TX_figure _ _ _ _) vk_TX_figure ml_TX_47 rfl rfl ⟨by decide, by decide, by decide, by decide⟩ (Nat.le_of_ble_eq_true rfl) (by decide +kernel) (fun r4 h5 => ?_)
    refine gx_istore_n (i := 2) (l' := [some (gx_R _), some (gx_R _), some (gx_I _)]) (by decide +kernel) rfl (Nat.le_of_ble_eq_true rfl) (by decide) rfl ?_
    refine gx_iload_n (i := 2) (by decide +kernel) rfl ?_
    refine gx_iconst (n := (-1)) (by decide +kernel) ?_
    refine gx_g (fun c6 => ?_)
    refine gx_icmp_ne (off := 5) (tgt := 29) c6 (by decide) (by decide +kernel) (by decide) ?_ ?_
    · refine gx_aload_n (i := 1) (by decide +kernel) rfl ?_
      refine gx_iload_n (i := 2) (by decide +kernel) rfl ?_
      refine gx_cVv1 (Mc := gm_ST_begin) (u' := (0, 0)) (c_ST_begin _ _ _) vk_ST_begin ml_TX_51 rfl rfl ⟨by decide, by decide, by decide, by decide⟩ (Nat.le_of_ble_eq_true rfl) (by decide +kernel) (fun r7 h8 => ?_)
      refine gx_aload_n (i := 0) (by decide +kernel) rfl ?_
      refine gx_cVi0 (Mc := gm_TX_readEnd) (u' := (0, 0)) (c_TX_readEnd _ _) vk_TX_readEnd ml_TX_57 rfl rfl ⟨by decide, by decide, by decide, by decide⟩ (Nat.le_of_ble_eq_true rfl) (by decide +kernel) (fun r9 h10 => ?_)
      refine gx_g (fun c11 => ?_)
      exact gx_zreturn c11 rfl rfl (by decide +kernel)
    · refine gx_iconst (n := 0) (by decide +kernel) ?_
      exact gx_zreturn (by decide) rfl rfl (by decide +kernel)
  · refine gx_aload_n (i := 0) (by decide +kernel) rfl ?_
    refine gx_iconst (n := 1) (by decide +kernel) ?_
    refine gx_cVi1 (Mc := gm_TX_blame) (u' := (0, 0)) (c_TX_blame _ _ _) vk_TX_blame ml_TX_43 rfl rfl ⟨by decide, by decide, by decide, by decide⟩ (Nat.le_of_ble_eq_true rfl) (by decide +kernel) (fun r12 h13 => ?_)
    refine gx_g (fun c14 => ?_)
    exact gx_zreturn c14 rfl rfl (by decide +kernel)
def fb_TX_readHang_101 (h : gx_H) (l0 : Nat) (l1 : Nat) (l2 : Int) (l3 : Int) (l4 : Int) (l5 : Int) (t0 : Int) (t1 : Int) : Option (Int × gx_H) :=
  gq_g (gx_i t0) (gq_g (gx_i t1) (if t0 = t1 then gq_cv h l1 8 (f_SH_hang h l1 l2 l3 l4 l5) (fun r3 h4 => gq_cv h4 l0 10 (f_TX_readEnd h4 l0) (fun r5 h6 => gq_g ((r5 : Int) = 0 ∨ (r5 : Int) = 1) (some (r5, h6)))) else gq_cv h l0 10 (f_TX_blame h l0 4) (fun r8 h9 => gq_g ((r8 : Int) = 0 ∨ (r8 : Int) = 1) (some (r8, h9)))))
set_option maxHeartbeats 4000000 in
set_option maxRecDepth 100000 in
theorem y_TX_readHang_101 (h : gx_H) (l0 : Nat) (l1 : Nat) (l2 : Int) (l3 : Int) (l4 : Int) (l5 : Int) (t0 : Int) (t1 : Int) : gx_Y gm_TX_readHang (0, 0) 101 [some (gx_R l0), some (gx_R l1), some (gx_I l2), some (gx_I l3), some (gx_I l4), some (gx_I l5)] [gx_I t1, gx_I t0] h (fb_TX_readHang_101 h l0 l1 l2 l3 l4 l5 t0 t1) := by
  unfold fb_TX_readHang_101
  refine gx_g (fun c1 => ?_)
  refine gx_g (fun c2 => ?_)
  refine gx_icmp_eq (off := 9) (tgt := 110) c1 c2 (by decide +kernel) (by decide) ?_ ?_
  · refine gx_aload_n (i := 1) (by decide +kernel) rfl ?_
    refine gx_iload_n (i := 2) (by decide +kernel) rfl ?_
    refine gx_iload_n (i := 3) (by decide +kernel) rfl ?_
    refine gx_iload (i := 4) (by decide +kernel) rfl ?_
    refine gx_iload (i := 5) (by decide +kernel) rfl ?_
    refine gx_cVv4 (Mc := gm_SH_hang) (u' := (0, 0)) (c_SH_hang _ _ _ _ _ _) vk_SH_hang ml_TX_77 rfl rfl ⟨by decide, by decide, by decide, by decide⟩ (Nat.le_of_ble_eq_true rfl) (by decide +kernel) (fun r3 h4 => ?_)
    refine gx_aload_n (i := 0) (by decide +kernel) rfl ?_
    refine gx_cVi0 (Mc := gm_TX_readEnd) (u' := (0, 0)) (c_TX_readEnd _ _) vk_TX_readEnd ml_TX_57 rfl rfl ⟨by decide, by decide, by decide, by decide⟩ (Nat.le_of_ble_eq_true rfl) (by decide +kernel) (fun r5 h6 => ?_)
    refine gx_g (fun c7 => ?_)
    exact gx_zreturn c7 rfl rfl (by decide +kernel)
  · refine gx_aload_n (i := 0) (by decide +kernel) rfl ?_
    refine gx_iconst (n := 4) (by decide +kernel) ?_
    refine gx_cVi1 (Mc := gm_TX_blame) (u' := (0, 0)) (c_TX_blame _ _ _) vk_TX_blame ml_TX_43 rfl rfl ⟨by decide, by decide, by decide, by decide⟩ (Nat.le_of_ble_eq_true rfl) (by decide +kernel) (fun r8 h9 => ?_)
    refine gx_g (fun c10 => ?_)
    exact gx_zreturn c10 rfl rfl (by decide +kernel)
def fb_TX_readHang_91 (h : gx_H) (l0 : Nat) (l1 : Nat) (l2 : Int) (l3 : Int) (l4 : Int) (l5 : Int) (t0 : Int) : Option (Int × gx_H) :=
  gq_g (gx_i l5) (if l5 = 0 then fb_TX_readHang_101 h l0 l1 l2 l3 l4 l5 t0 1 else fb_TX_readHang_101 h l0 l1 l2 l3 l4 l5 t0 0)
set_option maxHeartbeats 4000000 in
set_option maxRecDepth 100000 in
theorem y_TX_readHang_91 (h : gx_H) (l0 : Nat) (l1 : Nat) (l2 : Int) (l3 : Int) (l4 : Int) (l5 : Int) (t0 : Int) : gx_Y gm_TX_readHang (0, 0) 91 [some (gx_R l0), some (gx_R l1), some (gx_I l2), some (gx_I l3), some (gx_I l4), some (gx_I l5)] [gx_I t0] h (fb_TX_readHang_91 h l0 l1 l2 l3 l4 l5 t0) := by
  unfold fb_TX_readHang_91
  refine gx_iload (i := 5) (by decide +kernel) rfl ?_
  refine gx_g (fun c1 => ?_)
  refine gx_if_ne (off := 7) (tgt := 100) c1 (by decide +kernel) (by decide) ?_ ?_
  · refine gx_iconst (n := 0) (by decide +kernel) ?_
    exact gx_less' (y_TX_readHang_101 _ _ _ _ _ _ _ _ _) ⟨rfl, rfl, rfl, rfl, rfl, rfl, trivial⟩
  · refine gx_iconst (n := 1) (by decide +kernel) ?_
    refine gx_goto (off := 4) (tgt := 101) (by decide +kernel) (by decide) ?_
    exact gx_less' (y_TX_readHang_101 _ _ _ _ _ _ _ _ _) ⟨rfl, rfl, rfl, rfl, rfl, rfl, trivial⟩
def f_TX_readHang (h : gx_H) (l0 : Nat) (l1 : Nat) : Option (Int × gx_H) :=
  gq_get h l1 8 0 (fun v1 => gq_cv h l0 10 (f_TX_figure h l0 0 (v1 - 1)) (fun r3 h4 => gq_g (gx_i r3) (if r3 = (-1) then some (0, h4) else gq_get h4 l1 8 0 (fun v6 => gq_cv h4 l0 10 (f_TX_figure h4 l0 0 (v6 - 1)) (fun r8 h9 => gq_g (gx_i r8) (if r8 = (-1) then some (0, h9) else if r3 = r8 then gq_cv h9 l0 10 (f_TX_blame h9 l0 4) (fun r17 h18 => gq_g ((r17 : Int) = 0 ∨ (r17 : Int) = 1) (some (r17, h18))) else gq_cv h9 l0 10 (f_TX_figure h9 l0 0 3) (fun r11 h12 => gq_g (gx_i r11) (if r11 = (-1) then some (0, h12) else gq_cv h12 l0 10 (f_TX_figure h12 l0 0 3) (fun r14 h15 => gq_g (gx_i r14) (if r14 = (-1) then some (0, h15) else if r11 = 0 then fb_TX_readHang_91 h15 l0 l1 r3 r8 r11 r14 1 else fb_TX_readHang_91 h15 l0 l1 r3 r8 r11 r14 0))))))))))
set_option maxHeartbeats 4000000 in
set_option maxRecDepth 100000 in
theorem c_TX_readHang (h : gx_H) (l0 : Nat) (l1 : Nat) : ∀ r h1, f_TX_readHang h l0 l1 = some (r, h1) → gx_Met gm_TX_readHang [gx_R l0, gx_R l1] h r h1 := by
  refine gx_enter (l := [some (gx_R l0), some (gx_R l1), none, none, none, none]) (by decide) (Nat.le_of_ble_eq_true rfl) rfl ?_
  unfold f_TX_readHang
  refine gx_aload_n (i := 0) (by decide +kernel) rfl ?_
  refine gx_iconst (n := 0) (by decide +kernel) ?_
  refine gx_aload_n (i := 1) (by decide +kernel) rfl ?_
  refine gx_geti gk_SH (by decide) fl_TX_72 (Or.inl rfl) (by decide +kernel) (fun c2 => ?_)
  refine gx_iconst (n := 1) (by decide +kernel) ?_
  refine gx_isub (by decide +kernel) ?_
  refine gx_cVi2 (Mc := gm_TX_figure) (u' := (0, 0)) (c_TX_figure _ _ _ _) vk_TX_figure ml_TX_47 rfl rfl ⟨by decide, by decide, by decide, by decide⟩ (Nat.le_of_ble_eq_true rfl) (by decide +kernel) (fun r3 h4 => ?_)
  refine gx_istore_n (i := 2) (l' := [some (gx_R _), some (gx_R _), some (gx_I _), none, none, none]) (by decide +kernel) rfl (Nat.le_of_ble_eq_true rfl) (by decide) rfl ?_
  refine gx_iload_n (i := 2) (by decide +kernel) rfl ?_
  refine gx_iconst (n := (-1)) (by decide +kernel) ?_
  refine gx_g (fun c5 => ?_)
  refine gx_icmp_ne (off := 5) (tgt := 19) c5 (by decide) (by decide +kernel) (by decide) ?_ ?_
  · refine gx_aload_n (i := 0) (by decide +kernel) rfl ?_
    refine gx_iconst (n := 0) (by decide +kernel) ?_
    refine gx_aload_n (i := 1) (by decide +kernel) rfl ?_
    refine gx_geti gk_SH (by decide) fl_TX_72 (Or.inl rfl) (by decide +kernel) (fun c7 => ?_)
    refine gx_iconst (n := 1) (by decide +kernel) ?_
    refine gx_isub (by decide +kernel) ?_
    refine gx_cVi2 (Mc := gm_TX_figure) (u' := (0, 0)) (c_TX_figure _ _ _ _) vk_TX_figure ml_TX_47 rfl rfl ⟨by decide, by decide, by decide, by decide⟩ (Nat.le_of_ble_eq_true rfl) (by decide +kernel) (fun r8 h9 => ?_)
    refine gx_istore_n (i := 3) (l' := [some (gx_R _), some (gx_R _), some (gx_I _), some (gx_I _), none, none]) (by decide +kernel) rfl (Nat.le_of_ble_eq_true rfl) (by decide) rfl ?_
    refine gx_iload_n (i := 3) (by decide +kernel) rfl ?_
    refine gx_iconst (n := (-1)) (by decide +kernel) ?_
    refine gx_g (fun c10 => ?_)
    refine gx_icmp_ne (off := 5) (tgt := 38) c10 (by decide) (by decide +kernel) (by decide) ?_ ?_
    · refine gx_iload_n (i := 2) (by decide +kernel) rfl ?_
      refine gx_iload_n (i := 3) (by decide +kernel) rfl ?_
      refine gx_icmp_ne (off := 9) (tgt := 49) c5 c10 (by decide +kernel) (by decide) ?_ ?_
      · refine gx_aload_n (i := 0) (by decide +kernel) rfl ?_
        refine gx_iconst (n := 0) (by decide +kernel) ?_
        refine gx_iconst (n := 3) (by decide +kernel) ?_
        refine gx_cVi2 (Mc := gm_TX_figure) (u' := (0, 0)) (c_TX_figure _ _ _ _) vk_TX_figure ml_TX_47 rfl rfl ⟨by decide, by decide, by decide, by decide⟩ (Nat.le_of_ble_eq_true rfl) (by decide +kernel) (fun r11 h12 => ?_)
        refine gx_istore (i := 4) (l' := [some (gx_R _), some (gx_R _), some (gx_I _), some (gx_I _), some (gx_I _), none]) (by decide +kernel) rfl (Nat.le_of_ble_eq_true rfl) (by decide) rfl ?_
        refine gx_iload (i := 4) (by decide +kernel) rfl ?_
        refine gx_iconst (n := (-1)) (by decide +kernel) ?_
        refine gx_g (fun c13 => ?_)
        refine gx_icmp_ne (off := 5) (tgt := 65) c13 (by decide) (by decide +kernel) (by decide) ?_ ?_
        · refine gx_aload_n (i := 0) (by decide +kernel) rfl ?_
          refine gx_iconst (n := 0) (by decide +kernel) ?_
          refine gx_iconst (n := 3) (by decide +kernel) ?_
          refine gx_cVi2 (Mc := gm_TX_figure) (u' := (0, 0)) (c_TX_figure _ _ _ _) vk_TX_figure ml_TX_47 rfl rfl ⟨by decide, by decide, by decide, by decide⟩ (Nat.le_of_ble_eq_true rfl) (by decide +kernel) (fun r14 h15 => ?_)
          refine gx_istore (i := 5) (l' := [some (gx_R _), some (gx_R _), some (gx_I _), some (gx_I _), some (gx_I _), some (gx_I _)]) (by decide +kernel) rfl (Nat.le_of_ble_eq_true rfl) (by decide) rfl ?_
          refine gx_iload (i := 5) (by decide +kernel) rfl ?_
          refine gx_iconst (n := (-1)) (by decide +kernel) ?_
          refine gx_g (fun c16 => ?_)
          refine gx_icmp_ne (off := 5) (tgt := 81) c16 (by decide) (by decide +kernel) (by decide) ?_ ?_
          · refine gx_iload (i := 4) (by decide +kernel) rfl ?_
            refine gx_if_ne (off := 7) (tgt := 90) c13 (by decide +kernel) (by decide) ?_ ?_
            · refine gx_iconst (n := 0) (by decide +kernel) ?_
              exact gx_less' (y_TX_readHang_91 _ _ _ _ _ _ _ _) ⟨rfl, rfl, rfl, rfl, rfl, rfl, trivial⟩
            · refine gx_iconst (n := 1) (by decide +kernel) ?_
              refine gx_goto (off := 4) (tgt := 91) (by decide +kernel) (by decide) ?_
              exact gx_less' (y_TX_readHang_91 _ _ _ _ _ _ _ _) ⟨rfl, rfl, rfl, rfl, rfl, rfl, trivial⟩
          · refine gx_iconst (n := 0) (by decide +kernel) ?_
            exact gx_zreturn (by decide) rfl rfl (by decide +kernel)
        · refine gx_iconst (n := 0) (by decide +kernel) ?_
          exact gx_zreturn (by decide) rfl rfl (by decide +kernel)
      · refine gx_aload_n (i := 0) (by decide +kernel) rfl ?_
        refine gx_iconst (n := 4) (by decide +kernel) ?_
        refine gx_cVi1 (Mc := gm_TX_blame) (u' := (0, 0)) (c_TX_blame _ _ _) vk_TX_blame ml_TX_43 rfl rfl ⟨by decide, by decide, by decide, by decide⟩ (Nat.le_of_ble_eq_true rfl) (by decide +kernel) (fun r17 h18 => ?_)
        refine gx_g (fun c19 => ?_)
        exact gx_zreturn c19 rfl rfl (by decide +kernel)
    · refine gx_iconst (n := 0) (by decide +kernel) ?_
      exact gx_zreturn (by decide) rfl rfl (by decide +kernel)
  · refine gx_iconst (n := 0) (by decide +kernel) ?_
    exact gx_zreturn (by decide) rfl rfl (by decide +kernel)
def f_TX_readWorth (h : gx_H) (l0 : Nat) (l1 : Nat) : Option (Int × gx_H) :=
  gq_gr h l1 9 0 (fun o1 => gq_get h o1 8 0 (fun v2 => gq_cv h l0 10 (f_TX_figure h l0 0 (v2 - 1)) (fun r4 h5 => gq_g (gx_i r4) (if r4 = (-1) then some (0, h5) else gq_cv h5 l0 10 (f_TX_figure h5 l0 1 9) (fun r7 h8 => gq_g (gx_i r7) (if r7 = (-1) then some (0, h8) else gq_gr h8 l1 9 1 (fun o10 => gq_ast 0 True h8 o10 r4 r7 (fun h11 => gq_cv h11 l0 10 (f_TX_readEnd h11 l0) (fun r12 h13 => gq_g ((r12 : Int) = 0 ∨ (r12 : Int) = 1) (some (r12, h13)))))))))))
set_option maxHeartbeats 4000000 in
set_option maxRecDepth 100000 in
theorem c_TX_readWorth (h : gx_H) (l0 : Nat) (l1 : Nat) : ∀ r h1, f_TX_readWorth h l0 l1 = some (r, h1) → gx_Met gm_TX_readWorth [gx_R l0, gx_R l1] h r h1 := by
  refine gx_enter (l := [some (gx_R l0), some (gx_R l1), none, none]) (by decide) (Nat.le_of_ble_eq_true rfl) rfl ?_
  unfold f_TX_readWorth
  refine gx_aload_n (i := 0) (by decide +kernel) rfl ?_
  refine gx_iconst (n := 0) (by decide +kernel) ?_
  refine gx_aload_n (i := 1) (by decide +kernel) rfl ?_
  refine gx_getr gk_ST (by decide) fl_TX_61 rfl (by decide +kernel) ?_
  refine gx_geti gk_SH (by decide) fl_TX_72 (Or.inl rfl) (by decide +kernel) (fun c3 => ?_)
  refine gx_iconst (n := 1) (by decide +kernel) ?_
  refine gx_isub (by decide +kernel) ?_
  refine gx_cVi2 (Mc := gm_TX_figure) (u' := (0, 0)) (c_TX_figure _ _ _ _) vk_TX_figure ml_TX_47 rfl rfl ⟨by decide, by decide, by decide, by decide⟩ (Nat.le_of_ble_eq_true rfl) (by decide +kernel) (fun r4 h5 => ?_)
  refine gx_istore_n (i := 2) (l' := [some (gx_R _), some (gx_R _), some (gx_I _), none]) (by decide +kernel) rfl (Nat.le_of_ble_eq_true rfl) (by decide) rfl ?_
  refine gx_iload_n (i := 2) (by decide +kernel) rfl ?_
  refine gx_iconst (n := (-1)) (by decide +kernel) ?_
  refine gx_g (fun c6 => ?_)
  refine gx_icmp_ne (off := 5) (tgt := 22) c6 (by decide) (by decide +kernel) (by decide) ?_ ?_
  · refine gx_aload_n (i := 0) (by decide +kernel) rfl ?_
    refine gx_iconst (n := 1) (by decide +kernel) ?_
    refine gx_bipush (n := 9) (by decide +kernel) (by decide) ?_
    refine gx_cVi2 (Mc := gm_TX_figure) (u' := (0, 0)) (c_TX_figure _ _ _ _) vk_TX_figure ml_TX_47 rfl rfl ⟨by decide, by decide, by decide, by decide⟩ (Nat.le_of_ble_eq_true rfl) (by decide +kernel) (fun r7 h8 => ?_)
    refine gx_istore_n (i := 3) (l' := [some (gx_R _), some (gx_R _), some (gx_I _), some (gx_I _)]) (by decide +kernel) rfl (Nat.le_of_ble_eq_true rfl) (by decide) rfl ?_
    refine gx_iload_n (i := 3) (by decide +kernel) rfl ?_
    refine gx_iconst (n := (-1)) (by decide +kernel) ?_
    refine gx_g (fun c9 => ?_)
    refine gx_icmp_ne (off := 5) (tgt := 37) c9 (by decide) (by decide +kernel) (by decide) ?_ ?_
    · refine gx_aload_n (i := 1) (by decide +kernel) rfl ?_
      refine gx_getr gk_ST (by decide) fl_TX_81 rfl (by decide +kernel) ?_
      refine gx_iload_n (i := 2) (by decide +kernel) rfl ?_
      refine gx_iload_n (i := 3) (by decide +kernel) rfl ?_
      refine gx_iastT c9 (by decide +kernel) ?_
      refine gx_aload_n (i := 0) (by decide +kernel) rfl ?_
      refine gx_cVi0 (Mc := gm_TX_readEnd) (u' := (0, 0)) (c_TX_readEnd _ _) vk_TX_readEnd ml_TX_57 rfl rfl ⟨by decide, by decide, by decide, by decide⟩ (Nat.le_of_ble_eq_true rfl) (by decide +kernel) (fun r12 h13 => ?_)
      refine gx_g (fun c14 => ?_)
      exact gx_zreturn c14 rfl rfl (by decide +kernel)
    · refine gx_iconst (n := 0) (by decide +kernel) ?_
      exact gx_zreturn (by decide) rfl rfl (by decide +kernel)
  · refine gx_iconst (n := 0) (by decide +kernel) ?_
    exact gx_zreturn (by decide) rfl rfl (by decide +kernel)
def f_TX_readClause (h : gx_H) (l0 : Nat) (l1 : Int) (l2 : Nat) : Option (Int × gx_H) :=
  gq_g (gx_i l1) (if l1 = 98 then gq_gr h l2 9 0 (fun o3 => gq_cv h l0 10 (f_TX_readHang h l0 o3) (fun r4 h5 => gq_g ((r4 : Int) = 0 ∨ (r4 : Int) = 1) (some (r4, h5)))) else if l1 = 110 then gq_cv h l0 10 (f_TX_blame h l0 3) (fun r8 h9 => gq_g ((r8 : Int) = 0 ∨ (r8 : Int) = 1) (some (r8, h9))) else if l1 = 120 then gq_cv h l0 10 (f_TX_readWorth h l0 l2) (fun r12 h13 => gq_g ((r12 : Int) = 0 ∨ (r12 : Int) = 1) (some (r12, h13))) else gq_cv h l0 10 (f_TX_blame h l0 1) (fun r15 h16 => gq_g ((r15 : Int) = 0 ∨ (r15 : Int) = 1) (some (r15, h16))))
set_option maxHeartbeats 4000000 in
set_option maxRecDepth 100000 in
theorem c_TX_readClause (h : gx_H) (l0 : Nat) (l1 : Int) (l2 : Nat) : ∀ r h1, f_TX_readClause h l0 l1 l2 = some (r, h1) → gx_Met gm_TX_readClause [gx_R l0, gx_I l1, gx_R l2] h r h1 := by
  refine gx_enter (l := [some (gx_R l0), some (gx_I l1), some (gx_R l2)]) (by decide) (Nat.le_of_ble_eq_true rfl) rfl ?_
  unfold f_TX_readClause
  refine gx_iload_n (i := 1) (by decide +kernel) rfl ?_
  refine gx_g (fun c1 => ?_)
  refine gx_ite (fun c2 => ?_) (fun c2 => ?_)
  · refine gx_look (dflt := 56) (ps := #[(98, 41), (110, 35), (120, 50)]) (len := 35) (off := 41) (tgt := 42) c1 (by decide +kernel) (by decide) (by rw [c2]; decide) (by decide) ?_
    refine gx_aload_n (i := 0) (by decide +kernel) rfl ?_
    refine gx_aload_n (i := 2) (by decide +kernel) rfl ?_
    refine gx_getr gk_ST (by decide) fl_TX_61 rfl (by decide +kernel) ?_
    refine gx_cVi1 (Mc := gm_TX_readHang) (u' := (0, 0)) (c_TX_readHang _ _ _) vk_TX_readHang ml_TX_65 rfl rfl ⟨by decide, by decide, by decide, by decide⟩ (Nat.le_of_ble_eq_true rfl) (by decide +kernel) (fun r4 h5 => ?_)
    refine gx_g (fun c6 => ?_)
    exact gx_zreturn c6 rfl rfl (by decide +kernel)
  · refine gx_ite (fun c7 => ?_) (fun c7 => ?_)
    · refine gx_look (dflt := 56) (ps := #[(98, 41), (110, 35), (120, 50)]) (len := 35) (off := 35) (tgt := 36) c1 (by decide +kernel) (by decide) (by rw [c7]; decide) (by decide) ?_
      refine gx_aload_n (i := 0) (by decide +kernel) rfl ?_
      refine gx_iconst (n := 3) (by decide +kernel) ?_
      refine gx_cVi1 (Mc := gm_TX_blame) (u' := (0, 0)) (c_TX_blame _ _ _) vk_TX_blame ml_TX_43 rfl rfl ⟨by decide, by decide, by decide, by decide⟩ (Nat.le_of_ble_eq_true rfl) (by decide +kernel) (fun r8 h9 => ?_)
      refine gx_g (fun c10 => ?_)
      exact gx_zreturn c10 rfl rfl (by decide +kernel)
    · refine gx_ite (fun c11 => ?_) (fun c11 => ?_)
      · refine gx_look (dflt := 56) (ps := #[(98, 41), (110, 35), (120, 50)]) (len := 35) (off := 50) (tgt := 51) c1 (by decide +kernel) (by decide) (by rw [c11]; decide) (by decide) ?_
        refine gx_aload_n (i := 0) (by decide +kernel) rfl ?_
        refine gx_aload_n (i := 2) (by decide +kernel) rfl ?_
        refine gx_cVi1 (Mc := gm_TX_readWorth) (u' := (0, 0)) (c_TX_readWorth _ _ _) vk_TX_readWorth ml_TX_69 rfl rfl ⟨by decide, by decide, by decide, by decide⟩ (Nat.le_of_ble_eq_true rfl) (by decide +kernel) (fun r12 h13 => ?_)
        refine gx_g (fun c14 => ?_)
        exact gx_zreturn c14 rfl rfl (by decide +kernel)
      · refine gx_look (dflt := 56) (ps := #[(98, 41), (110, 35), (120, 50)]) (len := 35) (off := 56) (tgt := 57) c1 (by decide +kernel) (by decide) (gx_lookd c2 c7 c11) (by decide) ?_
        refine gx_aload_n (i := 0) (by decide +kernel) rfl ?_
        refine gx_iconst (n := 1) (by decide +kernel) ?_
        refine gx_cVi1 (Mc := gm_TX_blame) (u' := (0, 0)) (c_TX_blame _ _ _) vk_TX_blame ml_TX_43 rfl rfl ⟨by decide, by decide, by decide, by decide⟩ (Nat.le_of_ble_eq_true rfl) (by decide +kernel) (fun r15 h16 => ?_)
        refine gx_g (fun c17 => ?_)
        exact gx_zreturn c17 rfl rfl (by decide +kernel)
def fb_TX_readInto_27 (N27 : gx_H → Nat → Nat → Int → Option (Int × gx_H)) (h : gx_H) (l0 : Nat) (l1 : Nat) (l2 : Int) : Option (Int × gx_H) :=
  gq_g (gx_i l2) (if l2 < 100 then gq_cv h l0 10 (f_TX_take h l0) (fun r2 h3 => gq_g (gx_i r2) (if r2 = (-1) then some (1, h3) else gq_cv h3 l0 10 (f_TX_readClause h3 l0 r2 l1) (fun r5 h6 => gq_g (gx_i r5) (if r5 = 0 then some (0, h6) else N27 h6 l0 l1 (l2 + 1))))) else some (1, h))
set_option maxHeartbeats 4000000 in
set_option maxRecDepth 100000 in
theorem yb_TX_readInto_27 (N27 : gx_H → Nat → Nat → Int → Option (Int × gx_H)) (hN27 : ∀ (h : gx_H) (l0 : Nat) (l1 : Nat) (l2 : Int), gx_Y gm_TX_readInto (0, 0) 27 [some (gx_R l0), some (gx_R l1), some (gx_I l2), none] [] h (N27 h l0 l1 l2)) (h : gx_H) (l0 : Nat) (l1 : Nat) (l2 : Int) : gx_Y gm_TX_readInto (0, 0) 27 [some (gx_R l0), some (gx_R l1), some (gx_I l2), none] [] h (fb_TX_readInto_27 N27 h l0 l1 l2) := by
  unfold fb_TX_readInto_27
  refine gx_iload_n (i := 2) (by decide +kernel) rfl ?_
  refine gx_bipush (n := 100) (by decide +kernel) (by decide) ?_
  refine gx_g (fun c1 => ?_)
  refine gx_icmp_ge (off := 32) (tgt := 62) c1 (by decide) (by decide +kernel) (by decide) ?_ ?_
  · refine gx_iconst (n := 1) (by decide +kernel) ?_
    exact gx_zreturn (by decide) rfl rfl (by decide +kernel)
  · refine gx_aload_n (i := 0) (by decide +kernel) rfl ?_
    refine gx_cVi0 (Mc := gm_TX_take) (u' := (0, 0)) (c_TX_take _ _) vk_TX_take ml_TX_35 rfl rfl ⟨by decide, by decide, by decide, by decide⟩ (Nat.le_of_ble_eq_true rfl) (by decide +kernel) (fun r2 h3 => ?_)
    refine gx_istore_n (i := 3) (l' := [some (gx_R _), some (gx_R _), some (gx_I _), some (gx_I _)]) (by decide +kernel) rfl (Nat.le_of_ble_eq_true rfl) (by decide) rfl ?_
    refine gx_iload_n (i := 3) (by decide +kernel) rfl ?_
    refine gx_iconst (n := (-1)) (by decide +kernel) ?_
    refine gx_g (fun c4 => ?_)
    refine gx_icmp_ne (off := 5) (tgt := 45) c4 (by decide) (by decide +kernel) (by decide) ?_ ?_
    · refine gx_aload_n (i := 0) (by decide +kernel) rfl ?_
      refine gx_iload_n (i := 3) (by decide +kernel) rfl ?_
      refine gx_aload_n (i := 1) (by decide +kernel) rfl ?_
      refine gx_cVi2 (Mc := gm_TX_readClause) (u' := (0, 0)) (c_TX_readClause _ _ _ _) vk_TX_readClause ml_TX_39 rfl rfl ⟨by decide, by decide, by decide, by decide⟩ (Nat.le_of_ble_eq_true rfl) (by decide +kernel) (fun r5 h6 => ?_)
      refine gx_g (fun c7 => ?_)
      refine gx_if_ne (off := 5) (tgt := 56) c7 (by decide +kernel) (by decide) ?_ ?_
      · refine gx_iinc (i := 2) (n := 1) (l' := [some (gx_R _), some (gx_R _), some (gx_I _), some (gx_I _)]) (by decide +kernel) rfl rfl (Nat.le_of_ble_eq_true rfl) (by decide) rfl ?_
        refine gx_goto (off := -32) (tgt := 27) (by decide +kernel) (by decide) ?_
        exact gx_less' (hN27 _ _ _ _) ⟨rfl, rfl, rfl, trivial⟩
      · refine gx_iconst (n := 0) (by decide +kernel) ?_
        exact gx_zreturn (by decide) rfl rfl (by decide +kernel)
    · refine gx_iconst (n := 1) (by decide +kernel) ?_
      exact gx_zreturn (by decide) rfl rfl (by decide +kernel)
def f_TX_readInto_27 : Nat → gx_H → Nat → Nat → Int → Option (Int × gx_H)
  | 0 => fun _ _ _ _ => none
  | fu + 1 => fb_TX_readInto_27 (f_TX_readInto_27 fu)
theorem y_TX_readInto_27 : ∀ (fu : Nat) (h : gx_H) (l0 : Nat) (l1 : Nat) (l2 : Int), gx_Y gm_TX_readInto (0, 0) 27 [some (gx_R l0), some (gx_R l1), some (gx_I l2), none] [] h (f_TX_readInto_27 fu h l0 l1 l2) := by
  intro fu
  induction fu with
  | zero => intro h l0 l1 l2; exact gx_none
  | succ fu ih => intro h l0 l1 l2; exact yb_TX_readInto_27 (f_TX_readInto_27 fu) ih h l0 l1 l2
def f_TX_readInto (h : gx_H) (l0 : Nat) (l1 : Nat) : Option (Int × gx_H) :=
  gq_put True h l0 10 4 0 (fun h1 => gq_put True h1 l0 10 2 0 (fun h2 => gq_put True h2 l0 10 3 (-1) (fun h3 => gq_cv h3 l0 10 (f_TX_readCount h3 l0 l1) (fun r4 h5 => gq_g (gx_i r4) (if r4 = 0 then some (0, h5) else f_TX_readInto_27 gx_fu h5 l0 l1 0)))))
set_option maxHeartbeats 4000000 in
set_option maxRecDepth 100000 in
theorem c_TX_readInto (h : gx_H) (l0 : Nat) (l1 : Nat) : ∀ r h1, f_TX_readInto h l0 l1 = some (r, h1) → gx_Met gm_TX_readInto [gx_R l0, gx_R l1] h r h1 := by
  refine gx_enter (l := [some (gx_R l0), some (gx_R l1), none, none]) (by decide) (Nat.le_of_ble_eq_true rfl) rfl ?_
  unfold f_TX_readInto
  refine gx_aload_n (i := 0) (by decide +kernel) rfl ?_
  refine gx_iconst (n := 0) (by decide +kernel) ?_
  refine gx_putiT (by decide) gk_TX (by decide) fl_TX_25 rfl rfl (by decide +kernel) ?_
  refine gx_aload_n (i := 0) (by decide +kernel) rfl ?_
  refine gx_iconst (n := 0) (by decide +kernel) ?_
  refine gx_putiT (by decide) gk_TX (by decide) fl_TX_19 rfl rfl (by decide +kernel) ?_
  refine gx_aload_n (i := 0) (by decide +kernel) rfl ?_
  refine gx_iconst (n := (-1)) (by decide +kernel) ?_
  refine gx_putiT (by decide) gk_TX (by decide) fl_TX_22 rfl rfl (by decide +kernel) ?_
  refine gx_aload_n (i := 0) (by decide +kernel) rfl ?_
  refine gx_aload_n (i := 1) (by decide +kernel) rfl ?_
  refine gx_cVi1 (Mc := gm_TX_readCount) (u' := (0, 0)) (c_TX_readCount _ _ _) vk_TX_readCount ml_TX_31 rfl rfl ⟨by decide, by decide, by decide, by decide⟩ (Nat.le_of_ble_eq_true rfl) (by decide +kernel) (fun r4 h5 => ?_)
  refine gx_g (fun c6 => ?_)
  refine gx_if_ne (off := 5) (tgt := 25) c6 (by decide +kernel) (by decide) ?_ ?_
  · refine gx_iconst (n := 0) (by decide +kernel) ?_
    refine gx_istore_n (i := 2) (l' := [some (gx_R _), some (gx_R _), some (gx_I _), none]) (by decide +kernel) rfl (Nat.le_of_ble_eq_true rfl) (by decide) rfl ?_
    exact gx_less' (y_TX_readInto_27 gx_fu _ _ _ _) ⟨rfl, rfl, rfl, trivial⟩
  · refine gx_iconst (n := 0) (by decide +kernel) ?_
    exact gx_zreturn (by decide) rfl rfl (by decide +kernel)
def f_LE_letters (h : gx_H) (l0 : Nat) : Option (Int × gx_H) :=
  gq_gr h l0 0 0 (fun o1 => gq_gr h l0 0 14 (fun o2 => gq_cv h o1 10 (f_TX_readInto h o1 o2) (fun r3 h4 => gq_gr h4 l0 0 0 (fun o5 => gq_put True h4 o5 10 1 0 (fun h6 => gq_g (gx_i r3) (if r3 = 0 then gq_gr h6 l0 0 0 (fun o14 => gq_get h6 o14 10 2 (fun v15 => some (((-10) - v15), h6))) else gq_cv h6 l0 0 (f_LE_beginAsSpare h6 l0) (fun r8 h9 => gq_gr h9 l0 0 13 (fun o10 => gq_gr h9 o10 9 0 (fun o11 => gq_get h9 o11 8 0 (fun v12 => some (v12, h9)))))))))))
set_option maxHeartbeats 4000000 in
set_option maxRecDepth 100000 in
theorem c_LE_letters (h : gx_H) (l0 : Nat) : ∀ r h1, f_LE_letters h l0 = some (r, h1) → gx_Met gm_LE_letters [gx_R l0] h r h1 := by
  refine gx_enter (l := [some (gx_R l0), none]) (by decide) (Nat.le_of_ble_eq_true rfl) rfl ?_
  unfold f_LE_letters
  refine gx_aload_n (i := 0) (by decide +kernel) rfl ?_
  refine gx_getr gk_LE (by decide) fl_LE_12 rfl (by decide +kernel) ?_
  refine gx_aload_n (i := 0) (by decide +kernel) rfl ?_
  refine gx_getr gk_LE (by decide) fl_LE_90 rfl (by decide +kernel) ?_
  refine gx_cVi1 (Mc := gm_TX_readInto) (u' := (0, 0)) (c_TX_readInto _ _ _) vk_TX_readInto ml_LE_130 rfl rfl ⟨by decide, by decide, by decide, by decide⟩ (Nat.le_of_ble_eq_true rfl) (by decide +kernel) (fun r3 h4 => ?_)
  refine gx_istore_n (i := 1) (l' := [some (gx_R _), some (gx_I _)]) (by decide +kernel) rfl (Nat.le_of_ble_eq_true rfl) (by decide) rfl ?_
  refine gx_aload_n (i := 0) (by decide +kernel) rfl ?_
  refine gx_getr gk_LE (by decide) fl_LE_12 rfl (by decide +kernel) ?_
  refine gx_iconst (n := 0) (by decide +kernel) ?_
  refine gx_putiT (by decide) gk_TX (by decide) fl_LE_126 rfl rfl (by decide +kernel) ?_
  refine gx_iload_n (i := 1) (by decide +kernel) rfl ?_
  refine gx_g (fun c7 => ?_)
  refine gx_if_ne (off := 14) (tgt := 35) c7 (by decide +kernel) (by decide) ?_ ?_
  · refine gx_aload_n (i := 0) (by decide +kernel) rfl ?_
    refine gx_cVv0 (Mc := gm_LE_beginAsSpare) (u' := (0, 0)) (c_LE_beginAsSpare _ _) vk_LE_beginAsSpare ml_LE_118 rfl rfl ⟨by decide, by decide, by decide, by decide⟩ (Nat.le_of_ble_eq_true rfl) (by decide +kernel) (fun r8 h9 => ?_)
    refine gx_aload_n (i := 0) (by decide +kernel) rfl ?_
    refine gx_getr gk_LE (by decide) fl_LE_87 rfl (by decide +kernel) ?_
    refine gx_getr gk_ST (by decide) fl_LE_108 rfl (by decide +kernel) ?_
    refine gx_geti gk_SH (by decide) fl_LE_137 (Or.inl rfl) (by decide +kernel) (fun c13 => ?_)
    exact gx_ireturn rfl rfl (by decide +kernel)
  · refine gx_bipush (n := (-10)) (by decide +kernel) (by decide) ?_
    refine gx_aload_n (i := 0) (by decide +kernel) rfl ?_
    refine gx_getr gk_LE (by decide) fl_LE_12 rfl (by decide +kernel) ?_
    refine gx_geti gk_TX (by decide) fl_LE_134 (Or.inl rfl) (by decide +kernel) (fun c16 => ?_)
    refine gx_isub (by decide +kernel) ?_
    exact gx_ireturn rfl rfl (by decide +kernel)
def f_LE_fault (h : gx_H) (l0 : Nat) : Option (Int × gx_H) :=
  gq_gr h l0 0 0 (fun o1 => gq_get h o1 10 3 (fun v2 => some (v2, h)))
set_option maxHeartbeats 4000000 in
set_option maxRecDepth 100000 in
theorem c_LE_fault (h : gx_H) (l0 : Nat) : ∀ r h1, f_LE_fault h l0 = some (r, h1) → gx_Met gm_LE_fault [gx_R l0] h r h1 := by
  refine gx_enter (l := [some (gx_R l0)]) (by decide) (Nat.le_of_ble_eq_true rfl) rfl ?_
  unfold f_LE_fault
  refine gx_aload_n (i := 0) (by decide +kernel) rfl ?_
  refine gx_getr gk_LE (by decide) fl_LE_12 rfl (by decide +kernel) ?_
  refine gx_geti gk_TX (by decide) fl_LE_140 (Or.inl rfl) (by decide +kernel) (fun c3 => ?_)
  exact gx_ireturn rfl rfl (by decide +kernel)
def fb_SH_isMild_12 (N2 : gx_H → Nat → Int → Option (Int × gx_H)) (N12 : gx_H → Nat → Int → Int → Option (Int × gx_H)) (h : gx_H) (l0 : Nat) (l1 : Int) (l2 : Int) : Option (Int × gx_H) :=
  gq_g (gx_i l2) (gq_g (gx_i l1) (if l2 < l1 then gq_gr h l0 8 1 (fun o3 => gq_call (f_LE_cell h l1 l2) (fun r4 h5 => gq_ald 0 h5 o3 r4 (fun v6 => gq_gr h5 l0 8 1 (fun o8 => gq_call (f_LE_cell h5 l2 l1) (fun r9 h10 => gq_ald 0 h10 o8 r9 (fun v11 => gq_g (gx_i (v6 * v11)) (if (v6 * v11) < (-3) then some (0, h10) else N12 h10 l0 l1 (l2 + 1)))))))) else N2 h l0 (l1 + 1)))
set_option maxHeartbeats 4000000 in
set_option maxRecDepth 100000 in
theorem yb_SH_isMild_12 (N2 : gx_H → Nat → Int → Option (Int × gx_H)) (hN2 : ∀ (h : gx_H) (l0 : Nat) (l1 : Int), gx_Y gm_SH_isMild (0, 0) 2 [some (gx_R l0), some (gx_I l1), none] [] h (N2 h l0 l1)) (N12 : gx_H → Nat → Int → Int → Option (Int × gx_H)) (hN12 : ∀ (h : gx_H) (l0 : Nat) (l1 : Int) (l2 : Int), gx_Y gm_SH_isMild (0, 0) 12 [some (gx_R l0), some (gx_I l1), some (gx_I l2)] [] h (N12 h l0 l1 l2)) (h : gx_H) (l0 : Nat) (l1 : Int) (l2 : Int) : gx_Y gm_SH_isMild (0, 0) 12 [some (gx_R l0), some (gx_I l1), some (gx_I l2)] [] h (fb_SH_isMild_12 N2 N12 h l0 l1 l2) := by
  unfold fb_SH_isMild_12
  refine gx_iload_n (i := 2) (by decide +kernel) rfl ?_
  refine gx_iload_n (i := 1) (by decide +kernel) rfl ?_
  refine gx_g (fun c1 => ?_)
  refine gx_g (fun c2 => ?_)
  refine gx_icmp_ge (off := 37) (tgt := 51) c1 c2 (by decide +kernel) (by decide) ?_ ?_
  · refine gx_iinc (i := 1) (n := 1) (l' := [some (gx_R _), some (gx_I _), some (gx_I _)]) (by decide +kernel) rfl rfl (Nat.le_of_ble_eq_true rfl) (by decide) rfl ?_
    refine gx_goto (off := -52) (tgt := 2) (by decide +kernel) (by decide) ?_
    exact gx_less' (hN2 _ _ _) ⟨rfl, rfl, trivial⟩
  · refine gx_aload_n (i := 0) (by decide +kernel) rfl ?_
    refine gx_getr gk_SH (by decide) fl_SH_15 rfl (by decide +kernel) ?_
    refine gx_iload_n (i := 1) (by decide +kernel) rfl ?_
    refine gx_iload_n (i := 2) (by decide +kernel) rfl ?_
    refine gx_cSNi2 (Mc := gm_LE_cell) (u' := (0, 0)) (c_LE_cell _ _ _) sk_LE_cell ml_SH_22 rfl rfl ⟨by decide, by decide, by decide, by decide⟩ (Nat.le_of_ble_eq_true rfl) (by decide +kernel) (fun r4 h5 => ?_)
    refine gx_ialdi (by decide +kernel) (fun c7 => ?_)
    refine gx_aload_n (i := 0) (by decide +kernel) rfl ?_
    refine gx_getr gk_SH (by decide) fl_SH_15 rfl (by decide +kernel) ?_
    refine gx_iload_n (i := 2) (by decide +kernel) rfl ?_
    refine gx_iload_n (i := 1) (by decide +kernel) rfl ?_
    refine gx_cSNi2 (Mc := gm_LE_cell) (u' := (0, 0)) (c_LE_cell _ _ _) sk_LE_cell ml_SH_22 rfl rfl ⟨by decide, by decide, by decide, by decide⟩ (Nat.le_of_ble_eq_true rfl) (by decide +kernel) (fun r9 h10 => ?_)
    refine gx_ialdi (by decide +kernel) (fun c12 => ?_)
    refine gx_imul (by decide +kernel) ?_
    refine gx_bipush (n := (-3)) (by decide +kernel) (by decide) ?_
    refine gx_g (fun c13 => ?_)
    refine gx_icmp_ge (off := 5) (tgt := 45) c13 (by decide) (by decide +kernel) (by decide) ?_ ?_
    · refine gx_iinc (i := 2) (n := 1) (l' := [some (gx_R _), some (gx_I _), some (gx_I _)]) (by decide +kernel) rfl rfl (Nat.le_of_ble_eq_true rfl) (by decide) rfl ?_
      refine gx_goto (off := -36) (tgt := 12) (by decide +kernel) (by decide) ?_
      exact gx_less' (hN12 _ _ _ _) ⟨rfl, rfl, rfl, trivial⟩
    · refine gx_iconst (n := 0) (by decide +kernel) ?_
      exact gx_zreturn (by decide) rfl rfl (by decide +kernel)
def f_SH_isMild_12 (N2 : gx_H → Nat → Int → Option (Int × gx_H)) : Nat → gx_H → Nat → Int → Int → Option (Int × gx_H)
  | 0 => fun _ _ _ _ => none
  | fu + 1 => fb_SH_isMild_12 N2 (f_SH_isMild_12 N2 fu)
theorem y_SH_isMild_12 (N2 : gx_H → Nat → Int → Option (Int × gx_H)) (hN2 : ∀ (h : gx_H) (l0 : Nat) (l1 : Int), gx_Y gm_SH_isMild (0, 0) 2 [some (gx_R l0), some (gx_I l1), none] [] h (N2 h l0 l1)) : ∀ (fu : Nat) (h : gx_H) (l0 : Nat) (l1 : Int) (l2 : Int), gx_Y gm_SH_isMild (0, 0) 12 [some (gx_R l0), some (gx_I l1), some (gx_I l2)] [] h (f_SH_isMild_12 N2 fu h l0 l1 l2) := by
  intro fu
  induction fu with
  | zero => intro h l0 l1 l2; exact gx_none
  | succ fu ih => intro h l0 l1 l2; exact yb_SH_isMild_12 N2 hN2 (f_SH_isMild_12 N2 fu) ih h l0 l1 l2
def fb_SH_isMild_2 (N2 : gx_H → Nat → Int → Option (Int × gx_H)) (h : gx_H) (l0 : Nat) (l1 : Int) : Option (Int × gx_H) :=
  gq_get h l0 8 0 (fun v1 => gq_g (gx_i l1) (if l1 < v1 then f_SH_isMild_12 N2 gx_fu h l0 l1 0 else some (1, h)))
set_option maxHeartbeats 4000000 in
set_option maxRecDepth 100000 in
theorem yb_SH_isMild_2 (N2 : gx_H → Nat → Int → Option (Int × gx_H)) (hN2 : ∀ (h : gx_H) (l0 : Nat) (l1 : Int), gx_Y gm_SH_isMild (0, 0) 2 [some (gx_R l0), some (gx_I l1), none] [] h (N2 h l0 l1)) (h : gx_H) (l0 : Nat) (l1 : Int) : gx_Y gm_SH_isMild (0, 0) 2 [some (gx_R l0), some (gx_I l1), none] [] h (fb_SH_isMild_2 N2 h l0 l1) := by
  unfold fb_SH_isMild_2
  refine gx_iload_n (i := 1) (by decide +kernel) rfl ?_
  refine gx_aload_n (i := 0) (by decide +kernel) rfl ?_
  refine gx_geti gk_SH (by decide) fl_SH_9 (Or.inl rfl) (by decide +kernel) (fun c2 => ?_)
  refine gx_g (fun c3 => ?_)
  refine gx_icmp_ge (off := 50) (tgt := 57) c3 c2 (by decide +kernel) (by decide) ?_ ?_
  · refine gx_iconst (n := 1) (by decide +kernel) ?_
    exact gx_zreturn (by decide) rfl rfl (by decide +kernel)
  · refine gx_iconst (n := 0) (by decide +kernel) ?_
    refine gx_istore_n (i := 2) (l' := [some (gx_R _), some (gx_I _), some (gx_I _)]) (by decide +kernel) rfl (Nat.le_of_ble_eq_true rfl) (by decide) rfl ?_
    exact gx_less' (y_SH_isMild_12 _ hN2 gx_fu _ _ _ _) ⟨rfl, rfl, rfl, trivial⟩
def f_SH_isMild_2 : Nat → gx_H → Nat → Int → Option (Int × gx_H)
  | 0 => fun _ _ _ => none
  | fu + 1 => fb_SH_isMild_2 (f_SH_isMild_2 fu)
theorem y_SH_isMild_2 : ∀ (fu : Nat) (h : gx_H) (l0 : Nat) (l1 : Int), gx_Y gm_SH_isMild (0, 0) 2 [some (gx_R l0), some (gx_I l1), none] [] h (f_SH_isMild_2 fu h l0 l1) := by
  intro fu
  induction fu with
  | zero => intro h l0 l1; exact gx_none
  | succ fu ih => intro h l0 l1; exact yb_SH_isMild_2 (f_SH_isMild_2 fu) ih h l0 l1
def f_SH_isMild (h : gx_H) (l0 : Nat) : Option (Int × gx_H) :=
  f_SH_isMild_2 gx_fu h l0 0
set_option maxHeartbeats 4000000 in
set_option maxRecDepth 100000 in
theorem c_SH_isMild (h : gx_H) (l0 : Nat) : ∀ r h1, f_SH_isMild h l0 = some (r, h1) → gx_Met gm_SH_isMild [gx_R l0] h r h1 := by
  refine gx_enter (l := [some (gx_R l0), none, none]) (by decide) (Nat.le_of_ble_eq_true rfl) rfl ?_
  unfold f_SH_isMild
  refine gx_iconst (n := 0) (by decide +kernel) ?_
  refine gx_istore_n (i := 1) (l' := [some (gx_R _), some (gx_I _), none]) (by decide +kernel) rfl (Nat.le_of_ble_eq_true rfl) (by decide) rfl ?_
  exact gx_less' (y_SH_isMild_2 gx_fu _ _ _) ⟨rfl, rfl, trivial⟩
def fb_LE_codeOf_5 (N5 : gx_H → Nat → Int → Int → Int → Int → Option (Int × gx_H)) (h : gx_H) (l0 : Nat) (l1 : Int) (l2 : Int) (l3 : Int) (l4 : Int) : Option (Int × gx_H) :=
  gq_g (gx_i l4) (gq_g (gx_i l2) (if l4 < l2 then gq_call (f_LE_cell h l1 l4) (fun r3 h4 => gq_ald 0 h4 l0 r3 (fun v5 => N5 h4 l0 l1 l2 (((l3 * 200) + v5) + 100) (l4 + 1))) else some (l3, h)))
set_option maxHeartbeats 4000000 in
set_option maxRecDepth 100000 in
theorem yb_LE_codeOf_5 (N5 : gx_H → Nat → Int → Int → Int → Int → Option (Int × gx_H)) (hN5 : ∀ (h : gx_H) (l0 : Nat) (l1 : Int) (l2 : Int) (l3 : Int) (l4 : Int), gx_Y gm_LE_codeOf (0, 0) 5 [some (gx_R l0), some (gx_I l1), some (gx_I l2), some (gx_I l3), some (gx_I l4)] [] h (N5 h l0 l1 l2 l3 l4)) (h : gx_H) (l0 : Nat) (l1 : Int) (l2 : Int) (l3 : Int) (l4 : Int) : gx_Y gm_LE_codeOf (0, 0) 5 [some (gx_R l0), some (gx_I l1), some (gx_I l2), some (gx_I l3), some (gx_I l4)] [] h (fb_LE_codeOf_5 N5 h l0 l1 l2 l3 l4) := by
  unfold fb_LE_codeOf_5
  refine gx_iload (i := 4) (by decide +kernel) rfl ?_
  refine gx_iload_n (i := 2) (by decide +kernel) rfl ?_
  refine gx_g (fun c1 => ?_)
  refine gx_g (fun c2 => ?_)
  refine gx_icmp_ge (off := 27) (tgt := 35) c1 c2 (by decide +kernel) (by decide) ?_ ?_
  · refine gx_iload_n (i := 3) (by decide +kernel) rfl ?_
    exact gx_ireturn rfl rfl (by decide +kernel)
  · refine gx_iload_n (i := 3) (by decide +kernel) rfl ?_
    refine gx_sipush (n := 200) (by decide +kernel) (by decide) ?_
    refine gx_imul (by decide +kernel) ?_
    refine gx_aload_n (i := 0) (by decide +kernel) rfl ?_
    refine gx_iload_n (i := 1) (by decide +kernel) rfl ?_
    refine gx_iload (i := 4) (by decide +kernel) rfl ?_
    refine gx_cSi2 (Mc := gm_LE_cell) (u' := (0, 0)) (c_LE_cell _ _ _) sk_LE_cell ml_LE_176 rfl rfl ⟨by decide, by decide, by decide, by decide⟩ (Nat.le_of_ble_eq_true rfl) (by decide +kernel) (fun r3 h4 => ?_)
    refine gx_ialdi (by decide +kernel) (fun c6 => ?_)
    refine gx_iadd (by decide +kernel) ?_
    refine gx_bipush (n := 100) (by decide +kernel) (by decide) ?_
    refine gx_iadd (by decide +kernel) ?_
    refine gx_istore_n (i := 3) (l' := [some (gx_R _), some (gx_I _), some (gx_I _), some (gx_I _), some (gx_I _)]) (by decide +kernel) rfl (Nat.le_of_ble_eq_true rfl) (by decide) rfl ?_
    refine gx_iinc (i := 4) (n := 1) (l' := [some (gx_R _), some (gx_I _), some (gx_I _), some (gx_I _), some (gx_I _)]) (by decide +kernel) rfl rfl (Nat.le_of_ble_eq_true rfl) (by decide) rfl ?_
    refine gx_goto (off := -27) (tgt := 5) (by decide +kernel) (by decide) ?_
    exact gx_less' (hN5 _ _ _ _ _ _) ⟨rfl, rfl, rfl, rfl, rfl, trivial⟩
def f_LE_codeOf_5 : Nat → gx_H → Nat → Int → Int → Int → Int → Option (Int × gx_H)
  | 0 => fun _ _ _ _ _ _ => none
  | fu + 1 => fb_LE_codeOf_5 (f_LE_codeOf_5 fu)
theorem y_LE_codeOf_5 : ∀ (fu : Nat) (h : gx_H) (l0 : Nat) (l1 : Int) (l2 : Int) (l3 : Int) (l4 : Int), gx_Y gm_LE_codeOf (0, 0) 5 [some (gx_R l0), some (gx_I l1), some (gx_I l2), some (gx_I l3), some (gx_I l4)] [] h (f_LE_codeOf_5 fu h l0 l1 l2 l3 l4) := by
  intro fu
  induction fu with
  | zero => intro h l0 l1 l2 l3 l4; exact gx_none
  | succ fu ih => intro h l0 l1 l2 l3 l4; exact yb_LE_codeOf_5 (f_LE_codeOf_5 fu) ih h l0 l1 l2 l3 l4
def f_LE_codeOf (h : gx_H) (l0 : Nat) (l1 : Int) (l2 : Int) : Option (Int × gx_H) :=
  f_LE_codeOf_5 gx_fu h l0 l1 l2 0 0
set_option maxHeartbeats 4000000 in
set_option maxRecDepth 100000 in
theorem c_LE_codeOf (h : gx_H) (l0 : Nat) (l1 : Int) (l2 : Int) : ∀ r h1, f_LE_codeOf h l0 l1 l2 = some (r, h1) → gx_Met gm_LE_codeOf [gx_R l0, gx_I l1, gx_I l2] h r h1 := by
  refine gx_enter (l := [some (gx_R l0), some (gx_I l1), some (gx_I l2), none, none]) (by decide) (Nat.le_of_ble_eq_true rfl) rfl ?_
  unfold f_LE_codeOf
  refine gx_iconst (n := 0) (by decide +kernel) ?_
  refine gx_istore_n (i := 3) (l' := [some (gx_R _), some (gx_I _), some (gx_I _), some (gx_I _), none]) (by decide +kernel) rfl (Nat.le_of_ble_eq_true rfl) (by decide) rfl ?_
  refine gx_iconst (n := 0) (by decide +kernel) ?_
  refine gx_istore (i := 4) (l' := [some (gx_R _), some (gx_I _), some (gx_I _), some (gx_I _), some (gx_I _)]) (by decide +kernel) rfl (Nat.le_of_ble_eq_true rfl) (by decide) rfl ?_
  exact gx_less' (y_LE_codeOf_5 gx_fu _ _ _ _ _ _) ⟨rfl, rfl, rfl, rfl, rfl, trivial⟩
def fb_LE_placeAmong_40 (N5 : gx_H → Nat → Int → Int → Int → Int → Option (Int × gx_H)) (h : gx_H) (l0 : Nat) (l1 : Int) (l2 : Int) (l3 : Int) (l4 : Int) : Option (Int × gx_H) :=
  N5 h l0 l1 l2 l3 (l4 + 1)
set_option maxHeartbeats 4000000 in
set_option maxRecDepth 100000 in
theorem y_LE_placeAmong_40 (N5 : gx_H → Nat → Int → Int → Int → Int → Option (Int × gx_H)) (hN5 : ∀ (h : gx_H) (l0 : Nat) (l1 : Int) (l2 : Int) (l3 : Int) (l4 : Int), gx_Y gm_LE_placeAmong (0, 0) 5 [some (gx_R l0), some (gx_I l1), some (gx_I l2), some (gx_I l3), some (gx_I l4)] [] h (N5 h l0 l1 l2 l3 l4)) (h : gx_H) (l0 : Nat) (l1 : Int) (l2 : Int) (l3 : Int) (l4 : Int) : gx_Y gm_LE_placeAmong (0, 0) 40 [some (gx_R l0), some (gx_I l1), some (gx_I l2), some (gx_I l3), some (gx_I l4)] [] h (fb_LE_placeAmong_40 N5 h l0 l1 l2 l3 l4) := by
  unfold fb_LE_placeAmong_40
  refine gx_iinc (i := 4) (n := 1) (l' := [some (gx_R _), some (gx_I _), some (gx_I _), some (gx_I _), some (gx_I _)]) (by decide +kernel) rfl rfl (Nat.le_of_ble_eq_true rfl) (by decide) rfl ?_
  refine gx_goto (off := -38) (tgt := 5) (by decide +kernel) (by decide) ?_
  exact gx_less' (hN5 _ _ _ _ _ _) ⟨rfl, rfl, rfl, rfl, rfl, trivial⟩
def fb_LE_placeAmong_37 (N5 : gx_H → Nat → Int → Int → Int → Int → Option (Int × gx_H)) (h : gx_H) (l0 : Nat) (l1 : Int) (l2 : Int) (l3 : Int) (l4 : Int) : Option (Int × gx_H) :=
  fb_LE_placeAmong_40 N5 h l0 l1 l2 (l3 + 1) l4
set_option maxHeartbeats 4000000 in
set_option maxRecDepth 100000 in
theorem y_LE_placeAmong_37 (N5 : gx_H → Nat → Int → Int → Int → Int → Option (Int × gx_H)) (hN5 : ∀ (h : gx_H) (l0 : Nat) (l1 : Int) (l2 : Int) (l3 : Int) (l4 : Int), gx_Y gm_LE_placeAmong (0, 0) 5 [some (gx_R l0), some (gx_I l1), some (gx_I l2), some (gx_I l3), some (gx_I l4)] [] h (N5 h l0 l1 l2 l3 l4)) (h : gx_H) (l0 : Nat) (l1 : Int) (l2 : Int) (l3 : Int) (l4 : Int) : gx_Y gm_LE_placeAmong (0, 0) 37 [some (gx_R l0), some (gx_I l1), some (gx_I l2), some (gx_I l3), some (gx_I l4)] [] h (fb_LE_placeAmong_37 N5 h l0 l1 l2 l3 l4) := by
  unfold fb_LE_placeAmong_37
  refine gx_iinc (i := 3) (n := 1) (l' := [some (gx_R _), some (gx_I _), some (gx_I _), some (gx_I _), some (gx_I _)]) (by decide +kernel) rfl rfl (Nat.le_of_ble_eq_true rfl) (by decide) rfl ?_
  exact gx_less' (y_LE_placeAmong_40 _ hN5 _ _ _ _ _ _) ⟨rfl, rfl, rfl, rfl, rfl, trivial⟩
def fb_LE_placeAmong_5 (N5 : gx_H → Nat → Int → Int → Int → Int → Option (Int × gx_H)) (h : gx_H) (l0 : Nat) (l1 : Int) (l2 : Int) (l3 : Int) (l4 : Int) : Option (Int × gx_H) :=
  gq_g (gx_i l4) (gq_g (gx_i l1) (if l4 < l1 then gq_ald 0 h l0 l4 (fun v3 => gq_ald 0 h l0 l2 (fun v5 => if v3 < v5 then fb_LE_placeAmong_37 N5 h l0 l1 l2 l3 l4 else gq_ald 0 h l0 l4 (fun v7 => gq_ald 0 h l0 l2 (fun v9 => if v7 = v9 then gq_g (gx_i l2) (if l4 < l2 then fb_LE_placeAmong_37 N5 h l0 l1 l2 l3 l4 else fb_LE_placeAmong_40 N5 h l0 l1 l2 l3 l4) else fb_LE_placeAmong_40 N5 h l0 l1 l2 l3 l4)))) else some (l3, h)))
set_option maxHeartbeats 4000000 in
set_option maxRecDepth 100000 in
theorem yb_LE_placeAmong_5 (N5 : gx_H → Nat → Int → Int → Int → Int → Option (Int × gx_H)) (hN5 : ∀ (h : gx_H) (l0 : Nat) (l1 : Int) (l2 : Int) (l3 : Int) (l4 : Int), gx_Y gm_LE_placeAmong (0, 0) 5 [some (gx_R l0), some (gx_I l1), some (gx_I l2), some (gx_I l3), some (gx_I l4)] [] h (N5 h l0 l1 l2 l3 l4)) (h : gx_H) (l0 : Nat) (l1 : Int) (l2 : Int) (l3 : Int) (l4 : Int) : gx_Y gm_LE_placeAmong (0, 0) 5 [some (gx_R l0), some (gx_I l1), some (gx_I l2), some (gx_I l3), some (gx_I l4)] [] h (fb_LE_placeAmong_5 N5 h l0 l1 l2 l3 l4) := by
  unfold fb_LE_placeAmong_5
  refine gx_iload (i := 4) (by decide +kernel) rfl ?_
  refine gx_iload_n (i := 1) (by decide +kernel) rfl ?_
  refine gx_g (fun c1 => ?_)
  refine gx_g (fun c2 => ?_)
  refine gx_icmp_ge (off := 38) (tgt := 46) c1 c2 (by decide +kernel) (by decide) ?_ ?_
  · refine gx_iload_n (i := 3) (by decide +kernel) rfl ?_
    exact gx_ireturn rfl rfl (by decide +kernel)
  · refine gx_aload_n (i := 0) (by decide +kernel) rfl ?_
    refine gx_iload (i := 4) (by decide +kernel) rfl ?_
    refine gx_ialdi (by decide +kernel) (fun c4 => ?_)
    refine gx_aload_n (i := 0) (by decide +kernel) rfl ?_
    refine gx_iload_n (i := 2) (by decide +kernel) rfl ?_
    refine gx_ialdi (by decide +kernel) (fun c6 => ?_)
    refine gx_icmp_lt (off := 19) (tgt := 37) c4 c6 (by decide +kernel) (by decide) ?_ ?_
    · exact gx_less' (y_LE_placeAmong_37 _ hN5 _ _ _ _ _ _) ⟨rfl, rfl, rfl, rfl, rfl, trivial⟩
    · refine gx_aload_n (i := 0) (by decide +kernel) rfl ?_
      refine gx_iload (i := 4) (by decide +kernel) rfl ?_
      refine gx_ialdi (by decide +kernel) (fun c8 => ?_)
      refine gx_aload_n (i := 0) (by decide +kernel) rfl ?_
      refine gx_iload_n (i := 2) (by decide +kernel) rfl ?_
      refine gx_ialdi (by decide +kernel) (fun c10 => ?_)
      refine gx_icmp_ne (off := 12) (tgt := 40) c8 c10 (by decide +kernel) (by decide) ?_ ?_
      · exact gx_less' (y_LE_placeAmong_40 _ hN5 _ _ _ _ _ _) ⟨rfl, rfl, rfl, rfl, rfl, trivial⟩
      · refine gx_iload (i := 4) (by decide +kernel) rfl ?_
        refine gx_iload_n (i := 2) (by decide +kernel) rfl ?_
        refine gx_g (fun c11 => ?_)
        refine gx_icmp_ge (off := 6) (tgt := 40) c1 c11 (by decide +kernel) (by decide) ?_ ?_
        · exact gx_less' (y_LE_placeAmong_40 _ hN5 _ _ _ _ _ _) ⟨rfl, rfl, rfl, rfl, rfl, trivial⟩
        · exact gx_less' (y_LE_placeAmong_37 _ hN5 _ _ _ _ _ _) ⟨rfl, rfl, rfl, rfl, rfl, trivial⟩
def f_LE_placeAmong_5 : Nat → gx_H → Nat → Int → Int → Int → Int → Option (Int × gx_H)
  | 0 => fun _ _ _ _ _ _ => none
  | fu + 1 => fb_LE_placeAmong_5 (f_LE_placeAmong_5 fu)
theorem y_LE_placeAmong_5 : ∀ (fu : Nat) (h : gx_H) (l0 : Nat) (l1 : Int) (l2 : Int) (l3 : Int) (l4 : Int), gx_Y gm_LE_placeAmong (0, 0) 5 [some (gx_R l0), some (gx_I l1), some (gx_I l2), some (gx_I l3), some (gx_I l4)] [] h (f_LE_placeAmong_5 fu h l0 l1 l2 l3 l4) := by
  intro fu
  induction fu with
  | zero => intro h l0 l1 l2 l3 l4; exact gx_none
  | succ fu ih => intro h l0 l1 l2 l3 l4; exact yb_LE_placeAmong_5 (f_LE_placeAmong_5 fu) ih h l0 l1 l2 l3 l4
def f_LE_placeAmong (h : gx_H) (l0 : Nat) (l1 : Int) (l2 : Int) : Option (Int × gx_H) :=
  f_LE_placeAmong_5 gx_fu h l0 l1 l2 0 0
set_option maxHeartbeats 4000000 in
set_option maxRecDepth 100000 in
theorem c_LE_placeAmong (h : gx_H) (l0 : Nat) (l1 : Int) (l2 : Int) : ∀ r h1, f_LE_placeAmong h l0 l1 l2 = some (r, h1) → gx_Met gm_LE_placeAmong [gx_R l0, gx_I l1, gx_I l2] h r h1 := by
  refine gx_enter (l := [some (gx_R l0), some (gx_I l1), some (gx_I l2), none, none]) (by decide) (Nat.le_of_ble_eq_true rfl) rfl ?_
  unfold f_LE_placeAmong
  refine gx_iconst (n := 0) (by decide +kernel) ?_
  refine gx_istore_n (i := 3) (l' := [some (gx_R _), some (gx_I _), some (gx_I _), some (gx_I _), none]) (by decide +kernel) rfl (Nat.le_of_ble_eq_true rfl) (by decide) rfl ?_
  refine gx_iconst (n := 0) (by decide +kernel) ?_
  refine gx_istore (i := 4) (l' := [some (gx_R _), some (gx_I _), some (gx_I _), some (gx_I _), some (gx_I _)]) (by decide +kernel) rfl (Nat.le_of_ble_eq_true rfl) (by decide) rfl ?_
  exact gx_less' (y_LE_placeAmong_5 gx_fu _ _ _ _ _ _) ⟨rfl, rfl, rfl, rfl, rfl, trivial⟩
def fb_GR_fillProbe_95 (N82 : gx_H → Nat → Nat → Int → Option (Int × gx_H)) (N95 : gx_H → Nat → Nat → Int → Int → Int → Option (Int × gx_H)) (h : gx_H) (l0 : Nat) (l1 : Nat) (l2 : Int) (l3 : Int) (l4 : Int) : Option (Int × gx_H) :=
  gq_get h l0 5 1 (fun v1 => gq_g (gx_i l4) (if l4 < v1 then gq_gr h l1 8 1 (fun o14 => gq_gr h l0 5 9 (fun o15 => gq_ald 0 h o15 l2 (fun v16 => gq_gr h l0 5 9 (fun o18 => gq_ald 0 h o18 l4 (fun v19 => gq_call (f_LE_cell h v16 v19) (fun r21 h22 => gq_ald 0 h22 o14 r21 (fun v23 => N95 h22 l0 l1 l2 (((l3 * 200) + v23) + 100) (l4 + 1)))))))) else gq_gr h l0 5 6 (fun o4 => gq_gr h l0 5 7 (fun o5 => gq_gr h l0 5 9 (fun o6 => gq_ald 0 h o6 l2 (fun v7 => gq_ald 0 h o5 v7 (fun v9 => gq_ast 0 True h o4 l2 v9 (fun h11 => gq_gr h11 l0 5 6 (fun o12 => gq_ast 0 (gx_i l3) h11 o12 (4 + l2) l3 (fun h13 => N82 h13 l0 l1 (l2 + 1)))))))))))
set_option maxHeartbeats 4000000 in
set_option maxRecDepth 100000 in
theorem yb_GR_fillProbe_95 (N82 : gx_H → Nat → Nat → Int → Option (Int × gx_H)) (hN82 : ∀ (h : gx_H) (l0 : Nat) (l1 : Nat) (l2 : Int), gx_Y gm_GR_fillProbe (0, 0) 82 [some (gx_R l0), some (gx_R l1), some (gx_I l2), none, none] [] h (N82 h l0 l1 l2)) (N95 : gx_H → Nat → Nat → Int → Int → Int → Option (Int × gx_H)) (hN95 : ∀ (h : gx_H) (l0 : Nat) (l1 : Nat) (l2 : Int) (l3 : Int) (l4 : Int), gx_Y gm_GR_fillProbe (0, 0) 95 [some (gx_R l0), some (gx_R l1), some (gx_I l2), some (gx_I l3), some (gx_I l4)] [] h (N95 h l0 l1 l2 l3 l4)) (h : gx_H) (l0 : Nat) (l1 : Nat) (l2 : Int) (l3 : Int) (l4 : Int) : gx_Y gm_GR_fillProbe (0, 0) 95 [some (gx_R l0), some (gx_R l1), some (gx_I l2), some (gx_I l3), some (gx_I l4)] [] h (fb_GR_fillProbe_95 N82 N95 h l0 l1 l2 l3 l4) := by
  unfold fb_GR_fillProbe_95
  refine gx_iload (i := 4) (by decide +kernel) rfl ?_
  refine gx_aload_n (i := 0) (by decide +kernel) rfl ?_
  refine gx_geti gk_GR (by decide) fl_GR_15 (Or.inl rfl) (by decide +kernel) (fun c2 => ?_)
  refine gx_g (fun c3 => ?_)
  refine gx_icmp_ge (off := 40) (tgt := 141) c3 c2 (by decide +kernel) (by decide) ?_ ?_
  · refine gx_aload_n (i := 0) (by decide +kernel) rfl ?_
    refine gx_getr gk_GR (by decide) fl_GR_32 rfl (by decide +kernel) ?_
    refine gx_iload_n (i := 2) (by decide +kernel) rfl ?_
    refine gx_aload_n (i := 0) (by decide +kernel) rfl ?_
    refine gx_getr gk_GR (by decide) fl_GR_35 rfl (by decide +kernel) ?_
    refine gx_aload_n (i := 0) (by decide +kernel) rfl ?_
    refine gx_getr gk_GR (by decide) fl_GR_41 rfl (by decide +kernel) ?_
    refine gx_iload_n (i := 2) (by decide +kernel) rfl ?_
    refine gx_ialdi (by decide +kernel) (fun c8 => ?_)
    refine gx_ialdi (by decide +kernel) (fun c10 => ?_)
    refine gx_iastT c10 (by decide +kernel) ?_
    refine gx_aload_n (i := 0) (by decide +kernel) rfl ?_
    refine gx_getr gk_GR (by decide) fl_GR_32 rfl (by decide +kernel) ?_
    refine gx_iconst (n := 4) (by decide +kernel) ?_
    refine gx_iload_n (i := 2) (by decide +kernel) rfl ?_
    refine gx_iadd (by decide +kernel) ?_
    refine gx_iload_n (i := 3) (by decide +kernel) rfl ?_
    refine gx_iast (by decide +kernel) ?_
    refine gx_iinc (i := 2) (n := 1) (l' := [some (gx_R _), some (gx_R _), some (gx_I _), some (gx_I _), some (gx_I _)]) (by decide +kernel) rfl rfl (Nat.le_of_ble_eq_true rfl) (by decide) rfl ?_
    refine gx_goto (off := -88) (tgt := 82) (by decide +kernel) (by decide) ?_
    exact gx_less' (hN82 _ _ _ _) ⟨rfl, rfl, rfl, trivial⟩
  · refine gx_iload_n (i := 3) (by decide +kernel) rfl ?_
    refine gx_sipush (n := 200) (by decide +kernel) (by decide) ?_
    refine gx_imul (by decide +kernel) ?_
    refine gx_aload_n (i := 1) (by decide +kernel) rfl ?_
    refine gx_getr gk_SH (by decide) fl_GR_98 rfl (by decide +kernel) ?_
    refine gx_aload_n (i := 0) (by decide +kernel) rfl ?_
    refine gx_getr gk_GR (by decide) fl_GR_41 rfl (by decide +kernel) ?_
    refine gx_iload_n (i := 2) (by decide +kernel) rfl ?_
    refine gx_ialdi (by decide +kernel) (fun c17 => ?_)
    refine gx_aload_n (i := 0) (by decide +kernel) rfl ?_
    refine gx_getr gk_GR (by decide) fl_GR_41 rfl (by decide +kernel) ?_
    refine gx_iload (i := 4) (by decide +kernel) rfl ?_
    refine gx_ialdi (by decide +kernel) (fun c20 => ?_)
    refine gx_cSNi2 (Mc := gm_LE_cell) (u' := (0, 0)) (c_LE_cell _ _ _) sk_LE_cell ml_GR_101 rfl rfl ⟨by decide, by decide, by decide, by decide⟩ (Nat.le_of_ble_eq_true rfl) (by decide +kernel) (fun r21 h22 => ?_)
    refine gx_ialdi (by decide +kernel) (fun c24 => ?_)
    refine gx_iadd (by decide +kernel) ?_
    refine gx_bipush (n := 100) (by decide +kernel) (by decide) ?_
    refine gx_iadd (by decide +kernel) ?_
    refine gx_istore_n (i := 3) (l' := [some (gx_R _), some (gx_R _), some (gx_I _), some (gx_I _), some (gx_I _)]) (by decide +kernel) rfl (Nat.le_of_ble_eq_true rfl) (by decide) rfl ?_
    refine gx_iinc (i := 4) (n := 1) (l' := [some (gx_R _), some (gx_R _), some (gx_I _), some (gx_I _), some (gx_I _)]) (by decide +kernel) rfl rfl (Nat.le_of_ble_eq_true rfl) (by decide) rfl ?_
    refine gx_goto (off := -43) (tgt := 95) (by decide +kernel) (by decide) ?_
    exact gx_less' (hN95 _ _ _ _ _ _) ⟨rfl, rfl, rfl, rfl, rfl, trivial⟩
def f_GR_fillProbe_95 (N82 : gx_H → Nat → Nat → Int → Option (Int × gx_H)) : Nat → gx_H → Nat → Nat → Int → Int → Int → Option (Int × gx_H)
  | 0 => fun _ _ _ _ _ _ => none
  | fu + 1 => fb_GR_fillProbe_95 N82 (f_GR_fillProbe_95 N82 fu)
theorem y_GR_fillProbe_95 (N82 : gx_H → Nat → Nat → Int → Option (Int × gx_H)) (hN82 : ∀ (h : gx_H) (l0 : Nat) (l1 : Nat) (l2 : Int), gx_Y gm_GR_fillProbe (0, 0) 82 [some (gx_R l0), some (gx_R l1), some (gx_I l2), none, none] [] h (N82 h l0 l1 l2)) : ∀ (fu : Nat) (h : gx_H) (l0 : Nat) (l1 : Nat) (l2 : Int) (l3 : Int) (l4 : Int), gx_Y gm_GR_fillProbe (0, 0) 95 [some (gx_R l0), some (gx_R l1), some (gx_I l2), some (gx_I l3), some (gx_I l4)] [] h (f_GR_fillProbe_95 N82 fu h l0 l1 l2 l3 l4) := by
  intro fu
  induction fu with
  | zero => intro h l0 l1 l2 l3 l4; exact gx_none
  | succ fu ih => intro h l0 l1 l2 l3 l4; exact yb_GR_fillProbe_95 N82 hN82 (f_GR_fillProbe_95 N82 fu) ih h l0 l1 l2 l3 l4
def fb_GR_fillProbe_82 (N82 : gx_H → Nat → Nat → Int → Option (Int × gx_H)) (h : gx_H) (l0 : Nat) (l1 : Nat) (l2 : Int) : Option (Int × gx_H) :=
  gq_get h l0 5 1 (fun v1 => gq_g (gx_i l2) (if l2 < v1 then f_GR_fillProbe_95 N82 gx_fu h l0 l1 l2 0 0 else some (0, h)))
set_option maxHeartbeats 4000000 in
set_option maxRecDepth 100000 in
theorem yb_GR_fillProbe_82 (N82 : gx_H → Nat → Nat → Int → Option (Int × gx_H)) (hN82 : ∀ (h : gx_H) (l0 : Nat) (l1 : Nat) (l2 : Int), gx_Y gm_GR_fillProbe (0, 0) 82 [some (gx_R l0), some (gx_R l1), some (gx_I l2), none, none] [] h (N82 h l0 l1 l2)) (h : gx_H) (l0 : Nat) (l1 : Nat) (l2 : Int) : gx_Y gm_GR_fillProbe (0, 0) 82 [some (gx_R l0), some (gx_R l1), some (gx_I l2), none, none] [] h (fb_GR_fillProbe_82 N82 h l0 l1 l2) := by
  unfold fb_GR_fillProbe_82
  refine gx_iload_n (i := 2) (by decide +kernel) rfl ?_
  refine gx_aload_n (i := 0) (by decide +kernel) rfl ?_
  refine gx_geti gk_GR (by decide) fl_GR_15 (Or.inl rfl) (by decide +kernel) (fun c2 => ?_)
  refine gx_g (fun c3 => ?_)
  refine gx_icmp_ge (off := 86) (tgt := 173) c3 c2 (by decide +kernel) (by decide) ?_ ?_
  · exact gx_return rfl rfl (by decide +kernel)
  · refine gx_iconst (n := 0) (by decide +kernel) ?_
    refine gx_istore_n (i := 3) (l' := [some (gx_R _), some (gx_R _), some (gx_I _), some (gx_I _), none]) (by decide +kernel) rfl (Nat.le_of_ble_eq_true rfl) (by decide) rfl ?_
    refine gx_iconst (n := 0) (by decide +kernel) ?_
    refine gx_istore (i := 4) (l' := [some (gx_R _), some (gx_R _), some (gx_I _), some (gx_I _), some (gx_I _)]) (by decide +kernel) rfl (Nat.le_of_ble_eq_true rfl) (by decide) rfl ?_
    exact gx_less' (y_GR_fillProbe_95 _ hN82 gx_fu _ _ _ _ _ _) ⟨rfl, rfl, rfl, rfl, rfl, trivial⟩
def f_GR_fillProbe_82 : Nat → gx_H → Nat → Nat → Int → Option (Int × gx_H)
  | 0 => fun _ _ _ _ => none
  | fu + 1 => fb_GR_fillProbe_82 (f_GR_fillProbe_82 fu)
theorem y_GR_fillProbe_82 : ∀ (fu : Nat) (h : gx_H) (l0 : Nat) (l1 : Nat) (l2 : Int), gx_Y gm_GR_fillProbe (0, 0) 82 [some (gx_R l0), some (gx_R l1), some (gx_I l2), none, none] [] h (f_GR_fillProbe_82 fu h l0 l1 l2) := by
  intro fu
  induction fu with
  | zero => intro h l0 l1 l2; exact gx_none
  | succ fu ih => intro h l0 l1 l2; exact yb_GR_fillProbe_82 (f_GR_fillProbe_82 fu) ih h l0 l1 l2
def fb_GR_fillProbe_36 (N36 : gx_H → Nat → Nat → Int → Option (Int × gx_H)) (h : gx_H) (l0 : Nat) (l1 : Nat) (l2 : Int) : Option (Int × gx_H) :=
  gq_get h l0 5 1 (fun v1 => gq_g (gx_i l2) (if l2 < v1 then gq_gr h l0 5 8 (fun o4 => gq_gr h l0 5 7 (fun o5 => gq_get h l0 5 1 (fun v6 => gq_call (f_LE_placeAmong h o5 v6 l2) (fun r8 h9 => gq_ast 0 (gx_i r8) h9 o4 l2 r8 (fun h10 => gq_gr h10 l0 5 9 (fun o11 => gq_gr h10 l0 5 8 (fun o12 => gq_ald 0 h10 o12 l2 (fun v13 => gq_ast 0 True h10 o11 v13 l2 (fun h15 => N36 h15 l0 l1 (l2 + 1)))))))))) else f_GR_fillProbe_82 gx_fu h l0 l1 0))
set_option maxHeartbeats 4000000 in
set_option maxRecDepth 100000 in
theorem yb_GR_fillProbe_36 (N36 : gx_H → Nat → Nat → Int → Option (Int × gx_H)) (hN36 : ∀ (h : gx_H) (l0 : Nat) (l1 : Nat) (l2 : Int), gx_Y gm_GR_fillProbe (0, 0) 36 [some (gx_R l0), some (gx_R l1), some (gx_I l2), none, none] [] h (N36 h l0 l1 l2)) (h : gx_H) (l0 : Nat) (l1 : Nat) (l2 : Int) : gx_Y gm_GR_fillProbe (0, 0) 36 [some (gx_R l0), some (gx_R l1), some (gx_I l2), none, none] [] h (fb_GR_fillProbe_36 N36 h l0 l1 l2) := by
  unfold fb_GR_fillProbe_36
  refine gx_iload_n (i := 2) (by decide +kernel) rfl ?_
  refine gx_aload_n (i := 0) (by decide +kernel) rfl ?_
  refine gx_geti gk_GR (by decide) fl_GR_15 (Or.inl rfl) (by decide +kernel) (fun c2 => ?_)
  refine gx_g (fun c3 => ?_)
  refine gx_icmp_ge (off := 39) (tgt := 80) c3 c2 (by decide +kernel) (by decide) ?_ ?_
  · refine gx_iconst (n := 0) (by decide +kernel) ?_
    refine gx_istore_n (i := 2) (l' := [some (gx_R _), some (gx_R _), some (gx_I _), none, none]) (by decide +kernel) rfl (Nat.le_of_ble_eq_true rfl) (by decide) rfl ?_
    exact gx_less' (y_GR_fillProbe_82 gx_fu _ _ _ _) ⟨rfl, rfl, rfl, trivial⟩
  · refine gx_aload_n (i := 0) (by decide +kernel) rfl ?_
    refine gx_getr gk_GR (by decide) fl_GR_38 rfl (by decide +kernel) ?_
    refine gx_iload_n (i := 2) (by decide +kernel) rfl ?_
    refine gx_aload_n (i := 0) (by decide +kernel) rfl ?_
    refine gx_getr gk_GR (by decide) fl_GR_35 rfl (by decide +kernel) ?_
    refine gx_aload_n (i := 0) (by decide +kernel) rfl ?_
    refine gx_geti gk_GR (by decide) fl_GR_15 (Or.inl rfl) (by decide +kernel) (fun c7 => ?_)
    refine gx_iload_n (i := 2) (by decide +kernel) rfl ?_
    refine gx_cSNi3 (Mc := gm_LE_placeAmong) (u' := (0, 0)) (c_LE_placeAmong _ _ _ _) sk_LE_placeAmong ml_GR_95 rfl rfl ⟨by decide, by decide, by decide, by decide⟩ (Nat.le_of_ble_eq_true rfl) (by decide +kernel) (fun r8 h9 => ?_)
    refine gx_iast (by decide +kernel) ?_
    refine gx_aload_n (i := 0) (by decide +kernel) rfl ?_
    refine gx_getr gk_GR (by decide) fl_GR_41 rfl (by decide +kernel) ?_
    refine gx_aload_n (i := 0) (by decide +kernel) rfl ?_
    refine gx_getr gk_GR (by decide) fl_GR_38 rfl (by decide +kernel) ?_
    refine gx_iload_n (i := 2) (by decide +kernel) rfl ?_
    refine gx_ialdi (by decide +kernel) (fun c14 => ?_)
    refine gx_iload_n (i := 2) (by decide +kernel) rfl ?_
    refine gx_iastT c3 (by decide +kernel) ?_
    refine gx_iinc (i := 2) (n := 1) (l' := [some (gx_R _), some (gx_R _), some (gx_I _), none, none]) (by decide +kernel) rfl rfl (Nat.le_of_ble_eq_true rfl) (by decide) rfl ?_
    refine gx_goto (off := -41) (tgt := 36) (by decide +kernel) (by decide) ?_
    exact gx_less' (hN36 _ _ _ _) ⟨rfl, rfl, rfl, trivial⟩
def f_GR_fillProbe_36 : Nat → gx_H → Nat → Nat → Int → Option (Int × gx_H)
  | 0 => fun _ _ _ _ => none
  | fu + 1 => fb_GR_fillProbe_36 (f_GR_fillProbe_36 fu)
theorem y_GR_fillProbe_36 : ∀ (fu : Nat) (h : gx_H) (l0 : Nat) (l1 : Nat) (l2 : Int), gx_Y gm_GR_fillProbe (0, 0) 36 [some (gx_R l0), some (gx_R l1), some (gx_I l2), none, none] [] h (f_GR_fillProbe_36 fu h l0 l1 l2) := by
  intro fu
  induction fu with
  | zero => intro h l0 l1 l2; exact gx_none
  | succ fu ih => intro h l0 l1 l2; exact yb_GR_fillProbe_36 (f_GR_fillProbe_36 fu) ih h l0 l1 l2
def fb_GR_fillProbe_2 (N2 : gx_H → Nat → Nat → Int → Option (Int × gx_H)) (h : gx_H) (l0 : Nat) (l1 : Nat) (l2 : Int) : Option (Int × gx_H) :=
  gq_get h l0 5 1 (fun v1 => gq_g (gx_i l2) (if l2 < v1 then gq_gr h l0 5 7 (fun o4 => gq_gr h l1 8 2 (fun o5 => gq_get h l0 5 1 (fun v6 => gq_call (f_LE_codeOf h o5 l2 v6) (fun r8 h9 => gq_ast 0 (gx_i r8) h9 o4 l2 r8 (fun h10 => N2 h10 l0 l1 (l2 + 1)))))) else f_GR_fillProbe_36 gx_fu h l0 l1 0))
set_option maxHeartbeats 4000000 in
set_option maxRecDepth 100000 in
theorem yb_GR_fillProbe_2 (N2 : gx_H → Nat → Nat → Int → Option (Int × gx_H)) (hN2 : ∀ (h : gx_H) (l0 : Nat) (l1 : Nat) (l2 : Int), gx_Y gm_GR_fillProbe (0, 0) 2 [some (gx_R l0), some (gx_R l1), some (gx_I l2), none, none] [] h (N2 h l0 l1 l2)) (h : gx_H) (l0 : Nat) (l1 : Nat) (l2 : Int) : gx_Y gm_GR_fillProbe (0, 0) 2 [some (gx_R l0), some (gx_R l1), some (gx_I l2), none, none] [] h (fb_GR_fillProbe_2 N2 h l0 l1 l2) := by
  unfold fb_GR_fillProbe_2
  refine gx_iload_n (i := 2) (by decide +kernel) rfl ?_
  refine gx_aload_n (i := 0) (by decide +kernel) rfl ?_
  refine gx_geti gk_GR (by decide) fl_GR_15 (Or.inl rfl) (by decide +kernel) (fun c2 => ?_)
  refine gx_g (fun c3 => ?_)
  refine gx_icmp_ge (off := 27) (tgt := 34) c3 c2 (by decide +kernel) (by decide) ?_ ?_
  · refine gx_iconst (n := 0) (by decide +kernel) ?_
    refine gx_istore_n (i := 2) (l' := [some (gx_R _), some (gx_R _), some (gx_I _), none, none]) (by decide +kernel) rfl (Nat.le_of_ble_eq_true rfl) (by decide) rfl ?_
    exact gx_less' (y_GR_fillProbe_36 gx_fu _ _ _ _) ⟨rfl, rfl, rfl, trivial⟩
  · refine gx_aload_n (i := 0) (by decide +kernel) rfl ?_
    refine gx_getr gk_GR (by decide) fl_GR_35 rfl (by decide +kernel) ?_
    refine gx_iload_n (i := 2) (by decide +kernel) rfl ?_
    refine gx_aload_n (i := 1) (by decide +kernel) rfl ?_
    refine gx_getr gk_SH (by decide) fl_GR_88 rfl (by decide +kernel) ?_
    refine gx_iload_n (i := 2) (by decide +kernel) rfl ?_
    refine gx_aload_n (i := 0) (by decide +kernel) rfl ?_
    refine gx_geti gk_GR (by decide) fl_GR_15 (Or.inl rfl) (by decide +kernel) (fun c7 => ?_)
    refine gx_cSNi3 (Mc := gm_LE_codeOf) (u' := (0, 0)) (c_LE_codeOf _ _ _ _) sk_LE_codeOf ml_GR_91 rfl rfl ⟨by decide, by decide, by decide, by decide⟩ (Nat.le_of_ble_eq_true rfl) (by decide +kernel) (fun r8 h9 => ?_)
    refine gx_iast (by decide +kernel) ?_
    refine gx_iinc (i := 2) (n := 1) (l' := [some (gx_R _), some (gx_R _), some (gx_I _), none, none]) (by decide +kernel) rfl rfl (Nat.le_of_ble_eq_true rfl) (by decide) rfl ?_
    refine gx_goto (off := -29) (tgt := 2) (by decide +kernel) (by decide) ?_
    exact gx_less' (hN2 _ _ _ _) ⟨rfl, rfl, rfl, trivial⟩
def f_GR_fillProbe_2 : Nat → gx_H → Nat → Nat → Int → Option (Int × gx_H)
  | 0 => fun _ _ _ _ => none
  | fu + 1 => fb_GR_fillProbe_2 (f_GR_fillProbe_2 fu)
theorem y_GR_fillProbe_2 : ∀ (fu : Nat) (h : gx_H) (l0 : Nat) (l1 : Nat) (l2 : Int), gx_Y gm_GR_fillProbe (0, 0) 2 [some (gx_R l0), some (gx_R l1), some (gx_I l2), none, none] [] h (f_GR_fillProbe_2 fu h l0 l1 l2) := by
  intro fu
  induction fu with
  | zero => intro h l0 l1 l2; exact gx_none
  | succ fu ih => intro h l0 l1 l2; exact yb_GR_fillProbe_2 (f_GR_fillProbe_2 fu) ih h l0 l1 l2
def f_GR_fillProbe (h : gx_H) (l0 : Nat) (l1 : Nat) : Option (Int × gx_H) :=
  f_GR_fillProbe_2 gx_fu h l0 l1 0
set_option maxHeartbeats 4000000 in
set_option maxRecDepth 100000 in
theorem c_GR_fillProbe (h : gx_H) (l0 : Nat) (l1 : Nat) : ∀ r h1, f_GR_fillProbe h l0 l1 = some (r, h1) → gx_Met gm_GR_fillProbe [gx_R l0, gx_R l1] h r h1 := by
  refine gx_enter (l := [some (gx_R l0), some (gx_R l1), none, none, none]) (by decide) (Nat.le_of_ble_eq_true rfl) rfl ?_
  unfold f_GR_fillProbe
  refine gx_iconst (n := 0) (by decide +kernel) ?_
  refine gx_istore_n (i := 2) (l' := [some (gx_R _), some (gx_R _), some (gx_I _), none, none]) (by decide +kernel) rfl (Nat.le_of_ble_eq_true rfl) (by decide) rfl ?_
  exact gx_less' (y_GR_fillProbe_2 gx_fu _ _ _ _) ⟨rfl, rfl, rfl, trivial⟩
def fb_GR_addProbe_23 (N23 : gx_H → Nat → Int → Option (Int × gx_H)) (h : gx_H) (l0 : Nat) (l1 : Int) : Option (Int × gx_H) :=
  gq_g (gx_i l1) (if l1 < 4 then gq_gr h l0 5 4 (fun o7 => gq_get h l0 5 0 (fun v8 => gq_ast 0 True h o7 ((v8 * 4) + l1) (-1) (fun h10 => N23 h10 l0 (l1 + 1)))) else gq_get h l0 5 0 (fun v2 => gq_put (gx_i (v2 + 1)) h l0 5 0 (v2 + 1) (fun h4 => gq_get h4 l0 5 0 (fun v5 => some ((v5 - 1), h4)))))
set_option maxHeartbeats 4000000 in
set_option maxRecDepth 100000 in
theorem yb_GR_addProbe_23 (N23 : gx_H → Nat → Int → Option (Int × gx_H)) (hN23 : ∀ (h : gx_H) (l0 : Nat) (l1 : Int), gx_Y gm_GR_addProbe (0, 0) 23 [some (gx_R l0), some (gx_I l1)] [] h (N23 h l0 l1)) (h : gx_H) (l0 : Nat) (l1 : Int) : gx_Y gm_GR_addProbe (0, 0) 23 [some (gx_R l0), some (gx_I l1)] [] h (fb_GR_addProbe_23 N23 h l0 l1) := by
  unfold fb_GR_addProbe_23
  refine gx_iload_n (i := 1) (by decide +kernel) rfl ?_
  refine gx_iconst (n := 4) (by decide +kernel) ?_
  refine gx_g (fun c1 => ?_)
  refine gx_icmp_ge (off := 23) (tgt := 48) c1 (by decide) (by decide +kernel) (by decide) ?_ ?_
  · refine gx_aload_n (i := 0) (by decide +kernel) rfl ?_
    refine gx_dup (by decide +kernel) (fun _ => rfl) ?_
    refine gx_geti gk_GR (by decide) fl_GR_9 (Or.inl rfl) (by decide +kernel) (fun c3 => ?_)
    refine gx_iconst (n := 1) (by decide +kernel) ?_
    refine gx_iadd (by decide +kernel) ?_
    refine gx_puti gk_GR (by decide) fl_GR_9 rfl rfl (by decide +kernel) ?_
    refine gx_aload_n (i := 0) (by decide +kernel) rfl ?_
    refine gx_geti gk_GR (by decide) fl_GR_9 (Or.inl rfl) (by decide +kernel) (fun c6 => ?_)
    refine gx_iconst (n := 1) (by decide +kernel) ?_
    refine gx_isub (by decide +kernel) ?_
    exact gx_ireturn rfl rfl (by decide +kernel)
  · refine gx_aload_n (i := 0) (by decide +kernel) rfl ?_
    refine gx_getr gk_GR (by decide) fl_GR_25 rfl (by decide +kernel) ?_
    refine gx_aload_n (i := 0) (by decide +kernel) rfl ?_
    refine gx_geti gk_GR (by decide) fl_GR_9 (Or.inl rfl) (by decide +kernel) (fun c9 => ?_)
    refine gx_iconst (n := 4) (by decide +kernel) ?_
    refine gx_imul (by decide +kernel) ?_
    refine gx_iload_n (i := 1) (by decide +kernel) rfl ?_
    refine gx_iadd (by decide +kernel) ?_
    refine gx_iconst (n := (-1)) (by decide +kernel) ?_
    refine gx_iastT (by decide) (by decide +kernel) ?_
    refine gx_iinc (i := 1) (n := 1) (l' := [some (gx_R _), some (gx_I _)]) (by decide +kernel) rfl rfl (Nat.le_of_ble_eq_true rfl) (by decide) rfl ?_
    refine gx_goto (off := -22) (tgt := 23) (by decide +kernel) (by decide) ?_
    exact gx_less' (hN23 _ _ _) ⟨rfl, rfl, trivial⟩
def f_GR_addProbe_23 : Nat → gx_H → Nat → Int → Option (Int × gx_H)
  | 0 => fun _ _ _ => none
  | fu + 1 => fb_GR_addProbe_23 (f_GR_addProbe_23 fu)
theorem y_GR_addProbe_23 : ∀ (fu : Nat) (h : gx_H) (l0 : Nat) (l1 : Int), gx_Y gm_GR_addProbe (0, 0) 23 [some (gx_R l0), some (gx_I l1)] [] h (f_GR_addProbe_23 fu h l0 l1) := by
  intro fu
  induction fu with
  | zero => intro h l0 l1; exact gx_none
  | succ fu ih => intro h l0 l1; exact yb_GR_addProbe_23 (f_GR_addProbe_23 fu) ih h l0 l1
def f_GR_addProbe (h : gx_H) (l0 : Nat) : Option (Int × gx_H) :=
  gq_gr h l0 5 6 (fun o1 => gq_gr h l0 5 5 (fun o2 => gq_get h l0 5 0 (fun v3 => gq_copy h o1 0 o2 (v3 * 8) 8 (fun h5 => f_GR_addProbe_23 gx_fu h5 l0 0))))
set_option maxHeartbeats 4000000 in
set_option maxRecDepth 100000 in
theorem c_GR_addProbe (h : gx_H) (l0 : Nat) : ∀ r h1, f_GR_addProbe h l0 = some (r, h1) → gx_Met gm_GR_addProbe [gx_R l0] h r h1 := by
  refine gx_enter (l := [some (gx_R l0), none]) (by decide) (Nat.le_of_ble_eq_true rfl) rfl ?_
  unfold f_GR_addProbe
  refine gx_aload_n (i := 0) (by decide +kernel) rfl ?_
  refine gx_getr gk_GR (by decide) fl_GR_32 rfl (by decide +kernel) ?_
  refine gx_iconst (n := 0) (by decide +kernel) ?_
  refine gx_aload_n (i := 0) (by decide +kernel) rfl ?_
  refine gx_getr gk_GR (by decide) fl_GR_29 rfl (by decide +kernel) ?_
  refine gx_aload_n (i := 0) (by decide +kernel) rfl ?_
  refine gx_geti gk_GR (by decide) fl_GR_9 (Or.inl rfl) (by decide +kernel) (fun c4 => ?_)
  refine gx_bipush (n := 8) (by decide +kernel) (by decide) ?_
  refine gx_imul (by decide +kernel) ?_
  refine gx_bipush (n := 8) (by decide +kernel) (by decide) ?_
  refine gx_copy ml_GR_109 (by decide) (Nat.le_of_ble_eq_true rfl) (by decide +kernel) ?_
  refine gx_iconst (n := 0) (by decide +kernel) ?_
  refine gx_istore_n (i := 1) (l' := [some (gx_R _), some (gx_I _)]) (by decide +kernel) rfl (Nat.le_of_ble_eq_true rfl) (by decide) rfl ?_
  exact gx_less' (y_GR_addProbe_23 gx_fu _ _ _) ⟨rfl, rfl, trivial⟩
def fb_GR_spread_11 (N11 : gx_H → Nat → Int → Int → Int → Option (Int × gx_H)) (h : gx_H) (l2 : Nat) (l3 : Int) (l4 : Int) (l5 : Int) : Option (Int × gx_H) :=
  gq_g (gx_i l5) (if l5 < 0 then some (0, h) else gq_call (f_LE_cell h l3 l5) (fun r2 h3 => gq_g (gx_i l4) (gq_ast 0 (gx_i ((l4.tmod 200) - 100)) h3 l2 r2 ((l4.tmod 200) - 100) (fun h5 => N11 h5 l2 l3 (l4.tdiv 200) (l5 + (-1))))))
set_option maxHeartbeats 4000000 in
set_option maxRecDepth 100000 in
theorem yb_GR_spread_11 (N11 : gx_H → Nat → Int → Int → Int → Option (Int × gx_H)) (hN11 : ∀ (h : gx_H) (l2 : Nat) (l3 : Int) (l4 : Int) (l5 : Int), gx_Y gm_GR_spread (0, 0) 11 [none, none, some (gx_R l2), some (gx_I l3), some (gx_I l4), some (gx_I l5)] [] h (N11 h l2 l3 l4 l5)) (h : gx_H) (l2 : Nat) (l3 : Int) (l4 : Int) (l5 : Int) : gx_Y gm_GR_spread (0, 0) 11 [none, none, some (gx_R l2), some (gx_I l3), some (gx_I l4), some (gx_I l5)] [] h (fb_GR_spread_11 N11 h l2 l3 l4 l5) := by
  unfold fb_GR_spread_11
  refine gx_iload (i := 5) (by decide +kernel) rfl ?_
  refine gx_g (fun c1 => ?_)
  refine gx_if_lt (off := 34) (tgt := 47) c1 (by decide +kernel) (by decide) ?_ ?_
  · exact gx_return rfl rfl (by decide +kernel)
  · refine gx_aload_n (i := 2) (by decide +kernel) rfl ?_
    refine gx_iload_n (i := 3) (by decide +kernel) rfl ?_
    refine gx_iload (i := 5) (by decide +kernel) rfl ?_
    refine gx_cSNi2 (Mc := gm_LE_cell) (u' := (0, 0)) (c_LE_cell _ _ _) sk_LE_cell ml_GR_101 rfl rfl ⟨by decide, by decide, by decide, by decide⟩ (Nat.le_of_ble_eq_true rfl) (by decide +kernel) (fun r2 h3 => ?_)
    refine gx_iload (i := 4) (by decide +kernel) rfl ?_
    refine gx_sipush (n := 200) (by decide +kernel) (by decide) ?_
    refine gx_g (fun c4 => ?_)
    refine gx_irem c4 (by decide) (by decide) (by decide +kernel) ?_
    refine gx_bipush (n := 100) (by decide +kernel) (by decide) ?_
    refine gx_isub (by decide +kernel) ?_
    refine gx_iast (by decide +kernel) ?_
    refine gx_iload (i := 4) (by decide +kernel) rfl ?_
    refine gx_sipush (n := 200) (by decide +kernel) (by decide) ?_
    refine gx_idiv c4 (by decide) (by decide) (by decide +kernel) ?_
    refine gx_istore (i := 4) (l' := [none, none, some (gx_R _), some (gx_I _), some (gx_I _), some (gx_I _)]) (by decide +kernel) rfl (Nat.le_of_ble_eq_true rfl) (by decide) rfl ?_
    refine gx_iinc (i := 5) (n := (-1)) (l' := [none, none, some (gx_R _), some (gx_I _), some (gx_I _), some (gx_I _)]) (by decide +kernel) rfl rfl (Nat.le_of_ble_eq_true rfl) (by decide) rfl ?_
    refine gx_goto (off := -33) (tgt := 11) (by decide +kernel) (by decide) ?_
    exact gx_less' (hN11 _ _ _ _ _) ⟨rfl, rfl, rfl, rfl, trivial⟩
def f_GR_spread_11 : Nat → gx_H → Nat → Int → Int → Int → Option (Int × gx_H)
  | 0 => fun _ _ _ _ _ => none
  | fu + 1 => fb_GR_spread_11 (f_GR_spread_11 fu)
theorem y_GR_spread_11 : ∀ (fu : Nat) (h : gx_H) (l2 : Nat) (l3 : Int) (l4 : Int) (l5 : Int), gx_Y gm_GR_spread (0, 0) 11 [none, none, some (gx_R l2), some (gx_I l3), some (gx_I l4), some (gx_I l5)] [] h (f_GR_spread_11 fu h l2 l3 l4 l5) := by
  intro fu
  induction fu with
  | zero => intro h l2 l3 l4 l5; exact gx_none
  | succ fu ih => intro h l2 l3 l4 l5; exact yb_GR_spread_11 (f_GR_spread_11 fu) ih h l2 l3 l4 l5
def f_GR_spread (h : gx_H) (l0 : Nat) (l1 : Int) (l2 : Nat) (l3 : Int) : Option (Int × gx_H) :=
  gq_get h l0 5 1 (fun v1 => f_GR_spread_11 gx_fu h l2 l3 l1 (v1 - 1))
set_option maxHeartbeats 4000000 in
set_option maxRecDepth 100000 in
theorem c_GR_spread (h : gx_H) (l0 : Nat) (l1 : Int) (l2 : Nat) (l3 : Int) : ∀ r h1, f_GR_spread h l0 l1 l2 l3 = some (r, h1) → gx_Met gm_GR_spread [gx_R l0, gx_I l1, gx_R l2, gx_I l3] h r h1 := by
  refine gx_enter (l := [some (gx_R l0), some (gx_I l1), some (gx_R l2), some (gx_I l3), none, none]) (by decide) (Nat.le_of_ble_eq_true rfl) rfl ?_
  unfold f_GR_spread
  refine gx_iload_n (i := 1) (by decide +kernel) rfl ?_
  refine gx_istore (i := 4) (l' := [some (gx_R _), some (gx_I _), some (gx_R _), some (gx_I _), some (gx_I _), none]) (by decide +kernel) rfl (Nat.le_of_ble_eq_true rfl) (by decide) rfl ?_
  refine gx_aload_n (i := 0) (by decide +kernel) rfl ?_
  refine gx_geti gk_GR (by decide) fl_GR_15 (Or.inl rfl) (by decide +kernel) (fun c2 => ?_)
  refine gx_iconst (n := 1) (by decide +kernel) ?_
  refine gx_isub (by decide +kernel) ?_
  refine gx_istore (i := 5) (l' := [some (gx_R _), some (gx_I _), some (gx_R _), some (gx_I _), some (gx_I _), some (gx_I _)]) (by decide +kernel) rfl (Nat.le_of_ble_eq_true rfl) (by decide) rfl ?_
  exact gx_less' (y_GR_spread_11 gx_fu _ _ _ _ _) ⟨rfl, rfl, rfl, rfl, trivial⟩
def fb_GR_load_13 (N13 : gx_H → Nat → Int → Int → Option (Int × gx_H)) (h : gx_H) (l0 : Nat) (l1 : Int) (l2 : Int) : Option (Int × gx_H) :=
  gq_get h l0 5 1 (fun v1 => gq_g (gx_i l2) (if l2 < v1 then gq_gr h l0 5 5 (fun o4 => gq_ald 0 h o4 ((l1 * 8) + l2) (fun v5 => gq_gr h l0 5 11 (fun o7 => gq_gr h o7 8 2 (fun o8 => gq_cv h l0 5 (f_GR_spread h l0 v5 o8 l2) (fun r9 h10 => gq_gr h10 l0 5 5 (fun o11 => gq_ald 0 h10 o11 (((l1 * 8) + 4) + l2) (fun v12 => gq_gr h10 l0 5 11 (fun o14 => gq_gr h10 o14 8 1 (fun o15 => gq_cv h10 l0 5 (f_GR_spread h10 l0 v12 o15 l2) (fun r16 h17 => N13 h17 l0 l1 (l2 + 1))))))))))) else some (0, h)))
set_option maxHeartbeats 4000000 in
set_option maxRecDepth 100000 in
theorem yb_GR_load_13 (N13 : gx_H → Nat → Int → Int → Option (Int × gx_H)) (hN13 : ∀ (h : gx_H) (l0 : Nat) (l1 : Int) (l2 : Int), gx_Y gm_GR_load (0, 0) 13 [some (gx_R l0), some (gx_I l1), some (gx_I l2)] [] h (N13 h l0 l1 l2)) (h : gx_H) (l0 : Nat) (l1 : Int) (l2 : Int) : gx_Y gm_GR_load (0, 0) 13 [some (gx_R l0), some (gx_I l1), some (gx_I l2)] [] h (fb_GR_load_13 N13 h l0 l1 l2) := by
  unfold fb_GR_load_13
  refine gx_iload_n (i := 2) (by decide +kernel) rfl ?_
  refine gx_aload_n (i := 0) (by decide +kernel) rfl ?_
  refine gx_geti gk_GR (by decide) fl_GR_15 (Or.inl rfl) (by decide +kernel) (fun c2 => ?_)
  refine gx_g (fun c3 => ?_)
  refine gx_icmp_ge (off := 57) (tgt := 75) c3 c2 (by decide +kernel) (by decide) ?_ ?_
  · exact gx_return rfl rfl (by decide +kernel)
  · refine gx_aload_n (i := 0) (by decide +kernel) rfl ?_
    refine gx_aload_n (i := 0) (by decide +kernel) rfl ?_
    refine gx_getr gk_GR (by decide) fl_GR_29 rfl (by decide +kernel) ?_
    refine gx_iload_n (i := 1) (by decide +kernel) rfl ?_
    refine gx_bipush (n := 8) (by decide +kernel) (by decide) ?_
    refine gx_imul (by decide +kernel) ?_
    refine gx_iload_n (i := 2) (by decide +kernel) rfl ?_
    refine gx_iadd (by decide +kernel) ?_
    refine gx_ialdi (by decide +kernel) (fun c6 => ?_)
    refine gx_aload_n (i := 0) (by decide +kernel) rfl ?_
    refine gx_getr gk_GR (by decide) fl_GR_50 rfl (by decide +kernel) ?_
    refine gx_getr gk_SH (by decide) fl_GR_88 rfl (by decide +kernel) ?_
    refine gx_iload_n (i := 2) (by decide +kernel) rfl ?_
    refine gx_cVv3 (Mc := gm_GR_spread) (u' := (0, 0)) (c_GR_spread _ _ _ _ _) vk_GR_spread ml_GR_115 rfl rfl ⟨by decide, by decide, by decide, by decide⟩ (Nat.le_of_ble_eq_true rfl) (by decide +kernel) (fun r9 h10 => ?_)
    refine gx_aload_n (i := 0) (by decide +kernel) rfl ?_
    refine gx_aload_n (i := 0) (by decide +kernel) rfl ?_
    refine gx_getr gk_GR (by decide) fl_GR_29 rfl (by decide +kernel) ?_
    refine gx_iload_n (i := 1) (by decide +kernel) rfl ?_
    refine gx_bipush (n := 8) (by decide +kernel) (by decide) ?_
    refine gx_imul (by decide +kernel) ?_
    refine gx_iconst (n := 4) (by decide +kernel) ?_
    refine gx_iadd (by decide +kernel) ?_
    refine gx_iload_n (i := 2) (by decide +kernel) rfl ?_
    refine gx_iadd (by decide +kernel) ?_
    refine gx_ialdi (by decide +kernel) (fun c13 => ?_)
    refine gx_aload_n (i := 0) (by decide +kernel) rfl ?_
    refine gx_getr gk_GR (by decide) fl_GR_50 rfl (by decide +kernel) ?_
    refine gx_getr gk_SH (by decide) fl_GR_98 rfl (by decide +kernel) ?_
    refine gx_iload_n (i := 2) (by decide +kernel) rfl ?_
    refine gx_cVv3 (Mc := gm_GR_spread) (u' := (0, 0)) (c_GR_spread _ _ _ _ _) vk_GR_spread ml_GR_115 rfl rfl ⟨by decide, by decide, by decide, by decide⟩ (Nat.le_of_ble_eq_true rfl) (by decide +kernel) (fun r16 h17 => ?_)
    refine gx_iinc (i := 2) (n := 1) (l' := [some (gx_R _), some (gx_I _), some (gx_I _)]) (by decide +kernel) rfl rfl (Nat.le_of_ble_eq_true rfl) (by decide) rfl ?_
    refine gx_goto (off := -59) (tgt := 13) (by decide +kernel) (by decide) ?_
    exact gx_less' (hN13 _ _ _ _) ⟨rfl, rfl, rfl, trivial⟩
def f_GR_load_13 : Nat → gx_H → Nat → Int → Int → Option (Int × gx_H)
  | 0 => fun _ _ _ _ => none
  | fu + 1 => fb_GR_load_13 (f_GR_load_13 fu)
theorem y_GR_load_13 : ∀ (fu : Nat) (h : gx_H) (l0 : Nat) (l1 : Int) (l2 : Int), gx_Y gm_GR_load (0, 0) 13 [some (gx_R l0), some (gx_I l1), some (gx_I l2)] [] h (f_GR_load_13 fu h l0 l1 l2) := by
  intro fu
  induction fu with
  | zero => intro h l0 l1 l2; exact gx_none
  | succ fu ih => intro h l0 l1 l2; exact yb_GR_load_13 (f_GR_load_13 fu) ih h l0 l1 l2
def f_GR_load (h : gx_H) (l0 : Nat) (l1 : Int) : Option (Int × gx_H) :=
  gq_gr h l0 5 11 (fun o1 => gq_get h l0 5 1 (fun v2 => gq_put True h o1 8 0 v2 (fun h4 => f_GR_load_13 gx_fu h4 l0 l1 0)))
set_option maxHeartbeats 4000000 in
set_option maxRecDepth 100000 in
theorem c_GR_load (h : gx_H) (l0 : Nat) (l1 : Int) : ∀ r h1, f_GR_load h l0 l1 = some (r, h1) → gx_Met gm_GR_load [gx_R l0, gx_I l1] h r h1 := by
  refine gx_enter (l := [some (gx_R l0), some (gx_I l1), none]) (by decide) (Nat.le_of_ble_eq_true rfl) rfl ?_
  unfold f_GR_load
  refine gx_aload_n (i := 0) (by decide +kernel) rfl ?_
  refine gx_getr gk_GR (by decide) fl_GR_50 rfl (by decide +kernel) ?_
  refine gx_aload_n (i := 0) (by decide +kernel) rfl ?_
  refine gx_geti gk_GR (by decide) fl_GR_15 (Or.inl rfl) (by decide +kernel) (fun c3 => ?_)
  refine gx_putiT c3 gk_SH (by decide) fl_GR_57 rfl rfl (by decide +kernel) ?_
  refine gx_iconst (n := 0) (by decide +kernel) ?_
  refine gx_istore_n (i := 2) (l' := [some (gx_R _), some (gx_I _), some (gx_I _)]) (by decide +kernel) rfl (Nat.le_of_ble_eq_true rfl) (by decide) rfl ?_
  exact gx_less' (y_GR_load_13 gx_fu _ _ _ _) ⟨rfl, rfl, rfl, trivial⟩
def fb_SH_tableAfter_69 (h : gx_H) (l4 : Int) (l5 : Int) (l6 : Int) : Option (Int × gx_H) :=
  gq_g (gx_i l5) (if l5 < 0 then gq_g (gx_i l6) (if l6 < 0 then some ((l4 - (l5 * l6)), h) else some (l4, h)) else some (l4, h))
set_option maxHeartbeats 4000000 in
set_option maxRecDepth 100000 in
theorem y_SH_tableAfter_69 (h : gx_H) (l4 : Int) (l5 : Int) (l6 : Int) : gx_Y gm_SH_tableAfter (0, 0) 69 [none, none, none, none, some (gx_I l4), some (gx_I l5), some (gx_I l6)] [] h (fb_SH_tableAfter_69 h l4 l5 l6) := by
  unfold fb_SH_tableAfter_69
  refine gx_iload (i := 5) (by decide +kernel) rfl ?_
  refine gx_g (fun c1 => ?_)
  refine gx_if_ge (off := 17) (tgt := 88) c1 (by decide +kernel) (by decide) ?_ ?_
  · refine gx_iload (i := 4) (by decide +kernel) rfl ?_
    exact gx_ireturn rfl rfl (by decide +kernel)
  · refine gx_iload (i := 6) (by decide +kernel) rfl ?_
    refine gx_g (fun c2 => ?_)
    refine gx_if_ge (off := 12) (tgt := 88) c2 (by decide +kernel) (by decide) ?_ ?_
    · refine gx_iload (i := 4) (by decide +kernel) rfl ?_
      exact gx_ireturn rfl rfl (by decide +kernel)
    · refine gx_iload (i := 4) (by decide +kernel) rfl ?_
      refine gx_iload (i := 5) (by decide +kernel) rfl ?_
      refine gx_iload (i := 6) (by decide +kernel) rfl ?_
      refine gx_imul (by decide +kernel) ?_
      refine gx_isub (by decide +kernel) ?_
      exact gx_ireturn rfl rfl (by decide +kernel)
def f_SH_tableAfter (h : gx_H) (l0 : Nat) (l1 : Int) (l2 : Int) (l3 : Int) : Option (Int × gx_H) :=
  gq_gr h l0 8 1 (fun o1 => gq_call (f_LE_cell h l1 l2) (fun r2 h3 => gq_ald 0 h3 o1 r2 (fun v4 => gq_g (gx_i l1) (gq_g (gx_i l3) (if l1 = l3 then some ((-v4), h3) else gq_g (gx_i l2) (if l2 = l3 then some ((-v4), h3) else gq_gr h3 l0 8 1 (fun o9 => gq_call (f_LE_cell h3 l1 l3) (fun r10 h11 => gq_ald 0 h11 o9 r10 (fun v12 => gq_gr h11 l0 8 1 (fun o14 => gq_call (f_LE_cell h11 l3 l2) (fun r15 h16 => gq_ald 0 h16 o14 r15 (fun v17 => if 0 < v12 then if 0 < v17 then some ((v4 + (v12 * v17)), h16) else fb_SH_tableAfter_69 h16 v4 v12 v17 else fb_SH_tableAfter_69 h16 v4 v12 v17))))))))))))
set_option maxHeartbeats 4000000 in
set_option maxRecDepth 100000 in
theorem c_SH_tableAfter (h : gx_H) (l0 : Nat) (l1 : Int) (l2 : Int) (l3 : Int) : ∀ r h1, f_SH_tableAfter h l0 l1 l2 l3 = some (r, h1) → gx_Met gm_SH_tableAfter [gx_R l0, gx_I l1, gx_I l2, gx_I l3] h r h1 := by
  refine gx_enter (l := [some (gx_R l0), some (gx_I l1), some (gx_I l2), some (gx_I l3), none, none, none]) (by decide) (Nat.le_of_ble_eq_true rfl) rfl ?_
  unfold f_SH_tableAfter
  refine gx_aload_n (i := 0) (by decide +kernel) rfl ?_
  refine gx_getr gk_SH (by decide) fl_SH_15 rfl (by decide +kernel) ?_
  refine gx_iload_n (i := 1) (by decide +kernel) rfl ?_
  refine gx_iload_n (i := 2) (by decide +kernel) rfl ?_
  refine gx_cSNi2 (Mc := gm_LE_cell) (u' := (0, 0)) (c_LE_cell _ _ _) sk_LE_cell ml_SH_22 rfl rfl ⟨by decide, by decide, by decide, by decide⟩ (Nat.le_of_ble_eq_true rfl) (by decide +kernel) (fun r2 h3 => ?_)
  refine gx_ialdi (by decide +kernel) (fun c5 => ?_)
  refine gx_istore (i := 4) (l' := [some (gx_R _), some (gx_I _), some (gx_I _), some (gx_I _), some (gx_I _), none, none]) (by decide +kernel) rfl (Nat.le_of_ble_eq_true rfl) (by decide) rfl ?_
  refine gx_iload_n (i := 1) (by decide +kernel) rfl ?_
  refine gx_iload_n (i := 3) (by decide +kernel) rfl ?_
  refine gx_g (fun c6 => ?_)
  refine gx_g (fun c7 => ?_)
  refine gx_icmp_eq (off := 8) (tgt := 22) c6 c7 (by decide +kernel) (by decide) ?_ ?_
  · refine gx_iload (i := 4) (by decide +kernel) rfl ?_
    refine gx_ineg (by decide +kernel) ?_
    exact gx_ireturn rfl rfl (by decide +kernel)
  · refine gx_iload_n (i := 2) (by decide +kernel) rfl ?_
    refine gx_iload_n (i := 3) (by decide +kernel) rfl ?_
    refine gx_g (fun c8 => ?_)
    refine gx_icmp_ne (off := 7) (tgt := 26) c8 c7 (by decide +kernel) (by decide) ?_ ?_
    · refine gx_aload_n (i := 0) (by decide +kernel) rfl ?_
      refine gx_getr gk_SH (by decide) fl_SH_15 rfl (by decide +kernel) ?_
      refine gx_iload_n (i := 1) (by decide +kernel) rfl ?_
      refine gx_iload_n (i := 3) (by decide +kernel) rfl ?_
      refine gx_cSNi2 (Mc := gm_LE_cell) (u' := (0, 0)) (c_LE_cell _ _ _) sk_LE_cell ml_SH_22 rfl rfl ⟨by decide, by decide, by decide, by decide⟩ (Nat.le_of_ble_eq_true rfl) (by decide +kernel) (fun r10 h11 => ?_)
      refine gx_ialdi (by decide +kernel) (fun c13 => ?_)
      refine gx_istore (i := 5) (l' := [some (gx_R _), some (gx_I _), some (gx_I _), some (gx_I _), some (gx_I _), some (gx_I _), none]) (by decide +kernel) rfl (Nat.le_of_ble_eq_true rfl) (by decide) rfl ?_
      refine gx_aload_n (i := 0) (by decide +kernel) rfl ?_
      refine gx_getr gk_SH (by decide) fl_SH_15 rfl (by decide +kernel) ?_
      refine gx_iload_n (i := 3) (by decide +kernel) rfl ?_
      refine gx_iload_n (i := 2) (by decide +kernel) rfl ?_
      refine gx_cSNi2 (Mc := gm_LE_cell) (u' := (0, 0)) (c_LE_cell _ _ _) sk_LE_cell ml_SH_22 rfl rfl ⟨by decide, by decide, by decide, by decide⟩ (Nat.le_of_ble_eq_true rfl) (by decide +kernel) (fun r15 h16 => ?_)
      refine gx_ialdi (by decide +kernel) (fun c18 => ?_)
      refine gx_istore (i := 6) (l' := [some (gx_R _), some (gx_I _), some (gx_I _), some (gx_I _), some (gx_I _), some (gx_I _), some (gx_I _)]) (by decide +kernel) rfl (Nat.le_of_ble_eq_true rfl) (by decide) rfl ?_
      refine gx_iload (i := 5) (by decide +kernel) rfl ?_
      refine gx_if_le (off := 17) (tgt := 69) c13 (by decide +kernel) (by decide) ?_ ?_
      · exact gx_less' (y_SH_tableAfter_69 _ _ _ _) ⟨rfl, rfl, rfl, trivial⟩
      · refine gx_iload (i := 6) (by decide +kernel) rfl ?_
        refine gx_if_le (off := 12) (tgt := 69) c18 (by decide +kernel) (by decide) ?_ ?_
        · exact gx_less' (y_SH_tableAfter_69 _ _ _ _) ⟨rfl, rfl, rfl, trivial⟩
        · refine gx_iload (i := 4) (by decide +kernel) rfl ?_
          refine gx_iload (i := 5) (by decide +kernel) rfl ?_
          refine gx_iload (i := 6) (by decide +kernel) rfl ?_
          refine gx_imul (by decide +kernel) ?_
          refine gx_iadd (by decide +kernel) ?_
          exact gx_ireturn rfl rfl (by decide +kernel)
    · refine gx_iload (i := 4) (by decide +kernel) rfl ?_
      refine gx_ineg (by decide +kernel) ?_
      exact gx_ireturn rfl rfl (by decide +kernel)
def fb_SH_rowAfter_74 (N8 : gx_H → Nat → Int → Int → Int → Int → Int → Option (Int × gx_H)) (h : gx_H) (l0 : Nat) (l1 : Int) (l2 : Int) (l3 : Int) (l4 : Int) (l5 : Int) : Option (Int × gx_H) :=
  N8 h l0 l1 l2 l3 l4 (l5 + 1)
set_option maxHeartbeats 4000000 in
set_option maxRecDepth 100000 in
theorem y_SH_rowAfter_74 (N8 : gx_H → Nat → Int → Int → Int → Int → Int → Option (Int × gx_H)) (hN8 : ∀ (h : gx_H) (l0 : Nat) (l1 : Int) (l2 : Int) (l3 : Int) (l4 : Int) (l5 : Int), gx_Y gm_SH_rowAfter (0, 0) 8 [some (gx_R l0), some (gx_I l1), some (gx_I l2), some (gx_I l3), some (gx_I l4), some (gx_I l5), none] [] h (N8 h l0 l1 l2 l3 l4 l5)) (h : gx_H) (l0 : Nat) (l1 : Int) (l2 : Int) (l3 : Int) (l4 : Int) (l5 : Int) : gx_Y gm_SH_rowAfter (0, 0) 74 [some (gx_R l0), some (gx_I l1), some (gx_I l2), some (gx_I l3), some (gx_I l4), some (gx_I l5), none] [] h (fb_SH_rowAfter_74 N8 h l0 l1 l2 l3 l4 l5) := by
  unfold fb_SH_rowAfter_74
  refine gx_iinc (i := 5) (n := 1) (l' := [some (gx_R _), some (gx_I _), some (gx_I _), some (gx_I _), some (gx_I _), some (gx_I _), none]) (by decide +kernel) rfl rfl (Nat.le_of_ble_eq_true rfl) (by decide) rfl ?_
  refine gx_goto (off := -69) (tgt := 8) (by decide +kernel) (by decide) ?_
  exact gx_less' (hN8 _ _ _ _ _ _ _) ⟨rfl, rfl, rfl, rfl, rfl, rfl, trivial⟩
def fb_SH_rowAfter_8 (N8 : gx_H → Nat → Int → Int → Int → Int → Int → Option (Int × gx_H)) (h : gx_H) (l0 : Nat) (l1 : Int) (l2 : Int) (l3 : Int) (l4 : Int) (l5 : Int) : Option (Int × gx_H) :=
  gq_get h l0 8 0 (fun v1 => gq_g (gx_i l5) (if l5 < v1 then gq_gr h l0 8 1 (fun o11 => gq_call (f_LE_cell h l5 l1) (fun r12 h13 => gq_ald 0 h13 o11 r12 (fun v14 => if 0 < v14 then gq_gr h13 l0 8 2 (fun o21 => gq_call (f_LE_cell h13 l5 l2) (fun r22 h23 => gq_ald 0 h23 o21 r22 (fun v24 => fb_SH_rowAfter_74 N8 h23 l0 l1 l2 (l3 + (v14 * v24)) l4 l5))) else gq_gr h13 l0 8 2 (fun o16 => gq_call (f_LE_cell h13 l5 l2) (fun r17 h18 => gq_ald 0 h18 o16 r17 (fun v19 => fb_SH_rowAfter_74 N8 h18 l0 l1 l2 l3 (l4 - (v14 * v19)) l5)))))) else gq_g (gx_i l3) (gq_g (gx_i l4) (gq_gr h l0 8 2 (fun o6 => gq_call (f_LE_cell h l1 l2) (fun r7 h8 => gq_ald 0 h8 o6 r7 (fun v9 => some (((if l3 < l4 then l4 else l3) - v9), h8))))))))
set_option maxHeartbeats 4000000 in
set_option maxRecDepth 100000 in
theorem yb_SH_rowAfter_8 (N8 : gx_H → Nat → Int → Int → Int → Int → Int → Option (Int × gx_H)) (hN8 : ∀ (h : gx_H) (l0 : Nat) (l1 : Int) (l2 : Int) (l3 : Int) (l4 : Int) (l5 : Int), gx_Y gm_SH_rowAfter (0, 0) 8 [some (gx_R l0), some (gx_I l1), some (gx_I l2), some (gx_I l3), some (gx_I l4), some (gx_I l5), none] [] h (N8 h l0 l1 l2 l3 l4 l5)) (h : gx_H) (l0 : Nat) (l1 : Int) (l2 : Int) (l3 : Int) (l4 : Int) (l5 : Int) : gx_Y gm_SH_rowAfter (0, 0) 8 [some (gx_R l0), some (gx_I l1), some (gx_I l2), some (gx_I l3), some (gx_I l4), some (gx_I l5), none] [] h (fb_SH_rowAfter_8 N8 h l0 l1 l2 l3 l4 l5) := by
  unfold fb_SH_rowAfter_8
  refine gx_iload (i := 5) (by decide +kernel) rfl ?_
  refine gx_aload_n (i := 0) (by decide +kernel) rfl ?_
  refine gx_geti gk_SH (by decide) fl_SH_9 (Or.inl rfl) (by decide +kernel) (fun c2 => ?_)
  refine gx_g (fun c3 => ?_)
  refine gx_icmp_ge (off := 66) (tgt := 80) c3 c2 (by decide +kernel) (by decide) ?_ ?_
  · refine gx_iload_n (i := 3) (by decide +kernel) rfl ?_
    refine gx_iload (i := 4) (by decide +kernel) rfl ?_
    refine gx_g (fun c4 => ?_)
    refine gx_g (fun c5 => ?_)
    refine gx_max c4 c5 ml_SH_43 (by decide) (Nat.le_of_ble_eq_true rfl) ⟨by decide, by decide⟩ (by decide +kernel) ?_
    refine gx_aload_n (i := 0) (by decide +kernel) rfl ?_
    refine gx_getr gk_SH (by decide) fl_SH_19 rfl (by decide +kernel) ?_
    refine gx_iload_n (i := 1) (by decide +kernel) rfl ?_
    refine gx_iload_n (i := 2) (by decide +kernel) rfl ?_
    refine gx_cSNi2 (Mc := gm_LE_cell) (u' := (0, 0)) (c_LE_cell _ _ _) sk_LE_cell ml_SH_22 rfl rfl ⟨by decide, by decide, by decide, by decide⟩ (Nat.le_of_ble_eq_true rfl) (by decide +kernel) (fun r7 h8 => ?_)
    refine gx_ialdi (by decide +kernel) (fun c10 => ?_)
    refine gx_isub (by decide +kernel) ?_
    exact gx_ireturn rfl rfl (by decide +kernel)
  · refine gx_aload_n (i := 0) (by decide +kernel) rfl ?_
    refine gx_getr gk_SH (by decide) fl_SH_15 rfl (by decide +kernel) ?_
    refine gx_iload (i := 5) (by decide +kernel) rfl ?_
    refine gx_iload_n (i := 1) (by decide +kernel) rfl ?_
    refine gx_cSNi2 (Mc := gm_LE_cell) (u' := (0, 0)) (c_LE_cell _ _ _) sk_LE_cell ml_SH_22 rfl rfl ⟨by decide, by decide, by decide, by decide⟩ (Nat.le_of_ble_eq_true rfl) (by decide +kernel) (fun r12 h13 => ?_)
    refine gx_ialdi (by decide +kernel) (fun c15 => ?_)
    refine gx_istore (i := 6) (l' := [some (gx_R _), some (gx_I _), some (gx_I _), some (gx_I _), some (gx_I _), some (gx_I _), some (gx_I _)]) (by decide +kernel) rfl (Nat.le_of_ble_eq_true rfl) (by decide) rfl ?_
    refine gx_iload (i := 6) (by decide +kernel) rfl ?_
    refine gx_if_le (off := 23) (tgt := 55) c15 (by decide +kernel) (by decide) ?_ ?_
    · refine gx_iload (i := 4) (by decide +kernel) rfl ?_
      refine gx_iload (i := 6) (by decide +kernel) rfl ?_
      refine gx_aload_n (i := 0) (by decide +kernel) rfl ?_
      refine gx_getr gk_SH (by decide) fl_SH_19 rfl (by decide +kernel) ?_
      refine gx_iload (i := 5) (by decide +kernel) rfl ?_
      refine gx_iload_n (i := 2) (by decide +kernel) rfl ?_
      refine gx_cSNi2 (Mc := gm_LE_cell) (u' := (0, 0)) (c_LE_cell _ _ _) sk_LE_cell ml_SH_22 rfl rfl ⟨by decide, by decide, by decide, by decide⟩ (Nat.le_of_ble_eq_true rfl) (by decide +kernel) (fun r17 h18 => ?_)
      refine gx_ialdi (by decide +kernel) (fun c20 => ?_)
      refine gx_imul (by decide +kernel) ?_
      refine gx_isub (by decide +kernel) ?_
      refine gx_istore (i := 4) (l' := [some (gx_R _), some (gx_I _), some (gx_I _), some (gx_I _), some (gx_I _), some (gx_I _), some (gx_I _)]) (by decide +kernel) rfl (Nat.le_of_ble_eq_true rfl) (by decide) rfl ?_
      exact gx_less' (y_SH_rowAfter_74 _ hN8 _ _ _ _ _ _ _) ⟨rfl, rfl, rfl, rfl, rfl, rfl, trivial⟩
    · refine gx_iload_n (i := 3) (by decide +kernel) rfl ?_
      refine gx_iload (i := 6) (by decide +kernel) rfl ?_
      refine gx_aload_n (i := 0) (by decide +kernel) rfl ?_
      refine gx_getr gk_SH (by decide) fl_SH_19 rfl (by decide +kernel) ?_
      refine gx_iload (i := 5) (by decide +kernel) rfl ?_
      refine gx_iload_n (i := 2) (by decide +kernel) rfl ?_
      refine gx_cSNi2 (Mc := gm_LE_cell) (u' := (0, 0)) (c_LE_cell _ _ _) sk_LE_cell ml_SH_22 rfl rfl ⟨by decide, by decide, by decide, by decide⟩ (Nat.le_of_ble_eq_true rfl) (by decide +kernel) (fun r22 h23 => ?_)
      refine gx_ialdi (by decide +kernel) (fun c25 => ?_)
      refine gx_imul (by decide +kernel) ?_
      refine gx_iadd (by decide +kernel) ?_
      refine gx_istore_n (i := 3) (l' := [some (gx_R _), some (gx_I _), some (gx_I _), some (gx_I _), some (gx_I _), some (gx_I _), some (gx_I _)]) (by decide +kernel) rfl (Nat.le_of_ble_eq_true rfl) (by decide) rfl ?_
      refine gx_goto (off := 22) (tgt := 74) (by decide +kernel) (by decide) ?_
      exact gx_less' (y_SH_rowAfter_74 _ hN8 _ _ _ _ _ _ _) ⟨rfl, rfl, rfl, rfl, rfl, rfl, trivial⟩
def f_SH_rowAfter_8 : Nat → gx_H → Nat → Int → Int → Int → Int → Int → Option (Int × gx_H)
  | 0 => fun _ _ _ _ _ _ _ => none
  | fu + 1 => fb_SH_rowAfter_8 (f_SH_rowAfter_8 fu)
theorem y_SH_rowAfter_8 : ∀ (fu : Nat) (h : gx_H) (l0 : Nat) (l1 : Int) (l2 : Int) (l3 : Int) (l4 : Int) (l5 : Int), gx_Y gm_SH_rowAfter (0, 0) 8 [some (gx_R l0), some (gx_I l1), some (gx_I l2), some (gx_I l3), some (gx_I l4), some (gx_I l5), none] [] h (f_SH_rowAfter_8 fu h l0 l1 l2 l3 l4 l5) := by
  intro fu
  induction fu with
  | zero => intro h l0 l1 l2 l3 l4 l5; exact gx_none
  | succ fu ih => intro h l0 l1 l2 l3 l4 l5; exact yb_SH_rowAfter_8 (f_SH_rowAfter_8 fu) ih h l0 l1 l2 l3 l4 l5
def f_SH_rowAfter (h : gx_H) (l0 : Nat) (l1 : Int) (l2 : Int) : Option (Int × gx_H) :=
  f_SH_rowAfter_8 gx_fu h l0 l1 l2 0 0 0
set_option maxHeartbeats 4000000 in
set_option maxRecDepth 100000 in
theorem c_SH_rowAfter (h : gx_H) (l0 : Nat) (l1 : Int) (l2 : Int) : ∀ r h1, f_SH_rowAfter h l0 l1 l2 = some (r, h1) → gx_Met gm_SH_rowAfter [gx_R l0, gx_I l1, gx_I l2] h r h1 := by
  refine gx_enter (l := [some (gx_R l0), some (gx_I l1), some (gx_I l2), none, none, none, none]) (by decide) (Nat.le_of_ble_eq_true rfl) rfl ?_
  unfold f_SH_rowAfter
  refine gx_iconst (n := 0) (by decide +kernel) ?_
  refine gx_istore_n (i := 3) (l' := [some (gx_R _), some (gx_I _), some (gx_I _), some (gx_I _), none, none, none]) (by decide +kernel) rfl (Nat.le_of_ble_eq_true rfl) (by decide) rfl ?_
  refine gx_iconst (n := 0) (by decide +kernel) ?_
  refine gx_istore (i := 4) (l' := [some (gx_R _), some (gx_I _), some (gx_I _), some (gx_I _), some (gx_I _), none, none]) (by decide +kernel) rfl (Nat.le_of_ble_eq_true rfl) (by decide) rfl ?_
  refine gx_iconst (n := 0) (by decide +kernel) ?_
  refine gx_istore (i := 5) (l' := [some (gx_R _), some (gx_I _), some (gx_I _), some (gx_I _), some (gx_I _), some (gx_I _), none]) (by decide +kernel) rfl (Nat.le_of_ble_eq_true rfl) (by decide) rfl ?_
  exact gx_less' (y_SH_rowAfter_8 gx_fu _ _ _ _ _ _ _) ⟨rfl, rfl, rfl, rfl, rfl, rfl, trivial⟩
def fb_LE_hasNumberBeyond_9 (N2 : gx_H → Nat → Int → Int → Option (Int × gx_H)) (N9 : gx_H → Nat → Int → Int → Int → Option (Int × gx_H)) (h : gx_H) (l0 : Nat) (l1 : Int) (l2 : Int) (l3 : Int) : Option (Int × gx_H) :=
  gq_g (gx_i l3) (gq_g (gx_i l1) (if l3 < l1 then gq_call (f_LE_cell h l2 l3) (fun r3 h4 => gq_ald 0 h4 l0 r3 (fun v5 => if 99 < v5 then some (1, h4) else if v5 < (-99) then some (1, h4) else N9 h4 l0 l1 l2 (l3 + 1))) else N2 h l0 l1 (l2 + 1)))
set_option maxHeartbeats 4000000 in
set_option maxRecDepth 100000 in
theorem yb_LE_hasNumberBeyond_9 (N2 : gx_H → Nat → Int → Int → Option (Int × gx_H)) (hN2 : ∀ (h : gx_H) (l0 : Nat) (l1 : Int) (l2 : Int), gx_Y gm_LE_hasNumberBeyond (0, 0) 2 [some (gx_R l0), some (gx_I l1), some (gx_I l2), none, none] [] h (N2 h l0 l1 l2)) (N9 : gx_H → Nat → Int → Int → Int → Option (Int × gx_H)) (hN9 : ∀ (h : gx_H) (l0 : Nat) (l1 : Int) (l2 : Int) (l3 : Int), gx_Y gm_LE_hasNumberBeyond (0, 0) 9 [some (gx_R l0), some (gx_I l1), some (gx_I l2), some (gx_I l3), none] [] h (N9 h l0 l1 l2 l3)) (h : gx_H) (l0 : Nat) (l1 : Int) (l2 : Int) (l3 : Int) : gx_Y gm_LE_hasNumberBeyond (0, 0) 9 [some (gx_R l0), some (gx_I l1), some (gx_I l2), some (gx_I l3), none] [] h (fb_LE_hasNumberBeyond_9 N2 N9 h l0 l1 l2 l3) := by
  unfold fb_LE_hasNumberBeyond_9
  refine gx_iload_n (i := 3) (by decide +kernel) rfl ?_
  refine gx_iload_n (i := 1) (by decide +kernel) rfl ?_
  refine gx_g (fun c1 => ?_)
  refine gx_g (fun c2 => ?_)
  refine gx_icmp_ge (off := 34) (tgt := 45) c1 c2 (by decide +kernel) (by decide) ?_ ?_
  · refine gx_iinc (i := 2) (n := 1) (l' := [some (gx_R _), some (gx_I _), some (gx_I _), some (gx_I _), none]) (by decide +kernel) rfl rfl (Nat.le_of_ble_eq_true rfl) (by decide) rfl ?_
    refine gx_goto (off := -46) (tgt := 2) (by decide +kernel) (by decide) ?_
    exact gx_less' (hN2 _ _ _ _) ⟨rfl, rfl, rfl, trivial⟩
  · refine gx_aload_n (i := 0) (by decide +kernel) rfl ?_
    refine gx_iload_n (i := 2) (by decide +kernel) rfl ?_
    refine gx_iload_n (i := 3) (by decide +kernel) rfl ?_
    refine gx_cSi2 (Mc := gm_LE_cell) (u' := (0, 0)) (c_LE_cell _ _ _) sk_LE_cell ml_LE_176 rfl rfl ⟨by decide, by decide, by decide, by decide⟩ (Nat.le_of_ble_eq_true rfl) (by decide +kernel) (fun r3 h4 => ?_)
    refine gx_ialdi (by decide +kernel) (fun c6 => ?_)
    refine gx_istore (i := 4) (l' := [some (gx_R _), some (gx_I _), some (gx_I _), some (gx_I _), some (gx_I _)]) (by decide +kernel) rfl (Nat.le_of_ble_eq_true rfl) (by decide) rfl ?_
    refine gx_iload (i := 4) (by decide +kernel) rfl ?_
    refine gx_bipush (n := 99) (by decide +kernel) (by decide) ?_
    refine gx_icmp_gt (off := 10) (tgt := 37) c6 (by decide) (by decide +kernel) (by decide) ?_ ?_
    · refine gx_iconst (n := 1) (by decide +kernel) ?_
      exact gx_zreturn (by decide) rfl rfl (by decide +kernel)
    · refine gx_iload (i := 4) (by decide +kernel) rfl ?_
      refine gx_bipush (n := (-99)) (by decide +kernel) (by decide) ?_
      refine gx_icmp_ge (off := 5) (tgt := 39) c6 (by decide) (by decide +kernel) (by decide) ?_ ?_
      · refine gx_iinc (i := 3) (n := 1) (l' := [some (gx_R _), some (gx_I _), some (gx_I _), some (gx_I _), some (gx_I _)]) (by decide +kernel) rfl rfl (Nat.le_of_ble_eq_true rfl) (by decide) rfl ?_
        refine gx_goto (off := -33) (tgt := 9) (by decide +kernel) (by decide) ?_
        exact gx_less' (hN9 _ _ _ _ _) ⟨rfl, rfl, rfl, rfl, trivial⟩
      · refine gx_iconst (n := 1) (by decide +kernel) ?_
        exact gx_zreturn (by decide) rfl rfl (by decide +kernel)
def f_LE_hasNumberBeyond_9 (N2 : gx_H → Nat → Int → Int → Option (Int × gx_H)) : Nat → gx_H → Nat → Int → Int → Int → Option (Int × gx_H)
  | 0 => fun _ _ _ _ _ => none
  | fu + 1 => fb_LE_hasNumberBeyond_9 N2 (f_LE_hasNumberBeyond_9 N2 fu)
theorem y_LE_hasNumberBeyond_9 (N2 : gx_H → Nat → Int → Int → Option (Int × gx_H)) (hN2 : ∀ (h : gx_H) (l0 : Nat) (l1 : Int) (l2 : Int), gx_Y gm_LE_hasNumberBeyond (0, 0) 2 [some (gx_R l0), some (gx_I l1), some (gx_I l2), none, none] [] h (N2 h l0 l1 l2)) : ∀ (fu : Nat) (h : gx_H) (l0 : Nat) (l1 : Int) (l2 : Int) (l3 : Int), gx_Y gm_LE_hasNumberBeyond (0, 0) 9 [some (gx_R l0), some (gx_I l1), some (gx_I l2), some (gx_I l3), none] [] h (f_LE_hasNumberBeyond_9 N2 fu h l0 l1 l2 l3) := by
  intro fu
  induction fu with
  | zero => intro h l0 l1 l2 l3; exact gx_none
  | succ fu ih => intro h l0 l1 l2 l3; exact yb_LE_hasNumberBeyond_9 N2 hN2 (f_LE_hasNumberBeyond_9 N2 fu) ih h l0 l1 l2 l3
def fb_LE_hasNumberBeyond_2 (N2 : gx_H → Nat → Int → Int → Option (Int × gx_H)) (h : gx_H) (l0 : Nat) (l1 : Int) (l2 : Int) : Option (Int × gx_H) :=
  gq_g (gx_i l2) (gq_g (gx_i l1) (if l2 < l1 then f_LE_hasNumberBeyond_9 N2 gx_fu h l0 l1 l2 0 else some (0, h)))
set_option maxHeartbeats 4000000 in
set_option maxRecDepth 100000 in
theorem yb_LE_hasNumberBeyond_2 (N2 : gx_H → Nat → Int → Int → Option (Int × gx_H)) (hN2 : ∀ (h : gx_H) (l0 : Nat) (l1 : Int) (l2 : Int), gx_Y gm_LE_hasNumberBeyond (0, 0) 2 [some (gx_R l0), some (gx_I l1), some (gx_I l2), none, none] [] h (N2 h l0 l1 l2)) (h : gx_H) (l0 : Nat) (l1 : Int) (l2 : Int) : gx_Y gm_LE_hasNumberBeyond (0, 0) 2 [some (gx_R l0), some (gx_I l1), some (gx_I l2), none, none] [] h (fb_LE_hasNumberBeyond_2 N2 h l0 l1 l2) := by
  unfold fb_LE_hasNumberBeyond_2
  refine gx_iload_n (i := 2) (by decide +kernel) rfl ?_
  refine gx_iload_n (i := 1) (by decide +kernel) rfl ?_
  refine gx_g (fun c1 => ?_)
  refine gx_g (fun c2 => ?_)
  refine gx_icmp_ge (off := 47) (tgt := 51) c1 c2 (by decide +kernel) (by decide) ?_ ?_
  · refine gx_iconst (n := 0) (by decide +kernel) ?_
    exact gx_zreturn (by decide) rfl rfl (by decide +kernel)
  · refine gx_iconst (n := 0) (by decide +kernel) ?_
    refine gx_istore_n (i := 3) (l' := [some (gx_R _), some (gx_I _), some (gx_I _), some (gx_I _), none]) (by decide +kernel) rfl (Nat.le_of_ble_eq_true rfl) (by decide) rfl ?_
    exact gx_less' (y_LE_hasNumberBeyond_9 _ hN2 gx_fu _ _ _ _ _) ⟨rfl, rfl, rfl, rfl, trivial⟩
def f_LE_hasNumberBeyond_2 : Nat → gx_H → Nat → Int → Int → Option (Int × gx_H)
  | 0 => fun _ _ _ _ => none
  | fu + 1 => fb_LE_hasNumberBeyond_2 (f_LE_hasNumberBeyond_2 fu)
theorem y_LE_hasNumberBeyond_2 : ∀ (fu : Nat) (h : gx_H) (l0 : Nat) (l1 : Int) (l2 : Int), gx_Y gm_LE_hasNumberBeyond (0, 0) 2 [some (gx_R l0), some (gx_I l1), some (gx_I l2), none, none] [] h (f_LE_hasNumberBeyond_2 fu h l0 l1 l2) := by
  intro fu
  induction fu with
  | zero => intro h l0 l1 l2; exact gx_none
  | succ fu ih => intro h l0 l1 l2; exact yb_LE_hasNumberBeyond_2 (f_LE_hasNumberBeyond_2 fu) ih h l0 l1 l2
def f_LE_hasNumberBeyond (h : gx_H) (l0 : Nat) (l1 : Int) : Option (Int × gx_H) :=
  f_LE_hasNumberBeyond_2 gx_fu h l0 l1 0
set_option maxHeartbeats 4000000 in
set_option maxRecDepth 100000 in
theorem c_LE_hasNumberBeyond (h : gx_H) (l0 : Nat) (l1 : Int) : ∀ r h1, f_LE_hasNumberBeyond h l0 l1 = some (r, h1) → gx_Met gm_LE_hasNumberBeyond [gx_R l0, gx_I l1] h r h1 := by
  refine gx_enter (l := [some (gx_R l0), some (gx_I l1), none, none, none]) (by decide) (Nat.le_of_ble_eq_true rfl) rfl ?_
  unfold f_LE_hasNumberBeyond
  refine gx_iconst (n := 0) (by decide +kernel) ?_
  refine gx_istore_n (i := 2) (l' := [some (gx_R _), some (gx_I _), some (gx_I _), none, none]) (by decide +kernel) rfl (Nat.le_of_ble_eq_true rfl) (by decide) rfl ?_
  exact gx_less' (y_LE_hasNumberBeyond_2 gx_fu _ _ _ _) ⟨rfl, rfl, rfl, trivial⟩
