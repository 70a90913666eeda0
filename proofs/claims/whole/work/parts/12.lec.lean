def fb_SH_becomeExchanged_85 (N10 : gx_H → Nat → Nat → Int → Int → Option (Int × gx_H)) (N21 : gx_H → Nat → Nat → Int → Int → Int → Option (Int × gx_H)) (h : gx_H) (l0 : Nat) (l1 : Nat) (l2 : Int) (l3 : Int) (l4 : Int) (t0 : Nat) (t1 : Int) (t2 : Int) : Option (Int × gx_H) :=
  gq_ast 0 (gx_i t2) h t0 t1 t2 (fun h1 => N21 h1 l0 l1 l2 l3 (l4 + 1))
set_option maxHeartbeats 4000000 in
set_option maxRecDepth 100000 in
theorem y_SH_becomeExchanged_85 (N10 : gx_H → Nat → Nat → Int → Int → Option (Int × gx_H)) (hN10 : ∀ (h : gx_H) (l0 : Nat) (l1 : Nat) (l2 : Int) (l3 : Int), gx_Y gm_SH_becomeExchanged (0, 0) 10 [some (gx_R l0), some (gx_R l1), some (gx_I l2), some (gx_I l3), none] [] h (N10 h l0 l1 l2 l3)) (N21 : gx_H → Nat → Nat → Int → Int → Int → Option (Int × gx_H)) (hN21 : ∀ (h : gx_H) (l0 : Nat) (l1 : Nat) (l2 : Int) (l3 : Int) (l4 : Int), gx_Y gm_SH_becomeExchanged (0, 0) 21 [some (gx_R l0), some (gx_R l1), some (gx_I l2), some (gx_I l3), some (gx_I l4)] [] h (N21 h l0 l1 l2 l3 l4)) (h : gx_H) (l0 : Nat) (l1 : Nat) (l2 : Int) (l3 : Int) (l4 : Int) (t0 : Nat) (t1 : Int) (t2 : Int) : gx_Y gm_SH_becomeExchanged (0, 0) 85 [some (gx_R l0), some (gx_R l1), some (gx_I l2), some (gx_I l3), some (gx_I l4)] [gx_I t2, gx_I t1, gx_R t0] h (fb_SH_becomeExchanged_85 N10 N21 h l0 l1 l2 l3 l4 t0 t1 t2) := by
  unfold fb_SH_becomeExchanged_85
  refine gx_iast (by decide +kernel) ?_
  refine gx_iinc (i := 4) (n := 1) (l' := [some (gx_R _), some (gx_R _), some (gx_I _), some (gx_I _), some (gx_I _)]) (by decide +kernel) rfl rfl (Nat.le_of_ble_eq_true rfl) (by decide) rfl ?_
  refine gx_goto (off := -68) (tgt := 21) (by decide +kernel) (by decide) ?_
  exact gx_less' (hN21 _ _ _ _ _ _) ⟨rfl, rfl, rfl, rfl, rfl, trivial⟩
def fb_SH_becomeExchanged_21 (N10 : gx_H → Nat → Nat → Int → Int → Option (Int × gx_H)) (N21 : gx_H → Nat → Nat → Int → Int → Int → Option (Int × gx_H)) (h : gx_H) (l0 : Nat) (l1 : Nat) (l2 : Int) (l3 : Int) (l4 : Int) : Option (Int × gx_H) :=
  gq_get h l0 8 0 (fun v1 => gq_g (gx_i l4) (if l4 < v1 then gq_gr h l0 8 1 (fun o4 => gq_call (f_LE_cell h l3 l4) (fun r5 h6 => gq_cv h6 l1 8 (f_SH_tableAfter h6 l1 l3 l4 l2) (fun r7 h8 => gq_ast 0 (gx_i r7) h8 o4 r5 r7 (fun h9 => gq_gr h9 l0 8 2 (fun o10 => gq_call (f_LE_cell h9 l3 l4) (fun r11 h12 => gq_g (gx_i l3) (gq_g (gx_i l2) (if l3 = l2 then gq_cv h12 l1 8 (f_SH_rowAfter h12 l1 l2 l4) (fun r20 h21 => fb_SH_becomeExchanged_85 N10 N21 h21 l0 l1 l2 l3 l4 o10 r11 r20) else gq_gr h12 l1 8 2 (fun o15 => gq_call (f_LE_cell h12 l3 l4) (fun r16 h17 => gq_ald 0 h17 o15 r16 (fun v18 => fb_SH_becomeExchanged_85 N10 N21 h17 l0 l1 l2 l3 l4 o10 r11 v18))))))))))) else N10 h l0 l1 l2 (l3 + 1)))
set_option maxHeartbeats 4000000 in
set_option maxRecDepth 100000 in
theorem yb_SH_becomeExchanged_21 (N10 : gx_H → Nat → Nat → Int → Int → Option (Int × gx_H)) (hN10 : ∀ (h : gx_H) (l0 : Nat) (l1 : Nat) (l2 : Int) (l3 : Int), gx_Y gm_SH_becomeExchanged (0, 0) 10 [some (gx_R l0), some (gx_R l1), some (gx_I l2), some (gx_I l3), none] [] h (N10 h l0 l1 l2 l3)) (N21 : gx_H → Nat → Nat → Int → Int → Int → Option (Int × gx_H)) (hN21 : ∀ (h : gx_H) (l0 : Nat) (l1 : Nat) (l2 : Int) (l3 : Int) (l4 : Int), gx_Y gm_SH_becomeExchanged (0, 0) 21 [some (gx_R l0), some (gx_R l1), some (gx_I l2), some (gx_I l3), some (gx_I l4)] [] h (N21 h l0 l1 l2 l3 l4)) (h : gx_H) (l0 : Nat) (l1 : Nat) (l2 : Int) (l3 : Int) (l4 : Int) : gx_Y gm_SH_becomeExchanged (0, 0) 21 [some (gx_R l0), some (gx_R l1), some (gx_I l2), some (gx_I l3), some (gx_I l4)] [] h (fb_SH_becomeExchanged_21 N10 N21 h l0 l1 l2 l3 l4) := by
  unfold fb_SH_becomeExchanged_21
  refine gx_iload (i := 4) (by decide +kernel) rfl ?_
  refine gx_aload_n (i := 0) (by decide +kernel) rfl ?_
  refine gx_geti gk_SH (by decide) fl_SH_9 (Or.inl rfl) (by decide +kernel) (fun c2 => ?_)
  refine gx_g (fun c3 => ?_)
  refine gx_icmp_ge (off := 65) (tgt := 92) c3 c2 (by decide +kernel) (by decide) ?_ ?_
  · refine gx_iinc (i := 3) (n := 1) (l' := [some (gx_R _), some (gx_R _), some (gx_I _), some (gx_I _), some (gx_I _)]) (by decide +kernel) rfl rfl (Nat.le_of_ble_eq_true rfl) (by decide) rfl ?_
    refine gx_goto (off := -85) (tgt := 10) (by decide +kernel) (by decide) ?_
    exact gx_less' (hN10 _ _ _ _ _) ⟨rfl, rfl, rfl, rfl, trivial⟩
  · refine gx_aload_n (i := 0) (by decide +kernel) rfl ?_
    refine gx_getr gk_SH (by decide) fl_SH_15 rfl (by decide +kernel) ?_
    refine gx_iload_n (i := 3) (by decide +kernel) rfl ?_
    refine gx_iload (i := 4) (by decide +kernel) rfl ?_
    refine gx_cSNi2 (Mc := gm_LE_cell) (u' := (0, 0)) (c_LE_cell _ _ _) sk_LE_cell ml_SH_22 rfl rfl ⟨by decide, by decide, by decide, by decide⟩ (Nat.le_of_ble_eq_true rfl) (by decide +kernel) (fun r5 h6 => ?_)
    refine gx_aload_n (i := 1) (by decide +kernel) rfl ?_
    refine gx_iload_n (i := 3) (by decide +kernel) rfl ?_
    refine gx_iload (i := 4) (by decide +kernel) rfl ?_
    refine gx_iload_n (i := 2) (by decide +kernel) rfl ?_
    refine gx_cVi3 (Mc := gm_SH_tableAfter) (u' := (0, 0)) (c_SH_tableAfter _ _ _ _ _) vk_SH_tableAfter ml_SH_32 rfl rfl ⟨by decide, by decide, by decide, by decide⟩ (Nat.le_of_ble_eq_true rfl) (by decide +kernel) (fun r7 h8 => ?_)
    refine gx_iast (by decide +kernel) ?_
    refine gx_aload_n (i := 0) (by decide +kernel) rfl ?_
    refine gx_getr gk_SH (by decide) fl_SH_19 rfl (by decide +kernel) ?_
    refine gx_iload_n (i := 3) (by decide +kernel) rfl ?_
    refine gx_iload (i := 4) (by decide +kernel) rfl ?_
    refine gx_cSNi2 (Mc := gm_LE_cell) (u' := (0, 0)) (c_LE_cell _ _ _) sk_LE_cell ml_SH_22 rfl rfl ⟨by decide, by decide, by decide, by decide⟩ (Nat.le_of_ble_eq_true rfl) (by decide +kernel) (fun r11 h12 => ?_)
    refine gx_iload_n (i := 3) (by decide +kernel) rfl ?_
    refine gx_iload_n (i := 2) (by decide +kernel) rfl ?_
    refine gx_g (fun c13 => ?_)
    refine gx_g (fun c14 => ?_)
    refine gx_icmp_ne (off := 13) (tgt := 74) c13 c14 (by decide +kernel) (by decide) ?_ ?_
    · refine gx_aload_n (i := 1) (by decide +kernel) rfl ?_
      refine gx_getr gk_SH (by decide) fl_SH_19 rfl (by decide +kernel) ?_
      refine gx_iload_n (i := 3) (by decide +kernel) rfl ?_
      refine gx_iload (i := 4) (by decide +kernel) rfl ?_
      refine gx_cSNi2 (Mc := gm_LE_cell) (u' := (0, 0)) (c_LE_cell _ _ _) sk_LE_cell ml_SH_22 rfl rfl ⟨by decide, by decide, by decide, by decide⟩ (Nat.le_of_ble_eq_true rfl) (by decide +kernel) (fun r16 h17 => ?_)
      refine gx_ialdi (by decide +kernel) (fun c19 => ?_)
      exact gx_less' (y_SH_becomeExchanged_85 _ hN10 _ hN21 _ _ _ _ _ _ _ _ _) ⟨rfl, rfl, rfl, rfl, rfl, trivial⟩
    · refine gx_aload_n (i := 1) (by decide +kernel) rfl ?_
      refine gx_iload_n (i := 2) (by decide +kernel) rfl ?_
      refine gx_iload (i := 4) (by decide +kernel) rfl ?_
      refine gx_cVi2 (Mc := gm_SH_rowAfter) (u' := (0, 0)) (c_SH_rowAfter _ _ _ _) vk_SH_rowAfter ml_SH_36 rfl rfl ⟨by decide, by decide, by decide, by decide⟩ (Nat.le_of_ble_eq_true rfl) (by decide +kernel) (fun r20 h21 => ?_)
      refine gx_goto (off := 14) (tgt := 85) (by decide +kernel) (by decide) ?_
      exact gx_less' (y_SH_becomeExchanged_85 _ hN10 _ hN21 _ _ _ _ _ _ _ _ _) ⟨rfl, rfl, rfl, rfl, rfl, trivial⟩
def f_SH_becomeExchanged_21 (N10 : gx_H → Nat → Nat → Int → Int → Option (Int × gx_H)) : Nat → gx_H → Nat → Nat → Int → Int → Int → Option (Int × gx_H)
  | 0 => fun _ _ _ _ _ _ => none
  | fu + 1 => fb_SH_becomeExchanged_21 N10 (f_SH_becomeExchanged_21 N10 fu)
theorem y_SH_becomeExchanged_21 (N10 : gx_H → Nat → Nat → Int → Int → Option (Int × gx_H)) (hN10 : ∀ (h : gx_H) (l0 : Nat) (l1 : Nat) (l2 : Int) (l3 : Int), gx_Y gm_SH_becomeExchanged (0, 0) 10 [some (gx_R l0), some (gx_R l1), some (gx_I l2), some (gx_I l3), none] [] h (N10 h l0 l1 l2 l3)) : ∀ (fu : Nat) (h : gx_H) (l0 : Nat) (l1 : Nat) (l2 : Int) (l3 : Int) (l4 : Int), gx_Y gm_SH_becomeExchanged (0, 0) 21 [some (gx_R l0), some (gx_R l1), some (gx_I l2), some (gx_I l3), some (gx_I l4)] [] h (f_SH_becomeExchanged_21 N10 fu h l0 l1 l2 l3 l4) := by
  intro fu
  induction fu with
  | zero => intro h l0 l1 l2 l3 l4; exact gx_none
  | succ fu ih => intro h l0 l1 l2 l3 l4; exact yb_SH_becomeExchanged_21 N10 hN10 (f_SH_becomeExchanged_21 N10 fu) ih h l0 l1 l2 l3 l4
def fb_SH_becomeExchanged_130 (h : gx_H) : Option (Int × gx_H) :=
  some (0, h)
set_option maxHeartbeats 4000000 in
set_option maxRecDepth 100000 in
theorem y_SH_becomeExchanged_130 (h : gx_H) : gx_Y gm_SH_becomeExchanged (0, 0) 130 [none, none, none, none, none] [] h (fb_SH_becomeExchanged_130 h) := by
  unfold fb_SH_becomeExchanged_130
  refine gx_iconst (n := 0) (by decide +kernel) ?_
  exact gx_zreturn (by decide) rfl rfl (by decide +kernel)
def fb_SH_becomeExchanged_10 (N10 : gx_H → Nat → Nat → Int → Int → Option (Int × gx_H)) (h : gx_H) (l0 : Nat) (l1 : Nat) (l2 : Int) (l3 : Int) : Option (Int × gx_H) :=
  gq_get h l0 8 0 (fun v1 => gq_g (gx_i l3) (if l3 < v1 then f_SH_becomeExchanged_21 N10 gx_fu h l0 l1 l2 l3 0 else gq_gr h l0 8 1 (fun o4 => gq_get h l0 8 0 (fun v5 => gq_call (f_LE_hasNumberBeyond h o4 v5) (fun r7 h8 => gq_g (gx_i r7) (if r7 = 0 then gq_gr h8 l0 8 2 (fun o10 => gq_get h8 l0 8 0 (fun v11 => gq_call (f_LE_hasNumberBeyond h8 o10 v11) (fun r13 h14 => gq_g (gx_i r13) (if r13 = 0 then some (1, h14) else fb_SH_becomeExchanged_130 h14 )))) else fb_SH_becomeExchanged_130 h8 ))))))
set_option maxHeartbeats 4000000 in
set_option maxRecDepth 100000 in
theorem yb_SH_becomeExchanged_10 (N10 : gx_H → Nat → Nat → Int → Int → Option (Int × gx_H)) (hN10 : ∀ (h : gx_H) (l0 : Nat) (l1 : Nat) (l2 : Int) (l3 : Int), gx_Y gm_SH_becomeExchanged (0, 0) 10 [some (gx_R l0), some (gx_R l1), some (gx_I l2), some (gx_I l3), none] [] h (N10 h l0 l1 l2 l3)) (h : gx_H) (l0 : Nat) (l1 : Nat) (l2 : Int) (l3 : Int) : gx_Y gm_SH_becomeExchanged (0, 0) 10 [some (gx_R l0), some (gx_R l1), some (gx_I l2), some (gx_I l3), none] [] h (fb_SH_becomeExchanged_10 N10 h l0 l1 l2 l3) := by
  unfold fb_SH_becomeExchanged_10
  refine gx_iload_n (i := 3) (by decide +kernel) rfl ?_
  refine gx_aload_n (i := 0) (by decide +kernel) rfl ?_
  refine gx_geti gk_SH (by decide) fl_SH_9 (Or.inl rfl) (by decide +kernel) (fun c2 => ?_)
  refine gx_g (fun c3 => ?_)
  refine gx_icmp_ge (off := 83) (tgt := 98) c3 c2 (by decide +kernel) (by decide) ?_ ?_
  · refine gx_aload_n (i := 0) (by decide +kernel) rfl ?_
    refine gx_getr gk_SH (by decide) fl_SH_15 rfl (by decide +kernel) ?_
    refine gx_aload_n (i := 0) (by decide +kernel) rfl ?_
    refine gx_geti gk_SH (by decide) fl_SH_9 (Or.inl rfl) (by decide +kernel) (fun c6 => ?_)
    refine gx_cSNi2 (Mc := gm_LE_hasNumberBeyond) (u' := (0, 0)) (c_LE_hasNumberBeyond _ _ _) sk_LE_hasNumberBeyond ml_SH_39 rfl rfl ⟨by decide, by decide, by decide, by decide⟩ (Nat.le_of_ble_eq_true rfl) (by decide +kernel) (fun r7 h8 => ?_)
    refine gx_g (fun c9 => ?_)
    refine gx_if_ne (off := 21) (tgt := 130) c9 (by decide +kernel) (by decide) ?_ ?_
    · exact gx_less' (y_SH_becomeExchanged_130 _) trivial
    · refine gx_aload_n (i := 0) (by decide +kernel) rfl ?_
      refine gx_getr gk_SH (by decide) fl_SH_19 rfl (by decide +kernel) ?_
      refine gx_aload_n (i := 0) (by decide +kernel) rfl ?_
      refine gx_geti gk_SH (by decide) fl_SH_9 (Or.inl rfl) (by decide +kernel) (fun c12 => ?_)
      refine gx_cSNi2 (Mc := gm_LE_hasNumberBeyond) (u' := (0, 0)) (c_LE_hasNumberBeyond _ _ _) sk_LE_hasNumberBeyond ml_SH_39 rfl rfl ⟨by decide, by decide, by decide, by decide⟩ (Nat.le_of_ble_eq_true rfl) (by decide +kernel) (fun r13 h14 => ?_)
      refine gx_g (fun c15 => ?_)
      refine gx_if_ne (off := 7) (tgt := 130) c15 (by decide +kernel) (by decide) ?_ ?_
      · exact gx_less' (y_SH_becomeExchanged_130 _) trivial
      · refine gx_iconst (n := 1) (by decide +kernel) ?_
        refine gx_goto (off := 4) (tgt := 131) (by decide +kernel) (by decide) ?_
        exact gx_zreturn (by decide) rfl rfl (by decide +kernel)
  · refine gx_iconst (n := 0) (by decide +kernel) ?_
    refine gx_istore (i := 4) (l' := [some (gx_R _), some (gx_R _), some (gx_I _), some (gx_I _), some (gx_I _)]) (by decide +kernel) rfl (Nat.le_of_ble_eq_true rfl) (by decide) rfl ?_
    exact gx_less' (y_SH_becomeExchanged_21 _ hN10 gx_fu _ _ _ _ _ _) ⟨rfl, rfl, rfl, rfl, rfl, trivial⟩
def f_SH_becomeExchanged_10 : Nat → gx_H → Nat → Nat → Int → Int → Option (Int × gx_H)
  | 0 => fun _ _ _ _ _ => none
  | fu + 1 => fb_SH_becomeExchanged_10 (f_SH_becomeExchanged_10 fu)
theorem y_SH_becomeExchanged_10 : ∀ (fu : Nat) (h : gx_H) (l0 : Nat) (l1 : Nat) (l2 : Int) (l3 : Int), gx_Y gm_SH_becomeExchanged (0, 0) 10 [some (gx_R l0), some (gx_R l1), some (gx_I l2), some (gx_I l3), none] [] h (f_SH_becomeExchanged_10 fu h l0 l1 l2 l3) := by
  intro fu
  induction fu with
  | zero => intro h l0 l1 l2 l3; exact gx_none
  | succ fu ih => intro h l0 l1 l2 l3; exact yb_SH_becomeExchanged_10 (f_SH_becomeExchanged_10 fu) ih h l0 l1 l2 l3
def f_SH_becomeExchanged (h : gx_H) (l0 : Nat) (l1 : Nat) (l2 : Int) : Option (Int × gx_H) :=
  gq_get h l1 8 0 (fun v1 => gq_put True h l0 8 0 v1 (fun h3 => f_SH_becomeExchanged_10 gx_fu h3 l0 l1 l2 0))
set_option maxHeartbeats 4000000 in
set_option maxRecDepth 100000 in
theorem c_SH_becomeExchanged (h : gx_H) (l0 : Nat) (l1 : Nat) (l2 : Int) : ∀ r h1, f_SH_becomeExchanged h l0 l1 l2 = some (r, h1) → gx_Met gm_SH_becomeExchanged [gx_R l0, gx_R l1, gx_I l2] h r h1 := by
  refine gx_enter (l := [some (gx_R l0), some (gx_R l1), some (gx_I l2), none, none]) (by decide) (Nat.le_of_ble_eq_true rfl) rfl ?_
  unfold f_SH_becomeExchanged
  refine gx_aload_n (i := 0) (by decide +kernel) rfl ?_
  refine gx_aload_n (i := 1) (by decide +kernel) rfl ?_
  refine gx_geti gk_SH (by decide) fl_SH_9 (Or.inl rfl) (by decide +kernel) (fun c2 => ?_)
  refine gx_putiT c2 gk_SH (by decide) fl_SH_9 rfl rfl (by decide +kernel) ?_
  refine gx_iconst (n := 0) (by decide +kernel) ?_
  refine gx_istore_n (i := 3) (l' := [some (gx_R _), some (gx_R _), some (gx_I _), some (gx_I _), none]) (by decide +kernel) rfl (Nat.le_of_ble_eq_true rfl) (by decide) rfl ?_
  exact gx_less' (y_SH_becomeExchanged_10 gx_fu _ _ _ _ _) ⟨rfl, rfl, rfl, rfl, trivial⟩
def fb_GR_isProbe_2 (N2 : gx_H → Nat → Int → Int → Option (Int × gx_H)) (h : gx_H) (l0 : Nat) (l1 : Int) (l2 : Int) : Option (Int × gx_H) :=
  gq_get h l0 5 1 (fun v1 => gq_g (gx_i l2) (if l2 < v1 then gq_gr h l0 5 5 (fun o4 => gq_ald 0 h o4 ((l1 * 8) + l2) (fun v5 => gq_gr h l0 5 6 (fun o7 => gq_ald 0 h o7 l2 (fun v8 => if v5 = v8 then gq_gr h l0 5 5 (fun o10 => gq_ald 0 h o10 (((l1 * 8) + 4) + l2) (fun v11 => gq_gr h l0 5 6 (fun o13 => gq_ald 0 h o13 (4 + l2) (fun v14 => if v11 = v14 then N2 h l0 l1 (l2 + 1) else some (0, h))))) else some (0, h))))) else some (1, h)))
set_option maxHeartbeats 4000000 in
set_option maxRecDepth 100000 in
theorem yb_GR_isProbe_2 (N2 : gx_H → Nat → Int → Int → Option (Int × gx_H)) (hN2 : ∀ (h : gx_H) (l0 : Nat) (l1 : Int) (l2 : Int), gx_Y gm_GR_isProbe (0, 0) 2 [some (gx_R l0), some (gx_I l1), some (gx_I l2)] [] h (N2 h l0 l1 l2)) (h : gx_H) (l0 : Nat) (l1 : Int) (l2 : Int) : gx_Y gm_GR_isProbe (0, 0) 2 [some (gx_R l0), some (gx_I l1), some (gx_I l2)] [] h (fb_GR_isProbe_2 N2 h l0 l1 l2) := by
  unfold fb_GR_isProbe_2
  refine gx_iload_n (i := 2) (by decide +kernel) rfl ?_
  refine gx_aload_n (i := 0) (by decide +kernel) rfl ?_
  refine gx_geti gk_GR (by decide) fl_GR_15 (Or.inl rfl) (by decide +kernel) (fun c2 => ?_)
  refine gx_g (fun c3 => ?_)
  refine gx_icmp_ge (off := 55) (tgt := 62) c3 c2 (by decide +kernel) (by decide) ?_ ?_
  · refine gx_iconst (n := 1) (by decide +kernel) ?_
    exact gx_zreturn (by decide) rfl rfl (by decide +kernel)
  · refine gx_aload_n (i := 0) (by decide +kernel) rfl ?_
    refine gx_getr gk_GR (by decide) fl_GR_29 rfl (by decide +kernel) ?_
    refine gx_iload_n (i := 1) (by decide +kernel) rfl ?_
    refine gx_bipush (n := 8) (by decide +kernel) (by decide) ?_
    refine gx_imul (by decide +kernel) ?_
    refine gx_iload_n (i := 2) (by decide +kernel) rfl ?_
    refine gx_iadd (by decide +kernel) ?_
    refine gx_ialdi (by decide +kernel) (fun c6 => ?_)
    refine gx_aload_n (i := 0) (by decide +kernel) rfl ?_
    refine gx_getr gk_GR (by decide) fl_GR_32 rfl (by decide +kernel) ?_
    refine gx_iload_n (i := 2) (by decide +kernel) rfl ?_
    refine gx_ialdi (by decide +kernel) (fun c9 => ?_)
    refine gx_icmp_ne (off := 27) (tgt := 54) c6 c9 (by decide +kernel) (by decide) ?_ ?_
    · refine gx_iconst (n := 0) (by decide +kernel) ?_
      exact gx_zreturn (by decide) rfl rfl (by decide +kernel)
    · refine gx_aload_n (i := 0) (by decide +kernel) rfl ?_
      refine gx_getr gk_GR (by decide) fl_GR_29 rfl (by decide +kernel) ?_
      refine gx_iload_n (i := 1) (by decide +kernel) rfl ?_
      refine gx_bipush (n := 8) (by decide +kernel) (by decide) ?_
      refine gx_imul (by decide +kernel) ?_
      refine gx_iconst (n := 4) (by decide +kernel) ?_
      refine gx_iadd (by decide +kernel) ?_
      refine gx_iload_n (i := 2) (by decide +kernel) rfl ?_
      refine gx_iadd (by decide +kernel) ?_
      refine gx_ialdi (by decide +kernel) (fun c12 => ?_)
      refine gx_aload_n (i := 0) (by decide +kernel) rfl ?_
      refine gx_getr gk_GR (by decide) fl_GR_32 rfl (by decide +kernel) ?_
      refine gx_iconst (n := 4) (by decide +kernel) ?_
      refine gx_iload_n (i := 2) (by decide +kernel) rfl ?_
      refine gx_iadd (by decide +kernel) ?_
      refine gx_ialdi (by decide +kernel) (fun c15 => ?_)
      refine gx_icmp_eq (off := 5) (tgt := 56) c12 c15 (by decide +kernel) (by decide) ?_ ?_
      · refine gx_iinc (i := 2) (n := 1) (l' := [some (gx_R _), some (gx_I _), some (gx_I _)]) (by decide +kernel) rfl rfl (Nat.le_of_ble_eq_true rfl) (by decide) rfl ?_
        refine gx_goto (off := -57) (tgt := 2) (by decide +kernel) (by decide) ?_
        exact gx_less' (hN2 _ _ _ _) ⟨rfl, rfl, rfl, trivial⟩
      · refine gx_iconst (n := 0) (by decide +kernel) ?_
        exact gx_zreturn (by decide) rfl rfl (by decide +kernel)
def f_GR_isProbe_2 : Nat → gx_H → Nat → Int → Int → Option (Int × gx_H)
  | 0 => fun _ _ _ _ => none
  | fu + 1 => fb_GR_isProbe_2 (f_GR_isProbe_2 fu)
theorem y_GR_isProbe_2 : ∀ (fu : Nat) (h : gx_H) (l0 : Nat) (l1 : Int) (l2 : Int), gx_Y gm_GR_isProbe (0, 0) 2 [some (gx_R l0), some (gx_I l1), some (gx_I l2)] [] h (f_GR_isProbe_2 fu h l0 l1 l2) := by
  intro fu
  induction fu with
  | zero => intro h l0 l1 l2; exact gx_none
  | succ fu ih => intro h l0 l1 l2; exact yb_GR_isProbe_2 (f_GR_isProbe_2 fu) ih h l0 l1 l2
def f_GR_isProbe (h : gx_H) (l0 : Nat) (l1 : Int) : Option (Int × gx_H) :=
  f_GR_isProbe_2 gx_fu h l0 l1 0
set_option maxHeartbeats 4000000 in
set_option maxRecDepth 100000 in
theorem c_GR_isProbe (h : gx_H) (l0 : Nat) (l1 : Int) : ∀ r h1, f_GR_isProbe h l0 l1 = some (r, h1) → gx_Met gm_GR_isProbe [gx_R l0, gx_I l1] h r h1 := by
  refine gx_enter (l := [some (gx_R l0), some (gx_I l1), none]) (by decide) (Nat.le_of_ble_eq_true rfl) rfl ?_
  unfold f_GR_isProbe
  refine gx_iconst (n := 0) (by decide +kernel) ?_
  refine gx_istore_n (i := 2) (l' := [some (gx_R _), some (gx_I _), some (gx_I _)]) (by decide +kernel) rfl (Nat.le_of_ble_eq_true rfl) (by decide) rfl ?_
  exact gx_less' (y_GR_isProbe_2 gx_fu _ _ _ _) ⟨rfl, rfl, rfl, trivial⟩
def fb_GR_standOfProbe_38 (N2 : gx_H → Nat → Int → Option (Int × gx_H)) (h : gx_H) (l0 : Nat) (l1 : Int) : Option (Int × gx_H) :=
  N2 h l0 (l1 + 1)
set_option maxHeartbeats 4000000 in
set_option maxRecDepth 100000 in
theorem y_GR_standOfProbe_38 (N2 : gx_H → Nat → Int → Option (Int × gx_H)) (hN2 : ∀ (h : gx_H) (l0 : Nat) (l1 : Int), gx_Y gm_GR_standOfProbe (0, 0) 2 [some (gx_R l0), some (gx_I l1)] [] h (N2 h l0 l1)) (h : gx_H) (l0 : Nat) (l1 : Int) : gx_Y gm_GR_standOfProbe (0, 0) 38 [some (gx_R l0), some (gx_I l1)] [] h (fb_GR_standOfProbe_38 N2 h l0 l1) := by
  unfold fb_GR_standOfProbe_38
  refine gx_iinc (i := 1) (n := 1) (l' := [some (gx_R _), some (gx_I _)]) (by decide +kernel) rfl rfl (Nat.le_of_ble_eq_true rfl) (by decide) rfl ?_
  refine gx_goto (off := -39) (tgt := 2) (by decide +kernel) (by decide) ?_
  exact gx_less' (hN2 _ _ _) ⟨rfl, rfl, trivial⟩
def fb_GR_standOfProbe_2 (N2 : gx_H → Nat → Int → Option (Int × gx_H)) (h : gx_H) (l0 : Nat) (l1 : Int) : Option (Int × gx_H) :=
  gq_get h l0 5 0 (fun v1 => gq_g (gx_i l1) (if l1 < v1 then gq_gr h l0 5 5 (fun o4 => gq_ald 0 h o4 (l1 * 8) (fun v5 => gq_gr h l0 5 6 (fun o7 => gq_ald 0 h o7 0 (fun v8 => if v5 = v8 then gq_cv h l0 5 (f_GR_isProbe h l0 l1) (fun r10 h11 => gq_g (gx_i r10) (if r10 = 0 then fb_GR_standOfProbe_38 N2 h11 l0 l1 else some (l1, h11))) else fb_GR_standOfProbe_38 N2 h l0 l1)))) else some ((-1), h)))
set_option maxHeartbeats 4000000 in
set_option maxRecDepth 100000 in
theorem yb_GR_standOfProbe_2 (N2 : gx_H → Nat → Int → Option (Int × gx_H)) (hN2 : ∀ (h : gx_H) (l0 : Nat) (l1 : Int), gx_Y gm_GR_standOfProbe (0, 0) 2 [some (gx_R l0), some (gx_I l1)] [] h (N2 h l0 l1)) (h : gx_H) (l0 : Nat) (l1 : Int) : gx_Y gm_GR_standOfProbe (0, 0) 2 [some (gx_R l0), some (gx_I l1)] [] h (fb_GR_standOfProbe_2 N2 h l0 l1) := by
  unfold fb_GR_standOfProbe_2
  refine gx_iload_n (i := 1) (by decide +kernel) rfl ?_
  refine gx_aload_n (i := 0) (by decide +kernel) rfl ?_
  refine gx_geti gk_GR (by decide) fl_GR_9 (Or.inl rfl) (by decide +kernel) (fun c2 => ?_)
  refine gx_g (fun c3 => ?_)
  refine gx_icmp_ge (off := 37) (tgt := 44) c3 c2 (by decide +kernel) (by decide) ?_ ?_
  · refine gx_iconst (n := (-1)) (by decide +kernel) ?_
    exact gx_ireturn rfl rfl (by decide +kernel)
  · refine gx_aload_n (i := 0) (by decide +kernel) rfl ?_
    refine gx_getr gk_GR (by decide) fl_GR_29 rfl (by decide +kernel) ?_
    refine gx_iload_n (i := 1) (by decide +kernel) rfl ?_
    refine gx_bipush (n := 8) (by decide +kernel) (by decide) ?_
    refine gx_imul (by decide +kernel) ?_
    refine gx_ialdi (by decide +kernel) (fun c6 => ?_)
    refine gx_aload_n (i := 0) (by decide +kernel) rfl ?_
    refine gx_getr gk_GR (by decide) fl_GR_32 rfl (by decide +kernel) ?_
    refine gx_iconst (n := 0) (by decide +kernel) ?_
    refine gx_ialdi (by decide +kernel) (fun c9 => ?_)
    refine gx_icmp_ne (off := 13) (tgt := 38) c6 c9 (by decide +kernel) (by decide) ?_ ?_
    · exact gx_less' (y_GR_standOfProbe_38 _ hN2 _ _ _) ⟨rfl, rfl, trivial⟩
    · refine gx_aload_n (i := 0) (by decide +kernel) rfl ?_
      refine gx_iload_n (i := 1) (by decide +kernel) rfl ?_
      refine gx_cVi1 (Mc := gm_GR_isProbe) (u' := (0, 0)) (c_GR_isProbe _ _ _) vk_GR_isProbe ml_GR_105 rfl rfl ⟨by decide, by decide, by decide, by decide⟩ (Nat.le_of_ble_eq_true rfl) (by decide +kernel) (fun r10 h11 => ?_)
      refine gx_g (fun c12 => ?_)
      refine gx_if_eq (off := 5) (tgt := 38) c12 (by decide +kernel) (by decide) ?_ ?_
      · exact gx_less' (y_GR_standOfProbe_38 _ hN2 _ _ _) ⟨rfl, rfl, trivial⟩
      · refine gx_iload_n (i := 1) (by decide +kernel) rfl ?_
        exact gx_ireturn rfl rfl (by decide +kernel)
def f_GR_standOfProbe_2 : Nat → gx_H → Nat → Int → Option (Int × gx_H)
  | 0 => fun _ _ _ => none
  | fu + 1 => fb_GR_standOfProbe_2 (f_GR_standOfProbe_2 fu)
theorem y_GR_standOfProbe_2 : ∀ (fu : Nat) (h : gx_H) (l0 : Nat) (l1 : Int), gx_Y gm_GR_standOfProbe (0, 0) 2 [some (gx_R l0), some (gx_I l1)] [] h (f_GR_standOfProbe_2 fu h l0 l1) := by
  intro fu
  induction fu with
  | zero => intro h l0 l1; exact gx_none
  | succ fu ih => intro h l0 l1; exact yb_GR_standOfProbe_2 (f_GR_standOfProbe_2 fu) ih h l0 l1
def f_GR_standOfProbe (h : gx_H) (l0 : Nat) : Option (Int × gx_H) :=
  f_GR_standOfProbe_2 gx_fu h l0 0
set_option maxHeartbeats 4000000 in
set_option maxRecDepth 100000 in
theorem c_GR_standOfProbe (h : gx_H) (l0 : Nat) : ∀ r h1, f_GR_standOfProbe h l0 = some (r, h1) → gx_Met gm_GR_standOfProbe [gx_R l0] h r h1 := by
  refine gx_enter (l := [some (gx_R l0), none]) (by decide) (Nat.le_of_ble_eq_true rfl) rfl ?_
  unfold f_GR_standOfProbe
  refine gx_iconst (n := 0) (by decide +kernel) ?_
  refine gx_istore_n (i := 1) (l' := [some (gx_R _), some (gx_I _)]) (by decide +kernel) rfl (Nat.le_of_ble_eq_true rfl) (by decide) rfl ?_
  exact gx_less' (y_GR_standOfProbe_2 gx_fu _ _ _) ⟨rfl, rfl, trivial⟩
def fb_GR_findLead_62 (h : gx_H) (l0 : Nat) (l1 : Int) (l2 : Int) (l3 : Int) : Option (Int × gx_H) :=
  gq_gr h l0 5 4 (fun o1 => gq_ast 0 (gx_i l3) h o1 ((l1 * 4) + l2) l3 (fun h2 => gq_gr h2 l0 5 4 (fun o3 => gq_gr h2 l0 5 8 (fun o4 => gq_ald 0 h2 o4 l2 (fun v5 => gq_ast 0 (gx_i l1) h2 o3 ((l3 * 4) + v5) l1 (fun h7 => some (1, h7)))))))
set_option maxHeartbeats 4000000 in
set_option maxRecDepth 100000 in
theorem y_GR_findLead_62 (h : gx_H) (l0 : Nat) (l1 : Int) (l2 : Int) (l3 : Int) : gx_Y gm_GR_findLead (0, 0) 62 [some (gx_R l0), some (gx_I l1), some (gx_I l2), some (gx_I l3)] [] h (fb_GR_findLead_62 h l0 l1 l2 l3) := by
  unfold fb_GR_findLead_62
  refine gx_aload_n (i := 0) (by decide +kernel) rfl ?_
  refine gx_getr gk_GR (by decide) fl_GR_25 rfl (by decide +kernel) ?_
  refine gx_iload_n (i := 1) (by decide +kernel) rfl ?_
  refine gx_iconst (n := 4) (by decide +kernel) ?_
  refine gx_imul (by decide +kernel) ?_
  refine gx_iload_n (i := 2) (by decide +kernel) rfl ?_
  refine gx_iadd (by decide +kernel) ?_
  refine gx_iload_n (i := 3) (by decide +kernel) rfl ?_
  refine gx_iast (by decide +kernel) ?_
  refine gx_aload_n (i := 0) (by decide +kernel) rfl ?_
  refine gx_getr gk_GR (by decide) fl_GR_25 rfl (by decide +kernel) ?_
  refine gx_iload_n (i := 3) (by decide +kernel) rfl ?_
  refine gx_iconst (n := 4) (by decide +kernel) ?_
  refine gx_imul (by decide +kernel) ?_
  refine gx_aload_n (i := 0) (by decide +kernel) rfl ?_
  refine gx_getr gk_GR (by decide) fl_GR_38 rfl (by decide +kernel) ?_
  refine gx_iload_n (i := 2) (by decide +kernel) rfl ?_
  refine gx_ialdi (by decide +kernel) (fun c6 => ?_)
  refine gx_iadd (by decide +kernel) ?_
  refine gx_iload_n (i := 1) (by decide +kernel) rfl ?_
  refine gx_iast (by decide +kernel) ?_
  refine gx_iconst (n := 1) (by decide +kernel) ?_
  exact gx_zreturn (by decide) rfl rfl (by decide +kernel)
def f_GR_findLead (h : gx_H) (l0 : Nat) (l1 : Int) (l2 : Int) : Option (Int × gx_H) :=
  gq_gr h l0 5 12 (fun o1 => gq_gr h l0 5 11 (fun o2 => gq_cv h o1 8 (f_SH_becomeExchanged h o1 o2 l2) (fun r3 h4 => gq_g (gx_i r3) (if r3 = 0 then some (0, h4) else gq_gr h4 l0 5 12 (fun o6 => gq_cv h4 o6 8 (f_SH_isMild h4 o6) (fun r7 h8 => gq_g (gx_i r7) (if r7 = 0 then some (0, h8) else gq_gr h8 l0 5 12 (fun o10 => gq_cv h8 l0 5 (f_GR_fillProbe h8 l0 o10) (fun r11 h12 => gq_cv h12 l0 5 (f_GR_standOfProbe h12 l0) (fun r13 h14 => gq_g (gx_i r13) (if r13 = (-1) then gq_get h14 l0 5 0 (fun v16 => if v16 < 200 then gq_cv h14 l0 5 (f_GR_addProbe h14 l0) (fun r18 h19 => fb_GR_findLead_62 h19 l0 l1 l2 r18) else some (0, h14)) else fb_GR_findLead_62 h14 l0 l1 l2 r13)))))))))))
set_option maxHeartbeats 4000000 in
set_option maxRecDepth 100000 in
theorem c_GR_findLead (h : gx_H) (l0 : Nat) (l1 : Int) (l2 : Int) : ∀ r h1, f_GR_findLead h l0 l1 l2 = some (r, h1) → gx_Met gm_GR_findLead [gx_R l0, gx_I l1, gx_I l2] h r h1 := by
  refine gx_enter (l := [some (gx_R l0), some (gx_I l1), some (gx_I l2), none]) (by decide) (Nat.le_of_ble_eq_true rfl) rfl ?_
  unfold f_GR_findLead
  refine gx_aload_n (i := 0) (by decide +kernel) rfl ?_
  refine gx_getr gk_GR (by decide) fl_GR_54 rfl (by decide +kernel) ?_
  refine gx_aload_n (i := 0) (by decide +kernel) rfl ?_
  refine gx_getr gk_GR (by decide) fl_GR_50 rfl (by decide +kernel) ?_
  refine gx_iload_n (i := 2) (by decide +kernel) rfl ?_
  refine gx_cVi2 (Mc := gm_SH_becomeExchanged) (u' := (0, 0)) (c_SH_becomeExchanged _ _ _ _) vk_SH_becomeExchanged ml_GR_84 rfl rfl ⟨by decide, by decide, by decide, by decide⟩ (Nat.le_of_ble_eq_true rfl) (by decide +kernel) (fun r3 h4 => ?_)
  refine gx_g (fun c5 => ?_)
  refine gx_if_eq (off := 13) (tgt := 25) c5 (by decide +kernel) (by decide) ?_ ?_
  · refine gx_iconst (n := 0) (by decide +kernel) ?_
    exact gx_zreturn (by decide) rfl rfl (by decide +kernel)
  · refine gx_aload_n (i := 0) (by decide +kernel) rfl ?_
    refine gx_getr gk_GR (by decide) fl_GR_54 rfl (by decide +kernel) ?_
    refine gx_cVi0 (Mc := gm_SH_isMild) (u' := (0, 0)) (c_SH_isMild _ _) vk_SH_isMild ml_GR_58 rfl rfl ⟨by decide, by decide, by decide, by decide⟩ (Nat.le_of_ble_eq_true rfl) (by decide +kernel) (fun r7 h8 => ?_)
    refine gx_g (fun c9 => ?_)
    refine gx_if_ne (off := 5) (tgt := 27) c9 (by decide +kernel) (by decide) ?_ ?_
    · refine gx_aload_n (i := 0) (by decide +kernel) rfl ?_
      refine gx_aload_n (i := 0) (by decide +kernel) rfl ?_
      refine gx_getr gk_GR (by decide) fl_GR_54 rfl (by decide +kernel) ?_
      refine gx_cVv1 (Mc := gm_GR_fillProbe) (u' := (0, 0)) (c_GR_fillProbe _ _ _) vk_GR_fillProbe ml_GR_62 rfl rfl ⟨by decide, by decide, by decide, by decide⟩ (Nat.le_of_ble_eq_true rfl) (by decide +kernel) (fun r11 h12 => ?_)
      refine gx_aload_n (i := 0) (by decide +kernel) rfl ?_
      refine gx_cVi0 (Mc := gm_GR_standOfProbe) (u' := (0, 0)) (c_GR_standOfProbe _ _) vk_GR_standOfProbe ml_GR_81 rfl rfl ⟨by decide, by decide, by decide, by decide⟩ (Nat.le_of_ble_eq_true rfl) (by decide +kernel) (fun r13 h14 => ?_)
      refine gx_istore_n (i := 3) (l' := [some (gx_R _), some (gx_I _), some (gx_I _), some (gx_I _)]) (by decide +kernel) rfl (Nat.le_of_ble_eq_true rfl) (by decide) rfl ?_
      refine gx_iload_n (i := 3) (by decide +kernel) rfl ?_
      refine gx_iconst (n := (-1)) (by decide +kernel) ?_
      refine gx_g (fun c15 => ?_)
      refine gx_icmp_ne (off := 20) (tgt := 62) c15 (by decide) (by decide +kernel) (by decide) ?_ ?_
      · exact gx_less' (y_GR_findLead_62 _ _ _ _ _) ⟨rfl, rfl, rfl, rfl, trivial⟩
      · refine gx_aload_n (i := 0) (by decide +kernel) rfl ?_
        refine gx_geti gk_GR (by decide) fl_GR_9 (Or.inl rfl) (by decide +kernel) (fun c17 => ?_)
        refine gx_sipush (n := 200) (by decide +kernel) (by decide) ?_
        refine gx_icmp_lt (off := 5) (tgt := 57) c17 (by decide) (by decide +kernel) (by decide) ?_ ?_
        · refine gx_aload_n (i := 0) (by decide +kernel) rfl ?_
          refine gx_cVi0 (Mc := gm_GR_addProbe) (u' := (0, 0)) (c_GR_addProbe _ _) vk_GR_addProbe ml_GR_66 rfl rfl ⟨by decide, by decide, by decide, by decide⟩ (Nat.le_of_ble_eq_true rfl) (by decide +kernel) (fun r18 h19 => ?_)
          refine gx_istore_n (i := 3) (l' := [some (gx_R _), some (gx_I _), some (gx_I _), some (gx_I _)]) (by decide +kernel) rfl (Nat.le_of_ble_eq_true rfl) (by decide) rfl ?_
          exact gx_less' (y_GR_findLead_62 _ _ _ _ _) ⟨rfl, rfl, rfl, rfl, trivial⟩
        · refine gx_iconst (n := 0) (by decide +kernel) ?_
          exact gx_zreturn (by decide) rfl rfl (by decide +kernel)
    · refine gx_iconst (n := 0) (by decide +kernel) ?_
      exact gx_zreturn (by decide) rfl rfl (by decide +kernel)
def fb_GR_isSeen_2 (N2 : gx_H → Nat → Int → Int → Int → Option (Int × gx_H)) (h : gx_H) (l0 : Nat) (l1 : Int) (l2 : Int) (l3 : Int) : Option (Int × gx_H) :=
  gq_g (gx_i l3) (gq_g (gx_i l2) (if l3 < l2 then gq_gr h l0 5 10 (fun o3 => gq_ald 0 h o3 l3 (fun v4 => gq_g (gx_i l1) (if v4 = l1 then some (1, h) else N2 h l0 l1 l2 (l3 + 1)))) else some (0, h)))
set_option maxHeartbeats 4000000 in
set_option maxRecDepth 100000 in
theorem yb_GR_isSeen_2 (N2 : gx_H → Nat → Int → Int → Int → Option (Int × gx_H)) (hN2 : ∀ (h : gx_H) (l0 : Nat) (l1 : Int) (l2 : Int) (l3 : Int), gx_Y gm_GR_isSeen (0, 0) 2 [some (gx_R l0), some (gx_I l1), some (gx_I l2), some (gx_I l3)] [] h (N2 h l0 l1 l2 l3)) (h : gx_H) (l0 : Nat) (l1 : Int) (l2 : Int) (l3 : Int) : gx_Y gm_GR_isSeen (0, 0) 2 [some (gx_R l0), some (gx_I l1), some (gx_I l2), some (gx_I l3)] [] h (fb_GR_isSeen_2 N2 h l0 l1 l2 l3) := by
  unfold fb_GR_isSeen_2
  refine gx_iload_n (i := 3) (by decide +kernel) rfl ?_
  refine gx_iload_n (i := 2) (by decide +kernel) rfl ?_
  refine gx_g (fun c1 => ?_)
  refine gx_g (fun c2 => ?_)
  refine gx_icmp_ge (off := 21) (tgt := 25) c1 c2 (by decide +kernel) (by decide) ?_ ?_
  · refine gx_iconst (n := 0) (by decide +kernel) ?_
    exact gx_zreturn (by decide) rfl rfl (by decide +kernel)
  · refine gx_aload_n (i := 0) (by decide +kernel) rfl ?_
    refine gx_getr gk_GR (by decide) fl_GR_44 rfl (by decide +kernel) ?_
    refine gx_iload_n (i := 3) (by decide +kernel) rfl ?_
    refine gx_ialdi (by decide +kernel) (fun c5 => ?_)
    refine gx_iload_n (i := 1) (by decide +kernel) rfl ?_
    refine gx_g (fun c6 => ?_)
    refine gx_icmp_ne (off := 5) (tgt := 19) c5 c6 (by decide +kernel) (by decide) ?_ ?_
    · refine gx_iinc (i := 3) (n := 1) (l' := [some (gx_R _), some (gx_I _), some (gx_I _), some (gx_I _)]) (by decide +kernel) rfl rfl (Nat.le_of_ble_eq_true rfl) (by decide) rfl ?_
      refine gx_goto (off := -20) (tgt := 2) (by decide +kernel) (by decide) ?_
      exact gx_less' (hN2 _ _ _ _ _) ⟨rfl, rfl, rfl, rfl, trivial⟩
    · refine gx_iconst (n := 1) (by decide +kernel) ?_
      exact gx_zreturn (by decide) rfl rfl (by decide +kernel)
def f_GR_isSeen_2 : Nat → gx_H → Nat → Int → Int → Int → Option (Int × gx_H)
  | 0 => fun _ _ _ _ _ => none
  | fu + 1 => fb_GR_isSeen_2 (f_GR_isSeen_2 fu)
theorem y_GR_isSeen_2 : ∀ (fu : Nat) (h : gx_H) (l0 : Nat) (l1 : Int) (l2 : Int) (l3 : Int), gx_Y gm_GR_isSeen (0, 0) 2 [some (gx_R l0), some (gx_I l1), some (gx_I l2), some (gx_I l3)] [] h (f_GR_isSeen_2 fu h l0 l1 l2 l3) := by
  intro fu
  induction fu with
  | zero => intro h l0 l1 l2 l3; exact gx_none
  | succ fu ih => intro h l0 l1 l2 l3; exact yb_GR_isSeen_2 (f_GR_isSeen_2 fu) ih h l0 l1 l2 l3
def f_GR_isSeen (h : gx_H) (l0 : Nat) (l1 : Int) (l2 : Int) : Option (Int × gx_H) :=
  f_GR_isSeen_2 gx_fu h l0 l1 l2 0
set_option maxHeartbeats 4000000 in
set_option maxRecDepth 100000 in
theorem c_GR_isSeen (h : gx_H) (l0 : Nat) (l1 : Int) (l2 : Int) : ∀ r h1, f_GR_isSeen h l0 l1 l2 = some (r, h1) → gx_Met gm_GR_isSeen [gx_R l0, gx_I l1, gx_I l2] h r h1 := by
  refine gx_enter (l := [some (gx_R l0), some (gx_I l1), some (gx_I l2), none]) (by decide) (Nat.le_of_ble_eq_true rfl) rfl ?_
  unfold f_GR_isSeen
  refine gx_iconst (n := 0) (by decide +kernel) ?_
  refine gx_istore_n (i := 3) (l' := [some (gx_R _), some (gx_I _), some (gx_I _), some (gx_I _)]) (by decide +kernel) rfl (Nat.le_of_ble_eq_true rfl) (by decide) rfl ?_
  exact gx_less' (y_GR_isSeen_2 gx_fu _ _ _ _ _) ⟨rfl, rfl, rfl, rfl, trivial⟩
def fb_GR_countAllLetters_56 (N4 : gx_H → Nat → Int → Int → Option (Int × gx_H)) (N14 : gx_H → Nat → Int → Int → Int → Option (Int × gx_H)) (h : gx_H) (l0 : Nat) (l1 : Int) (l2 : Int) (l3 : Int) : Option (Int × gx_H) :=
  N14 h l0 l1 l2 (l3 + 1)
set_option maxHeartbeats 4000000 in
set_option maxRecDepth 100000 in
theorem y_GR_countAllLetters_56 (N4 : gx_H → Nat → Int → Int → Option (Int × gx_H)) (hN4 : ∀ (h : gx_H) (l0 : Nat) (l1 : Int) (l2 : Int), gx_Y gm_GR_countAllLetters (0, 0) 4 [some (gx_R l0), some (gx_I l1), some (gx_I l2), none, none] [] h (N4 h l0 l1 l2)) (N14 : gx_H → Nat → Int → Int → Int → Option (Int × gx_H)) (hN14 : ∀ (h : gx_H) (l0 : Nat) (l1 : Int) (l2 : Int) (l3 : Int), gx_Y gm_GR_countAllLetters (0, 0) 14 [some (gx_R l0), some (gx_I l1), some (gx_I l2), some (gx_I l3), none] [] h (N14 h l0 l1 l2 l3)) (h : gx_H) (l0 : Nat) (l1 : Int) (l2 : Int) (l3 : Int) : gx_Y gm_GR_countAllLetters (0, 0) 56 [some (gx_R l0), some (gx_I l1), some (gx_I l2), some (gx_I l3), none] [] h (fb_GR_countAllLetters_56 N4 N14 h l0 l1 l2 l3) := by
  unfold fb_GR_countAllLetters_56
  refine gx_iinc (i := 3) (n := 1) (l' := [some (gx_R _), some (gx_I _), some (gx_I _), some (gx_I _), none]) (by decide +kernel) rfl rfl (Nat.le_of_ble_eq_true rfl) (by decide) rfl ?_
  refine gx_goto (off := -45) (tgt := 14) (by decide +kernel) (by decide) ?_
  exact gx_less' (hN14 _ _ _ _ _) ⟨rfl, rfl, rfl, rfl, trivial⟩
def fb_GR_countAllLetters_14 (N4 : gx_H → Nat → Int → Int → Option (Int × gx_H)) (N14 : gx_H → Nat → Int → Int → Int → Option (Int × gx_H)) (h : gx_H) (l0 : Nat) (l1 : Int) (l2 : Int) (l3 : Int) : Option (Int × gx_H) :=
  gq_get h l0 5 1 (fun v1 => gq_g (gx_i l3) (if l3 < v1 then gq_gr h l0 5 5 (fun o4 => gq_ald 0 h o4 ((l2 * 8) + l3) (fun v5 => gq_cv h l0 5 (f_GR_isSeen h l0 v5 l1) (fun r7 h8 => gq_g (gx_i r7) (if r7 = 0 then gq_gr h8 l0 5 10 (fun o10 => gq_ast 0 True h8 o10 l1 v5 (fun h11 => fb_GR_countAllLetters_56 N4 N14 h11 l0 (l1 + 1) l2 l3)) else fb_GR_countAllLetters_56 N4 N14 h8 l0 l1 l2 l3)))) else N4 h l0 l1 (l2 + 1)))
set_option maxHeartbeats 4000000 in
set_option maxRecDepth 100000 in
theorem yb_GR_countAllLetters_14 (N4 : gx_H → Nat → Int → Int → Option (Int × gx_H)) (hN4 : ∀ (h : gx_H) (l0 : Nat) (l1 : Int) (l2 : Int), gx_Y gm_GR_countAllLetters (0, 0) 4 [some (gx_R l0), some (gx_I l1), some (gx_I l2), none, none] [] h (N4 h l0 l1 l2)) (N14 : gx_H → Nat → Int → Int → Int → Option (Int × gx_H)) (hN14 : ∀ (h : gx_H) (l0 : Nat) (l1 : Int) (l2 : Int) (l3 : Int), gx_Y gm_GR_countAllLetters (0, 0) 14 [some (gx_R l0), some (gx_I l1), some (gx_I l2), some (gx_I l3), none] [] h (N14 h l0 l1 l2 l3)) (h : gx_H) (l0 : Nat) (l1 : Int) (l2 : Int) (l3 : Int) : gx_Y gm_GR_countAllLetters (0, 0) 14 [some (gx_R l0), some (gx_I l1), some (gx_I l2), some (gx_I l3), none] [] h (fb_GR_countAllLetters_14 N4 N14 h l0 l1 l2 l3) := by
  unfold fb_GR_countAllLetters_14
  refine gx_iload_n (i := 3) (by decide +kernel) rfl ?_
  refine gx_aload_n (i := 0) (by decide +kernel) rfl ?_
  refine gx_geti gk_GR (by decide) fl_GR_15 (Or.inl rfl) (by decide +kernel) (fun c2 => ?_)
  refine gx_g (fun c3 => ?_)
  refine gx_icmp_ge (off := 43) (tgt := 62) c3 c2 (by decide +kernel) (by decide) ?_ ?_
  · refine gx_iinc (i := 2) (n := 1) (l' := [some (gx_R _), some (gx_I _), some (gx_I _), some (gx_I _), none]) (by decide +kernel) rfl rfl (Nat.le_of_ble_eq_true rfl) (by decide) rfl ?_
    refine gx_goto (off := -61) (tgt := 4) (by decide +kernel) (by decide) ?_
    exact gx_less' (hN4 _ _ _ _) ⟨rfl, rfl, rfl, trivial⟩
  · refine gx_aload_n (i := 0) (by decide +kernel) rfl ?_
    refine gx_getr gk_GR (by decide) fl_GR_29 rfl (by decide +kernel) ?_
    refine gx_iload_n (i := 2) (by decide +kernel) rfl ?_
    refine gx_bipush (n := 8) (by decide +kernel) (by decide) ?_
    refine gx_imul (by decide +kernel) ?_
    refine gx_iload_n (i := 3) (by decide +kernel) rfl ?_
    refine gx_iadd (by decide +kernel) ?_
    refine gx_ialdi (by decide +kernel) (fun c6 => ?_)
    refine gx_istore (i := 4) (l' := [some (gx_R _), some (gx_I _), some (gx_I _), some (gx_I _), some (gx_I _)]) (by decide +kernel) rfl (Nat.le_of_ble_eq_true rfl) (by decide) rfl ?_
    refine gx_aload_n (i := 0) (by decide +kernel) rfl ?_
    refine gx_iload (i := 4) (by decide +kernel) rfl ?_
    refine gx_iload_n (i := 1) (by decide +kernel) rfl ?_
    refine gx_cVi2 (Mc := gm_GR_isSeen) (u' := (0, 0)) (c_GR_isSeen _ _ _ _) vk_GR_isSeen ml_GR_119 rfl rfl ⟨by decide, by decide, by decide, by decide⟩ (Nat.le_of_ble_eq_true rfl) (by decide +kernel) (fun r7 h8 => ?_)
    refine gx_g (fun c9 => ?_)
    refine gx_if_ne (off := 14) (tgt := 56) c9 (by decide +kernel) (by decide) ?_ ?_
    · exact gx_less' (y_GR_countAllLetters_56 _ hN4 _ hN14 _ _ _ _ _) ⟨rfl, rfl, rfl, rfl, trivial⟩
    · refine gx_aload_n (i := 0) (by decide +kernel) rfl ?_
      refine gx_getr gk_GR (by decide) fl_GR_44 rfl (by decide +kernel) ?_
      refine gx_iload_n (i := 1) (by decide +kernel) rfl ?_
      refine gx_iload (i := 4) (by decide +kernel) rfl ?_
      refine gx_iastT c6 (by decide +kernel) ?_
      refine gx_iinc (i := 1) (n := 1) (l' := [some (gx_R _), some (gx_I _), some (gx_I _), some (gx_I _), some (gx_I _)]) (by decide +kernel) rfl rfl (Nat.le_of_ble_eq_true rfl) (by decide) rfl ?_
      exact gx_less' (y_GR_countAllLetters_56 _ hN4 _ hN14 _ _ _ _ _) ⟨rfl, rfl, rfl, rfl, trivial⟩
def f_GR_countAllLetters_14 (N4 : gx_H → Nat → Int → Int → Option (Int × gx_H)) : Nat → gx_H → Nat → Int → Int → Int → Option (Int × gx_H)
  | 0 => fun _ _ _ _ _ => none
  | fu + 1 => fb_GR_countAllLetters_14 N4 (f_GR_countAllLetters_14 N4 fu)
theorem y_GR_countAllLetters_14 (N4 : gx_H → Nat → Int → Int → Option (Int × gx_H)) (hN4 : ∀ (h : gx_H) (l0 : Nat) (l1 : Int) (l2 : Int), gx_Y gm_GR_countAllLetters (0, 0) 4 [some (gx_R l0), some (gx_I l1), some (gx_I l2), none, none] [] h (N4 h l0 l1 l2)) : ∀ (fu : Nat) (h : gx_H) (l0 : Nat) (l1 : Int) (l2 : Int) (l3 : Int), gx_Y gm_GR_countAllLetters (0, 0) 14 [some (gx_R l0), some (gx_I l1), some (gx_I l2), some (gx_I l3), none] [] h (f_GR_countAllLetters_14 N4 fu h l0 l1 l2 l3) := by
  intro fu
  induction fu with
  | zero => intro h l0 l1 l2 l3; exact gx_none
  | succ fu ih => intro h l0 l1 l2 l3; exact yb_GR_countAllLetters_14 N4 hN4 (f_GR_countAllLetters_14 N4 fu) ih h l0 l1 l2 l3
def fb_GR_countAllLetters_4 (N4 : gx_H → Nat → Int → Int → Option (Int × gx_H)) (h : gx_H) (l0 : Nat) (l1 : Int) (l2 : Int) : Option (Int × gx_H) :=
  gq_get h l0 5 0 (fun v1 => gq_g (gx_i l2) (if l2 < v1 then f_GR_countAllLetters_14 N4 gx_fu h l0 l1 l2 0 else some (l1, h)))
set_option maxHeartbeats 4000000 in
set_option maxRecDepth 100000 in
theorem yb_GR_countAllLetters_4 (N4 : gx_H → Nat → Int → Int → Option (Int × gx_H)) (hN4 : ∀ (h : gx_H) (l0 : Nat) (l1 : Int) (l2 : Int), gx_Y gm_GR_countAllLetters (0, 0) 4 [some (gx_R l0), some (gx_I l1), some (gx_I l2), none, none] [] h (N4 h l0 l1 l2)) (h : gx_H) (l0 : Nat) (l1 : Int) (l2 : Int) : gx_Y gm_GR_countAllLetters (0, 0) 4 [some (gx_R l0), some (gx_I l1), some (gx_I l2), none, none] [] h (fb_GR_countAllLetters_4 N4 h l0 l1 l2) := by
  unfold fb_GR_countAllLetters_4
  refine gx_iload_n (i := 2) (by decide +kernel) rfl ?_
  refine gx_aload_n (i := 0) (by decide +kernel) rfl ?_
  refine gx_geti gk_GR (by decide) fl_GR_9 (Or.inl rfl) (by decide +kernel) (fun c2 => ?_)
  refine gx_g (fun c3 => ?_)
  refine gx_icmp_ge (off := 59) (tgt := 68) c3 c2 (by decide +kernel) (by decide) ?_ ?_
  · refine gx_iload_n (i := 1) (by decide +kernel) rfl ?_
    exact gx_ireturn rfl rfl (by decide +kernel)
  · refine gx_iconst (n := 0) (by decide +kernel) ?_
    refine gx_istore_n (i := 3) (l' := [some (gx_R _), some (gx_I _), some (gx_I _), some (gx_I _), none]) (by decide +kernel) rfl (Nat.le_of_ble_eq_true rfl) (by decide) rfl ?_
    exact gx_less' (y_GR_countAllLetters_14 _ hN4 gx_fu _ _ _ _ _) ⟨rfl, rfl, rfl, rfl, trivial⟩
def f_GR_countAllLetters_4 : Nat → gx_H → Nat → Int → Int → Option (Int × gx_H)
  | 0 => fun _ _ _ _ => none
  | fu + 1 => fb_GR_countAllLetters_4 (f_GR_countAllLetters_4 fu)
theorem y_GR_countAllLetters_4 : ∀ (fu : Nat) (h : gx_H) (l0 : Nat) (l1 : Int) (l2 : Int), gx_Y gm_GR_countAllLetters (0, 0) 4 [some (gx_R l0), some (gx_I l1), some (gx_I l2), none, none] [] h (f_GR_countAllLetters_4 fu h l0 l1 l2) := by
  intro fu
  induction fu with
  | zero => intro h l0 l1 l2; exact gx_none
  | succ fu ih => intro h l0 l1 l2; exact yb_GR_countAllLetters_4 (f_GR_countAllLetters_4 fu) ih h l0 l1 l2
def f_GR_countAllLetters (h : gx_H) (l0 : Nat) : Option (Int × gx_H) :=
  f_GR_countAllLetters_4 gx_fu h l0 0 0
set_option maxHeartbeats 4000000 in
set_option maxRecDepth 100000 in
theorem c_GR_countAllLetters (h : gx_H) (l0 : Nat) : ∀ r h1, f_GR_countAllLetters h l0 = some (r, h1) → gx_Met gm_GR_countAllLetters [gx_R l0] h r h1 := by
  refine gx_enter (l := [some (gx_R l0), none, none, none, none]) (by decide) (Nat.le_of_ble_eq_true rfl) rfl ?_
  unfold f_GR_countAllLetters
  refine gx_iconst (n := 0) (by decide +kernel) ?_
  refine gx_istore_n (i := 1) (l' := [some (gx_R _), some (gx_I _), none, none, none]) (by decide +kernel) rfl (Nat.le_of_ble_eq_true rfl) (by decide) rfl ?_
  refine gx_iconst (n := 0) (by decide +kernel) ?_
  refine gx_istore_n (i := 2) (l' := [some (gx_R _), some (gx_I _), some (gx_I _), none, none]) (by decide +kernel) rfl (Nat.le_of_ble_eq_true rfl) (by decide) rfl ?_
  exact gx_less' (y_GR_countAllLetters_4 gx_fu _ _ _ _) ⟨rfl, rfl, rfl, trivial⟩
def fb_GR_find_100 (N42 : gx_H → Nat → Int → Option (Int × gx_H)) (N65 : gx_H → Nat → Int → Int → Option (Int × gx_H)) (h : gx_H) (l0 : Nat) (l3 : Int) (l4 : Int) : Option (Int × gx_H) :=
  N65 h l0 l3 (l4 + 1)
set_option maxHeartbeats 4000000 in
set_option maxRecDepth 100000 in
theorem y_GR_find_100 (N42 : gx_H → Nat → Int → Option (Int × gx_H)) (hN42 : ∀ (h : gx_H) (l0 : Nat) (l3 : Int), gx_Y gm_GR_find (0, 0) 42 [some (gx_R l0), none, none, some (gx_I l3), none] [] h (N42 h l0 l3)) (N65 : gx_H → Nat → Int → Int → Option (Int × gx_H)) (hN65 : ∀ (h : gx_H) (l0 : Nat) (l3 : Int) (l4 : Int), gx_Y gm_GR_find (0, 0) 65 [some (gx_R l0), none, none, some (gx_I l3), some (gx_I l4)] [] h (N65 h l0 l3 l4)) (h : gx_H) (l0 : Nat) (l3 : Int) (l4 : Int) : gx_Y gm_GR_find (0, 0) 100 [some (gx_R l0), none, none, some (gx_I l3), some (gx_I l4)] [] h (fb_GR_find_100 N42 N65 h l0 l3 l4) := by
  unfold fb_GR_find_100
  refine gx_iinc (i := 4) (n := 1) (l' := [some (gx_R _), none, none, some (gx_I _), some (gx_I _)]) (by decide +kernel) rfl rfl (Nat.le_of_ble_eq_true rfl) (by decide) rfl ?_
  refine gx_goto (off := -38) (tgt := 65) (by decide +kernel) (by decide) ?_
  exact gx_less' (hN65 _ _ _ _) ⟨rfl, rfl, rfl, trivial⟩
def fb_GR_find_65 (N42 : gx_H → Nat → Int → Option (Int × gx_H)) (N65 : gx_H → Nat → Int → Int → Option (Int × gx_H)) (h : gx_H) (l0 : Nat) (l3 : Int) (l4 : Int) : Option (Int × gx_H) :=
  gq_get h l0 5 1 (fun v1 => gq_g (gx_i l4) (if l4 < v1 then gq_gr h l0 5 4 (fun o4 => gq_ald 0 h o4 ((l3 * 4) + l4) (fun v5 => if v5 = (-1) then gq_cv h l0 5 (f_GR_findLead h l0 l3 l4) (fun r7 h8 => gq_g (gx_i r7) (if r7 = 0 then some (0, h8) else fb_GR_find_100 N42 N65 h8 l0 l3 l4)) else fb_GR_find_100 N42 N65 h l0 l3 l4)) else N42 h l0 (l3 + 1)))
set_option maxHeartbeats 4000000 in
set_option maxRecDepth 100000 in
theorem yb_GR_find_65 (N42 : gx_H → Nat → Int → Option (Int × gx_H)) (hN42 : ∀ (h : gx_H) (l0 : Nat) (l3 : Int), gx_Y gm_GR_find (0, 0) 42 [some (gx_R l0), none, none, some (gx_I l3), none] [] h (N42 h l0 l3)) (N65 : gx_H → Nat → Int → Int → Option (Int × gx_H)) (hN65 : ∀ (h : gx_H) (l0 : Nat) (l3 : Int) (l4 : Int), gx_Y gm_GR_find (0, 0) 65 [some (gx_R l0), none, none, some (gx_I l3), some (gx_I l4)] [] h (N65 h l0 l3 l4)) (h : gx_H) (l0 : Nat) (l3 : Int) (l4 : Int) : gx_Y gm_GR_find (0, 0) 65 [some (gx_R l0), none, none, some (gx_I l3), some (gx_I l4)] [] h (fb_GR_find_65 N42 N65 h l0 l3 l4) := by
  unfold fb_GR_find_65
  refine gx_iload (i := 4) (by decide +kernel) rfl ?_
  refine gx_aload_n (i := 0) (by decide +kernel) rfl ?_
  refine gx_geti gk_GR (by decide) fl_GR_15 (Or.inl rfl) (by decide +kernel) (fun c2 => ?_)
  refine gx_g (fun c3 => ?_)
  refine gx_icmp_ge (off := 35) (tgt := 106) c3 c2 (by decide +kernel) (by decide) ?_ ?_
  · refine gx_iinc (i := 3) (n := 1) (l' := [some (gx_R _), none, none, some (gx_I _), some (gx_I _)]) (by decide +kernel) rfl rfl (Nat.le_of_ble_eq_true rfl) (by decide) rfl ?_
    refine gx_goto (off := -67) (tgt := 42) (by decide +kernel) (by decide) ?_
    exact gx_less' (hN42 _ _ _) ⟨rfl, rfl, trivial⟩
  · refine gx_aload_n (i := 0) (by decide +kernel) rfl ?_
    refine gx_getr gk_GR (by decide) fl_GR_25 rfl (by decide +kernel) ?_
    refine gx_iload_n (i := 3) (by decide +kernel) rfl ?_
    refine gx_iconst (n := 4) (by decide +kernel) ?_
    refine gx_imul (by decide +kernel) ?_
    refine gx_iload (i := 4) (by decide +kernel) rfl ?_
    refine gx_iadd (by decide +kernel) ?_
    refine gx_ialdi (by decide +kernel) (fun c6 => ?_)
    refine gx_iconst (n := (-1)) (by decide +kernel) ?_
    refine gx_icmp_ne (off := 14) (tgt := 100) c6 (by decide) (by decide +kernel) (by decide) ?_ ?_
    · exact gx_less' (y_GR_find_100 _ hN42 _ hN65 _ _ _ _) ⟨rfl, rfl, rfl, trivial⟩
    · refine gx_aload_n (i := 0) (by decide +kernel) rfl ?_
      refine gx_iload_n (i := 3) (by decide +kernel) rfl ?_
      refine gx_iload (i := 4) (by decide +kernel) rfl ?_
      refine gx_cVi2 (Mc := gm_GR_findLead) (u' := (0, 0)) (c_GR_findLead _ _ _ _) vk_GR_findLead ml_GR_74 rfl rfl ⟨by decide, by decide, by decide, by decide⟩ (Nat.le_of_ble_eq_true rfl) (by decide +kernel) (fun r7 h8 => ?_)
      refine gx_g (fun c9 => ?_)
      refine gx_if_ne (off := 4) (tgt := 100) c9 (by decide +kernel) (by decide) ?_ ?_
      · exact gx_less' (y_GR_find_100 _ hN42 _ hN65 _ _ _ _) ⟨rfl, rfl, rfl, trivial⟩
      · exact gx_return rfl rfl (by decide +kernel)
def f_GR_find_65 (N42 : gx_H → Nat → Int → Option (Int × gx_H)) : Nat → gx_H → Nat → Int → Int → Option (Int × gx_H)
  | 0 => fun _ _ _ _ => none
  | fu + 1 => fb_GR_find_65 N42 (f_GR_find_65 N42 fu)
theorem y_GR_find_65 (N42 : gx_H → Nat → Int → Option (Int × gx_H)) (hN42 : ∀ (h : gx_H) (l0 : Nat) (l3 : Int), gx_Y gm_GR_find (0, 0) 42 [some (gx_R l0), none, none, some (gx_I l3), none] [] h (N42 h l0 l3)) : ∀ (fu : Nat) (h : gx_H) (l0 : Nat) (l3 : Int) (l4 : Int), gx_Y gm_GR_find (0, 0) 65 [some (gx_R l0), none, none, some (gx_I l3), some (gx_I l4)] [] h (f_GR_find_65 N42 fu h l0 l3 l4) := by
  intro fu
  induction fu with
  | zero => intro h l0 l3 l4; exact gx_none
  | succ fu ih => intro h l0 l3 l4; exact yb_GR_find_65 N42 hN42 (f_GR_find_65 N42 fu) ih h l0 l3 l4
def fb_GR_find_112 (h : gx_H) (l0 : Nat) : Option (Int × gx_H) :=
  gq_put True h l0 5 3 0 (fun h1 => gq_cv h1 l0 5 (f_GR_countAllLetters h1 l0) (fun r2 h3 => gq_put (gx_i r2) h3 l0 5 2 r2 (fun h4 => some (0, h4))))
set_option maxHeartbeats 4000000 in
set_option maxRecDepth 100000 in
theorem y_GR_find_112 (h : gx_H) (l0 : Nat) : gx_Y gm_GR_find (0, 0) 112 [some (gx_R l0), none, none, none, none] [] h (fb_GR_find_112 h l0) := by
  unfold fb_GR_find_112
  refine gx_aload_n (i := 0) (by decide +kernel) rfl ?_
  refine gx_iconst (n := 0) (by decide +kernel) ?_
  refine gx_putzT (by decide) gk_GR (by decide) fl_GR_21 rfl rfl (by decide +kernel) ?_
  refine gx_aload_n (i := 0) (by decide +kernel) rfl ?_
  refine gx_aload_n (i := 0) (by decide +kernel) rfl ?_
  refine gx_cVi0 (Mc := gm_GR_countAllLetters) (u' := (0, 0)) (c_GR_countAllLetters _ _) vk_GR_countAllLetters ml_GR_78 rfl rfl ⟨by decide, by decide, by decide, by decide⟩ (Nat.le_of_ble_eq_true rfl) (by decide +kernel) (fun r2 h3 => ?_)
  refine gx_puti gk_GR (by decide) fl_GR_18 rfl rfl (by decide +kernel) ?_
  exact gx_return rfl rfl (by decide +kernel)
def fb_GR_find_42 (N42 : gx_H → Nat → Int → Option (Int × gx_H)) (h : gx_H) (l0 : Nat) (l3 : Int) : Option (Int × gx_H) :=
  gq_get h l0 5 0 (fun v1 => gq_g (gx_i l3) (if l3 < v1 then if l3 < 200 then gq_cv h l0 5 (f_GR_load h l0 l3) (fun r4 h5 => f_GR_find_65 N42 gx_fu h5 l0 l3 0) else fb_GR_find_112 h l0 else fb_GR_find_112 h l0))
set_option maxHeartbeats 4000000 in
set_option maxRecDepth 100000 in
theorem yb_GR_find_42 (N42 : gx_H → Nat → Int → Option (Int × gx_H)) (hN42 : ∀ (h : gx_H) (l0 : Nat) (l3 : Int), gx_Y gm_GR_find (0, 0) 42 [some (gx_R l0), none, none, some (gx_I l3), none] [] h (N42 h l0 l3)) (h : gx_H) (l0 : Nat) (l3 : Int) : gx_Y gm_GR_find (0, 0) 42 [some (gx_R l0), none, none, some (gx_I l3), none] [] h (fb_GR_find_42 N42 h l0 l3) := by
  unfold fb_GR_find_42
  refine gx_iload_n (i := 3) (by decide +kernel) rfl ?_
  refine gx_aload_n (i := 0) (by decide +kernel) rfl ?_
  refine gx_geti gk_GR (by decide) fl_GR_9 (Or.inl rfl) (by decide +kernel) (fun c2 => ?_)
  refine gx_g (fun c3 => ?_)
  refine gx_icmp_ge (off := 65) (tgt := 112) c3 c2 (by decide +kernel) (by decide) ?_ ?_
  · exact gx_less' (y_GR_find_112 _ _) ⟨rfl, trivial⟩
  · refine gx_iload_n (i := 3) (by decide +kernel) rfl ?_
    refine gx_sipush (n := 200) (by decide +kernel) (by decide) ?_
    refine gx_icmp_ge (off := 58) (tgt := 112) c3 (by decide) (by decide +kernel) (by decide) ?_ ?_
    · exact gx_less' (y_GR_find_112 _ _) ⟨rfl, trivial⟩
    · refine gx_aload_n (i := 0) (by decide +kernel) rfl ?_
      refine gx_iload_n (i := 3) (by decide +kernel) rfl ?_
      refine gx_cVv1 (Mc := gm_GR_load) (u' := (0, 0)) (c_GR_load _ _ _) vk_GR_load ml_GR_70 rfl rfl ⟨by decide, by decide, by decide, by decide⟩ (Nat.le_of_ble_eq_true rfl) (by decide +kernel) (fun r4 h5 => ?_)
      refine gx_iconst (n := 0) (by decide +kernel) ?_
      refine gx_istore (i := 4) (l' := [some (gx_R _), none, none, some (gx_I _), some (gx_I _)]) (by decide +kernel) rfl (Nat.le_of_ble_eq_true rfl) (by decide) rfl ?_
      exact gx_less' (y_GR_find_65 _ hN42 gx_fu _ _ _ _) ⟨rfl, rfl, rfl, trivial⟩
def f_GR_find_42 : Nat → gx_H → Nat → Int → Option (Int × gx_H)
  | 0 => fun _ _ _ => none
  | fu + 1 => fb_GR_find_42 (f_GR_find_42 fu)
theorem y_GR_find_42 : ∀ (fu : Nat) (h : gx_H) (l0 : Nat) (l3 : Int), gx_Y gm_GR_find (0, 0) 42 [some (gx_R l0), none, none, some (gx_I l3), none] [] h (f_GR_find_42 fu h l0 l3) := by
  intro fu
  induction fu with
  | zero => intro h l0 l3; exact gx_none
  | succ fu ih => intro h l0 l3; exact yb_GR_find_42 (f_GR_find_42 fu) ih h l0 l3
def f_GR_find (h : gx_H) (l0 : Nat) (l1 : Nat) (l2 : Int) : Option (Int × gx_H) :=
  gq_get h l1 8 0 (fun v1 => gq_put True h l0 5 1 v1 (fun h3 => gq_put True h3 l0 5 0 0 (fun h4 => gq_put True h4 l0 5 3 1 (fun h5 => gq_g (gx_i l2) (if l2 = 0 then some (0, h5) else gq_cv h5 l1 8 (f_SH_isMild h5 l1) (fun r7 h8 => gq_g (gx_i r7) (if r7 = 0 then some (0, h8) else gq_cv h8 l0 5 (f_GR_fillProbe h8 l0 l1) (fun r10 h11 => gq_cv h11 l0 5 (f_GR_addProbe h11 l0) (fun r12 h13 => f_GR_find_42 gx_fu h13 l0 0)))))))))
set_option maxHeartbeats 4000000 in
set_option maxRecDepth 100000 in
theorem c_GR_find (h : gx_H) (l0 : Nat) (l1 : Nat) (l2 : Int) : ∀ r h1, f_GR_find h l0 l1 l2 = some (r, h1) → gx_Met gm_GR_find [gx_R l0, gx_R l1, gx_I l2] h r h1 := by
  refine gx_enter (l := [some (gx_R l0), some (gx_R l1), some (gx_I l2), none, none]) (by decide) (Nat.le_of_ble_eq_true rfl) rfl ?_
  unfold f_GR_find
  refine gx_aload_n (i := 0) (by decide +kernel) rfl ?_
  refine gx_aload_n (i := 1) (by decide +kernel) rfl ?_
  refine gx_geti gk_SH (by decide) fl_GR_57 (Or.inl rfl) (by decide +kernel) (fun c2 => ?_)
  refine gx_putiT c2 gk_GR (by decide) fl_GR_15 rfl rfl (by decide +kernel) ?_
  refine gx_aload_n (i := 0) (by decide +kernel) rfl ?_
  refine gx_iconst (n := 0) (by decide +kernel) ?_
  refine gx_putiT (by decide) gk_GR (by decide) fl_GR_9 rfl rfl (by decide +kernel) ?_
  refine gx_aload_n (i := 0) (by decide +kernel) rfl ?_
  refine gx_iconst (n := 1) (by decide +kernel) ?_
  refine gx_putzT (by decide) gk_GR (by decide) fl_GR_21 rfl rfl (by decide +kernel) ?_
  refine gx_iload_n (i := 2) (by decide +kernel) rfl ?_
  refine gx_g (fun c6 => ?_)
  refine gx_if_eq (off := 10) (tgt := 29) c6 (by decide +kernel) (by decide) ?_ ?_
  · exact gx_return rfl rfl (by decide +kernel)
  · refine gx_aload_n (i := 1) (by decide +kernel) rfl ?_
    refine gx_cVi0 (Mc := gm_SH_isMild) (u' := (0, 0)) (c_SH_isMild _ _) vk_SH_isMild ml_GR_58 rfl rfl ⟨by decide, by decide, by decide, by decide⟩ (Nat.le_of_ble_eq_true rfl) (by decide +kernel) (fun r7 h8 => ?_)
    refine gx_g (fun c9 => ?_)
    refine gx_if_ne (off := 4) (tgt := 30) c9 (by decide +kernel) (by decide) ?_ ?_
    · refine gx_aload_n (i := 0) (by decide +kernel) rfl ?_
      refine gx_aload_n (i := 1) (by decide +kernel) rfl ?_
      refine gx_cVv1 (Mc := gm_GR_fillProbe) (u' := (0, 0)) (c_GR_fillProbe _ _ _) vk_GR_fillProbe ml_GR_62 rfl rfl ⟨by decide, by decide, by decide, by decide⟩ (Nat.le_of_ble_eq_true rfl) (by decide +kernel) (fun r10 h11 => ?_)
      refine gx_aload_n (i := 0) (by decide +kernel) rfl ?_
      refine gx_cVi0 (Mc := gm_GR_addProbe) (u' := (0, 0)) (c_GR_addProbe _ _) vk_GR_addProbe ml_GR_66 rfl rfl ⟨by decide, by decide, by decide, by decide⟩ (Nat.le_of_ble_eq_true rfl) (by decide +kernel) (fun r12 h13 => ?_)
      refine gx_pop (by decide +kernel) (fun _ => rfl) ?_
      refine gx_iconst (n := 0) (by decide +kernel) ?_
      refine gx_istore_n (i := 3) (l' := [some (gx_R _), some (gx_R _), some (gx_I _), some (gx_I _), none]) (by decide +kernel) rfl (Nat.le_of_ble_eq_true rfl) (by decide) rfl ?_
      exact gx_less' (y_GR_find_42 gx_fu _ _ _) ⟨rfl, rfl, trivial⟩
    · exact gx_return rfl rfl (by decide +kernel)
def f_GR_standOf (h : gx_H) (l0 : Nat) (l1 : Nat) : Option (Int × gx_H) :=
  gq_cv h l0 5 (f_GR_fillProbe h l0 l1) (fun r1 h2 => gq_cv h2 l0 5 (f_GR_standOfProbe h2 l0) (fun r3 h4 => some (r3, h4)))
set_option maxHeartbeats 4000000 in
set_option maxRecDepth 100000 in
theorem c_GR_standOf (h : gx_H) (l0 : Nat) (l1 : Nat) : ∀ r h1, f_GR_standOf h l0 l1 = some (r, h1) → gx_Met gm_GR_standOf [gx_R l0, gx_R l1] h r h1 := by
  refine gx_enter (l := [some (gx_R l0), some (gx_R l1)]) (by decide) (Nat.le_of_ble_eq_true rfl) rfl ?_
  unfold f_GR_standOf
  refine gx_aload_n (i := 0) (by decide +kernel) rfl ?_
  refine gx_aload_n (i := 1) (by decide +kernel) rfl ?_
  refine gx_cVv1 (Mc := gm_GR_fillProbe) (u' := (0, 0)) (c_GR_fillProbe _ _ _) vk_GR_fillProbe ml_GR_62 rfl rfl ⟨by decide, by decide, by decide, by decide⟩ (Nat.le_of_ble_eq_true rfl) (by decide +kernel) (fun r1 h2 => ?_)
  refine gx_aload_n (i := 0) (by decide +kernel) rfl ?_
  refine gx_cVi0 (Mc := gm_GR_standOfProbe) (u' := (0, 0)) (c_GR_standOfProbe _ _) vk_GR_standOfProbe ml_GR_81 rfl rfl ⟨by decide, by decide, by decide, by decide⟩ (Nat.le_of_ble_eq_true rfl) (by decide +kernel) (fun r3 h4 => ?_)
  exact gx_ireturn rfl rfl (by decide +kernel)
def fb_WA_add_65 (h : gx_H) (l0 : Nat) (t0 : Nat) (t1 : Int) (t2 : Int) : Option (Int × gx_H) :=
  gq_ast 0 (gx_i t2) h t0 t1 t2 (fun h1 => gq_get h1 l0 12 0 (fun v2 => gq_put (gx_i (v2 + 1)) h1 l0 12 0 (v2 + 1) (fun h4 => some (0, h4))))
set_option maxHeartbeats 4000000 in
set_option maxRecDepth 100000 in
theorem y_WA_add_65 (h : gx_H) (l0 : Nat) (t0 : Nat) (t1 : Int) (t2 : Int) : gx_Y gm_WA_add (0, 0) 65 [some (gx_R l0), none, none, none] [gx_I t2, gx_I t1, gx_R t0] h (fb_WA_add_65 h l0 t0 t1 t2) := by
  unfold fb_WA_add_65
  refine gx_iast (by decide +kernel) ?_
  refine gx_aload_n (i := 0) (by decide +kernel) rfl ?_
  refine gx_dup (by decide +kernel) (fun _ => rfl) ?_
  refine gx_geti gk_WA (by decide) fl_WA_9 (Or.inl rfl) (by decide +kernel) (fun c3 => ?_)
  refine gx_iconst (n := 1) (by decide +kernel) ?_
  refine gx_iadd (by decide +kernel) ?_
  refine gx_puti gk_WA (by decide) fl_WA_9 rfl rfl (by decide +kernel) ?_
  exact gx_return rfl rfl (by decide +kernel)
def f_WA_add (h : gx_H) (l0 : Nat) (l1 : Int) (l2 : Int) (l3 : Int) : Option (Int × gx_H) :=
  gq_gr h l0 12 2 (fun o1 => gq_get h l0 12 0 (fun v2 => gq_ast 0 True h o1 l1 v2 (fun h4 => gq_gr h4 l0 12 1 (fun o5 => gq_get h4 l0 12 0 (fun v6 => gq_ast 0 (gx_i l1) h4 o5 v6 l1 (fun h8 => gq_gr h8 l0 12 4 (fun o9 => gq_get h8 l0 12 0 (fun v10 => gq_ast 0 (gx_i l2) h8 o9 v10 l2 (fun h12 => gq_gr h12 l0 12 5 (fun o13 => gq_get h12 l0 12 0 (fun v14 => gq_ast 0 (gx_i l3) h12 o13 v14 l3 (fun h16 => gq_gr h16 l0 12 3 (fun o17 => gq_get h16 l0 12 0 (fun v18 => gq_g (gx_i l2) (if l2 = (-1) then fb_WA_add_65 h16 l0 o17 v18 0 else gq_gr h16 l0 12 3 (fun o21 => gq_ald 0 h16 o21 l2 (fun v22 => fb_WA_add_65 h16 l0 o17 v18 (v22 + 1))))))))))))))))))
set_option maxHeartbeats 4000000 in
set_option maxRecDepth 100000 in
theorem c_WA_add (h : gx_H) (l0 : Nat) (l1 : Int) (l2 : Int) (l3 : Int) : ∀ r h1, f_WA_add h l0 l1 l2 l3 = some (r, h1) → gx_Met gm_WA_add [gx_R l0, gx_I l1, gx_I l2, gx_I l3] h r h1 := by
  refine gx_enter (l := [some (gx_R l0), some (gx_I l1), some (gx_I l2), some (gx_I l3)]) (by decide) (Nat.le_of_ble_eq_true rfl) rfl ?_
  unfold f_WA_add
  refine gx_aload_n (i := 0) (by decide +kernel) rfl ?_
  refine gx_getr gk_WA (by decide) fl_WA_21 rfl (by decide +kernel) ?_
  refine gx_iload_n (i := 1) (by decide +kernel) rfl ?_
  refine gx_aload_n (i := 0) (by decide +kernel) rfl ?_
  refine gx_geti gk_WA (by decide) fl_WA_9 (Or.inl rfl) (by decide +kernel) (fun c3 => ?_)
  refine gx_iastT c3 (by decide +kernel) ?_
  refine gx_aload_n (i := 0) (by decide +kernel) rfl ?_
  refine gx_getr gk_WA (by decide) fl_WA_17 rfl (by decide +kernel) ?_
  refine gx_aload_n (i := 0) (by decide +kernel) rfl ?_
  refine gx_geti gk_WA (by decide) fl_WA_9 (Or.inl rfl) (by decide +kernel) (fun c7 => ?_)
  refine gx_iload_n (i := 1) (by decide +kernel) rfl ?_
  refine gx_iast (by decide +kernel) ?_
  refine gx_aload_n (i := 0) (by decide +kernel) rfl ?_
  refine gx_getr gk_WA (by decide) fl_WA_27 rfl (by decide +kernel) ?_
  refine gx_aload_n (i := 0) (by decide +kernel) rfl ?_
  refine gx_geti gk_WA (by decide) fl_WA_9 (Or.inl rfl) (by decide +kernel) (fun c11 => ?_)
  refine gx_iload_n (i := 2) (by decide +kernel) rfl ?_
  refine gx_iast (by decide +kernel) ?_
  refine gx_aload_n (i := 0) (by decide +kernel) rfl ?_
  refine gx_getr gk_WA (by decide) fl_WA_30 rfl (by decide +kernel) ?_
  refine gx_aload_n (i := 0) (by decide +kernel) rfl ?_
  refine gx_geti gk_WA (by decide) fl_WA_9 (Or.inl rfl) (by decide +kernel) (fun c15 => ?_)
  refine gx_iload_n (i := 3) (by decide +kernel) rfl ?_
  refine gx_iast (by decide +kernel) ?_
  refine gx_aload_n (i := 0) (by decide +kernel) rfl ?_
  refine gx_getr gk_WA (by decide) fl_WA_24 rfl (by decide +kernel) ?_
  refine gx_aload_n (i := 0) (by decide +kernel) rfl ?_
  refine gx_geti gk_WA (by decide) fl_WA_9 (Or.inl rfl) (by decide +kernel) (fun c19 => ?_)
  refine gx_iload_n (i := 2) (by decide +kernel) rfl ?_
  refine gx_iconst (n := (-1)) (by decide +kernel) ?_
  refine gx_g (fun c20 => ?_)
  refine gx_icmp_ne (off := 7) (tgt := 57) c20 (by decide) (by decide +kernel) (by decide) ?_ ?_
  · refine gx_aload_n (i := 0) (by decide +kernel) rfl ?_
    refine gx_getr gk_WA (by decide) fl_WA_24 rfl (by decide +kernel) ?_
    refine gx_iload_n (i := 2) (by decide +kernel) rfl ?_
    refine gx_ialdi (by decide +kernel) (fun c23 => ?_)
    refine gx_iconst (n := 1) (by decide +kernel) ?_
    refine gx_iadd (by decide +kernel) ?_
    exact gx_less' (y_WA_add_65 _ _ _ _ _) ⟨rfl, trivial⟩
  · refine gx_iconst (n := 0) (by decide +kernel) ?_
    refine gx_goto (off := 11) (tgt := 65) (by decide +kernel) (by decide) ?_
    exact gx_less' (y_WA_add_65 _ _ _ _ _) ⟨rfl, trivial⟩
def fb_WA_number_113 (N43 : gx_H → Nat → Nat → Int → Option (Int × gx_H)) (N61 : gx_H → Nat → Nat → Int → Int → Option (Int × gx_H)) (h : gx_H) (l0 : Nat) (l1 : Nat) (l3 : Int) (l4 : Int) : Option (Int × gx_H) :=
  N61 h l0 l1 l3 (l4 + 1)
set_option maxHeartbeats 4000000 in
set_option maxRecDepth 100000 in
theorem y_WA_number_113 (N43 : gx_H → Nat → Nat → Int → Option (Int × gx_H)) (hN43 : ∀ (h : gx_H) (l0 : Nat) (l1 : Nat) (l3 : Int), gx_Y gm_WA_number (0, 0) 43 [some (gx_R l0), some (gx_R l1), none, some (gx_I l3), none, none] [] h (N43 h l0 l1 l3)) (N61 : gx_H → Nat → Nat → Int → Int → Option (Int × gx_H)) (hN61 : ∀ (h : gx_H) (l0 : Nat) (l1 : Nat) (l3 : Int) (l4 : Int), gx_Y gm_WA_number (0, 0) 61 [some (gx_R l0), some (gx_R l1), none, some (gx_I l3), some (gx_I l4), none] [] h (N61 h l0 l1 l3 l4)) (h : gx_H) (l0 : Nat) (l1 : Nat) (l3 : Int) (l4 : Int) : gx_Y gm_WA_number (0, 0) 113 [some (gx_R l0), some (gx_R l1), none, some (gx_I l3), some (gx_I l4), none] [] h (fb_WA_number_113 N43 N61 h l0 l1 l3 l4) := by
  unfold fb_WA_number_113
  refine gx_iinc (i := 4) (n := 1) (l' := [some (gx_R _), some (gx_R _), none, some (gx_I _), some (gx_I _), none]) (by decide +kernel) rfl rfl (Nat.le_of_ble_eq_true rfl) (by decide) rfl ?_
  refine gx_goto (off := -55) (tgt := 61) (by decide +kernel) (by decide) ?_
  exact gx_less' (hN61 _ _ _ _ _) ⟨rfl, rfl, rfl, rfl, trivial⟩
def fb_WA_number_61 (N43 : gx_H → Nat → Nat → Int → Option (Int × gx_H)) (N61 : gx_H → Nat → Nat → Int → Int → Option (Int × gx_H)) (h : gx_H) (l0 : Nat) (l1 : Nat) (l3 : Int) (l4 : Int) : Option (Int × gx_H) :=
  gq_get h l1 5 1 (fun v1 => gq_g (gx_i l4) (if l4 < v1 then gq_gr h l1 5 4 (fun o4 => gq_gr h l0 12 1 (fun o5 => gq_ald 0 h o5 l3 (fun v6 => gq_ald 0 h o4 ((v6 * 4) + l4) (fun v8 => if v8 < 0 then fb_WA_number_113 N43 N61 h l0 l1 l3 l4 else gq_gr h l0 12 2 (fun o10 => gq_ald 0 h o10 v8 (fun v11 => if v11 = (-1) then gq_cv h l0 12 (f_WA_add h l0 v8 l3 l4) (fun r13 h14 => fb_WA_number_113 N43 N61 h14 l0 l1 l3 l4) else fb_WA_number_113 N43 N61 h l0 l1 l3 l4)))))) else N43 h l0 l1 (l3 + 1)))
set_option maxHeartbeats 4000000 in
set_option maxRecDepth 100000 in
theorem yb_WA_number_61 (N43 : gx_H → Nat → Nat → Int → Option (Int × gx_H)) (hN43 : ∀ (h : gx_H) (l0 : Nat) (l1 : Nat) (l3 : Int), gx_Y gm_WA_number (0, 0) 43 [some (gx_R l0), some (gx_R l1), none, some (gx_I l3), none, none] [] h (N43 h l0 l1 l3)) (N61 : gx_H → Nat → Nat → Int → Int → Option (Int × gx_H)) (hN61 : ∀ (h : gx_H) (l0 : Nat) (l1 : Nat) (l3 : Int) (l4 : Int), gx_Y gm_WA_number (0, 0) 61 [some (gx_R l0), some (gx_R l1), none, some (gx_I l3), some (gx_I l4), none] [] h (N61 h l0 l1 l3 l4)) (h : gx_H) (l0 : Nat) (l1 : Nat) (l3 : Int) (l4 : Int) : gx_Y gm_WA_number (0, 0) 61 [some (gx_R l0), some (gx_R l1), none, some (gx_I l3), some (gx_I l4), none] [] h (fb_WA_number_61 N43 N61 h l0 l1 l3 l4) := by
  unfold fb_WA_number_61
  refine gx_iload (i := 4) (by decide +kernel) rfl ?_
  refine gx_aload_n (i := 1) (by decide +kernel) rfl ?_
  refine gx_geti gk_GR (by decide) fl_WA_38 (Or.inl rfl) (by decide +kernel) (fun c2 => ?_)
  refine gx_g (fun c3 => ?_)
  refine gx_icmp_ge (off := 52) (tgt := 119) c3 c2 (by decide +kernel) (by decide) ?_ ?_
  · refine gx_iinc (i := 3) (n := 1) (l' := [some (gx_R _), some (gx_R _), none, some (gx_I _), some (gx_I _), none]) (by decide +kernel) rfl rfl (Nat.le_of_ble_eq_true rfl) (by decide) rfl ?_
    refine gx_goto (off := -79) (tgt := 43) (by decide +kernel) (by decide) ?_
    exact gx_less' (hN43 _ _ _ _) ⟨rfl, rfl, rfl, trivial⟩
  · refine gx_aload_n (i := 1) (by decide +kernel) rfl ?_
    refine gx_getr gk_GR (by decide) fl_WA_41 rfl (by decide +kernel) ?_
    refine gx_aload_n (i := 0) (by decide +kernel) rfl ?_
    refine gx_getr gk_WA (by decide) fl_WA_17 rfl (by decide +kernel) ?_
    refine gx_iload_n (i := 3) (by decide +kernel) rfl ?_
    refine gx_ialdi (by decide +kernel) (fun c7 => ?_)
    refine gx_iconst (n := 4) (by decide +kernel) ?_
    refine gx_imul (by decide +kernel) ?_
    refine gx_iload (i := 4) (by decide +kernel) rfl ?_
    refine gx_iadd (by decide +kernel) ?_
    refine gx_ialdi (by decide +kernel) (fun c9 => ?_)
    refine gx_istore (i := 5) (l' := [some (gx_R _), some (gx_R _), none, some (gx_I _), some (gx_I _), some (gx_I _)]) (by decide +kernel) rfl (Nat.le_of_ble_eq_true rfl) (by decide) rfl ?_
    refine gx_iload (i := 5) (by decide +kernel) rfl ?_
    refine gx_if_lt (off := 23) (tgt := 113) c9 (by decide +kernel) (by decide) ?_ ?_
    · exact gx_less' (y_WA_number_113 _ hN43 _ hN61 _ _ _ _ _) ⟨rfl, rfl, rfl, rfl, trivial⟩
    · refine gx_aload_n (i := 0) (by decide +kernel) rfl ?_
      refine gx_getr gk_WA (by decide) fl_WA_21 rfl (by decide +kernel) ?_
      refine gx_iload (i := 5) (by decide +kernel) rfl ?_
      refine gx_ialdi (by decide +kernel) (fun c12 => ?_)
      refine gx_iconst (n := (-1)) (by decide +kernel) ?_
      refine gx_icmp_ne (off := 12) (tgt := 113) c12 (by decide) (by decide +kernel) (by decide) ?_ ?_
      · exact gx_less' (y_WA_number_113 _ hN43 _ hN61 _ _ _ _ _) ⟨rfl, rfl, rfl, rfl, trivial⟩
      · refine gx_aload_n (i := 0) (by decide +kernel) rfl ?_
        refine gx_iload (i := 5) (by decide +kernel) rfl ?_
        refine gx_iload_n (i := 3) (by decide +kernel) rfl ?_
        refine gx_iload (i := 4) (by decide +kernel) rfl ?_
        refine gx_cVv3 (Mc := gm_WA_add) (u' := (0, 0)) (c_WA_add _ _ _ _ _) vk_WA_add ml_WA_34 rfl rfl ⟨by decide, by decide, by decide, by decide⟩ (Nat.le_of_ble_eq_true rfl) (by decide +kernel) (fun r13 h14 => ?_)
        exact gx_less' (y_WA_number_113 _ hN43 _ hN61 _ _ _ _ _) ⟨rfl, rfl, rfl, rfl, trivial⟩
def f_WA_number_61 (N43 : gx_H → Nat → Nat → Int → Option (Int × gx_H)) : Nat → gx_H → Nat → Nat → Int → Int → Option (Int × gx_H)
  | 0 => fun _ _ _ _ _ => none
  | fu + 1 => fb_WA_number_61 N43 (f_WA_number_61 N43 fu)
theorem y_WA_number_61 (N43 : gx_H → Nat → Nat → Int → Option (Int × gx_H)) (hN43 : ∀ (h : gx_H) (l0 : Nat) (l1 : Nat) (l3 : Int), gx_Y gm_WA_number (0, 0) 43 [some (gx_R l0), some (gx_R l1), none, some (gx_I l3), none, none] [] h (N43 h l0 l1 l3)) : ∀ (fu : Nat) (h : gx_H) (l0 : Nat) (l1 : Nat) (l3 : Int) (l4 : Int), gx_Y gm_WA_number (0, 0) 61 [some (gx_R l0), some (gx_R l1), none, some (gx_I l3), some (gx_I l4), none] [] h (f_WA_number_61 N43 fu h l0 l1 l3 l4) := by
  intro fu
  induction fu with
  | zero => intro h l0 l1 l3 l4; exact gx_none
  | succ fu ih => intro h l0 l1 l3 l4; exact yb_WA_number_61 N43 hN43 (f_WA_number_61 N43 fu) ih h l0 l1 l3 l4
def fb_WA_number_43 (N43 : gx_H → Nat → Nat → Int → Option (Int × gx_H)) (h : gx_H) (l0 : Nat) (l1 : Nat) (l3 : Int) : Option (Int × gx_H) :=
  gq_get h l0 12 0 (fun v1 => gq_g (gx_i l3) (if l3 < v1 then if l3 < 200 then f_WA_number_61 N43 gx_fu h l0 l1 l3 0 else some (0, h) else some (0, h)))
set_option maxHeartbeats 4000000 in
set_option maxRecDepth 100000 in
theorem yb_WA_number_43 (N43 : gx_H → Nat → Nat → Int → Option (Int × gx_H)) (hN43 : ∀ (h : gx_H) (l0 : Nat) (l1 : Nat) (l3 : Int), gx_Y gm_WA_number (0, 0) 43 [some (gx_R l0), some (gx_R l1), none, some (gx_I l3), none, none] [] h (N43 h l0 l1 l3)) (h : gx_H) (l0 : Nat) (l1 : Nat) (l3 : Int) : gx_Y gm_WA_number (0, 0) 43 [some (gx_R l0), some (gx_R l1), none, some (gx_I l3), none, none] [] h (fb_WA_number_43 N43 h l0 l1 l3) := by
  unfold fb_WA_number_43
  refine gx_iload_n (i := 3) (by decide +kernel) rfl ?_
  refine gx_aload_n (i := 0) (by decide +kernel) rfl ?_
  refine gx_geti gk_WA (by decide) fl_WA_9 (Or.inl rfl) (by decide +kernel) (fun c2 => ?_)
  refine gx_g (fun c3 => ?_)
  refine gx_icmp_ge (off := 77) (tgt := 125) c3 c2 (by decide +kernel) (by decide) ?_ ?_
  · exact gx_return rfl rfl (by decide +kernel)
  · refine gx_iload_n (i := 3) (by decide +kernel) rfl ?_
    refine gx_sipush (n := 200) (by decide +kernel) (by decide) ?_
    refine gx_icmp_ge (off := 70) (tgt := 125) c3 (by decide) (by decide +kernel) (by decide) ?_ ?_
    · exact gx_return rfl rfl (by decide +kernel)
    · refine gx_iconst (n := 0) (by decide +kernel) ?_
      refine gx_istore (i := 4) (l' := [some (gx_R _), some (gx_R _), none, some (gx_I _), some (gx_I _), none]) (by decide +kernel) rfl (Nat.le_of_ble_eq_true rfl) (by decide) rfl ?_
      exact gx_less' (y_WA_number_61 _ hN43 gx_fu _ _ _ _ _) ⟨rfl, rfl, rfl, rfl, trivial⟩
def f_WA_number_43 : Nat → gx_H → Nat → Nat → Int → Option (Int × gx_H)
  | 0 => fun _ _ _ _ => none
  | fu + 1 => fb_WA_number_43 (f_WA_number_43 fu)
theorem y_WA_number_43 : ∀ (fu : Nat) (h : gx_H) (l0 : Nat) (l1 : Nat) (l3 : Int), gx_Y gm_WA_number (0, 0) 43 [some (gx_R l0), some (gx_R l1), none, some (gx_I l3), none, none] [] h (f_WA_number_43 fu h l0 l1 l3) := by
  intro fu
  induction fu with
  | zero => intro h l0 l1 l3; exact gx_none
  | succ fu ih => intro h l0 l1 l3; exact yb_WA_number_43 (f_WA_number_43 fu) ih h l0 l1 l3
def fb_WA_number_7 (N7 : gx_H → Nat → Nat → Int → Int → Option (Int × gx_H)) (h : gx_H) (l0 : Nat) (l1 : Nat) (l2 : Int) (l3 : Int) : Option (Int × gx_H) :=
  gq_get h l1 5 0 (fun v1 => gq_g (gx_i l3) (if l3 < v1 then gq_gr h l0 12 2 (fun o7 => gq_ast 0 True h o7 l3 (-1) (fun h8 => N7 h8 l0 l1 l2 (l3 + 1))) else gq_g (gx_i l2) (if l2 = (-1) then some (0, h) else gq_cv h l0 12 (f_WA_add h l0 l2 (-1) (-1)) (fun r5 h6 => f_WA_number_43 gx_fu h6 l0 l1 0))))
set_option maxHeartbeats 4000000 in
set_option maxRecDepth 100000 in
theorem yb_WA_number_7 (N7 : gx_H → Nat → Nat → Int → Int → Option (Int × gx_H)) (hN7 : ∀ (h : gx_H) (l0 : Nat) (l1 : Nat) (l2 : Int) (l3 : Int), gx_Y gm_WA_number (0, 0) 7 [some (gx_R l0), some (gx_R l1), some (gx_I l2), some (gx_I l3), none, none] [] h (N7 h l0 l1 l2 l3)) (h : gx_H) (l0 : Nat) (l1 : Nat) (l2 : Int) (l3 : Int) : gx_Y gm_WA_number (0, 0) 7 [some (gx_R l0), some (gx_R l1), some (gx_I l2), some (gx_I l3), none, none] [] h (fb_WA_number_7 N7 h l0 l1 l2 l3) := by
  unfold fb_WA_number_7
  refine gx_iload_n (i := 3) (by decide +kernel) rfl ?_
  refine gx_aload_n (i := 1) (by decide +kernel) rfl ?_
  refine gx_geti gk_GR (by decide) fl_WA_33 (Or.inl rfl) (by decide +kernel) (fun c2 => ?_)
  refine gx_g (fun c3 => ?_)
  refine gx_icmp_ge (off := 16) (tgt := 28) c3 c2 (by decide +kernel) (by decide) ?_ ?_
  · refine gx_iload_n (i := 2) (by decide +kernel) rfl ?_
    refine gx_iconst (n := (-1)) (by decide +kernel) ?_
    refine gx_g (fun c4 => ?_)
    refine gx_icmp_ne (off := 4) (tgt := 34) c4 (by decide) (by decide +kernel) (by decide) ?_ ?_
    · refine gx_aload_n (i := 0) (by decide +kernel) rfl ?_
      refine gx_iload_n (i := 2) (by decide +kernel) rfl ?_
      refine gx_iconst (n := (-1)) (by decide +kernel) ?_
      refine gx_iconst (n := (-1)) (by decide +kernel) ?_
      refine gx_cVv3 (Mc := gm_WA_add) (u' := (0, 0)) (c_WA_add _ _ _ _ _) vk_WA_add ml_WA_34 rfl rfl ⟨by decide, by decide, by decide, by decide⟩ (Nat.le_of_ble_eq_true rfl) (by decide +kernel) (fun r5 h6 => ?_)
      refine gx_iconst (n := 0) (by decide +kernel) ?_
      refine gx_istore_n (i := 3) (l' := [some (gx_R _), some (gx_R _), some (gx_I _), some (gx_I _), none, none]) (by decide +kernel) rfl (Nat.le_of_ble_eq_true rfl) (by decide) rfl ?_
      exact gx_less' (y_WA_number_43 gx_fu _ _ _ _) ⟨rfl, rfl, rfl, trivial⟩
    · exact gx_return rfl rfl (by decide +kernel)
  · refine gx_aload_n (i := 0) (by decide +kernel) rfl ?_
    refine gx_getr gk_WA (by decide) fl_WA_21 rfl (by decide +kernel) ?_
    refine gx_iload_n (i := 3) (by decide +kernel) rfl ?_
    refine gx_iconst (n := (-1)) (by decide +kernel) ?_
    refine gx_iastT (by decide) (by decide +kernel) ?_
    refine gx_iinc (i := 3) (n := 1) (l' := [some (gx_R _), some (gx_R _), some (gx_I _), some (gx_I _), none, none]) (by decide +kernel) rfl rfl (Nat.le_of_ble_eq_true rfl) (by decide) rfl ?_
    refine gx_goto (off := -18) (tgt := 7) (by decide +kernel) (by decide) ?_
    exact gx_less' (hN7 _ _ _ _ _) ⟨rfl, rfl, rfl, rfl, trivial⟩
def f_WA_number_7 : Nat → gx_H → Nat → Nat → Int → Int → Option (Int × gx_H)
  | 0 => fun _ _ _ _ _ => none
  | fu + 1 => fb_WA_number_7 (f_WA_number_7 fu)
theorem y_WA_number_7 : ∀ (fu : Nat) (h : gx_H) (l0 : Nat) (l1 : Nat) (l2 : Int) (l3 : Int), gx_Y gm_WA_number (0, 0) 7 [some (gx_R l0), some (gx_R l1), some (gx_I l2), some (gx_I l3), none, none] [] h (f_WA_number_7 fu h l0 l1 l2 l3) := by
  intro fu
  induction fu with
  | zero => intro h l0 l1 l2 l3; exact gx_none
  | succ fu ih => intro h l0 l1 l2 l3; exact yb_WA_number_7 (f_WA_number_7 fu) ih h l0 l1 l2 l3
def f_WA_number (h : gx_H) (l0 : Nat) (l1 : Nat) (l2 : Int) : Option (Int × gx_H) :=
  gq_put True h l0 12 0 0 (fun h1 => f_WA_number_7 gx_fu h1 l0 l1 l2 0)
set_option maxHeartbeats 4000000 in
set_option maxRecDepth 100000 in
theorem c_WA_number (h : gx_H) (l0 : Nat) (l1 : Nat) (l2 : Int) : ∀ r h1, f_WA_number h l0 l1 l2 = some (r, h1) → gx_Met gm_WA_number [gx_R l0, gx_R l1, gx_I l2] h r h1 := by
  refine gx_enter (l := [some (gx_R l0), some (gx_R l1), some (gx_I l2), none, none, none]) (by decide) (Nat.le_of_ble_eq_true rfl) rfl ?_
  unfold f_WA_number
  refine gx_aload_n (i := 0) (by decide +kernel) rfl ?_
  refine gx_iconst (n := 0) (by decide +kernel) ?_
  refine gx_putiT (by decide) gk_WA (by decide) fl_WA_9 rfl rfl (by decide +kernel) ?_
  refine gx_iconst (n := 0) (by decide +kernel) ?_
  refine gx_istore_n (i := 3) (l' := [some (gx_R _), some (gx_R _), some (gx_I _), some (gx_I _), none, none]) (by decide +kernel) rfl (Nat.le_of_ble_eq_true rfl) (by decide) rfl ?_
  exact gx_less' (y_WA_number_7 gx_fu _ _ _ _ _) ⟨rfl, rfl, rfl, rfl, trivial⟩
def fb_LE_isOpen_33 (h : gx_H) (l0 : Nat) : Option (Int × gx_H) :=
  gq_get h l0 0 17 (fun v1 => if v1 = 0 then gq_gr h l0 0 5 (fun o3 => gq_get h o3 5 3 (fun v4 => gq_g ((v4 : Int) = 0 ∨ (v4 : Int) = 1) (some (v4, h)))) else gq_gr h l0 0 5 (fun o7 => gq_get h o7 5 3 (fun v8 => if v8 = 0 then gq_gr h l0 0 6 (fun o14 => gq_gr h l0 0 5 (fun o15 => gq_gr h l0 0 5 (fun o16 => gq_gr h l0 0 13 (fun o17 => gq_gr h o17 9 0 (fun o18 => gq_cv h o16 5 (f_GR_standOf h o16 o18) (fun r19 h20 => gq_cv h20 o14 12 (f_WA_number h20 o14 o15 r19) (fun r21 h22 => gq_put True h22 l0 0 17 0 (fun h23 => gq_gr h23 l0 0 5 (fun o24 => gq_get h23 o24 5 3 (fun v25 => gq_g ((v25 : Int) = 0 ∨ (v25 : Int) = 1) (some (v25, h23)))))))))))) else gq_gr h l0 0 5 (fun o10 => gq_get h o10 5 3 (fun v11 => gq_g ((v11 : Int) = 0 ∨ (v11 : Int) = 1) (some (v11, h)))))))
set_option maxHeartbeats 4000000 in
set_option maxRecDepth 100000 in
theorem y_LE_isOpen_33 (h : gx_H) (l0 : Nat) : gx_Y gm_LE_isOpen (0, 0) 33 [some (gx_R l0)] [] h (fb_LE_isOpen_33 h l0) := by
  unfold fb_LE_isOpen_33
  refine gx_aload_n (i := 0) (by decide +kernel) rfl ?_
  refine gx_geti gk_LE (by decide) fl_LE_101 (Or.inr rfl) (by decide +kernel) (fun c2 => ?_)
  refine gx_if_eq (off := 43) (tgt := 80) c2 (by decide +kernel) (by decide) ?_ ?_
  · refine gx_aload_n (i := 0) (by decide +kernel) rfl ?_
    refine gx_getr gk_LE (by decide) fl_LE_47 rfl (by decide +kernel) ?_
    refine gx_geti gk_GR (by decide) fl_LE_269 (Or.inr rfl) (by decide +kernel) (fun c5 => ?_)
    refine gx_g (fun c6 => ?_)
    exact gx_zreturn c6 rfl rfl (by decide +kernel)
  · refine gx_aload_n (i := 0) (by decide +kernel) rfl ?_
    refine gx_getr gk_LE (by decide) fl_LE_47 rfl (by decide +kernel) ?_
    refine gx_geti gk_GR (by decide) fl_LE_269 (Or.inr rfl) (by decide +kernel) (fun c9 => ?_)
    refine gx_if_ne (off := 33) (tgt := 80) c9 (by decide +kernel) (by decide) ?_ ?_
    · refine gx_aload_n (i := 0) (by decide +kernel) rfl ?_
      refine gx_getr gk_LE (by decide) fl_LE_47 rfl (by decide +kernel) ?_
      refine gx_geti gk_GR (by decide) fl_LE_269 (Or.inr rfl) (by decide +kernel) (fun c12 => ?_)
      refine gx_g (fun c13 => ?_)
      exact gx_zreturn c13 rfl rfl (by decide +kernel)
    · refine gx_aload_n (i := 0) (by decide +kernel) rfl ?_
      refine gx_getr gk_LE (by decide) fl_LE_54 rfl (by decide +kernel) ?_
      refine gx_aload_n (i := 0) (by decide +kernel) rfl ?_
      refine gx_getr gk_LE (by decide) fl_LE_47 rfl (by decide +kernel) ?_
      refine gx_aload_n (i := 0) (by decide +kernel) rfl ?_
      refine gx_getr gk_LE (by decide) fl_LE_47 rfl (by decide +kernel) ?_
      refine gx_aload_n (i := 0) (by decide +kernel) rfl ?_
      refine gx_getr gk_LE (by decide) fl_LE_87 rfl (by decide +kernel) ?_
      refine gx_getr gk_ST (by decide) fl_LE_108 rfl (by decide +kernel) ?_
      refine gx_cVi1 (Mc := gm_GR_standOf) (u' := (0, 0)) (c_GR_standOf _ _ _) vk_GR_standOf ml_LE_272 rfl rfl ⟨by decide, by decide, by decide, by decide⟩ (Nat.le_of_ble_eq_true rfl) (by decide +kernel) (fun r19 h20 => ?_)
      refine gx_cVv2 (Mc := gm_WA_number) (u' := (0, 0)) (c_WA_number _ _ _ _) vk_WA_number ml_LE_275 rfl rfl ⟨by decide, by decide, by decide, by decide⟩ (Nat.le_of_ble_eq_true rfl) (by decide +kernel) (fun r21 h22 => ?_)
      refine gx_aload_n (i := 0) (by decide +kernel) rfl ?_
      refine gx_iconst (n := 0) (by decide +kernel) ?_
      refine gx_putzT (by decide) gk_LE (by decide) fl_LE_101 rfl rfl (by decide +kernel) ?_
      refine gx_aload_n (i := 0) (by decide +kernel) rfl ?_
      refine gx_getr gk_LE (by decide) fl_LE_47 rfl (by decide +kernel) ?_
      refine gx_geti gk_GR (by decide) fl_LE_269 (Or.inr rfl) (by decide +kernel) (fun c26 => ?_)
      refine gx_g (fun c27 => ?_)
      exact gx_zreturn c27 rfl rfl (by decide +kernel)
def f_LE_isOpen (h : gx_H) (l0 : Nat) : Option (Int × gx_H) :=
  gq_get h l0 0 16 (fun v1 => if v1 = 0 then fb_LE_isOpen_33 h l0 else gq_gr h l0 0 5 (fun o3 => gq_gr h l0 0 13 (fun o4 => gq_gr h o4 9 0 (fun o5 => gq_gr h l0 0 1 (fun o6 => gq_get h o6 7 0 (fun v7 => gq_cv h o3 5 (f_GR_find h o3 o5 v7) (fun r9 h10 => gq_put True h10 l0 0 16 0 (fun h11 => fb_LE_isOpen_33 h11 l0))))))))
set_option maxHeartbeats 4000000 in
set_option maxRecDepth 100000 in
theorem c_LE_isOpen (h : gx_H) (l0 : Nat) : ∀ r h1, f_LE_isOpen h l0 = some (r, h1) → gx_Met gm_LE_isOpen [gx_R l0] h r h1 := by
  refine gx_enter (l := [some (gx_R l0)]) (by decide) (Nat.le_of_ble_eq_true rfl) rfl ?_
  unfold f_LE_isOpen
  refine gx_aload_n (i := 0) (by decide +kernel) rfl ?_
  refine gx_geti gk_LE (by decide) fl_LE_97 (Or.inr rfl) (by decide +kernel) (fun c2 => ?_)
  refine gx_if_eq (off := 29) (tgt := 33) c2 (by decide +kernel) (by decide) ?_ ?_
  · exact gx_less' (y_LE_isOpen_33 _ _) ⟨rfl, trivial⟩
  · refine gx_aload_n (i := 0) (by decide +kernel) rfl ?_
    refine gx_getr gk_LE (by decide) fl_LE_47 rfl (by decide +kernel) ?_
    refine gx_aload_n (i := 0) (by decide +kernel) rfl ?_
    refine gx_getr gk_LE (by decide) fl_LE_87 rfl (by decide +kernel) ?_
    refine gx_getr gk_ST (by decide) fl_LE_108 rfl (by decide +kernel) ?_
    refine gx_aload_n (i := 0) (by decide +kernel) rfl ?_
    refine gx_getr gk_LE (by decide) fl_LE_19 rfl (by decide +kernel) ?_
    refine gx_geti gk_SC (by decide) fl_LE_143 (Or.inr rfl) (by decide +kernel) (fun c8 => ?_)
    refine gx_cVv2 (Mc := gm_GR_find) (u' := (0, 0)) (c_GR_find _ _ _ _) vk_GR_find ml_LE_265 rfl rfl ⟨by decide, by decide, by decide, by decide⟩ (Nat.le_of_ble_eq_true rfl) (by decide +kernel) (fun r9 h10 => ?_)
    refine gx_aload_n (i := 0) (by decide +kernel) rfl ?_
    refine gx_iconst (n := 0) (by decide +kernel) ?_
    refine gx_putzT (by decide) gk_LE (by decide) fl_LE_97 rfl rfl (by decide +kernel) ?_
    exact gx_less' (y_LE_isOpen_33 _ _) ⟨rfl, trivial⟩
def f_WA_far (h : gx_H) (l0 : Nat) : Option (Int × gx_H) :=
  gq_get h l0 12 0 (fun v1 => if 0 < v1 then gq_gr h l0 12 3 (fun o3 => gq_get h l0 12 0 (fun v4 => gq_ald 0 h o3 (v4 - 1) (fun v6 => some (v6, h)))) else some (0, h))
set_option maxHeartbeats 4000000 in
set_option maxRecDepth 100000 in
theorem c_WA_far (h : gx_H) (l0 : Nat) : ∀ r h1, f_WA_far h l0 = some (r, h1) → gx_Met gm_WA_far [gx_R l0] h r h1 := by
  refine gx_enter (l := [some (gx_R l0)]) (by decide) (Nat.le_of_ble_eq_true rfl) rfl ?_
  unfold f_WA_far
  refine gx_aload_n (i := 0) (by decide +kernel) rfl ?_
  refine gx_geti gk_WA (by decide) fl_WA_9 (Or.inl rfl) (by decide +kernel) (fun c2 => ?_)
  refine gx_if_le (off := 17) (tgt := 21) c2 (by decide +kernel) (by decide) ?_ ?_
  · refine gx_iconst (n := 0) (by decide +kernel) ?_
    exact gx_ireturn rfl rfl (by decide +kernel)
  · refine gx_aload_n (i := 0) (by decide +kernel) rfl ?_
    refine gx_getr gk_WA (by decide) fl_WA_24 rfl (by decide +kernel) ?_
    refine gx_aload_n (i := 0) (by decide +kernel) rfl ?_
    refine gx_geti gk_WA (by decide) fl_WA_9 (Or.inl rfl) (by decide +kernel) (fun c5 => ?_)
    refine gx_iconst (n := 1) (by decide +kernel) ?_
    refine gx_isub (by decide +kernel) ?_
    refine gx_ialdi (by decide +kernel) (fun c7 => ?_)
    refine gx_goto (off := 4) (tgt := 22) (by decide +kernel) (by decide) ?_
    exact gx_ireturn rfl rfl (by decide +kernel)
def f_SH_code (h : gx_H) (l0 : Nat) (l1 : Int) : Option (Int × gx_H) :=
  gq_gr h l0 8 2 (fun o1 => gq_get h l0 8 0 (fun v2 => gq_call (f_LE_codeOf h o1 l1 v2) (fun r4 h5 => some (r4, h5))))
set_option maxHeartbeats 4000000 in
set_option maxRecDepth 100000 in
theorem c_SH_code (h : gx_H) (l0 : Nat) (l1 : Int) : ∀ r h1, f_SH_code h l0 l1 = some (r, h1) → gx_Met gm_SH_code [gx_R l0, gx_I l1] h r h1 := by
  refine gx_enter (l := [some (gx_R l0), some (gx_I l1)]) (by decide) (Nat.le_of_ble_eq_true rfl) rfl ?_
  unfold f_SH_code
  refine gx_aload_n (i := 0) (by decide +kernel) rfl ?_
  refine gx_getr gk_SH (by decide) fl_SH_19 rfl (by decide +kernel) ?_
  refine gx_iload_n (i := 1) (by decide +kernel) rfl ?_
  refine gx_aload_n (i := 0) (by decide +kernel) rfl ?_
  refine gx_geti gk_SH (by decide) fl_SH_9 (Or.inl rfl) (by decide +kernel) (fun c3 => ?_)
  refine gx_cSNi3 (Mc := gm_LE_codeOf) (u' := (0, 0)) (c_LE_codeOf _ _ _ _) sk_LE_codeOf ml_SH_48 rfl rfl ⟨by decide, by decide, by decide, by decide⟩ (Nat.le_of_ble_eq_true rfl) (by decide +kernel) (fun r4 h5 => ?_)
  exact gx_ireturn rfl rfl (by decide +kernel)
def fb_BK_firstWrong_2 (N2 : gx_H → Nat → Nat → Int → Option (Int × gx_H)) (h : gx_H) (l0 : Nat) (l1 : Nat) (l2 : Int) : Option (Int × gx_H) :=
  gq_get h l0 2 2 (fun v1 => gq_g (gx_i l2) (if l2 < v1 then gq_gr h l0 2 0 (fun o4 => gq_ald 0 h o4 l2 (fun v5 => gq_get h l1 8 0 (fun v7 => if v5 < v7 then gq_cv h l1 8 (f_SH_code h l1 v5) (fun r9 h10 => gq_gr h10 l0 2 1 (fun o11 => gq_ald 0 h10 o11 l2 (fun v12 => gq_g (gx_i r9) (if r9 = v12 then N2 h10 l0 l1 (l2 + 1) else some (l2, h10))))) else some (l2, h)))) else some ((-1), h)))
set_option maxHeartbeats 4000000 in
set_option maxRecDepth 100000 in
theorem yb_BK_firstWrong_2 (N2 : gx_H → Nat → Nat → Int → Option (Int × gx_H)) (hN2 : ∀ (h : gx_H) (l0 : Nat) (l1 : Nat) (l2 : Int), gx_Y gm_BK_firstWrong (0, 0) 2 [some (gx_R l0), some (gx_R l1), some (gx_I l2), none] [] h (N2 h l0 l1 l2)) (h : gx_H) (l0 : Nat) (l1 : Nat) (l2 : Int) : gx_Y gm_BK_firstWrong (0, 0) 2 [some (gx_R l0), some (gx_R l1), some (gx_I l2), none] [] h (fb_BK_firstWrong_2 N2 h l0 l1 l2) := by
  unfold fb_BK_firstWrong_2
  refine gx_iload_n (i := 2) (by decide +kernel) rfl ?_
  refine gx_aload_n (i := 0) (by decide +kernel) rfl ?_
  refine gx_geti gk_BK (by decide) fl_BK_18 (Or.inl rfl) (by decide +kernel) (fun c2 => ?_)
  refine gx_g (fun c3 => ?_)
  refine gx_icmp_ge (off := 40) (tgt := 47) c3 c2 (by decide +kernel) (by decide) ?_ ?_
  · refine gx_iconst (n := (-1)) (by decide +kernel) ?_
    exact gx_ireturn rfl rfl (by decide +kernel)
  · refine gx_aload_n (i := 0) (by decide +kernel) rfl ?_
    refine gx_getr gk_BK (by decide) fl_BK_11 rfl (by decide +kernel) ?_
    refine gx_iload_n (i := 2) (by decide +kernel) rfl ?_
    refine gx_ialdi (by decide +kernel) (fun c6 => ?_)
    refine gx_istore_n (i := 3) (l' := [some (gx_R _), some (gx_R _), some (gx_I _), some (gx_I _)]) (by decide +kernel) rfl (Nat.le_of_ble_eq_true rfl) (by decide) rfl ?_
    refine gx_iload_n (i := 3) (by decide +kernel) rfl ?_
    refine gx_aload_n (i := 1) (by decide +kernel) rfl ?_
    refine gx_geti gk_SH (by decide) fl_BK_22 (Or.inl rfl) (by decide +kernel) (fun c8 => ?_)
    refine gx_icmp_ge (off := 17) (tgt := 39) c6 c8 (by decide +kernel) (by decide) ?_ ?_
    · refine gx_iload_n (i := 2) (by decide +kernel) rfl ?_
      exact gx_ireturn rfl rfl (by decide +kernel)
    · refine gx_aload_n (i := 1) (by decide +kernel) rfl ?_
      refine gx_iload_n (i := 3) (by decide +kernel) rfl ?_
      refine gx_cVi1 (Mc := gm_SH_code) (u' := (0, 0)) (c_SH_code _ _ _) vk_SH_code ml_BK_27 rfl rfl ⟨by decide, by decide, by decide, by decide⟩ (Nat.le_of_ble_eq_true rfl) (by decide +kernel) (fun r9 h10 => ?_)
      refine gx_aload_n (i := 0) (by decide +kernel) rfl ?_
      refine gx_getr gk_BK (by decide) fl_BK_15 rfl (by decide +kernel) ?_
      refine gx_iload_n (i := 2) (by decide +kernel) rfl ?_
      refine gx_ialdi (by decide +kernel) (fun c13 => ?_)
      refine gx_g (fun c14 => ?_)
      refine gx_icmp_eq (off := 5) (tgt := 41) c14 c13 (by decide +kernel) (by decide) ?_ ?_
      · refine gx_iinc (i := 2) (n := 1) (l' := [some (gx_R _), some (gx_R _), some (gx_I _), some (gx_I _)]) (by decide +kernel) rfl rfl (Nat.le_of_ble_eq_true rfl) (by decide) rfl ?_
        refine gx_goto (off := -42) (tgt := 2) (by decide +kernel) (by decide) ?_
        exact gx_less' (hN2 _ _ _ _) ⟨rfl, rfl, rfl, trivial⟩
      · refine gx_iload_n (i := 2) (by decide +kernel) rfl ?_
        exact gx_ireturn rfl rfl (by decide +kernel)
def f_BK_firstWrong_2 : Nat → gx_H → Nat → Nat → Int → Option (Int × gx_H)
  | 0 => fun _ _ _ _ => none
  | fu + 1 => fb_BK_firstWrong_2 (f_BK_firstWrong_2 fu)
theorem y_BK_firstWrong_2 : ∀ (fu : Nat) (h : gx_H) (l0 : Nat) (l1 : Nat) (l2 : Int), gx_Y gm_BK_firstWrong (0, 0) 2 [some (gx_R l0), some (gx_R l1), some (gx_I l2), none] [] h (f_BK_firstWrong_2 fu h l0 l1 l2) := by
  intro fu
  induction fu with
  | zero => intro h l0 l1 l2; exact gx_none
  | succ fu ih => intro h l0 l1 l2; exact yb_BK_firstWrong_2 (f_BK_firstWrong_2 fu) ih h l0 l1 l2
def f_BK_firstWrong (h : gx_H) (l0 : Nat) (l1 : Nat) : Option (Int × gx_H) :=
  f_BK_firstWrong_2 gx_fu h l0 l1 0
set_option maxHeartbeats 4000000 in
set_option maxRecDepth 100000 in
theorem c_BK_firstWrong (h : gx_H) (l0 : Nat) (l1 : Nat) : ∀ r h1, f_BK_firstWrong h l0 l1 = some (r, h1) → gx_Met gm_BK_firstWrong [gx_R l0, gx_R l1] h r h1 := by
  refine gx_enter (l := [some (gx_R l0), some (gx_R l1), none, none]) (by decide) (Nat.le_of_ble_eq_true rfl) rfl ?_
  unfold f_BK_firstWrong
  refine gx_iconst (n := 0) (by decide +kernel) ?_
  refine gx_istore_n (i := 2) (l' := [some (gx_R _), some (gx_R _), some (gx_I _), none]) (by decide +kernel) rfl (Nat.le_of_ble_eq_true rfl) (by decide) rfl ?_
  exact gx_less' (y_BK_firstWrong_2 gx_fu _ _ _ _) ⟨rfl, rfl, rfl, trivial⟩
def f_LE_told (h : gx_H) (l0 : Nat) (l1 : Int) : Option (Int × gx_H) :=
  gq_g (gx_i l1) (if l1 = 0 then gq_gr h l0 0 13 (fun o3 => gq_gr h o3 9 0 (fun o4 => gq_get h o4 8 0 (fun v5 => some (v5, h)))) else if l1 = 1 then gq_gr h l0 0 0 (fun o8 => gq_get h o8 10 1 (fun v9 => some (v9, h))) else if l1 = 2 then gq_gr h l0 0 1 (fun o12 => gq_get h o12 7 0 (fun v13 => if v13 = 0 then some (0, h) else some (1, h))) else if l1 = 3 then gq_gr h l0 0 13 (fun o16 => gq_get h o16 9 5 (fun v17 => some (v17, h))) else if l1 = 4 then gq_cv h l0 0 (f_LE_isOpen h l0) (fun r20 h21 => gq_g (gx_i r20) (if r20 = 0 then gq_gr h21 l0 0 6 (fun o23 => gq_get h21 o23 12 0 (fun v24 => some (v24, h21))) else some ((-1), h21))) else if l1 = 5 then gq_cv h l0 0 (f_LE_isOpen h l0) (fun r27 h28 => gq_g (gx_i r27) (if r27 = 0 then gq_gr h28 l0 0 5 (fun o30 => gq_get h28 o30 5 2 (fun v31 => some (v31, h28))) else some ((-1), h28))) else if l1 = 6 then gq_cv h l0 0 (f_LE_isOpen h l0) (fun r34 h35 => gq_g (gx_i r34) (if r34 = 0 then gq_gr h35 l0 0 6 (fun o37 => gq_cv h35 o37 12 (f_WA_far h35 o37) (fun r38 h39 => some (r38, h39))) else some ((-1), h35))) else if l1 = 7 then gq_gr h l0 0 4 (fun o41 => gq_get h o41 2 2 (fun v42 => some (v42, h))) else if l1 = 8 then gq_gr h l0 0 4 (fun o45 => gq_gr h l0 0 13 (fun o46 => gq_gr h o46 9 0 (fun o47 => gq_cv h o45 2 (f_BK_firstWrong h o45 o47) (fun r48 h49 => some (r48, h49))))) else if l1 = 9 then gq_gr h l0 0 3 (fun o51 => gq_get h o51 6 2 (fun v52 => some (v52, h))) else some ((-1000000002), h))
set_option maxHeartbeats 4000000 in
set_option maxRecDepth 100000 in
theorem c_LE_told (h : gx_H) (l0 : Nat) (l1 : Int) : ∀ r h1, f_LE_told h l0 l1 = some (r, h1) → gx_Met gm_LE_told [gx_R l0, gx_I l1] h r h1 := by
  refine gx_enter (l := [some (gx_R l0), some (gx_I l1)]) (by decide) (Nat.le_of_ble_eq_true rfl) rfl ?_
  unfold f_LE_told
  refine gx_iload_n (i := 1) (by decide +kernel) rfl ?_
  refine gx_g (fun c1 => ?_)
  refine gx_ite (fun c2 => ?_) (fun c2 => ?_)
  · refine gx_swIn (dflt := 186) (lo := 0) (hi := 9) (offs := #[55, 66, 74, 90, 98, 117, 136, 155, 163, 178]) (len := 55) (off := 55) (tgt := 56) c1 (by decide +kernel) (by rw [c2]; decide) (by rw [c2]; decide) (by rw [c2]; decide) (by decide) ?_
    refine gx_aload_n (i := 0) (by decide +kernel) rfl ?_
    refine gx_getr gk_LE (by decide) fl_LE_87 rfl (by decide +kernel) ?_
    refine gx_getr gk_ST (by decide) fl_LE_108 rfl (by decide +kernel) ?_
    refine gx_geti gk_SH (by decide) fl_LE_137 (Or.inl rfl) (by decide +kernel) (fun c6 => ?_)
    exact gx_ireturn rfl rfl (by decide +kernel)
  · refine gx_ite (fun c7 => ?_) (fun c7 => ?_)
    · refine gx_swIn (dflt := 186) (lo := 0) (hi := 9) (offs := #[55, 66, 74, 90, 98, 117, 136, 155, 163, 178]) (len := 55) (off := 66) (tgt := 67) c1 (by decide +kernel) (by rw [c7]; decide) (by rw [c7]; decide) (by rw [c7]; decide) (by decide) ?_
      refine gx_aload_n (i := 0) (by decide +kernel) rfl ?_
      refine gx_getr gk_LE (by decide) fl_LE_12 rfl (by decide +kernel) ?_
      refine gx_geti gk_TX (by decide) fl_LE_126 (Or.inl rfl) (by decide +kernel) (fun c10 => ?_)
      exact gx_ireturn rfl rfl (by decide +kernel)
    · refine gx_ite (fun c11 => ?_) (fun c11 => ?_)
      · refine gx_swIn (dflt := 186) (lo := 0) (hi := 9) (offs := #[55, 66, 74, 90, 98, 117, 136, 155, 163, 178]) (len := 55) (off := 74) (tgt := 75) c1 (by decide +kernel) (by rw [c11]; decide) (by rw [c11]; decide) (by rw [c11]; decide) (by decide) ?_
        refine gx_aload_n (i := 0) (by decide +kernel) rfl ?_
        refine gx_getr gk_LE (by decide) fl_LE_19 rfl (by decide +kernel) ?_
        refine gx_geti gk_SC (by decide) fl_LE_143 (Or.inr rfl) (by decide +kernel) (fun c14 => ?_)
        refine gx_if_eq (off := 7) (tgt := 89) c14 (by decide +kernel) (by decide) ?_ ?_
        · refine gx_iconst (n := 0) (by decide +kernel) ?_
          exact gx_ireturn rfl rfl (by decide +kernel)
        · refine gx_iconst (n := 1) (by decide +kernel) ?_
          refine gx_goto (off := 4) (tgt := 90) (by decide +kernel) (by decide) ?_
          exact gx_ireturn rfl rfl (by decide +kernel)
      · refine gx_ite (fun c15 => ?_) (fun c15 => ?_)
        · refine gx_swIn (dflt := 186) (lo := 0) (hi := 9) (offs := #[55, 66, 74, 90, 98, 117, 136, 155, 163, 178]) (len := 55) (off := 90) (tgt := 91) c1 (by decide +kernel) (by rw [c15]; decide) (by rw [c15]; decide) (by rw [c15]; decide) (by decide) ?_
          refine gx_aload_n (i := 0) (by decide +kernel) rfl ?_
          refine gx_getr gk_LE (by decide) fl_LE_87 rfl (by decide +kernel) ?_
          refine gx_geti gk_ST (by decide) fl_LE_146 (Or.inl rfl) (by decide +kernel) (fun c18 => ?_)
          exact gx_ireturn rfl rfl (by decide +kernel)
        · refine gx_ite (fun c19 => ?_) (fun c19 => ?_)
          · refine gx_swIn (dflt := 186) (lo := 0) (hi := 9) (offs := #[55, 66, 74, 90, 98, 117, 136, 155, 163, 178]) (len := 55) (off := 98) (tgt := 99) c1 (by decide +kernel) (by rw [c19]; decide) (by rw [c19]; decide) (by rw [c19]; decide) (by decide) ?_
            refine gx_aload_n (i := 0) (by decide +kernel) rfl ?_
            refine gx_cVi0 (Mc := gm_LE_isOpen) (u' := (0, 0)) (c_LE_isOpen _ _) vk_LE_isOpen ml_LE_149 rfl rfl ⟨by decide, by decide, by decide, by decide⟩ (Nat.le_of_ble_eq_true rfl) (by decide +kernel) (fun r20 h21 => ?_)
            refine gx_g (fun c22 => ?_)
            refine gx_if_eq (off := 7) (tgt := 110) c22 (by decide +kernel) (by decide) ?_ ?_
            · refine gx_aload_n (i := 0) (by decide +kernel) rfl ?_
              refine gx_getr gk_LE (by decide) fl_LE_54 rfl (by decide +kernel) ?_
              refine gx_geti gk_WA (by decide) fl_LE_153 (Or.inl rfl) (by decide +kernel) (fun c25 => ?_)
              exact gx_ireturn rfl rfl (by decide +kernel)
            · refine gx_iconst (n := (-1)) (by decide +kernel) ?_
              refine gx_goto (off := 10) (tgt := 117) (by decide +kernel) (by decide) ?_
              exact gx_ireturn rfl rfl (by decide +kernel)
          · refine gx_ite (fun c26 => ?_) (fun c26 => ?_)
            · refine gx_swIn (dflt := 186) (lo := 0) (hi := 9) (offs := #[55, 66, 74, 90, 98, 117, 136, 155, 163, 178]) (len := 55) (off := 117) (tgt := 118) c1 (by decide +kernel) (by rw [c26]; decide) (by rw [c26]; decide) (by rw [c26]; decide) (by decide) ?_
              refine gx_aload_n (i := 0) (by decide +kernel) rfl ?_
              refine gx_cVi0 (Mc := gm_LE_isOpen) (u' := (0, 0)) (c_LE_isOpen _ _) vk_LE_isOpen ml_LE_149 rfl rfl ⟨by decide, by decide, by decide, by decide⟩ (Nat.le_of_ble_eq_true rfl) (by decide +kernel) (fun r27 h28 => ?_)
              refine gx_g (fun c29 => ?_)
              refine gx_if_eq (off := 7) (tgt := 129) c29 (by decide +kernel) (by decide) ?_ ?_
              · refine gx_aload_n (i := 0) (by decide +kernel) rfl ?_
                refine gx_getr gk_LE (by decide) fl_LE_47 rfl (by decide +kernel) ?_
                refine gx_geti gk_GR (by decide) fl_LE_154 (Or.inl rfl) (by decide +kernel) (fun c32 => ?_)
                exact gx_ireturn rfl rfl (by decide +kernel)
              · refine gx_iconst (n := (-1)) (by decide +kernel) ?_
                refine gx_goto (off := 10) (tgt := 136) (by decide +kernel) (by decide) ?_
                exact gx_ireturn rfl rfl (by decide +kernel)
            · refine gx_ite (fun c33 => ?_) (fun c33 => ?_)
              · refine gx_swIn (dflt := 186) (lo := 0) (hi := 9) (offs := #[55, 66, 74, 90, 98, 117, 136, 155, 163, 178]) (len := 55) (off := 136) (tgt := 137) c1 (by decide +kernel) (by rw [c33]; decide) (by rw [c33]; decide) (by rw [c33]; decide) (by decide) ?_
                refine gx_aload_n (i := 0) (by decide +kernel) rfl ?_
                refine gx_cVi0 (Mc := gm_LE_isOpen) (u' := (0, 0)) (c_LE_isOpen _ _) vk_LE_isOpen ml_LE_149 rfl rfl ⟨by decide, by decide, by decide, by decide⟩ (Nat.le_of_ble_eq_true rfl) (by decide +kernel) (fun r34 h35 => ?_)
                refine gx_g (fun c36 => ?_)
                refine gx_if_eq (off := 7) (tgt := 148) c36 (by decide +kernel) (by decide) ?_ ?_
                · refine gx_aload_n (i := 0) (by decide +kernel) rfl ?_
                  refine gx_getr gk_LE (by decide) fl_LE_54 rfl (by decide +kernel) ?_
                  refine gx_cVi0 (Mc := gm_WA_far) (u' := (0, 0)) (c_WA_far _ _) vk_WA_far ml_LE_157 rfl rfl ⟨by decide, by decide, by decide, by decide⟩ (Nat.le_of_ble_eq_true rfl) (by decide +kernel) (fun r38 h39 => ?_)
                  exact gx_ireturn rfl rfl (by decide +kernel)
                · refine gx_iconst (n := (-1)) (by decide +kernel) ?_
                  refine gx_goto (off := 10) (tgt := 155) (by decide +kernel) (by decide) ?_
                  exact gx_ireturn rfl rfl (by decide +kernel)
              · refine gx_ite (fun c40 => ?_) (fun c40 => ?_)
                · refine gx_swIn (dflt := 186) (lo := 0) (hi := 9) (offs := #[55, 66, 74, 90, 98, 117, 136, 155, 163, 178]) (len := 55) (off := 155) (tgt := 156) c1 (by decide +kernel) (by rw [c40]; decide) (by rw [c40]; decide) (by rw [c40]; decide) (by decide) ?_
                  refine gx_aload_n (i := 0) (by decide +kernel) rfl ?_
                  refine gx_getr gk_LE (by decide) fl_LE_40 rfl (by decide +kernel) ?_
                  refine gx_geti gk_BK (by decide) fl_LE_161 (Or.inl rfl) (by decide +kernel) (fun c43 => ?_)
                  exact gx_ireturn rfl rfl (by decide +kernel)
                · refine gx_ite (fun c44 => ?_) (fun c44 => ?_)
                  · refine gx_swIn (dflt := 186) (lo := 0) (hi := 9) (offs := #[55, 66, 74, 90, 98, 117, 136, 155, 163, 178]) (len := 55) (off := 163) (tgt := 164) c1 (by decide +kernel) (by rw [c44]; decide) (by rw [c44]; decide) (by rw [c44]; decide) (by decide) ?_
                    refine gx_aload_n (i := 0) (by decide +kernel) rfl ?_
                    refine gx_getr gk_LE (by decide) fl_LE_40 rfl (by decide +kernel) ?_
                    refine gx_aload_n (i := 0) (by decide +kernel) rfl ?_
                    refine gx_getr gk_LE (by decide) fl_LE_87 rfl (by decide +kernel) ?_
                    refine gx_getr gk_ST (by decide) fl_LE_108 rfl (by decide +kernel) ?_
                    refine gx_cVi1 (Mc := gm_BK_firstWrong) (u' := (0, 0)) (c_BK_firstWrong _ _ _) vk_BK_firstWrong ml_LE_164 rfl rfl ⟨by decide, by decide, by decide, by decide⟩ (Nat.le_of_ble_eq_true rfl) (by decide +kernel) (fun r48 h49 => ?_)
                    exact gx_ireturn rfl rfl (by decide +kernel)
                  · refine gx_ite (fun c50 => ?_) (fun c50 => ?_)
                    · refine gx_swIn (dflt := 186) (lo := 0) (hi := 9) (offs := #[55, 66, 74, 90, 98, 117, 136, 155, 163, 178]) (len := 55) (off := 178) (tgt := 179) c1 (by decide +kernel) (by rw [c50]; decide) (by rw [c50]; decide) (by rw [c50]; decide) (by decide) ?_
                      refine gx_aload_n (i := 0) (by decide +kernel) rfl ?_
                      refine gx_getr gk_LE (by decide) fl_LE_33 rfl (by decide +kernel) ?_
                      refine gx_geti gk_HI (by decide) fl_LE_168 (Or.inl rfl) (by decide +kernel) (fun c53 => ?_)
                      exact gx_ireturn rfl rfl (by decide +kernel)
                    · refine gx_swOut (dflt := 186) (lo := 0) (hi := 9) (offs := #[55, 66, 74, 90, 98, 117, 136, 155, 163, 178]) (len := 55) (tgt := 187) c1 (by decide +kernel) (by omega) (by decide) ?_
                      refine gx_ldc (a := (-1000000002)) kc_LE_121 (by decide +kernel) ?_
                      exact gx_ireturn rfl rfl (by decide +kernel)
def fb_LE_isNoLetter_18 (h : gx_H) : Option (Int × gx_H) :=
  some (1, h)
set_option maxHeartbeats 4000000 in
set_option maxRecDepth 100000 in
theorem y_LE_isNoLetter_18 (h : gx_H) : gx_Y gm_LE_isNoLetter (0, 0) 18 [none, none] [] h (fb_LE_isNoLetter_18 h) := by
  unfold fb_LE_isNoLetter_18
  refine gx_iconst (n := 1) (by decide +kernel) ?_
  refine gx_goto (off := 4) (tgt := 23) (by decide +kernel) (by decide) ?_
  exact gx_zreturn (by decide) rfl rfl (by decide +kernel)
def f_LE_isNoLetter (h : gx_H) (l0 : Nat) (l1 : Int) : Option (Int × gx_H) :=
  gq_g (gx_i l1) (if l1 < 0 then fb_LE_isNoLetter_18 h  else gq_gr h l0 0 13 (fun o2 => gq_gr h o2 9 0 (fun o3 => gq_get h o3 8 0 (fun v4 => if l1 < v4 then some (0, h) else fb_LE_isNoLetter_18 h ))))
set_option maxHeartbeats 4000000 in
set_option maxRecDepth 100000 in
theorem c_LE_isNoLetter (h : gx_H) (l0 : Nat) (l1 : Int) : ∀ r h1, f_LE_isNoLetter h l0 l1 = some (r, h1) → gx_Met gm_LE_isNoLetter [gx_R l0, gx_I l1] h r h1 := by
  refine gx_enter (l := [some (gx_R l0), some (gx_I l1)]) (by decide) (Nat.le_of_ble_eq_true rfl) rfl ?_
  unfold f_LE_isNoLetter
  refine gx_iload_n (i := 1) (by decide +kernel) rfl ?_
  refine gx_g (fun c1 => ?_)
  refine gx_if_lt (off := 17) (tgt := 18) c1 (by decide +kernel) (by decide) ?_ ?_
  · exact gx_less' (y_LE_isNoLetter_18 _) trivial
  · refine gx_iload_n (i := 1) (by decide +kernel) rfl ?_
    refine gx_aload_n (i := 0) (by decide +kernel) rfl ?_
    refine gx_getr gk_LE (by decide) fl_LE_87 rfl (by decide +kernel) ?_
    refine gx_getr gk_ST (by decide) fl_LE_108 rfl (by decide +kernel) ?_
    refine gx_geti gk_SH (by decide) fl_LE_137 (Or.inl rfl) (by decide +kernel) (fun c5 => ?_)
    refine gx_icmp_lt (off := 7) (tgt := 22) c1 c5 (by decide +kernel) (by decide) ?_ ?_
    · refine gx_iconst (n := 0) (by decide +kernel) ?_
      exact gx_zreturn (by decide) rfl rfl (by decide +kernel)
    · exact gx_less' (y_LE_isNoLetter_18 _) trivial
def f_LE_table (h : gx_H) (l0 : Nat) (l1 : Int) (l2 : Int) : Option (Int × gx_H) :=
  gq_cv h l0 0 (f_LE_isNoLetter h l0 l1) (fun r1 h2 => gq_g (gx_i r1) (if r1 = 0 then gq_cv h2 l0 0 (f_LE_isNoLetter h2 l0 l2) (fun r4 h5 => gq_g (gx_i r4) (if r4 = 0 then gq_gr h5 l0 0 13 (fun o7 => gq_gr h5 o7 9 0 (fun o8 => gq_gr h5 o8 8 1 (fun o9 => gq_call (f_LE_cell h5 l1 l2) (fun r10 h11 => gq_ald 0 h11 o9 r10 (fun v12 => some ((v12 + 1000), h11)))))) else some ((-1000000001), h5))) else some ((-1000000001), h2)))
set_option maxHeartbeats 4000000 in
set_option maxRecDepth 100000 in
theorem c_LE_table (h : gx_H) (l0 : Nat) (l1 : Int) (l2 : Int) : ∀ r h1, f_LE_table h l0 l1 l2 = some (r, h1) → gx_Met gm_LE_table [gx_R l0, gx_I l1, gx_I l2] h r h1 := by
  refine gx_enter (l := [some (gx_R l0), some (gx_I l1), some (gx_I l2)]) (by decide) (Nat.le_of_ble_eq_true rfl) rfl ?_
  unfold f_LE_table
  refine gx_aload_n (i := 0) (by decide +kernel) rfl ?_
  refine gx_iload_n (i := 1) (by decide +kernel) rfl ?_
  refine gx_cVi1 (Mc := gm_LE_isNoLetter) (u' := (0, 0)) (c_LE_isNoLetter _ _ _) vk_LE_isNoLetter ml_LE_169 rfl rfl ⟨by decide, by decide, by decide, by decide⟩ (Nat.le_of_ble_eq_true rfl) (by decide +kernel) (fun r1 h2 => ?_)
  refine gx_g (fun c3 => ?_)
  refine gx_if_ne (off := 11) (tgt := 16) c3 (by decide +kernel) (by decide) ?_ ?_
  · refine gx_ldc (a := (-1000000001)) kc_LE_172 (by decide +kernel) ?_
    exact gx_ireturn rfl rfl (by decide +kernel)
  · refine gx_aload_n (i := 0) (by decide +kernel) rfl ?_
    refine gx_iload_n (i := 2) (by decide +kernel) rfl ?_
    refine gx_cVi1 (Mc := gm_LE_isNoLetter) (u' := (0, 0)) (c_LE_isNoLetter _ _ _) vk_LE_isNoLetter ml_LE_169 rfl rfl ⟨by decide, by decide, by decide, by decide⟩ (Nat.le_of_ble_eq_true rfl) (by decide +kernel) (fun r4 h5 => ?_)
    refine gx_g (fun c6 => ?_)
    refine gx_if_eq (off := 6) (tgt := 19) c6 (by decide +kernel) (by decide) ?_ ?_
    · refine gx_aload_n (i := 0) (by decide +kernel) rfl ?_
      refine gx_getr gk_LE (by decide) fl_LE_87 rfl (by decide +kernel) ?_
      refine gx_getr gk_ST (by decide) fl_LE_108 rfl (by decide +kernel) ?_
      refine gx_getr gk_SH (by decide) fl_LE_173 rfl (by decide +kernel) ?_
      refine gx_iload_n (i := 1) (by decide +kernel) rfl ?_
      refine gx_iload_n (i := 2) (by decide +kernel) rfl ?_
      refine gx_cSi2 (Mc := gm_LE_cell) (u' := (0, 0)) (c_LE_cell _ _ _) sk_LE_cell ml_LE_176 rfl rfl ⟨by decide, by decide, by decide, by decide⟩ (Nat.le_of_ble_eq_true rfl) (by decide +kernel) (fun r10 h11 => ?_)
      refine gx_ialdi (by decide +kernel) (fun c13 => ?_)
      refine gx_sipush (n := 1000) (by decide +kernel) (by decide) ?_
      refine gx_iadd (by decide +kernel) ?_
      exact gx_ireturn rfl rfl (by decide +kernel)
    · refine gx_ldc (a := (-1000000001)) kc_LE_172 (by decide +kernel) ?_
      exact gx_ireturn rfl rfl (by decide +kernel)
def fb_SH_boundTo_31 (N4 : gx_H → Nat → Int → Int → Int → Option (Int × gx_H)) (h : gx_H) (l0 : Nat) (l1 : Int) (l2 : Int) (l3 : Int) : Option (Int × gx_H) :=
  N4 h l0 l1 l2 (l3 + 1)
set_option maxHeartbeats 4000000 in
set_option maxRecDepth 100000 in
theorem y_SH_boundTo_31 (N4 : gx_H → Nat → Int → Int → Int → Option (Int × gx_H)) (hN4 : ∀ (h : gx_H) (l0 : Nat) (l1 : Int) (l2 : Int) (l3 : Int), gx_Y gm_SH_boundTo (0, 0) 4 [some (gx_R l0), some (gx_I l1), some (gx_I l2), some (gx_I l3)] [] h (N4 h l0 l1 l2 l3)) (h : gx_H) (l0 : Nat) (l1 : Int) (l2 : Int) (l3 : Int) : gx_Y gm_SH_boundTo (0, 0) 31 [some (gx_R l0), some (gx_I l1), some (gx_I l2), some (gx_I l3)] [] h (fb_SH_boundTo_31 N4 h l0 l1 l2 l3) := by
  unfold fb_SH_boundTo_31
  refine gx_iinc (i := 3) (n := 1) (l' := [some (gx_R _), some (gx_I _), some (gx_I _), some (gx_I _)]) (by decide +kernel) rfl rfl (Nat.le_of_ble_eq_true rfl) (by decide) rfl ?_
  refine gx_goto (off := -30) (tgt := 4) (by decide +kernel) (by decide) ?_
  exact gx_less' (hN4 _ _ _ _ _) ⟨rfl, rfl, rfl, rfl, trivial⟩
def fb_SH_boundTo_4 (N4 : gx_H → Nat → Int → Int → Int → Option (Int × gx_H)) (h : gx_H) (l0 : Nat) (l1 : Int) (l2 : Int) (l3 : Int) : Option (Int × gx_H) :=
  gq_get h l0 8 0 (fun v1 => gq_g (gx_i l3) (if l3 < v1 then gq_gr h l0 8 1 (fun o4 => gq_call (f_LE_cell h l1 l3) (fun r5 h6 => gq_ald 0 h6 o4 r5 (fun v7 => if v7 = 0 then fb_SH_boundTo_31 N4 h6 l0 l1 l2 l3 else fb_SH_boundTo_31 N4 h6 l0 l1 (gq_or l2 (gq_shl 1 l3)) l3))) else some (l2, h)))
set_option maxHeartbeats 4000000 in
set_option maxRecDepth 100000 in
theorem yb_SH_boundTo_4 (N4 : gx_H → Nat → Int → Int → Int → Option (Int × gx_H)) (hN4 : ∀ (h : gx_H) (l0 : Nat) (l1 : Int) (l2 : Int) (l3 : Int), gx_Y gm_SH_boundTo (0, 0) 4 [some (gx_R l0), some (gx_I l1), some (gx_I l2), some (gx_I l3)] [] h (N4 h l0 l1 l2 l3)) (h : gx_H) (l0 : Nat) (l1 : Int) (l2 : Int) (l3 : Int) : gx_Y gm_SH_boundTo (0, 0) 4 [some (gx_R l0), some (gx_I l1), some (gx_I l2), some (gx_I l3)] [] h (fb_SH_boundTo_4 N4 h l0 l1 l2 l3) := by
  unfold fb_SH_boundTo_4
  refine gx_iload_n (i := 3) (by decide +kernel) rfl ?_
  refine gx_aload_n (i := 0) (by decide +kernel) rfl ?_
  refine gx_geti gk_SH (by decide) fl_SH_9 (Or.inl rfl) (by decide +kernel) (fun c2 => ?_)
  refine gx_g (fun c3 => ?_)
  refine gx_icmp_ge (off := 28) (tgt := 37) c3 c2 (by decide +kernel) (by decide) ?_ ?_
  · refine gx_iload_n (i := 2) (by decide +kernel) rfl ?_
    exact gx_ireturn rfl rfl (by decide +kernel)
  · refine gx_aload_n (i := 0) (by decide +kernel) rfl ?_
    refine gx_getr gk_SH (by decide) fl_SH_15 rfl (by decide +kernel) ?_
    refine gx_iload_n (i := 1) (by decide +kernel) rfl ?_
    refine gx_iload_n (i := 3) (by decide +kernel) rfl ?_
    refine gx_cSNi2 (Mc := gm_LE_cell) (u' := (0, 0)) (c_LE_cell _ _ _) sk_LE_cell ml_SH_22 rfl rfl ⟨by decide, by decide, by decide, by decide⟩ (Nat.le_of_ble_eq_true rfl) (by decide +kernel) (fun r5 h6 => ?_)
    refine gx_ialdi (by decide +kernel) (fun c8 => ?_)
    refine gx_if_eq (off := 9) (tgt := 31) c8 (by decide +kernel) (by decide) ?_ ?_
    · exact gx_less' (y_SH_boundTo_31 _ hN4 _ _ _ _ _) ⟨rfl, rfl, rfl, rfl, trivial⟩
    · refine gx_iload_n (i := 2) (by decide +kernel) rfl ?_
      refine gx_iconst (n := 1) (by decide +kernel) ?_
      refine gx_iload_n (i := 3) (by decide +kernel) rfl ?_
      refine gx_ishl (by decide +kernel) ?_
      refine gx_ior (by decide +kernel) ?_
      refine gx_istore_n (i := 2) (l' := [some (gx_R _), some (gx_I _), some (gx_I _), some (gx_I _)]) (by decide +kernel) rfl (Nat.le_of_ble_eq_true rfl) (by decide) rfl ?_
      exact gx_less' (y_SH_boundTo_31 _ hN4 _ _ _ _ _) ⟨rfl, rfl, rfl, rfl, trivial⟩
def f_SH_boundTo_4 : Nat → gx_H → Nat → Int → Int → Int → Option (Int × gx_H)
  | 0 => fun _ _ _ _ _ => none
  | fu + 1 => fb_SH_boundTo_4 (f_SH_boundTo_4 fu)
theorem y_SH_boundTo_4 : ∀ (fu : Nat) (h : gx_H) (l0 : Nat) (l1 : Int) (l2 : Int) (l3 : Int), gx_Y gm_SH_boundTo (0, 0) 4 [some (gx_R l0), some (gx_I l1), some (gx_I l2), some (gx_I l3)] [] h (f_SH_boundTo_4 fu h l0 l1 l2 l3) := by
  intro fu
  induction fu with
  | zero => intro h l0 l1 l2 l3; exact gx_none
  | succ fu ih => intro h l0 l1 l2 l3; exact yb_SH_boundTo_4 (f_SH_boundTo_4 fu) ih h l0 l1 l2 l3
def f_SH_boundTo (h : gx_H) (l0 : Nat) (l1 : Int) : Option (Int × gx_H) :=
  f_SH_boundTo_4 gx_fu h l0 l1 0 0
set_option maxHeartbeats 4000000 in
set_option maxRecDepth 100000 in
theorem c_SH_boundTo (h : gx_H) (l0 : Nat) (l1 : Int) : ∀ r h1, f_SH_boundTo h l0 l1 = some (r, h1) → gx_Met gm_SH_boundTo [gx_R l0, gx_I l1] h r h1 := by
  refine gx_enter (l := [some (gx_R l0), some (gx_I l1), none, none]) (by decide) (Nat.le_of_ble_eq_true rfl) rfl ?_
  unfold f_SH_boundTo
  refine gx_iconst (n := 0) (by decide +kernel) ?_
  refine gx_istore_n (i := 2) (l' := [some (gx_R _), some (gx_I _), some (gx_I _), none]) (by decide +kernel) rfl (Nat.le_of_ble_eq_true rfl) (by decide) rfl ?_
  refine gx_iconst (n := 0) (by decide +kernel) ?_
  refine gx_istore_n (i := 3) (l' := [some (gx_R _), some (gx_I _), some (gx_I _), some (gx_I _)]) (by decide +kernel) rfl (Nat.le_of_ble_eq_true rfl) (by decide) rfl ?_
  exact gx_less' (y_SH_boundTo_4 gx_fu _ _ _ _ _) ⟨rfl, rfl, rfl, rfl, trivial⟩
def fb_LE_placeNow_13 (N13 : gx_H → Nat → Int → Int → Int → Option (Int × gx_H)) (h : gx_H) (l0 : Nat) (l1 : Int) (l2 : Int) (l3 : Int) : Option (Int × gx_H) :=
  gq_g (gx_i l3) (gq_g (gx_i l2) (if l3 < l2 then gq_gr h l0 0 12 (fun o6 => gq_gr h l0 0 13 (fun o7 => gq_gr h o7 9 0 (fun o8 => gq_cv h o8 8 (f_SH_code h o8 l3) (fun r9 h10 => gq_ast 0 (gx_i r9) h10 o6 l3 r9 (fun h11 => N13 h11 l0 l1 l2 (l3 + 1)))))) else gq_gr h l0 0 12 (fun o3 => gq_call (f_LE_placeAmong h o3 l2 l1) (fun r4 h5 => some (r4, h5)))))
set_option maxHeartbeats 4000000 in
set_option maxRecDepth 100000 in
theorem yb_LE_placeNow_13 (N13 : gx_H → Nat → Int → Int → Int → Option (Int × gx_H)) (hN13 : ∀ (h : gx_H) (l0 : Nat) (l1 : Int) (l2 : Int) (l3 : Int), gx_Y gm_LE_placeNow (0, 0) 13 [some (gx_R l0), some (gx_I l1), some (gx_I l2), some (gx_I l3)] [] h (N13 h l0 l1 l2 l3)) (h : gx_H) (l0 : Nat) (l1 : Int) (l2 : Int) (l3 : Int) : gx_Y gm_LE_placeNow (0, 0) 13 [some (gx_R l0), some (gx_I l1), some (gx_I l2), some (gx_I l3)] [] h (fb_LE_placeNow_13 N13 h l0 l1 l2 l3) := by
  unfold fb_LE_placeNow_13
  refine gx_iload_n (i := 3) (by decide +kernel) rfl ?_
  refine gx_iload_n (i := 2) (by decide +kernel) rfl ?_
  refine gx_g (fun c1 => ?_)
  refine gx_g (fun c2 => ?_)
  refine gx_icmp_ge (off := 26) (tgt := 41) c1 c2 (by decide +kernel) (by decide) ?_ ?_
  · refine gx_aload_n (i := 0) (by decide +kernel) rfl ?_
    refine gx_getr gk_LE (by decide) fl_LE_84 rfl (by decide +kernel) ?_
    refine gx_iload_n (i := 2) (by decide +kernel) rfl ?_
    refine gx_iload_n (i := 1) (by decide +kernel) rfl ?_
    refine gx_cSi3 (Mc := gm_LE_placeAmong) (u' := (0, 0)) (c_LE_placeAmong _ _ _ _) sk_LE_placeAmong ml_LE_286 rfl rfl ⟨by decide, by decide, by decide, by decide⟩ (Nat.le_of_ble_eq_true rfl) (by decide +kernel) (fun r4 h5 => ?_)
    exact gx_ireturn rfl rfl (by decide +kernel)
  · refine gx_aload_n (i := 0) (by decide +kernel) rfl ?_
    refine gx_getr gk_LE (by decide) fl_LE_84 rfl (by decide +kernel) ?_
    refine gx_iload_n (i := 3) (by decide +kernel) rfl ?_
    refine gx_aload_n (i := 0) (by decide +kernel) rfl ?_
    refine gx_getr gk_LE (by decide) fl_LE_87 rfl (by decide +kernel) ?_
    refine gx_getr gk_ST (by decide) fl_LE_108 rfl (by decide +kernel) ?_
    refine gx_iload_n (i := 3) (by decide +kernel) rfl ?_
    refine gx_cVi1 (Mc := gm_SH_code) (u' := (0, 0)) (c_SH_code _ _ _) vk_SH_code ml_LE_283 rfl rfl ⟨by decide, by decide, by decide, by decide⟩ (Nat.le_of_ble_eq_true rfl) (by decide +kernel) (fun r9 h10 => ?_)
    refine gx_iast (by decide +kernel) ?_
    refine gx_iinc (i := 3) (n := 1) (l' := [some (gx_R _), some (gx_I _), some (gx_I _), some (gx_I _)]) (by decide +kernel) rfl rfl (Nat.le_of_ble_eq_true rfl) (by decide) rfl ?_
    refine gx_goto (off := -25) (tgt := 13) (by decide +kernel) (by decide) ?_
    exact gx_less' (hN13 _ _ _ _ _) ⟨rfl, rfl, rfl, rfl, trivial⟩
def f_LE_placeNow_13 : Nat → gx_H → Nat → Int → Int → Int → Option (Int × gx_H)
  | 0 => fun _ _ _ _ _ => none
  | fu + 1 => fb_LE_placeNow_13 (f_LE_placeNow_13 fu)
theorem y_LE_placeNow_13 : ∀ (fu : Nat) (h : gx_H) (l0 : Nat) (l1 : Int) (l2 : Int) (l3 : Int), gx_Y gm_LE_placeNow (0, 0) 13 [some (gx_R l0), some (gx_I l1), some (gx_I l2), some (gx_I l3)] [] h (f_LE_placeNow_13 fu h l0 l1 l2 l3) := by
  intro fu
  induction fu with
  | zero => intro h l0 l1 l2 l3; exact gx_none
  | succ fu ih => intro h l0 l1 l2 l3; exact yb_LE_placeNow_13 (f_LE_placeNow_13 fu) ih h l0 l1 l2 l3
def f_LE_placeNow (h : gx_H) (l0 : Nat) (l1 : Int) : Option (Int × gx_H) :=
  gq_gr h l0 0 13 (fun o1 => gq_gr h o1 9 0 (fun o2 => gq_get h o2 8 0 (fun v3 => f_LE_placeNow_13 gx_fu h l0 l1 v3 0)))
set_option maxHeartbeats 4000000 in
set_option maxRecDepth 100000 in
theorem c_LE_placeNow (h : gx_H) (l0 : Nat) (l1 : Int) : ∀ r h1, f_LE_placeNow h l0 l1 = some (r, h1) → gx_Met gm_LE_placeNow [gx_R l0, gx_I l1] h r h1 := by
  refine gx_enter (l := [some (gx_R l0), some (gx_I l1), none, none]) (by decide) (Nat.le_of_ble_eq_true rfl) rfl ?_
  unfold f_LE_placeNow
  refine gx_aload_n (i := 0) (by decide +kernel) rfl ?_
  refine gx_getr gk_LE (by decide) fl_LE_87 rfl (by decide +kernel) ?_
  refine gx_getr gk_ST (by decide) fl_LE_108 rfl (by decide +kernel) ?_
  refine gx_geti gk_SH (by decide) fl_LE_137 (Or.inl rfl) (by decide +kernel) (fun c4 => ?_)
  refine gx_istore_n (i := 2) (l' := [some (gx_R _), some (gx_I _), some (gx_I _), none]) (by decide +kernel) rfl (Nat.le_of_ble_eq_true rfl) (by decide) rfl ?_
  refine gx_iconst (n := 0) (by decide +kernel) ?_
  refine gx_istore_n (i := 3) (l' := [some (gx_R _), some (gx_I _), some (gx_I _), some (gx_I _)]) (by decide +kernel) rfl (Nat.le_of_ble_eq_true rfl) (by decide) rfl ?_
  exact gx_less' (y_LE_placeNow_13 gx_fu _ _ _ _ _) ⟨rfl, rfl, rfl, rfl, trivial⟩
def f_FR_becomeOne (h : gx_H) (l0 : Nat) : Option (Int × gx_H) :=
  gq_put True h l0 4 0 1 (fun h1 => gq_put True h1 l0 4 1 1 (fun h2 => some (0, h2)))
set_option maxHeartbeats 4000000 in
set_option maxRecDepth 100000 in
theorem c_FR_becomeOne (h : gx_H) (l0 : Nat) : ∀ r h1, f_FR_becomeOne h l0 = some (r, h1) → gx_Met gm_FR_becomeOne [gx_R l0] h r h1 := by
  refine gx_enter (l := [some (gx_R l0)]) (by decide) (Nat.le_of_ble_eq_true rfl) rfl ?_
  unfold f_FR_becomeOne
  refine gx_aload_n (i := 0) (by decide +kernel) rfl ?_
  refine gx_lconst (n := 1) (a := 1) (by decide +kernel) (by decide) ?_
  refine gx_putlT (by decide) gk_FR (by decide) fl_FR_7 rfl rfl (by decide +kernel) ?_
  refine gx_aload_n (i := 0) (by decide +kernel) rfl ?_
  refine gx_lconst (n := 1) (a := 1) (by decide +kernel) (by decide) ?_
  refine gx_putlT (by decide) gk_FR (by decide) fl_FR_13 rfl rfl (by decide +kernel) ?_
  exact gx_return rfl rfl (by decide +kernel)
def fb_FR_isSmallInLowestTerms_95 (h : gx_H) : Option (Int × gx_H) :=
  some (0, h)
set_option maxHeartbeats 4000000 in
set_option maxRecDepth 100000 in
theorem y_FR_isSmallInLowestTerms_95 (h : gx_H) : gx_Y gm_FR_isSmallInLowestTerms (0, 0) 95 [none, none, none, none, none, none, none, none] [] h (fb_FR_isSmallInLowestTerms_95 h) := by
  unfold fb_FR_isSmallInLowestTerms_95
  refine gx_iconst (n := 0) (by decide +kernel) ?_
  exact gx_zreturn (by decide) rfl rfl (by decide +kernel)
def fb_FR_isSmallInLowestTerms_69 (h : gx_H) (l0 : Nat) : Option (Int × gx_H) :=
  gq_get h l0 4 0 (fun v1 => if 0 < (gq_cmp v1 1000000000) then fb_FR_isSmallInLowestTerms_95 h  else gq_get h l0 4 1 (fun v3 => if 0 < (gq_cmp v3 1000000000) then fb_FR_isSmallInLowestTerms_95 h  else some (1, h)))
set_option maxHeartbeats 4000000 in
set_option maxRecDepth 100000 in
theorem y_FR_isSmallInLowestTerms_69 (h : gx_H) (l0 : Nat) : gx_Y gm_FR_isSmallInLowestTerms (0, 0) 69 [some (gx_R l0), none, none, none, none, none, none, none] [] h (fb_FR_isSmallInLowestTerms_69 h l0) := by
  unfold fb_FR_isSmallInLowestTerms_69
  refine gx_aload_n (i := 0) (by decide +kernel) rfl ?_
  refine gx_getL gk_FR (by decide) fl_FR_7 rfl (by decide +kernel) (fun c2 => ?_)
  refine gx_ldc2 (a := 1000000000) kc_FR_20 (by decide +kernel) ?_
  refine gx_lcmp c2 (by decide) (by decide +kernel) ?_
  refine gx_if_gt (off := 18) (tgt := 95) (gx_cmpI _ _) (by decide +kernel) (by decide) ?_ ?_
  · exact gx_less' (y_FR_isSmallInLowestTerms_95 _) trivial
  · refine gx_aload_n (i := 0) (by decide +kernel) rfl ?_
    refine gx_getL gk_FR (by decide) fl_FR_13 rfl (by decide +kernel) (fun c4 => ?_)
    refine gx_ldc2 (a := 1000000000) kc_FR_20 (by decide +kernel) ?_
    refine gx_lcmp c4 (by decide) (by decide +kernel) ?_
    refine gx_if_gt (off := 7) (tgt := 95) (gx_cmpI _ _) (by decide +kernel) (by decide) ?_ ?_
    · exact gx_less' (y_FR_isSmallInLowestTerms_95 _) trivial
    · refine gx_iconst (n := 1) (by decide +kernel) ?_
      refine gx_goto (off := 4) (tgt := 96) (by decide +kernel) (by decide) ?_
      exact gx_zreturn (by decide) rfl rfl (by decide +kernel)
def fb_FR_isSmallInLowestTerms_43 (h : gx_H) (l0 : Nat) (l1 : Int) : Option (Int × gx_H) :=
  gq_g (gx_l l1) (if 0 < (gq_cmp l1 1) then gq_get h l0 4 0 (fun v2 => gq_g (0 < l1) (gq_put (gx_l (v2.tdiv l1)) h l0 4 0 (v2.tdiv l1) (fun h5 => gq_get h5 l0 4 1 (fun v6 => gq_put (gx_l (v6.tdiv l1)) h5 l0 4 1 (v6.tdiv l1) (fun h8 => fb_FR_isSmallInLowestTerms_69 h8 l0))))) else fb_FR_isSmallInLowestTerms_69 h l0)
set_option maxHeartbeats 4000000 in
set_option maxRecDepth 100000 in
theorem y_FR_isSmallInLowestTerms_43 (h : gx_H) (l0 : Nat) (l1 : Int) : gx_Y gm_FR_isSmallInLowestTerms (0, 0) 43 [some (gx_R l0), some (gx_L l1), none, none, none, none, none, none] [] h (fb_FR_isSmallInLowestTerms_43 h l0 l1) := by
  unfold fb_FR_isSmallInLowestTerms_43
  refine gx_lload_n (i := 1) (by decide +kernel) rfl ?_
  refine gx_lconst (n := 1) (a := 1) (by decide +kernel) (by decide) ?_
  refine gx_g (fun c1 => ?_)
  refine gx_lcmp c1 (by decide) (by decide +kernel) ?_
  refine gx_if_le (off := 23) (tgt := 69) (gx_cmpI _ _) (by decide +kernel) (by decide) ?_ ?_
  · exact gx_less' (y_FR_isSmallInLowestTerms_69 _ _) ⟨rfl, trivial⟩
  · refine gx_aload_n (i := 0) (by decide +kernel) rfl ?_
    refine gx_dup (by decide +kernel) (fun _ => rfl) ?_
    refine gx_getL gk_FR (by decide) fl_FR_7 rfl (by decide +kernel) (fun c3 => ?_)
    refine gx_lload_n (i := 1) (by decide +kernel) rfl ?_
    refine gx_g (fun c4 => ?_)
    refine gx_ldiv c3 c4 c1 (by decide +kernel) ?_
    refine gx_putl gk_FR (by decide) fl_FR_7 rfl rfl (by decide +kernel) ?_
    refine gx_aload_n (i := 0) (by decide +kernel) rfl ?_
    refine gx_dup (by decide +kernel) (fun _ => rfl) ?_
    refine gx_getL gk_FR (by decide) fl_FR_13 rfl (by decide +kernel) (fun c7 => ?_)
    refine gx_lload_n (i := 1) (by decide +kernel) rfl ?_
    refine gx_ldiv c7 c4 c1 (by decide +kernel) ?_
    refine gx_putl gk_FR (by decide) fl_FR_13 rfl rfl (by decide +kernel) ?_
    exact gx_less' (y_FR_isSmallInLowestTerms_69 _ _) ⟨rfl, trivial⟩
def fb_FR_isSmallInLowestTerms_13 (N13 : gx_H → Nat → Int → Int → Int → Option (Int × gx_H)) (h : gx_H) (l0 : Nat) (l1 : Int) (l3 : Int) (l5 : Int) : Option (Int × gx_H) :=
  gq_g (gx_i l5) (if l5 < 200 then gq_g (gx_l l3) (if (gq_cmp l3 0) = 0 then fb_FR_isSmallInLowestTerms_43 h l0 l1 else gq_g (gx_l l1) (gq_g (0 < l3) (N13 h l0 l3 (l1.tmod l3) (l5 + 1)))) else fb_FR_isSmallInLowestTerms_43 h l0 l1)
set_option maxHeartbeats 4000000 in
set_option maxRecDepth 100000 in
theorem yb_FR_isSmallInLowestTerms_13 (N13 : gx_H → Nat → Int → Int → Int → Option (Int × gx_H)) (hN13 : ∀ (h : gx_H) (l0 : Nat) (l1 : Int) (l3 : Int) (l5 : Int), gx_Y gm_FR_isSmallInLowestTerms (0, 0) 13 [some (gx_R l0), some (gx_L l1), none, some (gx_L l3), none, some (gx_I l5), none, none] [] h (N13 h l0 l1 l3 l5)) (h : gx_H) (l0 : Nat) (l1 : Int) (l3 : Int) (l5 : Int) : gx_Y gm_FR_isSmallInLowestTerms (0, 0) 13 [some (gx_R l0), some (gx_L l1), none, some (gx_L l3), none, some (gx_I l5), none, none] [] h (fb_FR_isSmallInLowestTerms_13 N13 h l0 l1 l3 l5) := by
  unfold fb_FR_isSmallInLowestTerms_13
  refine gx_iload (i := 5) (by decide +kernel) rfl ?_
  refine gx_sipush (n := 200) (by decide +kernel) (by decide) ?_
  refine gx_g (fun c1 => ?_)
  refine gx_icmp_ge (off := 25) (tgt := 43) c1 (by decide) (by decide +kernel) (by decide) ?_ ?_
  · exact gx_less' (y_FR_isSmallInLowestTerms_43 _ _ _) ⟨rfl, rfl, trivial⟩
  · refine gx_lload_n (i := 3) (by decide +kernel) rfl ?_
    refine gx_lconst (n := 0) (a := 0) (by decide +kernel) (by decide) ?_
    refine gx_g (fun c2 => ?_)
    refine gx_lcmp c2 (by decide) (by decide +kernel) ?_
    refine gx_if_eq (off := 19) (tgt := 43) (gx_cmpI _ _) (by decide +kernel) (by decide) ?_ ?_
    · exact gx_less' (y_FR_isSmallInLowestTerms_43 _ _ _) ⟨rfl, rfl, trivial⟩
    · refine gx_lload_n (i := 1) (by decide +kernel) rfl ?_
      refine gx_lload_n (i := 3) (by decide +kernel) rfl ?_
      refine gx_g (fun c3 => ?_)
      refine gx_g (fun c4 => ?_)
      refine gx_lrem c3 c4 c2 (by decide +kernel) ?_
      refine gx_lstore (i := 6) (l' := [some (gx_R _), some (gx_L _), none, some (gx_L _), none, some (gx_I _), some (gx_L _), none]) (by decide +kernel) rfl (Nat.le_of_ble_eq_true rfl) (by decide) rfl ?_
      refine gx_lload_n (i := 3) (by decide +kernel) rfl ?_
      refine gx_lstore_n (i := 1) (l' := [some (gx_R _), some (gx_L _), none, some (gx_L _), none, some (gx_I _), some (gx_L _), none]) (by decide +kernel) rfl (Nat.le_of_ble_eq_true rfl) (by decide) rfl ?_
      refine gx_lload (i := 6) (by decide +kernel) rfl ?_
      refine gx_lstore_n (i := 3) (l' := [some (gx_R _), some (gx_L _), none, some (gx_L _), none, some (gx_I _), some (gx_L _), none]) (by decide +kernel) rfl (Nat.le_of_ble_eq_true rfl) (by decide) rfl ?_
      refine gx_iinc (i := 5) (n := 1) (l' := [some (gx_R _), some (gx_L _), none, some (gx_L _), none, some (gx_I _), some (gx_L _), none]) (by decide +kernel) rfl rfl (Nat.le_of_ble_eq_true rfl) (by decide) rfl ?_
      refine gx_goto (off := -27) (tgt := 13) (by decide +kernel) (by decide) ?_
      exact gx_less' (hN13 _ _ _ _ _) ⟨rfl, rfl, rfl, rfl, trivial⟩
def f_FR_isSmallInLowestTerms_13 : Nat → gx_H → Nat → Int → Int → Int → Option (Int × gx_H)
  | 0 => fun _ _ _ _ _ => none
  | fu + 1 => fb_FR_isSmallInLowestTerms_13 (f_FR_isSmallInLowestTerms_13 fu)
theorem y_FR_isSmallInLowestTerms_13 : ∀ (fu : Nat) (h : gx_H) (l0 : Nat) (l1 : Int) (l3 : Int) (l5 : Int), gx_Y gm_FR_isSmallInLowestTerms (0, 0) 13 [some (gx_R l0), some (gx_L l1), none, some (gx_L l3), none, some (gx_I l5), none, none] [] h (f_FR_isSmallInLowestTerms_13 fu h l0 l1 l3 l5) := by
  intro fu
  induction fu with
  | zero => intro h l0 l1 l3 l5; exact gx_none
  | succ fu ih => intro h l0 l1 l3 l5; exact yb_FR_isSmallInLowestTerms_13 (f_FR_isSmallInLowestTerms_13 fu) ih h l0 l1 l3 l5
def f_FR_isSmallInLowestTerms (h : gx_H) (l0 : Nat) : Option (Int × gx_H) :=
  gq_get h l0 4 0 (fun v1 => gq_get h l0 4 1 (fun v3 => f_FR_isSmallInLowestTerms_13 gx_fu h l0 v1 v3 0))
set_option maxHeartbeats 4000000 in
set_option maxRecDepth 100000 in
theorem c_FR_isSmallInLowestTerms (h : gx_H) (l0 : Nat) : ∀ r h1, f_FR_isSmallInLowestTerms h l0 = some (r, h1) → gx_Met gm_FR_isSmallInLowestTerms [gx_R l0] h r h1 := by
  refine gx_enter (l := [some (gx_R l0), none, none, none, none, none, none, none]) (by decide) (Nat.le_of_ble_eq_true rfl) rfl ?_
  unfold f_FR_isSmallInLowestTerms
  refine gx_aload_n (i := 0) (by decide +kernel) rfl ?_
  refine gx_getL gk_FR (by decide) fl_FR_7 rfl (by decide +kernel) (fun c2 => ?_)
  refine gx_lstore_n (i := 1) (l' := [some (gx_R _), some (gx_L _), none, none, none, none, none, none]) (by decide +kernel) rfl (Nat.le_of_ble_eq_true rfl) (by decide) rfl ?_
  refine gx_aload_n (i := 0) (by decide +kernel) rfl ?_
  refine gx_getL gk_FR (by decide) fl_FR_13 rfl (by decide +kernel) (fun c4 => ?_)
  refine gx_lstore_n (i := 3) (l' := [some (gx_R _), some (gx_L _), none, some (gx_L _), none, none, none, none]) (by decide +kernel) rfl (Nat.le_of_ble_eq_true rfl) (by decide) rfl ?_
  refine gx_iconst (n := 0) (by decide +kernel) ?_
  refine gx_istore (i := 5) (l' := [some (gx_R _), some (gx_L _), none, some (gx_L _), none, some (gx_I _), none, none]) (by decide +kernel) rfl (Nat.le_of_ble_eq_true rfl) (by decide) rfl ?_
  exact gx_less' (y_FR_isSmallInLowestTerms_13 gx_fu _ _ _ _ _) ⟨rfl, rfl, rfl, rfl, trivial⟩
