def f_LE_start (h : gx_H) (l0 : Nat) : Option (Int × gx_H) :=
  gq_gr h l0 0 13 (fun o1 => gq_get h o1 9 5 (fun v2 => gq_gr h l0 0 3 (fun o4 => gq_gr h l0 0 13 (fun o5 => gq_cv h o4 6 (f_HI_remember h o4 o5) (fun r6 h7 => gq_gr h7 l0 0 13 (fun o8 => gq_gr h7 l0 0 8 (fun o9 => gq_cv h7 o8 9 (f_ST_copyFrom h7 o8 o9) (fun r10 h11 => gq_put True h11 l0 0 17 1 (fun h12 => some (v2, h12))))))))))
set_option maxHeartbeats 4000000 in
set_option maxRecDepth 100000 in
theorem c_LE_start (h : gx_H) (l0 : Nat) : ∀ r h1, f_LE_start h l0 = some (r, h1) → gx_Met gm_LE_start [gx_R l0] h r h1 := by
  refine gx_enter (l := [some (gx_R l0), none]) (by decide) (Nat.le_of_ble_eq_true rfl) rfl ?_
  unfold f_LE_start
  refine gx_aload_n (i := 0) (by decide +kernel) rfl ?_
  refine gx_getr gk_LE (by decide) fl_LE_87 rfl (by decide +kernel) ?_
  refine gx_geti gk_ST (by decide) fl_LE_146 (Or.inl rfl) (by decide +kernel) (fun c3 => ?_)
  refine gx_istore_n (i := 1) (l' := [some (gx_R _), some (gx_I _)]) (by decide +kernel) rfl (Nat.le_of_ble_eq_true rfl) (by decide) rfl ?_
  refine gx_aload_n (i := 0) (by decide +kernel) rfl ?_
  refine gx_getr gk_LE (by decide) fl_LE_33 rfl (by decide +kernel) ?_
  refine gx_aload_n (i := 0) (by decide +kernel) rfl ?_
  refine gx_getr gk_LE (by decide) fl_LE_87 rfl (by decide +kernel) ?_
  refine gx_cVv1 (Mc := gm_HI_remember) (u' := (0, 0)) (c_HI_remember _ _ _) vk_HI_remember ml_LE_212 rfl rfl ⟨by decide, by decide, by decide, by decide⟩ (Nat.le_of_ble_eq_true rfl) (by decide +kernel) (fun r6 h7 => ?_)
  refine gx_aload_n (i := 0) (by decide +kernel) rfl ?_
  refine gx_getr gk_LE (by decide) fl_LE_87 rfl (by decide +kernel) ?_
  refine gx_aload_n (i := 0) (by decide +kernel) rfl ?_
  refine gx_getr gk_LE (by decide) fl_LE_68 rfl (by decide +kernel) ?_
  refine gx_cVv1 (Mc := gm_ST_copyFrom) (u' := (0, 0)) (c_ST_copyFrom _ _ _) vk_ST_copyFrom ml_LE_219 rfl rfl ⟨by decide, by decide, by decide, by decide⟩ (Nat.le_of_ble_eq_true rfl) (by decide +kernel) (fun r10 h11 => ?_)
  refine gx_aload_n (i := 0) (by decide +kernel) rfl ?_
  refine gx_iconst (n := 1) (by decide +kernel) ?_
  refine gx_putzT (by decide) gk_LE (by decide) fl_LE_101 rfl rfl (by decide +kernel) ?_
  refine gx_iload_n (i := 1) (by decide +kernel) rfl ?_
  exact gx_ireturn rfl rfl (by decide +kernel)
def f_LE_draw (h : gx_H) (l0 : Nat) (l1 : Int) : Option (Int × gx_H) :=
  gq_get h l0 0 15 (fun v1 => gq_put (gx_i (gq_land ((v1 * 1103515245) + 12345) 2147483647)) h l0 0 15 (gq_land ((v1 * 1103515245) + 12345) 2147483647) (fun h3 => gq_g (gx_i l1) (if 0 < l1 then gq_get h3 l0 0 15 (fun v5 => gq_g (gx_i (v5.tdiv 65536)) (gq_g (0 < l1) (some (((v5.tdiv 65536).tmod l1), h3)))) else some (0, h3))))
set_option maxHeartbeats 4000000 in
set_option maxRecDepth 100000 in
theorem c_LE_draw (h : gx_H) (l0 : Nat) (l1 : Int) : ∀ r h1, f_LE_draw h l0 l1 = some (r, h1) → gx_Met gm_LE_draw [gx_R l0, gx_I l1] h r h1 := by
  refine gx_enter (l := [some (gx_R l0), some (gx_I l1)]) (by decide) (Nat.le_of_ble_eq_true rfl) rfl ?_
  unfold f_LE_draw
  refine gx_aload_n (i := 0) (by decide +kernel) rfl ?_
  refine gx_aload_n (i := 0) (by decide +kernel) rfl ?_
  refine gx_geti gk_LE (by decide) fl_LE_93 (Or.inl rfl) (by decide +kernel) (fun c2 => ?_)
  refine gx_i2l c2 (by decide +kernel) ?_
  refine gx_ldc2 (a := 1103515245) kc_LE_290 (by decide +kernel) ?_
  refine gx_lmul (by decide +kernel) ?_
  refine gx_ldc2 (a := 12345) kc_LE_292 (by decide +kernel) ?_
  refine gx_ladd (by decide +kernel) ?_
  refine gx_ldc2 (a := 2147483647) kc_LE_294 (by decide +kernel) ?_
  refine gx_land (by decide +kernel) ?_
  refine gx_l2i (by decide +kernel) ?_
  refine gx_puti gk_LE (by decide) fl_LE_93 rfl rfl (by decide +kernel) ?_
  refine gx_iload_n (i := 1) (by decide +kernel) rfl ?_
  refine gx_g (fun c4 => ?_)
  refine gx_if_le (off := 16) (tgt := 39) c4 (by decide +kernel) (by decide) ?_ ?_
  · refine gx_iconst (n := 0) (by decide +kernel) ?_
    exact gx_ireturn rfl rfl (by decide +kernel)
  · refine gx_aload_n (i := 0) (by decide +kernel) rfl ?_
    refine gx_geti gk_LE (by decide) fl_LE_93 (Or.inl rfl) (by decide +kernel) (fun c6 => ?_)
    refine gx_ldcw (a := 65536) kc_LE_296 (by decide +kernel) ?_
    refine gx_idiv c6 (by decide) (by decide) (by decide +kernel) ?_
    refine gx_iload_n (i := 1) (by decide +kernel) rfl ?_
    refine gx_g (fun c7 => ?_)
    refine gx_g (fun c8 => ?_)
    refine gx_irem c7 c8 c4 (by decide +kernel) ?_
    refine gx_goto (off := 4) (tgt := 40) (by decide +kernel) (by decide) ?_
    exact gx_ireturn rfl rfl (by decide +kernel)
def fb_LE_drift_59 (N16 : gx_H → Nat → Int → Int → Option (Int × gx_H)) (h : gx_H) (l0 : Nat) (l1 : Int) (l2 : Int) : Option (Int × gx_H) :=
  N16 h l0 l1 (l2 + 1)
set_option maxHeartbeats 4000000 in
set_option maxRecDepth 100000 in
theorem y_LE_drift_59 (N16 : gx_H → Nat → Int → Int → Option (Int × gx_H)) (hN16 : ∀ (h : gx_H) (l0 : Nat) (l1 : Int) (l2 : Int), gx_Y gm_LE_drift (0, 0) 16 [some (gx_R l0), some (gx_I l1), some (gx_I l2), none] [] h (N16 h l0 l1 l2)) (h : gx_H) (l0 : Nat) (l1 : Int) (l2 : Int) : gx_Y gm_LE_drift (0, 0) 59 [some (gx_R l0), some (gx_I l1), some (gx_I l2), none] [] h (fb_LE_drift_59 N16 h l0 l1 l2) := by
  unfold fb_LE_drift_59
  refine gx_iinc (i := 2) (n := 1) (l' := [some (gx_R _), some (gx_I _), some (gx_I _), none]) (by decide +kernel) rfl rfl (Nat.le_of_ble_eq_true rfl) (by decide) rfl ?_
  refine gx_goto (off := -46) (tgt := 16) (by decide +kernel) (by decide) ?_
  exact gx_less' (hN16 _ _ _ _) ⟨rfl, rfl, rfl, trivial⟩
def fb_LE_drift_16 (N16 : gx_H → Nat → Int → Int → Option (Int × gx_H)) (h : gx_H) (l0 : Nat) (l1 : Int) (l2 : Int) : Option (Int × gx_H) :=
  gq_g (gx_i l2) (gq_g (gx_i l1) (if l2 < l1 then gq_gr h l0 0 13 (fun o6 => gq_gr h o6 9 0 (fun o7 => gq_get h o7 8 0 (fun v8 => gq_cv h l0 0 (f_LE_draw h l0 v8) (fun r10 h11 => gq_gr h11 l0 0 3 (fun o12 => gq_gr h11 l0 0 13 (fun o13 => gq_cv h11 o12 6 (f_HI_remember h11 o12 o13) (fun r14 h15 => gq_cv h15 l0 0 (f_LE_exchangesIntoSpare h15 l0 r10) (fun r16 h17 => gq_g (gx_i r16) (if r16 = 0 then fb_LE_drift_59 N16 h17 l0 l1 l2 else gq_cv h17 l0 0 (f_LE_takeSpare h17 l0) (fun r19 h20 => fb_LE_drift_59 N16 h20 l0 l1 l2)))))))))) else gq_gr h l0 0 13 (fun o3 => gq_get h o3 9 5 (fun v4 => some (v4, h)))))
set_option maxHeartbeats 4000000 in
set_option maxRecDepth 100000 in
theorem yb_LE_drift_16 (N16 : gx_H → Nat → Int → Int → Option (Int × gx_H)) (hN16 : ∀ (h : gx_H) (l0 : Nat) (l1 : Int) (l2 : Int), gx_Y gm_LE_drift (0, 0) 16 [some (gx_R l0), some (gx_I l1), some (gx_I l2), none] [] h (N16 h l0 l1 l2)) (h : gx_H) (l0 : Nat) (l1 : Int) (l2 : Int) : gx_Y gm_LE_drift (0, 0) 16 [some (gx_R l0), some (gx_I l1), some (gx_I l2), none] [] h (fb_LE_drift_16 N16 h l0 l1 l2) := by
  unfold fb_LE_drift_16
  refine gx_iload_n (i := 2) (by decide +kernel) rfl ?_
  refine gx_iload_n (i := 1) (by decide +kernel) rfl ?_
  refine gx_g (fun c1 => ?_)
  refine gx_g (fun c2 => ?_)
  refine gx_icmp_ge (off := 47) (tgt := 65) c1 c2 (by decide +kernel) (by decide) ?_ ?_
  · refine gx_aload_n (i := 0) (by decide +kernel) rfl ?_
    refine gx_getr gk_LE (by decide) fl_LE_87 rfl (by decide +kernel) ?_
    refine gx_geti gk_ST (by decide) fl_LE_146 (Or.inl rfl) (by decide +kernel) (fun c5 => ?_)
    exact gx_ireturn rfl rfl (by decide +kernel)
  · refine gx_aload_n (i := 0) (by decide +kernel) rfl ?_
    refine gx_aload_n (i := 0) (by decide +kernel) rfl ?_
    refine gx_getr gk_LE (by decide) fl_LE_87 rfl (by decide +kernel) ?_
    refine gx_getr gk_ST (by decide) fl_LE_108 rfl (by decide +kernel) ?_
    refine gx_geti gk_SH (by decide) fl_LE_137 (Or.inl rfl) (by decide +kernel) (fun c9 => ?_)
    refine gx_cVi1 (Mc := gm_LE_draw) (u' := (0, 0)) (c_LE_draw _ _ _) vk_LE_draw ml_LE_222 rfl rfl ⟨by decide, by decide, by decide, by decide⟩ (Nat.le_of_ble_eq_true rfl) (by decide +kernel) (fun r10 h11 => ?_)
    refine gx_istore_n (i := 3) (l' := [some (gx_R _), some (gx_I _), some (gx_I _), some (gx_I _)]) (by decide +kernel) rfl (Nat.le_of_ble_eq_true rfl) (by decide) rfl ?_
    refine gx_aload_n (i := 0) (by decide +kernel) rfl ?_
    refine gx_getr gk_LE (by decide) fl_LE_33 rfl (by decide +kernel) ?_
    refine gx_aload_n (i := 0) (by decide +kernel) rfl ?_
    refine gx_getr gk_LE (by decide) fl_LE_87 rfl (by decide +kernel) ?_
    refine gx_cVv1 (Mc := gm_HI_remember) (u' := (0, 0)) (c_HI_remember _ _ _) vk_HI_remember ml_LE_212 rfl rfl ⟨by decide, by decide, by decide, by decide⟩ (Nat.le_of_ble_eq_true rfl) (by decide +kernel) (fun r14 h15 => ?_)
    refine gx_aload_n (i := 0) (by decide +kernel) rfl ?_
    refine gx_iload_n (i := 3) (by decide +kernel) rfl ?_
    refine gx_cVi1 (Mc := gm_LE_exchangesIntoSpare) (u' := (0, 0)) (c_LE_exchangesIntoSpare _ _ _) vk_LE_exchangesIntoSpare ml_LE_196 rfl rfl ⟨by decide, by decide, by decide, by decide⟩ (Nat.le_of_ble_eq_true rfl) (by decide +kernel) (fun r16 h17 => ?_)
    refine gx_g (fun c18 => ?_)
    refine gx_if_eq (off := 7) (tgt := 59) c18 (by decide +kernel) (by decide) ?_ ?_
    · exact gx_less' (y_LE_drift_59 _ hN16 _ _ _ _) ⟨rfl, rfl, rfl, trivial⟩
    · refine gx_aload_n (i := 0) (by decide +kernel) rfl ?_
      refine gx_cVv0 (Mc := gm_LE_takeSpare) (u' := (0, 0)) (c_LE_takeSpare _ _) vk_LE_takeSpare ml_LE_216 rfl rfl ⟨by decide, by decide, by decide, by decide⟩ (Nat.le_of_ble_eq_true rfl) (by decide +kernel) (fun r19 h20 => ?_)
      exact gx_less' (y_LE_drift_59 _ hN16 _ _ _ _) ⟨rfl, rfl, rfl, trivial⟩
def f_LE_drift_16 : Nat → gx_H → Nat → Int → Int → Option (Int × gx_H)
  | 0 => fun _ _ _ _ => none
  | fu + 1 => fb_LE_drift_16 (f_LE_drift_16 fu)
theorem y_LE_drift_16 : ∀ (fu : Nat) (h : gx_H) (l0 : Nat) (l1 : Int) (l2 : Int), gx_Y gm_LE_drift (0, 0) 16 [some (gx_R l0), some (gx_I l1), some (gx_I l2), none] [] h (f_LE_drift_16 fu h l0 l1 l2) := by
  intro fu
  induction fu with
  | zero => intro h l0 l1 l2; exact gx_none
  | succ fu ih => intro h l0 l1 l2; exact yb_LE_drift_16 (f_LE_drift_16 fu) ih h l0 l1 l2
def f_LE_drift (h : gx_H) (l0 : Nat) (l1 : Int) : Option (Int × gx_H) :=
  gq_g (gx_i l1) (if l1 < 1 then some ((-1000000002), h) else if 20 < l1 then some ((-1000000002), h) else f_LE_drift_16 gx_fu h l0 l1 0)
set_option maxHeartbeats 4000000 in
set_option maxRecDepth 100000 in
theorem c_LE_drift (h : gx_H) (l0 : Nat) (l1 : Int) : ∀ r h1, f_LE_drift h l0 l1 = some (r, h1) → gx_Met gm_LE_drift [gx_R l0, gx_I l1] h r h1 := by
  refine gx_enter (l := [some (gx_R l0), some (gx_I l1), none, none]) (by decide) (Nat.le_of_ble_eq_true rfl) rfl ?_
  unfold f_LE_drift
  refine gx_iload_n (i := 1) (by decide +kernel) rfl ?_
  refine gx_iconst (n := 1) (by decide +kernel) ?_
  refine gx_g (fun c1 => ?_)
  refine gx_icmp_lt (off := 9) (tgt := 11) c1 (by decide) (by decide +kernel) (by decide) ?_ ?_
  · refine gx_ldc (a := (-1000000002)) kc_LE_121 (by decide +kernel) ?_
    exact gx_ireturn rfl rfl (by decide +kernel)
  · refine gx_iload_n (i := 1) (by decide +kernel) rfl ?_
    refine gx_bipush (n := 20) (by decide +kernel) (by decide) ?_
    refine gx_icmp_le (off := 6) (tgt := 14) c1 (by decide) (by decide +kernel) (by decide) ?_ ?_
    · refine gx_iconst (n := 0) (by decide +kernel) ?_
      refine gx_istore_n (i := 2) (l' := [some (gx_R _), some (gx_I _), some (gx_I _), none]) (by decide +kernel) rfl (Nat.le_of_ble_eq_true rfl) (by decide) rfl ?_
      exact gx_less' (y_LE_drift_16 gx_fu _ _ _ _) ⟨rfl, rfl, rfl, trivial⟩
    · refine gx_ldc (a := (-1000000002)) kc_LE_121 (by decide +kernel) ?_
      exact gx_ireturn rfl rfl (by decide +kernel)
def f_HI_takeBack (h : gx_H) (l0 : Nat) (l1 : Int) (l2 : Nat) : Option (Int × gx_H) :=
  gq_g (gx_i l1) (if l1 < 1 then some (0, h) else gq_get h l0 6 2 (fun v2 => if v2 < l1 then some (0, h) else gq_get h l0 6 2 (fun v4 => gq_put (gx_i (v4 - l1)) h l0 6 2 (v4 - l1) (fun h6 => gq_gr h6 l0 6 0 (fun o7 => gq_get h6 l0 6 1 (fun v8 => gq_get h6 l0 6 2 (fun v10 => gq_g (gx_i (v8 + v10)) (gq_rld h6 o7 ((v8 + v10).tmod 20) (fun o13 => gq_cv h6 l2 9 (f_ST_copyFrom h6 l2 o13) (fun r14 h15 => some (0, h15)))))))))))
set_option maxHeartbeats 4000000 in
set_option maxRecDepth 100000 in
theorem c_HI_takeBack (h : gx_H) (l0 : Nat) (l1 : Int) (l2 : Nat) : ∀ r h1, f_HI_takeBack h l0 l1 l2 = some (r, h1) → gx_Met gm_HI_takeBack [gx_R l0, gx_I l1, gx_R l2] h r h1 := by
  refine gx_enter (l := [some (gx_R l0), some (gx_I l1), some (gx_R l2)]) (by decide) (Nat.le_of_ble_eq_true rfl) rfl ?_
  unfold f_HI_takeBack
  refine gx_iload_n (i := 1) (by decide +kernel) rfl ?_
  refine gx_iconst (n := 1) (by decide +kernel) ?_
  refine gx_g (fun c1 => ?_)
  refine gx_icmp_lt (off := 11) (tgt := 13) c1 (by decide) (by decide +kernel) (by decide) ?_ ?_
  · exact gx_return rfl rfl (by decide +kernel)
  · refine gx_iload_n (i := 1) (by decide +kernel) rfl ?_
    refine gx_aload_n (i := 0) (by decide +kernel) rfl ?_
    refine gx_geti gk_HI (by decide) fl_HI_21 (Or.inl rfl) (by decide +kernel) (fun c3 => ?_)
    refine gx_icmp_le (off := 4) (tgt := 14) c1 c3 (by decide +kernel) (by decide) ?_ ?_
    · refine gx_aload_n (i := 0) (by decide +kernel) rfl ?_
      refine gx_dup (by decide +kernel) (fun _ => rfl) ?_
      refine gx_geti gk_HI (by decide) fl_HI_21 (Or.inl rfl) (by decide +kernel) (fun c5 => ?_)
      refine gx_iload_n (i := 1) (by decide +kernel) rfl ?_
      refine gx_isub (by decide +kernel) ?_
      refine gx_puti gk_HI (by decide) fl_HI_21 rfl rfl (by decide +kernel) ?_
      refine gx_aload_n (i := 2) (by decide +kernel) rfl ?_
      refine gx_aload_n (i := 0) (by decide +kernel) rfl ?_
      refine gx_getr gk_HI (by decide) fl_HI_11 rfl (by decide +kernel) ?_
      refine gx_aload_n (i := 0) (by decide +kernel) rfl ?_
      refine gx_geti gk_HI (by decide) fl_HI_17 (Or.inl rfl) (by decide +kernel) (fun c9 => ?_)
      refine gx_aload_n (i := 0) (by decide +kernel) rfl ?_
      refine gx_geti gk_HI (by decide) fl_HI_21 (Or.inl rfl) (by decide +kernel) (fun c11 => ?_)
      refine gx_iadd (by decide +kernel) ?_
      refine gx_bipush (n := 20) (by decide +kernel) (by decide) ?_
      refine gx_g (fun c12 => ?_)
      refine gx_irem c12 (by decide) (by decide) (by decide +kernel) ?_
      refine gx_aald (by decide +kernel) ?_
      refine gx_cVv1 (Mc := gm_ST_copyFrom) (u' := (0, 0)) (c_ST_copyFrom _ _ _) vk_ST_copyFrom ml_HI_25 rfl rfl ⟨by decide, by decide, by decide, by decide⟩ (Nat.le_of_ble_eq_true rfl) (by decide +kernel) (fun r14 h15 => ?_)
      exact gx_return rfl rfl (by decide +kernel)
    · exact gx_return rfl rfl (by decide +kernel)
def f_LE_undo (h : gx_H) (l0 : Nat) (l1 : Int) : Option (Int × gx_H) :=
  gq_g (gx_i l1) (if l1 < 1 then some ((-1000000002), h) else if 20 < l1 then some ((-1000000002), h) else gq_gr h l0 0 3 (fun o2 => gq_get h o2 6 2 (fun v3 => if v3 < l1 then some ((-1000000003), h) else gq_gr h l0 0 3 (fun o5 => gq_gr h l0 0 13 (fun o6 => gq_cv h o5 6 (f_HI_takeBack h o5 l1 o6) (fun r7 h8 => gq_put True h8 l0 0 17 1 (fun h9 => gq_gr h9 l0 0 13 (fun o10 => gq_get h9 o10 9 5 (fun v11 => some (v11, h9))))))))))
set_option maxHeartbeats 4000000 in
set_option maxRecDepth 100000 in
theorem c_LE_undo (h : gx_H) (l0 : Nat) (l1 : Int) : ∀ r h1, f_LE_undo h l0 l1 = some (r, h1) → gx_Met gm_LE_undo [gx_R l0, gx_I l1] h r h1 := by
  refine gx_enter (l := [some (gx_R l0), some (gx_I l1)]) (by decide) (Nat.le_of_ble_eq_true rfl) rfl ?_
  unfold f_LE_undo
  refine gx_iload_n (i := 1) (by decide +kernel) rfl ?_
  refine gx_iconst (n := 1) (by decide +kernel) ?_
  refine gx_g (fun c1 => ?_)
  refine gx_icmp_lt (off := 9) (tgt := 11) c1 (by decide) (by decide +kernel) (by decide) ?_ ?_
  · refine gx_ldc (a := (-1000000002)) kc_LE_121 (by decide +kernel) ?_
    exact gx_ireturn rfl rfl (by decide +kernel)
  · refine gx_iload_n (i := 1) (by decide +kernel) rfl ?_
    refine gx_bipush (n := 20) (by decide +kernel) (by decide) ?_
    refine gx_icmp_le (off := 6) (tgt := 14) c1 (by decide) (by decide +kernel) (by decide) ?_ ?_
    · refine gx_iload_n (i := 1) (by decide +kernel) rfl ?_
      refine gx_aload_n (i := 0) (by decide +kernel) rfl ?_
      refine gx_getr gk_LE (by decide) fl_LE_33 rfl (by decide +kernel) ?_
      refine gx_geti gk_HI (by decide) fl_LE_168 (Or.inl rfl) (by decide +kernel) (fun c4 => ?_)
      refine gx_icmp_le (off := 6) (tgt := 28) c1 c4 (by decide +kernel) (by decide) ?_ ?_
      · refine gx_aload_n (i := 0) (by decide +kernel) rfl ?_
        refine gx_getr gk_LE (by decide) fl_LE_33 rfl (by decide +kernel) ?_
        refine gx_iload_n (i := 1) (by decide +kernel) rfl ?_
        refine gx_aload_n (i := 0) (by decide +kernel) rfl ?_
        refine gx_getr gk_LE (by decide) fl_LE_87 rfl (by decide +kernel) ?_
        refine gx_cVv2 (Mc := gm_HI_takeBack) (u' := (0, 0)) (c_HI_takeBack _ _ _ _) vk_HI_takeBack ml_LE_225 rfl rfl ⟨by decide, by decide, by decide, by decide⟩ (Nat.le_of_ble_eq_true rfl) (by decide +kernel) (fun r7 h8 => ?_)
        refine gx_aload_n (i := 0) (by decide +kernel) rfl ?_
        refine gx_iconst (n := 1) (by decide +kernel) ?_
        refine gx_putzT (by decide) gk_LE (by decide) fl_LE_101 rfl rfl (by decide +kernel) ?_
        refine gx_aload_n (i := 0) (by decide +kernel) rfl ?_
        refine gx_getr gk_LE (by decide) fl_LE_87 rfl (by decide +kernel) ?_
        refine gx_geti gk_ST (by decide) fl_LE_146 (Or.inl rfl) (by decide +kernel) (fun c12 => ?_)
        exact gx_ireturn rfl rfl (by decide +kernel)
      · refine gx_ldc (a := (-1000000003)) kc_LE_211 (by decide +kernel) ?_
        exact gx_ireturn rfl rfl (by decide +kernel)
    · refine gx_ldc (a := (-1000000002)) kc_LE_121 (by decide +kernel) ?_
      exact gx_ireturn rfl rfl (by decide +kernel)
def fb_WA_lacks_12 (h : gx_H) : Option (Int × gx_H) :=
  some (1, h)
set_option maxHeartbeats 4000000 in
set_option maxRecDepth 100000 in
theorem y_WA_lacks_12 (h : gx_H) : gx_Y gm_WA_lacks (0, 0) 12 [none, none] [] h (fb_WA_lacks_12 h) := by
  unfold fb_WA_lacks_12
  refine gx_iconst (n := 1) (by decide +kernel) ?_
  refine gx_goto (off := 4) (tgt := 17) (by decide +kernel) (by decide) ?_
  exact gx_zreturn (by decide) rfl rfl (by decide +kernel)
def f_WA_lacks (h : gx_H) (l0 : Nat) (l1 : Int) : Option (Int × gx_H) :=
  gq_g (gx_i l1) (if l1 < 0 then fb_WA_lacks_12 h  else gq_get h l0 12 0 (fun v2 => if l1 < v2 then some (0, h) else fb_WA_lacks_12 h ))
set_option maxHeartbeats 4000000 in
set_option maxRecDepth 100000 in
theorem c_WA_lacks (h : gx_H) (l0 : Nat) (l1 : Int) : ∀ r h1, f_WA_lacks h l0 l1 = some (r, h1) → gx_Met gm_WA_lacks [gx_R l0, gx_I l1] h r h1 := by
  refine gx_enter (l := [some (gx_R l0), some (gx_I l1)]) (by decide) (Nat.le_of_ble_eq_true rfl) rfl ?_
  unfold f_WA_lacks
  refine gx_iload_n (i := 1) (by decide +kernel) rfl ?_
  refine gx_g (fun c1 => ?_)
  refine gx_if_lt (off := 11) (tgt := 12) c1 (by decide +kernel) (by decide) ?_ ?_
  · exact gx_less' (y_WA_lacks_12 _) trivial
  · refine gx_iload_n (i := 1) (by decide +kernel) rfl ?_
    refine gx_aload_n (i := 0) (by decide +kernel) rfl ?_
    refine gx_geti gk_WA (by decide) fl_WA_9 (Or.inl rfl) (by decide +kernel) (fun c3 => ?_)
    refine gx_icmp_lt (off := 7) (tgt := 16) c1 c3 (by decide +kernel) (by decide) ?_ ?_
    · refine gx_iconst (n := 0) (by decide +kernel) ?_
      exact gx_zreturn (by decide) rfl rfl (by decide +kernel)
    · exact gx_less' (y_WA_lacks_12 _) trivial
def f_LE_stand (h : gx_H) (l0 : Nat) (l1 : Int) (l2 : Int) : Option (Int × gx_H) :=
  gq_cv h l0 0 (f_LE_isOpen h l0) (fun r1 h2 => gq_g (gx_i r1) (if r1 = 0 then gq_gr h2 l0 0 6 (fun o4 => gq_cv h2 o4 12 (f_WA_lacks h2 o4 l1) (fun r5 h6 => gq_g (gx_i r5) (if r5 = 0 then gq_g (gx_i l2) (if l2 = 0 then gq_gr h6 l0 0 6 (fun o10 => gq_gr h6 o10 12 3 (fun o11 => gq_ald 0 h6 o11 l1 (fun v12 => some (v12, h6)))) else if l2 = 1 then gq_gr h6 l0 0 6 (fun o15 => gq_gr h6 o15 12 4 (fun o16 => gq_ald 0 h6 o16 l1 (fun v17 => some (v17, h6)))) else if l2 = 2 then gq_gr h6 l0 0 6 (fun o20 => gq_gr h6 o20 12 5 (fun o21 => gq_ald 0 h6 o21 l1 (fun v22 => some (v22, h6)))) else some ((-1000000002), h6)) else some ((-1000000001), h6)))) else some ((-1000000001), h2)))
set_option maxHeartbeats 4000000 in
set_option maxRecDepth 100000 in
theorem c_LE_stand (h : gx_H) (l0 : Nat) (l1 : Int) (l2 : Int) : ∀ r h1, f_LE_stand h l0 l1 l2 = some (r, h1) → gx_Met gm_LE_stand [gx_R l0, gx_I l1, gx_I l2] h r h1 := by
  refine gx_enter (l := [some (gx_R l0), some (gx_I l1), some (gx_I l2)]) (by decide) (Nat.le_of_ble_eq_true rfl) rfl ?_
  unfold f_LE_stand
  refine gx_aload_n (i := 0) (by decide +kernel) rfl ?_
  refine gx_cVi0 (Mc := gm_LE_isOpen) (u' := (0, 0)) (c_LE_isOpen _ _) vk_LE_isOpen ml_LE_149 rfl rfl ⟨by decide, by decide, by decide, by decide⟩ (Nat.le_of_ble_eq_true rfl) (by decide +kernel) (fun r1 h2 => ?_)
  refine gx_g (fun c3 => ?_)
  refine gx_if_ne (off := 14) (tgt := 18) c3 (by decide +kernel) (by decide) ?_ ?_
  · refine gx_ldc (a := (-1000000001)) kc_LE_172 (by decide +kernel) ?_
    exact gx_ireturn rfl rfl (by decide +kernel)
  · refine gx_aload_n (i := 0) (by decide +kernel) rfl ?_
    refine gx_getr gk_LE (by decide) fl_LE_54 rfl (by decide +kernel) ?_
    refine gx_iload_n (i := 1) (by decide +kernel) rfl ?_
    refine gx_cVi1 (Mc := gm_WA_lacks) (u' := (0, 0)) (c_WA_lacks _ _ _) vk_WA_lacks ml_LE_229 rfl rfl ⟨by decide, by decide, by decide, by decide⟩ (Nat.le_of_ble_eq_true rfl) (by decide +kernel) (fun r5 h6 => ?_)
    refine gx_g (fun c7 => ?_)
    refine gx_if_eq (off := 6) (tgt := 21) c7 (by decide +kernel) (by decide) ?_ ?_
    · refine gx_iload_n (i := 2) (by decide +kernel) rfl ?_
      refine gx_g (fun c8 => ?_)
      refine gx_ite (fun c9 => ?_) (fun c9 => ?_)
      · refine gx_swIn (dflt := 56) (lo := 0) (hi := 2) (offs := #[26, 36, 46]) (len := 26) (off := 26) (tgt := 48) c8 (by decide +kernel) (by rw [c9]; decide) (by rw [c9]; decide) (by rw [c9]; decide) (by decide) ?_
        refine gx_aload_n (i := 0) (by decide +kernel) rfl ?_
        refine gx_getr gk_LE (by decide) fl_LE_54 rfl (by decide +kernel) ?_
        refine gx_getr gk_WA (by decide) fl_LE_232 rfl (by decide +kernel) ?_
        refine gx_iload_n (i := 1) (by decide +kernel) rfl ?_
        refine gx_ialdi (by decide +kernel) (fun c13 => ?_)
        exact gx_ireturn rfl rfl (by decide +kernel)
      · refine gx_ite (fun c14 => ?_) (fun c14 => ?_)
        · refine gx_swIn (dflt := 56) (lo := 0) (hi := 2) (offs := #[26, 36, 46]) (len := 26) (off := 36) (tgt := 58) c8 (by decide +kernel) (by rw [c14]; decide) (by rw [c14]; decide) (by rw [c14]; decide) (by decide) ?_
          refine gx_aload_n (i := 0) (by decide +kernel) rfl ?_
          refine gx_getr gk_LE (by decide) fl_LE_54 rfl (by decide +kernel) ?_
          refine gx_getr gk_WA (by decide) fl_LE_235 rfl (by decide +kernel) ?_
          refine gx_iload_n (i := 1) (by decide +kernel) rfl ?_
          refine gx_ialdi (by decide +kernel) (fun c18 => ?_)
          exact gx_ireturn rfl rfl (by decide +kernel)
        · refine gx_ite (fun c19 => ?_) (fun c19 => ?_)
          · refine gx_swIn (dflt := 56) (lo := 0) (hi := 2) (offs := #[26, 36, 46]) (len := 26) (off := 46) (tgt := 68) c8 (by decide +kernel) (by rw [c19]; decide) (by rw [c19]; decide) (by rw [c19]; decide) (by decide) ?_
            refine gx_aload_n (i := 0) (by decide +kernel) rfl ?_
            refine gx_getr gk_LE (by decide) fl_LE_54 rfl (by decide +kernel) ?_
            refine gx_getr gk_WA (by decide) fl_LE_238 rfl (by decide +kernel) ?_
            refine gx_iload_n (i := 1) (by decide +kernel) rfl ?_
            refine gx_ialdi (by decide +kernel) (fun c23 => ?_)
            exact gx_ireturn rfl rfl (by decide +kernel)
          · refine gx_swOut (dflt := 56) (lo := 0) (hi := 2) (offs := #[26, 36, 46]) (len := 26) (tgt := 78) c8 (by decide +kernel) (by omega) (by decide) ?_
            refine gx_ldc (a := (-1000000002)) kc_LE_121 (by decide +kernel) ?_
            exact gx_ireturn rfl rfl (by decide +kernel)
    · refine gx_ldc (a := (-1000000001)) kc_LE_172 (by decide +kernel) ?_
      exact gx_ireturn rfl rfl (by decide +kernel)
def f_WA_lead (h : gx_H) (l0 : Nat) (l1 : Nat) (l2 : Int) (l3 : Int) : Option (Int × gx_H) :=
  gq_gr h l1 5 4 (fun o1 => gq_gr h l0 12 1 (fun o2 => gq_ald 0 h o2 l2 (fun v3 => gq_ald 0 h o1 ((v3 * 4) + l3) (fun v5 => if v5 < 0 then some ((-1), h) else gq_gr h l0 12 2 (fun o7 => gq_ald 0 h o7 v5 (fun v8 => some (v8, h)))))))
set_option maxHeartbeats 4000000 in
set_option maxRecDepth 100000 in
theorem c_WA_lead (h : gx_H) (l0 : Nat) (l1 : Nat) (l2 : Int) (l3 : Int) : ∀ r h1, f_WA_lead h l0 l1 l2 l3 = some (r, h1) → gx_Met gm_WA_lead [gx_R l0, gx_R l1, gx_I l2, gx_I l3] h r h1 := by
  refine gx_enter (l := [some (gx_R l0), some (gx_R l1), some (gx_I l2), some (gx_I l3), none]) (by decide) (Nat.le_of_ble_eq_true rfl) rfl ?_
  unfold f_WA_lead
  refine gx_aload_n (i := 1) (by decide +kernel) rfl ?_
  refine gx_getr gk_GR (by decide) fl_WA_41 rfl (by decide +kernel) ?_
  refine gx_aload_n (i := 0) (by decide +kernel) rfl ?_
  refine gx_getr gk_WA (by decide) fl_WA_17 rfl (by decide +kernel) ?_
  refine gx_iload_n (i := 2) (by decide +kernel) rfl ?_
  refine gx_ialdi (by decide +kernel) (fun c4 => ?_)
  refine gx_iconst (n := 4) (by decide +kernel) ?_
  refine gx_imul (by decide +kernel) ?_
  refine gx_iload_n (i := 3) (by decide +kernel) rfl ?_
  refine gx_iadd (by decide +kernel) ?_
  refine gx_ialdi (by decide +kernel) (fun c6 => ?_)
  refine gx_istore (i := 4) (l' := [some (gx_R _), some (gx_R _), some (gx_I _), some (gx_I _), some (gx_I _)]) (by decide +kernel) rfl (Nat.le_of_ble_eq_true rfl) (by decide) rfl ?_
  refine gx_iload (i := 4) (by decide +kernel) rfl ?_
  refine gx_if_lt (off := 13) (tgt := 32) c6 (by decide +kernel) (by decide) ?_ ?_
  · refine gx_iconst (n := (-1)) (by decide +kernel) ?_
    exact gx_ireturn rfl rfl (by decide +kernel)
  · refine gx_aload_n (i := 0) (by decide +kernel) rfl ?_
    refine gx_getr gk_WA (by decide) fl_WA_21 rfl (by decide +kernel) ?_
    refine gx_iload (i := 4) (by decide +kernel) rfl ?_
    refine gx_ialdi (by decide +kernel) (fun c9 => ?_)
    refine gx_goto (off := 4) (tgt := 33) (by decide +kernel) (by decide) ?_
    exact gx_ireturn rfl rfl (by decide +kernel)
def f_LE_next (h : gx_H) (l0 : Nat) (l1 : Int) (l2 : Int) : Option (Int × gx_H) :=
  gq_cv h l0 0 (f_LE_isOpen h l0) (fun r1 h2 => gq_g (gx_i r1) (if r1 = 0 then gq_gr h2 l0 0 6 (fun o4 => gq_cv h2 o4 12 (f_WA_lacks h2 o4 l1) (fun r5 h6 => gq_g (gx_i r5) (if r5 = 0 then gq_cv h6 l0 0 (f_LE_isNoLetter h6 l0 l2) (fun r8 h9 => gq_g (gx_i r8) (if r8 = 0 then gq_gr h9 l0 0 6 (fun o11 => gq_gr h9 l0 0 5 (fun o12 => gq_cv h9 o11 12 (f_WA_lead h9 o11 o12 l1 l2) (fun r13 h14 => some (r13, h14)))) else some ((-1000000001), h9))) else some ((-1000000001), h6)))) else some ((-1000000001), h2)))
set_option maxHeartbeats 4000000 in
set_option maxRecDepth 100000 in
theorem c_LE_next (h : gx_H) (l0 : Nat) (l1 : Int) (l2 : Int) : ∀ r h1, f_LE_next h l0 l1 l2 = some (r, h1) → gx_Met gm_LE_next [gx_R l0, gx_I l1, gx_I l2] h r h1 := by
  refine gx_enter (l := [some (gx_R l0), some (gx_I l1), some (gx_I l2)]) (by decide) (Nat.le_of_ble_eq_true rfl) rfl ?_
  unfold f_LE_next
  refine gx_aload_n (i := 0) (by decide +kernel) rfl ?_
  refine gx_cVi0 (Mc := gm_LE_isOpen) (u' := (0, 0)) (c_LE_isOpen _ _) vk_LE_isOpen ml_LE_149 rfl rfl ⟨by decide, by decide, by decide, by decide⟩ (Nat.le_of_ble_eq_true rfl) (by decide +kernel) (fun r1 h2 => ?_)
  refine gx_g (fun c3 => ?_)
  refine gx_if_ne (off := 22) (tgt := 26) c3 (by decide +kernel) (by decide) ?_ ?_
  · refine gx_ldc (a := (-1000000001)) kc_LE_172 (by decide +kernel) ?_
    exact gx_ireturn rfl rfl (by decide +kernel)
  · refine gx_aload_n (i := 0) (by decide +kernel) rfl ?_
    refine gx_getr gk_LE (by decide) fl_LE_54 rfl (by decide +kernel) ?_
    refine gx_iload_n (i := 1) (by decide +kernel) rfl ?_
    refine gx_cVi1 (Mc := gm_WA_lacks) (u' := (0, 0)) (c_WA_lacks _ _ _) vk_WA_lacks ml_LE_229 rfl rfl ⟨by decide, by decide, by decide, by decide⟩ (Nat.le_of_ble_eq_true rfl) (by decide +kernel) (fun r5 h6 => ?_)
    refine gx_g (fun c7 => ?_)
    refine gx_if_ne (off := 11) (tgt := 26) c7 (by decide +kernel) (by decide) ?_ ?_
    · refine gx_ldc (a := (-1000000001)) kc_LE_172 (by decide +kernel) ?_
      exact gx_ireturn rfl rfl (by decide +kernel)
    · refine gx_aload_n (i := 0) (by decide +kernel) rfl ?_
      refine gx_iload_n (i := 2) (by decide +kernel) rfl ?_
      refine gx_cVi1 (Mc := gm_LE_isNoLetter) (u' := (0, 0)) (c_LE_isNoLetter _ _ _) vk_LE_isNoLetter ml_LE_169 rfl rfl ⟨by decide, by decide, by decide, by decide⟩ (Nat.le_of_ble_eq_true rfl) (by decide +kernel) (fun r8 h9 => ?_)
      refine gx_g (fun c10 => ?_)
      refine gx_if_eq (off := 6) (tgt := 29) c10 (by decide +kernel) (by decide) ?_ ?_
      · refine gx_aload_n (i := 0) (by decide +kernel) rfl ?_
        refine gx_getr gk_LE (by decide) fl_LE_54 rfl (by decide +kernel) ?_
        refine gx_aload_n (i := 0) (by decide +kernel) rfl ?_
        refine gx_getr gk_LE (by decide) fl_LE_47 rfl (by decide +kernel) ?_
        refine gx_iload_n (i := 1) (by decide +kernel) rfl ?_
        refine gx_iload_n (i := 2) (by decide +kernel) rfl ?_
        refine gx_cVi3 (Mc := gm_WA_lead) (u' := (0, 0)) (c_WA_lead _ _ _ _ _) vk_WA_lead ml_LE_241 rfl rfl ⟨by decide, by decide, by decide, by decide⟩ (Nat.le_of_ble_eq_true rfl) (by decide +kernel) (fun r13 h14 => ?_)
        exact gx_ireturn rfl rfl (by decide +kernel)
      · refine gx_ldc (a := (-1000000001)) kc_LE_172 (by decide +kernel) ?_
        exact gx_ireturn rfl rfl (by decide +kernel)
def fb_WA_countAway_25 (N4 : gx_H → Nat → Int → Int → Int → Option (Int × gx_H)) (h : gx_H) (l0 : Nat) (l1 : Int) (l2 : Int) (l3 : Int) : Option (Int × gx_H) :=
  N4 h l0 l1 l2 (l3 + 1)
set_option maxHeartbeats 4000000 in
set_option maxRecDepth 100000 in
theorem y_WA_countAway_25 (N4 : gx_H → Nat → Int → Int → Int → Option (Int × gx_H)) (hN4 : ∀ (h : gx_H) (l0 : Nat) (l1 : Int) (l2 : Int) (l3 : Int), gx_Y gm_WA_countAway (0, 0) 4 [some (gx_R l0), some (gx_I l1), some (gx_I l2), some (gx_I l3)] [] h (N4 h l0 l1 l2 l3)) (h : gx_H) (l0 : Nat) (l1 : Int) (l2 : Int) (l3 : Int) : gx_Y gm_WA_countAway (0, 0) 25 [some (gx_R l0), some (gx_I l1), some (gx_I l2), some (gx_I l3)] [] h (fb_WA_countAway_25 N4 h l0 l1 l2 l3) := by
  unfold fb_WA_countAway_25
  refine gx_iinc (i := 3) (n := 1) (l' := [some (gx_R _), some (gx_I _), some (gx_I _), some (gx_I _)]) (by decide +kernel) rfl rfl (Nat.le_of_ble_eq_true rfl) (by decide) rfl ?_
  refine gx_goto (off := -24) (tgt := 4) (by decide +kernel) (by decide) ?_
  exact gx_less' (hN4 _ _ _ _ _) ⟨rfl, rfl, rfl, rfl, trivial⟩
def fb_WA_countAway_4 (N4 : gx_H → Nat → Int → Int → Int → Option (Int × gx_H)) (h : gx_H) (l0 : Nat) (l1 : Int) (l2 : Int) (l3 : Int) : Option (Int × gx_H) :=
  gq_get h l0 12 0 (fun v1 => gq_g (gx_i l3) (if l3 < v1 then gq_gr h l0 12 3 (fun o4 => gq_ald 0 h o4 l3 (fun v5 => gq_g (gx_i l1) (if v5 = l1 then fb_WA_countAway_25 N4 h l0 l1 (l2 + 1) l3 else fb_WA_countAway_25 N4 h l0 l1 l2 l3))) else some (l2, h)))
set_option maxHeartbeats 4000000 in
set_option maxRecDepth 100000 in
theorem yb_WA_countAway_4 (N4 : gx_H → Nat → Int → Int → Int → Option (Int × gx_H)) (hN4 : ∀ (h : gx_H) (l0 : Nat) (l1 : Int) (l2 : Int) (l3 : Int), gx_Y gm_WA_countAway (0, 0) 4 [some (gx_R l0), some (gx_I l1), some (gx_I l2), some (gx_I l3)] [] h (N4 h l0 l1 l2 l3)) (h : gx_H) (l0 : Nat) (l1 : Int) (l2 : Int) (l3 : Int) : gx_Y gm_WA_countAway (0, 0) 4 [some (gx_R l0), some (gx_I l1), some (gx_I l2), some (gx_I l3)] [] h (fb_WA_countAway_4 N4 h l0 l1 l2 l3) := by
  unfold fb_WA_countAway_4
  refine gx_iload_n (i := 3) (by decide +kernel) rfl ?_
  refine gx_aload_n (i := 0) (by decide +kernel) rfl ?_
  refine gx_geti gk_WA (by decide) fl_WA_9 (Or.inl rfl) (by decide +kernel) (fun c2 => ?_)
  refine gx_g (fun c3 => ?_)
  refine gx_icmp_ge (off := 22) (tgt := 31) c3 c2 (by decide +kernel) (by decide) ?_ ?_
  · refine gx_iload_n (i := 2) (by decide +kernel) rfl ?_
    exact gx_ireturn rfl rfl (by decide +kernel)
  · refine gx_aload_n (i := 0) (by decide +kernel) rfl ?_
    refine gx_getr gk_WA (by decide) fl_WA_24 rfl (by decide +kernel) ?_
    refine gx_iload_n (i := 3) (by decide +kernel) rfl ?_
    refine gx_ialdi (by decide +kernel) (fun c6 => ?_)
    refine gx_iload_n (i := 1) (by decide +kernel) rfl ?_
    refine gx_g (fun c7 => ?_)
    refine gx_icmp_ne (off := 6) (tgt := 25) c6 c7 (by decide +kernel) (by decide) ?_ ?_
    · exact gx_less' (y_WA_countAway_25 _ hN4 _ _ _ _ _) ⟨rfl, rfl, rfl, rfl, trivial⟩
    · refine gx_iinc (i := 2) (n := 1) (l' := [some (gx_R _), some (gx_I _), some (gx_I _), some (gx_I _)]) (by decide +kernel) rfl rfl (Nat.le_of_ble_eq_true rfl) (by decide) rfl ?_
      exact gx_less' (y_WA_countAway_25 _ hN4 _ _ _ _ _) ⟨rfl, rfl, rfl, rfl, trivial⟩
def f_WA_countAway_4 : Nat → gx_H → Nat → Int → Int → Int → Option (Int × gx_H)
  | 0 => fun _ _ _ _ _ => none
  | fu + 1 => fb_WA_countAway_4 (f_WA_countAway_4 fu)
theorem y_WA_countAway_4 : ∀ (fu : Nat) (h : gx_H) (l0 : Nat) (l1 : Int) (l2 : Int) (l3 : Int), gx_Y gm_WA_countAway (0, 0) 4 [some (gx_R l0), some (gx_I l1), some (gx_I l2), some (gx_I l3)] [] h (f_WA_countAway_4 fu h l0 l1 l2 l3) := by
  intro fu
  induction fu with
  | zero => intro h l0 l1 l2 l3; exact gx_none
  | succ fu ih => intro h l0 l1 l2 l3; exact yb_WA_countAway_4 (f_WA_countAway_4 fu) ih h l0 l1 l2 l3
def f_WA_countAway (h : gx_H) (l0 : Nat) (l1 : Int) : Option (Int × gx_H) :=
  f_WA_countAway_4 gx_fu h l0 l1 0 0
set_option maxHeartbeats 4000000 in
set_option maxRecDepth 100000 in
theorem c_WA_countAway (h : gx_H) (l0 : Nat) (l1 : Int) : ∀ r h1, f_WA_countAway h l0 l1 = some (r, h1) → gx_Met gm_WA_countAway [gx_R l0, gx_I l1] h r h1 := by
  refine gx_enter (l := [some (gx_R l0), some (gx_I l1), none, none]) (by decide) (Nat.le_of_ble_eq_true rfl) rfl ?_
  unfold f_WA_countAway
  refine gx_iconst (n := 0) (by decide +kernel) ?_
  refine gx_istore_n (i := 2) (l' := [some (gx_R _), some (gx_I _), some (gx_I _), none]) (by decide +kernel) rfl (Nat.le_of_ble_eq_true rfl) (by decide) rfl ?_
  refine gx_iconst (n := 0) (by decide +kernel) ?_
  refine gx_istore_n (i := 3) (l' := [some (gx_R _), some (gx_I _), some (gx_I _), some (gx_I _)]) (by decide +kernel) rfl (Nat.le_of_ble_eq_true rfl) (by decide) rfl ?_
  exact gx_less' (y_WA_countAway_4 gx_fu _ _ _ _ _) ⟨rfl, rfl, rfl, rfl, trivial⟩
def f_LE_away (h : gx_H) (l0 : Nat) (l1 : Int) : Option (Int × gx_H) :=
  gq_cv h l0 0 (f_LE_isOpen h l0) (fun r1 h2 => gq_g (gx_i r1) (if r1 = 0 then gq_gr h2 l0 0 6 (fun o4 => gq_cv h2 o4 12 (f_WA_countAway h2 o4 l1) (fun r5 h6 => some (r5, h6))) else some ((-1), h2)))
set_option maxHeartbeats 4000000 in
set_option maxRecDepth 100000 in
theorem c_LE_away (h : gx_H) (l0 : Nat) (l1 : Int) : ∀ r h1, f_LE_away h l0 l1 = some (r, h1) → gx_Met gm_LE_away [gx_R l0, gx_I l1] h r h1 := by
  refine gx_enter (l := [some (gx_R l0), some (gx_I l1)]) (by decide) (Nat.le_of_ble_eq_true rfl) rfl ?_
  unfold f_LE_away
  refine gx_aload_n (i := 0) (by decide +kernel) rfl ?_
  refine gx_cVi0 (Mc := gm_LE_isOpen) (u' := (0, 0)) (c_LE_isOpen _ _) vk_LE_isOpen ml_LE_149 rfl rfl ⟨by decide, by decide, by decide, by decide⟩ (Nat.le_of_ble_eq_true rfl) (by decide +kernel) (fun r1 h2 => ?_)
  refine gx_g (fun c3 => ?_)
  refine gx_if_eq (off := 7) (tgt := 11) c3 (by decide +kernel) (by decide) ?_ ?_
  · refine gx_aload_n (i := 0) (by decide +kernel) rfl ?_
    refine gx_getr gk_LE (by decide) fl_LE_54 rfl (by decide +kernel) ?_
    refine gx_iload_n (i := 1) (by decide +kernel) rfl ?_
    refine gx_cVi1 (Mc := gm_WA_countAway) (u' := (0, 0)) (c_WA_countAway _ _ _) vk_WA_countAway ml_LE_245 rfl rfl ⟨by decide, by decide, by decide, by decide⟩ (Nat.le_of_ble_eq_true rfl) (by decide +kernel) (fun r5 h6 => ?_)
    exact gx_ireturn rfl rfl (by decide +kernel)
  · refine gx_iconst (n := (-1)) (by decide +kernel) ?_
    refine gx_goto (off := 11) (tgt := 19) (by decide +kernel) (by decide) ?_
    exact gx_ireturn rfl rfl (by decide +kernel)
def fb_GR_rowNumber_21 (N21 : gx_H → Int → Int → Int → Option (Int × gx_H)) (h : gx_H) (l3 : Int) (l4 : Int) (l5 : Int) : Option (Int × gx_H) :=
  gq_g (gx_i l5) (gq_g (gx_i l3) (if l3 < l5 then gq_g (gx_i l4) (N21 h l3 (l4.tdiv 200) (l5 + (-1))) else gq_g (gx_i l4) (some (((l4.tmod 200) - 100), h))))
set_option maxHeartbeats 4000000 in
set_option maxRecDepth 100000 in
theorem yb_GR_rowNumber_21 (N21 : gx_H → Int → Int → Int → Option (Int × gx_H)) (hN21 : ∀ (h : gx_H) (l3 : Int) (l4 : Int) (l5 : Int), gx_Y gm_GR_rowNumber (0, 0) 21 [none, none, none, some (gx_I l3), some (gx_I l4), some (gx_I l5)] [] h (N21 h l3 l4 l5)) (h : gx_H) (l3 : Int) (l4 : Int) (l5 : Int) : gx_Y gm_GR_rowNumber (0, 0) 21 [none, none, none, some (gx_I l3), some (gx_I l4), some (gx_I l5)] [] h (fb_GR_rowNumber_21 N21 h l3 l4 l5) := by
  unfold fb_GR_rowNumber_21
  refine gx_iload (i := 5) (by decide +kernel) rfl ?_
  refine gx_iload_n (i := 3) (by decide +kernel) rfl ?_
  refine gx_g (fun c1 => ?_)
  refine gx_g (fun c2 => ?_)
  refine gx_icmp_le (off := 17) (tgt := 41) c1 c2 (by decide +kernel) (by decide) ?_ ?_
  · refine gx_iload (i := 4) (by decide +kernel) rfl ?_
    refine gx_sipush (n := 200) (by decide +kernel) (by decide) ?_
    refine gx_g (fun c3 => ?_)
    refine gx_irem c3 (by decide) (by decide) (by decide +kernel) ?_
    refine gx_bipush (n := 100) (by decide +kernel) (by decide) ?_
    refine gx_isub (by decide +kernel) ?_
    exact gx_ireturn rfl rfl (by decide +kernel)
  · refine gx_iload (i := 4) (by decide +kernel) rfl ?_
    refine gx_sipush (n := 200) (by decide +kernel) (by decide) ?_
    refine gx_g (fun c4 => ?_)
    refine gx_idiv c4 (by decide) (by decide) (by decide +kernel) ?_
    refine gx_istore (i := 4) (l' := [none, none, none, some (gx_I _), some (gx_I _), some (gx_I _)]) (by decide +kernel) rfl (Nat.le_of_ble_eq_true rfl) (by decide) rfl ?_
    refine gx_iinc (i := 5) (n := (-1)) (l' := [none, none, none, some (gx_I _), some (gx_I _), some (gx_I _)]) (by decide +kernel) rfl rfl (Nat.le_of_ble_eq_true rfl) (by decide) rfl ?_
    refine gx_goto (off := -17) (tgt := 21) (by decide +kernel) (by decide) ?_
    exact gx_less' (hN21 _ _ _ _) ⟨rfl, rfl, rfl, trivial⟩
def f_GR_rowNumber_21 : Nat → gx_H → Int → Int → Int → Option (Int × gx_H)
  | 0 => fun _ _ _ _ => none
  | fu + 1 => fb_GR_rowNumber_21 (f_GR_rowNumber_21 fu)
theorem y_GR_rowNumber_21 : ∀ (fu : Nat) (h : gx_H) (l3 : Int) (l4 : Int) (l5 : Int), gx_Y gm_GR_rowNumber (0, 0) 21 [none, none, none, some (gx_I l3), some (gx_I l4), some (gx_I l5)] [] h (f_GR_rowNumber_21 fu h l3 l4 l5) := by
  intro fu
  induction fu with
  | zero => intro h l3 l4 l5; exact gx_none
  | succ fu ih => intro h l3 l4 l5; exact yb_GR_rowNumber_21 (f_GR_rowNumber_21 fu) ih h l3 l4 l5
def f_GR_rowNumber (h : gx_H) (l0 : Nat) (l1 : Int) (l2 : Int) (l3 : Int) : Option (Int × gx_H) :=
  gq_gr h l0 5 5 (fun o1 => gq_ald 0 h o1 ((l1 * 8) + l2) (fun v2 => gq_get h l0 5 1 (fun v4 => f_GR_rowNumber_21 gx_fu h l3 v2 (v4 - 1))))
set_option maxHeartbeats 4000000 in
set_option maxRecDepth 100000 in
theorem c_GR_rowNumber (h : gx_H) (l0 : Nat) (l1 : Int) (l2 : Int) (l3 : Int) : ∀ r h1, f_GR_rowNumber h l0 l1 l2 l3 = some (r, h1) → gx_Met gm_GR_rowNumber [gx_R l0, gx_I l1, gx_I l2, gx_I l3] h r h1 := by
  refine gx_enter (l := [some (gx_R l0), some (gx_I l1), some (gx_I l2), some (gx_I l3), none, none]) (by decide) (Nat.le_of_ble_eq_true rfl) rfl ?_
  unfold f_GR_rowNumber
  refine gx_aload_n (i := 0) (by decide +kernel) rfl ?_
  refine gx_getr gk_GR (by decide) fl_GR_29 rfl (by decide +kernel) ?_
  refine gx_iload_n (i := 1) (by decide +kernel) rfl ?_
  refine gx_bipush (n := 8) (by decide +kernel) (by decide) ?_
  refine gx_imul (by decide +kernel) ?_
  refine gx_iload_n (i := 2) (by decide +kernel) rfl ?_
  refine gx_iadd (by decide +kernel) ?_
  refine gx_ialdi (by decide +kernel) (fun c3 => ?_)
  refine gx_istore (i := 4) (l' := [some (gx_R _), some (gx_I _), some (gx_I _), some (gx_I _), some (gx_I _), none]) (by decide +kernel) rfl (Nat.le_of_ble_eq_true rfl) (by decide) rfl ?_
  refine gx_aload_n (i := 0) (by decide +kernel) rfl ?_
  refine gx_geti gk_GR (by decide) fl_GR_15 (Or.inl rfl) (by decide +kernel) (fun c5 => ?_)
  refine gx_iconst (n := 1) (by decide +kernel) ?_
  refine gx_isub (by decide +kernel) ?_
  refine gx_istore (i := 5) (l' := [some (gx_R _), some (gx_I _), some (gx_I _), some (gx_I _), some (gx_I _), some (gx_I _)]) (by decide +kernel) rfl (Nat.le_of_ble_eq_true rfl) (by decide) rfl ?_
  exact gx_less' (y_GR_rowNumber_21 gx_fu _ _ _ _) ⟨rfl, rfl, rfl, trivial⟩
def f_LE_standRow (h : gx_H) (l0 : Nat) (l1 : Int) (l2 : Int) (l3 : Int) : Option (Int × gx_H) :=
  gq_cv h l0 0 (f_LE_isOpen h l0) (fun r1 h2 => gq_g (gx_i r1) (if r1 = 0 then gq_gr h2 l0 0 6 (fun o4 => gq_cv h2 o4 12 (f_WA_lacks h2 o4 l1) (fun r5 h6 => gq_g (gx_i r5) (if r5 = 0 then gq_cv h6 l0 0 (f_LE_isNoLetter h6 l0 l2) (fun r8 h9 => gq_g (gx_i r8) (if r8 = 0 then gq_cv h9 l0 0 (f_LE_isNoLetter h9 l0 l3) (fun r11 h12 => gq_g (gx_i r11) (if r11 = 0 then gq_gr h12 l0 0 5 (fun o14 => gq_gr h12 l0 0 6 (fun o15 => gq_gr h12 o15 12 1 (fun o16 => gq_ald 0 h12 o16 l1 (fun v17 => gq_cv h12 o14 5 (f_GR_rowNumber h12 o14 v17 l2 l3) (fun r19 h20 => some ((r19 + 1000), h20)))))) else some ((-1000000002), h12))) else some ((-1000000001), h9))) else some ((-1000000001), h6)))) else some ((-1000000001), h2)))
set_option maxHeartbeats 4000000 in
set_option maxRecDepth 100000 in
theorem c_LE_standRow (h : gx_H) (l0 : Nat) (l1 : Int) (l2 : Int) (l3 : Int) : ∀ r h1, f_LE_standRow h l0 l1 l2 l3 = some (r, h1) → gx_Met gm_LE_standRow [gx_R l0, gx_I l1, gx_I l2, gx_I l3] h r h1 := by
  refine gx_enter (l := [some (gx_R l0), some (gx_I l1), some (gx_I l2), some (gx_I l3)]) (by decide) (Nat.le_of_ble_eq_true rfl) rfl ?_
  unfold f_LE_standRow
  refine gx_aload_n (i := 0) (by decide +kernel) rfl ?_
  refine gx_cVi0 (Mc := gm_LE_isOpen) (u' := (0, 0)) (c_LE_isOpen _ _) vk_LE_isOpen ml_LE_149 rfl rfl ⟨by decide, by decide, by decide, by decide⟩ (Nat.le_of_ble_eq_true rfl) (by decide +kernel) (fun r1 h2 => ?_)
  refine gx_g (fun c3 => ?_)
  refine gx_if_ne (off := 22) (tgt := 26) c3 (by decide +kernel) (by decide) ?_ ?_
  · refine gx_ldc (a := (-1000000001)) kc_LE_172 (by decide +kernel) ?_
    exact gx_ireturn rfl rfl (by decide +kernel)
  · refine gx_aload_n (i := 0) (by decide +kernel) rfl ?_
    refine gx_getr gk_LE (by decide) fl_LE_54 rfl (by decide +kernel) ?_
    refine gx_iload_n (i := 1) (by decide +kernel) rfl ?_
    refine gx_cVi1 (Mc := gm_WA_lacks) (u' := (0, 0)) (c_WA_lacks _ _ _) vk_WA_lacks ml_LE_229 rfl rfl ⟨by decide, by decide, by decide, by decide⟩ (Nat.le_of_ble_eq_true rfl) (by decide +kernel) (fun r5 h6 => ?_)
    refine gx_g (fun c7 => ?_)
    refine gx_if_ne (off := 11) (tgt := 26) c7 (by decide +kernel) (by decide) ?_ ?_
    · refine gx_ldc (a := (-1000000001)) kc_LE_172 (by decide +kernel) ?_
      exact gx_ireturn rfl rfl (by decide +kernel)
    · refine gx_aload_n (i := 0) (by decide +kernel) rfl ?_
      refine gx_iload_n (i := 2) (by decide +kernel) rfl ?_
      refine gx_cVi1 (Mc := gm_LE_isNoLetter) (u' := (0, 0)) (c_LE_isNoLetter _ _ _) vk_LE_isNoLetter ml_LE_169 rfl rfl ⟨by decide, by decide, by decide, by decide⟩ (Nat.le_of_ble_eq_true rfl) (by decide +kernel) (fun r8 h9 => ?_)
      refine gx_g (fun c10 => ?_)
      refine gx_if_eq (off := 6) (tgt := 29) c10 (by decide +kernel) (by decide) ?_ ?_
      · refine gx_aload_n (i := 0) (by decide +kernel) rfl ?_
        refine gx_iload_n (i := 3) (by decide +kernel) rfl ?_
        refine gx_cVi1 (Mc := gm_LE_isNoLetter) (u' := (0, 0)) (c_LE_isNoLetter _ _ _) vk_LE_isNoLetter ml_LE_169 rfl rfl ⟨by decide, by decide, by decide, by decide⟩ (Nat.le_of_ble_eq_true rfl) (by decide +kernel) (fun r11 h12 => ?_)
        refine gx_g (fun c13 => ?_)
        refine gx_if_eq (off := 6) (tgt := 40) c13 (by decide +kernel) (by decide) ?_ ?_
        · refine gx_aload_n (i := 0) (by decide +kernel) rfl ?_
          refine gx_getr gk_LE (by decide) fl_LE_47 rfl (by decide +kernel) ?_
          refine gx_aload_n (i := 0) (by decide +kernel) rfl ?_
          refine gx_getr gk_LE (by decide) fl_LE_54 rfl (by decide +kernel) ?_
          refine gx_getr gk_WA (by decide) fl_LE_248 rfl (by decide +kernel) ?_
          refine gx_iload_n (i := 1) (by decide +kernel) rfl ?_
          refine gx_ialdi (by decide +kernel) (fun c18 => ?_)
          refine gx_iload_n (i := 2) (by decide +kernel) rfl ?_
          refine gx_iload_n (i := 3) (by decide +kernel) rfl ?_
          refine gx_cVi3 (Mc := gm_GR_rowNumber) (u' := (0, 0)) (c_GR_rowNumber _ _ _ _ _) vk_GR_rowNumber ml_LE_251 rfl rfl ⟨by decide, by decide, by decide, by decide⟩ (Nat.le_of_ble_eq_true rfl) (by decide +kernel) (fun r19 h20 => ?_)
          refine gx_sipush (n := 1000) (by decide +kernel) (by decide) ?_
          refine gx_iadd (by decide +kernel) ?_
          exact gx_ireturn rfl rfl (by decide +kernel)
        · refine gx_ldc (a := (-1000000002)) kc_LE_121 (by decide +kernel) ?_
          exact gx_ireturn rfl rfl (by decide +kernel)
      · refine gx_ldc (a := (-1000000001)) kc_LE_172 (by decide +kernel) ?_
        exact gx_ireturn rfl rfl (by decide +kernel)
def f_BK_append (h : gx_H) (l0 : Nat) (l1 : Int) (l2 : Int) : Option (Int × gx_H) :=
  gq_get h l0 2 2 (fun v1 => if v1 < 20 then gq_gr h l0 2 0 (fun o3 => gq_get h l0 2 2 (fun v4 => gq_ast 0 (gx_i l1) h o3 v4 l1 (fun h6 => gq_gr h6 l0 2 1 (fun o7 => gq_get h6 l0 2 2 (fun v8 => gq_ast 0 (gx_i l2) h6 o7 v8 l2 (fun h10 => gq_get h10 l0 2 2 (fun v11 => gq_put (gx_i (v11 + 1)) h10 l0 2 2 (v11 + 1) (fun h13 => some (1, h13))))))))) else some (0, h))
set_option maxHeartbeats 4000000 in
set_option maxRecDepth 100000 in
theorem c_BK_append (h : gx_H) (l0 : Nat) (l1 : Int) (l2 : Int) : ∀ r h1, f_BK_append h l0 l1 l2 = some (r, h1) → gx_Met gm_BK_append [gx_R l0, gx_I l1, gx_I l2] h r h1 := by
  refine gx_enter (l := [some (gx_R l0), some (gx_I l1), some (gx_I l2)]) (by decide) (Nat.le_of_ble_eq_true rfl) rfl ?_
  unfold f_BK_append
  refine gx_aload_n (i := 0) (by decide +kernel) rfl ?_
  refine gx_geti gk_BK (by decide) fl_BK_18 (Or.inl rfl) (by decide +kernel) (fun c2 => ?_)
  refine gx_bipush (n := 20) (by decide +kernel) (by decide) ?_
  refine gx_icmp_lt (off := 5) (tgt := 11) c2 (by decide) (by decide +kernel) (by decide) ?_ ?_
  · refine gx_aload_n (i := 0) (by decide +kernel) rfl ?_
    refine gx_getr gk_BK (by decide) fl_BK_11 rfl (by decide +kernel) ?_
    refine gx_aload_n (i := 0) (by decide +kernel) rfl ?_
    refine gx_geti gk_BK (by decide) fl_BK_18 (Or.inl rfl) (by decide +kernel) (fun c5 => ?_)
    refine gx_iload_n (i := 1) (by decide +kernel) rfl ?_
    refine gx_iast (by decide +kernel) ?_
    refine gx_aload_n (i := 0) (by decide +kernel) rfl ?_
    refine gx_getr gk_BK (by decide) fl_BK_15 rfl (by decide +kernel) ?_
    refine gx_aload_n (i := 0) (by decide +kernel) rfl ?_
    refine gx_geti gk_BK (by decide) fl_BK_18 (Or.inl rfl) (by decide +kernel) (fun c9 => ?_)
    refine gx_iload_n (i := 2) (by decide +kernel) rfl ?_
    refine gx_iast (by decide +kernel) ?_
    refine gx_aload_n (i := 0) (by decide +kernel) rfl ?_
    refine gx_dup (by decide +kernel) (fun _ => rfl) ?_
    refine gx_geti gk_BK (by decide) fl_BK_18 (Or.inl rfl) (by decide +kernel) (fun c12 => ?_)
    refine gx_iconst (n := 1) (by decide +kernel) ?_
    refine gx_iadd (by decide +kernel) ?_
    refine gx_puti gk_BK (by decide) fl_BK_18 rfl rfl (by decide +kernel) ?_
    refine gx_iconst (n := 1) (by decide +kernel) ?_
    exact gx_zreturn (by decide) rfl rfl (by decide +kernel)
  · refine gx_iconst (n := 0) (by decide +kernel) ?_
    exact gx_zreturn (by decide) rfl rfl (by decide +kernel)
def f_LE_write (h : gx_H) (l0 : Nat) (l1 : Int) (l2 : Int) : Option (Int × gx_H) :=
  gq_cv h l0 0 (f_LE_isNoLetter h l0 l1) (fun r1 h2 => gq_g (gx_i r1) (if r1 = 0 then gq_gr h2 l0 0 4 (fun o4 => gq_cv h2 o4 2 (f_BK_append h2 o4 l1 l2) (fun r5 h6 => gq_g (gx_i r5) (if r5 = 0 then some ((-1000000004), h6) else gq_gr h6 l0 0 4 (fun o8 => gq_get h6 o8 2 2 (fun v9 => some (v9, h6)))))) else some ((-1000000001), h2)))
set_option maxHeartbeats 4000000 in
set_option maxRecDepth 100000 in
theorem c_LE_write (h : gx_H) (l0 : Nat) (l1 : Int) (l2 : Int) : ∀ r h1, f_LE_write h l0 l1 l2 = some (r, h1) → gx_Met gm_LE_write [gx_R l0, gx_I l1, gx_I l2] h r h1 := by
  refine gx_enter (l := [some (gx_R l0), some (gx_I l1), some (gx_I l2)]) (by decide) (Nat.le_of_ble_eq_true rfl) rfl ?_
  unfold f_LE_write
  refine gx_aload_n (i := 0) (by decide +kernel) rfl ?_
  refine gx_iload_n (i := 1) (by decide +kernel) rfl ?_
  refine gx_cVi1 (Mc := gm_LE_isNoLetter) (u' := (0, 0)) (c_LE_isNoLetter _ _ _) vk_LE_isNoLetter ml_LE_169 rfl rfl ⟨by decide, by decide, by decide, by decide⟩ (Nat.le_of_ble_eq_true rfl) (by decide +kernel) (fun r1 h2 => ?_)
  refine gx_g (fun c3 => ?_)
  refine gx_if_eq (off := 6) (tgt := 11) c3 (by decide +kernel) (by decide) ?_ ?_
  · refine gx_aload_n (i := 0) (by decide +kernel) rfl ?_
    refine gx_getr gk_LE (by decide) fl_LE_40 rfl (by decide +kernel) ?_
    refine gx_iload_n (i := 1) (by decide +kernel) rfl ?_
    refine gx_iload_n (i := 2) (by decide +kernel) rfl ?_
    refine gx_cVi2 (Mc := gm_BK_append) (u' := (0, 0)) (c_BK_append _ _ _ _) vk_BK_append ml_LE_255 rfl rfl ⟨by decide, by decide, by decide, by decide⟩ (Nat.le_of_ble_eq_true rfl) (by decide +kernel) (fun r5 h6 => ?_)
    refine gx_g (fun c7 => ?_)
    refine gx_if_eq (off := 13) (tgt := 33) c7 (by decide +kernel) (by decide) ?_ ?_
    · refine gx_ldc (a := (-1000000004)) kc_LE_129 (by decide +kernel) ?_
      exact gx_ireturn rfl rfl (by decide +kernel)
    · refine gx_aload_n (i := 0) (by decide +kernel) rfl ?_
      refine gx_getr gk_LE (by decide) fl_LE_40 rfl (by decide +kernel) ?_
      refine gx_geti gk_BK (by decide) fl_LE_161 (Or.inl rfl) (by decide +kernel) (fun c10 => ?_)
      refine gx_goto (off := 5) (tgt := 35) (by decide +kernel) (by decide) ?_
      exact gx_ireturn rfl rfl (by decide +kernel)
  · refine gx_ldc (a := (-1000000001)) kc_LE_172 (by decide +kernel) ?_
    exact gx_ireturn rfl rfl (by decide +kernel)
def f_LE_tear (h : gx_H) (l0 : Nat) : Option (Int × gx_H) :=
  gq_gr h l0 0 4 (fun o1 => gq_get h o1 2 2 (fun v2 => gq_gr h l0 0 4 (fun o4 => gq_put True h o4 2 2 0 (fun h5 => some (v2, h5)))))
set_option maxHeartbeats 4000000 in
set_option maxRecDepth 100000 in
theorem c_LE_tear (h : gx_H) (l0 : Nat) : ∀ r h1, f_LE_tear h l0 = some (r, h1) → gx_Met gm_LE_tear [gx_R l0] h r h1 := by
  refine gx_enter (l := [some (gx_R l0), none]) (by decide) (Nat.le_of_ble_eq_true rfl) rfl ?_
  unfold f_LE_tear
  refine gx_aload_n (i := 0) (by decide +kernel) rfl ?_
  refine gx_getr gk_LE (by decide) fl_LE_40 rfl (by decide +kernel) ?_
  refine gx_geti gk_BK (by decide) fl_LE_161 (Or.inl rfl) (by decide +kernel) (fun c3 => ?_)
  refine gx_istore_n (i := 1) (l' := [some (gx_R _), some (gx_I _)]) (by decide +kernel) rfl (Nat.le_of_ble_eq_true rfl) (by decide) rfl ?_
  refine gx_aload_n (i := 0) (by decide +kernel) rfl ?_
  refine gx_getr gk_LE (by decide) fl_LE_40 rfl (by decide +kernel) ?_
  refine gx_iconst (n := 0) (by decide +kernel) ?_
  refine gx_putiT (by decide) gk_BK (by decide) fl_LE_161 rfl rfl (by decide +kernel) ?_
  refine gx_iload_n (i := 1) (by decide +kernel) rfl ?_
  exact gx_ireturn rfl rfl (by decide +kernel)
def f_LE_seed (h : gx_H) (l0 : Nat) (l1 : Int) : Option (Int × gx_H) :=
  gq_g (gx_i l1) (if l1 < 0 then some ((-1000000002), h) else gq_get h l0 0 15 (fun v2 => gq_put True h l0 0 15 l1 (fun h4 => some (v2, h4))))
set_option maxHeartbeats 4000000 in
set_option maxRecDepth 100000 in
theorem c_LE_seed (h : gx_H) (l0 : Nat) (l1 : Int) : ∀ r h1, f_LE_seed h l0 l1 = some (r, h1) → gx_Met gm_LE_seed [gx_R l0, gx_I l1] h r h1 := by
  refine gx_enter (l := [some (gx_R l0), some (gx_I l1), none]) (by decide) (Nat.le_of_ble_eq_true rfl) rfl ?_
  unfold f_LE_seed
  refine gx_iload_n (i := 1) (by decide +kernel) rfl ?_
  refine gx_g (fun c1 => ?_)
  refine gx_if_ge (off := 6) (tgt := 7) c1 (by decide +kernel) (by decide) ?_ ?_
  · refine gx_aload_n (i := 0) (by decide +kernel) rfl ?_
    refine gx_geti gk_LE (by decide) fl_LE_93 (Or.inl rfl) (by decide +kernel) (fun c3 => ?_)
    refine gx_istore_n (i := 2) (l' := [some (gx_R _), some (gx_I _), some (gx_I _)]) (by decide +kernel) rfl (Nat.le_of_ble_eq_true rfl) (by decide) rfl ?_
    refine gx_aload_n (i := 0) (by decide +kernel) rfl ?_
    refine gx_iload_n (i := 1) (by decide +kernel) rfl ?_
    refine gx_putiT c1 gk_LE (by decide) fl_LE_93 rfl rfl (by decide +kernel) ?_
    refine gx_iload_n (i := 2) (by decide +kernel) rfl ?_
    exact gx_ireturn rfl rfl (by decide +kernel)
  · refine gx_ldc (a := (-1000000002)) kc_LE_121 (by decide +kernel) ?_
    exact gx_ireturn rfl rfl (by decide +kernel)
def f_LE_keep (h : gx_H) (l0 : Nat) (l1 : Int) : Option (Int × gx_H) :=
  gq_g (gx_i l1) (if l1 < 0 then some ((-1000000001), h) else if l1 < 2 then gq_gr h l0 0 9 (fun o2 => gq_rld h o2 l1 (fun o3 => gq_gr h l0 0 13 (fun o4 => gq_cv h o3 9 (f_ST_copyFrom h o3 o4) (fun r5 h6 => gq_gr h6 l0 0 11 (fun o7 => gq_get h6 l0 0 15 (fun v8 => gq_ast 0 True h6 o7 l1 v8 (fun h10 => gq_gr h10 l0 0 10 (fun o11 => gq_ast 1 True h10 o11 l1 1 (fun h12 => gq_gr h12 l0 0 3 (fun o13 => gq_cv h12 o13 6 (f_HI_forget h12 o13) (fun r14 h15 => some (1, h15)))))))))))) else some ((-1000000001), h))
set_option maxHeartbeats 4000000 in
set_option maxRecDepth 100000 in
theorem c_LE_keep (h : gx_H) (l0 : Nat) (l1 : Int) : ∀ r h1, f_LE_keep h l0 l1 = some (r, h1) → gx_Met gm_LE_keep [gx_R l0, gx_I l1] h r h1 := by
  refine gx_enter (l := [some (gx_R l0), some (gx_I l1)]) (by decide) (Nat.le_of_ble_eq_true rfl) rfl ?_
  unfold f_LE_keep
  refine gx_iload_n (i := 1) (by decide +kernel) rfl ?_
  refine gx_g (fun c1 => ?_)
  refine gx_if_lt (off := 8) (tgt := 9) c1 (by decide +kernel) (by decide) ?_ ?_
  · refine gx_ldc (a := (-1000000001)) kc_LE_172 (by decide +kernel) ?_
    exact gx_ireturn rfl rfl (by decide +kernel)
  · refine gx_iload_n (i := 1) (by decide +kernel) rfl ?_
    refine gx_iconst (n := 2) (by decide +kernel) ?_
    refine gx_icmp_lt (off := 6) (tgt := 12) c1 (by decide) (by decide +kernel) (by decide) ?_ ?_
    · refine gx_aload_n (i := 0) (by decide +kernel) rfl ?_
      refine gx_getr gk_LE (by decide) fl_LE_72 rfl (by decide +kernel) ?_
      refine gx_iload_n (i := 1) (by decide +kernel) rfl ?_
      refine gx_aald (by decide +kernel) ?_
      refine gx_aload_n (i := 0) (by decide +kernel) rfl ?_
      refine gx_getr gk_LE (by decide) fl_LE_87 rfl (by decide +kernel) ?_
      refine gx_cVv1 (Mc := gm_ST_copyFrom) (u' := (0, 0)) (c_ST_copyFrom _ _ _) vk_ST_copyFrom ml_LE_219 rfl rfl ⟨by decide, by decide, by decide, by decide⟩ (Nat.le_of_ble_eq_true rfl) (by decide +kernel) (fun r5 h6 => ?_)
      refine gx_aload_n (i := 0) (by decide +kernel) rfl ?_
      refine gx_getr gk_LE (by decide) fl_LE_80 rfl (by decide +kernel) ?_
      refine gx_iload_n (i := 1) (by decide +kernel) rfl ?_
      refine gx_aload_n (i := 0) (by decide +kernel) rfl ?_
      refine gx_geti gk_LE (by decide) fl_LE_93 (Or.inl rfl) (by decide +kernel) (fun c9 => ?_)
      refine gx_iastT c9 (by decide +kernel) ?_
      refine gx_aload_n (i := 0) (by decide +kernel) rfl ?_
      refine gx_getr gk_LE (by decide) fl_LE_76 rfl (by decide +kernel) ?_
      refine gx_iload_n (i := 1) (by decide +kernel) rfl ?_
      refine gx_iconst (n := 1) (by decide +kernel) ?_
      refine gx_zastT (by decide) (by decide +kernel) ?_
      refine gx_aload_n (i := 0) (by decide +kernel) rfl ?_
      refine gx_getr gk_LE (by decide) fl_LE_33 rfl (by decide +kernel) ?_
      refine gx_cVv0 (Mc := gm_HI_forget) (u' := (0, 0)) (c_HI_forget _ _) vk_HI_forget ml_LE_258 rfl rfl ⟨by decide, by decide, by decide, by decide⟩ (Nat.le_of_ble_eq_true rfl) (by decide +kernel) (fun r14 h15 => ?_)
      refine gx_iconst (n := 1) (by decide +kernel) ?_
      exact gx_ireturn rfl rfl (by decide +kernel)
    · refine gx_ldc (a := (-1000000001)) kc_LE_172 (by decide +kernel) ?_
      exact gx_ireturn rfl rfl (by decide +kernel)
def f_LE_goBack (h : gx_H) (l0 : Nat) (l1 : Int) : Option (Int × gx_H) :=
  gq_g (gx_i l1) (if l1 < 0 then some ((-1000000001), h) else if l1 < 2 then gq_gr h l0 0 10 (fun o2 => gq_ald 1 h o2 l1 (fun v3 => if v3 = 0 then some ((-1000000003), h) else gq_gr h l0 0 13 (fun o5 => gq_gr h l0 0 9 (fun o6 => gq_rld h o6 l1 (fun o7 => gq_cv h o5 9 (f_ST_copyFrom h o5 o7) (fun r8 h9 => gq_gr h9 l0 0 11 (fun o10 => gq_ald 0 h9 o10 l1 (fun v11 => gq_put True h9 l0 0 15 v11 (fun h13 => gq_gr h13 l0 0 3 (fun o14 => gq_cv h13 o14 6 (f_HI_forget h13 o14) (fun r15 h16 => gq_put True h16 l0 0 17 1 (fun h17 => some (1, h17))))))))))))) else some ((-1000000001), h))
set_option maxHeartbeats 4000000 in
set_option maxRecDepth 100000 in
theorem c_LE_goBack (h : gx_H) (l0 : Nat) (l1 : Int) : ∀ r h1, f_LE_goBack h l0 l1 = some (r, h1) → gx_Met gm_LE_goBack [gx_R l0, gx_I l1] h r h1 := by
  refine gx_enter (l := [some (gx_R l0), some (gx_I l1)]) (by decide) (Nat.le_of_ble_eq_true rfl) rfl ?_
  unfold f_LE_goBack
  refine gx_iload_n (i := 1) (by decide +kernel) rfl ?_
  refine gx_g (fun c1 => ?_)
  refine gx_if_lt (off := 8) (tgt := 9) c1 (by decide +kernel) (by decide) ?_ ?_
  · refine gx_ldc (a := (-1000000001)) kc_LE_172 (by decide +kernel) ?_
    exact gx_ireturn rfl rfl (by decide +kernel)
  · refine gx_iload_n (i := 1) (by decide +kernel) rfl ?_
    refine gx_iconst (n := 2) (by decide +kernel) ?_
    refine gx_icmp_lt (off := 6) (tgt := 12) c1 (by decide) (by decide +kernel) (by decide) ?_ ?_
    · refine gx_aload_n (i := 0) (by decide +kernel) rfl ?_
      refine gx_getr gk_LE (by decide) fl_LE_76 rfl (by decide +kernel) ?_
      refine gx_iload_n (i := 1) (by decide +kernel) rfl ?_
      refine gx_zaldi (by decide +kernel) (fun c4 => ?_)
      refine gx_if_ne (off := 6) (tgt := 24) c4 (by decide +kernel) (by decide) ?_ ?_
      · refine gx_aload_n (i := 0) (by decide +kernel) rfl ?_
        refine gx_getr gk_LE (by decide) fl_LE_87 rfl (by decide +kernel) ?_
        refine gx_aload_n (i := 0) (by decide +kernel) rfl ?_
        refine gx_getr gk_LE (by decide) fl_LE_72 rfl (by decide +kernel) ?_
        refine gx_iload_n (i := 1) (by decide +kernel) rfl ?_
        refine gx_aald (by decide +kernel) ?_
        refine gx_cVv1 (Mc := gm_ST_copyFrom) (u' := (0, 0)) (c_ST_copyFrom _ _ _) vk_ST_copyFrom ml_LE_219 rfl rfl ⟨by decide, by decide, by decide, by decide⟩ (Nat.le_of_ble_eq_true rfl) (by decide +kernel) (fun r8 h9 => ?_)
        refine gx_aload_n (i := 0) (by decide +kernel) rfl ?_
        refine gx_aload_n (i := 0) (by decide +kernel) rfl ?_
        refine gx_getr gk_LE (by decide) fl_LE_80 rfl (by decide +kernel) ?_
        refine gx_iload_n (i := 1) (by decide +kernel) rfl ?_
        refine gx_ialdi (by decide +kernel) (fun c12 => ?_)
        refine gx_putiT c12 gk_LE (by decide) fl_LE_93 rfl rfl (by decide +kernel) ?_
        refine gx_aload_n (i := 0) (by decide +kernel) rfl ?_
        refine gx_getr gk_LE (by decide) fl_LE_33 rfl (by decide +kernel) ?_
        refine gx_cVv0 (Mc := gm_HI_forget) (u' := (0, 0)) (c_HI_forget _ _) vk_HI_forget ml_LE_258 rfl rfl ⟨by decide, by decide, by decide, by decide⟩ (Nat.le_of_ble_eq_true rfl) (by decide +kernel) (fun r15 h16 => ?_)
        refine gx_aload_n (i := 0) (by decide +kernel) rfl ?_
        refine gx_iconst (n := 1) (by decide +kernel) ?_
        refine gx_putzT (by decide) gk_LE (by decide) fl_LE_101 rfl rfl (by decide +kernel) ?_
        refine gx_iconst (n := 1) (by decide +kernel) ?_
        exact gx_ireturn rfl rfl (by decide +kernel)
      · refine gx_ldc (a := (-1000000003)) kc_LE_211 (by decide +kernel) ?_
        exact gx_ireturn rfl rfl (by decide +kernel)
    · refine gx_ldc (a := (-1000000001)) kc_LE_172 (by decide +kernel) ?_
      exact gx_ireturn rfl rfl (by decide +kernel)
