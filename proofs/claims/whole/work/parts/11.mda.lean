def fb_MD_copyRow_2 (N2 : gx_H → Nat → Int → Int → Int → Option (Int × gx_H)) (h : gx_H) (l0 : Nat) (l1 : Int) (l2 : Int) (l3 : Int) : Option (Int × gx_H) :=
  gq_g (gx_i l3) (if l3 < 80 then gq_gr h l0 1 0 (fun o2 => gq_gr h l0 1 0 (fun o3 => gq_ald 0 h o3 (l1 + l3) (fun v4 => gq_ast 0 True h o2 (l2 + l3) v4 (fun h6 => N2 h6 l0 l1 l2 (l3 + 1))))) else some (0, h))
set_option maxHeartbeats 4000000 in
set_option maxRecDepth 100000 in
theorem yb_MD_copyRow_2 (N2 : gx_H → Nat → Int → Int → Int → Option (Int × gx_H)) (hN2 : ∀ (h : gx_H) (l0 : Nat) (l1 : Int) (l2 : Int) (l3 : Int), gx_Y gm_MD_copyRow (0, 0) 2 [some (gx_R l0), some (gx_I l1), some (gx_I l2), some (gx_I l3)] [] h (N2 h l0 l1 l2 l3)) (h : gx_H) (l0 : Nat) (l1 : Int) (l2 : Int) (l3 : Int) : gx_Y gm_MD_copyRow (0, 0) 2 [some (gx_R l0), some (gx_I l1), some (gx_I l2), some (gx_I l3)] [] h (fb_MD_copyRow_2 N2 h l0 l1 l2 l3) := by
  unfold fb_MD_copyRow_2
  refine gx_iload_n (i := 3) (by decide +kernel) rfl ?_
  refine gx_bipush (n := 80) (by decide +kernel) (by decide) ?_
  refine gx_g (fun c1 => ?_)
  refine gx_icmp_ge (off := 25) (tgt := 30) c1 (by decide) (by decide +kernel) (by decide) ?_ ?_
  · exact gx_return rfl rfl (by decide +kernel)
  · refine gx_aload_n (i := 0) (by decide +kernel) rfl ?_
    refine gx_getr gk_MD (by decide) fl_MD_7 rfl (by decide +kernel) ?_
    refine gx_iload_n (i := 2) (by decide +kernel) rfl ?_
    refine gx_iload_n (i := 3) (by decide +kernel) rfl ?_
    refine gx_iadd (by decide +kernel) ?_
    refine gx_aload_n (i := 0) (by decide +kernel) rfl ?_
    refine gx_getr gk_MD (by decide) fl_MD_7 rfl (by decide +kernel) ?_
    refine gx_iload_n (i := 1) (by decide +kernel) rfl ?_
    refine gx_iload_n (i := 3) (by decide +kernel) rfl ?_
    refine gx_iadd (by decide +kernel) ?_
    refine gx_ialdi (by decide +kernel) (fun c5 => ?_)
    refine gx_iastT c5 (by decide +kernel) ?_
    refine gx_iinc (i := 3) (n := 1) (l' := [some (gx_R _), some (gx_I _), some (gx_I _), some (gx_I _)]) (by decide +kernel) rfl rfl (Nat.le_of_ble_eq_true rfl) (by decide) rfl ?_
    refine gx_goto (off := -25) (tgt := 2) (by decide +kernel) (by decide) ?_
    exact gx_less' (hN2 _ _ _ _ _) ⟨rfl, rfl, rfl, rfl, trivial⟩
def f_MD_copyRow_2 : Nat → gx_H → Nat → Int → Int → Int → Option (Int × gx_H)
  | 0 => fun _ _ _ _ _ => none
  | fu + 1 => fb_MD_copyRow_2 (f_MD_copyRow_2 fu)
theorem y_MD_copyRow_2 : ∀ (fu : Nat) (h : gx_H) (l0 : Nat) (l1 : Int) (l2 : Int) (l3 : Int), gx_Y gm_MD_copyRow (0, 0) 2 [some (gx_R l0), some (gx_I l1), some (gx_I l2), some (gx_I l3)] [] h (f_MD_copyRow_2 fu h l0 l1 l2 l3) := by
  intro fu
  induction fu with
  | zero => intro h l0 l1 l2 l3; exact gx_none
  | succ fu ih => intro h l0 l1 l2 l3; exact yb_MD_copyRow_2 (f_MD_copyRow_2 fu) ih h l0 l1 l2 l3
def f_MD_copyRow (h : gx_H) (l0 : Nat) (l1 : Int) (l2 : Int) : Option (Int × gx_H) :=
  f_MD_copyRow_2 gx_fu h l0 l1 l2 0
set_option maxHeartbeats 4000000 in
set_option maxRecDepth 100000 in
theorem c_MD_copyRow (h : gx_H) (l0 : Nat) (l1 : Int) (l2 : Int) : ∀ r h1, f_MD_copyRow h l0 l1 l2 = some (r, h1) → gx_Met gm_MD_copyRow [gx_R l0, gx_I l1, gx_I l2] h r h1 := by
  refine gx_enter (l := [some (gx_R l0), some (gx_I l1), some (gx_I l2), none]) (by decide) (Nat.le_of_ble_eq_true rfl) rfl ?_
  unfold f_MD_copyRow
  refine gx_iconst (n := 0) (by decide +kernel) ?_
  refine gx_istore_n (i := 3) (l' := [some (gx_R _), some (gx_I _), some (gx_I _), some (gx_I _)]) (by decide +kernel) rfl (Nat.le_of_ble_eq_true rfl) (by decide) rfl ?_
  exact gx_less' (y_MD_copyRow_2 gx_fu _ _ _ _ _) ⟨rfl, rfl, rfl, rfl, trivial⟩
def fb_MD_begin_117 (N35 : gx_H → Nat → Int → Option (Int × gx_H)) (N117 : gx_H → Nat → Int → Int → Option (Int × gx_H)) (h : gx_H) (l0 : Nat) (l1 : Int) (l2 : Int) : Option (Int × gx_H) :=
  gq_get h l0 1 1 (fun v1 => gq_g (gx_i l2) (if l2 < v1 then gq_gr h l0 1 0 (fun o4 => gq_gr h l0 1 28 (fun o5 => gq_ald 0 h o5 ((4 * l1) + l2) (fun v6 => gq_ast 0 True h o4 ((1848 + (4 * l1)) + l2) v6 (fun h8 => N117 h8 l0 l1 (l2 + 1))))) else N35 h l0 (l1 + 1)))
set_option maxHeartbeats 4000000 in
set_option maxRecDepth 100000 in
theorem yb_MD_begin_117 (N35 : gx_H → Nat → Int → Option (Int × gx_H)) (hN35 : ∀ (h : gx_H) (l0 : Nat) (l1 : Int), gx_Y gm_MD_begin (0, 0) 35 [some (gx_R l0), some (gx_I l1), none] [] h (N35 h l0 l1)) (N117 : gx_H → Nat → Int → Int → Option (Int × gx_H)) (hN117 : ∀ (h : gx_H) (l0 : Nat) (l1 : Int) (l2 : Int), gx_Y gm_MD_begin (0, 0) 117 [some (gx_R l0), some (gx_I l1), some (gx_I l2)] [] h (N117 h l0 l1 l2)) (h : gx_H) (l0 : Nat) (l1 : Int) (l2 : Int) : gx_Y gm_MD_begin (0, 0) 117 [some (gx_R l0), some (gx_I l1), some (gx_I l2)] [] h (fb_MD_begin_117 N35 N117 h l0 l1 l2) := by
  unfold fb_MD_begin_117
  refine gx_iload_n (i := 2) (by decide +kernel) rfl ?_
  refine gx_aload_n (i := 0) (by decide +kernel) rfl ?_
  refine gx_geti gk_MD (by decide) fl_MD_13 (Or.inl rfl) (by decide +kernel) (fun c2 => ?_)
  refine gx_g (fun c3 => ?_)
  refine gx_icmp_ge (off := 33) (tgt := 155) c3 c2 (by decide +kernel) (by decide) ?_ ?_
  · refine gx_iinc (i := 1) (n := 1) (l' := [some (gx_R _), some (gx_I _), some (gx_I _)]) (by decide +kernel) rfl rfl (Nat.le_of_ble_eq_true rfl) (by decide) rfl ?_
    refine gx_goto (off := -123) (tgt := 35) (by decide +kernel) (by decide) ?_
    exact gx_less' (hN35 _ _ _) ⟨rfl, rfl, trivial⟩
  · refine gx_aload_n (i := 0) (by decide +kernel) rfl ?_
    refine gx_getr gk_MD (by decide) fl_MD_7 rfl (by decide +kernel) ?_
    refine gx_sipush (n := 1848) (by decide +kernel) (by decide) ?_
    refine gx_iconst (n := 4) (by decide +kernel) ?_
    refine gx_iload_n (i := 1) (by decide +kernel) rfl ?_
    refine gx_imul (by decide +kernel) ?_
    refine gx_iadd (by decide +kernel) ?_
    refine gx_iload_n (i := 2) (by decide +kernel) rfl ?_
    refine gx_iadd (by decide +kernel) ?_
    refine gx_aload_n (i := 0) (by decide +kernel) rfl ?_
    refine gx_getr gk_MD (by decide) fl_MD_56 rfl (by decide +kernel) ?_
    refine gx_iconst (n := 4) (by decide +kernel) ?_
    refine gx_iload_n (i := 1) (by decide +kernel) rfl ?_
    refine gx_imul (by decide +kernel) ?_
    refine gx_iload_n (i := 2) (by decide +kernel) rfl ?_
    refine gx_iadd (by decide +kernel) ?_
    refine gx_ialdi (by decide +kernel) (fun c7 => ?_)
    refine gx_iastT c7 (by decide +kernel) ?_
    refine gx_iinc (i := 2) (n := 1) (l' := [some (gx_R _), some (gx_I _), some (gx_I _)]) (by decide +kernel) rfl rfl (Nat.le_of_ble_eq_true rfl) (by decide) rfl ?_
    refine gx_goto (off := -35) (tgt := 117) (by decide +kernel) (by decide) ?_
    exact gx_less' (hN117 _ _ _ _) ⟨rfl, rfl, rfl, trivial⟩
def f_MD_begin_117 (N35 : gx_H → Nat → Int → Option (Int × gx_H)) : Nat → gx_H → Nat → Int → Int → Option (Int × gx_H)
  | 0 => fun _ _ _ _ => none
  | fu + 1 => fb_MD_begin_117 N35 (f_MD_begin_117 N35 fu)
theorem y_MD_begin_117 (N35 : gx_H → Nat → Int → Option (Int × gx_H)) (hN35 : ∀ (h : gx_H) (l0 : Nat) (l1 : Int), gx_Y gm_MD_begin (0, 0) 35 [some (gx_R l0), some (gx_I l1), none] [] h (N35 h l0 l1)) : ∀ (fu : Nat) (h : gx_H) (l0 : Nat) (l1 : Int) (l2 : Int), gx_Y gm_MD_begin (0, 0) 117 [some (gx_R l0), some (gx_I l1), some (gx_I l2)] [] h (f_MD_begin_117 N35 fu h l0 l1 l2) := by
  intro fu
  induction fu with
  | zero => intro h l0 l1 l2; exact gx_none
  | succ fu ih => intro h l0 l1 l2; exact yb_MD_begin_117 N35 hN35 (f_MD_begin_117 N35 fu) ih h l0 l1 l2
def fb_MD_begin_35 (N35 : gx_H → Nat → Int → Option (Int × gx_H)) (h : gx_H) (l0 : Nat) (l1 : Int) : Option (Int × gx_H) :=
  gq_get h l0 1 1 (fun v1 => gq_g (gx_i l1) (if l1 < v1 then gq_gr h l0 1 0 (fun o9 => gq_gr h l0 1 29 (fun o10 => gq_ald 0 h o10 l1 (fun v11 => gq_ast 0 True h o9 (1840 + l1) v11 (fun h13 => gq_gr h13 l0 1 0 (fun o14 => gq_ast 0 True h13 o14 (1844 + l1) 1 (fun h15 => gq_gr h15 l0 1 0 (fun o16 => gq_ast 0 True h15 o16 ((1864 + (4 * l1)) + l1) (-1) (fun h17 => gq_gr h17 l0 1 0 (fun o18 => gq_ast 0 True h17 o18 ((1880 + (4 * l1)) + l1) 1 (fun h19 => gq_gr h19 l0 1 0 (fun o20 => gq_ast 0 True h19 o20 ((1896 + (4 * l1)) + l1) 1 (fun h21 => f_MD_begin_117 N35 gx_fu h21 l0 l1 0)))))))))))) else gq_cv h l0 1 (f_MD_copyRow h l0 1840 0) (fun r4 h5 => gq_put True h5 l0 1 2 0 (fun h6 => gq_put True h6 l0 1 3 0 (fun h7 => gq_put True h7 l0 1 11 0 (fun h8 => some (0, h8)))))))
set_option maxHeartbeats 4000000 in
set_option maxRecDepth 100000 in
theorem yb_MD_begin_35 (N35 : gx_H → Nat → Int → Option (Int × gx_H)) (hN35 : ∀ (h : gx_H) (l0 : Nat) (l1 : Int), gx_Y gm_MD_begin (0, 0) 35 [some (gx_R l0), some (gx_I l1), none] [] h (N35 h l0 l1)) (h : gx_H) (l0 : Nat) (l1 : Int) : gx_Y gm_MD_begin (0, 0) 35 [some (gx_R l0), some (gx_I l1), none] [] h (fb_MD_begin_35 N35 h l0 l1) := by
  unfold fb_MD_begin_35
  refine gx_iload_n (i := 1) (by decide +kernel) rfl ?_
  refine gx_aload_n (i := 0) (by decide +kernel) rfl ?_
  refine gx_geti gk_MD (by decide) fl_MD_13 (Or.inl rfl) (by decide +kernel) (fun c2 => ?_)
  refine gx_g (fun c3 => ?_)
  refine gx_icmp_ge (off := 121) (tgt := 161) c3 c2 (by decide +kernel) (by decide) ?_ ?_
  · refine gx_aload_n (i := 0) (by decide +kernel) rfl ?_
    refine gx_sipush (n := 1840) (by decide +kernel) (by decide) ?_
    refine gx_iconst (n := 0) (by decide +kernel) ?_
    refine gx_cVv2 (Mc := gm_MD_copyRow) (u' := (0, 0)) (c_MD_copyRow _ _ _ _) vk_MD_copyRow ml_MD_116 rfl rfl ⟨by decide, by decide, by decide, by decide⟩ (Nat.le_of_ble_eq_true rfl) (by decide +kernel) (fun r4 h5 => ?_)
    refine gx_aload_n (i := 0) (by decide +kernel) rfl ?_
    refine gx_iconst (n := 0) (by decide +kernel) ?_
    refine gx_putiT (by decide) gk_MD (by decide) fl_MD_230 rfl rfl (by decide +kernel) ?_
    refine gx_aload_n (i := 0) (by decide +kernel) rfl ?_
    refine gx_iconst (n := 0) (by decide +kernel) ?_
    refine gx_putiT (by decide) gk_MD (by decide) fl_MD_233 rfl rfl (by decide +kernel) ?_
    refine gx_aload_n (i := 0) (by decide +kernel) rfl ?_
    refine gx_iconst (n := 0) (by decide +kernel) ?_
    refine gx_putiT (by decide) gk_MD (by decide) fl_MD_236 rfl rfl (by decide +kernel) ?_
    exact gx_return rfl rfl (by decide +kernel)
  · refine gx_aload_n (i := 0) (by decide +kernel) rfl ?_
    refine gx_getr gk_MD (by decide) fl_MD_7 rfl (by decide +kernel) ?_
    refine gx_sipush (n := 1840) (by decide +kernel) (by decide) ?_
    refine gx_iload_n (i := 1) (by decide +kernel) rfl ?_
    refine gx_iadd (by decide +kernel) ?_
    refine gx_aload_n (i := 0) (by decide +kernel) rfl ?_
    refine gx_getr gk_MD (by decide) fl_MD_59 rfl (by decide +kernel) ?_
    refine gx_iload_n (i := 1) (by decide +kernel) rfl ?_
    refine gx_ialdi (by decide +kernel) (fun c12 => ?_)
    refine gx_iastT c12 (by decide +kernel) ?_
    refine gx_aload_n (i := 0) (by decide +kernel) rfl ?_
    refine gx_getr gk_MD (by decide) fl_MD_7 rfl (by decide +kernel) ?_
    refine gx_sipush (n := 1844) (by decide +kernel) (by decide) ?_
    refine gx_iload_n (i := 1) (by decide +kernel) rfl ?_
    refine gx_iadd (by decide +kernel) ?_
    refine gx_iconst (n := 1) (by decide +kernel) ?_
    refine gx_iastT (by decide) (by decide +kernel) ?_
    refine gx_aload_n (i := 0) (by decide +kernel) rfl ?_
    refine gx_getr gk_MD (by decide) fl_MD_7 rfl (by decide +kernel) ?_
    refine gx_sipush (n := 1864) (by decide +kernel) (by decide) ?_
    refine gx_iconst (n := 4) (by decide +kernel) ?_
    refine gx_iload_n (i := 1) (by decide +kernel) rfl ?_
    refine gx_imul (by decide +kernel) ?_
    refine gx_iadd (by decide +kernel) ?_
    refine gx_iload_n (i := 1) (by decide +kernel) rfl ?_
    refine gx_iadd (by decide +kernel) ?_
    refine gx_iconst (n := (-1)) (by decide +kernel) ?_
    refine gx_iastT (by decide) (by decide +kernel) ?_
    refine gx_aload_n (i := 0) (by decide +kernel) rfl ?_
    refine gx_getr gk_MD (by decide) fl_MD_7 rfl (by decide +kernel) ?_
    refine gx_sipush (n := 1880) (by decide +kernel) (by decide) ?_
    refine gx_iconst (n := 4) (by decide +kernel) ?_
    refine gx_iload_n (i := 1) (by decide +kernel) rfl ?_
    refine gx_imul (by decide +kernel) ?_
    refine gx_iadd (by decide +kernel) ?_
    refine gx_iload_n (i := 1) (by decide +kernel) rfl ?_
    refine gx_iadd (by decide +kernel) ?_
    refine gx_iconst (n := 1) (by decide +kernel) ?_
    refine gx_iastT (by decide) (by decide +kernel) ?_
    refine gx_aload_n (i := 0) (by decide +kernel) rfl ?_
    refine gx_getr gk_MD (by decide) fl_MD_7 rfl (by decide +kernel) ?_
    refine gx_sipush (n := 1896) (by decide +kernel) (by decide) ?_
    refine gx_iconst (n := 4) (by decide +kernel) ?_
    refine gx_iload_n (i := 1) (by decide +kernel) rfl ?_
    refine gx_imul (by decide +kernel) ?_
    refine gx_iadd (by decide +kernel) ?_
    refine gx_iload_n (i := 1) (by decide +kernel) rfl ?_
    refine gx_iadd (by decide +kernel) ?_
    refine gx_iconst (n := 1) (by decide +kernel) ?_
    refine gx_iastT (by decide) (by decide +kernel) ?_
    refine gx_iconst (n := 0) (by decide +kernel) ?_
    refine gx_istore_n (i := 2) (l' := [some (gx_R _), some (gx_I _), some (gx_I _)]) (by decide +kernel) rfl (Nat.le_of_ble_eq_true rfl) (by decide) rfl ?_
    exact gx_less' (y_MD_begin_117 _ hN35 gx_fu _ _ _ _) ⟨rfl, rfl, rfl, trivial⟩
def f_MD_begin_35 : Nat → gx_H → Nat → Int → Option (Int × gx_H)
  | 0 => fun _ _ _ => none
  | fu + 1 => fb_MD_begin_35 (f_MD_begin_35 fu)
theorem y_MD_begin_35 : ∀ (fu : Nat) (h : gx_H) (l0 : Nat) (l1 : Int), gx_Y gm_MD_begin (0, 0) 35 [some (gx_R l0), some (gx_I l1), none] [] h (f_MD_begin_35 fu h l0 l1) := by
  intro fu
  induction fu with
  | zero => intro h l0 l1; exact gx_none
  | succ fu ih => intro h l0 l1; exact yb_MD_begin_35 (f_MD_begin_35 fu) ih h l0 l1
def fb_MD_begin_10 (N10 : gx_H → Nat → Int → Option (Int × gx_H)) (h : gx_H) (l0 : Nat) (l1 : Int) : Option (Int × gx_H) :=
  gq_g (gx_i l1) (if l1 < 80 then gq_gr h l0 1 0 (fun o2 => gq_ast 0 True h o2 (1840 + l1) 0 (fun h3 => N10 h3 l0 (l1 + 1))) else f_MD_begin_35 gx_fu h l0 0)
set_option maxHeartbeats 4000000 in
set_option maxRecDepth 100000 in
theorem yb_MD_begin_10 (N10 : gx_H → Nat → Int → Option (Int × gx_H)) (hN10 : ∀ (h : gx_H) (l0 : Nat) (l1 : Int), gx_Y gm_MD_begin (0, 0) 10 [some (gx_R l0), some (gx_I l1), none] [] h (N10 h l0 l1)) (h : gx_H) (l0 : Nat) (l1 : Int) : gx_Y gm_MD_begin (0, 0) 10 [some (gx_R l0), some (gx_I l1), none] [] h (fb_MD_begin_10 N10 h l0 l1) := by
  unfold fb_MD_begin_10
  refine gx_iload_n (i := 1) (by decide +kernel) rfl ?_
  refine gx_bipush (n := 80) (by decide +kernel) (by decide) ?_
  refine gx_g (fun c1 => ?_)
  refine gx_icmp_ge (off := 20) (tgt := 33) c1 (by decide) (by decide +kernel) (by decide) ?_ ?_
  · refine gx_iconst (n := 0) (by decide +kernel) ?_
    refine gx_istore_n (i := 1) (l' := [some (gx_R _), some (gx_I _), none]) (by decide +kernel) rfl (Nat.le_of_ble_eq_true rfl) (by decide) rfl ?_
    exact gx_less' (y_MD_begin_35 gx_fu _ _ _) ⟨rfl, rfl, trivial⟩
  · refine gx_aload_n (i := 0) (by decide +kernel) rfl ?_
    refine gx_getr gk_MD (by decide) fl_MD_7 rfl (by decide +kernel) ?_
    refine gx_sipush (n := 1840) (by decide +kernel) (by decide) ?_
    refine gx_iload_n (i := 1) (by decide +kernel) rfl ?_
    refine gx_iadd (by decide +kernel) ?_
    refine gx_iconst (n := 0) (by decide +kernel) ?_
    refine gx_iastT (by decide) (by decide +kernel) ?_
    refine gx_iinc (i := 1) (n := 1) (l' := [some (gx_R _), some (gx_I _), none]) (by decide +kernel) rfl rfl (Nat.le_of_ble_eq_true rfl) (by decide) rfl ?_
    refine gx_goto (off := -20) (tgt := 10) (by decide +kernel) (by decide) ?_
    exact gx_less' (hN10 _ _ _) ⟨rfl, rfl, trivial⟩
def f_MD_begin_10 : Nat → gx_H → Nat → Int → Option (Int × gx_H)
  | 0 => fun _ _ _ => none
  | fu + 1 => fb_MD_begin_10 (f_MD_begin_10 fu)
theorem y_MD_begin_10 : ∀ (fu : Nat) (h : gx_H) (l0 : Nat) (l1 : Int), gx_Y gm_MD_begin (0, 0) 10 [some (gx_R l0), some (gx_I l1), none] [] h (f_MD_begin_10 fu h l0 l1) := by
  intro fu
  induction fu with
  | zero => intro h l0 l1; exact gx_none
  | succ fu ih => intro h l0 l1; exact yb_MD_begin_10 (f_MD_begin_10 fu) ih h l0 l1
def f_MD_begin (h : gx_H) (l0 : Nat) : Option (Int × gx_H) :=
  gq_get h l0 1 27 (fun v1 => gq_put True h l0 1 1 v1 (fun h3 => f_MD_begin_10 gx_fu h3 l0 0))
set_option maxHeartbeats 4000000 in
set_option maxRecDepth 100000 in
theorem c_MD_begin (h : gx_H) (l0 : Nat) : ∀ r h1, f_MD_begin h l0 = some (r, h1) → gx_Met gm_MD_begin [gx_R l0] h r h1 := by
  refine gx_enter (l := [some (gx_R l0), none, none]) (by decide) (Nat.le_of_ble_eq_true rfl) rfl ?_
  unfold f_MD_begin
  refine gx_aload_n (i := 0) (by decide +kernel) rfl ?_
  refine gx_aload_n (i := 0) (by decide +kernel) rfl ?_
  refine gx_geti gk_MD (by decide) fl_MD_62 (Or.inl rfl) (by decide +kernel) (fun c2 => ?_)
  refine gx_putiT c2 gk_MD (by decide) fl_MD_13 rfl rfl (by decide +kernel) ?_
  refine gx_iconst (n := 0) (by decide +kernel) ?_
  refine gx_istore_n (i := 1) (l' := [some (gx_R _), some (gx_I _), none]) (by decide +kernel) rfl (Nat.le_of_ble_eq_true rfl) (by decide) rfl ?_
  exact gx_less' (y_MD_begin_10 gx_fu _ _ _) ⟨rfl, rfl, trivial⟩
def f_MD_init (h : gx_H) (l0 : Nat) : Option (Int × gx_H) :=
  gq_na h 0 2000 0 (fun o1 h2 => gq_put True h2 l0 1 0 (o1 : Int) (fun h3 => gq_put True h3 l0 1 1 2 (fun h4 => gq_na h4 0 2 0 (fun o5 h6 => gq_put True h6 l0 1 5 (o5 : Int) (fun h7 => gq_na h7 0 100 0 (fun o8 h9 => gq_put True h9 l0 1 6 (o8 : Int) (fun h10 => gq_put True h10 l0 1 8 (-1) (fun h11 => gq_na h11 0 20 0 (fun o12 h13 => gq_put True h13 l0 1 9 (o12 : Int) (fun h14 => gq_na h14 0 20 0 (fun o15 h16 => gq_put True h16 l0 1 10 (o15 : Int) (fun h17 => gq_na h17 0 4 0 (fun o18 h19 => gq_put True h19 l0 1 12 (o18 : Int) (fun h20 => gq_na h20 0 3200 0 (fun o21 h22 => gq_put True h22 l0 1 16 (o21 : Int) (fun h23 => gq_na h23 0 3200 0 (fun o24 h25 => gq_put True h25 l0 1 17 (o24 : Int) (fun h26 => gq_na h26 0 800 0 (fun o27 h28 => gq_put True h28 l0 1 18 (o27 : Int) (fun h29 => gq_na h29 0 200 0 (fun o30 h31 => gq_put True h31 l0 1 19 (o30 : Int) (fun h32 => gq_na h32 0 200 0 (fun o33 h34 => gq_put True h34 l0 1 20 (o33 : Int) (fun h35 => gq_na h35 0 200 0 (fun o36 h37 => gq_put True h37 l0 1 21 (o36 : Int) (fun h38 => gq_na h38 0 80 0 (fun o39 h40 => gq_put True h40 l0 1 23 (o39 : Int) (fun h41 => gq_na h41 0 16 0 (fun o42 h43 => gq_put True h43 l0 1 28 (o42 : Int) (fun h44 => gq_na h44 0 4 0 (fun o45 h46 => gq_put True h46 l0 1 29 (o45 : Int) (fun h47 => gq_put True h47 l0 1 27 2 (fun h48 => gq_gr h48 l0 1 29 (fun o49 => gq_ast 0 True h48 o49 0 1 (fun h50 => gq_gr h50 l0 1 29 (fun o51 => gq_ast 0 True h50 o51 1 1 (fun h52 => gq_gr h52 l0 1 28 (fun o53 => gq_ast 0 True h52 o53 1 1 (fun h54 => gq_gr h54 l0 1 28 (fun o55 => gq_ast 0 True h54 o55 4 (-1) (fun h56 => gq_cv h56 l0 1 (f_MD_begin h56 l0) (fun r57 h58 => some (0, h58)))))))))))))))))))))))))))))))))))))))))))
set_option maxHeartbeats 4000000 in
set_option maxRecDepth 100000 in
theorem c_MD_init (h : gx_H) (l0 : Nat) : ∀ r h1, f_MD_init h l0 = some (r, h1) → gx_Met gm_MD_init [gx_R l0] h r h1 := by
  refine gx_enter (l := [some (gx_R l0)]) (by decide) (Nat.le_of_ble_eq_true rfl) rfl ?_
  unfold f_MD_init
  refine gx_aload_n (i := 0) (by decide +kernel) rfl ?_
  refine gx_obj ml_MD_1 (by decide) (Nat.le_of_ble_eq_true rfl) (by decide +kernel) ?_
  refine gx_aload_n (i := 0) (by decide +kernel) rfl ?_
  refine gx_sipush (n := 2000) (by decide +kernel) (by decide) ?_
  refine gx_newi (N := 2000) rfl (by decide) ⟨by decide, by decide⟩ (by decide +kernel) ?_
  show gx_Y _ (1, 2000) _ _ _ _ _
  refine gx_putFr gk_MD (by decide) fl_MD_7 rfl rfl rfl rfl (by decide +kernel) ?_
  refine gx_aload_n (i := 0) (by decide +kernel) rfl ?_
  refine gx_iconst (n := 2) (by decide +kernel) ?_
  refine gx_putiT (by decide) gk_MD (by decide) fl_MD_13 rfl rfl (by decide +kernel) ?_
  refine gx_aload_n (i := 0) (by decide +kernel) rfl ?_
  refine gx_iconst (n := 2) (by decide +kernel) ?_
  refine gx_newi (N := 2) rfl (by decide) ⟨by decide, by decide⟩ (by decide +kernel) ?_
  show gx_Y _ (2, 2002) _ _ _ _ _
  refine gx_putFr gk_MD (by decide) fl_MD_17 rfl rfl rfl rfl (by decide +kernel) ?_
  refine gx_aload_n (i := 0) (by decide +kernel) rfl ?_
  refine gx_bipush (n := 100) (by decide +kernel) (by decide) ?_
  refine gx_newi (N := 100) rfl (by decide) ⟨by decide, by decide⟩ (by decide +kernel) ?_
  show gx_Y _ (3, 2102) _ _ _ _ _
  refine gx_putFr gk_MD (by decide) fl_MD_20 rfl rfl rfl rfl (by decide +kernel) ?_
  refine gx_aload_n (i := 0) (by decide +kernel) rfl ?_
  refine gx_iconst (n := (-1)) (by decide +kernel) ?_
  refine gx_putiT (by decide) gk_MD (by decide) fl_MD_23 rfl rfl (by decide +kernel) ?_
  refine gx_aload_n (i := 0) (by decide +kernel) rfl ?_
  refine gx_bipush (n := 20) (by decide +kernel) (by decide) ?_
  refine gx_newi (N := 20) rfl (by decide) ⟨by decide, by decide⟩ (by decide +kernel) ?_
  show gx_Y _ (4, 2122) _ _ _ _ _
  refine gx_putFr gk_MD (by decide) fl_MD_26 rfl rfl rfl rfl (by decide +kernel) ?_
  refine gx_aload_n (i := 0) (by decide +kernel) rfl ?_
  refine gx_bipush (n := 20) (by decide +kernel) (by decide) ?_
  refine gx_newi (N := 20) rfl (by decide) ⟨by decide, by decide⟩ (by decide +kernel) ?_
  show gx_Y _ (5, 2142) _ _ _ _ _
  refine gx_putFr gk_MD (by decide) fl_MD_29 rfl rfl rfl rfl (by decide +kernel) ?_
  refine gx_aload_n (i := 0) (by decide +kernel) rfl ?_
  refine gx_iconst (n := 4) (by decide +kernel) ?_
  refine gx_newi (N := 4) rfl (by decide) ⟨by decide, by decide⟩ (by decide +kernel) ?_
  show gx_Y _ (6, 2146) _ _ _ _ _
  refine gx_putFr gk_MD (by decide) fl_MD_32 rfl rfl rfl rfl (by decide +kernel) ?_
  refine gx_aload_n (i := 0) (by decide +kernel) rfl ?_
  refine gx_sipush (n := 3200) (by decide +kernel) (by decide) ?_
  refine gx_newi (N := 3200) rfl (by decide) ⟨by decide, by decide⟩ (by decide +kernel) ?_
  show gx_Y _ (7, 5346) _ _ _ _ _
  refine gx_putFr gk_MD (by decide) fl_MD_35 rfl rfl rfl rfl (by decide +kernel) ?_
  refine gx_aload_n (i := 0) (by decide +kernel) rfl ?_
  refine gx_sipush (n := 3200) (by decide +kernel) (by decide) ?_
  refine gx_newi (N := 3200) rfl (by decide) ⟨by decide, by decide⟩ (by decide +kernel) ?_
  show gx_Y _ (8, 8546) _ _ _ _ _
  refine gx_putFr gk_MD (by decide) fl_MD_38 rfl rfl rfl rfl (by decide +kernel) ?_
  refine gx_aload_n (i := 0) (by decide +kernel) rfl ?_
  refine gx_sipush (n := 800) (by decide +kernel) (by decide) ?_
  refine gx_newi (N := 800) rfl (by decide) ⟨by decide, by decide⟩ (by decide +kernel) ?_
  show gx_Y _ (9, 9346) _ _ _ _ _
  refine gx_putFr gk_MD (by decide) fl_MD_41 rfl rfl rfl rfl (by decide +kernel) ?_
  refine gx_aload_n (i := 0) (by decide +kernel) rfl ?_
  refine gx_sipush (n := 200) (by decide +kernel) (by decide) ?_
  refine gx_newi (N := 200) rfl (by decide) ⟨by decide, by decide⟩ (by decide +kernel) ?_
  show gx_Y _ (10, 9546) _ _ _ _ _
  refine gx_putFr gk_MD (by decide) fl_MD_44 rfl rfl rfl rfl (by decide +kernel) ?_
  refine gx_aload_n (i := 0) (by decide +kernel) rfl ?_
  refine gx_sipush (n := 200) (by decide +kernel) (by decide) ?_
  refine gx_newi (N := 200) rfl (by decide) ⟨by decide, by decide⟩ (by decide +kernel) ?_
  show gx_Y _ (11, 9746) _ _ _ _ _
  refine gx_putFr gk_MD (by decide) fl_MD_47 rfl rfl rfl rfl (by decide +kernel) ?_
  refine gx_aload_n (i := 0) (by decide +kernel) rfl ?_
  refine gx_sipush (n := 200) (by decide +kernel) (by decide) ?_
  refine gx_newi (N := 200) rfl (by decide) ⟨by decide, by decide⟩ (by decide +kernel) ?_
  show gx_Y _ (12, 9946) _ _ _ _ _
  refine gx_putFr gk_MD (by decide) fl_MD_50 rfl rfl rfl rfl (by decide +kernel) ?_
  refine gx_aload_n (i := 0) (by decide +kernel) rfl ?_
  refine gx_bipush (n := 80) (by decide +kernel) (by decide) ?_
  refine gx_newi (N := 80) rfl (by decide) ⟨by decide, by decide⟩ (by decide +kernel) ?_
  show gx_Y _ (13, 10026) _ _ _ _ _
  refine gx_putFr gk_MD (by decide) fl_MD_53 rfl rfl rfl rfl (by decide +kernel) ?_
  refine gx_aload_n (i := 0) (by decide +kernel) rfl ?_
  refine gx_bipush (n := 16) (by decide +kernel) (by decide) ?_
  refine gx_newi (N := 16) rfl (by decide) ⟨by decide, by decide⟩ (by decide +kernel) ?_
  show gx_Y _ (14, 10042) _ _ _ _ _
  refine gx_putFr gk_MD (by decide) fl_MD_56 rfl rfl rfl rfl (by decide +kernel) ?_
  refine gx_aload_n (i := 0) (by decide +kernel) rfl ?_
  refine gx_iconst (n := 4) (by decide +kernel) ?_
  refine gx_newi (N := 4) rfl (by decide) ⟨by decide, by decide⟩ (by decide +kernel) ?_
  show gx_Y _ (15, 10046) _ _ _ _ _
  refine gx_putFr gk_MD (by decide) fl_MD_59 rfl rfl rfl rfl (by decide +kernel) ?_
  refine gx_aload_n (i := 0) (by decide +kernel) rfl ?_
  refine gx_iconst (n := 2) (by decide +kernel) ?_
  refine gx_putiT (by decide) gk_MD (by decide) fl_MD_62 rfl rfl (by decide +kernel) ?_
  refine gx_aload_n (i := 0) (by decide +kernel) rfl ?_
  refine gx_getr gk_MD (by decide) fl_MD_59 rfl (by decide +kernel) ?_
  refine gx_iconst (n := 0) (by decide +kernel) ?_
  refine gx_iconst (n := 1) (by decide +kernel) ?_
  refine gx_iastT (by decide) (by decide +kernel) ?_
  refine gx_aload_n (i := 0) (by decide +kernel) rfl ?_
  refine gx_getr gk_MD (by decide) fl_MD_59 rfl (by decide +kernel) ?_
  refine gx_iconst (n := 1) (by decide +kernel) ?_
  refine gx_iconst (n := 1) (by decide +kernel) ?_
  refine gx_iastT (by decide) (by decide +kernel) ?_
  refine gx_aload_n (i := 0) (by decide +kernel) rfl ?_
  refine gx_getr gk_MD (by decide) fl_MD_56 rfl (by decide +kernel) ?_
  refine gx_iconst (n := 1) (by decide +kernel) ?_
  refine gx_iconst (n := 1) (by decide +kernel) ?_
  refine gx_iastT (by decide) (by decide +kernel) ?_
  refine gx_aload_n (i := 0) (by decide +kernel) rfl ?_
  refine gx_getr gk_MD (by decide) fl_MD_56 rfl (by decide +kernel) ?_
  refine gx_iconst (n := 4) (by decide +kernel) ?_
  refine gx_iconst (n := (-1)) (by decide +kernel) ?_
  refine gx_iastT (by decide) (by decide +kernel) ?_
  refine gx_aload_n (i := 0) (by decide +kernel) rfl ?_
  refine gx_cVv0 (Mc := gm_MD_begin) (u' := (15, 10046)) (c_MD_begin _ _) vk_MD_begin ml_MD_65 rfl rfl ⟨by decide, by decide, by decide, by decide⟩ (Nat.le_of_ble_eq_true rfl) (by decide +kernel) (fun r57 h58 => ?_)
  exact gx_return rfl rfl (by decide +kernel)
def fb_MD_in_14 (h : gx_H) : Option (Int × gx_H) :=
  some (0, h)
set_option maxHeartbeats 4000000 in
set_option maxRecDepth 100000 in
theorem y_MD_in_14 (h : gx_H) : gx_Y gm_MD_in (0, 0) 14 [none, none, none] [] h (fb_MD_in_14 h) := by
  unfold fb_MD_in_14
  refine gx_iconst (n := 0) (by decide +kernel) ?_
  exact gx_zreturn (by decide) rfl rfl (by decide +kernel)
def f_MD_in (h : gx_H) (l0 : Int) (l1 : Int) (l2 : Int) : Option (Int × gx_H) :=
  gq_g (gx_i l0) (gq_g (gx_i l1) (if l0 < l1 then fb_MD_in_14 h  else gq_g (gx_i l2) (if l2 < l0 then fb_MD_in_14 h  else some (1, h))))
set_option maxHeartbeats 4000000 in
set_option maxRecDepth 100000 in
theorem c_MD_in (h : gx_H) (l0 : Int) (l1 : Int) (l2 : Int) : ∀ r h1, f_MD_in h l0 l1 l2 = some (r, h1) → gx_Met gm_MD_in [gx_I l0, gx_I l1, gx_I l2] h r h1 := by
  refine gx_enter (l := [some (gx_I l0), some (gx_I l1), some (gx_I l2)]) (by decide) (Nat.le_of_ble_eq_true rfl) rfl ?_
  unfold f_MD_in
  refine gx_iload_n (i := 0) (by decide +kernel) rfl ?_
  refine gx_iload_n (i := 1) (by decide +kernel) rfl ?_
  refine gx_g (fun c1 => ?_)
  refine gx_g (fun c2 => ?_)
  refine gx_icmp_lt (off := 12) (tgt := 14) c1 c2 (by decide +kernel) (by decide) ?_ ?_
  · exact gx_less' (y_MD_in_14 _) trivial
  · refine gx_iload_n (i := 0) (by decide +kernel) rfl ?_
    refine gx_iload_n (i := 2) (by decide +kernel) rfl ?_
    refine gx_g (fun c3 => ?_)
    refine gx_icmp_gt (off := 7) (tgt := 14) c1 c3 (by decide +kernel) (by decide) ?_ ?_
    · exact gx_less' (y_MD_in_14 _) trivial
    · refine gx_iconst (n := 1) (by decide +kernel) ?_
      refine gx_goto (off := 4) (tgt := 15) (by decide +kernel) (by decide) ?_
      exact gx_zreturn (by decide) rfl rfl (by decide +kernel)
def f_MD_isLetter (h : gx_H) (l0 : Nat) (l1 : Int) : Option (Int × gx_H) :=
  gq_get h l0 1 1 (fun v1 => gq_call (f_MD_in h l1 0 (v1 - 1)) (fun r3 h4 => gq_g ((r3 : Int) = 0 ∨ (r3 : Int) = 1) (some (r3, h4))))
set_option maxHeartbeats 4000000 in
set_option maxRecDepth 100000 in
theorem c_MD_isLetter (h : gx_H) (l0 : Nat) (l1 : Int) : ∀ r h1, f_MD_isLetter h l0 l1 = some (r, h1) → gx_Met gm_MD_isLetter [gx_R l0, gx_I l1] h r h1 := by
  refine gx_enter (l := [some (gx_R l0), some (gx_I l1)]) (by decide) (Nat.le_of_ble_eq_true rfl) rfl ?_
  unfold f_MD_isLetter
  refine gx_iload_n (i := 1) (by decide +kernel) rfl ?_
  refine gx_iconst (n := 0) (by decide +kernel) ?_
  refine gx_aload_n (i := 0) (by decide +kernel) rfl ?_
  refine gx_geti gk_MD (by decide) fl_MD_13 (Or.inl rfl) (by decide +kernel) (fun c2 => ?_)
  refine gx_iconst (n := 1) (by decide +kernel) ?_
  refine gx_isub (by decide +kernel) ?_
  refine gx_cSi3 (Mc := gm_MD_in) (u' := (0, 0)) (c_MD_in _ _ _ _) sk_MD_in ml_MD_68 rfl rfl ⟨by decide, by decide, by decide, by decide⟩ (Nat.le_of_ble_eq_true rfl) (by decide +kernel) (fun r3 h4 => ?_)
  refine gx_g (fun c5 => ?_)
  exact gx_zreturn c5 rfl rfl (by decide +kernel)
def f_MD_b (h : gx_H) (l0 : Nat) (l1 : Int) (l2 : Int) (l3 : Int) : Option (Int × gx_H) :=
  gq_gr h l0 1 0 (fun o1 => gq_ald 0 h o1 (((l1 + 8) + (4 * l2)) + l3) (fun v2 => some (v2, h)))
set_option maxHeartbeats 4000000 in
set_option maxRecDepth 100000 in
theorem c_MD_b (h : gx_H) (l0 : Nat) (l1 : Int) (l2 : Int) (l3 : Int) : ∀ r h1, f_MD_b h l0 l1 l2 l3 = some (r, h1) → gx_Met gm_MD_b [gx_R l0, gx_I l1, gx_I l2, gx_I l3] h r h1 := by
  refine gx_enter (l := [some (gx_R l0), some (gx_I l1), some (gx_I l2), some (gx_I l3)]) (by decide) (Nat.le_of_ble_eq_true rfl) rfl ?_
  unfold f_MD_b
  refine gx_aload_n (i := 0) (by decide +kernel) rfl ?_
  refine gx_getr gk_MD (by decide) fl_MD_7 rfl (by decide +kernel) ?_
  refine gx_iload_n (i := 1) (by decide +kernel) rfl ?_
  refine gx_bipush (n := 8) (by decide +kernel) (by decide) ?_
  refine gx_iadd (by decide +kernel) ?_
  refine gx_iconst (n := 4) (by decide +kernel) ?_
  refine gx_iload_n (i := 2) (by decide +kernel) rfl ?_
  refine gx_imul (by decide +kernel) ?_
  refine gx_iadd (by decide +kernel) ?_
  refine gx_iload_n (i := 3) (by decide +kernel) rfl ?_
  refine gx_iadd (by decide +kernel) ?_
  refine gx_ialdi (by decide +kernel) (fun c3 => ?_)
  exact gx_ireturn rfl rfl (by decide +kernel)
def fb_MD_areWeights_63 (N4 : gx_H → Nat → Int → Int → Option (Int × gx_H)) (N14 : gx_H → Nat → Int → Int → Int → Option (Int × gx_H)) (h : gx_H) (l0 : Nat) (l2 : Int) (l3 : Int) (t0 : Int) : Option (Int × gx_H) :=
  N14 h l0 t0 l2 (l3 + 1)
set_option maxHeartbeats 4000000 in
set_option maxRecDepth 100000 in
theorem y_MD_areWeights_63 (N4 : gx_H → Nat → Int → Int → Option (Int × gx_H)) (hN4 : ∀ (h : gx_H) (l0 : Nat) (l1 : Int) (l2 : Int), gx_Y gm_MD_areWeights (0, 0) 4 [some (gx_R l0), some (gx_I l1), some (gx_I l2), none] [] h (N4 h l0 l1 l2)) (N14 : gx_H → Nat → Int → Int → Int → Option (Int × gx_H)) (hN14 : ∀ (h : gx_H) (l0 : Nat) (l1 : Int) (l2 : Int) (l3 : Int), gx_Y gm_MD_areWeights (0, 0) 14 [some (gx_R l0), some (gx_I l1), some (gx_I l2), some (gx_I l3)] [] h (N14 h l0 l1 l2 l3)) (h : gx_H) (l0 : Nat) (l2 : Int) (l3 : Int) (t0 : Int) : gx_Y gm_MD_areWeights (0, 0) 63 [some (gx_R l0), none, some (gx_I l2), some (gx_I l3)] [gx_I t0] h (fb_MD_areWeights_63 N4 N14 h l0 l2 l3 t0) := by
  unfold fb_MD_areWeights_63
  refine gx_istore_n (i := 1) (l' := [some (gx_R _), some (gx_I _), some (gx_I _), some (gx_I _)]) (by decide +kernel) rfl (Nat.le_of_ble_eq_true rfl) (by decide) rfl ?_
  refine gx_iinc (i := 3) (n := 1) (l' := [some (gx_R _), some (gx_I _), some (gx_I _), some (gx_I _)]) (by decide +kernel) rfl rfl (Nat.le_of_ble_eq_true rfl) (by decide) rfl ?_
  refine gx_goto (off := -53) (tgt := 14) (by decide +kernel) (by decide) ?_
  exact gx_less' (hN14 _ _ _ _ _) ⟨rfl, rfl, rfl, rfl, trivial⟩
def fb_MD_areWeights_62 (N4 : gx_H → Nat → Int → Int → Option (Int × gx_H)) (N14 : gx_H → Nat → Int → Int → Int → Option (Int × gx_H)) (h : gx_H) (l0 : Nat) (l2 : Int) (l3 : Int) : Option (Int × gx_H) :=
  fb_MD_areWeights_63 N4 N14 h l0 l2 l3 0
set_option maxHeartbeats 4000000 in
set_option maxRecDepth 100000 in
theorem y_MD_areWeights_62 (N4 : gx_H → Nat → Int → Int → Option (Int × gx_H)) (hN4 : ∀ (h : gx_H) (l0 : Nat) (l1 : Int) (l2 : Int), gx_Y gm_MD_areWeights (0, 0) 4 [some (gx_R l0), some (gx_I l1), some (gx_I l2), none] [] h (N4 h l0 l1 l2)) (N14 : gx_H → Nat → Int → Int → Int → Option (Int × gx_H)) (hN14 : ∀ (h : gx_H) (l0 : Nat) (l1 : Int) (l2 : Int) (l3 : Int), gx_Y gm_MD_areWeights (0, 0) 14 [some (gx_R l0), some (gx_I l1), some (gx_I l2), some (gx_I l3)] [] h (N14 h l0 l1 l2 l3)) (h : gx_H) (l0 : Nat) (l2 : Int) (l3 : Int) : gx_Y gm_MD_areWeights (0, 0) 62 [some (gx_R l0), none, some (gx_I l2), some (gx_I l3)] [] h (fb_MD_areWeights_62 N4 N14 h l0 l2 l3) := by
  unfold fb_MD_areWeights_62
  refine gx_iconst (n := 0) (by decide +kernel) ?_
  exact gx_less' (y_MD_areWeights_63 _ hN4 _ hN14 _ _ _ _ _) ⟨rfl, rfl, rfl, trivial⟩
def fb_MD_areWeights_14 (N4 : gx_H → Nat → Int → Int → Option (Int × gx_H)) (N14 : gx_H → Nat → Int → Int → Int → Option (Int × gx_H)) (h : gx_H) (l0 : Nat) (l1 : Int) (l2 : Int) (l3 : Int) : Option (Int × gx_H) :=
  gq_get h l0 1 1 (fun v1 => gq_g (gx_i l3) (if l3 < v1 then gq_g (gx_i l1) (if l1 = 0 then fb_MD_areWeights_62 N4 N14 h l0 l2 l3 else gq_gr h l0 1 12 (fun o5 => gq_ald 0 h o5 l2 (fun v6 => gq_cv h l0 1 (f_MD_b h l0 0 l2 l3) (fun r8 h9 => gq_gr h9 l0 1 12 (fun o10 => gq_ald 0 h9 o10 l3 (fun v11 => gq_cv h9 l0 1 (f_MD_b h9 l0 0 l3 l2) (fun r13 h14 => gq_g (gx_i (v6 * r8)) (gq_g (gx_i ((-v11) * r13)) (if (v6 * r8) = ((-v11) * r13) then fb_MD_areWeights_63 N4 N14 h14 l0 l2 l3 1 else fb_MD_areWeights_62 N4 N14 h14 l0 l2 l3))))))))) else N4 h l0 l1 (l2 + 1)))
set_option maxHeartbeats 4000000 in
set_option maxRecDepth 100000 in
theorem yb_MD_areWeights_14 (N4 : gx_H → Nat → Int → Int → Option (Int × gx_H)) (hN4 : ∀ (h : gx_H) (l0 : Nat) (l1 : Int) (l2 : Int), gx_Y gm_MD_areWeights (0, 0) 4 [some (gx_R l0), some (gx_I l1), some (gx_I l2), none] [] h (N4 h l0 l1 l2)) (N14 : gx_H → Nat → Int → Int → Int → Option (Int × gx_H)) (hN14 : ∀ (h : gx_H) (l0 : Nat) (l1 : Int) (l2 : Int) (l3 : Int), gx_Y gm_MD_areWeights (0, 0) 14 [some (gx_R l0), some (gx_I l1), some (gx_I l2), some (gx_I l3)] [] h (N14 h l0 l1 l2 l3)) (h : gx_H) (l0 : Nat) (l1 : Int) (l2 : Int) (l3 : Int) : gx_Y gm_MD_areWeights (0, 0) 14 [some (gx_R l0), some (gx_I l1), some (gx_I l2), some (gx_I l3)] [] h (fb_MD_areWeights_14 N4 N14 h l0 l1 l2 l3) := by
  unfold fb_MD_areWeights_14
  refine gx_iload_n (i := 3) (by decide +kernel) rfl ?_
  refine gx_aload_n (i := 0) (by decide +kernel) rfl ?_
  refine gx_geti gk_MD (by decide) fl_MD_13 (Or.inl rfl) (by decide +kernel) (fun c2 => ?_)
  refine gx_g (fun c3 => ?_)
  refine gx_icmp_ge (off := 51) (tgt := 70) c3 c2 (by decide +kernel) (by decide) ?_ ?_
  · refine gx_iinc (i := 2) (n := 1) (l' := [some (gx_R _), some (gx_I _), some (gx_I _), some (gx_I _)]) (by decide +kernel) rfl rfl (Nat.le_of_ble_eq_true rfl) (by decide) rfl ?_
    refine gx_goto (off := -69) (tgt := 4) (by decide +kernel) (by decide) ?_
    exact gx_less' (hN4 _ _ _ _) ⟨rfl, rfl, rfl, trivial⟩
  · refine gx_iload_n (i := 1) (by decide +kernel) rfl ?_
    refine gx_g (fun c4 => ?_)
    refine gx_if_eq (off := 39) (tgt := 62) c4 (by decide +kernel) (by decide) ?_ ?_
    · exact gx_less' (y_MD_areWeights_62 _ hN4 _ hN14 _ _ _ _) ⟨rfl, rfl, rfl, trivial⟩
    · refine gx_aload_n (i := 0) (by decide +kernel) rfl ?_
      refine gx_getr gk_MD (by decide) fl_MD_32 rfl (by decide +kernel) ?_
      refine gx_iload_n (i := 2) (by decide +kernel) rfl ?_
      refine gx_ialdi (by decide +kernel) (fun c7 => ?_)
      refine gx_aload_n (i := 0) (by decide +kernel) rfl ?_
      refine gx_iconst (n := 0) (by decide +kernel) ?_
      refine gx_iload_n (i := 2) (by decide +kernel) rfl ?_
      refine gx_iload_n (i := 3) (by decide +kernel) rfl ?_
      refine gx_cVi3 (Mc := gm_MD_b) (u' := (0, 0)) (c_MD_b _ _ _ _ _) vk_MD_b ml_MD_72 rfl rfl ⟨by decide, by decide, by decide, by decide⟩ (Nat.le_of_ble_eq_true rfl) (by decide +kernel) (fun r8 h9 => ?_)
      refine gx_imul (by decide +kernel) ?_
      refine gx_aload_n (i := 0) (by decide +kernel) rfl ?_
      refine gx_getr gk_MD (by decide) fl_MD_32 rfl (by decide +kernel) ?_
      refine gx_iload_n (i := 3) (by decide +kernel) rfl ?_
      refine gx_ialdi (by decide +kernel) (fun c12 => ?_)
      refine gx_ineg (by decide +kernel) ?_
      refine gx_aload_n (i := 0) (by decide +kernel) rfl ?_
      refine gx_iconst (n := 0) (by decide +kernel) ?_
      refine gx_iload_n (i := 3) (by decide +kernel) rfl ?_
      refine gx_iload_n (i := 2) (by decide +kernel) rfl ?_
      refine gx_cVi3 (Mc := gm_MD_b) (u' := (0, 0)) (c_MD_b _ _ _ _ _) vk_MD_b ml_MD_72 rfl rfl ⟨by decide, by decide, by decide, by decide⟩ (Nat.le_of_ble_eq_true rfl) (by decide +kernel) (fun r13 h14 => ?_)
      refine gx_imul (by decide +kernel) ?_
      refine gx_g (fun c15 => ?_)
      refine gx_g (fun c16 => ?_)
      refine gx_icmp_ne (off := 7) (tgt := 62) c15 c16 (by decide +kernel) (by decide) ?_ ?_
      · exact gx_less' (y_MD_areWeights_62 _ hN4 _ hN14 _ _ _ _) ⟨rfl, rfl, rfl, trivial⟩
      · refine gx_iconst (n := 1) (by decide +kernel) ?_
        refine gx_goto (off := 4) (tgt := 63) (by decide +kernel) (by decide) ?_
        exact gx_less' (y_MD_areWeights_63 _ hN4 _ hN14 _ _ _ _ _) ⟨rfl, rfl, rfl, trivial⟩
def f_MD_areWeights_14 (N4 : gx_H → Nat → Int → Int → Option (Int × gx_H)) : Nat → gx_H → Nat → Int → Int → Int → Option (Int × gx_H)
  | 0 => fun _ _ _ _ _ => none
  | fu + 1 => fb_MD_areWeights_14 N4 (f_MD_areWeights_14 N4 fu)
theorem y_MD_areWeights_14 (N4 : gx_H → Nat → Int → Int → Option (Int × gx_H)) (hN4 : ∀ (h : gx_H) (l0 : Nat) (l1 : Int) (l2 : Int), gx_Y gm_MD_areWeights (0, 0) 4 [some (gx_R l0), some (gx_I l1), some (gx_I l2), none] [] h (N4 h l0 l1 l2)) : ∀ (fu : Nat) (h : gx_H) (l0 : Nat) (l1 : Int) (l2 : Int) (l3 : Int), gx_Y gm_MD_areWeights (0, 0) 14 [some (gx_R l0), some (gx_I l1), some (gx_I l2), some (gx_I l3)] [] h (f_MD_areWeights_14 N4 fu h l0 l1 l2 l3) := by
  intro fu
  induction fu with
  | zero => intro h l0 l1 l2 l3; exact gx_none
  | succ fu ih => intro h l0 l1 l2 l3; exact yb_MD_areWeights_14 N4 hN4 (f_MD_areWeights_14 N4 fu) ih h l0 l1 l2 l3
def fb_MD_areWeights_4 (N4 : gx_H → Nat → Int → Int → Option (Int × gx_H)) (h : gx_H) (l0 : Nat) (l1 : Int) (l2 : Int) : Option (Int × gx_H) :=
  gq_get h l0 1 1 (fun v1 => gq_g (gx_i l2) (if l2 < v1 then f_MD_areWeights_14 N4 gx_fu h l0 l1 l2 0 else gq_g ((l1 : Int) = 0 ∨ (l1 : Int) = 1) (some (l1, h))))
set_option maxHeartbeats 4000000 in
set_option maxRecDepth 100000 in
theorem yb_MD_areWeights_4 (N4 : gx_H → Nat → Int → Int → Option (Int × gx_H)) (hN4 : ∀ (h : gx_H) (l0 : Nat) (l1 : Int) (l2 : Int), gx_Y gm_MD_areWeights (0, 0) 4 [some (gx_R l0), some (gx_I l1), some (gx_I l2), none] [] h (N4 h l0 l1 l2)) (h : gx_H) (l0 : Nat) (l1 : Int) (l2 : Int) : gx_Y gm_MD_areWeights (0, 0) 4 [some (gx_R l0), some (gx_I l1), some (gx_I l2), none] [] h (fb_MD_areWeights_4 N4 h l0 l1 l2) := by
  unfold fb_MD_areWeights_4
  refine gx_iload_n (i := 2) (by decide +kernel) rfl ?_
  refine gx_aload_n (i := 0) (by decide +kernel) rfl ?_
  refine gx_geti gk_MD (by decide) fl_MD_13 (Or.inl rfl) (by decide +kernel) (fun c2 => ?_)
  refine gx_g (fun c3 => ?_)
  refine gx_icmp_ge (off := 67) (tgt := 76) c3 c2 (by decide +kernel) (by decide) ?_ ?_
  · refine gx_iload_n (i := 1) (by decide +kernel) rfl ?_
    refine gx_g (fun c4 => ?_)
    exact gx_zreturn c4 rfl rfl (by decide +kernel)
  · refine gx_iconst (n := 0) (by decide +kernel) ?_
    refine gx_istore_n (i := 3) (l' := [some (gx_R _), some (gx_I _), some (gx_I _), some (gx_I _)]) (by decide +kernel) rfl (Nat.le_of_ble_eq_true rfl) (by decide) rfl ?_
    exact gx_less' (y_MD_areWeights_14 _ hN4 gx_fu _ _ _ _ _) ⟨rfl, rfl, rfl, rfl, trivial⟩
def f_MD_areWeights_4 : Nat → gx_H → Nat → Int → Int → Option (Int × gx_H)
  | 0 => fun _ _ _ _ => none
  | fu + 1 => fb_MD_areWeights_4 (f_MD_areWeights_4 fu)
theorem y_MD_areWeights_4 : ∀ (fu : Nat) (h : gx_H) (l0 : Nat) (l1 : Int) (l2 : Int), gx_Y gm_MD_areWeights (0, 0) 4 [some (gx_R l0), some (gx_I l1), some (gx_I l2), none] [] h (f_MD_areWeights_4 fu h l0 l1 l2) := by
  intro fu
  induction fu with
  | zero => intro h l0 l1 l2; exact gx_none
  | succ fu ih => intro h l0 l1 l2; exact yb_MD_areWeights_4 (f_MD_areWeights_4 fu) ih h l0 l1 l2
def f_MD_areWeights (h : gx_H) (l0 : Nat) : Option (Int × gx_H) :=
  f_MD_areWeights_4 gx_fu h l0 1 0
set_option maxHeartbeats 4000000 in
set_option maxRecDepth 100000 in
theorem c_MD_areWeights (h : gx_H) (l0 : Nat) : ∀ r h1, f_MD_areWeights h l0 = some (r, h1) → gx_Met gm_MD_areWeights [gx_R l0] h r h1 := by
  refine gx_enter (l := [some (gx_R l0), none, none, none]) (by decide) (Nat.le_of_ble_eq_true rfl) rfl ?_
  unfold f_MD_areWeights
  refine gx_iconst (n := 1) (by decide +kernel) ?_
  refine gx_istore_n (i := 1) (l' := [some (gx_R _), some (gx_I _), none, none]) (by decide +kernel) rfl (Nat.le_of_ble_eq_true rfl) (by decide) rfl ?_
  refine gx_iconst (n := 0) (by decide +kernel) ?_
  refine gx_istore_n (i := 2) (l' := [some (gx_R _), some (gx_I _), some (gx_I _), none]) (by decide +kernel) rfl (Nat.le_of_ble_eq_true rfl) (by decide) rfl ?_
  exact gx_less' (y_MD_areWeights_4 gx_fu _ _ _ _) ⟨rfl, rfl, rfl, trivial⟩
def fb_MD_isWell_40 (N25 : gx_H → Nat → Int → Int → Option (Int × gx_H)) (N40 : gx_H → Nat → Int → Int → Int → Int → Option (Int × gx_H)) (h : gx_H) (l0 : Nat) (l1 : Int) (l2 : Int) (l3 : Int) (l4 : Int) : Option (Int × gx_H) :=
  gq_g (gx_i l4) (if l4 < 0 then gq_cv h l0 1 (f_MD_areWeights h l0) (fun r2 h3 => gq_g (gx_i r2) (if r2 = 0 then N25 h3 l0 l1 (l2 + 1) else some (1, h3))) else gq_gr h l0 1 12 (fun o5 => gq_g (gx_i l3) (gq_ast 0 (gx_i (1 + (l3.tmod 9))) h o5 l4 (1 + (l3.tmod 9)) (fun h7 => N40 h7 l0 l1 l2 (l3.tdiv 9) (l4 + (-1))))))
set_option maxHeartbeats 4000000 in
set_option maxRecDepth 100000 in
theorem yb_MD_isWell_40 (N25 : gx_H → Nat → Int → Int → Option (Int × gx_H)) (hN25 : ∀ (h : gx_H) (l0 : Nat) (l1 : Int) (l2 : Int), gx_Y gm_MD_isWell (0, 0) 25 [some (gx_R l0), some (gx_I l1), some (gx_I l2), none, none] [] h (N25 h l0 l1 l2)) (N40 : gx_H → Nat → Int → Int → Int → Int → Option (Int × gx_H)) (hN40 : ∀ (h : gx_H) (l0 : Nat) (l1 : Int) (l2 : Int) (l3 : Int) (l4 : Int), gx_Y gm_MD_isWell (0, 0) 40 [some (gx_R l0), some (gx_I l1), some (gx_I l2), some (gx_I l3), some (gx_I l4)] [] h (N40 h l0 l1 l2 l3 l4)) (h : gx_H) (l0 : Nat) (l1 : Int) (l2 : Int) (l3 : Int) (l4 : Int) : gx_Y gm_MD_isWell (0, 0) 40 [some (gx_R l0), some (gx_I l1), some (gx_I l2), some (gx_I l3), some (gx_I l4)] [] h (fb_MD_isWell_40 N25 N40 h l0 l1 l2 l3 l4) := by
  unfold fb_MD_isWell_40
  refine gx_iload (i := 4) (by decide +kernel) rfl ?_
  refine gx_g (fun c1 => ?_)
  refine gx_if_lt (off := 27) (tgt := 69) c1 (by decide +kernel) (by decide) ?_ ?_
  · refine gx_aload_n (i := 0) (by decide +kernel) rfl ?_
    refine gx_cVi0 (Mc := gm_MD_areWeights) (u' := (0, 0)) (c_MD_areWeights _ _) vk_MD_areWeights ml_MD_76 rfl rfl ⟨by decide, by decide, by decide, by decide⟩ (Nat.le_of_ble_eq_true rfl) (by decide +kernel) (fun r2 h3 => ?_)
    refine gx_g (fun c4 => ?_)
    refine gx_if_eq (off := 5) (tgt := 78) c4 (by decide +kernel) (by decide) ?_ ?_
    · refine gx_iinc (i := 2) (n := 1) (l' := [some (gx_R _), some (gx_I _), some (gx_I _), some (gx_I _), some (gx_I _)]) (by decide +kernel) rfl rfl (Nat.le_of_ble_eq_true rfl) (by decide) rfl ?_
      refine gx_goto (off := -56) (tgt := 25) (by decide +kernel) (by decide) ?_
      exact gx_less' (hN25 _ _ _ _) ⟨rfl, rfl, rfl, trivial⟩
    · refine gx_iconst (n := 1) (by decide +kernel) ?_
      exact gx_zreturn (by decide) rfl rfl (by decide +kernel)
  · refine gx_aload_n (i := 0) (by decide +kernel) rfl ?_
    refine gx_getr gk_MD (by decide) fl_MD_32 rfl (by decide +kernel) ?_
    refine gx_iload (i := 4) (by decide +kernel) rfl ?_
    refine gx_iconst (n := 1) (by decide +kernel) ?_
    refine gx_iload_n (i := 3) (by decide +kernel) rfl ?_
    refine gx_bipush (n := 9) (by decide +kernel) (by decide) ?_
    refine gx_g (fun c6 => ?_)
    refine gx_irem c6 (by decide) (by decide) (by decide +kernel) ?_
    refine gx_iadd (by decide +kernel) ?_
    refine gx_iast (by decide +kernel) ?_
    refine gx_iload_n (i := 3) (by decide +kernel) rfl ?_
    refine gx_bipush (n := 9) (by decide +kernel) (by decide) ?_
    refine gx_idiv c6 (by decide) (by decide) (by decide +kernel) ?_
    refine gx_istore_n (i := 3) (l' := [some (gx_R _), some (gx_I _), some (gx_I _), some (gx_I _), some (gx_I _)]) (by decide +kernel) rfl (Nat.le_of_ble_eq_true rfl) (by decide) rfl ?_
    refine gx_iinc (i := 4) (n := (-1)) (l' := [some (gx_R _), some (gx_I _), some (gx_I _), some (gx_I _), some (gx_I _)]) (by decide +kernel) rfl rfl (Nat.le_of_ble_eq_true rfl) (by decide) rfl ?_
    refine gx_goto (off := -26) (tgt := 40) (by decide +kernel) (by decide) ?_
    exact gx_less' (hN40 _ _ _ _ _ _) ⟨rfl, rfl, rfl, rfl, rfl, trivial⟩
def f_MD_isWell_40 (N25 : gx_H → Nat → Int → Int → Option (Int × gx_H)) : Nat → gx_H → Nat → Int → Int → Int → Int → Option (Int × gx_H)
  | 0 => fun _ _ _ _ _ _ => none
  | fu + 1 => fb_MD_isWell_40 N25 (f_MD_isWell_40 N25 fu)
theorem y_MD_isWell_40 (N25 : gx_H → Nat → Int → Int → Option (Int × gx_H)) (hN25 : ∀ (h : gx_H) (l0 : Nat) (l1 : Int) (l2 : Int), gx_Y gm_MD_isWell (0, 0) 25 [some (gx_R l0), some (gx_I l1), some (gx_I l2), none, none] [] h (N25 h l0 l1 l2)) : ∀ (fu : Nat) (h : gx_H) (l0 : Nat) (l1 : Int) (l2 : Int) (l3 : Int) (l4 : Int), gx_Y gm_MD_isWell (0, 0) 40 [some (gx_R l0), some (gx_I l1), some (gx_I l2), some (gx_I l3), some (gx_I l4)] [] h (f_MD_isWell_40 N25 fu h l0 l1 l2 l3 l4) := by
  intro fu
  induction fu with
  | zero => intro h l0 l1 l2 l3 l4; exact gx_none
  | succ fu ih => intro h l0 l1 l2 l3 l4; exact yb_MD_isWell_40 N25 hN25 (f_MD_isWell_40 N25 fu) ih h l0 l1 l2 l3 l4
def fb_MD_isWell_25 (N25 : gx_H → Nat → Int → Int → Option (Int × gx_H)) (h : gx_H) (l0 : Nat) (l1 : Int) (l2 : Int) : Option (Int × gx_H) :=
  gq_g (gx_i l2) (gq_g (gx_i l1) (if l2 < l1 then gq_get h l0 1 1 (fun v3 => f_MD_isWell_40 N25 gx_fu h l0 l1 l2 l2 (v3 - 1)) else some (0, h)))
set_option maxHeartbeats 4000000 in
set_option maxRecDepth 100000 in
theorem yb_MD_isWell_25 (N25 : gx_H → Nat → Int → Int → Option (Int × gx_H)) (hN25 : ∀ (h : gx_H) (l0 : Nat) (l1 : Int) (l2 : Int), gx_Y gm_MD_isWell (0, 0) 25 [some (gx_R l0), some (gx_I l1), some (gx_I l2), none, none] [] h (N25 h l0 l1 l2)) (h : gx_H) (l0 : Nat) (l1 : Int) (l2 : Int) : gx_Y gm_MD_isWell (0, 0) 25 [some (gx_R l0), some (gx_I l1), some (gx_I l2), none, none] [] h (fb_MD_isWell_25 N25 h l0 l1 l2) := by
  unfold fb_MD_isWell_25
  refine gx_iload_n (i := 2) (by decide +kernel) rfl ?_
  refine gx_iload_n (i := 1) (by decide +kernel) rfl ?_
  refine gx_g (fun c1 => ?_)
  refine gx_g (fun c2 => ?_)
  refine gx_icmp_ge (off := 57) (tgt := 84) c1 c2 (by decide +kernel) (by decide) ?_ ?_
  · refine gx_iconst (n := 0) (by decide +kernel) ?_
    exact gx_zreturn (by decide) rfl rfl (by decide +kernel)
  · refine gx_iload_n (i := 2) (by decide +kernel) rfl ?_
    refine gx_istore_n (i := 3) (l' := [some (gx_R _), some (gx_I _), some (gx_I _), some (gx_I _), none]) (by decide +kernel) rfl (Nat.le_of_ble_eq_true rfl) (by decide) rfl ?_
    refine gx_aload_n (i := 0) (by decide +kernel) rfl ?_
    refine gx_geti gk_MD (by decide) fl_MD_13 (Or.inl rfl) (by decide +kernel) (fun c4 => ?_)
    refine gx_iconst (n := 1) (by decide +kernel) ?_
    refine gx_isub (by decide +kernel) ?_
    refine gx_istore (i := 4) (l' := [some (gx_R _), some (gx_I _), some (gx_I _), some (gx_I _), some (gx_I _)]) (by decide +kernel) rfl (Nat.le_of_ble_eq_true rfl) (by decide) rfl ?_
    exact gx_less' (y_MD_isWell_40 _ hN25 gx_fu _ _ _ _ _ _) ⟨rfl, rfl, rfl, rfl, rfl, trivial⟩
def f_MD_isWell_25 : Nat → gx_H → Nat → Int → Int → Option (Int × gx_H)
  | 0 => fun _ _ _ _ => none
  | fu + 1 => fb_MD_isWell_25 (f_MD_isWell_25 fu)
theorem y_MD_isWell_25 : ∀ (fu : Nat) (h : gx_H) (l0 : Nat) (l1 : Int) (l2 : Int), gx_Y gm_MD_isWell (0, 0) 25 [some (gx_R l0), some (gx_I l1), some (gx_I l2), none, none] [] h (f_MD_isWell_25 fu h l0 l1 l2) := by
  intro fu
  induction fu with
  | zero => intro h l0 l1 l2; exact gx_none
  | succ fu ih => intro h l0 l1 l2; exact yb_MD_isWell_25 (f_MD_isWell_25 fu) ih h l0 l1 l2
def fb_MD_isWell_4 (N4 : gx_H → Nat → Int → Int → Option (Int × gx_H)) (h : gx_H) (l0 : Nat) (l1 : Int) (l2 : Int) : Option (Int × gx_H) :=
  gq_get h l0 1 1 (fun v1 => gq_g (gx_i l2) (if l2 < v1 then N4 h l0 (l1 * 9) (l2 + 1) else f_MD_isWell_25 gx_fu h l0 l1 0))
set_option maxHeartbeats 4000000 in
set_option maxRecDepth 100000 in
theorem yb_MD_isWell_4 (N4 : gx_H → Nat → Int → Int → Option (Int × gx_H)) (hN4 : ∀ (h : gx_H) (l0 : Nat) (l1 : Int) (l2 : Int), gx_Y gm_MD_isWell (0, 0) 4 [some (gx_R l0), some (gx_I l1), some (gx_I l2), none, none] [] h (N4 h l0 l1 l2)) (h : gx_H) (l0 : Nat) (l1 : Int) (l2 : Int) : gx_Y gm_MD_isWell (0, 0) 4 [some (gx_R l0), some (gx_I l1), some (gx_I l2), none, none] [] h (fb_MD_isWell_4 N4 h l0 l1 l2) := by
  unfold fb_MD_isWell_4
  refine gx_iload_n (i := 2) (by decide +kernel) rfl ?_
  refine gx_aload_n (i := 0) (by decide +kernel) rfl ?_
  refine gx_geti gk_MD (by decide) fl_MD_13 (Or.inl rfl) (by decide +kernel) (fun c2 => ?_)
  refine gx_g (fun c3 => ?_)
  refine gx_icmp_ge (off := 14) (tgt := 23) c3 c2 (by decide +kernel) (by decide) ?_ ?_
  · refine gx_iconst (n := 0) (by decide +kernel) ?_
    refine gx_istore_n (i := 2) (l' := [some (gx_R _), some (gx_I _), some (gx_I _), none, none]) (by decide +kernel) rfl (Nat.le_of_ble_eq_true rfl) (by decide) rfl ?_
    exact gx_less' (y_MD_isWell_25 gx_fu _ _ _ _) ⟨rfl, rfl, rfl, trivial⟩
  · refine gx_iload_n (i := 1) (by decide +kernel) rfl ?_
    refine gx_bipush (n := 9) (by decide +kernel) (by decide) ?_
    refine gx_imul (by decide +kernel) ?_
    refine gx_istore_n (i := 1) (l' := [some (gx_R _), some (gx_I _), some (gx_I _), none, none]) (by decide +kernel) rfl (Nat.le_of_ble_eq_true rfl) (by decide) rfl ?_
    refine gx_iinc (i := 2) (n := 1) (l' := [some (gx_R _), some (gx_I _), some (gx_I _), none, none]) (by decide +kernel) rfl rfl (Nat.le_of_ble_eq_true rfl) (by decide) rfl ?_
    refine gx_goto (off := -16) (tgt := 4) (by decide +kernel) (by decide) ?_
    exact gx_less' (hN4 _ _ _ _) ⟨rfl, rfl, rfl, trivial⟩
def f_MD_isWell_4 : Nat → gx_H → Nat → Int → Int → Option (Int × gx_H)
  | 0 => fun _ _ _ _ => none
  | fu + 1 => fb_MD_isWell_4 (f_MD_isWell_4 fu)
theorem y_MD_isWell_4 : ∀ (fu : Nat) (h : gx_H) (l0 : Nat) (l1 : Int) (l2 : Int), gx_Y gm_MD_isWell (0, 0) 4 [some (gx_R l0), some (gx_I l1), some (gx_I l2), none, none] [] h (f_MD_isWell_4 fu h l0 l1 l2) := by
  intro fu
  induction fu with
  | zero => intro h l0 l1 l2; exact gx_none
  | succ fu ih => intro h l0 l1 l2; exact yb_MD_isWell_4 (f_MD_isWell_4 fu) ih h l0 l1 l2
def f_MD_isWell (h : gx_H) (l0 : Nat) : Option (Int × gx_H) :=
  f_MD_isWell_4 gx_fu h l0 1 0
set_option maxHeartbeats 4000000 in
set_option maxRecDepth 100000 in
theorem c_MD_isWell (h : gx_H) (l0 : Nat) : ∀ r h1, f_MD_isWell h l0 = some (r, h1) → gx_Met gm_MD_isWell [gx_R l0] h r h1 := by
  refine gx_enter (l := [some (gx_R l0), none, none, none, none]) (by decide) (Nat.le_of_ble_eq_true rfl) rfl ?_
  unfold f_MD_isWell
  refine gx_iconst (n := 1) (by decide +kernel) ?_
  refine gx_istore_n (i := 1) (l' := [some (gx_R _), some (gx_I _), none, none, none]) (by decide +kernel) rfl (Nat.le_of_ble_eq_true rfl) (by decide) rfl ?_
  refine gx_iconst (n := 0) (by decide +kernel) ?_
  refine gx_istore_n (i := 2) (l' := [some (gx_R _), some (gx_I _), some (gx_I _), none, none]) (by decide +kernel) rfl (Nat.le_of_ble_eq_true rfl) (by decide) rfl ?_
  exact gx_less' (y_MD_isWell_4 gx_fu _ _ _ _) ⟨rfl, rfl, rfl, trivial⟩
def fb_MD_shorten_79 (h : gx_H) (t0 : Nat) : Option (Int × gx_H) :=
  gq_put True h t0 1 15 1 (fun h1 => some (0, h1))
set_option maxHeartbeats 4000000 in
set_option maxRecDepth 100000 in
theorem y_MD_shorten_79 (h : gx_H) (t0 : Nat) : gx_Y gm_MD_shorten (0, 0) 79 [none, none, none, none, none, none, none] [gx_R t0] h (fb_MD_shorten_79 h t0) := by
  unfold fb_MD_shorten_79
  refine gx_iconst (n := 1) (by decide +kernel) ?_
  refine gx_goto (off := 4) (tgt := 84) (by decide +kernel) (by decide) ?_
  refine gx_putzT (by decide) gk_MD (by decide) fl_MD_87 rfl rfl (by decide +kernel) ?_
  exact gx_return rfl rfl (by decide +kernel)
def fb_MD_shorten_10 (N10 : gx_H → Nat → Int → Int → Option (Int × gx_H)) (h : gx_H) (l0 : Nat) (l1 : Int) (l3 : Int) : Option (Int × gx_H) :=
  gq_g (gx_l l3) (if (gq_cmp l3 0) = 0 then gq_get h l0 1 13 (fun v2 => gq_g (0 < l1) (gq_g (gx_l l1) (gq_put (gx_l (v2.tdiv l1)) h l0 1 13 (v2.tdiv l1) (fun h6 => gq_get h6 l0 1 14 (fun v7 => gq_put (gx_l (v7.tdiv l1)) h6 l0 1 14 (v7.tdiv l1) (fun h9 => gq_get h9 l0 1 15 (fun v10 => if v10 = 0 then gq_get h9 l0 1 13 (fun v12 => if 0 < (gq_cmp v12 1000000000) then fb_MD_shorten_79 h9 l0 else gq_get h9 l0 1 14 (fun v14 => if 0 < (gq_cmp v14 1000000000) then fb_MD_shorten_79 h9 l0 else gq_put True h9 l0 1 15 0 (fun h16 => some (0, h16)))) else fb_MD_shorten_79 h9 l0))))))) else gq_g (gx_l l1) (gq_g (0 < l3) (N10 h l0 l3 (l1.tmod l3))))
set_option maxHeartbeats 4000000 in
set_option maxRecDepth 100000 in
theorem yb_MD_shorten_10 (N10 : gx_H → Nat → Int → Int → Option (Int × gx_H)) (hN10 : ∀ (h : gx_H) (l0 : Nat) (l1 : Int) (l3 : Int), gx_Y gm_MD_shorten (0, 0) 10 [some (gx_R l0), some (gx_L l1), none, some (gx_L l3), none, none, none] [] h (N10 h l0 l1 l3)) (h : gx_H) (l0 : Nat) (l1 : Int) (l3 : Int) : gx_Y gm_MD_shorten (0, 0) 10 [some (gx_R l0), some (gx_L l1), none, some (gx_L l3), none, none, none] [] h (fb_MD_shorten_10 N10 h l0 l1 l3) := by
  unfold fb_MD_shorten_10
  refine gx_lload_n (i := 3) (by decide +kernel) rfl ?_
  refine gx_lconst (n := 0) (a := 0) (by decide +kernel) (by decide) ?_
  refine gx_g (fun c1 => ?_)
  refine gx_lcmp c1 (by decide) (by decide +kernel) ?_
  refine gx_if_eq (off := 16) (tgt := 29) (gx_cmpI _ _) (by decide +kernel) (by decide) ?_ ?_
  · refine gx_aload_n (i := 0) (by decide +kernel) rfl ?_
    refine gx_aload_n (i := 0) (by decide +kernel) rfl ?_
    refine gx_getL gk_MD (by decide) fl_MD_80 rfl (by decide +kernel) (fun c3 => ?_)
    refine gx_lload_n (i := 1) (by decide +kernel) rfl ?_
    refine gx_g (fun c4 => ?_)
    refine gx_g (fun c5 => ?_)
    refine gx_ldiv c3 c4 c5 (by decide +kernel) ?_
    refine gx_putl gk_MD (by decide) fl_MD_80 rfl rfl (by decide +kernel) ?_
    refine gx_aload_n (i := 0) (by decide +kernel) rfl ?_
    refine gx_aload_n (i := 0) (by decide +kernel) rfl ?_
    refine gx_getL gk_MD (by decide) fl_MD_84 rfl (by decide +kernel) (fun c8 => ?_)
    refine gx_lload_n (i := 1) (by decide +kernel) rfl ?_
    refine gx_ldiv c8 c4 c5 (by decide +kernel) ?_
    refine gx_putl gk_MD (by decide) fl_MD_84 rfl rfl (by decide +kernel) ?_
    refine gx_aload_n (i := 0) (by decide +kernel) rfl ?_
    refine gx_aload_n (i := 0) (by decide +kernel) rfl ?_
    refine gx_geti gk_MD (by decide) fl_MD_87 (Or.inr rfl) (by decide +kernel) (fun c11 => ?_)
    refine gx_if_ne (off := 25) (tgt := 79) c11 (by decide +kernel) (by decide) ?_ ?_
    · exact gx_less' (y_MD_shorten_79 _ _) trivial
    · refine gx_aload_n (i := 0) (by decide +kernel) rfl ?_
      refine gx_getL gk_MD (by decide) fl_MD_80 rfl (by decide +kernel) (fun c13 => ?_)
      refine gx_ldc2 (a := 1000000000) kc_MD_91 (by decide +kernel) ?_
      refine gx_lcmp c13 (by decide) (by decide +kernel) ?_
      refine gx_if_gt (off := 14) (tgt := 79) (gx_cmpI _ _) (by decide +kernel) (by decide) ?_ ?_
      · exact gx_less' (y_MD_shorten_79 _ _) trivial
      · refine gx_aload_n (i := 0) (by decide +kernel) rfl ?_
        refine gx_getL gk_MD (by decide) fl_MD_84 rfl (by decide +kernel) (fun c15 => ?_)
        refine gx_ldc2 (a := 1000000000) kc_MD_91 (by decide +kernel) ?_
        refine gx_lcmp c15 (by decide) (by decide +kernel) ?_
        refine gx_if_le (off := 7) (tgt := 83) (gx_cmpI _ _) (by decide +kernel) (by decide) ?_ ?_
        · refine gx_iconst (n := 0) (by decide +kernel) ?_
          refine gx_putzT (by decide) gk_MD (by decide) fl_MD_87 rfl rfl (by decide +kernel) ?_
          exact gx_return rfl rfl (by decide +kernel)
        · exact gx_less' (y_MD_shorten_79 _ _) trivial
  · refine gx_lload_n (i := 1) (by decide +kernel) rfl ?_
    refine gx_lload_n (i := 3) (by decide +kernel) rfl ?_
    refine gx_g (fun c17 => ?_)
    refine gx_g (fun c18 => ?_)
    refine gx_lrem c17 c18 c1 (by decide +kernel) ?_
    refine gx_lstore (i := 5) (l' := [some (gx_R _), some (gx_L _), none, some (gx_L _), none, some (gx_L _), none]) (by decide +kernel) rfl (Nat.le_of_ble_eq_true rfl) (by decide) rfl ?_
    refine gx_lload_n (i := 3) (by decide +kernel) rfl ?_
    refine gx_lstore_n (i := 1) (l' := [some (gx_R _), some (gx_L _), none, some (gx_L _), none, some (gx_L _), none]) (by decide +kernel) rfl (Nat.le_of_ble_eq_true rfl) (by decide) rfl ?_
    refine gx_lload (i := 5) (by decide +kernel) rfl ?_
    refine gx_lstore_n (i := 3) (l' := [some (gx_R _), some (gx_L _), none, some (gx_L _), none, some (gx_L _), none]) (by decide +kernel) rfl (Nat.le_of_ble_eq_true rfl) (by decide) rfl ?_
    refine gx_goto (off := -16) (tgt := 10) (by decide +kernel) (by decide) ?_
    exact gx_less' (hN10 _ _ _ _) ⟨rfl, rfl, rfl, trivial⟩
def f_MD_shorten_10 : Nat → gx_H → Nat → Int → Int → Option (Int × gx_H)
  | 0 => fun _ _ _ _ => none
  | fu + 1 => fb_MD_shorten_10 (f_MD_shorten_10 fu)
theorem y_MD_shorten_10 : ∀ (fu : Nat) (h : gx_H) (l0 : Nat) (l1 : Int) (l3 : Int), gx_Y gm_MD_shorten (0, 0) 10 [some (gx_R l0), some (gx_L l1), none, some (gx_L l3), none, none, none] [] h (f_MD_shorten_10 fu h l0 l1 l3) := by
  intro fu
  induction fu with
  | zero => intro h l0 l1 l3; exact gx_none
  | succ fu ih => intro h l0 l1 l3; exact yb_MD_shorten_10 (f_MD_shorten_10 fu) ih h l0 l1 l3
def f_MD_shorten (h : gx_H) (l0 : Nat) : Option (Int × gx_H) :=
  gq_get h l0 1 13 (fun v1 => gq_get h l0 1 14 (fun v3 => f_MD_shorten_10 gx_fu h l0 v1 v3))
set_option maxHeartbeats 4000000 in
set_option maxRecDepth 100000 in
theorem c_MD_shorten (h : gx_H) (l0 : Nat) : ∀ r h1, f_MD_shorten h l0 = some (r, h1) → gx_Met gm_MD_shorten [gx_R l0] h r h1 := by
  refine gx_enter (l := [some (gx_R l0), none, none, none, none, none, none]) (by decide) (Nat.le_of_ble_eq_true rfl) rfl ?_
  unfold f_MD_shorten
  refine gx_aload_n (i := 0) (by decide +kernel) rfl ?_
  refine gx_getL gk_MD (by decide) fl_MD_80 rfl (by decide +kernel) (fun c2 => ?_)
  refine gx_lstore_n (i := 1) (l' := [some (gx_R _), some (gx_L _), none, none, none, none, none]) (by decide +kernel) rfl (Nat.le_of_ble_eq_true rfl) (by decide) rfl ?_
  refine gx_aload_n (i := 0) (by decide +kernel) rfl ?_
  refine gx_getL gk_MD (by decide) fl_MD_84 rfl (by decide +kernel) (fun c4 => ?_)
  refine gx_lstore_n (i := 3) (l' := [some (gx_R _), some (gx_L _), none, some (gx_L _), none, none, none]) (by decide +kernel) rfl (Nat.le_of_ble_eq_true rfl) (by decide) rfl ?_
  exact gx_less' (y_MD_shorten_10 gx_fu _ _ _ _) ⟨rfl, rfl, rfl, trivial⟩
def f_MD_times (h : gx_H) (l0 : Nat) (l1 : Int) (l3 : Int) : Option (Int × gx_H) :=
  gq_get h l0 1 15 (fun v1 => if v1 = 0 then gq_get h l0 1 13 (fun v3 => gq_put (gx_l (v3 * l1)) h l0 1 13 (v3 * l1) (fun h5 => gq_get h5 l0 1 14 (fun v6 => gq_put (gx_l (v6 * l3)) h5 l0 1 14 (v6 * l3) (fun h8 => gq_cv h8 l0 1 (f_MD_shorten h8 l0) (fun r9 h10 => some (0, h10)))))) else some (0, h))
set_option maxHeartbeats 4000000 in
set_option maxRecDepth 100000 in
theorem c_MD_times (h : gx_H) (l0 : Nat) (l1 : Int) (l3 : Int) : ∀ r h1, f_MD_times h l0 l1 l3 = some (r, h1) → gx_Met gm_MD_times [gx_R l0, gx_L l1, gx_L l3] h r h1 := by
  refine gx_enter (l := [some (gx_R l0), some (gx_L l1), none, some (gx_L l3), none]) (by decide) (Nat.le_of_ble_eq_true rfl) rfl ?_
  unfold f_MD_times
  refine gx_aload_n (i := 0) (by decide +kernel) rfl ?_
  refine gx_geti gk_MD (by decide) fl_MD_87 (Or.inr rfl) (by decide +kernel) (fun c2 => ?_)
  refine gx_if_ne (off := 27) (tgt := 31) c2 (by decide +kernel) (by decide) ?_ ?_
  · exact gx_return rfl rfl (by decide +kernel)
  · refine gx_aload_n (i := 0) (by decide +kernel) rfl ?_
    refine gx_aload_n (i := 0) (by decide +kernel) rfl ?_
    refine gx_getL gk_MD (by decide) fl_MD_80 rfl (by decide +kernel) (fun c4 => ?_)
    refine gx_lload_n (i := 1) (by decide +kernel) rfl ?_
    refine gx_lmul (by decide +kernel) ?_
    refine gx_putl gk_MD (by decide) fl_MD_80 rfl rfl (by decide +kernel) ?_
    refine gx_aload_n (i := 0) (by decide +kernel) rfl ?_
    refine gx_aload_n (i := 0) (by decide +kernel) rfl ?_
    refine gx_getL gk_MD (by decide) fl_MD_84 rfl (by decide +kernel) (fun c7 => ?_)
    refine gx_lload_n (i := 3) (by decide +kernel) rfl ?_
    refine gx_lmul (by decide +kernel) ?_
    refine gx_putl gk_MD (by decide) fl_MD_84 rfl rfl (by decide +kernel) ?_
    refine gx_aload_n (i := 0) (by decide +kernel) rfl ?_
    refine gx_cVv0 (Mc := gm_MD_shorten) (u' := (0, 0)) (c_MD_shorten _ _) vk_MD_shorten ml_MD_93 rfl rfl ⟨by decide, by decide, by decide, by decide⟩ (Nat.le_of_ble_eq_true rfl) (by decide +kernel) (fun r9 h10 => ?_)
    exact gx_return rfl rfl (by decide +kernel)
def fb_MD_product_25 (N13 : gx_H → Nat → Int → Int → Int → Int → Option (Int × gx_H)) (N25 : gx_H → Nat → Int → Int → Int → Int → Int → Option (Int × gx_H)) (h : gx_H) (l0 : Nat) (l1 : Int) (l2 : Int) (l3 : Int) (l4 : Int) (l5 : Int) : Option (Int × gx_H) :=
  gq_cv h l0 1 (f_MD_b h l0 l1 l4 l2) (fun r1 h2 => gq_g (gx_i l5) (gq_g (gx_i (l3 * r1)) (if l5 < (l3 * r1) then gq_gr h2 l0 1 0 (fun o5 => gq_ald 0 h2 o5 ((l1 + 0) + l4) (fun v6 => gq_gr h2 l0 1 0 (fun o8 => gq_ald 0 h2 o8 ((l1 + 4) + l4) (fun v9 => gq_cv h2 l0 1 (f_MD_times h2 l0 v6 v9) (fun r11 h12 => N25 h12 l0 l1 l2 l3 l4 (l5 + 1)))))) else N13 h2 l0 l1 l2 l3 (l4 + 1))))
set_option maxHeartbeats 4000000 in
set_option maxRecDepth 100000 in
theorem yb_MD_product_25 (N13 : gx_H → Nat → Int → Int → Int → Int → Option (Int × gx_H)) (hN13 : ∀ (h : gx_H) (l0 : Nat) (l1 : Int) (l2 : Int) (l3 : Int) (l4 : Int), gx_Y gm_MD_product (0, 0) 13 [some (gx_R l0), some (gx_I l1), some (gx_I l2), some (gx_I l3), some (gx_I l4), none] [] h (N13 h l0 l1 l2 l3 l4)) (N25 : gx_H → Nat → Int → Int → Int → Int → Int → Option (Int × gx_H)) (hN25 : ∀ (h : gx_H) (l0 : Nat) (l1 : Int) (l2 : Int) (l3 : Int) (l4 : Int) (l5 : Int), gx_Y gm_MD_product (0, 0) 25 [some (gx_R l0), some (gx_I l1), some (gx_I l2), some (gx_I l3), some (gx_I l4), some (gx_I l5)] [] h (N25 h l0 l1 l2 l3 l4 l5)) (h : gx_H) (l0 : Nat) (l1 : Int) (l2 : Int) (l3 : Int) (l4 : Int) (l5 : Int) : gx_Y gm_MD_product (0, 0) 25 [some (gx_R l0), some (gx_I l1), some (gx_I l2), some (gx_I l3), some (gx_I l4), some (gx_I l5)] [] h (fb_MD_product_25 N13 N25 h l0 l1 l2 l3 l4 l5) := by
  unfold fb_MD_product_25
  refine gx_iload (i := 5) (by decide +kernel) rfl ?_
  refine gx_iload_n (i := 3) (by decide +kernel) rfl ?_
  refine gx_aload_n (i := 0) (by decide +kernel) rfl ?_
  refine gx_iload_n (i := 1) (by decide +kernel) rfl ?_
  refine gx_iload (i := 4) (by decide +kernel) rfl ?_
  refine gx_iload_n (i := 2) (by decide +kernel) rfl ?_
  refine gx_cVi3 (Mc := gm_MD_b) (u' := (0, 0)) (c_MD_b _ _ _ _ _) vk_MD_b ml_MD_72 rfl rfl ⟨by decide, by decide, by decide, by decide⟩ (Nat.le_of_ble_eq_true rfl) (by decide +kernel) (fun r1 h2 => ?_)
  refine gx_imul (by decide +kernel) ?_
  refine gx_g (fun c3 => ?_)
  refine gx_g (fun c4 => ?_)
  refine gx_icmp_ge (off := 37) (tgt := 74) c3 c4 (by decide +kernel) (by decide) ?_ ?_
  · refine gx_iinc (i := 4) (n := 1) (l' := [some (gx_R _), some (gx_I _), some (gx_I _), some (gx_I _), some (gx_I _), some (gx_I _)]) (by decide +kernel) rfl rfl (Nat.le_of_ble_eq_true rfl) (by decide) rfl ?_
    refine gx_goto (off := -64) (tgt := 13) (by decide +kernel) (by decide) ?_
    exact gx_less' (hN13 _ _ _ _ _ _) ⟨rfl, rfl, rfl, rfl, rfl, trivial⟩
  · refine gx_aload_n (i := 0) (by decide +kernel) rfl ?_
    refine gx_aload_n (i := 0) (by decide +kernel) rfl ?_
    refine gx_getr gk_MD (by decide) fl_MD_7 rfl (by decide +kernel) ?_
    refine gx_iload_n (i := 1) (by decide +kernel) rfl ?_
    refine gx_iconst (n := 0) (by decide +kernel) ?_
    refine gx_iadd (by decide +kernel) ?_
    refine gx_iload (i := 4) (by decide +kernel) rfl ?_
    refine gx_iadd (by decide +kernel) ?_
    refine gx_ialdi (by decide +kernel) (fun c7 => ?_)
    refine gx_i2l c7 (by decide +kernel) ?_
    refine gx_aload_n (i := 0) (by decide +kernel) rfl ?_
    refine gx_getr gk_MD (by decide) fl_MD_7 rfl (by decide +kernel) ?_
    refine gx_iload_n (i := 1) (by decide +kernel) rfl ?_
    refine gx_iconst (n := 4) (by decide +kernel) ?_
    refine gx_iadd (by decide +kernel) ?_
    refine gx_iload (i := 4) (by decide +kernel) rfl ?_
    refine gx_iadd (by decide +kernel) ?_
    refine gx_ialdi (by decide +kernel) (fun c10 => ?_)
    refine gx_i2l c10 (by decide +kernel) ?_
    refine gx_cVv2 (Mc := gm_MD_times) (u' := (0, 0)) (c_MD_times _ _ _ _) vk_MD_times ml_MD_96 rfl rfl ⟨by decide, by decide, by decide, by decide⟩ (Nat.le_of_ble_eq_true rfl) (by decide +kernel) (fun r11 h12 => ?_)
    refine gx_iinc (i := 5) (n := 1) (l' := [some (gx_R _), some (gx_I _), some (gx_I _), some (gx_I _), some (gx_I _), some (gx_I _)]) (by decide +kernel) rfl rfl (Nat.le_of_ble_eq_true rfl) (by decide) rfl ?_
    refine gx_goto (off := -46) (tgt := 25) (by decide +kernel) (by decide) ?_
    exact gx_less' (hN25 _ _ _ _ _ _ _) ⟨rfl, rfl, rfl, rfl, rfl, rfl, trivial⟩
def f_MD_product_25 (N13 : gx_H → Nat → Int → Int → Int → Int → Option (Int × gx_H)) : Nat → gx_H → Nat → Int → Int → Int → Int → Int → Option (Int × gx_H)
  | 0 => fun _ _ _ _ _ _ _ => none
  | fu + 1 => fb_MD_product_25 N13 (f_MD_product_25 N13 fu)
theorem y_MD_product_25 (N13 : gx_H → Nat → Int → Int → Int → Int → Option (Int × gx_H)) (hN13 : ∀ (h : gx_H) (l0 : Nat) (l1 : Int) (l2 : Int) (l3 : Int) (l4 : Int), gx_Y gm_MD_product (0, 0) 13 [some (gx_R l0), some (gx_I l1), some (gx_I l2), some (gx_I l3), some (gx_I l4), none] [] h (N13 h l0 l1 l2 l3 l4)) : ∀ (fu : Nat) (h : gx_H) (l0 : Nat) (l1 : Int) (l2 : Int) (l3 : Int) (l4 : Int) (l5 : Int), gx_Y gm_MD_product (0, 0) 25 [some (gx_R l0), some (gx_I l1), some (gx_I l2), some (gx_I l3), some (gx_I l4), some (gx_I l5)] [] h (f_MD_product_25 N13 fu h l0 l1 l2 l3 l4 l5) := by
  intro fu
  induction fu with
  | zero => intro h l0 l1 l2 l3 l4 l5; exact gx_none
  | succ fu ih => intro h l0 l1 l2 l3 l4 l5; exact yb_MD_product_25 N13 hN13 (f_MD_product_25 N13 fu) ih h l0 l1 l2 l3 l4 l5
def fb_MD_product_13 (N13 : gx_H → Nat → Int → Int → Int → Int → Option (Int × gx_H)) (h : gx_H) (l0 : Nat) (l1 : Int) (l2 : Int) (l3 : Int) (l4 : Int) : Option (Int × gx_H) :=
  gq_get h l0 1 1 (fun v1 => gq_g (gx_i l4) (if l4 < v1 then f_MD_product_25 N13 gx_fu h l0 l1 l2 l3 l4 0 else some (0, h)))
set_option maxHeartbeats 4000000 in
set_option maxRecDepth 100000 in
theorem yb_MD_product_13 (N13 : gx_H → Nat → Int → Int → Int → Int → Option (Int × gx_H)) (hN13 : ∀ (h : gx_H) (l0 : Nat) (l1 : Int) (l2 : Int) (l3 : Int) (l4 : Int), gx_Y gm_MD_product (0, 0) 13 [some (gx_R l0), some (gx_I l1), some (gx_I l2), some (gx_I l3), some (gx_I l4), none] [] h (N13 h l0 l1 l2 l3 l4)) (h : gx_H) (l0 : Nat) (l1 : Int) (l2 : Int) (l3 : Int) (l4 : Int) : gx_Y gm_MD_product (0, 0) 13 [some (gx_R l0), some (gx_I l1), some (gx_I l2), some (gx_I l3), some (gx_I l4), none] [] h (fb_MD_product_13 N13 h l0 l1 l2 l3 l4) := by
  unfold fb_MD_product_13
  refine gx_iload (i := 4) (by decide +kernel) rfl ?_
  refine gx_aload_n (i := 0) (by decide +kernel) rfl ?_
  refine gx_geti gk_MD (by decide) fl_MD_13 (Or.inl rfl) (by decide +kernel) (fun c2 => ?_)
  refine gx_g (fun c3 => ?_)
  refine gx_icmp_ge (off := 61) (tgt := 80) c3 c2 (by decide +kernel) (by decide) ?_ ?_
  · exact gx_return rfl rfl (by decide +kernel)
  · refine gx_iconst (n := 0) (by decide +kernel) ?_
    refine gx_istore (i := 5) (l' := [some (gx_R _), some (gx_I _), some (gx_I _), some (gx_I _), some (gx_I _), some (gx_I _)]) (by decide +kernel) rfl (Nat.le_of_ble_eq_true rfl) (by decide) rfl ?_
    exact gx_less' (y_MD_product_25 _ hN13 gx_fu _ _ _ _ _ _ _) ⟨rfl, rfl, rfl, rfl, rfl, rfl, trivial⟩
def f_MD_product_13 : Nat → gx_H → Nat → Int → Int → Int → Int → Option (Int × gx_H)
  | 0 => fun _ _ _ _ _ _ => none
  | fu + 1 => fb_MD_product_13 (f_MD_product_13 fu)
theorem y_MD_product_13 : ∀ (fu : Nat) (h : gx_H) (l0 : Nat) (l1 : Int) (l2 : Int) (l3 : Int) (l4 : Int), gx_Y gm_MD_product (0, 0) 13 [some (gx_R l0), some (gx_I l1), some (gx_I l2), some (gx_I l3), some (gx_I l4), none] [] h (f_MD_product_13 fu h l0 l1 l2 l3 l4) := by
  intro fu
  induction fu with
  | zero => intro h l0 l1 l2 l3 l4; exact gx_none
  | succ fu ih => intro h l0 l1 l2 l3 l4; exact yb_MD_product_13 (f_MD_product_13 fu) ih h l0 l1 l2 l3 l4
def f_MD_product (h : gx_H) (l0 : Nat) (l1 : Int) (l2 : Int) (l3 : Int) : Option (Int × gx_H) :=
  gq_put True h l0 1 13 1 (fun h1 => gq_put True h1 l0 1 14 1 (fun h2 => f_MD_product_13 gx_fu h2 l0 l1 l2 l3 0))
set_option maxHeartbeats 4000000 in
set_option maxRecDepth 100000 in
theorem c_MD_product (h : gx_H) (l0 : Nat) (l1 : Int) (l2 : Int) (l3 : Int) : ∀ r h1, f_MD_product h l0 l1 l2 l3 = some (r, h1) → gx_Met gm_MD_product [gx_R l0, gx_I l1, gx_I l2, gx_I l3] h r h1 := by
  refine gx_enter (l := [some (gx_R l0), some (gx_I l1), some (gx_I l2), some (gx_I l3), none, none]) (by decide) (Nat.le_of_ble_eq_true rfl) rfl ?_
  unfold f_MD_product
  refine gx_aload_n (i := 0) (by decide +kernel) rfl ?_
  refine gx_lconst (n := 1) (a := 1) (by decide +kernel) (by decide) ?_
  refine gx_putlT (by decide) gk_MD (by decide) fl_MD_80 rfl rfl (by decide +kernel) ?_
  refine gx_aload_n (i := 0) (by decide +kernel) rfl ?_
  refine gx_lconst (n := 1) (a := 1) (by decide +kernel) (by decide) ?_
  refine gx_putlT (by decide) gk_MD (by decide) fl_MD_84 rfl rfl (by decide +kernel) ?_
  refine gx_iconst (n := 0) (by decide +kernel) ?_
  refine gx_istore (i := 4) (l' := [some (gx_R _), some (gx_I _), some (gx_I _), some (gx_I _), some (gx_I _), none]) (by decide +kernel) rfl (Nat.le_of_ble_eq_true rfl) (by decide) rfl ?_
  exact gx_less' (y_MD_product_13 gx_fu _ _ _ _ _ _) ⟨rfl, rfl, rfl, rfl, rfl, trivial⟩
def f_MD_worth (h : gx_H) (l0 : Nat) (l1 : Int) (l2 : Int) : Option (Int × gx_H) :=
  gq_put True h l0 1 15 0 (fun h1 => gq_cv h1 l0 1 (f_MD_product h1 l0 l1 l2 1) (fun r2 h3 => gq_get h3 l0 1 13 (fun v4 => gq_get h3 l0 1 14 (fun v6 => gq_cv h3 l0 1 (f_MD_product h3 l0 l1 l2 (-1)) (fun r8 h9 => gq_get h9 l0 1 15 (fun v10 => if v10 = 0 then gq_get h9 l0 1 14 (fun v12 => gq_get h9 l0 1 13 (fun v14 => gq_put (gx_l ((v4 * v12) + (v14 * v6))) h9 l0 1 13 ((v4 * v12) + (v14 * v6)) (fun h16 => gq_get h16 l0 1 14 (fun v17 => gq_put (gx_l (v6 * v17)) h16 l0 1 14 (v6 * v17) (fun h19 => gq_cv h19 l0 1 (f_MD_shorten h19 l0) (fun r20 h21 => gq_gr h21 l0 1 0 (fun o22 => gq_ald 0 h21 o22 ((l1 + 4) + l2) (fun v23 => gq_gr h21 l0 1 0 (fun o25 => gq_ald 0 h21 o25 ((l1 + 0) + l2) (fun v26 => gq_cv h21 l0 1 (f_MD_times h21 l0 v23 v26) (fun r28 h29 => gq_get h29 l0 1 15 (fun v30 => if v30 = 0 then some (1, h29) else some (0, h29))))))))))))) else some (0, h9)))))))
set_option maxHeartbeats 4000000 in
set_option maxRecDepth 100000 in
theorem c_MD_worth (h : gx_H) (l0 : Nat) (l1 : Int) (l2 : Int) : ∀ r h1, f_MD_worth h l0 l1 l2 = some (r, h1) → gx_Met gm_MD_worth [gx_R l0, gx_I l1, gx_I l2] h r h1 := by
  refine gx_enter (l := [some (gx_R l0), some (gx_I l1), some (gx_I l2), none, none, none, none]) (by decide) (Nat.le_of_ble_eq_true rfl) rfl ?_
  unfold f_MD_worth
  refine gx_aload_n (i := 0) (by decide +kernel) rfl ?_
  refine gx_iconst (n := 0) (by decide +kernel) ?_
  refine gx_putzT (by decide) gk_MD (by decide) fl_MD_87 rfl rfl (by decide +kernel) ?_
  refine gx_aload_n (i := 0) (by decide +kernel) rfl ?_
  refine gx_iload_n (i := 1) (by decide +kernel) rfl ?_
  refine gx_iload_n (i := 2) (by decide +kernel) rfl ?_
  refine gx_iconst (n := 1) (by decide +kernel) ?_
  refine gx_cVv3 (Mc := gm_MD_product) (u' := (0, 0)) (c_MD_product _ _ _ _ _) vk_MD_product ml_MD_100 rfl rfl ⟨by decide, by decide, by decide, by decide⟩ (Nat.le_of_ble_eq_true rfl) (by decide +kernel) (fun r2 h3 => ?_)
  refine gx_aload_n (i := 0) (by decide +kernel) rfl ?_
  refine gx_getL gk_MD (by decide) fl_MD_80 rfl (by decide +kernel) (fun c5 => ?_)
  refine gx_lstore_n (i := 3) (l' := [some (gx_R _), some (gx_I _), some (gx_I _), some (gx_L _), none, none, none]) (by decide +kernel) rfl (Nat.le_of_ble_eq_true rfl) (by decide) rfl ?_
  refine gx_aload_n (i := 0) (by decide +kernel) rfl ?_
  refine gx_getL gk_MD (by decide) fl_MD_84 rfl (by decide +kernel) (fun c7 => ?_)
  refine gx_lstore (i := 5) (l' := [some (gx_R _), some (gx_I _), some (gx_I _), some (gx_L _), none, some (gx_L _), none]) (by decide +kernel) rfl (Nat.le_of_ble_eq_true rfl) (by decide) rfl ?_
  refine gx_aload_n (i := 0) (by decide +kernel) rfl ?_
  refine gx_iload_n (i := 1) (by decide +kernel) rfl ?_
  refine gx_iload_n (i := 2) (by decide +kernel) rfl ?_
  refine gx_iconst (n := (-1)) (by decide +kernel) ?_
  refine gx_cVv3 (Mc := gm_MD_product) (u' := (0, 0)) (c_MD_product _ _ _ _ _) vk_MD_product ml_MD_100 rfl rfl ⟨by decide, by decide, by decide, by decide⟩ (Nat.le_of_ble_eq_true rfl) (by decide +kernel) (fun r8 h9 => ?_)
  refine gx_aload_n (i := 0) (by decide +kernel) rfl ?_
  refine gx_geti gk_MD (by decide) fl_MD_87 (Or.inr rfl) (by decide +kernel) (fun c11 => ?_)
  refine gx_if_eq (off := 5) (tgt := 39) c11 (by decide +kernel) (by decide) ?_ ?_
  · refine gx_aload_n (i := 0) (by decide +kernel) rfl ?_
    refine gx_lload_n (i := 3) (by decide +kernel) rfl ?_
    refine gx_aload_n (i := 0) (by decide +kernel) rfl ?_
    refine gx_getL gk_MD (by decide) fl_MD_84 rfl (by decide +kernel) (fun c13 => ?_)
    refine gx_lmul (by decide +kernel) ?_
    refine gx_aload_n (i := 0) (by decide +kernel) rfl ?_
    refine gx_getL gk_MD (by decide) fl_MD_80 rfl (by decide +kernel) (fun c15 => ?_)
    refine gx_lload (i := 5) (by decide +kernel) rfl ?_
    refine gx_lmul (by decide +kernel) ?_
    refine gx_ladd (by decide +kernel) ?_
    refine gx_putl gk_MD (by decide) fl_MD_80 rfl rfl (by decide +kernel) ?_
    refine gx_aload_n (i := 0) (by decide +kernel) rfl ?_
    refine gx_lload (i := 5) (by decide +kernel) rfl ?_
    refine gx_aload_n (i := 0) (by decide +kernel) rfl ?_
    refine gx_getL gk_MD (by decide) fl_MD_84 rfl (by decide +kernel) (fun c18 => ?_)
    refine gx_lmul (by decide +kernel) ?_
    refine gx_putl gk_MD (by decide) fl_MD_84 rfl rfl (by decide +kernel) ?_
    refine gx_aload_n (i := 0) (by decide +kernel) rfl ?_
    refine gx_cVv0 (Mc := gm_MD_shorten) (u' := (0, 0)) (c_MD_shorten _ _) vk_MD_shorten ml_MD_93 rfl rfl ⟨by decide, by decide, by decide, by decide⟩ (Nat.le_of_ble_eq_true rfl) (by decide +kernel) (fun r20 h21 => ?_)
    refine gx_aload_n (i := 0) (by decide +kernel) rfl ?_
    refine gx_aload_n (i := 0) (by decide +kernel) rfl ?_
    refine gx_getr gk_MD (by decide) fl_MD_7 rfl (by decide +kernel) ?_
    refine gx_iload_n (i := 1) (by decide +kernel) rfl ?_
    refine gx_iconst (n := 4) (by decide +kernel) ?_
    refine gx_iadd (by decide +kernel) ?_
    refine gx_iload_n (i := 2) (by decide +kernel) rfl ?_
    refine gx_iadd (by decide +kernel) ?_
    refine gx_ialdi (by decide +kernel) (fun c24 => ?_)
    refine gx_i2l c24 (by decide +kernel) ?_
    refine gx_aload_n (i := 0) (by decide +kernel) rfl ?_
    refine gx_getr gk_MD (by decide) fl_MD_7 rfl (by decide +kernel) ?_
    refine gx_iload_n (i := 1) (by decide +kernel) rfl ?_
    refine gx_iconst (n := 0) (by decide +kernel) ?_
    refine gx_iadd (by decide +kernel) ?_
    refine gx_iload_n (i := 2) (by decide +kernel) rfl ?_
    refine gx_iadd (by decide +kernel) ?_
    refine gx_ialdi (by decide +kernel) (fun c27 => ?_)
    refine gx_i2l c27 (by decide +kernel) ?_
    refine gx_cVv2 (Mc := gm_MD_times) (u' := (0, 0)) (c_MD_times _ _ _ _) vk_MD_times ml_MD_96 rfl rfl ⟨by decide, by decide, by decide, by decide⟩ (Nat.le_of_ble_eq_true rfl) (by decide +kernel) (fun r28 h29 => ?_)
    refine gx_aload_n (i := 0) (by decide +kernel) rfl ?_
    refine gx_geti gk_MD (by decide) fl_MD_87 (Or.inr rfl) (by decide +kernel) (fun c31 => ?_)
    refine gx_if_ne (off := 7) (tgt := 109) c31 (by decide +kernel) (by decide) ?_ ?_
    · refine gx_iconst (n := 0) (by decide +kernel) ?_
      exact gx_zreturn (by decide) rfl rfl (by decide +kernel)
    · refine gx_iconst (n := 1) (by decide +kernel) ?_
      refine gx_goto (off := 4) (tgt := 110) (by decide +kernel) (by decide) ?_
      exact gx_zreturn (by decide) rfl rfl (by decide +kernel)
  · refine gx_iconst (n := 0) (by decide +kernel) ?_
    exact gx_zreturn (by decide) rfl rfl (by decide +kernel)
def f_MD_lay (h : gx_H) (l0 : Nat) (l1 : Int) (l2 : Int) : Option (Int × gx_H) :=
  gq_gr h l0 1 0 (fun o1 => gq_ast 0 (gx_i l2) h o1 l1 l2 (fun h2 => gq_call (f_MD_in h2 l2 (-99) 99) (fun r3 h4 => gq_g ((r3 : Int) = 0 ∨ (r3 : Int) = 1) (some (r3, h4)))))
set_option maxHeartbeats 4000000 in
set_option maxRecDepth 100000 in
theorem c_MD_lay (h : gx_H) (l0 : Nat) (l1 : Int) (l2 : Int) : ∀ r h1, f_MD_lay h l0 l1 l2 = some (r, h1) → gx_Met gm_MD_lay [gx_R l0, gx_I l1, gx_I l2] h r h1 := by
  refine gx_enter (l := [some (gx_R l0), some (gx_I l1), some (gx_I l2)]) (by decide) (Nat.le_of_ble_eq_true rfl) rfl ?_
  unfold f_MD_lay
  refine gx_aload_n (i := 0) (by decide +kernel) rfl ?_
  refine gx_getr gk_MD (by decide) fl_MD_7 rfl (by decide +kernel) ?_
  refine gx_iload_n (i := 1) (by decide +kernel) rfl ?_
  refine gx_iload_n (i := 2) (by decide +kernel) rfl ?_
  refine gx_iast (by decide +kernel) ?_
  refine gx_iload_n (i := 2) (by decide +kernel) rfl ?_
  refine gx_bipush (n := (-99)) (by decide +kernel) (by decide) ?_
  refine gx_bipush (n := 99) (by decide +kernel) (by decide) ?_
  refine gx_cSi3 (Mc := gm_MD_in) (u' := (0, 0)) (c_MD_in _ _ _ _) sk_MD_in ml_MD_68 rfl rfl ⟨by decide, by decide, by decide, by decide⟩ (Nat.le_of_ble_eq_true rfl) (by decide +kernel) (fun r3 h4 => ?_)
  refine gx_g (fun c5 => ?_)
  exact gx_zreturn c5 rfl rfl (by decide +kernel)
def fb_MD_both_27 (h : gx_H) : Option (Int × gx_H) :=
  some (0, h)
set_option maxHeartbeats 4000000 in
set_option maxRecDepth 100000 in
theorem y_MD_both_27 (h : gx_H) : gx_Y gm_MD_both (0, 0) 27 [none, none] [] h (fb_MD_both_27 h) := by
  unfold fb_MD_both_27
  refine gx_iconst (n := 0) (by decide +kernel) ?_
  exact gx_ireturn rfl rfl (by decide +kernel)
def fb_MD_both_12 (h : gx_H) (l0 : Int) (l1 : Int) : Option (Int × gx_H) :=
  gq_g (gx_i l0) (if l0 < 0 then gq_g (gx_i l1) (if l1 < 0 then some (((-l0) * l1), h) else fb_MD_both_27 h ) else fb_MD_both_27 h )
set_option maxHeartbeats 4000000 in
set_option maxRecDepth 100000 in
theorem y_MD_both_12 (h : gx_H) (l0 : Int) (l1 : Int) : gx_Y gm_MD_both (0, 0) 12 [some (gx_I l0), some (gx_I l1)] [] h (fb_MD_both_12 h l0 l1) := by
  unfold fb_MD_both_12
  refine gx_iload_n (i := 0) (by decide +kernel) rfl ?_
  refine gx_g (fun c1 => ?_)
  refine gx_if_ge (off := 14) (tgt := 27) c1 (by decide +kernel) (by decide) ?_ ?_
  · exact gx_less' (y_MD_both_27 _) trivial
  · refine gx_iload_n (i := 1) (by decide +kernel) rfl ?_
    refine gx_g (fun c2 => ?_)
    refine gx_if_ge (off := 10) (tgt := 27) c2 (by decide +kernel) (by decide) ?_ ?_
    · exact gx_less' (y_MD_both_27 _) trivial
    · refine gx_iload_n (i := 0) (by decide +kernel) rfl ?_
      refine gx_ineg (by decide +kernel) ?_
      refine gx_iload_n (i := 1) (by decide +kernel) rfl ?_
      refine gx_imul (by decide +kernel) ?_
      refine gx_goto (off := 4) (tgt := 28) (by decide +kernel) (by decide) ?_
      exact gx_ireturn rfl rfl (by decide +kernel)
def f_MD_both (h : gx_H) (l0 : Int) (l1 : Int) : Option (Int × gx_H) :=
  gq_g (gx_i l0) (if 0 < l0 then gq_g (gx_i l1) (if 0 < l1 then some ((l0 * l1), h) else fb_MD_both_12 h l0 l1) else fb_MD_both_12 h l0 l1)
set_option maxHeartbeats 4000000 in
set_option maxRecDepth 100000 in
theorem c_MD_both (h : gx_H) (l0 : Int) (l1 : Int) : ∀ r h1, f_MD_both h l0 l1 = some (r, h1) → gx_Met gm_MD_both [gx_I l0, gx_I l1] h r h1 := by
  refine gx_enter (l := [some (gx_I l0), some (gx_I l1)]) (by decide) (Nat.le_of_ble_eq_true rfl) rfl ?_
  unfold f_MD_both
  refine gx_iload_n (i := 0) (by decide +kernel) rfl ?_
  refine gx_g (fun c1 => ?_)
  refine gx_if_le (off := 11) (tgt := 12) c1 (by decide +kernel) (by decide) ?_ ?_
  · exact gx_less' (y_MD_both_12 _ _ _) ⟨rfl, rfl, trivial⟩
  · refine gx_iload_n (i := 1) (by decide +kernel) rfl ?_
    refine gx_g (fun c2 => ?_)
    refine gx_if_le (off := 7) (tgt := 12) c2 (by decide +kernel) (by decide) ?_ ?_
    · exact gx_less' (y_MD_both_12 _ _ _) ⟨rfl, rfl, trivial⟩
    · refine gx_iload_n (i := 0) (by decide +kernel) rfl ?_
      refine gx_iload_n (i := 1) (by decide +kernel) rfl ?_
      refine gx_imul (by decide +kernel) ?_
      exact gx_ireturn rfl rfl (by decide +kernel)
def fb_MD_turned_114 (N6 : gx_H → Nat → Int → Int → Int → Int → Int → Option (Int × gx_H)) (N18 : gx_H → Nat → Int → Int → Int → Int → Int → Int → Option (Int × gx_H)) (h : gx_H) (l0 : Nat) (l1 : Int) (l2 : Int) (l3 : Int) (l5 : Int) (l6 : Int) (t0 : Int) : Option (Int × gx_H) :=
  N18 h l0 l1 l2 l3 t0 l5 (l6 + 1)
set_option maxHeartbeats 4000000 in
set_option maxRecDepth 100000 in
theorem y_MD_turned_114 (N6 : gx_H → Nat → Int → Int → Int → Int → Int → Option (Int × gx_H)) (hN6 : ∀ (h : gx_H) (l0 : Nat) (l1 : Int) (l2 : Int) (l3 : Int) (l4 : Int) (l5 : Int), gx_Y gm_MD_turned (0, 0) 6 [some (gx_R l0), some (gx_I l1), some (gx_I l2), some (gx_I l3), some (gx_I l4), some (gx_I l5), none, none] [] h (N6 h l0 l1 l2 l3 l4 l5)) (N18 : gx_H → Nat → Int → Int → Int → Int → Int → Int → Option (Int × gx_H)) (hN18 : ∀ (h : gx_H) (l0 : Nat) (l1 : Int) (l2 : Int) (l3 : Int) (l4 : Int) (l5 : Int) (l6 : Int), gx_Y gm_MD_turned (0, 0) 18 [some (gx_R l0), some (gx_I l1), some (gx_I l2), some (gx_I l3), some (gx_I l4), some (gx_I l5), some (gx_I l6), none] [] h (N18 h l0 l1 l2 l3 l4 l5 l6)) (h : gx_H) (l0 : Nat) (l1 : Int) (l2 : Int) (l3 : Int) (l5 : Int) (l6 : Int) (t0 : Int) : gx_Y gm_MD_turned (0, 0) 114 [some (gx_R l0), some (gx_I l1), some (gx_I l2), some (gx_I l3), none, some (gx_I l5), some (gx_I l6), none] [gx_I t0] h (fb_MD_turned_114 N6 N18 h l0 l1 l2 l3 l5 l6 t0) := by
  unfold fb_MD_turned_114
  refine gx_istore (i := 4) (l' := [some (gx_R _), some (gx_I _), some (gx_I _), some (gx_I _), some (gx_I _), some (gx_I _), some (gx_I _), none]) (by decide +kernel) rfl (Nat.le_of_ble_eq_true rfl) (by decide) rfl ?_
  refine gx_iinc (i := 6) (n := 1) (l' := [some (gx_R _), some (gx_I _), some (gx_I _), some (gx_I _), some (gx_I _), some (gx_I _), some (gx_I _), none]) (by decide +kernel) rfl rfl (Nat.le_of_ble_eq_true rfl) (by decide) rfl ?_
  refine gx_goto (off := -101) (tgt := 18) (by decide +kernel) (by decide) ?_
  exact gx_less' (hN18 _ _ _ _ _ _ _ _) ⟨rfl, rfl, rfl, rfl, rfl, rfl, rfl, trivial⟩
def fb_MD_turned_113 (N6 : gx_H → Nat → Int → Int → Int → Int → Int → Option (Int × gx_H)) (N18 : gx_H → Nat → Int → Int → Int → Int → Int → Int → Option (Int × gx_H)) (h : gx_H) (l0 : Nat) (l1 : Int) (l2 : Int) (l3 : Int) (l5 : Int) (l6 : Int) : Option (Int × gx_H) :=
  fb_MD_turned_114 N6 N18 h l0 l1 l2 l3 l5 l6 0
set_option maxHeartbeats 4000000 in
set_option maxRecDepth 100000 in
theorem y_MD_turned_113 (N6 : gx_H → Nat → Int → Int → Int → Int → Int → Option (Int × gx_H)) (hN6 : ∀ (h : gx_H) (l0 : Nat) (l1 : Int) (l2 : Int) (l3 : Int) (l4 : Int) (l5 : Int), gx_Y gm_MD_turned (0, 0) 6 [some (gx_R l0), some (gx_I l1), some (gx_I l2), some (gx_I l3), some (gx_I l4), some (gx_I l5), none, none] [] h (N6 h l0 l1 l2 l3 l4 l5)) (N18 : gx_H → Nat → Int → Int → Int → Int → Int → Int → Option (Int × gx_H)) (hN18 : ∀ (h : gx_H) (l0 : Nat) (l1 : Int) (l2 : Int) (l3 : Int) (l4 : Int) (l5 : Int) (l6 : Int), gx_Y gm_MD_turned (0, 0) 18 [some (gx_R l0), some (gx_I l1), some (gx_I l2), some (gx_I l3), some (gx_I l4), some (gx_I l5), some (gx_I l6), none] [] h (N18 h l0 l1 l2 l3 l4 l5 l6)) (h : gx_H) (l0 : Nat) (l1 : Int) (l2 : Int) (l3 : Int) (l5 : Int) (l6 : Int) : gx_Y gm_MD_turned (0, 0) 113 [some (gx_R l0), some (gx_I l1), some (gx_I l2), some (gx_I l3), none, some (gx_I l5), some (gx_I l6), none] [] h (fb_MD_turned_113 N6 N18 h l0 l1 l2 l3 l5 l6) := by
  unfold fb_MD_turned_113
  refine gx_iconst (n := 0) (by decide +kernel) ?_
  exact gx_less' (y_MD_turned_114 _ hN6 _ hN18 _ _ _ _ _ _ _ _) ⟨rfl, rfl, rfl, rfl, rfl, rfl, trivial⟩
def fb_MD_turned_81 (N6 : gx_H → Nat → Int → Int → Int → Int → Int → Option (Int × gx_H)) (N18 : gx_H → Nat → Int → Int → Int → Int → Int → Int → Option (Int × gx_H)) (h : gx_H) (l0 : Nat) (l1 : Int) (l2 : Int) (l3 : Int) (l4 : Int) (l5 : Int) (l6 : Int) (t0 : Int) : Option (Int × gx_H) :=
  gq_cv h l0 1 (f_MD_lay h l0 (((l3 + 8) + (4 * l5)) + l6) t0) (fun r1 h2 => gq_g (gx_i r1) (if r1 = 0 then fb_MD_turned_113 N6 N18 h2 l0 l1 l2 l3 l5 l6 else gq_g (gx_i l4) (if l4 = 0 then fb_MD_turned_113 N6 N18 h2 l0 l1 l2 l3 l5 l6 else fb_MD_turned_114 N6 N18 h2 l0 l1 l2 l3 l5 l6 1)))
set_option maxHeartbeats 4000000 in
set_option maxRecDepth 100000 in
theorem y_MD_turned_81 (N6 : gx_H → Nat → Int → Int → Int → Int → Int → Option (Int × gx_H)) (hN6 : ∀ (h : gx_H) (l0 : Nat) (l1 : Int) (l2 : Int) (l3 : Int) (l4 : Int) (l5 : Int), gx_Y gm_MD_turned (0, 0) 6 [some (gx_R l0), some (gx_I l1), some (gx_I l2), some (gx_I l3), some (gx_I l4), some (gx_I l5), none, none] [] h (N6 h l0 l1 l2 l3 l4 l5)) (N18 : gx_H → Nat → Int → Int → Int → Int → Int → Int → Option (Int × gx_H)) (hN18 : ∀ (h : gx_H) (l0 : Nat) (l1 : Int) (l2 : Int) (l3 : Int) (l4 : Int) (l5 : Int) (l6 : Int), gx_Y gm_MD_turned (0, 0) 18 [some (gx_R l0), some (gx_I l1), some (gx_I l2), some (gx_I l3), some (gx_I l4), some (gx_I l5), some (gx_I l6), none] [] h (N18 h l0 l1 l2 l3 l4 l5 l6)) (h : gx_H) (l0 : Nat) (l1 : Int) (l2 : Int) (l3 : Int) (l4 : Int) (l5 : Int) (l6 : Int) (t0 : Int) : gx_Y gm_MD_turned (0, 0) 81 [some (gx_R l0), some (gx_I l1), some (gx_I l2), some (gx_I l3), some (gx_I l4), some (gx_I l5), some (gx_I l6), none] [gx_I t0] h (fb_MD_turned_81 N6 N18 h l0 l1 l2 l3 l4 l5 l6 t0) := by
  unfold fb_MD_turned_81
  refine gx_istore (i := 7) (l' := [some (gx_R _), some (gx_I _), some (gx_I _), some (gx_I _), some (gx_I _), some (gx_I _), some (gx_I _), some (gx_I _)]) (by decide +kernel) rfl (Nat.le_of_ble_eq_true rfl) (by decide) rfl ?_
  refine gx_aload_n (i := 0) (by decide +kernel) rfl ?_
  refine gx_iload_n (i := 3) (by decide +kernel) rfl ?_
  refine gx_bipush (n := 8) (by decide +kernel) (by decide) ?_
  refine gx_iadd (by decide +kernel) ?_
  refine gx_iconst (n := 4) (by decide +kernel) ?_
  refine gx_iload (i := 5) (by decide +kernel) rfl ?_
  refine gx_imul (by decide +kernel) ?_
  refine gx_iadd (by decide +kernel) ?_
  refine gx_iload (i := 6) (by decide +kernel) rfl ?_
  refine gx_iadd (by decide +kernel) ?_
  refine gx_iload (i := 7) (by decide +kernel) rfl ?_
  refine gx_cVi2 (Mc := gm_MD_lay) (u' := (0, 0)) (c_MD_lay _ _ _ _) vk_MD_lay ml_MD_108 rfl rfl ⟨by decide, by decide, by decide, by decide⟩ (Nat.le_of_ble_eq_true rfl) (by decide +kernel) (fun r1 h2 => ?_)
  refine gx_g (fun c3 => ?_)
  refine gx_if_eq (off := 12) (tgt := 113) c3 (by decide +kernel) (by decide) ?_ ?_
  · exact gx_less' (y_MD_turned_113 _ hN6 _ hN18 _ _ _ _ _ _ _) ⟨rfl, rfl, rfl, rfl, rfl, rfl, trivial⟩
  · refine gx_iload (i := 4) (by decide +kernel) rfl ?_
    refine gx_g (fun c4 => ?_)
    refine gx_if_eq (off := 7) (tgt := 113) c4 (by decide +kernel) (by decide) ?_ ?_
    · exact gx_less' (y_MD_turned_113 _ hN6 _ hN18 _ _ _ _ _ _ _) ⟨rfl, rfl, rfl, rfl, rfl, rfl, trivial⟩
    · refine gx_iconst (n := 1) (by decide +kernel) ?_
      refine gx_goto (off := 4) (tgt := 114) (by decide +kernel) (by decide) ?_
      exact gx_less' (y_MD_turned_114 _ hN6 _ hN18 _ _ _ _ _ _ _ _) ⟨rfl, rfl, rfl, rfl, rfl, rfl, trivial⟩
def fb_MD_turned_39 (N6 : gx_H → Nat → Int → Int → Int → Int → Int → Option (Int × gx_H)) (N18 : gx_H → Nat → Int → Int → Int → Int → Int → Int → Option (Int × gx_H)) (h : gx_H) (l0 : Nat) (l1 : Int) (l2 : Int) (l3 : Int) (l4 : Int) (l5 : Int) (l6 : Int) : Option (Int × gx_H) :=
  gq_cv h l0 1 (f_MD_b h l0 l1 l5 l6) (fun r1 h2 => fb_MD_turned_81 N6 N18 h2 l0 l1 l2 l3 l4 l5 l6 (-r1))
set_option maxHeartbeats 4000000 in
set_option maxRecDepth 100000 in
theorem y_MD_turned_39 (N6 : gx_H → Nat → Int → Int → Int → Int → Int → Option (Int × gx_H)) (hN6 : ∀ (h : gx_H) (l0 : Nat) (l1 : Int) (l2 : Int) (l3 : Int) (l4 : Int) (l5 : Int), gx_Y gm_MD_turned (0, 0) 6 [some (gx_R l0), some (gx_I l1), some (gx_I l2), some (gx_I l3), some (gx_I l4), some (gx_I l5), none, none] [] h (N6 h l0 l1 l2 l3 l4 l5)) (N18 : gx_H → Nat → Int → Int → Int → Int → Int → Int → Option (Int × gx_H)) (hN18 : ∀ (h : gx_H) (l0 : Nat) (l1 : Int) (l2 : Int) (l3 : Int) (l4 : Int) (l5 : Int) (l6 : Int), gx_Y gm_MD_turned (0, 0) 18 [some (gx_R l0), some (gx_I l1), some (gx_I l2), some (gx_I l3), some (gx_I l4), some (gx_I l5), some (gx_I l6), none] [] h (N18 h l0 l1 l2 l3 l4 l5 l6)) (h : gx_H) (l0 : Nat) (l1 : Int) (l2 : Int) (l3 : Int) (l4 : Int) (l5 : Int) (l6 : Int) : gx_Y gm_MD_turned (0, 0) 39 [some (gx_R l0), some (gx_I l1), some (gx_I l2), some (gx_I l3), some (gx_I l4), some (gx_I l5), some (gx_I l6), none] [] h (fb_MD_turned_39 N6 N18 h l0 l1 l2 l3 l4 l5 l6) := by
  unfold fb_MD_turned_39
  refine gx_aload_n (i := 0) (by decide +kernel) rfl ?_
  refine gx_iload_n (i := 1) (by decide +kernel) rfl ?_
  refine gx_iload (i := 5) (by decide +kernel) rfl ?_
  refine gx_iload (i := 6) (by decide +kernel) rfl ?_
  refine gx_cVi3 (Mc := gm_MD_b) (u' := (0, 0)) (c_MD_b _ _ _ _ _) vk_MD_b ml_MD_72 rfl rfl ⟨by decide, by decide, by decide, by decide⟩ (Nat.le_of_ble_eq_true rfl) (by decide +kernel) (fun r1 h2 => ?_)
  refine gx_ineg (by decide +kernel) ?_
  refine gx_goto (off := 32) (tgt := 81) (by decide +kernel) (by decide) ?_
  exact gx_less' (y_MD_turned_81 _ hN6 _ hN18 _ _ _ _ _ _ _ _ _) ⟨rfl, rfl, rfl, rfl, rfl, rfl, rfl, trivial⟩
def fb_MD_turned_18 (N6 : gx_H → Nat → Int → Int → Int → Int → Int → Option (Int × gx_H)) (N18 : gx_H → Nat → Int → Int → Int → Int → Int → Int → Option (Int × gx_H)) (h : gx_H) (l0 : Nat) (l1 : Int) (l2 : Int) (l3 : Int) (l4 : Int) (l5 : Int) (l6 : Int) : Option (Int × gx_H) :=
  gq_get h l0 1 1 (fun v1 => gq_g (gx_i l6) (if l6 < v1 then gq_g (gx_i l5) (gq_g (gx_i l2) (if l5 = l2 then fb_MD_turned_39 N6 N18 h l0 l1 l2 l3 l4 l5 l6 else if l6 = l2 then fb_MD_turned_39 N6 N18 h l0 l1 l2 l3 l4 l5 l6 else gq_cv h l0 1 (f_MD_b h l0 l1 l5 l6) (fun r6 h7 => gq_cv h7 l0 1 (f_MD_b h7 l0 l1 l5 l2) (fun r8 h9 => gq_cv h9 l0 1 (f_MD_b h9 l0 l1 l2 l6) (fun r10 h11 => gq_call (f_MD_both h11 r8 r10) (fun r12 h13 => fb_MD_turned_81 N6 N18 h13 l0 l1 l2 l3 l4 l5 l6 (r6 + r12))))))) else N6 h l0 l1 l2 l3 l4 (l5 + 1)))
set_option maxHeartbeats 4000000 in
set_option maxRecDepth 100000 in
theorem yb_MD_turned_18 (N6 : gx_H → Nat → Int → Int → Int → Int → Int → Option (Int × gx_H)) (hN6 : ∀ (h : gx_H) (l0 : Nat) (l1 : Int) (l2 : Int) (l3 : Int) (l4 : Int) (l5 : Int), gx_Y gm_MD_turned (0, 0) 6 [some (gx_R l0), some (gx_I l1), some (gx_I l2), some (gx_I l3), some (gx_I l4), some (gx_I l5), none, none] [] h (N6 h l0 l1 l2 l3 l4 l5)) (N18 : gx_H → Nat → Int → Int → Int → Int → Int → Int → Option (Int × gx_H)) (hN18 : ∀ (h : gx_H) (l0 : Nat) (l1 : Int) (l2 : Int) (l3 : Int) (l4 : Int) (l5 : Int) (l6 : Int), gx_Y gm_MD_turned (0, 0) 18 [some (gx_R l0), some (gx_I l1), some (gx_I l2), some (gx_I l3), some (gx_I l4), some (gx_I l5), some (gx_I l6), none] [] h (N18 h l0 l1 l2 l3 l4 l5 l6)) (h : gx_H) (l0 : Nat) (l1 : Int) (l2 : Int) (l3 : Int) (l4 : Int) (l5 : Int) (l6 : Int) : gx_Y gm_MD_turned (0, 0) 18 [some (gx_R l0), some (gx_I l1), some (gx_I l2), some (gx_I l3), some (gx_I l4), some (gx_I l5), some (gx_I l6), none] [] h (fb_MD_turned_18 N6 N18 h l0 l1 l2 l3 l4 l5 l6) := by
  unfold fb_MD_turned_18
  refine gx_iload (i := 6) (by decide +kernel) rfl ?_
  refine gx_aload_n (i := 0) (by decide +kernel) rfl ?_
  refine gx_geti gk_MD (by decide) fl_MD_13 (Or.inl rfl) (by decide +kernel) (fun c2 => ?_)
  refine gx_g (fun c3 => ?_)
  refine gx_icmp_ge (off := 98) (tgt := 122) c3 c2 (by decide +kernel) (by decide) ?_ ?_
  · refine gx_iinc (i := 5) (n := 1) (l' := [some (gx_R _), some (gx_I _), some (gx_I _), some (gx_I _), some (gx_I _), some (gx_I _), some (gx_I _), none]) (by decide +kernel) rfl rfl (Nat.le_of_ble_eq_true rfl) (by decide) rfl ?_
    refine gx_goto (off := -119) (tgt := 6) (by decide +kernel) (by decide) ?_
    exact gx_less' (hN6 _ _ _ _ _ _ _) ⟨rfl, rfl, rfl, rfl, rfl, rfl, trivial⟩
  · refine gx_iload (i := 5) (by decide +kernel) rfl ?_
    refine gx_iload_n (i := 2) (by decide +kernel) rfl ?_
    refine gx_g (fun c4 => ?_)
    refine gx_g (fun c5 => ?_)
    refine gx_icmp_eq (off := 9) (tgt := 39) c4 c5 (by decide +kernel) (by decide) ?_ ?_
    · exact gx_less' (y_MD_turned_39 _ hN6 _ hN18 _ _ _ _ _ _ _ _) ⟨rfl, rfl, rfl, rfl, rfl, rfl, rfl, trivial⟩
    · refine gx_iload (i := 6) (by decide +kernel) rfl ?_
      refine gx_iload_n (i := 2) (by decide +kernel) rfl ?_
      refine gx_icmp_ne (off := 16) (tgt := 52) c3 c5 (by decide +kernel) (by decide) ?_ ?_
      · refine gx_aload_n (i := 0) (by decide +kernel) rfl ?_
        refine gx_iload_n (i := 1) (by decide +kernel) rfl ?_
        refine gx_iload (i := 5) (by decide +kernel) rfl ?_
        refine gx_iload (i := 6) (by decide +kernel) rfl ?_
        refine gx_cVi3 (Mc := gm_MD_b) (u' := (0, 0)) (c_MD_b _ _ _ _ _) vk_MD_b ml_MD_72 rfl rfl ⟨by decide, by decide, by decide, by decide⟩ (Nat.le_of_ble_eq_true rfl) (by decide +kernel) (fun r6 h7 => ?_)
        refine gx_aload_n (i := 0) (by decide +kernel) rfl ?_
        refine gx_iload_n (i := 1) (by decide +kernel) rfl ?_
        refine gx_iload (i := 5) (by decide +kernel) rfl ?_
        refine gx_iload_n (i := 2) (by decide +kernel) rfl ?_
        refine gx_cVi3 (Mc := gm_MD_b) (u' := (0, 0)) (c_MD_b _ _ _ _ _) vk_MD_b ml_MD_72 rfl rfl ⟨by decide, by decide, by decide, by decide⟩ (Nat.le_of_ble_eq_true rfl) (by decide +kernel) (fun r8 h9 => ?_)
        refine gx_aload_n (i := 0) (by decide +kernel) rfl ?_
        refine gx_iload_n (i := 1) (by decide +kernel) rfl ?_
        refine gx_iload_n (i := 2) (by decide +kernel) rfl ?_
        refine gx_iload (i := 6) (by decide +kernel) rfl ?_
        refine gx_cVi3 (Mc := gm_MD_b) (u' := (0, 0)) (c_MD_b _ _ _ _ _) vk_MD_b ml_MD_72 rfl rfl ⟨by decide, by decide, by decide, by decide⟩ (Nat.le_of_ble_eq_true rfl) (by decide +kernel) (fun r10 h11 => ?_)
        refine gx_cSi2 (Mc := gm_MD_both) (u' := (0, 0)) (c_MD_both _ _ _) sk_MD_both ml_MD_104 rfl rfl ⟨by decide, by decide, by decide, by decide⟩ (Nat.le_of_ble_eq_true rfl) (by decide +kernel) (fun r12 h13 => ?_)
        refine gx_iadd (by decide +kernel) ?_
        exact gx_less' (y_MD_turned_81 _ hN6 _ hN18 _ _ _ _ _ _ _ _ _) ⟨rfl, rfl, rfl, rfl, rfl, rfl, rfl, trivial⟩
      · exact gx_less' (y_MD_turned_39 _ hN6 _ hN18 _ _ _ _ _ _ _ _) ⟨rfl, rfl, rfl, rfl, rfl, rfl, rfl, trivial⟩
def f_MD_turned_18 (N6 : gx_H → Nat → Int → Int → Int → Int → Int → Option (Int × gx_H)) : Nat → gx_H → Nat → Int → Int → Int → Int → Int → Int → Option (Int × gx_H)
  | 0 => fun _ _ _ _ _ _ _ _ => none
  | fu + 1 => fb_MD_turned_18 N6 (f_MD_turned_18 N6 fu)
theorem y_MD_turned_18 (N6 : gx_H → Nat → Int → Int → Int → Int → Int → Option (Int × gx_H)) (hN6 : ∀ (h : gx_H) (l0 : Nat) (l1 : Int) (l2 : Int) (l3 : Int) (l4 : Int) (l5 : Int), gx_Y gm_MD_turned (0, 0) 6 [some (gx_R l0), some (gx_I l1), some (gx_I l2), some (gx_I l3), some (gx_I l4), some (gx_I l5), none, none] [] h (N6 h l0 l1 l2 l3 l4 l5)) : ∀ (fu : Nat) (h : gx_H) (l0 : Nat) (l1 : Int) (l2 : Int) (l3 : Int) (l4 : Int) (l5 : Int) (l6 : Int), gx_Y gm_MD_turned (0, 0) 18 [some (gx_R l0), some (gx_I l1), some (gx_I l2), some (gx_I l3), some (gx_I l4), some (gx_I l5), some (gx_I l6), none] [] h (f_MD_turned_18 N6 fu h l0 l1 l2 l3 l4 l5 l6) := by
  intro fu
  induction fu with
  | zero => intro h l0 l1 l2 l3 l4 l5 l6; exact gx_none
  | succ fu ih => intro h l0 l1 l2 l3 l4 l5 l6; exact yb_MD_turned_18 N6 hN6 (f_MD_turned_18 N6 fu) ih h l0 l1 l2 l3 l4 l5 l6
def fb_MD_turned_6 (N6 : gx_H → Nat → Int → Int → Int → Int → Int → Option (Int × gx_H)) (h : gx_H) (l0 : Nat) (l1 : Int) (l2 : Int) (l3 : Int) (l4 : Int) (l5 : Int) : Option (Int × gx_H) :=
  gq_get h l0 1 1 (fun v1 => gq_g (gx_i l5) (if l5 < v1 then f_MD_turned_18 N6 gx_fu h l0 l1 l2 l3 l4 l5 0 else gq_g ((l4 : Int) = 0 ∨ (l4 : Int) = 1) (some (l4, h))))
set_option maxHeartbeats 4000000 in
set_option maxRecDepth 100000 in
theorem yb_MD_turned_6 (N6 : gx_H → Nat → Int → Int → Int → Int → Int → Option (Int × gx_H)) (hN6 : ∀ (h : gx_H) (l0 : Nat) (l1 : Int) (l2 : Int) (l3 : Int) (l4 : Int) (l5 : Int), gx_Y gm_MD_turned (0, 0) 6 [some (gx_R l0), some (gx_I l1), some (gx_I l2), some (gx_I l3), some (gx_I l4), some (gx_I l5), none, none] [] h (N6 h l0 l1 l2 l3 l4 l5)) (h : gx_H) (l0 : Nat) (l1 : Int) (l2 : Int) (l3 : Int) (l4 : Int) (l5 : Int) : gx_Y gm_MD_turned (0, 0) 6 [some (gx_R l0), some (gx_I l1), some (gx_I l2), some (gx_I l3), some (gx_I l4), some (gx_I l5), none, none] [] h (fb_MD_turned_6 N6 h l0 l1 l2 l3 l4 l5) := by
  unfold fb_MD_turned_6
  refine gx_iload (i := 5) (by decide +kernel) rfl ?_
  refine gx_aload_n (i := 0) (by decide +kernel) rfl ?_
  refine gx_geti gk_MD (by decide) fl_MD_13 (Or.inl rfl) (by decide +kernel) (fun c2 => ?_)
  refine gx_g (fun c3 => ?_)
  refine gx_icmp_ge (off := 116) (tgt := 128) c3 c2 (by decide +kernel) (by decide) ?_ ?_
  · refine gx_iload (i := 4) (by decide +kernel) rfl ?_
    refine gx_g (fun c4 => ?_)
    exact gx_zreturn c4 rfl rfl (by decide +kernel)
  · refine gx_iconst (n := 0) (by decide +kernel) ?_
    refine gx_istore (i := 6) (l' := [some (gx_R _), some (gx_I _), some (gx_I _), some (gx_I _), some (gx_I _), some (gx_I _), some (gx_I _), none]) (by decide +kernel) rfl (Nat.le_of_ble_eq_true rfl) (by decide) rfl ?_
    exact gx_less' (y_MD_turned_18 _ hN6 gx_fu _ _ _ _ _ _ _ _) ⟨rfl, rfl, rfl, rfl, rfl, rfl, rfl, trivial⟩
def f_MD_turned_6 : Nat → gx_H → Nat → Int → Int → Int → Int → Int → Option (Int × gx_H)
  | 0 => fun _ _ _ _ _ _ _ => none
  | fu + 1 => fb_MD_turned_6 (f_MD_turned_6 fu)
theorem y_MD_turned_6 : ∀ (fu : Nat) (h : gx_H) (l0 : Nat) (l1 : Int) (l2 : Int) (l3 : Int) (l4 : Int) (l5 : Int), gx_Y gm_MD_turned (0, 0) 6 [some (gx_R l0), some (gx_I l1), some (gx_I l2), some (gx_I l3), some (gx_I l4), some (gx_I l5), none, none] [] h (f_MD_turned_6 fu h l0 l1 l2 l3 l4 l5) := by
  intro fu
  induction fu with
  | zero => intro h l0 l1 l2 l3 l4 l5; exact gx_none
  | succ fu ih => intro h l0 l1 l2 l3 l4 l5; exact yb_MD_turned_6 (f_MD_turned_6 fu) ih h l0 l1 l2 l3 l4 l5
def f_MD_turned (h : gx_H) (l0 : Nat) (l1 : Int) (l2 : Int) (l3 : Int) : Option (Int × gx_H) :=
  f_MD_turned_6 gx_fu h l0 l1 l2 l3 1 0
set_option maxHeartbeats 4000000 in
set_option maxRecDepth 100000 in
theorem c_MD_turned (h : gx_H) (l0 : Nat) (l1 : Int) (l2 : Int) (l3 : Int) : ∀ r h1, f_MD_turned h l0 l1 l2 l3 = some (r, h1) → gx_Met gm_MD_turned [gx_R l0, gx_I l1, gx_I l2, gx_I l3] h r h1 := by
  refine gx_enter (l := [some (gx_R l0), some (gx_I l1), some (gx_I l2), some (gx_I l3), none, none, none, none]) (by decide) (Nat.le_of_ble_eq_true rfl) rfl ?_
  unfold f_MD_turned
  refine gx_iconst (n := 1) (by decide +kernel) ?_
  refine gx_istore (i := 4) (l' := [some (gx_R _), some (gx_I _), some (gx_I _), some (gx_I _), some (gx_I _), none, none, none]) (by decide +kernel) rfl (Nat.le_of_ble_eq_true rfl) (by decide) rfl ?_
  refine gx_iconst (n := 0) (by decide +kernel) ?_
  refine gx_istore (i := 5) (l' := [some (gx_R _), some (gx_I _), some (gx_I _), some (gx_I _), some (gx_I _), some (gx_I _), none, none]) (by decide +kernel) rfl (Nat.le_of_ble_eq_true rfl) (by decide) rfl ?_
  exact gx_less' (y_MD_turned_6 gx_fu _ _ _ _ _ _ _) ⟨rfl, rfl, rfl, rfl, rfl, rfl, trivial⟩
def fb_MD_gathered_58 (N6 : gx_H → Nat → Int → Int → Int → Int → Int → Int → Int → Option (Int × gx_H)) (h : gx_H) (l0 : Nat) (l1 : Int) (l2 : Int) (l3 : Int) (l4 : Int) (l5 : Int) (l7 : Int) (t0 : Int) (t1 : Int) : Option (Int × gx_H) :=
  N6 h l0 l1 l2 l3 l4 l5 (t0 + t1) (l7 + 1)
set_option maxHeartbeats 4000000 in
set_option maxRecDepth 100000 in
theorem y_MD_gathered_58 (N6 : gx_H → Nat → Int → Int → Int → Int → Int → Int → Int → Option (Int × gx_H)) (hN6 : ∀ (h : gx_H) (l0 : Nat) (l1 : Int) (l2 : Int) (l3 : Int) (l4 : Int) (l5 : Int) (l6 : Int) (l7 : Int), gx_Y gm_MD_gathered (0, 0) 6 [some (gx_R l0), some (gx_I l1), some (gx_I l2), some (gx_I l3), some (gx_I l4), some (gx_I l5), some (gx_I l6), some (gx_I l7), none] [] h (N6 h l0 l1 l2 l3 l4 l5 l6 l7)) (h : gx_H) (l0 : Nat) (l1 : Int) (l2 : Int) (l3 : Int) (l4 : Int) (l5 : Int) (l7 : Int) (t0 : Int) (t1 : Int) : gx_Y gm_MD_gathered (0, 0) 58 [some (gx_R l0), some (gx_I l1), some (gx_I l2), some (gx_I l3), some (gx_I l4), some (gx_I l5), none, some (gx_I l7), none] [gx_I t1, gx_I t0] h (fb_MD_gathered_58 N6 h l0 l1 l2 l3 l4 l5 l7 t0 t1) := by
  unfold fb_MD_gathered_58
  refine gx_iadd (by decide +kernel) ?_
  refine gx_istore (i := 6) (l' := [some (gx_R _), some (gx_I _), some (gx_I _), some (gx_I _), some (gx_I _), some (gx_I _), some (gx_I _), some (gx_I _), none]) (by decide +kernel) rfl (Nat.le_of_ble_eq_true rfl) (by decide) rfl ?_
  refine gx_iinc (i := 7) (n := 1) (l' := [some (gx_R _), some (gx_I _), some (gx_I _), some (gx_I _), some (gx_I _), some (gx_I _), some (gx_I _), some (gx_I _), none]) (by decide +kernel) rfl rfl (Nat.le_of_ble_eq_true rfl) (by decide) rfl ?_
  refine gx_goto (off := -58) (tgt := 6) (by decide +kernel) (by decide) ?_
  exact gx_less' (hN6 _ _ _ _ _ _ _ _ _) ⟨rfl, rfl, rfl, rfl, rfl, rfl, rfl, rfl, trivial⟩
def fb_MD_gathered_6 (N6 : gx_H → Nat → Int → Int → Int → Int → Int → Int → Int → Option (Int × gx_H)) (h : gx_H) (l0 : Nat) (l1 : Int) (l2 : Int) (l3 : Int) (l4 : Int) (l5 : Int) (l6 : Int) (l7 : Int) : Option (Int × gx_H) :=
  gq_get h l0 1 1 (fun v1 => gq_g (gx_i l7) (if l7 < v1 then gq_cv h l0 1 (f_MD_b h l0 l1 l7 l2) (fun r4 h5 => gq_g (gx_i (l3 * r4)) (if 0 < (l3 * r4) then gq_gr h5 l0 1 0 (fun o7 => gq_ald 0 h5 o7 (((l1 + l4) + (4 * l7)) + l5) (fun v8 => fb_MD_gathered_58 N6 h5 l0 l1 l2 l3 l4 l5 l7 l6 ((l3 * r4) * v8))) else fb_MD_gathered_58 N6 h5 l0 l1 l2 l3 l4 l5 l7 l6 0)) else some (l6, h)))
set_option maxHeartbeats 4000000 in
set_option maxRecDepth 100000 in
theorem yb_MD_gathered_6 (N6 : gx_H → Nat → Int → Int → Int → Int → Int → Int → Int → Option (Int × gx_H)) (hN6 : ∀ (h : gx_H) (l0 : Nat) (l1 : Int) (l2 : Int) (l3 : Int) (l4 : Int) (l5 : Int) (l6 : Int) (l7 : Int), gx_Y gm_MD_gathered (0, 0) 6 [some (gx_R l0), some (gx_I l1), some (gx_I l2), some (gx_I l3), some (gx_I l4), some (gx_I l5), some (gx_I l6), some (gx_I l7), none] [] h (N6 h l0 l1 l2 l3 l4 l5 l6 l7)) (h : gx_H) (l0 : Nat) (l1 : Int) (l2 : Int) (l3 : Int) (l4 : Int) (l5 : Int) (l6 : Int) (l7 : Int) : gx_Y gm_MD_gathered (0, 0) 6 [some (gx_R l0), some (gx_I l1), some (gx_I l2), some (gx_I l3), some (gx_I l4), some (gx_I l5), some (gx_I l6), some (gx_I l7), none] [] h (fb_MD_gathered_6 N6 h l0 l1 l2 l3 l4 l5 l6 l7) := by
  unfold fb_MD_gathered_6
  refine gx_iload (i := 7) (by decide +kernel) rfl ?_
  refine gx_aload_n (i := 0) (by decide +kernel) rfl ?_
  refine gx_geti gk_MD (by decide) fl_MD_13 (Or.inl rfl) (by decide +kernel) (fun c2 => ?_)
  refine gx_g (fun c3 => ?_)
  refine gx_icmp_ge (off := 55) (tgt := 67) c3 c2 (by decide +kernel) (by decide) ?_ ?_
  · refine gx_iload (i := 6) (by decide +kernel) rfl ?_
    exact gx_ireturn rfl rfl (by decide +kernel)
  · refine gx_iload_n (i := 3) (by decide +kernel) rfl ?_
    refine gx_aload_n (i := 0) (by decide +kernel) rfl ?_
    refine gx_iload_n (i := 1) (by decide +kernel) rfl ?_
    refine gx_iload (i := 7) (by decide +kernel) rfl ?_
    refine gx_iload_n (i := 2) (by decide +kernel) rfl ?_
    refine gx_cVi3 (Mc := gm_MD_b) (u' := (0, 0)) (c_MD_b _ _ _ _ _) vk_MD_b ml_MD_72 rfl rfl ⟨by decide, by decide, by decide, by decide⟩ (Nat.le_of_ble_eq_true rfl) (by decide +kernel) (fun r4 h5 => ?_)
    refine gx_imul (by decide +kernel) ?_
    refine gx_istore (i := 8) (l' := [some (gx_R _), some (gx_I _), some (gx_I _), some (gx_I _), some (gx_I _), some (gx_I _), some (gx_I _), some (gx_I _), some (gx_I _)]) (by decide +kernel) rfl (Nat.le_of_ble_eq_true rfl) (by decide) rfl ?_
    refine gx_iload (i := 6) (by decide +kernel) rfl ?_
    refine gx_iload (i := 8) (by decide +kernel) rfl ?_
    refine gx_g (fun c6 => ?_)
    refine gx_if_le (off := 26) (tgt := 57) c6 (by decide +kernel) (by decide) ?_ ?_
    · refine gx_iconst (n := 0) (by decide +kernel) ?_
      exact gx_less' (y_MD_gathered_58 _ hN6 _ _ _ _ _ _ _ _ _ _) ⟨rfl, rfl, rfl, rfl, rfl, rfl, rfl, trivial⟩
    · refine gx_iload (i := 8) (by decide +kernel) rfl ?_
      refine gx_aload_n (i := 0) (by decide +kernel) rfl ?_
      refine gx_getr gk_MD (by decide) fl_MD_7 rfl (by decide +kernel) ?_
      refine gx_iload_n (i := 1) (by decide +kernel) rfl ?_
      refine gx_iload (i := 4) (by decide +kernel) rfl ?_
      refine gx_iadd (by decide +kernel) ?_
      refine gx_iconst (n := 4) (by decide +kernel) ?_
      refine gx_iload (i := 7) (by decide +kernel) rfl ?_
      refine gx_imul (by decide +kernel) ?_
      refine gx_iadd (by decide +kernel) ?_
      refine gx_iload (i := 5) (by decide +kernel) rfl ?_
      refine gx_iadd (by decide +kernel) ?_
      refine gx_ialdi (by decide +kernel) (fun c9 => ?_)
      refine gx_imul (by decide +kernel) ?_
      refine gx_goto (off := 4) (tgt := 58) (by decide +kernel) (by decide) ?_
      exact gx_less' (y_MD_gathered_58 _ hN6 _ _ _ _ _ _ _ _ _ _) ⟨rfl, rfl, rfl, rfl, rfl, rfl, rfl, trivial⟩
def f_MD_gathered_6 : Nat → gx_H → Nat → Int → Int → Int → Int → Int → Int → Int → Option (Int × gx_H)
  | 0 => fun _ _ _ _ _ _ _ _ _ => none
  | fu + 1 => fb_MD_gathered_6 (f_MD_gathered_6 fu)
theorem y_MD_gathered_6 : ∀ (fu : Nat) (h : gx_H) (l0 : Nat) (l1 : Int) (l2 : Int) (l3 : Int) (l4 : Int) (l5 : Int) (l6 : Int) (l7 : Int), gx_Y gm_MD_gathered (0, 0) 6 [some (gx_R l0), some (gx_I l1), some (gx_I l2), some (gx_I l3), some (gx_I l4), some (gx_I l5), some (gx_I l6), some (gx_I l7), none] [] h (f_MD_gathered_6 fu h l0 l1 l2 l3 l4 l5 l6 l7) := by
  intro fu
  induction fu with
  | zero => intro h l0 l1 l2 l3 l4 l5 l6 l7; exact gx_none
  | succ fu ih => intro h l0 l1 l2 l3 l4 l5 l6 l7; exact yb_MD_gathered_6 (f_MD_gathered_6 fu) ih h l0 l1 l2 l3 l4 l5 l6 l7
def f_MD_gathered (h : gx_H) (l0 : Nat) (l1 : Int) (l2 : Int) (l3 : Int) (l4 : Int) (l5 : Int) : Option (Int × gx_H) :=
  f_MD_gathered_6 gx_fu h l0 l1 l2 l3 l4 l5 0 0
set_option maxHeartbeats 4000000 in
set_option maxRecDepth 100000 in
theorem c_MD_gathered (h : gx_H) (l0 : Nat) (l1 : Int) (l2 : Int) (l3 : Int) (l4 : Int) (l5 : Int) : ∀ r h1, f_MD_gathered h l0 l1 l2 l3 l4 l5 = some (r, h1) → gx_Met gm_MD_gathered [gx_R l0, gx_I l1, gx_I l2, gx_I l3, gx_I l4, gx_I l5] h r h1 := by
  refine gx_enter (l := [some (gx_R l0), some (gx_I l1), some (gx_I l2), some (gx_I l3), some (gx_I l4), some (gx_I l5), none, none, none]) (by decide) (Nat.le_of_ble_eq_true rfl) rfl ?_
  unfold f_MD_gathered
  refine gx_iconst (n := 0) (by decide +kernel) ?_
  refine gx_istore (i := 6) (l' := [some (gx_R _), some (gx_I _), some (gx_I _), some (gx_I _), some (gx_I _), some (gx_I _), some (gx_I _), none, none]) (by decide +kernel) rfl (Nat.le_of_ble_eq_true rfl) (by decide) rfl ?_
  refine gx_iconst (n := 0) (by decide +kernel) ?_
  refine gx_istore (i := 7) (l' := [some (gx_R _), some (gx_I _), some (gx_I _), some (gx_I _), some (gx_I _), some (gx_I _), some (gx_I _), some (gx_I _), none]) (by decide +kernel) rfl (Nat.le_of_ble_eq_true rfl) (by decide) rfl ?_
  exact gx_less' (y_MD_gathered_6 gx_fu _ _ _ _ _ _ _ _ _) ⟨rfl, rfl, rfl, rfl, rfl, rfl, rfl, rfl, trivial⟩
def fb_MD_denominators_104 (N6 : gx_H → Nat → Int → Int → Int → Int → Int → Option (Int × gx_H)) (h : gx_H) (l0 : Nat) (l1 : Int) (l2 : Int) (l3 : Int) (l5 : Int) (t0 : Int) : Option (Int × gx_H) :=
  N6 h l0 l1 l2 l3 t0 (l5 + 1)
set_option maxHeartbeats 4000000 in
set_option maxRecDepth 100000 in
theorem y_MD_denominators_104 (N6 : gx_H → Nat → Int → Int → Int → Int → Int → Option (Int × gx_H)) (hN6 : ∀ (h : gx_H) (l0 : Nat) (l1 : Int) (l2 : Int) (l3 : Int) (l4 : Int) (l5 : Int), gx_Y gm_MD_denominators (0, 0) 6 [some (gx_R l0), some (gx_I l1), some (gx_I l2), some (gx_I l3), some (gx_I l4), some (gx_I l5), none, none, none] [] h (N6 h l0 l1 l2 l3 l4 l5)) (h : gx_H) (l0 : Nat) (l1 : Int) (l2 : Int) (l3 : Int) (l5 : Int) (t0 : Int) : gx_Y gm_MD_denominators (0, 0) 104 [some (gx_R l0), some (gx_I l1), some (gx_I l2), some (gx_I l3), none, some (gx_I l5), none, none, none] [gx_I t0] h (fb_MD_denominators_104 N6 h l0 l1 l2 l3 l5 t0) := by
  unfold fb_MD_denominators_104
  refine gx_istore (i := 4) (l' := [some (gx_R _), some (gx_I _), some (gx_I _), some (gx_I _), some (gx_I _), some (gx_I _), none, none, none]) (by decide +kernel) rfl (Nat.le_of_ble_eq_true rfl) (by decide) rfl ?_
  refine gx_iinc (i := 5) (n := 1) (l' := [some (gx_R _), some (gx_I _), some (gx_I _), some (gx_I _), some (gx_I _), some (gx_I _), none, none, none]) (by decide +kernel) rfl rfl (Nat.le_of_ble_eq_true rfl) (by decide) rfl ?_
  refine gx_goto (off := -103) (tgt := 6) (by decide +kernel) (by decide) ?_
  exact gx_less' (hN6 _ _ _ _ _ _ _) ⟨rfl, rfl, rfl, rfl, rfl, rfl, trivial⟩
def fb_MD_denominators_103 (N6 : gx_H → Nat → Int → Int → Int → Int → Int → Option (Int × gx_H)) (h : gx_H) (l0 : Nat) (l1 : Int) (l2 : Int) (l3 : Int) (l5 : Int) : Option (Int × gx_H) :=
  fb_MD_denominators_104 N6 h l0 l1 l2 l3 l5 0
set_option maxHeartbeats 4000000 in
set_option maxRecDepth 100000 in
theorem y_MD_denominators_103 (N6 : gx_H → Nat → Int → Int → Int → Int → Int → Option (Int × gx_H)) (hN6 : ∀ (h : gx_H) (l0 : Nat) (l1 : Int) (l2 : Int) (l3 : Int) (l4 : Int) (l5 : Int), gx_Y gm_MD_denominators (0, 0) 6 [some (gx_R l0), some (gx_I l1), some (gx_I l2), some (gx_I l3), some (gx_I l4), some (gx_I l5), none, none, none] [] h (N6 h l0 l1 l2 l3 l4 l5)) (h : gx_H) (l0 : Nat) (l1 : Int) (l2 : Int) (l3 : Int) (l5 : Int) : gx_Y gm_MD_denominators (0, 0) 103 [some (gx_R l0), some (gx_I l1), some (gx_I l2), some (gx_I l3), none, some (gx_I l5), none, none, none] [] h (fb_MD_denominators_103 N6 h l0 l1 l2 l3 l5) := by
  unfold fb_MD_denominators_103
  refine gx_iconst (n := 0) (by decide +kernel) ?_
  exact gx_less' (y_MD_denominators_104 _ hN6 _ _ _ _ _ _ _) ⟨rfl, rfl, rfl, rfl, rfl, trivial⟩
def fb_MD_denominators_55 (N6 : gx_H → Nat → Int → Int → Int → Int → Int → Option (Int × gx_H)) (h : gx_H) (l0 : Nat) (l1 : Int) (l2 : Int) (l3 : Int) (l4 : Int) (l5 : Int) (t0 : Int) : Option (Int × gx_H) :=
  gq_gr h l0 1 0 (fun o1 => gq_ald 0 h o1 (((l1 + 24) + (4 * l2)) + l5) (fun v2 => gq_cv h l0 1 (f_MD_lay h l0 (((l3 + 24) + (4 * l2)) + l5) (t0 - v2)) (fun r4 h5 => gq_g (gx_i r4) (if r4 = 0 then fb_MD_denominators_103 N6 h5 l0 l1 l2 l3 l5 else gq_g (gx_i l4) (if l4 = 0 then fb_MD_denominators_103 N6 h5 l0 l1 l2 l3 l5 else fb_MD_denominators_104 N6 h5 l0 l1 l2 l3 l5 1)))))
set_option maxHeartbeats 4000000 in
set_option maxRecDepth 100000 in
theorem y_MD_denominators_55 (N6 : gx_H → Nat → Int → Int → Int → Int → Int → Option (Int × gx_H)) (hN6 : ∀ (h : gx_H) (l0 : Nat) (l1 : Int) (l2 : Int) (l3 : Int) (l4 : Int) (l5 : Int), gx_Y gm_MD_denominators (0, 0) 6 [some (gx_R l0), some (gx_I l1), some (gx_I l2), some (gx_I l3), some (gx_I l4), some (gx_I l5), none, none, none] [] h (N6 h l0 l1 l2 l3 l4 l5)) (h : gx_H) (l0 : Nat) (l1 : Int) (l2 : Int) (l3 : Int) (l4 : Int) (l5 : Int) (t0 : Int) : gx_Y gm_MD_denominators (0, 0) 55 [some (gx_R l0), some (gx_I l1), some (gx_I l2), some (gx_I l3), some (gx_I l4), some (gx_I l5), none, none, none] [gx_I t0] h (fb_MD_denominators_55 N6 h l0 l1 l2 l3 l4 l5 t0) := by
  unfold fb_MD_denominators_55
  refine gx_aload_n (i := 0) (by decide +kernel) rfl ?_
  refine gx_getr gk_MD (by decide) fl_MD_7 rfl (by decide +kernel) ?_
  refine gx_iload_n (i := 1) (by decide +kernel) rfl ?_
  refine gx_bipush (n := 24) (by decide +kernel) (by decide) ?_
  refine gx_iadd (by decide +kernel) ?_
  refine gx_iconst (n := 4) (by decide +kernel) ?_
  refine gx_iload_n (i := 2) (by decide +kernel) rfl ?_
  refine gx_imul (by decide +kernel) ?_
  refine gx_iadd (by decide +kernel) ?_
  refine gx_iload (i := 5) (by decide +kernel) rfl ?_
  refine gx_iadd (by decide +kernel) ?_
  refine gx_ialdi (by decide +kernel) (fun c3 => ?_)
  refine gx_isub (by decide +kernel) ?_
  refine gx_istore (i := 8) (l' := [some (gx_R _), some (gx_I _), some (gx_I _), some (gx_I _), some (gx_I _), some (gx_I _), none, none, some (gx_I _)]) (by decide +kernel) rfl (Nat.le_of_ble_eq_true rfl) (by decide) rfl ?_
  refine gx_aload_n (i := 0) (by decide +kernel) rfl ?_
  refine gx_iload_n (i := 3) (by decide +kernel) rfl ?_
  refine gx_bipush (n := 24) (by decide +kernel) (by decide) ?_
  refine gx_iadd (by decide +kernel) ?_
  refine gx_iconst (n := 4) (by decide +kernel) ?_
  refine gx_iload_n (i := 2) (by decide +kernel) rfl ?_
  refine gx_imul (by decide +kernel) ?_
  refine gx_iadd (by decide +kernel) ?_
  refine gx_iload (i := 5) (by decide +kernel) rfl ?_
  refine gx_iadd (by decide +kernel) ?_
  refine gx_iload (i := 8) (by decide +kernel) rfl ?_
  refine gx_cVi2 (Mc := gm_MD_lay) (u' := (0, 0)) (c_MD_lay _ _ _ _) vk_MD_lay ml_MD_108 rfl rfl ⟨by decide, by decide, by decide, by decide⟩ (Nat.le_of_ble_eq_true rfl) (by decide +kernel) (fun r4 h5 => ?_)
  refine gx_g (fun c6 => ?_)
  refine gx_if_eq (off := 12) (tgt := 103) c6 (by decide +kernel) (by decide) ?_ ?_
  · exact gx_less' (y_MD_denominators_103 _ hN6 _ _ _ _ _ _) ⟨rfl, rfl, rfl, rfl, rfl, trivial⟩
  · refine gx_iload (i := 4) (by decide +kernel) rfl ?_
    refine gx_g (fun c7 => ?_)
    refine gx_if_eq (off := 7) (tgt := 103) c7 (by decide +kernel) (by decide) ?_ ?_
    · exact gx_less' (y_MD_denominators_103 _ hN6 _ _ _ _ _ _) ⟨rfl, rfl, rfl, rfl, rfl, trivial⟩
    · refine gx_iconst (n := 1) (by decide +kernel) ?_
      refine gx_goto (off := 4) (tgt := 104) (by decide +kernel) (by decide) ?_
      exact gx_less' (y_MD_denominators_104 _ hN6 _ _ _ _ _ _ _) ⟨rfl, rfl, rfl, rfl, rfl, trivial⟩
def fb_MD_denominators_6 (N6 : gx_H → Nat → Int → Int → Int → Int → Int → Option (Int × gx_H)) (h : gx_H) (l0 : Nat) (l1 : Int) (l2 : Int) (l3 : Int) (l4 : Int) (l5 : Int) : Option (Int × gx_H) :=
  gq_get h l0 1 1 (fun v1 => gq_g (gx_i l5) (if l5 < v1 then gq_cv h l0 1 (f_MD_gathered h l0 l1 l2 1 24 l5) (fun r5 h6 => gq_cv h6 l0 1 (f_MD_gathered h6 l0 l1 l2 (-1) 24 l5) (fun r7 h8 => gq_g (gx_i r5) (gq_g (gx_i r7) (if r7 < r5 then fb_MD_denominators_55 N6 h8 l0 l1 l2 l3 l4 l5 r5 else fb_MD_denominators_55 N6 h8 l0 l1 l2 l3 l4 l5 r7)))) else gq_g ((l4 : Int) = 0 ∨ (l4 : Int) = 1) (some (l4, h))))
set_option maxHeartbeats 4000000 in
set_option maxRecDepth 100000 in
theorem yb_MD_denominators_6 (N6 : gx_H → Nat → Int → Int → Int → Int → Int → Option (Int × gx_H)) (hN6 : ∀ (h : gx_H) (l0 : Nat) (l1 : Int) (l2 : Int) (l3 : Int) (l4 : Int) (l5 : Int), gx_Y gm_MD_denominators (0, 0) 6 [some (gx_R l0), some (gx_I l1), some (gx_I l2), some (gx_I l3), some (gx_I l4), some (gx_I l5), none, none, none] [] h (N6 h l0 l1 l2 l3 l4 l5)) (h : gx_H) (l0 : Nat) (l1 : Int) (l2 : Int) (l3 : Int) (l4 : Int) (l5 : Int) : gx_Y gm_MD_denominators (0, 0) 6 [some (gx_R l0), some (gx_I l1), some (gx_I l2), some (gx_I l3), some (gx_I l4), some (gx_I l5), none, none, none] [] h (fb_MD_denominators_6 N6 h l0 l1 l2 l3 l4 l5) := by
  unfold fb_MD_denominators_6
  refine gx_iload (i := 5) (by decide +kernel) rfl ?_
  refine gx_aload_n (i := 0) (by decide +kernel) rfl ?_
  refine gx_geti gk_MD (by decide) fl_MD_13 (Or.inl rfl) (by decide +kernel) (fun c2 => ?_)
  refine gx_g (fun c3 => ?_)
  refine gx_icmp_ge (off := 100) (tgt := 112) c3 c2 (by decide +kernel) (by decide) ?_ ?_
  · refine gx_iload (i := 4) (by decide +kernel) rfl ?_
    refine gx_g (fun c4 => ?_)
    exact gx_zreturn c4 rfl rfl (by decide +kernel)
  · refine gx_aload_n (i := 0) (by decide +kernel) rfl ?_
    refine gx_iload_n (i := 1) (by decide +kernel) rfl ?_
    refine gx_iload_n (i := 2) (by decide +kernel) rfl ?_
    refine gx_iconst (n := 1) (by decide +kernel) ?_
    refine gx_bipush (n := 24) (by decide +kernel) (by decide) ?_
    refine gx_iload (i := 5) (by decide +kernel) rfl ?_
    refine gx_cVi5 (Mc := gm_MD_gathered) (u' := (0, 0)) (c_MD_gathered _ _ _ _ _ _ _) vk_MD_gathered ml_MD_112 rfl rfl ⟨by decide, by decide, by decide, by decide⟩ (Nat.le_of_ble_eq_true rfl) (by decide +kernel) (fun r5 h6 => ?_)
    refine gx_istore (i := 6) (l' := [some (gx_R _), some (gx_I _), some (gx_I _), some (gx_I _), some (gx_I _), some (gx_I _), some (gx_I _), none, none]) (by decide +kernel) rfl (Nat.le_of_ble_eq_true rfl) (by decide) rfl ?_
    refine gx_aload_n (i := 0) (by decide +kernel) rfl ?_
    refine gx_iload_n (i := 1) (by decide +kernel) rfl ?_
    refine gx_iload_n (i := 2) (by decide +kernel) rfl ?_
    refine gx_iconst (n := (-1)) (by decide +kernel) ?_
    refine gx_bipush (n := 24) (by decide +kernel) (by decide) ?_
    refine gx_iload (i := 5) (by decide +kernel) rfl ?_
    refine gx_cVi5 (Mc := gm_MD_gathered) (u' := (0, 0)) (c_MD_gathered _ _ _ _ _ _ _) vk_MD_gathered ml_MD_112 rfl rfl ⟨by decide, by decide, by decide, by decide⟩ (Nat.le_of_ble_eq_true rfl) (by decide +kernel) (fun r7 h8 => ?_)
    refine gx_istore (i := 7) (l' := [some (gx_R _), some (gx_I _), some (gx_I _), some (gx_I _), some (gx_I _), some (gx_I _), some (gx_I _), some (gx_I _), none]) (by decide +kernel) rfl (Nat.le_of_ble_eq_true rfl) (by decide) rfl ?_
    refine gx_iload (i := 6) (by decide +kernel) rfl ?_
    refine gx_iload (i := 7) (by decide +kernel) rfl ?_
    refine gx_g (fun c9 => ?_)
    refine gx_g (fun c10 => ?_)
    refine gx_icmp_le (off := 8) (tgt := 53) c9 c10 (by decide +kernel) (by decide) ?_ ?_
    · refine gx_iload (i := 7) (by decide +kernel) rfl ?_
      exact gx_less' (y_MD_denominators_55 _ hN6 _ _ _ _ _ _ _ _) ⟨rfl, rfl, rfl, rfl, rfl, rfl, trivial⟩
    · refine gx_iload (i := 6) (by decide +kernel) rfl ?_
      refine gx_goto (off := 5) (tgt := 55) (by decide +kernel) (by decide) ?_
      exact gx_less' (y_MD_denominators_55 _ hN6 _ _ _ _ _ _ _ _) ⟨rfl, rfl, rfl, rfl, rfl, rfl, trivial⟩
def f_MD_denominators_6 : Nat → gx_H → Nat → Int → Int → Int → Int → Int → Option (Int × gx_H)
  | 0 => fun _ _ _ _ _ _ _ => none
  | fu + 1 => fb_MD_denominators_6 (f_MD_denominators_6 fu)
theorem y_MD_denominators_6 : ∀ (fu : Nat) (h : gx_H) (l0 : Nat) (l1 : Int) (l2 : Int) (l3 : Int) (l4 : Int) (l5 : Int), gx_Y gm_MD_denominators (0, 0) 6 [some (gx_R l0), some (gx_I l1), some (gx_I l2), some (gx_I l3), some (gx_I l4), some (gx_I l5), none, none, none] [] h (f_MD_denominators_6 fu h l0 l1 l2 l3 l4 l5) := by
  intro fu
  induction fu with
  | zero => intro h l0 l1 l2 l3 l4 l5; exact gx_none
  | succ fu ih => intro h l0 l1 l2 l3 l4 l5; exact yb_MD_denominators_6 (f_MD_denominators_6 fu) ih h l0 l1 l2 l3 l4 l5
def f_MD_denominators (h : gx_H) (l0 : Nat) (l1 : Int) (l2 : Int) (l3 : Int) : Option (Int × gx_H) :=
  f_MD_denominators_6 gx_fu h l0 l1 l2 l3 1 0
set_option maxHeartbeats 4000000 in
set_option maxRecDepth 100000 in
theorem c_MD_denominators (h : gx_H) (l0 : Nat) (l1 : Int) (l2 : Int) (l3 : Int) : ∀ r h1, f_MD_denominators h l0 l1 l2 l3 = some (r, h1) → gx_Met gm_MD_denominators [gx_R l0, gx_I l1, gx_I l2, gx_I l3] h r h1 := by
  refine gx_enter (l := [some (gx_R l0), some (gx_I l1), some (gx_I l2), some (gx_I l3), none, none, none, none, none]) (by decide) (Nat.le_of_ble_eq_true rfl) rfl ?_
  unfold f_MD_denominators
  refine gx_iconst (n := 1) (by decide +kernel) ?_
  refine gx_istore (i := 4) (l' := [some (gx_R _), some (gx_I _), some (gx_I _), some (gx_I _), some (gx_I _), none, none, none, none]) (by decide +kernel) rfl (Nat.le_of_ble_eq_true rfl) (by decide) rfl ?_
  refine gx_iconst (n := 0) (by decide +kernel) ?_
  refine gx_istore (i := 5) (l' := [some (gx_R _), some (gx_I _), some (gx_I _), some (gx_I _), some (gx_I _), some (gx_I _), none, none, none]) (by decide +kernel) rfl (Nat.le_of_ble_eq_true rfl) (by decide) rfl ?_
  exact gx_less' (y_MD_denominators_6 gx_fu _ _ _ _ _ _ _) ⟨rfl, rfl, rfl, rfl, rfl, rfl, trivial⟩
