def fb_MD_signs_121 (N6 : gx_H → Nat → Int → Int → Int → Int → Int → Option (Int × gx_H)) (N18 : gx_H → Nat → Int → Int → Int → Int → Int → Int → Option (Int × gx_H)) (h : gx_H) (l0 : Nat) (l1 : Int) (l2 : Int) (l3 : Int) (l5 : Int) (l6 : Int) (t0 : Int) : Option (Int × gx_H) :=
  N18 h l0 l1 l2 l3 t0 l5 (l6 + 1)
set_option maxHeartbeats 4000000 in
set_option maxRecDepth 100000 in
theorem y_MD_signs_121 (N6 : gx_H → Nat → Int → Int → Int → Int → Int → Option (Int × gx_H)) (hN6 : ∀ (h : gx_H) (l0 : Nat) (l1 : Int) (l2 : Int) (l3 : Int) (l4 : Int) (l5 : Int), gx_Y gm_MD_signs (0, 0) 6 [some (gx_R l0), some (gx_I l1), some (gx_I l2), some (gx_I l3), some (gx_I l4), some (gx_I l5), none, none, none] [] h (N6 h l0 l1 l2 l3 l4 l5)) (N18 : gx_H → Nat → Int → Int → Int → Int → Int → Int → Option (Int × gx_H)) (hN18 : ∀ (h : gx_H) (l0 : Nat) (l1 : Int) (l2 : Int) (l3 : Int) (l4 : Int) (l5 : Int) (l6 : Int), gx_Y gm_MD_signs (0, 0) 18 [some (gx_R l0), some (gx_I l1), some (gx_I l2), some (gx_I l3), some (gx_I l4), some (gx_I l5), some (gx_I l6), none, none] [] h (N18 h l0 l1 l2 l3 l4 l5 l6)) (h : gx_H) (l0 : Nat) (l1 : Int) (l2 : Int) (l3 : Int) (l5 : Int) (l6 : Int) (t0 : Int) : gx_Y gm_MD_signs (0, 0) 121 [some (gx_R l0), some (gx_I l1), some (gx_I l2), some (gx_I l3), none, some (gx_I l5), some (gx_I l6), none, none] [gx_I t0] h (fb_MD_signs_121 N6 N18 h l0 l1 l2 l3 l5 l6 t0) := by
  unfold fb_MD_signs_121
  refine gx_istore (i := 4) (l' := [some (gx_R _), some (gx_I _), some (gx_I _), some (gx_I _), some (gx_I _), some (gx_I _), some (gx_I _), none, none]) (by decide +kernel) rfl (Nat.le_of_ble_eq_true rfl) (by decide) rfl ?_
  refine gx_iinc (i := 6) (n := 1) (l' := [some (gx_R _), some (gx_I _), some (gx_I _), some (gx_I _), some (gx_I _), some (gx_I _), some (gx_I _), none, none]) (by decide +kernel) rfl rfl (Nat.le_of_ble_eq_true rfl) (by decide) rfl ?_
  refine gx_goto (off := -108) (tgt := 18) (by decide +kernel) (by decide) ?_
  exact gx_less' (hN18 _ _ _ _ _ _ _ _) ⟨rfl, rfl, rfl, rfl, rfl, rfl, rfl, trivial⟩
def fb_MD_signs_120 (N6 : gx_H → Nat → Int → Int → Int → Int → Int → Option (Int × gx_H)) (N18 : gx_H → Nat → Int → Int → Int → Int → Int → Int → Option (Int × gx_H)) (h : gx_H) (l0 : Nat) (l1 : Int) (l2 : Int) (l3 : Int) (l5 : Int) (l6 : Int) : Option (Int × gx_H) :=
  fb_MD_signs_121 N6 N18 h l0 l1 l2 l3 l5 l6 0
set_option maxHeartbeats 4000000 in
set_option maxRecDepth 100000 in
theorem y_MD_signs_120 (N6 : gx_H → Nat → Int → Int → Int → Int → Int → Option (Int × gx_H)) (hN6 : ∀ (h : gx_H) (l0 : Nat) (l1 : Int) (l2 : Int) (l3 : Int) (l4 : Int) (l5 : Int), gx_Y gm_MD_signs (0, 0) 6 [some (gx_R l0), some (gx_I l1), some (gx_I l2), some (gx_I l3), some (gx_I l4), some (gx_I l5), none, none, none] [] h (N6 h l0 l1 l2 l3 l4 l5)) (N18 : gx_H → Nat → Int → Int → Int → Int → Int → Int → Option (Int × gx_H)) (hN18 : ∀ (h : gx_H) (l0 : Nat) (l1 : Int) (l2 : Int) (l3 : Int) (l4 : Int) (l5 : Int) (l6 : Int), gx_Y gm_MD_signs (0, 0) 18 [some (gx_R l0), some (gx_I l1), some (gx_I l2), some (gx_I l3), some (gx_I l4), some (gx_I l5), some (gx_I l6), none, none] [] h (N18 h l0 l1 l2 l3 l4 l5 l6)) (h : gx_H) (l0 : Nat) (l1 : Int) (l2 : Int) (l3 : Int) (l5 : Int) (l6 : Int) : gx_Y gm_MD_signs (0, 0) 120 [some (gx_R l0), some (gx_I l1), some (gx_I l2), some (gx_I l3), none, some (gx_I l5), some (gx_I l6), none, none] [] h (fb_MD_signs_120 N6 N18 h l0 l1 l2 l3 l5 l6) := by
  unfold fb_MD_signs_120
  refine gx_iconst (n := 0) (by decide +kernel) ?_
  exact gx_less' (y_MD_signs_121 _ hN6 _ hN18 _ _ _ _ _ _ _ _) ⟨rfl, rfl, rfl, rfl, rfl, rfl, trivial⟩
def fb_MD_signs_88 (N6 : gx_H → Nat → Int → Int → Int → Int → Int → Option (Int × gx_H)) (N18 : gx_H → Nat → Int → Int → Int → Int → Int → Int → Option (Int × gx_H)) (h : gx_H) (l0 : Nat) (l1 : Int) (l2 : Int) (l3 : Int) (l4 : Int) (l5 : Int) (l6 : Int) (t0 : Int) : Option (Int × gx_H) :=
  gq_cv h l0 1 (f_MD_lay h l0 (((l3 + 40) + (4 * l5)) + l6) t0) (fun r1 h2 => gq_g (gx_i r1) (if r1 = 0 then fb_MD_signs_120 N6 N18 h2 l0 l1 l2 l3 l5 l6 else gq_g (gx_i l4) (if l4 = 0 then fb_MD_signs_120 N6 N18 h2 l0 l1 l2 l3 l5 l6 else fb_MD_signs_121 N6 N18 h2 l0 l1 l2 l3 l5 l6 1)))
set_option maxHeartbeats 4000000 in
set_option maxRecDepth 100000 in
theorem y_MD_signs_88 (N6 : gx_H → Nat → Int → Int → Int → Int → Int → Option (Int × gx_H)) (hN6 : ∀ (h : gx_H) (l0 : Nat) (l1 : Int) (l2 : Int) (l3 : Int) (l4 : Int) (l5 : Int), gx_Y gm_MD_signs (0, 0) 6 [some (gx_R l0), some (gx_I l1), some (gx_I l2), some (gx_I l3), some (gx_I l4), some (gx_I l5), none, none, none] [] h (N6 h l0 l1 l2 l3 l4 l5)) (N18 : gx_H → Nat → Int → Int → Int → Int → Int → Int → Option (Int × gx_H)) (hN18 : ∀ (h : gx_H) (l0 : Nat) (l1 : Int) (l2 : Int) (l3 : Int) (l4 : Int) (l5 : Int) (l6 : Int), gx_Y gm_MD_signs (0, 0) 18 [some (gx_R l0), some (gx_I l1), some (gx_I l2), some (gx_I l3), some (gx_I l4), some (gx_I l5), some (gx_I l6), none, none] [] h (N18 h l0 l1 l2 l3 l4 l5 l6)) (h : gx_H) (l0 : Nat) (l1 : Int) (l2 : Int) (l3 : Int) (l4 : Int) (l5 : Int) (l6 : Int) (t0 : Int) : gx_Y gm_MD_signs (0, 0) 88 [some (gx_R l0), some (gx_I l1), some (gx_I l2), some (gx_I l3), some (gx_I l4), some (gx_I l5), some (gx_I l6), none, none] [gx_I t0] h (fb_MD_signs_88 N6 N18 h l0 l1 l2 l3 l4 l5 l6 t0) := by
  unfold fb_MD_signs_88
  refine gx_istore (i := 8) (l' := [some (gx_R _), some (gx_I _), some (gx_I _), some (gx_I _), some (gx_I _), some (gx_I _), some (gx_I _), none, some (gx_I _)]) (by decide +kernel) rfl (Nat.le_of_ble_eq_true rfl) (by decide) rfl ?_
  refine gx_aload_n (i := 0) (by decide +kernel) rfl ?_
  refine gx_iload_n (i := 3) (by decide +kernel) rfl ?_
  refine gx_bipush (n := 40) (by decide +kernel) (by decide) ?_
  refine gx_iadd (by decide +kernel) ?_
  refine gx_iconst (n := 4) (by decide +kernel) ?_
  refine gx_iload (i := 5) (by decide +kernel) rfl ?_
  refine gx_imul (by decide +kernel) ?_
  refine gx_iadd (by decide +kernel) ?_
  refine gx_iload (i := 6) (by decide +kernel) rfl ?_
  refine gx_iadd (by decide +kernel) ?_
  refine gx_iload (i := 8) (by decide +kernel) rfl ?_
  refine gx_cVi2 (Mc := gm_MD_lay) (u' := (0, 0)) (c_MD_lay _ _ _ _) vk_MD_lay ml_MD_108 rfl rfl ⟨by decide, by decide, by decide, by decide⟩ (Nat.le_of_ble_eq_true rfl) (by decide +kernel) (fun r1 h2 => ?_)
  refine gx_g (fun c3 => ?_)
  refine gx_if_eq (off := 12) (tgt := 120) c3 (by decide +kernel) (by decide) ?_ ?_
  · exact gx_less' (y_MD_signs_120 _ hN6 _ hN18 _ _ _ _ _ _ _) ⟨rfl, rfl, rfl, rfl, rfl, rfl, trivial⟩
  · refine gx_iload (i := 4) (by decide +kernel) rfl ?_
    refine gx_g (fun c4 => ?_)
    refine gx_if_eq (off := 7) (tgt := 120) c4 (by decide +kernel) (by decide) ?_ ?_
    · exact gx_less' (y_MD_signs_120 _ hN6 _ hN18 _ _ _ _ _ _ _) ⟨rfl, rfl, rfl, rfl, rfl, rfl, trivial⟩
    · refine gx_iconst (n := 1) (by decide +kernel) ?_
      refine gx_goto (off := 4) (tgt := 121) (by decide +kernel) (by decide) ?_
      exact gx_less' (y_MD_signs_121 _ hN6 _ hN18 _ _ _ _ _ _ _ _) ⟨rfl, rfl, rfl, rfl, rfl, rfl, trivial⟩
def fb_MD_signs_18 (N6 : gx_H → Nat → Int → Int → Int → Int → Int → Option (Int × gx_H)) (N18 : gx_H → Nat → Int → Int → Int → Int → Int → Int → Option (Int × gx_H)) (h : gx_H) (l0 : Nat) (l1 : Int) (l2 : Int) (l3 : Int) (l4 : Int) (l5 : Int) (l6 : Int) : Option (Int × gx_H) :=
  gq_get h l0 1 1 (fun v1 => gq_g (gx_i l6) (if l6 < v1 then gq_gr h l0 1 0 (fun o4 => gq_ald 0 h o4 (((l1 + 40) + (4 * l2)) + l6) (fun v5 => gq_g (gx_i l5) (gq_g (gx_i l2) (if l5 = l2 then fb_MD_signs_88 N6 N18 h l0 l1 l2 l3 l4 l5 l6 (-v5) else gq_gr h l0 1 0 (fun o9 => gq_ald 0 h o9 (((l1 + 40) + (4 * l5)) + l6) (fun v10 => gq_cv h l0 1 (f_MD_b h l0 l1 l2 l5) (fun r12 h13 => gq_call (f_MD_both h13 v5 r12) (fun r14 h15 => fb_MD_signs_88 N6 N18 h15 l0 l1 l2 l3 l4 l5 l6 (v10 + r14))))))))) else N6 h l0 l1 l2 l3 l4 (l5 + 1)))
set_option maxHeartbeats 4000000 in
set_option maxRecDepth 100000 in
theorem yb_MD_signs_18 (N6 : gx_H → Nat → Int → Int → Int → Int → Int → Option (Int × gx_H)) (hN6 : ∀ (h : gx_H) (l0 : Nat) (l1 : Int) (l2 : Int) (l3 : Int) (l4 : Int) (l5 : Int), gx_Y gm_MD_signs (0, 0) 6 [some (gx_R l0), some (gx_I l1), some (gx_I l2), some (gx_I l3), some (gx_I l4), some (gx_I l5), none, none, none] [] h (N6 h l0 l1 l2 l3 l4 l5)) (N18 : gx_H → Nat → Int → Int → Int → Int → Int → Int → Option (Int × gx_H)) (hN18 : ∀ (h : gx_H) (l0 : Nat) (l1 : Int) (l2 : Int) (l3 : Int) (l4 : Int) (l5 : Int) (l6 : Int), gx_Y gm_MD_signs (0, 0) 18 [some (gx_R l0), some (gx_I l1), some (gx_I l2), some (gx_I l3), some (gx_I l4), some (gx_I l5), some (gx_I l6), none, none] [] h (N18 h l0 l1 l2 l3 l4 l5 l6)) (h : gx_H) (l0 : Nat) (l1 : Int) (l2 : Int) (l3 : Int) (l4 : Int) (l5 : Int) (l6 : Int) : gx_Y gm_MD_signs (0, 0) 18 [some (gx_R l0), some (gx_I l1), some (gx_I l2), some (gx_I l3), some (gx_I l4), some (gx_I l5), some (gx_I l6), none, none] [] h (fb_MD_signs_18 N6 N18 h l0 l1 l2 l3 l4 l5 l6) := by
  unfold fb_MD_signs_18
  refine gx_iload (i := 6) (by decide +kernel) rfl ?_
  refine gx_aload_n (i := 0) (by decide +kernel) rfl ?_
  refine gx_geti gk_MD (by decide) fl_MD_13 (Or.inl rfl) (by decide +kernel) (fun c2 => ?_)
  refine gx_g (fun c3 => ?_)
  refine gx_icmp_ge (off := 105) (tgt := 129) c3 c2 (by decide +kernel) (by decide) ?_ ?_
  · refine gx_iinc (i := 5) (n := 1) (l' := [some (gx_R _), some (gx_I _), some (gx_I _), some (gx_I _), some (gx_I _), some (gx_I _), some (gx_I _), none, none]) (by decide +kernel) rfl rfl (Nat.le_of_ble_eq_true rfl) (by decide) rfl ?_
    refine gx_goto (off := -126) (tgt := 6) (by decide +kernel) (by decide) ?_
    exact gx_less' (hN6 _ _ _ _ _ _ _) ⟨rfl, rfl, rfl, rfl, rfl, rfl, trivial⟩
  · refine gx_aload_n (i := 0) (by decide +kernel) rfl ?_
    refine gx_getr gk_MD (by decide) fl_MD_7 rfl (by decide +kernel) ?_
    refine gx_iload_n (i := 1) (by decide +kernel) rfl ?_
    refine gx_bipush (n := 40) (by decide +kernel) (by decide) ?_
    refine gx_iadd (by decide +kernel) ?_
    refine gx_iconst (n := 4) (by decide +kernel) ?_
    refine gx_iload_n (i := 2) (by decide +kernel) rfl ?_
    refine gx_imul (by decide +kernel) ?_
    refine gx_iadd (by decide +kernel) ?_
    refine gx_iload (i := 6) (by decide +kernel) rfl ?_
    refine gx_iadd (by decide +kernel) ?_
    refine gx_ialdi (by decide +kernel) (fun c6 => ?_)
    refine gx_istore (i := 7) (l' := [some (gx_R _), some (gx_I _), some (gx_I _), some (gx_I _), some (gx_I _), some (gx_I _), some (gx_I _), some (gx_I _), none]) (by decide +kernel) rfl (Nat.le_of_ble_eq_true rfl) (by decide) rfl ?_
    refine gx_iload (i := 5) (by decide +kernel) rfl ?_
    refine gx_iload_n (i := 2) (by decide +kernel) rfl ?_
    refine gx_g (fun c7 => ?_)
    refine gx_g (fun c8 => ?_)
    refine gx_icmp_ne (off := 9) (tgt := 57) c7 c8 (by decide +kernel) (by decide) ?_ ?_
    · refine gx_aload_n (i := 0) (by decide +kernel) rfl ?_
      refine gx_getr gk_MD (by decide) fl_MD_7 rfl (by decide +kernel) ?_
      refine gx_iload_n (i := 1) (by decide +kernel) rfl ?_
      refine gx_bipush (n := 40) (by decide +kernel) (by decide) ?_
      refine gx_iadd (by decide +kernel) ?_
      refine gx_iconst (n := 4) (by decide +kernel) ?_
      refine gx_iload (i := 5) (by decide +kernel) rfl ?_
      refine gx_imul (by decide +kernel) ?_
      refine gx_iadd (by decide +kernel) ?_
      refine gx_iload (i := 6) (by decide +kernel) rfl ?_
      refine gx_iadd (by decide +kernel) ?_
      refine gx_ialdi (by decide +kernel) (fun c11 => ?_)
      refine gx_iload (i := 7) (by decide +kernel) rfl ?_
      refine gx_aload_n (i := 0) (by decide +kernel) rfl ?_
      refine gx_iload_n (i := 1) (by decide +kernel) rfl ?_
      refine gx_iload_n (i := 2) (by decide +kernel) rfl ?_
      refine gx_iload (i := 5) (by decide +kernel) rfl ?_
      refine gx_cVi3 (Mc := gm_MD_b) (u' := (0, 0)) (c_MD_b _ _ _ _ _) vk_MD_b ml_MD_72 rfl rfl ⟨by decide, by decide, by decide, by decide⟩ (Nat.le_of_ble_eq_true rfl) (by decide +kernel) (fun r12 h13 => ?_)
      refine gx_cSi2 (Mc := gm_MD_both) (u' := (0, 0)) (c_MD_both _ _ _) sk_MD_both ml_MD_104 rfl rfl ⟨by decide, by decide, by decide, by decide⟩ (Nat.le_of_ble_eq_true rfl) (by decide +kernel) (fun r14 h15 => ?_)
      refine gx_iadd (by decide +kernel) ?_
      exact gx_less' (y_MD_signs_88 _ hN6 _ hN18 _ _ _ _ _ _ _ _ _) ⟨rfl, rfl, rfl, rfl, rfl, rfl, rfl, trivial⟩
    · refine gx_iload (i := 7) (by decide +kernel) rfl ?_
      refine gx_ineg (by decide +kernel) ?_
      refine gx_goto (off := 34) (tgt := 88) (by decide +kernel) (by decide) ?_
      exact gx_less' (y_MD_signs_88 _ hN6 _ hN18 _ _ _ _ _ _ _ _ _) ⟨rfl, rfl, rfl, rfl, rfl, rfl, rfl, trivial⟩
def f_MD_signs_18 (N6 : gx_H → Nat → Int → Int → Int → Int → Int → Option (Int × gx_H)) : Nat → gx_H → Nat → Int → Int → Int → Int → Int → Int → Option (Int × gx_H)
  | 0 => fun _ _ _ _ _ _ _ _ => none
  | fu + 1 => fb_MD_signs_18 N6 (f_MD_signs_18 N6 fu)
theorem y_MD_signs_18 (N6 : gx_H → Nat → Int → Int → Int → Int → Int → Option (Int × gx_H)) (hN6 : ∀ (h : gx_H) (l0 : Nat) (l1 : Int) (l2 : Int) (l3 : Int) (l4 : Int) (l5 : Int), gx_Y gm_MD_signs (0, 0) 6 [some (gx_R l0), some (gx_I l1), some (gx_I l2), some (gx_I l3), some (gx_I l4), some (gx_I l5), none, none, none] [] h (N6 h l0 l1 l2 l3 l4 l5)) : ∀ (fu : Nat) (h : gx_H) (l0 : Nat) (l1 : Int) (l2 : Int) (l3 : Int) (l4 : Int) (l5 : Int) (l6 : Int), gx_Y gm_MD_signs (0, 0) 18 [some (gx_R l0), some (gx_I l1), some (gx_I l2), some (gx_I l3), some (gx_I l4), some (gx_I l5), some (gx_I l6), none, none] [] h (f_MD_signs_18 N6 fu h l0 l1 l2 l3 l4 l5 l6) := by
  intro fu
  induction fu with
  | zero => intro h l0 l1 l2 l3 l4 l5 l6; exact gx_none
  | succ fu ih => intro h l0 l1 l2 l3 l4 l5 l6; exact yb_MD_signs_18 N6 hN6 (f_MD_signs_18 N6 fu) ih h l0 l1 l2 l3 l4 l5 l6
def fb_MD_signs_6 (N6 : gx_H → Nat → Int → Int → Int → Int → Int → Option (Int × gx_H)) (h : gx_H) (l0 : Nat) (l1 : Int) (l2 : Int) (l3 : Int) (l4 : Int) (l5 : Int) : Option (Int × gx_H) :=
  gq_get h l0 1 1 (fun v1 => gq_g (gx_i l5) (if l5 < v1 then f_MD_signs_18 N6 gx_fu h l0 l1 l2 l3 l4 l5 0 else gq_g ((l4 : Int) = 0 ∨ (l4 : Int) = 1) (some (l4, h))))
set_option maxHeartbeats 4000000 in
set_option maxRecDepth 100000 in
theorem yb_MD_signs_6 (N6 : gx_H → Nat → Int → Int → Int → Int → Int → Option (Int × gx_H)) (hN6 : ∀ (h : gx_H) (l0 : Nat) (l1 : Int) (l2 : Int) (l3 : Int) (l4 : Int) (l5 : Int), gx_Y gm_MD_signs (0, 0) 6 [some (gx_R l0), some (gx_I l1), some (gx_I l2), some (gx_I l3), some (gx_I l4), some (gx_I l5), none, none, none] [] h (N6 h l0 l1 l2 l3 l4 l5)) (h : gx_H) (l0 : Nat) (l1 : Int) (l2 : Int) (l3 : Int) (l4 : Int) (l5 : Int) : gx_Y gm_MD_signs (0, 0) 6 [some (gx_R l0), some (gx_I l1), some (gx_I l2), some (gx_I l3), some (gx_I l4), some (gx_I l5), none, none, none] [] h (fb_MD_signs_6 N6 h l0 l1 l2 l3 l4 l5) := by
  unfold fb_MD_signs_6
  refine gx_iload (i := 5) (by decide +kernel) rfl ?_
  refine gx_aload_n (i := 0) (by decide +kernel) rfl ?_
  refine gx_geti gk_MD (by decide) fl_MD_13 (Or.inl rfl) (by decide +kernel) (fun c2 => ?_)
  refine gx_g (fun c3 => ?_)
  refine gx_icmp_ge (off := 123) (tgt := 135) c3 c2 (by decide +kernel) (by decide) ?_ ?_
  · refine gx_iload (i := 4) (by decide +kernel) rfl ?_
    refine gx_g (fun c4 => ?_)
    exact gx_zreturn c4 rfl rfl (by decide +kernel)
  · refine gx_iconst (n := 0) (by decide +kernel) ?_
    refine gx_istore (i := 6) (l' := [some (gx_R _), some (gx_I _), some (gx_I _), some (gx_I _), some (gx_I _), some (gx_I _), some (gx_I _), none, none]) (by decide +kernel) rfl (Nat.le_of_ble_eq_true rfl) (by decide) rfl ?_
    exact gx_less' (y_MD_signs_18 _ hN6 gx_fu _ _ _ _ _ _ _ _) ⟨rfl, rfl, rfl, rfl, rfl, rfl, rfl, trivial⟩
def f_MD_signs_6 : Nat → gx_H → Nat → Int → Int → Int → Int → Int → Option (Int × gx_H)
  | 0 => fun _ _ _ _ _ _ _ => none
  | fu + 1 => fb_MD_signs_6 (f_MD_signs_6 fu)
theorem y_MD_signs_6 : ∀ (fu : Nat) (h : gx_H) (l0 : Nat) (l1 : Int) (l2 : Int) (l3 : Int) (l4 : Int) (l5 : Int), gx_Y gm_MD_signs (0, 0) 6 [some (gx_R l0), some (gx_I l1), some (gx_I l2), some (gx_I l3), some (gx_I l4), some (gx_I l5), none, none, none] [] h (f_MD_signs_6 fu h l0 l1 l2 l3 l4 l5) := by
  intro fu
  induction fu with
  | zero => intro h l0 l1 l2 l3 l4 l5; exact gx_none
  | succ fu ih => intro h l0 l1 l2 l3 l4 l5; exact yb_MD_signs_6 (f_MD_signs_6 fu) ih h l0 l1 l2 l3 l4 l5
def f_MD_signs (h : gx_H) (l0 : Nat) (l1 : Int) (l2 : Int) (l3 : Int) : Option (Int × gx_H) :=
  f_MD_signs_6 gx_fu h l0 l1 l2 l3 1 0
set_option maxHeartbeats 4000000 in
set_option maxRecDepth 100000 in
theorem c_MD_signs (h : gx_H) (l0 : Nat) (l1 : Int) (l2 : Int) (l3 : Int) : ∀ r h1, f_MD_signs h l0 l1 l2 l3 = some (r, h1) → gx_Met gm_MD_signs [gx_R l0, gx_I l1, gx_I l2, gx_I l3] h r h1 := by
  refine gx_enter (l := [some (gx_R l0), some (gx_I l1), some (gx_I l2), some (gx_I l3), none, none, none, none, none]) (by decide) (Nat.le_of_ble_eq_true rfl) rfl ?_
  unfold f_MD_signs
  refine gx_iconst (n := 1) (by decide +kernel) ?_
  refine gx_istore (i := 4) (l' := [some (gx_R _), some (gx_I _), some (gx_I _), some (gx_I _), some (gx_I _), none, none, none, none]) (by decide +kernel) rfl (Nat.le_of_ble_eq_true rfl) (by decide) rfl ?_
  refine gx_iconst (n := 0) (by decide +kernel) ?_
  refine gx_istore (i := 5) (l' := [some (gx_R _), some (gx_I _), some (gx_I _), some (gx_I _), some (gx_I _), some (gx_I _), none, none, none]) (by decide +kernel) rfl (Nat.le_of_ble_eq_true rfl) (by decide) rfl ?_
  exact gx_less' (y_MD_signs_6 gx_fu _ _ _ _ _ _ _) ⟨rfl, rfl, rfl, rfl, rfl, rfl, trivial⟩
def fb_MD_degrees_44 (N6 : gx_H → Nat → Int → Int → Int → Int → Int → Option (Int × gx_H)) (h : gx_H) (l0 : Nat) (l1 : Int) (l2 : Int) (l3 : Int) (l5 : Int) (t0 : Int) : Option (Int × gx_H) :=
  N6 h l0 l1 l2 l3 t0 (l5 + 1)
set_option maxHeartbeats 4000000 in
set_option maxRecDepth 100000 in
theorem y_MD_degrees_44 (N6 : gx_H → Nat → Int → Int → Int → Int → Int → Option (Int × gx_H)) (hN6 : ∀ (h : gx_H) (l0 : Nat) (l1 : Int) (l2 : Int) (l3 : Int) (l4 : Int) (l5 : Int), gx_Y gm_MD_degrees (0, 0) 6 [some (gx_R l0), some (gx_I l1), some (gx_I l2), some (gx_I l3), some (gx_I l4), some (gx_I l5), none, none] [] h (N6 h l0 l1 l2 l3 l4 l5)) (h : gx_H) (l0 : Nat) (l1 : Int) (l2 : Int) (l3 : Int) (l5 : Int) (t0 : Int) : gx_Y gm_MD_degrees (0, 0) 44 [some (gx_R l0), some (gx_I l1), some (gx_I l2), some (gx_I l3), none, some (gx_I l5), none, none] [gx_I t0] h (fb_MD_degrees_44 N6 h l0 l1 l2 l3 l5 t0) := by
  unfold fb_MD_degrees_44
  refine gx_istore (i := 4) (l' := [some (gx_R _), some (gx_I _), some (gx_I _), some (gx_I _), some (gx_I _), some (gx_I _), none, none]) (by decide +kernel) rfl (Nat.le_of_ble_eq_true rfl) (by decide) rfl ?_
  refine gx_iinc (i := 5) (n := 1) (l' := [some (gx_R _), some (gx_I _), some (gx_I _), some (gx_I _), some (gx_I _), some (gx_I _), none, none]) (by decide +kernel) rfl rfl (Nat.le_of_ble_eq_true rfl) (by decide) rfl ?_
  refine gx_goto (off := -43) (tgt := 6) (by decide +kernel) (by decide) ?_
  exact gx_less' (hN6 _ _ _ _ _ _ _) ⟨rfl, rfl, rfl, rfl, rfl, rfl, trivial⟩
def fb_MD_degrees_39 (N6 : gx_H → Nat → Int → Int → Int → Int → Int → Option (Int × gx_H)) (h : gx_H) (l0 : Nat) (l1 : Int) (l2 : Int) (l3 : Int) (l5 : Int) : Option (Int × gx_H) :=
  fb_MD_degrees_44 N6 h l0 l1 l2 l3 l5 1
set_option maxHeartbeats 4000000 in
set_option maxRecDepth 100000 in
theorem y_MD_degrees_39 (N6 : gx_H → Nat → Int → Int → Int → Int → Int → Option (Int × gx_H)) (hN6 : ∀ (h : gx_H) (l0 : Nat) (l1 : Int) (l2 : Int) (l3 : Int) (l4 : Int) (l5 : Int), gx_Y gm_MD_degrees (0, 0) 6 [some (gx_R l0), some (gx_I l1), some (gx_I l2), some (gx_I l3), some (gx_I l4), some (gx_I l5), none, none] [] h (N6 h l0 l1 l2 l3 l4 l5)) (h : gx_H) (l0 : Nat) (l1 : Int) (l2 : Int) (l3 : Int) (l5 : Int) : gx_Y gm_MD_degrees (0, 0) 39 [some (gx_R l0), some (gx_I l1), some (gx_I l2), some (gx_I l3), none, some (gx_I l5), none, none] [] h (fb_MD_degrees_39 N6 h l0 l1 l2 l3 l5) := by
  unfold fb_MD_degrees_39
  refine gx_iconst (n := 1) (by decide +kernel) ?_
  refine gx_goto (off := 4) (tgt := 44) (by decide +kernel) (by decide) ?_
  exact gx_less' (y_MD_degrees_44 _ hN6 _ _ _ _ _ _ _) ⟨rfl, rfl, rfl, rfl, rfl, trivial⟩
def fb_MD_degrees_136 (N58 : gx_H → Nat → Int → Int → Int → Int → Int → Int → Option (Int × gx_H)) (h : gx_H) (l0 : Nat) (l1 : Int) (l2 : Int) (l3 : Int) (l4 : Int) (l6 : Int) (t0 : Int) : Option (Int × gx_H) :=
  N58 h l0 l1 l2 l3 l4 t0 (l6 + 1)
set_option maxHeartbeats 4000000 in
set_option maxRecDepth 100000 in
theorem y_MD_degrees_136 (N58 : gx_H → Nat → Int → Int → Int → Int → Int → Int → Option (Int × gx_H)) (hN58 : ∀ (h : gx_H) (l0 : Nat) (l1 : Int) (l2 : Int) (l3 : Int) (l4 : Int) (l5 : Int) (l6 : Int), gx_Y gm_MD_degrees (0, 0) 58 [some (gx_R l0), some (gx_I l1), some (gx_I l2), some (gx_I l3), some (gx_I l4), some (gx_I l5), some (gx_I l6), none] [] h (N58 h l0 l1 l2 l3 l4 l5 l6)) (h : gx_H) (l0 : Nat) (l1 : Int) (l2 : Int) (l3 : Int) (l4 : Int) (l6 : Int) (t0 : Int) : gx_Y gm_MD_degrees (0, 0) 136 [some (gx_R l0), some (gx_I l1), some (gx_I l2), some (gx_I l3), some (gx_I l4), none, some (gx_I l6), none] [gx_I t0] h (fb_MD_degrees_136 N58 h l0 l1 l2 l3 l4 l6 t0) := by
  unfold fb_MD_degrees_136
  refine gx_istore (i := 5) (l' := [some (gx_R _), some (gx_I _), some (gx_I _), some (gx_I _), some (gx_I _), some (gx_I _), some (gx_I _), none]) (by decide +kernel) rfl (Nat.le_of_ble_eq_true rfl) (by decide) rfl ?_
  refine gx_iinc (i := 6) (n := 1) (l' := [some (gx_R _), some (gx_I _), some (gx_I _), some (gx_I _), some (gx_I _), some (gx_I _), some (gx_I _), none]) (by decide +kernel) rfl rfl (Nat.le_of_ble_eq_true rfl) (by decide) rfl ?_
  refine gx_goto (off := -83) (tgt := 58) (by decide +kernel) (by decide) ?_
  exact gx_less' (hN58 _ _ _ _ _ _ _ _) ⟨rfl, rfl, rfl, rfl, rfl, rfl, rfl, trivial⟩
def fb_MD_degrees_135 (N58 : gx_H → Nat → Int → Int → Int → Int → Int → Int → Option (Int × gx_H)) (h : gx_H) (l0 : Nat) (l1 : Int) (l2 : Int) (l3 : Int) (l4 : Int) (l6 : Int) : Option (Int × gx_H) :=
  fb_MD_degrees_136 N58 h l0 l1 l2 l3 l4 l6 0
set_option maxHeartbeats 4000000 in
set_option maxRecDepth 100000 in
theorem y_MD_degrees_135 (N58 : gx_H → Nat → Int → Int → Int → Int → Int → Int → Option (Int × gx_H)) (hN58 : ∀ (h : gx_H) (l0 : Nat) (l1 : Int) (l2 : Int) (l3 : Int) (l4 : Int) (l5 : Int) (l6 : Int), gx_Y gm_MD_degrees (0, 0) 58 [some (gx_R l0), some (gx_I l1), some (gx_I l2), some (gx_I l3), some (gx_I l4), some (gx_I l5), some (gx_I l6), none] [] h (N58 h l0 l1 l2 l3 l4 l5 l6)) (h : gx_H) (l0 : Nat) (l1 : Int) (l2 : Int) (l3 : Int) (l4 : Int) (l6 : Int) : gx_Y gm_MD_degrees (0, 0) 135 [some (gx_R l0), some (gx_I l1), some (gx_I l2), some (gx_I l3), some (gx_I l4), none, some (gx_I l6), none] [] h (fb_MD_degrees_135 N58 h l0 l1 l2 l3 l4 l6) := by
  unfold fb_MD_degrees_135
  refine gx_iconst (n := 0) (by decide +kernel) ?_
  exact gx_less' (y_MD_degrees_136 _ hN58 _ _ _ _ _ _ _ _) ⟨rfl, rfl, rfl, rfl, rfl, rfl, trivial⟩
def fb_MD_degrees_80 (N58 : gx_H → Nat → Int → Int → Int → Int → Int → Int → Option (Int × gx_H)) (h : gx_H) (l0 : Nat) (l1 : Int) (l2 : Int) (l3 : Int) (l4 : Int) (l5 : Int) (l6 : Int) (t0 : Nat) (t1 : Int) (t2 : Int) (t3 : Int) : Option (Int × gx_H) :=
  gq_cv h t0 1 (f_MD_gathered h t0 t1 t2 t3 56 l6) (fun r1 h2 => gq_gr h2 l0 1 0 (fun o3 => gq_ald 0 h2 o3 (((l1 + 56) + (4 * l2)) + l6) (fun v4 => gq_cv h2 l0 1 (f_MD_lay h2 l0 (((l3 + 56) + (4 * l2)) + l6) (r1 - v4)) (fun r6 h7 => gq_g (gx_i r6) (if r6 = 0 then fb_MD_degrees_135 N58 h7 l0 l1 l2 l3 l4 l6 else gq_g (gx_i l5) (if l5 = 0 then fb_MD_degrees_135 N58 h7 l0 l1 l2 l3 l4 l6 else fb_MD_degrees_136 N58 h7 l0 l1 l2 l3 l4 l6 1))))))
set_option maxHeartbeats 4000000 in
set_option maxRecDepth 100000 in
theorem y_MD_degrees_80 (N58 : gx_H → Nat → Int → Int → Int → Int → Int → Int → Option (Int × gx_H)) (hN58 : ∀ (h : gx_H) (l0 : Nat) (l1 : Int) (l2 : Int) (l3 : Int) (l4 : Int) (l5 : Int) (l6 : Int), gx_Y gm_MD_degrees (0, 0) 58 [some (gx_R l0), some (gx_I l1), some (gx_I l2), some (gx_I l3), some (gx_I l4), some (gx_I l5), some (gx_I l6), none] [] h (N58 h l0 l1 l2 l3 l4 l5 l6)) (h : gx_H) (l0 : Nat) (l1 : Int) (l2 : Int) (l3 : Int) (l4 : Int) (l5 : Int) (l6 : Int) (t0 : Nat) (t1 : Int) (t2 : Int) (t3 : Int) : gx_Y gm_MD_degrees (0, 0) 80 [some (gx_R l0), some (gx_I l1), some (gx_I l2), some (gx_I l3), some (gx_I l4), some (gx_I l5), some (gx_I l6), none] [gx_I t3, gx_I t2, gx_I t1, gx_R t0] h (fb_MD_degrees_80 N58 h l0 l1 l2 l3 l4 l5 l6 t0 t1 t2 t3) := by
  unfold fb_MD_degrees_80
  refine gx_bipush (n := 56) (by decide +kernel) (by decide) ?_
  refine gx_iload (i := 6) (by decide +kernel) rfl ?_
  refine gx_cVi5 (Mc := gm_MD_gathered) (u' := (0, 0)) (c_MD_gathered _ _ _ _ _ _ _) vk_MD_gathered ml_MD_112 rfl rfl ⟨by decide, by decide, by decide, by decide⟩ (Nat.le_of_ble_eq_true rfl) (by decide +kernel) (fun r1 h2 => ?_)
  refine gx_aload_n (i := 0) (by decide +kernel) rfl ?_
  refine gx_getr gk_MD (by decide) fl_MD_7 rfl (by decide +kernel) ?_
  refine gx_iload_n (i := 1) (by decide +kernel) rfl ?_
  refine gx_bipush (n := 56) (by decide +kernel) (by decide) ?_
  refine gx_iadd (by decide +kernel) ?_
  refine gx_iconst (n := 4) (by decide +kernel) ?_
  refine gx_iload_n (i := 2) (by decide +kernel) rfl ?_
  refine gx_imul (by decide +kernel) ?_
  refine gx_iadd (by decide +kernel) ?_
  refine gx_iload (i := 6) (by decide +kernel) rfl ?_
  refine gx_iadd (by decide +kernel) ?_
  refine gx_ialdi (by decide +kernel) (fun c5 => ?_)
  refine gx_isub (by decide +kernel) ?_
  refine gx_istore (i := 7) (l' := [some (gx_R _), some (gx_I _), some (gx_I _), some (gx_I _), some (gx_I _), some (gx_I _), some (gx_I _), some (gx_I _)]) (by decide +kernel) rfl (Nat.le_of_ble_eq_true rfl) (by decide) rfl ?_
  refine gx_aload_n (i := 0) (by decide +kernel) rfl ?_
  refine gx_iload_n (i := 3) (by decide +kernel) rfl ?_
  refine gx_bipush (n := 56) (by decide +kernel) (by decide) ?_
  refine gx_iadd (by decide +kernel) ?_
  refine gx_iconst (n := 4) (by decide +kernel) ?_
  refine gx_iload_n (i := 2) (by decide +kernel) rfl ?_
  refine gx_imul (by decide +kernel) ?_
  refine gx_iadd (by decide +kernel) ?_
  refine gx_iload (i := 6) (by decide +kernel) rfl ?_
  refine gx_iadd (by decide +kernel) ?_
  refine gx_iload (i := 7) (by decide +kernel) rfl ?_
  refine gx_cVi2 (Mc := gm_MD_lay) (u' := (0, 0)) (c_MD_lay _ _ _ _) vk_MD_lay ml_MD_108 rfl rfl ⟨by decide, by decide, by decide, by decide⟩ (Nat.le_of_ble_eq_true rfl) (by decide +kernel) (fun r6 h7 => ?_)
  refine gx_g (fun c8 => ?_)
  refine gx_if_eq (off := 12) (tgt := 135) c8 (by decide +kernel) (by decide) ?_ ?_
  · exact gx_less' (y_MD_degrees_135 _ hN58 _ _ _ _ _ _ _) ⟨rfl, rfl, rfl, rfl, rfl, rfl, trivial⟩
  · refine gx_iload (i := 5) (by decide +kernel) rfl ?_
    refine gx_g (fun c9 => ?_)
    refine gx_if_eq (off := 7) (tgt := 135) c9 (by decide +kernel) (by decide) ?_ ?_
    · exact gx_less' (y_MD_degrees_135 _ hN58 _ _ _ _ _ _ _) ⟨rfl, rfl, rfl, rfl, rfl, rfl, trivial⟩
    · refine gx_iconst (n := 1) (by decide +kernel) ?_
      refine gx_goto (off := 4) (tgt := 136) (by decide +kernel) (by decide) ?_
      exact gx_less' (y_MD_degrees_136 _ hN58 _ _ _ _ _ _ _ _) ⟨rfl, rfl, rfl, rfl, rfl, rfl, trivial⟩
def fb_MD_degrees_58 (N58 : gx_H → Nat → Int → Int → Int → Int → Int → Int → Option (Int × gx_H)) (h : gx_H) (l0 : Nat) (l1 : Int) (l2 : Int) (l3 : Int) (l4 : Int) (l5 : Int) (l6 : Int) : Option (Int × gx_H) :=
  gq_get h l0 1 1 (fun v1 => gq_g (gx_i l6) (if l6 < v1 then gq_g (gx_i l4) (if l4 = 0 then fb_MD_degrees_80 N58 h l0 l1 l2 l3 l4 l5 l6 l0 l1 l2 1 else fb_MD_degrees_80 N58 h l0 l1 l2 l3 l4 l5 l6 l0 l1 l2 (-1)) else gq_g ((l5 : Int) = 0 ∨ (l5 : Int) = 1) (some (l5, h))))
set_option maxHeartbeats 4000000 in
set_option maxRecDepth 100000 in
theorem yb_MD_degrees_58 (N58 : gx_H → Nat → Int → Int → Int → Int → Int → Int → Option (Int × gx_H)) (hN58 : ∀ (h : gx_H) (l0 : Nat) (l1 : Int) (l2 : Int) (l3 : Int) (l4 : Int) (l5 : Int) (l6 : Int), gx_Y gm_MD_degrees (0, 0) 58 [some (gx_R l0), some (gx_I l1), some (gx_I l2), some (gx_I l3), some (gx_I l4), some (gx_I l5), some (gx_I l6), none] [] h (N58 h l0 l1 l2 l3 l4 l5 l6)) (h : gx_H) (l0 : Nat) (l1 : Int) (l2 : Int) (l3 : Int) (l4 : Int) (l5 : Int) (l6 : Int) : gx_Y gm_MD_degrees (0, 0) 58 [some (gx_R l0), some (gx_I l1), some (gx_I l2), some (gx_I l3), some (gx_I l4), some (gx_I l5), some (gx_I l6), none] [] h (fb_MD_degrees_58 N58 h l0 l1 l2 l3 l4 l5 l6) := by
  unfold fb_MD_degrees_58
  refine gx_iload (i := 6) (by decide +kernel) rfl ?_
  refine gx_aload_n (i := 0) (by decide +kernel) rfl ?_
  refine gx_geti gk_MD (by decide) fl_MD_13 (Or.inl rfl) (by decide +kernel) (fun c2 => ?_)
  refine gx_g (fun c3 => ?_)
  refine gx_icmp_ge (off := 80) (tgt := 144) c3 c2 (by decide +kernel) (by decide) ?_ ?_
  · refine gx_iload (i := 5) (by decide +kernel) rfl ?_
    refine gx_g (fun c4 => ?_)
    exact gx_zreturn c4 rfl rfl (by decide +kernel)
  · refine gx_aload_n (i := 0) (by decide +kernel) rfl ?_
    refine gx_iload_n (i := 1) (by decide +kernel) rfl ?_
    refine gx_iload_n (i := 2) (by decide +kernel) rfl ?_
    refine gx_iload (i := 4) (by decide +kernel) rfl ?_
    refine gx_g (fun c5 => ?_)
    refine gx_if_eq (off := 7) (tgt := 79) c5 (by decide +kernel) (by decide) ?_ ?_
    · refine gx_iconst (n := 1) (by decide +kernel) ?_
      exact gx_less' (y_MD_degrees_80 _ hN58 _ _ _ _ _ _ _ _ _ _ _ _) ⟨rfl, rfl, rfl, rfl, rfl, rfl, rfl, trivial⟩
    · refine gx_iconst (n := (-1)) (by decide +kernel) ?_
      refine gx_goto (off := 4) (tgt := 80) (by decide +kernel) (by decide) ?_
      exact gx_less' (y_MD_degrees_80 _ hN58 _ _ _ _ _ _ _ _ _ _ _ _) ⟨rfl, rfl, rfl, rfl, rfl, rfl, rfl, trivial⟩
def f_MD_degrees_58 : Nat → gx_H → Nat → Int → Int → Int → Int → Int → Int → Option (Int × gx_H)
  | 0 => fun _ _ _ _ _ _ _ _ => none
  | fu + 1 => fb_MD_degrees_58 (f_MD_degrees_58 fu)
theorem y_MD_degrees_58 : ∀ (fu : Nat) (h : gx_H) (l0 : Nat) (l1 : Int) (l2 : Int) (l3 : Int) (l4 : Int) (l5 : Int) (l6 : Int), gx_Y gm_MD_degrees (0, 0) 58 [some (gx_R l0), some (gx_I l1), some (gx_I l2), some (gx_I l3), some (gx_I l4), some (gx_I l5), some (gx_I l6), none] [] h (f_MD_degrees_58 fu h l0 l1 l2 l3 l4 l5 l6) := by
  intro fu
  induction fu with
  | zero => intro h l0 l1 l2 l3 l4 l5 l6; exact gx_none
  | succ fu ih => intro h l0 l1 l2 l3 l4 l5 l6; exact yb_MD_degrees_58 (f_MD_degrees_58 fu) ih h l0 l1 l2 l3 l4 l5 l6
def fb_MD_degrees_6 (N6 : gx_H → Nat → Int → Int → Int → Int → Int → Option (Int × gx_H)) (h : gx_H) (l0 : Nat) (l1 : Int) (l2 : Int) (l3 : Int) (l4 : Int) (l5 : Int) : Option (Int × gx_H) :=
  gq_get h l0 1 1 (fun v1 => gq_g (gx_i l5) (if l5 < v1 then gq_g (gx_i l4) (if l4 = 0 then gq_gr h l0 1 0 (fun o5 => gq_ald 0 h o5 (((l1 + 40) + (4 * l2)) + l5) (fun v6 => if 0 < v6 then fb_MD_degrees_39 N6 h l0 l1 l2 l3 l5 else fb_MD_degrees_44 N6 h l0 l1 l2 l3 l5 0)) else fb_MD_degrees_39 N6 h l0 l1 l2 l3 l5) else f_MD_degrees_58 gx_fu h l0 l1 l2 l3 l4 1 0))
set_option maxHeartbeats 4000000 in
set_option maxRecDepth 100000 in
theorem yb_MD_degrees_6 (N6 : gx_H → Nat → Int → Int → Int → Int → Int → Option (Int × gx_H)) (hN6 : ∀ (h : gx_H) (l0 : Nat) (l1 : Int) (l2 : Int) (l3 : Int) (l4 : Int) (l5 : Int), gx_Y gm_MD_degrees (0, 0) 6 [some (gx_R l0), some (gx_I l1), some (gx_I l2), some (gx_I l3), some (gx_I l4), some (gx_I l5), none, none] [] h (N6 h l0 l1 l2 l3 l4 l5)) (h : gx_H) (l0 : Nat) (l1 : Int) (l2 : Int) (l3 : Int) (l4 : Int) (l5 : Int) : gx_Y gm_MD_degrees (0, 0) 6 [some (gx_R l0), some (gx_I l1), some (gx_I l2), some (gx_I l3), some (gx_I l4), some (gx_I l5), none, none] [] h (fb_MD_degrees_6 N6 h l0 l1 l2 l3 l4 l5) := by
  unfold fb_MD_degrees_6
  refine gx_iload (i := 5) (by decide +kernel) rfl ?_
  refine gx_aload_n (i := 0) (by decide +kernel) rfl ?_
  refine gx_geti gk_MD (by decide) fl_MD_13 (Or.inl rfl) (by decide +kernel) (fun c2 => ?_)
  refine gx_g (fun c3 => ?_)
  refine gx_icmp_ge (off := 40) (tgt := 52) c3 c2 (by decide +kernel) (by decide) ?_ ?_
  · refine gx_iconst (n := 1) (by decide +kernel) ?_
    refine gx_istore (i := 5) (l' := [some (gx_R _), some (gx_I _), some (gx_I _), some (gx_I _), some (gx_I _), some (gx_I _), none, none]) (by decide +kernel) rfl (Nat.le_of_ble_eq_true rfl) (by decide) rfl ?_
    refine gx_iconst (n := 0) (by decide +kernel) ?_
    refine gx_istore (i := 6) (l' := [some (gx_R _), some (gx_I _), some (gx_I _), some (gx_I _), some (gx_I _), some (gx_I _), some (gx_I _), none]) (by decide +kernel) rfl (Nat.le_of_ble_eq_true rfl) (by decide) rfl ?_
    exact gx_less' (y_MD_degrees_58 gx_fu _ _ _ _ _ _ _ _) ⟨rfl, rfl, rfl, rfl, rfl, rfl, rfl, trivial⟩
  · refine gx_iload (i := 4) (by decide +kernel) rfl ?_
    refine gx_g (fun c4 => ?_)
    refine gx_if_ne (off := 22) (tgt := 39) c4 (by decide +kernel) (by decide) ?_ ?_
    · exact gx_less' (y_MD_degrees_39 _ hN6 _ _ _ _ _ _) ⟨rfl, rfl, rfl, rfl, rfl, trivial⟩
    · refine gx_aload_n (i := 0) (by decide +kernel) rfl ?_
      refine gx_getr gk_MD (by decide) fl_MD_7 rfl (by decide +kernel) ?_
      refine gx_iload_n (i := 1) (by decide +kernel) rfl ?_
      refine gx_bipush (n := 40) (by decide +kernel) (by decide) ?_
      refine gx_iadd (by decide +kernel) ?_
      refine gx_iconst (n := 4) (by decide +kernel) ?_
      refine gx_iload_n (i := 2) (by decide +kernel) rfl ?_
      refine gx_imul (by decide +kernel) ?_
      refine gx_iadd (by decide +kernel) ?_
      refine gx_iload (i := 5) (by decide +kernel) rfl ?_
      refine gx_iadd (by decide +kernel) ?_
      refine gx_ialdi (by decide +kernel) (fun c7 => ?_)
      refine gx_if_le (off := 7) (tgt := 43) c7 (by decide +kernel) (by decide) ?_ ?_
      · refine gx_iconst (n := 0) (by decide +kernel) ?_
        exact gx_less' (y_MD_degrees_44 _ hN6 _ _ _ _ _ _ _) ⟨rfl, rfl, rfl, rfl, rfl, trivial⟩
      · exact gx_less' (y_MD_degrees_39 _ hN6 _ _ _ _ _ _) ⟨rfl, rfl, rfl, rfl, rfl, trivial⟩
def f_MD_degrees_6 : Nat → gx_H → Nat → Int → Int → Int → Int → Int → Option (Int × gx_H)
  | 0 => fun _ _ _ _ _ _ _ => none
  | fu + 1 => fb_MD_degrees_6 (f_MD_degrees_6 fu)
theorem y_MD_degrees_6 : ∀ (fu : Nat) (h : gx_H) (l0 : Nat) (l1 : Int) (l2 : Int) (l3 : Int) (l4 : Int) (l5 : Int), gx_Y gm_MD_degrees (0, 0) 6 [some (gx_R l0), some (gx_I l1), some (gx_I l2), some (gx_I l3), some (gx_I l4), some (gx_I l5), none, none] [] h (f_MD_degrees_6 fu h l0 l1 l2 l3 l4 l5) := by
  intro fu
  induction fu with
  | zero => intro h l0 l1 l2 l3 l4 l5; exact gx_none
  | succ fu ih => intro h l0 l1 l2 l3 l4 l5; exact yb_MD_degrees_6 (f_MD_degrees_6 fu) ih h l0 l1 l2 l3 l4 l5
def f_MD_degrees (h : gx_H) (l0 : Nat) (l1 : Int) (l2 : Int) (l3 : Int) : Option (Int × gx_H) :=
  f_MD_degrees_6 gx_fu h l0 l1 l2 l3 0 0
set_option maxHeartbeats 4000000 in
set_option maxRecDepth 100000 in
theorem c_MD_degrees (h : gx_H) (l0 : Nat) (l1 : Int) (l2 : Int) (l3 : Int) : ∀ r h1, f_MD_degrees h l0 l1 l2 l3 = some (r, h1) → gx_Met gm_MD_degrees [gx_R l0, gx_I l1, gx_I l2, gx_I l3] h r h1 := by
  refine gx_enter (l := [some (gx_R l0), some (gx_I l1), some (gx_I l2), some (gx_I l3), none, none, none, none]) (by decide) (Nat.le_of_ble_eq_true rfl) rfl ?_
  unfold f_MD_degrees
  refine gx_iconst (n := 0) (by decide +kernel) ?_
  refine gx_istore (i := 4) (l' := [some (gx_R _), some (gx_I _), some (gx_I _), some (gx_I _), some (gx_I _), none, none, none]) (by decide +kernel) rfl (Nat.le_of_ble_eq_true rfl) (by decide) rfl ?_
  refine gx_iconst (n := 0) (by decide +kernel) ?_
  refine gx_istore (i := 5) (l' := [some (gx_R _), some (gx_I _), some (gx_I _), some (gx_I _), some (gx_I _), some (gx_I _), none, none]) (by decide +kernel) rfl (Nat.le_of_ble_eq_true rfl) (by decide) rfl ?_
  exact gx_less' (y_MD_degrees_6 gx_fu _ _ _ _ _ _ _) ⟨rfl, rfl, rfl, rfl, rfl, rfl, trivial⟩
def fb_MD_tries_130 (h : gx_H) : Option (Int × gx_H) :=
  some (0, h)
set_option maxHeartbeats 4000000 in
set_option maxRecDepth 100000 in
theorem y_MD_tries_130 (h : gx_H) : gx_Y gm_MD_tries (0, 0) 130 [none, none, none] [] h (fb_MD_tries_130 h) := by
  unfold fb_MD_tries_130
  refine gx_iconst (n := 0) (by decide +kernel) ?_
  exact gx_zreturn (by decide) rfl rfl (by decide +kernel)
def fb_MD_tries_109 (h : gx_H) (l0 : Nat) (l1 : Int) (t0 : Int) : Option (Int × gx_H) :=
  gq_cv h l0 1 (f_MD_degrees h l0 0 l1 1920) (fun r1 h2 => gq_g (gx_i r1) (if r1 = 0 then fb_MD_tries_130 h2  else gq_g (gx_i t0) (if t0 = 0 then fb_MD_tries_130 h2  else some (1, h2))))
set_option maxHeartbeats 4000000 in
set_option maxRecDepth 100000 in
theorem y_MD_tries_109 (h : gx_H) (l0 : Nat) (l1 : Int) (t0 : Int) : gx_Y gm_MD_tries (0, 0) 109 [some (gx_R l0), some (gx_I l1), none] [gx_I t0] h (fb_MD_tries_109 h l0 l1 t0) := by
  unfold fb_MD_tries_109
  refine gx_istore_n (i := 2) (l' := [some (gx_R _), some (gx_I _), some (gx_I _)]) (by decide +kernel) rfl (Nat.le_of_ble_eq_true rfl) (by decide) rfl ?_
  refine gx_aload_n (i := 0) (by decide +kernel) rfl ?_
  refine gx_iconst (n := 0) (by decide +kernel) ?_
  refine gx_iload_n (i := 1) (by decide +kernel) rfl ?_
  refine gx_sipush (n := 1920) (by decide +kernel) (by decide) ?_
  refine gx_cVi3 (Mc := gm_MD_degrees) (u' := (0, 0)) (c_MD_degrees _ _ _ _ _) vk_MD_degrees ml_MD_135 rfl rfl ⟨by decide, by decide, by decide, by decide⟩ (Nat.le_of_ble_eq_true rfl) (by decide +kernel) (fun r1 h2 => ?_)
  refine gx_g (fun c3 => ?_)
  refine gx_if_eq (off := 11) (tgt := 130) c3 (by decide +kernel) (by decide) ?_ ?_
  · exact gx_less' (y_MD_tries_130 _) trivial
  · refine gx_iload_n (i := 2) (by decide +kernel) rfl ?_
    refine gx_g (fun c4 => ?_)
    refine gx_if_eq (off := 7) (tgt := 130) c4 (by decide +kernel) (by decide) ?_ ?_
    · exact gx_less' (y_MD_tries_130 _) trivial
    · refine gx_iconst (n := 1) (by decide +kernel) ?_
      refine gx_goto (off := 4) (tgt := 131) (by decide +kernel) (by decide) ?_
      exact gx_zreturn (by decide) rfl rfl (by decide +kernel)
def fb_MD_tries_108 (h : gx_H) (l0 : Nat) (l1 : Int) : Option (Int × gx_H) :=
  fb_MD_tries_109 h l0 l1 0
set_option maxHeartbeats 4000000 in
set_option maxRecDepth 100000 in
theorem y_MD_tries_108 (h : gx_H) (l0 : Nat) (l1 : Int) : gx_Y gm_MD_tries (0, 0) 108 [some (gx_R l0), some (gx_I l1), none] [] h (fb_MD_tries_108 h l0 l1) := by
  unfold fb_MD_tries_108
  refine gx_iconst (n := 0) (by decide +kernel) ?_
  exact gx_less' (y_MD_tries_109 _ _ _ _) ⟨rfl, rfl, trivial⟩
def fb_MD_tries_87 (h : gx_H) (l0 : Nat) (l1 : Int) (t0 : Int) : Option (Int × gx_H) :=
  gq_cv h l0 1 (f_MD_signs h l0 0 l1 1920) (fun r1 h2 => gq_g (gx_i r1) (if r1 = 0 then fb_MD_tries_108 h2 l0 l1 else gq_g (gx_i t0) (if t0 = 0 then fb_MD_tries_108 h2 l0 l1 else fb_MD_tries_109 h2 l0 l1 1)))
set_option maxHeartbeats 4000000 in
set_option maxRecDepth 100000 in
theorem y_MD_tries_87 (h : gx_H) (l0 : Nat) (l1 : Int) (t0 : Int) : gx_Y gm_MD_tries (0, 0) 87 [some (gx_R l0), some (gx_I l1), none] [gx_I t0] h (fb_MD_tries_87 h l0 l1 t0) := by
  unfold fb_MD_tries_87
  refine gx_istore_n (i := 2) (l' := [some (gx_R _), some (gx_I _), some (gx_I _)]) (by decide +kernel) rfl (Nat.le_of_ble_eq_true rfl) (by decide) rfl ?_
  refine gx_aload_n (i := 0) (by decide +kernel) rfl ?_
  refine gx_iconst (n := 0) (by decide +kernel) ?_
  refine gx_iload_n (i := 1) (by decide +kernel) rfl ?_
  refine gx_sipush (n := 1920) (by decide +kernel) (by decide) ?_
  refine gx_cVi3 (Mc := gm_MD_signs) (u' := (0, 0)) (c_MD_signs _ _ _ _ _) vk_MD_signs ml_MD_132 rfl rfl ⟨by decide, by decide, by decide, by decide⟩ (Nat.le_of_ble_eq_true rfl) (by decide +kernel) (fun r1 h2 => ?_)
  refine gx_g (fun c3 => ?_)
  refine gx_if_eq (off := 11) (tgt := 108) c3 (by decide +kernel) (by decide) ?_ ?_
  · exact gx_less' (y_MD_tries_108 _ _ _) ⟨rfl, rfl, trivial⟩
  · refine gx_iload_n (i := 2) (by decide +kernel) rfl ?_
    refine gx_g (fun c4 => ?_)
    refine gx_if_eq (off := 7) (tgt := 108) c4 (by decide +kernel) (by decide) ?_ ?_
    · exact gx_less' (y_MD_tries_108 _ _ _) ⟨rfl, rfl, trivial⟩
    · refine gx_iconst (n := 1) (by decide +kernel) ?_
      refine gx_goto (off := 4) (tgt := 109) (by decide +kernel) (by decide) ?_
      exact gx_less' (y_MD_tries_109 _ _ _ _) ⟨rfl, rfl, trivial⟩
def fb_MD_tries_86 (h : gx_H) (l0 : Nat) (l1 : Int) : Option (Int × gx_H) :=
  fb_MD_tries_87 h l0 l1 0
set_option maxHeartbeats 4000000 in
set_option maxRecDepth 100000 in
theorem y_MD_tries_86 (h : gx_H) (l0 : Nat) (l1 : Int) : gx_Y gm_MD_tries (0, 0) 86 [some (gx_R l0), some (gx_I l1), none] [] h (fb_MD_tries_86 h l0 l1) := by
  unfold fb_MD_tries_86
  refine gx_iconst (n := 0) (by decide +kernel) ?_
  exact gx_less' (y_MD_tries_87 _ _ _ _) ⟨rfl, rfl, trivial⟩
def f_MD_tries (h : gx_H) (l0 : Nat) (l1 : Int) : Option (Int × gx_H) :=
  gq_cv h l0 1 (f_MD_copyRow h l0 0 1920) (fun r1 h2 => gq_cv h2 l0 1 (f_MD_isWell h2 l0) (fun r3 h4 => gq_g (gx_i r3) (if r3 = 0 then some (0, h4) else gq_cv h4 l0 1 (f_MD_worth h4 l0 0 l1) (fun r6 h7 => gq_g (gx_i r6) (if r6 = 0 then some (0, h7) else gq_gr h7 l0 1 0 (fun o9 => gq_get h7 l0 1 13 (fun v10 => gq_ast 0 (gx_i v10) h7 o9 (1920 + l1) v10 (fun h12 => gq_gr h12 l0 1 0 (fun o13 => gq_get h12 l0 1 14 (fun v14 => gq_ast 0 (gx_i v14) h12 o13 (1924 + l1) v14 (fun h16 => gq_cv h16 l0 1 (f_MD_turned h16 l0 0 l1 1920) (fun r17 h18 => gq_cv h18 l0 1 (f_MD_denominators h18 l0 0 l1 1920) (fun r19 h20 => gq_g (gx_i r19) (if r19 = 0 then fb_MD_tries_86 h20 l0 l1 else gq_g (gx_i r17) (if r17 = 0 then fb_MD_tries_86 h20 l0 l1 else fb_MD_tries_87 h20 l0 l1 1)))))))))))))))
set_option maxHeartbeats 4000000 in
set_option maxRecDepth 100000 in
theorem c_MD_tries (h : gx_H) (l0 : Nat) (l1 : Int) : ∀ r h1, f_MD_tries h l0 l1 = some (r, h1) → gx_Met gm_MD_tries [gx_R l0, gx_I l1] h r h1 := by
  refine gx_enter (l := [some (gx_R l0), some (gx_I l1), none]) (by decide) (Nat.le_of_ble_eq_true rfl) rfl ?_
  unfold f_MD_tries
  refine gx_aload_n (i := 0) (by decide +kernel) rfl ?_
  refine gx_iconst (n := 0) (by decide +kernel) ?_
  refine gx_sipush (n := 1920) (by decide +kernel) (by decide) ?_
  refine gx_cVv2 (Mc := gm_MD_copyRow) (u' := (0, 0)) (c_MD_copyRow _ _ _ _) vk_MD_copyRow ml_MD_116 rfl rfl ⟨by decide, by decide, by decide, by decide⟩ (Nat.le_of_ble_eq_true rfl) (by decide +kernel) (fun r1 h2 => ?_)
  refine gx_aload_n (i := 0) (by decide +kernel) rfl ?_
  refine gx_cVi0 (Mc := gm_MD_isWell) (u' := (0, 0)) (c_MD_isWell _ _) vk_MD_isWell ml_MD_120 rfl rfl ⟨by decide, by decide, by decide, by decide⟩ (Nat.le_of_ble_eq_true rfl) (by decide +kernel) (fun r3 h4 => ?_)
  refine gx_g (fun c5 => ?_)
  refine gx_if_eq (off := 12) (tgt := 24) c5 (by decide +kernel) (by decide) ?_ ?_
  · refine gx_iconst (n := 0) (by decide +kernel) ?_
    exact gx_zreturn (by decide) rfl rfl (by decide +kernel)
  · refine gx_aload_n (i := 0) (by decide +kernel) rfl ?_
    refine gx_iconst (n := 0) (by decide +kernel) ?_
    refine gx_iload_n (i := 1) (by decide +kernel) rfl ?_
    refine gx_cVi2 (Mc := gm_MD_worth) (u' := (0, 0)) (c_MD_worth _ _ _ _) vk_MD_worth ml_MD_123 rfl rfl ⟨by decide, by decide, by decide, by decide⟩ (Nat.le_of_ble_eq_true rfl) (by decide +kernel) (fun r6 h7 => ?_)
    refine gx_g (fun c8 => ?_)
    refine gx_if_ne (off := 5) (tgt := 26) c8 (by decide +kernel) (by decide) ?_ ?_
    · refine gx_aload_n (i := 0) (by decide +kernel) rfl ?_
      refine gx_getr gk_MD (by decide) fl_MD_7 rfl (by decide +kernel) ?_
      refine gx_sipush (n := 1920) (by decide +kernel) (by decide) ?_
      refine gx_iload_n (i := 1) (by decide +kernel) rfl ?_
      refine gx_iadd (by decide +kernel) ?_
      refine gx_aload_n (i := 0) (by decide +kernel) rfl ?_
      refine gx_getL gk_MD (by decide) fl_MD_80 rfl (by decide +kernel) (fun c11 => ?_)
      refine gx_l2i (by decide +kernel) ?_
      refine gx_iast (by decide +kernel) ?_
      refine gx_aload_n (i := 0) (by decide +kernel) rfl ?_
      refine gx_getr gk_MD (by decide) fl_MD_7 rfl (by decide +kernel) ?_
      refine gx_sipush (n := 1924) (by decide +kernel) (by decide) ?_
      refine gx_iload_n (i := 1) (by decide +kernel) rfl ?_
      refine gx_iadd (by decide +kernel) ?_
      refine gx_aload_n (i := 0) (by decide +kernel) rfl ?_
      refine gx_getL gk_MD (by decide) fl_MD_84 rfl (by decide +kernel) (fun c15 => ?_)
      refine gx_l2i (by decide +kernel) ?_
      refine gx_iast (by decide +kernel) ?_
      refine gx_aload_n (i := 0) (by decide +kernel) rfl ?_
      refine gx_iconst (n := 0) (by decide +kernel) ?_
      refine gx_iload_n (i := 1) (by decide +kernel) rfl ?_
      refine gx_sipush (n := 1920) (by decide +kernel) (by decide) ?_
      refine gx_cVi3 (Mc := gm_MD_turned) (u' := (0, 0)) (c_MD_turned _ _ _ _ _) vk_MD_turned ml_MD_126 rfl rfl ⟨by decide, by decide, by decide, by decide⟩ (Nat.le_of_ble_eq_true rfl) (by decide +kernel) (fun r17 h18 => ?_)
      refine gx_istore_n (i := 2) (l' := [some (gx_R _), some (gx_I _), some (gx_I _)]) (by decide +kernel) rfl (Nat.le_of_ble_eq_true rfl) (by decide) rfl ?_
      refine gx_aload_n (i := 0) (by decide +kernel) rfl ?_
      refine gx_iconst (n := 0) (by decide +kernel) ?_
      refine gx_iload_n (i := 1) (by decide +kernel) rfl ?_
      refine gx_sipush (n := 1920) (by decide +kernel) (by decide) ?_
      refine gx_cVi3 (Mc := gm_MD_denominators) (u' := (0, 0)) (c_MD_denominators _ _ _ _ _) vk_MD_denominators ml_MD_129 rfl rfl ⟨by decide, by decide, by decide, by decide⟩ (Nat.le_of_ble_eq_true rfl) (by decide +kernel) (fun r19 h20 => ?_)
      refine gx_g (fun c21 => ?_)
      refine gx_if_eq (off := 11) (tgt := 86) c21 (by decide +kernel) (by decide) ?_ ?_
      · exact gx_less' (y_MD_tries_86 _ _ _) ⟨rfl, rfl, trivial⟩
      · refine gx_iload_n (i := 2) (by decide +kernel) rfl ?_
        refine gx_g (fun c22 => ?_)
        refine gx_if_eq (off := 7) (tgt := 86) c22 (by decide +kernel) (by decide) ?_ ?_
        · exact gx_less' (y_MD_tries_86 _ _ _) ⟨rfl, rfl, trivial⟩
        · refine gx_iconst (n := 1) (by decide +kernel) ?_
          refine gx_goto (off := 4) (tgt := 87) (by decide +kernel) (by decide) ?_
          exact gx_less' (y_MD_tries_87 _ _ _ _) ⟨rfl, rfl, trivial⟩
    · refine gx_iconst (n := 0) (by decide +kernel) ?_
      exact gx_zreturn (by decide) rfl rfl (by decide +kernel)
def fb_MD_isBefore_3 (N3 : gx_H → Nat → Int → Int → Int → Int → Option (Int × gx_H)) (h : gx_H) (l0 : Nat) (l1 : Int) (l2 : Int) (l3 : Int) (l4 : Int) : Option (Int × gx_H) :=
  gq_get h l0 1 1 (fun v1 => gq_g (gx_i l4) (if l4 < v1 then gq_gr h l0 1 0 (fun o6 => gq_ald 0 h o6 (((l1 + 24) + (4 * l2)) + l4) (fun v7 => gq_gr h l0 1 0 (fun o9 => gq_ald 0 h o9 (((l1 + 24) + (4 * l3)) + l4) (fun v10 => if v7 = v10 then N3 h l0 l1 l2 l3 (l4 + 1) else if v7 < v10 then some (1, h) else some (0, h))))) else gq_g (gx_i l2) (gq_g (gx_i l3) (if l2 < l3 then some (1, h) else some (0, h)))))
set_option maxHeartbeats 4000000 in
set_option maxRecDepth 100000 in
theorem yb_MD_isBefore_3 (N3 : gx_H → Nat → Int → Int → Int → Int → Option (Int × gx_H)) (hN3 : ∀ (h : gx_H) (l0 : Nat) (l1 : Int) (l2 : Int) (l3 : Int) (l4 : Int), gx_Y gm_MD_isBefore (0, 0) 3 [some (gx_R l0), some (gx_I l1), some (gx_I l2), some (gx_I l3), some (gx_I l4), none, none] [] h (N3 h l0 l1 l2 l3 l4)) (h : gx_H) (l0 : Nat) (l1 : Int) (l2 : Int) (l3 : Int) (l4 : Int) : gx_Y gm_MD_isBefore (0, 0) 3 [some (gx_R l0), some (gx_I l1), some (gx_I l2), some (gx_I l3), some (gx_I l4), none, none] [] h (fb_MD_isBefore_3 N3 h l0 l1 l2 l3 l4) := by
  unfold fb_MD_isBefore_3
  refine gx_iload (i := 4) (by decide +kernel) rfl ?_
  refine gx_aload_n (i := 0) (by decide +kernel) rfl ?_
  refine gx_geti gk_MD (by decide) fl_MD_13 (Or.inl rfl) (by decide +kernel) (fun c2 => ?_)
  refine gx_g (fun c3 => ?_)
  refine gx_icmp_ge (off := 65) (tgt := 74) c3 c2 (by decide +kernel) (by decide) ?_ ?_
  · refine gx_iload_n (i := 2) (by decide +kernel) rfl ?_
    refine gx_iload_n (i := 3) (by decide +kernel) rfl ?_
    refine gx_g (fun c4 => ?_)
    refine gx_g (fun c5 => ?_)
    refine gx_icmp_ge (off := 7) (tgt := 83) c4 c5 (by decide +kernel) (by decide) ?_ ?_
    · refine gx_iconst (n := 0) (by decide +kernel) ?_
      exact gx_zreturn (by decide) rfl rfl (by decide +kernel)
    · refine gx_iconst (n := 1) (by decide +kernel) ?_
      refine gx_goto (off := 4) (tgt := 84) (by decide +kernel) (by decide) ?_
      exact gx_zreturn (by decide) rfl rfl (by decide +kernel)
  · refine gx_aload_n (i := 0) (by decide +kernel) rfl ?_
    refine gx_getr gk_MD (by decide) fl_MD_7 rfl (by decide +kernel) ?_
    refine gx_iload_n (i := 1) (by decide +kernel) rfl ?_
    refine gx_bipush (n := 24) (by decide +kernel) (by decide) ?_
    refine gx_iadd (by decide +kernel) ?_
    refine gx_iconst (n := 4) (by decide +kernel) ?_
    refine gx_iload_n (i := 2) (by decide +kernel) rfl ?_
    refine gx_imul (by decide +kernel) ?_
    refine gx_iadd (by decide +kernel) ?_
    refine gx_iload (i := 4) (by decide +kernel) rfl ?_
    refine gx_iadd (by decide +kernel) ?_
    refine gx_ialdi (by decide +kernel) (fun c8 => ?_)
    refine gx_istore (i := 5) (l' := [some (gx_R _), some (gx_I _), some (gx_I _), some (gx_I _), some (gx_I _), some (gx_I _), none]) (by decide +kernel) rfl (Nat.le_of_ble_eq_true rfl) (by decide) rfl ?_
    refine gx_aload_n (i := 0) (by decide +kernel) rfl ?_
    refine gx_getr gk_MD (by decide) fl_MD_7 rfl (by decide +kernel) ?_
    refine gx_iload_n (i := 1) (by decide +kernel) rfl ?_
    refine gx_bipush (n := 24) (by decide +kernel) (by decide) ?_
    refine gx_iadd (by decide +kernel) ?_
    refine gx_iconst (n := 4) (by decide +kernel) ?_
    refine gx_iload_n (i := 3) (by decide +kernel) rfl ?_
    refine gx_imul (by decide +kernel) ?_
    refine gx_iadd (by decide +kernel) ?_
    refine gx_iload (i := 4) (by decide +kernel) rfl ?_
    refine gx_iadd (by decide +kernel) ?_
    refine gx_ialdi (by decide +kernel) (fun c11 => ?_)
    refine gx_istore (i := 6) (l' := [some (gx_R _), some (gx_I _), some (gx_I _), some (gx_I _), some (gx_I _), some (gx_I _), some (gx_I _)]) (by decide +kernel) rfl (Nat.le_of_ble_eq_true rfl) (by decide) rfl ?_
    refine gx_iload (i := 5) (by decide +kernel) rfl ?_
    refine gx_iload (i := 6) (by decide +kernel) rfl ?_
    refine gx_icmp_eq (off := 16) (tgt := 68) c8 c11 (by decide +kernel) (by decide) ?_ ?_
    · refine gx_iinc (i := 4) (n := 1) (l' := [some (gx_R _), some (gx_I _), some (gx_I _), some (gx_I _), some (gx_I _), some (gx_I _), some (gx_I _)]) (by decide +kernel) rfl rfl (Nat.le_of_ble_eq_true rfl) (by decide) rfl ?_
      refine gx_goto (off := -68) (tgt := 3) (by decide +kernel) (by decide) ?_
      exact gx_less' (hN3 _ _ _ _ _ _) ⟨rfl, rfl, rfl, rfl, rfl, trivial⟩
    · refine gx_iload (i := 5) (by decide +kernel) rfl ?_
      refine gx_iload (i := 6) (by decide +kernel) rfl ?_
      refine gx_icmp_ge (off := 7) (tgt := 66) c8 c11 (by decide +kernel) (by decide) ?_ ?_
      · refine gx_iconst (n := 0) (by decide +kernel) ?_
        exact gx_zreturn (by decide) rfl rfl (by decide +kernel)
      · refine gx_iconst (n := 1) (by decide +kernel) ?_
        refine gx_goto (off := 4) (tgt := 67) (by decide +kernel) (by decide) ?_
        exact gx_zreturn (by decide) rfl rfl (by decide +kernel)
def f_MD_isBefore_3 : Nat → gx_H → Nat → Int → Int → Int → Int → Option (Int × gx_H)
  | 0 => fun _ _ _ _ _ _ => none
  | fu + 1 => fb_MD_isBefore_3 (f_MD_isBefore_3 fu)
theorem y_MD_isBefore_3 : ∀ (fu : Nat) (h : gx_H) (l0 : Nat) (l1 : Int) (l2 : Int) (l3 : Int) (l4 : Int), gx_Y gm_MD_isBefore (0, 0) 3 [some (gx_R l0), some (gx_I l1), some (gx_I l2), some (gx_I l3), some (gx_I l4), none, none] [] h (f_MD_isBefore_3 fu h l0 l1 l2 l3 l4) := by
  intro fu
  induction fu with
  | zero => intro h l0 l1 l2 l3 l4; exact gx_none
  | succ fu ih => intro h l0 l1 l2 l3 l4; exact yb_MD_isBefore_3 (f_MD_isBefore_3 fu) ih h l0 l1 l2 l3 l4
def f_MD_isBefore (h : gx_H) (l0 : Nat) (l1 : Int) (l2 : Int) (l3 : Int) : Option (Int × gx_H) :=
  f_MD_isBefore_3 gx_fu h l0 l1 l2 l3 0
set_option maxHeartbeats 4000000 in
set_option maxRecDepth 100000 in
theorem c_MD_isBefore (h : gx_H) (l0 : Nat) (l1 : Int) (l2 : Int) (l3 : Int) : ∀ r h1, f_MD_isBefore h l0 l1 l2 l3 = some (r, h1) → gx_Met gm_MD_isBefore [gx_R l0, gx_I l1, gx_I l2, gx_I l3] h r h1 := by
  refine gx_enter (l := [some (gx_R l0), some (gx_I l1), some (gx_I l2), some (gx_I l3), none, none, none]) (by decide) (Nat.le_of_ble_eq_true rfl) rfl ?_
  unfold f_MD_isBefore
  refine gx_iconst (n := 0) (by decide +kernel) ?_
  refine gx_istore (i := 4) (l' := [some (gx_R _), some (gx_I _), some (gx_I _), some (gx_I _), some (gx_I _), none, none]) (by decide +kernel) rfl (Nat.le_of_ble_eq_true rfl) (by decide) rfl ?_
  exact gx_less' (y_MD_isBefore_3 gx_fu _ _ _ _ _ _) ⟨rfl, rfl, rfl, rfl, rfl, trivial⟩
def fb_MD_placeOf_37 (N5 : gx_H → Nat → Int → Int → Int → Int → Option (Int × gx_H)) (h : gx_H) (l0 : Nat) (l1 : Int) (l2 : Int) (l4 : Int) (t0 : Int) (t1 : Int) : Option (Int × gx_H) :=
  N5 h l0 l1 l2 (t0 + t1) (l4 + 1)
set_option maxHeartbeats 4000000 in
set_option maxRecDepth 100000 in
theorem y_MD_placeOf_37 (N5 : gx_H → Nat → Int → Int → Int → Int → Option (Int × gx_H)) (hN5 : ∀ (h : gx_H) (l0 : Nat) (l1 : Int) (l2 : Int) (l3 : Int) (l4 : Int), gx_Y gm_MD_placeOf (0, 0) 5 [some (gx_R l0), some (gx_I l1), some (gx_I l2), some (gx_I l3), some (gx_I l4)] [] h (N5 h l0 l1 l2 l3 l4)) (h : gx_H) (l0 : Nat) (l1 : Int) (l2 : Int) (l4 : Int) (t0 : Int) (t1 : Int) : gx_Y gm_MD_placeOf (0, 0) 37 [some (gx_R l0), some (gx_I l1), some (gx_I l2), none, some (gx_I l4)] [gx_I t1, gx_I t0] h (fb_MD_placeOf_37 N5 h l0 l1 l2 l4 t0 t1) := by
  unfold fb_MD_placeOf_37
  refine gx_iadd (by decide +kernel) ?_
  refine gx_istore_n (i := 3) (l' := [some (gx_R _), some (gx_I _), some (gx_I _), some (gx_I _), some (gx_I _)]) (by decide +kernel) rfl (Nat.le_of_ble_eq_true rfl) (by decide) rfl ?_
  refine gx_iinc (i := 4) (n := 1) (l' := [some (gx_R _), some (gx_I _), some (gx_I _), some (gx_I _), some (gx_I _)]) (by decide +kernel) rfl rfl (Nat.le_of_ble_eq_true rfl) (by decide) rfl ?_
  refine gx_goto (off := -37) (tgt := 5) (by decide +kernel) (by decide) ?_
  exact gx_less' (hN5 _ _ _ _ _ _) ⟨rfl, rfl, rfl, rfl, rfl, trivial⟩
def fb_MD_placeOf_36 (N5 : gx_H → Nat → Int → Int → Int → Int → Option (Int × gx_H)) (h : gx_H) (l0 : Nat) (l1 : Int) (l2 : Int) (l4 : Int) (t0 : Int) : Option (Int × gx_H) :=
  fb_MD_placeOf_37 N5 h l0 l1 l2 l4 t0 0
set_option maxHeartbeats 4000000 in
set_option maxRecDepth 100000 in
theorem y_MD_placeOf_36 (N5 : gx_H → Nat → Int → Int → Int → Int → Option (Int × gx_H)) (hN5 : ∀ (h : gx_H) (l0 : Nat) (l1 : Int) (l2 : Int) (l3 : Int) (l4 : Int), gx_Y gm_MD_placeOf (0, 0) 5 [some (gx_R l0), some (gx_I l1), some (gx_I l2), some (gx_I l3), some (gx_I l4)] [] h (N5 h l0 l1 l2 l3 l4)) (h : gx_H) (l0 : Nat) (l1 : Int) (l2 : Int) (l4 : Int) (t0 : Int) : gx_Y gm_MD_placeOf (0, 0) 36 [some (gx_R l0), some (gx_I l1), some (gx_I l2), none, some (gx_I l4)] [gx_I t0] h (fb_MD_placeOf_36 N5 h l0 l1 l2 l4 t0) := by
  unfold fb_MD_placeOf_36
  refine gx_iconst (n := 0) (by decide +kernel) ?_
  exact gx_less' (y_MD_placeOf_37 _ hN5 _ _ _ _ _ _ _) ⟨rfl, rfl, rfl, rfl, trivial⟩
def fb_MD_placeOf_5 (N5 : gx_H → Nat → Int → Int → Int → Int → Option (Int × gx_H)) (h : gx_H) (l0 : Nat) (l1 : Int) (l2 : Int) (l3 : Int) (l4 : Int) : Option (Int × gx_H) :=
  gq_get h l0 1 1 (fun v1 => gq_g (gx_i l4) (if l4 < v1 then gq_g (gx_i l2) (if l4 = l2 then fb_MD_placeOf_36 N5 h l0 l1 l2 l4 l3 else gq_cv h l0 1 (f_MD_isBefore h l0 l1 l4 l2) (fun r5 h6 => gq_g (gx_i r5) (if r5 = 0 then fb_MD_placeOf_36 N5 h6 l0 l1 l2 l4 l3 else fb_MD_placeOf_37 N5 h6 l0 l1 l2 l4 l3 1))) else some (l3, h)))
set_option maxHeartbeats 4000000 in
set_option maxRecDepth 100000 in
theorem yb_MD_placeOf_5 (N5 : gx_H → Nat → Int → Int → Int → Int → Option (Int × gx_H)) (hN5 : ∀ (h : gx_H) (l0 : Nat) (l1 : Int) (l2 : Int) (l3 : Int) (l4 : Int), gx_Y gm_MD_placeOf (0, 0) 5 [some (gx_R l0), some (gx_I l1), some (gx_I l2), some (gx_I l3), some (gx_I l4)] [] h (N5 h l0 l1 l2 l3 l4)) (h : gx_H) (l0 : Nat) (l1 : Int) (l2 : Int) (l3 : Int) (l4 : Int) : gx_Y gm_MD_placeOf (0, 0) 5 [some (gx_R l0), some (gx_I l1), some (gx_I l2), some (gx_I l3), some (gx_I l4)] [] h (fb_MD_placeOf_5 N5 h l0 l1 l2 l3 l4) := by
  unfold fb_MD_placeOf_5
  refine gx_iload (i := 4) (by decide +kernel) rfl ?_
  refine gx_aload_n (i := 0) (by decide +kernel) rfl ?_
  refine gx_geti gk_MD (by decide) fl_MD_13 (Or.inl rfl) (by decide +kernel) (fun c2 => ?_)
  refine gx_g (fun c3 => ?_)
  refine gx_icmp_ge (off := 34) (tgt := 45) c3 c2 (by decide +kernel) (by decide) ?_ ?_
  · refine gx_iload_n (i := 3) (by decide +kernel) rfl ?_
    exact gx_ireturn rfl rfl (by decide +kernel)
  · refine gx_iload_n (i := 3) (by decide +kernel) rfl ?_
    refine gx_iload (i := 4) (by decide +kernel) rfl ?_
    refine gx_iload_n (i := 2) (by decide +kernel) rfl ?_
    refine gx_g (fun c4 => ?_)
    refine gx_icmp_eq (off := 18) (tgt := 36) c3 c4 (by decide +kernel) (by decide) ?_ ?_
    · exact gx_less' (y_MD_placeOf_36 _ hN5 _ _ _ _ _ _) ⟨rfl, rfl, rfl, rfl, trivial⟩
    · refine gx_aload_n (i := 0) (by decide +kernel) rfl ?_
      refine gx_iload_n (i := 1) (by decide +kernel) rfl ?_
      refine gx_iload (i := 4) (by decide +kernel) rfl ?_
      refine gx_iload_n (i := 2) (by decide +kernel) rfl ?_
      refine gx_cVi3 (Mc := gm_MD_isBefore) (u' := (0, 0)) (c_MD_isBefore _ _ _ _ _) vk_MD_isBefore ml_MD_138 rfl rfl ⟨by decide, by decide, by decide, by decide⟩ (Nat.le_of_ble_eq_true rfl) (by decide +kernel) (fun r5 h6 => ?_)
      refine gx_g (fun c7 => ?_)
      refine gx_if_eq (off := 7) (tgt := 36) c7 (by decide +kernel) (by decide) ?_ ?_
      · exact gx_less' (y_MD_placeOf_36 _ hN5 _ _ _ _ _ _) ⟨rfl, rfl, rfl, rfl, trivial⟩
      · refine gx_iconst (n := 1) (by decide +kernel) ?_
        refine gx_goto (off := 4) (tgt := 37) (by decide +kernel) (by decide) ?_
        exact gx_less' (y_MD_placeOf_37 _ hN5 _ _ _ _ _ _ _) ⟨rfl, rfl, rfl, rfl, trivial⟩
def f_MD_placeOf_5 : Nat → gx_H → Nat → Int → Int → Int → Int → Option (Int × gx_H)
  | 0 => fun _ _ _ _ _ _ => none
  | fu + 1 => fb_MD_placeOf_5 (f_MD_placeOf_5 fu)
theorem y_MD_placeOf_5 : ∀ (fu : Nat) (h : gx_H) (l0 : Nat) (l1 : Int) (l2 : Int) (l3 : Int) (l4 : Int), gx_Y gm_MD_placeOf (0, 0) 5 [some (gx_R l0), some (gx_I l1), some (gx_I l2), some (gx_I l3), some (gx_I l4)] [] h (f_MD_placeOf_5 fu h l0 l1 l2 l3 l4) := by
  intro fu
  induction fu with
  | zero => intro h l0 l1 l2 l3 l4; exact gx_none
  | succ fu ih => intro h l0 l1 l2 l3 l4; exact yb_MD_placeOf_5 (f_MD_placeOf_5 fu) ih h l0 l1 l2 l3 l4
def f_MD_placeOf (h : gx_H) (l0 : Nat) (l1 : Int) (l2 : Int) : Option (Int × gx_H) :=
  f_MD_placeOf_5 gx_fu h l0 l1 l2 0 0
set_option maxHeartbeats 4000000 in
set_option maxRecDepth 100000 in
theorem c_MD_placeOf (h : gx_H) (l0 : Nat) (l1 : Int) (l2 : Int) : ∀ r h1, f_MD_placeOf h l0 l1 l2 = some (r, h1) → gx_Met gm_MD_placeOf [gx_R l0, gx_I l1, gx_I l2] h r h1 := by
  refine gx_enter (l := [some (gx_R l0), some (gx_I l1), some (gx_I l2), none, none]) (by decide) (Nat.le_of_ble_eq_true rfl) rfl ?_
  unfold f_MD_placeOf
  refine gx_iconst (n := 0) (by decide +kernel) ?_
  refine gx_istore_n (i := 3) (l' := [some (gx_R _), some (gx_I _), some (gx_I _), some (gx_I _), none]) (by decide +kernel) rfl (Nat.le_of_ble_eq_true rfl) (by decide) rfl ?_
  refine gx_iconst (n := 0) (by decide +kernel) ?_
  refine gx_istore (i := 4) (l' := [some (gx_R _), some (gx_I _), some (gx_I _), some (gx_I _), some (gx_I _)]) (by decide +kernel) rfl (Nat.le_of_ble_eq_true rfl) (by decide) rfl ?_
  exact gx_less' (y_MD_placeOf_5 gx_fu _ _ _ _ _ _) ⟨rfl, rfl, rfl, rfl, rfl, trivial⟩
def fb_MD_rankedAt_31 (N5 : gx_H → Nat → Int → Int → Int → Int → Option (Int × gx_H)) (h : gx_H) (l0 : Nat) (l1 : Int) (l2 : Int) (l4 : Int) (t0 : Int) : Option (Int × gx_H) :=
  N5 h l0 l1 l2 t0 (l4 + 1)
set_option maxHeartbeats 4000000 in
set_option maxRecDepth 100000 in
theorem y_MD_rankedAt_31 (N5 : gx_H → Nat → Int → Int → Int → Int → Option (Int × gx_H)) (hN5 : ∀ (h : gx_H) (l0 : Nat) (l1 : Int) (l2 : Int) (l3 : Int) (l4 : Int), gx_Y gm_MD_rankedAt (0, 0) 5 [some (gx_R l0), some (gx_I l1), some (gx_I l2), some (gx_I l3), some (gx_I l4)] [] h (N5 h l0 l1 l2 l3 l4)) (h : gx_H) (l0 : Nat) (l1 : Int) (l2 : Int) (l4 : Int) (t0 : Int) : gx_Y gm_MD_rankedAt (0, 0) 31 [some (gx_R l0), some (gx_I l1), some (gx_I l2), none, some (gx_I l4)] [gx_I t0] h (fb_MD_rankedAt_31 N5 h l0 l1 l2 l4 t0) := by
  unfold fb_MD_rankedAt_31
  refine gx_istore_n (i := 3) (l' := [some (gx_R _), some (gx_I _), some (gx_I _), some (gx_I _), some (gx_I _)]) (by decide +kernel) rfl (Nat.le_of_ble_eq_true rfl) (by decide) rfl ?_
  refine gx_iinc (i := 4) (n := 1) (l' := [some (gx_R _), some (gx_I _), some (gx_I _), some (gx_I _), some (gx_I _)]) (by decide +kernel) rfl rfl (Nat.le_of_ble_eq_true rfl) (by decide) rfl ?_
  refine gx_goto (off := -30) (tgt := 5) (by decide +kernel) (by decide) ?_
  exact gx_less' (hN5 _ _ _ _ _ _) ⟨rfl, rfl, rfl, rfl, rfl, trivial⟩
def fb_MD_rankedAt_5 (N5 : gx_H → Nat → Int → Int → Int → Int → Option (Int × gx_H)) (h : gx_H) (l0 : Nat) (l1 : Int) (l2 : Int) (l3 : Int) (l4 : Int) : Option (Int × gx_H) :=
  gq_get h l0 1 1 (fun v1 => gq_g (gx_i l4) (if l4 < v1 then gq_cv h l0 1 (f_MD_placeOf h l0 l1 l4) (fun r4 h5 => gq_g (gx_i r4) (gq_g (gx_i l2) (if r4 = l2 then fb_MD_rankedAt_31 N5 h5 l0 l1 l2 l4 l4 else fb_MD_rankedAt_31 N5 h5 l0 l1 l2 l4 l3))) else some (l3, h)))
set_option maxHeartbeats 4000000 in
set_option maxRecDepth 100000 in
theorem yb_MD_rankedAt_5 (N5 : gx_H → Nat → Int → Int → Int → Int → Option (Int × gx_H)) (hN5 : ∀ (h : gx_H) (l0 : Nat) (l1 : Int) (l2 : Int) (l3 : Int) (l4 : Int), gx_Y gm_MD_rankedAt (0, 0) 5 [some (gx_R l0), some (gx_I l1), some (gx_I l2), some (gx_I l3), some (gx_I l4)] [] h (N5 h l0 l1 l2 l3 l4)) (h : gx_H) (l0 : Nat) (l1 : Int) (l2 : Int) (l3 : Int) (l4 : Int) : gx_Y gm_MD_rankedAt (0, 0) 5 [some (gx_R l0), some (gx_I l1), some (gx_I l2), some (gx_I l3), some (gx_I l4)] [] h (fb_MD_rankedAt_5 N5 h l0 l1 l2 l3 l4) := by
  unfold fb_MD_rankedAt_5
  refine gx_iload (i := 4) (by decide +kernel) rfl ?_
  refine gx_aload_n (i := 0) (by decide +kernel) rfl ?_
  refine gx_geti gk_MD (by decide) fl_MD_13 (Or.inl rfl) (by decide +kernel) (fun c2 => ?_)
  refine gx_g (fun c3 => ?_)
  refine gx_icmp_ge (off := 27) (tgt := 38) c3 c2 (by decide +kernel) (by decide) ?_ ?_
  · refine gx_iload_n (i := 3) (by decide +kernel) rfl ?_
    exact gx_ireturn rfl rfl (by decide +kernel)
  · refine gx_aload_n (i := 0) (by decide +kernel) rfl ?_
    refine gx_iload_n (i := 1) (by decide +kernel) rfl ?_
    refine gx_iload (i := 4) (by decide +kernel) rfl ?_
    refine gx_cVi2 (Mc := gm_MD_placeOf) (u' := (0, 0)) (c_MD_placeOf _ _ _ _) vk_MD_placeOf ml_MD_141 rfl rfl ⟨by decide, by decide, by decide, by decide⟩ (Nat.le_of_ble_eq_true rfl) (by decide +kernel) (fun r4 h5 => ?_)
    refine gx_iload_n (i := 2) (by decide +kernel) rfl ?_
    refine gx_g (fun c6 => ?_)
    refine gx_g (fun c7 => ?_)
    refine gx_icmp_ne (off := 8) (tgt := 30) c6 c7 (by decide +kernel) (by decide) ?_ ?_
    · refine gx_iload_n (i := 3) (by decide +kernel) rfl ?_
      exact gx_less' (y_MD_rankedAt_31 _ hN5 _ _ _ _ _ _) ⟨rfl, rfl, rfl, rfl, trivial⟩
    · refine gx_iload (i := 4) (by decide +kernel) rfl ?_
      refine gx_goto (off := 4) (tgt := 31) (by decide +kernel) (by decide) ?_
      exact gx_less' (y_MD_rankedAt_31 _ hN5 _ _ _ _ _ _) ⟨rfl, rfl, rfl, rfl, trivial⟩
def f_MD_rankedAt_5 : Nat → gx_H → Nat → Int → Int → Int → Int → Option (Int × gx_H)
  | 0 => fun _ _ _ _ _ _ => none
  | fu + 1 => fb_MD_rankedAt_5 (f_MD_rankedAt_5 fu)
theorem y_MD_rankedAt_5 : ∀ (fu : Nat) (h : gx_H) (l0 : Nat) (l1 : Int) (l2 : Int) (l3 : Int) (l4 : Int), gx_Y gm_MD_rankedAt (0, 0) 5 [some (gx_R l0), some (gx_I l1), some (gx_I l2), some (gx_I l3), some (gx_I l4)] [] h (f_MD_rankedAt_5 fu h l0 l1 l2 l3 l4) := by
  intro fu
  induction fu with
  | zero => intro h l0 l1 l2 l3 l4; exact gx_none
  | succ fu ih => intro h l0 l1 l2 l3 l4; exact yb_MD_rankedAt_5 (f_MD_rankedAt_5 fu) ih h l0 l1 l2 l3 l4
def f_MD_rankedAt (h : gx_H) (l0 : Nat) (l1 : Int) (l2 : Int) : Option (Int × gx_H) :=
  f_MD_rankedAt_5 gx_fu h l0 l1 l2 0 0
set_option maxHeartbeats 4000000 in
set_option maxRecDepth 100000 in
theorem c_MD_rankedAt (h : gx_H) (l0 : Nat) (l1 : Int) (l2 : Int) : ∀ r h1, f_MD_rankedAt h l0 l1 l2 = some (r, h1) → gx_Met gm_MD_rankedAt [gx_R l0, gx_I l1, gx_I l2] h r h1 := by
  refine gx_enter (l := [some (gx_R l0), some (gx_I l1), some (gx_I l2), none, none]) (by decide) (Nat.le_of_ble_eq_true rfl) rfl ?_
  unfold f_MD_rankedAt
  refine gx_iconst (n := 0) (by decide +kernel) ?_
  refine gx_istore_n (i := 3) (l' := [some (gx_R _), some (gx_I _), some (gx_I _), some (gx_I _), none]) (by decide +kernel) rfl (Nat.le_of_ble_eq_true rfl) (by decide) rfl ?_
  refine gx_iconst (n := 0) (by decide +kernel) ?_
  refine gx_istore (i := 4) (l' := [some (gx_R _), some (gx_I _), some (gx_I _), some (gx_I _), some (gx_I _)]) (by decide +kernel) rfl (Nat.le_of_ble_eq_true rfl) (by decide) rfl ?_
  exact gx_less' (y_MD_rankedAt_5 gx_fu _ _ _ _ _ _) ⟨rfl, rfl, rfl, rfl, rfl, trivial⟩
def fb_MD_layStand_137 (N5 : gx_H → Nat → Int → Int → Int → Int → Option (Int × gx_H)) (N26 : gx_H → Nat → Int → Int → Int → Int → Int → Int → Option (Int × gx_H)) (h : gx_H) (l0 : Nat) (l1 : Int) (l2 : Int) (l4 : Int) (l5 : Int) (l6 : Int) (t0 : Int) : Option (Int × gx_H) :=
  N26 h l0 l1 l2 t0 l4 l5 (l6 + 1)
set_option maxHeartbeats 4000000 in
set_option maxRecDepth 100000 in
theorem y_MD_layStand_137 (N5 : gx_H → Nat → Int → Int → Int → Int → Option (Int × gx_H)) (hN5 : ∀ (h : gx_H) (l0 : Nat) (l1 : Int) (l2 : Int) (l3 : Int) (l4 : Int), gx_Y gm_MD_layStand (0, 0) 5 [some (gx_R l0), some (gx_I l1), some (gx_I l2), some (gx_I l3), some (gx_I l4), none, none, none] [] h (N5 h l0 l1 l2 l3 l4)) (N26 : gx_H → Nat → Int → Int → Int → Int → Int → Int → Option (Int × gx_H)) (hN26 : ∀ (h : gx_H) (l0 : Nat) (l1 : Int) (l2 : Int) (l3 : Int) (l4 : Int) (l5 : Int) (l6 : Int), gx_Y gm_MD_layStand (0, 0) 26 [some (gx_R l0), some (gx_I l1), some (gx_I l2), some (gx_I l3), some (gx_I l4), some (gx_I l5), some (gx_I l6), none] [] h (N26 h l0 l1 l2 l3 l4 l5 l6)) (h : gx_H) (l0 : Nat) (l1 : Int) (l2 : Int) (l4 : Int) (l5 : Int) (l6 : Int) (t0 : Int) : gx_Y gm_MD_layStand (0, 0) 137 [some (gx_R l0), some (gx_I l1), some (gx_I l2), none, some (gx_I l4), some (gx_I l5), some (gx_I l6), none] [gx_I t0] h (fb_MD_layStand_137 N5 N26 h l0 l1 l2 l4 l5 l6 t0) := by
  unfold fb_MD_layStand_137
  refine gx_istore_n (i := 3) (l' := [some (gx_R _), some (gx_I _), some (gx_I _), some (gx_I _), some (gx_I _), some (gx_I _), some (gx_I _), none]) (by decide +kernel) rfl (Nat.le_of_ble_eq_true rfl) (by decide) rfl ?_
  refine gx_iinc (i := 6) (n := 1) (l' := [some (gx_R _), some (gx_I _), some (gx_I _), some (gx_I _), some (gx_I _), some (gx_I _), some (gx_I _), none]) (by decide +kernel) rfl rfl (Nat.le_of_ble_eq_true rfl) (by decide) rfl ?_
  refine gx_goto (off := -115) (tgt := 26) (by decide +kernel) (by decide) ?_
  exact gx_less' (hN26 _ _ _ _ _ _ _ _) ⟨rfl, rfl, rfl, rfl, rfl, rfl, rfl, trivial⟩
def fb_MD_layStand_136 (N5 : gx_H → Nat → Int → Int → Int → Int → Option (Int × gx_H)) (N26 : gx_H → Nat → Int → Int → Int → Int → Int → Int → Option (Int × gx_H)) (h : gx_H) (l0 : Nat) (l1 : Int) (l2 : Int) (l4 : Int) (l5 : Int) (l6 : Int) : Option (Int × gx_H) :=
  fb_MD_layStand_137 N5 N26 h l0 l1 l2 l4 l5 l6 0
set_option maxHeartbeats 4000000 in
set_option maxRecDepth 100000 in
theorem y_MD_layStand_136 (N5 : gx_H → Nat → Int → Int → Int → Int → Option (Int × gx_H)) (hN5 : ∀ (h : gx_H) (l0 : Nat) (l1 : Int) (l2 : Int) (l3 : Int) (l4 : Int), gx_Y gm_MD_layStand (0, 0) 5 [some (gx_R l0), some (gx_I l1), some (gx_I l2), some (gx_I l3), some (gx_I l4), none, none, none] [] h (N5 h l0 l1 l2 l3 l4)) (N26 : gx_H → Nat → Int → Int → Int → Int → Int → Int → Option (Int × gx_H)) (hN26 : ∀ (h : gx_H) (l0 : Nat) (l1 : Int) (l2 : Int) (l3 : Int) (l4 : Int) (l5 : Int) (l6 : Int), gx_Y gm_MD_layStand (0, 0) 26 [some (gx_R l0), some (gx_I l1), some (gx_I l2), some (gx_I l3), some (gx_I l4), some (gx_I l5), some (gx_I l6), none] [] h (N26 h l0 l1 l2 l3 l4 l5 l6)) (h : gx_H) (l0 : Nat) (l1 : Int) (l2 : Int) (l4 : Int) (l5 : Int) (l6 : Int) : gx_Y gm_MD_layStand (0, 0) 136 [some (gx_R l0), some (gx_I l1), some (gx_I l2), none, some (gx_I l4), some (gx_I l5), some (gx_I l6), none] [] h (fb_MD_layStand_136 N5 N26 h l0 l1 l2 l4 l5 l6) := by
  unfold fb_MD_layStand_136
  refine gx_iconst (n := 0) (by decide +kernel) ?_
  exact gx_less' (y_MD_layStand_137 _ hN5 _ hN26 _ _ _ _ _ _ _ _) ⟨rfl, rfl, rfl, rfl, rfl, rfl, trivial⟩
def fb_MD_layStand_26 (N5 : gx_H → Nat → Int → Int → Int → Int → Option (Int × gx_H)) (N26 : gx_H → Nat → Int → Int → Int → Int → Int → Int → Option (Int × gx_H)) (h : gx_H) (l0 : Nat) (l1 : Int) (l2 : Int) (l3 : Int) (l4 : Int) (l5 : Int) (l6 : Int) : Option (Int × gx_H) :=
  gq_get h l0 1 1 (fun v1 => gq_g (gx_i l6) (if l6 < v1 then gq_cv h l0 1 (f_MD_rankedAt h l0 l1 l6) (fun r4 h5 => gq_gr h5 l0 1 16 (fun o6 => gq_cv h5 l0 1 (f_MD_b h5 l0 l1 l5 r4) (fun r7 h8 => gq_ast 0 (gx_i r7) h8 o6 (((16 * l2) + (4 * l4)) + l6) r7 (fun h9 => gq_gr h9 l0 1 17 (fun o10 => gq_gr h9 l0 1 0 (fun o11 => gq_ald 0 h9 o11 (((l1 + 24) + (4 * l5)) + l6) (fun v12 => gq_ast 0 True h9 o10 (((16 * l2) + (4 * l4)) + l6) v12 (fun h14 => gq_g (gx_i l3) (if l3 = 0 then fb_MD_layStand_136 N5 N26 h14 l0 l1 l2 l4 l5 l6 else gq_cv h14 l0 1 (f_MD_b h14 l0 l1 l5 r4) (fun r16 h17 => gq_cv h17 l0 1 (f_MD_b h17 l0 l1 r4 l5) (fun r18 h19 => gq_g (gx_i (r16 * r18)) (if (r16 * r18) < (-3) then fb_MD_layStand_136 N5 N26 h19 l0 l1 l2 l4 l5 l6 else fb_MD_layStand_137 N5 N26 h19 l0 l1 l2 l4 l5 l6 1)))))))))))) else N5 h l0 l1 l2 l3 (l4 + 1)))
set_option maxHeartbeats 4000000 in
set_option maxRecDepth 100000 in
theorem yb_MD_layStand_26 (N5 : gx_H → Nat → Int → Int → Int → Int → Option (Int × gx_H)) (hN5 : ∀ (h : gx_H) (l0 : Nat) (l1 : Int) (l2 : Int) (l3 : Int) (l4 : Int), gx_Y gm_MD_layStand (0, 0) 5 [some (gx_R l0), some (gx_I l1), some (gx_I l2), some (gx_I l3), some (gx_I l4), none, none, none] [] h (N5 h l0 l1 l2 l3 l4)) (N26 : gx_H → Nat → Int → Int → Int → Int → Int → Int → Option (Int × gx_H)) (hN26 : ∀ (h : gx_H) (l0 : Nat) (l1 : Int) (l2 : Int) (l3 : Int) (l4 : Int) (l5 : Int) (l6 : Int), gx_Y gm_MD_layStand (0, 0) 26 [some (gx_R l0), some (gx_I l1), some (gx_I l2), some (gx_I l3), some (gx_I l4), some (gx_I l5), some (gx_I l6), none] [] h (N26 h l0 l1 l2 l3 l4 l5 l6)) (h : gx_H) (l0 : Nat) (l1 : Int) (l2 : Int) (l3 : Int) (l4 : Int) (l5 : Int) (l6 : Int) : gx_Y gm_MD_layStand (0, 0) 26 [some (gx_R l0), some (gx_I l1), some (gx_I l2), some (gx_I l3), some (gx_I l4), some (gx_I l5), some (gx_I l6), none] [] h (fb_MD_layStand_26 N5 N26 h l0 l1 l2 l3 l4 l5 l6) := by
  unfold fb_MD_layStand_26
  refine gx_iload (i := 6) (by decide +kernel) rfl ?_
  refine gx_aload_n (i := 0) (by decide +kernel) rfl ?_
  refine gx_geti gk_MD (by decide) fl_MD_13 (Or.inl rfl) (by decide +kernel) (fun c2 => ?_)
  refine gx_g (fun c3 => ?_)
  refine gx_icmp_ge (off := 112) (tgt := 144) c3 c2 (by decide +kernel) (by decide) ?_ ?_
  · refine gx_iinc (i := 4) (n := 1) (l' := [some (gx_R _), some (gx_I _), some (gx_I _), some (gx_I _), some (gx_I _), some (gx_I _), some (gx_I _), none]) (by decide +kernel) rfl rfl (Nat.le_of_ble_eq_true rfl) (by decide) rfl ?_
    refine gx_goto (off := -142) (tgt := 5) (by decide +kernel) (by decide) ?_
    exact gx_less' (hN5 _ _ _ _ _ _) ⟨rfl, rfl, rfl, rfl, rfl, trivial⟩
  · refine gx_aload_n (i := 0) (by decide +kernel) rfl ?_
    refine gx_iload_n (i := 1) (by decide +kernel) rfl ?_
    refine gx_iload (i := 6) (by decide +kernel) rfl ?_
    refine gx_cVi2 (Mc := gm_MD_rankedAt) (u' := (0, 0)) (c_MD_rankedAt _ _ _ _) vk_MD_rankedAt ml_MD_144 rfl rfl ⟨by decide, by decide, by decide, by decide⟩ (Nat.le_of_ble_eq_true rfl) (by decide +kernel) (fun r4 h5 => ?_)
    refine gx_istore (i := 7) (l' := [some (gx_R _), some (gx_I _), some (gx_I _), some (gx_I _), some (gx_I _), some (gx_I _), some (gx_I _), some (gx_I _)]) (by decide +kernel) rfl (Nat.le_of_ble_eq_true rfl) (by decide) rfl ?_
    refine gx_aload_n (i := 0) (by decide +kernel) rfl ?_
    refine gx_getr gk_MD (by decide) fl_MD_35 rfl (by decide +kernel) ?_
    refine gx_bipush (n := 16) (by decide +kernel) (by decide) ?_
    refine gx_iload_n (i := 2) (by decide +kernel) rfl ?_
    refine gx_imul (by decide +kernel) ?_
    refine gx_iconst (n := 4) (by decide +kernel) ?_
    refine gx_iload (i := 4) (by decide +kernel) rfl ?_
    refine gx_imul (by decide +kernel) ?_
    refine gx_iadd (by decide +kernel) ?_
    refine gx_iload (i := 6) (by decide +kernel) rfl ?_
    refine gx_iadd (by decide +kernel) ?_
    refine gx_aload_n (i := 0) (by decide +kernel) rfl ?_
    refine gx_iload_n (i := 1) (by decide +kernel) rfl ?_
    refine gx_iload (i := 5) (by decide +kernel) rfl ?_
    refine gx_iload (i := 7) (by decide +kernel) rfl ?_
    refine gx_cVi3 (Mc := gm_MD_b) (u' := (0, 0)) (c_MD_b _ _ _ _ _) vk_MD_b ml_MD_72 rfl rfl ⟨by decide, by decide, by decide, by decide⟩ (Nat.le_of_ble_eq_true rfl) (by decide +kernel) (fun r7 h8 => ?_)
    refine gx_iast (by decide +kernel) ?_
    refine gx_aload_n (i := 0) (by decide +kernel) rfl ?_
    refine gx_getr gk_MD (by decide) fl_MD_38 rfl (by decide +kernel) ?_
    refine gx_bipush (n := 16) (by decide +kernel) (by decide) ?_
    refine gx_iload_n (i := 2) (by decide +kernel) rfl ?_
    refine gx_imul (by decide +kernel) ?_
    refine gx_iconst (n := 4) (by decide +kernel) ?_
    refine gx_iload (i := 4) (by decide +kernel) rfl ?_
    refine gx_imul (by decide +kernel) ?_
    refine gx_iadd (by decide +kernel) ?_
    refine gx_iload (i := 6) (by decide +kernel) rfl ?_
    refine gx_iadd (by decide +kernel) ?_
    refine gx_aload_n (i := 0) (by decide +kernel) rfl ?_
    refine gx_getr gk_MD (by decide) fl_MD_7 rfl (by decide +kernel) ?_
    refine gx_iload_n (i := 1) (by decide +kernel) rfl ?_
    refine gx_bipush (n := 24) (by decide +kernel) (by decide) ?_
    refine gx_iadd (by decide +kernel) ?_
    refine gx_iconst (n := 4) (by decide +kernel) ?_
    refine gx_iload (i := 5) (by decide +kernel) rfl ?_
    refine gx_imul (by decide +kernel) ?_
    refine gx_iadd (by decide +kernel) ?_
    refine gx_iload (i := 6) (by decide +kernel) rfl ?_
    refine gx_iadd (by decide +kernel) ?_
    refine gx_ialdi (by decide +kernel) (fun c13 => ?_)
    refine gx_iastT c13 (by decide +kernel) ?_
    refine gx_iload_n (i := 3) (by decide +kernel) rfl ?_
    refine gx_g (fun c15 => ?_)
    refine gx_if_eq (off := 31) (tgt := 136) c15 (by decide +kernel) (by decide) ?_ ?_
    · exact gx_less' (y_MD_layStand_136 _ hN5 _ hN26 _ _ _ _ _ _ _) ⟨rfl, rfl, rfl, rfl, rfl, rfl, trivial⟩
    · refine gx_aload_n (i := 0) (by decide +kernel) rfl ?_
      refine gx_iload_n (i := 1) (by decide +kernel) rfl ?_
      refine gx_iload (i := 5) (by decide +kernel) rfl ?_
      refine gx_iload (i := 7) (by decide +kernel) rfl ?_
      refine gx_cVi3 (Mc := gm_MD_b) (u' := (0, 0)) (c_MD_b _ _ _ _ _) vk_MD_b ml_MD_72 rfl rfl ⟨by decide, by decide, by decide, by decide⟩ (Nat.le_of_ble_eq_true rfl) (by decide +kernel) (fun r16 h17 => ?_)
      refine gx_aload_n (i := 0) (by decide +kernel) rfl ?_
      refine gx_iload_n (i := 1) (by decide +kernel) rfl ?_
      refine gx_iload (i := 7) (by decide +kernel) rfl ?_
      refine gx_iload (i := 5) (by decide +kernel) rfl ?_
      refine gx_cVi3 (Mc := gm_MD_b) (u' := (0, 0)) (c_MD_b _ _ _ _ _) vk_MD_b ml_MD_72 rfl rfl ⟨by decide, by decide, by decide, by decide⟩ (Nat.le_of_ble_eq_true rfl) (by decide +kernel) (fun r18 h19 => ?_)
      refine gx_imul (by decide +kernel) ?_
      refine gx_bipush (n := (-3)) (by decide +kernel) (by decide) ?_
      refine gx_g (fun c20 => ?_)
      refine gx_icmp_lt (off := 7) (tgt := 136) c20 (by decide) (by decide +kernel) (by decide) ?_ ?_
      · exact gx_less' (y_MD_layStand_136 _ hN5 _ hN26 _ _ _ _ _ _ _) ⟨rfl, rfl, rfl, rfl, rfl, rfl, trivial⟩
      · refine gx_iconst (n := 1) (by decide +kernel) ?_
        refine gx_goto (off := 4) (tgt := 137) (by decide +kernel) (by decide) ?_
        exact gx_less' (y_MD_layStand_137 _ hN5 _ hN26 _ _ _ _ _ _ _ _) ⟨rfl, rfl, rfl, rfl, rfl, rfl, trivial⟩
def f_MD_layStand_26 (N5 : gx_H → Nat → Int → Int → Int → Int → Option (Int × gx_H)) : Nat → gx_H → Nat → Int → Int → Int → Int → Int → Int → Option (Int × gx_H)
  | 0 => fun _ _ _ _ _ _ _ _ => none
  | fu + 1 => fb_MD_layStand_26 N5 (f_MD_layStand_26 N5 fu)
theorem y_MD_layStand_26 (N5 : gx_H → Nat → Int → Int → Int → Int → Option (Int × gx_H)) (hN5 : ∀ (h : gx_H) (l0 : Nat) (l1 : Int) (l2 : Int) (l3 : Int) (l4 : Int), gx_Y gm_MD_layStand (0, 0) 5 [some (gx_R l0), some (gx_I l1), some (gx_I l2), some (gx_I l3), some (gx_I l4), none, none, none] [] h (N5 h l0 l1 l2 l3 l4)) : ∀ (fu : Nat) (h : gx_H) (l0 : Nat) (l1 : Int) (l2 : Int) (l3 : Int) (l4 : Int) (l5 : Int) (l6 : Int), gx_Y gm_MD_layStand (0, 0) 26 [some (gx_R l0), some (gx_I l1), some (gx_I l2), some (gx_I l3), some (gx_I l4), some (gx_I l5), some (gx_I l6), none] [] h (f_MD_layStand_26 N5 fu h l0 l1 l2 l3 l4 l5 l6) := by
  intro fu
  induction fu with
  | zero => intro h l0 l1 l2 l3 l4 l5 l6; exact gx_none
  | succ fu ih => intro h l0 l1 l2 l3 l4 l5 l6; exact yb_MD_layStand_26 N5 hN5 (f_MD_layStand_26 N5 fu) ih h l0 l1 l2 l3 l4 l5 l6
def fb_MD_layStand_5 (N5 : gx_H → Nat → Int → Int → Int → Int → Option (Int × gx_H)) (h : gx_H) (l0 : Nat) (l1 : Int) (l2 : Int) (l3 : Int) (l4 : Int) : Option (Int × gx_H) :=
  gq_get h l0 1 1 (fun v1 => gq_g (gx_i l4) (if l4 < v1 then gq_cv h l0 1 (f_MD_rankedAt h l0 l1 l4) (fun r5 h6 => f_MD_layStand_26 N5 gx_fu h6 l0 l1 l2 l3 l4 r5 0) else gq_g ((l3 : Int) = 0 ∨ (l3 : Int) = 1) (some (l3, h))))
set_option maxHeartbeats 4000000 in
set_option maxRecDepth 100000 in
theorem yb_MD_layStand_5 (N5 : gx_H → Nat → Int → Int → Int → Int → Option (Int × gx_H)) (hN5 : ∀ (h : gx_H) (l0 : Nat) (l1 : Int) (l2 : Int) (l3 : Int) (l4 : Int), gx_Y gm_MD_layStand (0, 0) 5 [some (gx_R l0), some (gx_I l1), some (gx_I l2), some (gx_I l3), some (gx_I l4), none, none, none] [] h (N5 h l0 l1 l2 l3 l4)) (h : gx_H) (l0 : Nat) (l1 : Int) (l2 : Int) (l3 : Int) (l4 : Int) : gx_Y gm_MD_layStand (0, 0) 5 [some (gx_R l0), some (gx_I l1), some (gx_I l2), some (gx_I l3), some (gx_I l4), none, none, none] [] h (fb_MD_layStand_5 N5 h l0 l1 l2 l3 l4) := by
  unfold fb_MD_layStand_5
  refine gx_iload (i := 4) (by decide +kernel) rfl ?_
  refine gx_aload_n (i := 0) (by decide +kernel) rfl ?_
  refine gx_geti gk_MD (by decide) fl_MD_13 (Or.inl rfl) (by decide +kernel) (fun c2 => ?_)
  refine gx_g (fun c3 => ?_)
  refine gx_icmp_ge (off := 139) (tgt := 150) c3 c2 (by decide +kernel) (by decide) ?_ ?_
  · refine gx_iload_n (i := 3) (by decide +kernel) rfl ?_
    refine gx_g (fun c4 => ?_)
    exact gx_zreturn c4 rfl rfl (by decide +kernel)
  · refine gx_aload_n (i := 0) (by decide +kernel) rfl ?_
    refine gx_iload_n (i := 1) (by decide +kernel) rfl ?_
    refine gx_iload (i := 4) (by decide +kernel) rfl ?_
    refine gx_cVi2 (Mc := gm_MD_rankedAt) (u' := (0, 0)) (c_MD_rankedAt _ _ _ _) vk_MD_rankedAt ml_MD_144 rfl rfl ⟨by decide, by decide, by decide, by decide⟩ (Nat.le_of_ble_eq_true rfl) (by decide +kernel) (fun r5 h6 => ?_)
    refine gx_istore (i := 5) (l' := [some (gx_R _), some (gx_I _), some (gx_I _), some (gx_I _), some (gx_I _), some (gx_I _), none, none]) (by decide +kernel) rfl (Nat.le_of_ble_eq_true rfl) (by decide) rfl ?_
    refine gx_iconst (n := 0) (by decide +kernel) ?_
    refine gx_istore (i := 6) (l' := [some (gx_R _), some (gx_I _), some (gx_I _), some (gx_I _), some (gx_I _), some (gx_I _), some (gx_I _), none]) (by decide +kernel) rfl (Nat.le_of_ble_eq_true rfl) (by decide) rfl ?_
    exact gx_less' (y_MD_layStand_26 _ hN5 gx_fu _ _ _ _ _ _ _ _) ⟨rfl, rfl, rfl, rfl, rfl, rfl, rfl, trivial⟩
def f_MD_layStand_5 : Nat → gx_H → Nat → Int → Int → Int → Int → Option (Int × gx_H)
  | 0 => fun _ _ _ _ _ _ => none
  | fu + 1 => fb_MD_layStand_5 (f_MD_layStand_5 fu)
theorem y_MD_layStand_5 : ∀ (fu : Nat) (h : gx_H) (l0 : Nat) (l1 : Int) (l2 : Int) (l3 : Int) (l4 : Int), gx_Y gm_MD_layStand (0, 0) 5 [some (gx_R l0), some (gx_I l1), some (gx_I l2), some (gx_I l3), some (gx_I l4), none, none, none] [] h (f_MD_layStand_5 fu h l0 l1 l2 l3 l4) := by
  intro fu
  induction fu with
  | zero => intro h l0 l1 l2 l3 l4; exact gx_none
  | succ fu ih => intro h l0 l1 l2 l3 l4; exact yb_MD_layStand_5 (f_MD_layStand_5 fu) ih h l0 l1 l2 l3 l4
def f_MD_layStand (h : gx_H) (l0 : Nat) (l1 : Int) (l2 : Int) : Option (Int × gx_H) :=
  f_MD_layStand_5 gx_fu h l0 l1 l2 1 0
set_option maxHeartbeats 4000000 in
set_option maxRecDepth 100000 in
theorem c_MD_layStand (h : gx_H) (l0 : Nat) (l1 : Int) (l2 : Int) : ∀ r h1, f_MD_layStand h l0 l1 l2 = some (r, h1) → gx_Met gm_MD_layStand [gx_R l0, gx_I l1, gx_I l2] h r h1 := by
  refine gx_enter (l := [some (gx_R l0), some (gx_I l1), some (gx_I l2), none, none, none, none, none]) (by decide) (Nat.le_of_ble_eq_true rfl) rfl ?_
  unfold f_MD_layStand
  refine gx_iconst (n := 1) (by decide +kernel) ?_
  refine gx_istore_n (i := 3) (l' := [some (gx_R _), some (gx_I _), some (gx_I _), some (gx_I _), none, none, none, none]) (by decide +kernel) rfl (Nat.le_of_ble_eq_true rfl) (by decide) rfl ?_
  refine gx_iconst (n := 0) (by decide +kernel) ?_
  refine gx_istore (i := 4) (l' := [some (gx_R _), some (gx_I _), some (gx_I _), some (gx_I _), some (gx_I _), none, none, none]) (by decide +kernel) rfl (Nat.le_of_ble_eq_true rfl) (by decide) rfl ?_
  exact gx_less' (y_MD_layStand_5 gx_fu _ _ _ _ _ _) ⟨rfl, rfl, rfl, rfl, rfl, trivial⟩
def fb_MD_isSame_13 (N2 : gx_H → Nat → Int → Int → Int → Option (Int × gx_H)) (N13 : gx_H → Nat → Int → Int → Int → Int → Option (Int × gx_H)) (h : gx_H) (l0 : Nat) (l1 : Int) (l2 : Int) (l3 : Int) (l4 : Int) : Option (Int × gx_H) :=
  gq_get h l0 1 1 (fun v1 => gq_g (gx_i l4) (if l4 < v1 then gq_gr h l0 1 16 (fun o4 => gq_ald 0 h o4 ((16 * l1) + ((4 * l3) + l4)) (fun v5 => gq_gr h l0 1 16 (fun o7 => gq_ald 0 h o7 ((16 * l2) + ((4 * l3) + l4)) (fun v8 => if v5 = v8 then gq_gr h l0 1 17 (fun o10 => gq_ald 0 h o10 ((16 * l1) + ((4 * l3) + l4)) (fun v11 => gq_gr h l0 1 17 (fun o13 => gq_ald 0 h o13 ((16 * l2) + ((4 * l3) + l4)) (fun v14 => if v11 = v14 then N13 h l0 l1 l2 l3 (l4 + 1) else some (0, h))))) else some (0, h))))) else N2 h l0 l1 l2 (l3 + 1)))
set_option maxHeartbeats 4000000 in
set_option maxRecDepth 100000 in
theorem yb_MD_isSame_13 (N2 : gx_H → Nat → Int → Int → Int → Option (Int × gx_H)) (hN2 : ∀ (h : gx_H) (l0 : Nat) (l1 : Int) (l2 : Int) (l3 : Int), gx_Y gm_MD_isSame (0, 0) 2 [some (gx_R l0), some (gx_I l1), some (gx_I l2), some (gx_I l3), none, none] [] h (N2 h l0 l1 l2 l3)) (N13 : gx_H → Nat → Int → Int → Int → Int → Option (Int × gx_H)) (hN13 : ∀ (h : gx_H) (l0 : Nat) (l1 : Int) (l2 : Int) (l3 : Int) (l4 : Int), gx_Y gm_MD_isSame (0, 0) 13 [some (gx_R l0), some (gx_I l1), some (gx_I l2), some (gx_I l3), some (gx_I l4), none] [] h (N13 h l0 l1 l2 l3 l4)) (h : gx_H) (l0 : Nat) (l1 : Int) (l2 : Int) (l3 : Int) (l4 : Int) : gx_Y gm_MD_isSame (0, 0) 13 [some (gx_R l0), some (gx_I l1), some (gx_I l2), some (gx_I l3), some (gx_I l4), none] [] h (fb_MD_isSame_13 N2 N13 h l0 l1 l2 l3 l4) := by
  unfold fb_MD_isSame_13
  refine gx_iload (i := 4) (by decide +kernel) rfl ?_
  refine gx_aload_n (i := 0) (by decide +kernel) rfl ?_
  refine gx_geti gk_MD (by decide) fl_MD_13 (Or.inl rfl) (by decide +kernel) (fun c2 => ?_)
  refine gx_g (fun c3 => ?_)
  refine gx_icmp_ge (off := 73) (tgt := 92) c3 c2 (by decide +kernel) (by decide) ?_ ?_
  · refine gx_iinc (i := 3) (n := 1) (l' := [some (gx_R _), some (gx_I _), some (gx_I _), some (gx_I _), some (gx_I _), none]) (by decide +kernel) rfl rfl (Nat.le_of_ble_eq_true rfl) (by decide) rfl ?_
    refine gx_goto (off := -93) (tgt := 2) (by decide +kernel) (by decide) ?_
    exact gx_less' (hN2 _ _ _ _ _) ⟨rfl, rfl, rfl, rfl, trivial⟩
  · refine gx_iconst (n := 4) (by decide +kernel) ?_
    refine gx_iload_n (i := 3) (by decide +kernel) rfl ?_
    refine gx_imul (by decide +kernel) ?_
    refine gx_iload (i := 4) (by decide +kernel) rfl ?_
    refine gx_iadd (by decide +kernel) ?_
    refine gx_istore (i := 5) (l' := [some (gx_R _), some (gx_I _), some (gx_I _), some (gx_I _), some (gx_I _), some (gx_I _)]) (by decide +kernel) rfl (Nat.le_of_ble_eq_true rfl) (by decide) rfl ?_
    refine gx_aload_n (i := 0) (by decide +kernel) rfl ?_
    refine gx_getr gk_MD (by decide) fl_MD_35 rfl (by decide +kernel) ?_
    refine gx_bipush (n := 16) (by decide +kernel) (by decide) ?_
    refine gx_iload_n (i := 1) (by decide +kernel) rfl ?_
    refine gx_imul (by decide +kernel) ?_
    refine gx_iload (i := 5) (by decide +kernel) rfl ?_
    refine gx_iadd (by decide +kernel) ?_
    refine gx_ialdi (by decide +kernel) (fun c6 => ?_)
    refine gx_aload_n (i := 0) (by decide +kernel) rfl ?_
    refine gx_getr gk_MD (by decide) fl_MD_35 rfl (by decide +kernel) ?_
    refine gx_bipush (n := 16) (by decide +kernel) (by decide) ?_
    refine gx_iload_n (i := 2) (by decide +kernel) rfl ?_
    refine gx_imul (by decide +kernel) ?_
    refine gx_iload (i := 5) (by decide +kernel) rfl ?_
    refine gx_iadd (by decide +kernel) ?_
    refine gx_ialdi (by decide +kernel) (fun c9 => ?_)
    refine gx_icmp_ne (off := 30) (tgt := 84) c6 c9 (by decide +kernel) (by decide) ?_ ?_
    · refine gx_iconst (n := 0) (by decide +kernel) ?_
      exact gx_zreturn (by decide) rfl rfl (by decide +kernel)
    · refine gx_aload_n (i := 0) (by decide +kernel) rfl ?_
      refine gx_getr gk_MD (by decide) fl_MD_38 rfl (by decide +kernel) ?_
      refine gx_bipush (n := 16) (by decide +kernel) (by decide) ?_
      refine gx_iload_n (i := 1) (by decide +kernel) rfl ?_
      refine gx_imul (by decide +kernel) ?_
      refine gx_iload (i := 5) (by decide +kernel) rfl ?_
      refine gx_iadd (by decide +kernel) ?_
      refine gx_ialdi (by decide +kernel) (fun c12 => ?_)
      refine gx_aload_n (i := 0) (by decide +kernel) rfl ?_
      refine gx_getr gk_MD (by decide) fl_MD_38 rfl (by decide +kernel) ?_
      refine gx_bipush (n := 16) (by decide +kernel) (by decide) ?_
      refine gx_iload_n (i := 2) (by decide +kernel) rfl ?_
      refine gx_imul (by decide +kernel) ?_
      refine gx_iload (i := 5) (by decide +kernel) rfl ?_
      refine gx_iadd (by decide +kernel) ?_
      refine gx_ialdi (by decide +kernel) (fun c15 => ?_)
      refine gx_icmp_eq (off := 5) (tgt := 86) c12 c15 (by decide +kernel) (by decide) ?_ ?_
      · refine gx_iinc (i := 4) (n := 1) (l' := [some (gx_R _), some (gx_I _), some (gx_I _), some (gx_I _), some (gx_I _), some (gx_I _)]) (by decide +kernel) rfl rfl (Nat.le_of_ble_eq_true rfl) (by decide) rfl ?_
        refine gx_goto (off := -76) (tgt := 13) (by decide +kernel) (by decide) ?_
        exact gx_less' (hN13 _ _ _ _ _ _) ⟨rfl, rfl, rfl, rfl, rfl, trivial⟩
      · refine gx_iconst (n := 0) (by decide +kernel) ?_
        exact gx_zreturn (by decide) rfl rfl (by decide +kernel)
def f_MD_isSame_13 (N2 : gx_H → Nat → Int → Int → Int → Option (Int × gx_H)) : Nat → gx_H → Nat → Int → Int → Int → Int → Option (Int × gx_H)
  | 0 => fun _ _ _ _ _ _ => none
  | fu + 1 => fb_MD_isSame_13 N2 (f_MD_isSame_13 N2 fu)
theorem y_MD_isSame_13 (N2 : gx_H → Nat → Int → Int → Int → Option (Int × gx_H)) (hN2 : ∀ (h : gx_H) (l0 : Nat) (l1 : Int) (l2 : Int) (l3 : Int), gx_Y gm_MD_isSame (0, 0) 2 [some (gx_R l0), some (gx_I l1), some (gx_I l2), some (gx_I l3), none, none] [] h (N2 h l0 l1 l2 l3)) : ∀ (fu : Nat) (h : gx_H) (l0 : Nat) (l1 : Int) (l2 : Int) (l3 : Int) (l4 : Int), gx_Y gm_MD_isSame (0, 0) 13 [some (gx_R l0), some (gx_I l1), some (gx_I l2), some (gx_I l3), some (gx_I l4), none] [] h (f_MD_isSame_13 N2 fu h l0 l1 l2 l3 l4) := by
  intro fu
  induction fu with
  | zero => intro h l0 l1 l2 l3 l4; exact gx_none
  | succ fu ih => intro h l0 l1 l2 l3 l4; exact yb_MD_isSame_13 N2 hN2 (f_MD_isSame_13 N2 fu) ih h l0 l1 l2 l3 l4
def fb_MD_isSame_2 (N2 : gx_H → Nat → Int → Int → Int → Option (Int × gx_H)) (h : gx_H) (l0 : Nat) (l1 : Int) (l2 : Int) (l3 : Int) : Option (Int × gx_H) :=
  gq_get h l0 1 1 (fun v1 => gq_g (gx_i l3) (if l3 < v1 then f_MD_isSame_13 N2 gx_fu h l0 l1 l2 l3 0 else some (1, h)))
set_option maxHeartbeats 4000000 in
set_option maxRecDepth 100000 in
theorem yb_MD_isSame_2 (N2 : gx_H → Nat → Int → Int → Int → Option (Int × gx_H)) (hN2 : ∀ (h : gx_H) (l0 : Nat) (l1 : Int) (l2 : Int) (l3 : Int), gx_Y gm_MD_isSame (0, 0) 2 [some (gx_R l0), some (gx_I l1), some (gx_I l2), some (gx_I l3), none, none] [] h (N2 h l0 l1 l2 l3)) (h : gx_H) (l0 : Nat) (l1 : Int) (l2 : Int) (l3 : Int) : gx_Y gm_MD_isSame (0, 0) 2 [some (gx_R l0), some (gx_I l1), some (gx_I l2), some (gx_I l3), none, none] [] h (fb_MD_isSame_2 N2 h l0 l1 l2 l3) := by
  unfold fb_MD_isSame_2
  refine gx_iload_n (i := 3) (by decide +kernel) rfl ?_
  refine gx_aload_n (i := 0) (by decide +kernel) rfl ?_
  refine gx_geti gk_MD (by decide) fl_MD_13 (Or.inl rfl) (by decide +kernel) (fun c2 => ?_)
  refine gx_g (fun c3 => ?_)
  refine gx_icmp_ge (off := 91) (tgt := 98) c3 c2 (by decide +kernel) (by decide) ?_ ?_
  · refine gx_iconst (n := 1) (by decide +kernel) ?_
    exact gx_zreturn (by decide) rfl rfl (by decide +kernel)
  · refine gx_iconst (n := 0) (by decide +kernel) ?_
    refine gx_istore (i := 4) (l' := [some (gx_R _), some (gx_I _), some (gx_I _), some (gx_I _), some (gx_I _), none]) (by decide +kernel) rfl (Nat.le_of_ble_eq_true rfl) (by decide) rfl ?_
    exact gx_less' (y_MD_isSame_13 _ hN2 gx_fu _ _ _ _ _ _) ⟨rfl, rfl, rfl, rfl, rfl, trivial⟩
def f_MD_isSame_2 : Nat → gx_H → Nat → Int → Int → Int → Option (Int × gx_H)
  | 0 => fun _ _ _ _ _ => none
  | fu + 1 => fb_MD_isSame_2 (f_MD_isSame_2 fu)
theorem y_MD_isSame_2 : ∀ (fu : Nat) (h : gx_H) (l0 : Nat) (l1 : Int) (l2 : Int) (l3 : Int), gx_Y gm_MD_isSame (0, 0) 2 [some (gx_R l0), some (gx_I l1), some (gx_I l2), some (gx_I l3), none, none] [] h (f_MD_isSame_2 fu h l0 l1 l2 l3) := by
  intro fu
  induction fu with
  | zero => intro h l0 l1 l2 l3; exact gx_none
  | succ fu ih => intro h l0 l1 l2 l3; exact yb_MD_isSame_2 (f_MD_isSame_2 fu) ih h l0 l1 l2 l3
def f_MD_isSame (h : gx_H) (l0 : Nat) (l1 : Int) (l2 : Int) : Option (Int × gx_H) :=
  f_MD_isSame_2 gx_fu h l0 l1 l2 0
set_option maxHeartbeats 4000000 in
set_option maxRecDepth 100000 in
theorem c_MD_isSame (h : gx_H) (l0 : Nat) (l1 : Int) (l2 : Int) : ∀ r h1, f_MD_isSame h l0 l1 l2 = some (r, h1) → gx_Met gm_MD_isSame [gx_R l0, gx_I l1, gx_I l2] h r h1 := by
  refine gx_enter (l := [some (gx_R l0), some (gx_I l1), some (gx_I l2), none, none, none]) (by decide) (Nat.le_of_ble_eq_true rfl) rfl ?_
  unfold f_MD_isSame
  refine gx_iconst (n := 0) (by decide +kernel) ?_
  refine gx_istore_n (i := 3) (l' := [some (gx_R _), some (gx_I _), some (gx_I _), some (gx_I _), none, none]) (by decide +kernel) rfl (Nat.le_of_ble_eq_true rfl) (by decide) rfl ?_
  exact gx_less' (y_MD_isSame_2 gx_fu _ _ _ _ _) ⟨rfl, rfl, rfl, rfl, trivial⟩
def fb_MD_find_2 (N2 : gx_H → Nat → Int → Int → Option (Int × gx_H)) (h : gx_H) (l0 : Nat) (l1 : Int) (l2 : Int) : Option (Int × gx_H) :=
  gq_g (gx_i l2) (gq_g (gx_i l1) (if l2 < l1 then gq_cv h l0 1 (f_MD_isSame h l0 l1 l2) (fun r3 h4 => gq_g (gx_i r3) (if r3 = 0 then N2 h4 l0 l1 (l2 + 1) else some (l2, h4))) else some (l1, h)))
set_option maxHeartbeats 4000000 in
set_option maxRecDepth 100000 in
theorem yb_MD_find_2 (N2 : gx_H → Nat → Int → Int → Option (Int × gx_H)) (hN2 : ∀ (h : gx_H) (l0 : Nat) (l1 : Int) (l2 : Int), gx_Y gm_MD_find (0, 0) 2 [some (gx_R l0), some (gx_I l1), some (gx_I l2)] [] h (N2 h l0 l1 l2)) (h : gx_H) (l0 : Nat) (l1 : Int) (l2 : Int) : gx_Y gm_MD_find (0, 0) 2 [some (gx_R l0), some (gx_I l1), some (gx_I l2)] [] h (fb_MD_find_2 N2 h l0 l1 l2) := by
  unfold fb_MD_find_2
  refine gx_iload_n (i := 2) (by decide +kernel) rfl ?_
  refine gx_iload_n (i := 1) (by decide +kernel) rfl ?_
  refine gx_g (fun c1 => ?_)
  refine gx_g (fun c2 => ?_)
  refine gx_icmp_ge (off := 20) (tgt := 24) c1 c2 (by decide +kernel) (by decide) ?_ ?_
  · refine gx_iload_n (i := 1) (by decide +kernel) rfl ?_
    exact gx_ireturn rfl rfl (by decide +kernel)
  · refine gx_aload_n (i := 0) (by decide +kernel) rfl ?_
    refine gx_iload_n (i := 1) (by decide +kernel) rfl ?_
    refine gx_iload_n (i := 2) (by decide +kernel) rfl ?_
    refine gx_cVi2 (Mc := gm_MD_isSame) (u' := (0, 0)) (c_MD_isSame _ _ _ _) vk_MD_isSame ml_MD_147 rfl rfl ⟨by decide, by decide, by decide, by decide⟩ (Nat.le_of_ble_eq_true rfl) (by decide +kernel) (fun r3 h4 => ?_)
    refine gx_g (fun c5 => ?_)
    refine gx_if_eq (off := 5) (tgt := 18) c5 (by decide +kernel) (by decide) ?_ ?_
    · refine gx_iinc (i := 2) (n := 1) (l' := [some (gx_R _), some (gx_I _), some (gx_I _)]) (by decide +kernel) rfl rfl (Nat.le_of_ble_eq_true rfl) (by decide) rfl ?_
      refine gx_goto (off := -19) (tgt := 2) (by decide +kernel) (by decide) ?_
      exact gx_less' (hN2 _ _ _ _) ⟨rfl, rfl, rfl, trivial⟩
    · refine gx_iload_n (i := 2) (by decide +kernel) rfl ?_
      exact gx_ireturn rfl rfl (by decide +kernel)
def f_MD_find_2 : Nat → gx_H → Nat → Int → Int → Option (Int × gx_H)
  | 0 => fun _ _ _ _ => none
  | fu + 1 => fb_MD_find_2 (f_MD_find_2 fu)
theorem y_MD_find_2 : ∀ (fu : Nat) (h : gx_H) (l0 : Nat) (l1 : Int) (l2 : Int), gx_Y gm_MD_find (0, 0) 2 [some (gx_R l0), some (gx_I l1), some (gx_I l2)] [] h (f_MD_find_2 fu h l0 l1 l2) := by
  intro fu
  induction fu with
  | zero => intro h l0 l1 l2; exact gx_none
  | succ fu ih => intro h l0 l1 l2; exact yb_MD_find_2 (f_MD_find_2 fu) ih h l0 l1 l2
def f_MD_find (h : gx_H) (l0 : Nat) (l1 : Int) : Option (Int × gx_H) :=
  f_MD_find_2 gx_fu h l0 l1 0
set_option maxHeartbeats 4000000 in
set_option maxRecDepth 100000 in
theorem c_MD_find (h : gx_H) (l0 : Nat) (l1 : Int) : ∀ r h1, f_MD_find h l0 l1 = some (r, h1) → gx_Met gm_MD_find [gx_R l0, gx_I l1] h r h1 := by
  refine gx_enter (l := [some (gx_R l0), some (gx_I l1), none]) (by decide) (Nat.le_of_ble_eq_true rfl) rfl ?_
  unfold f_MD_find
  refine gx_iconst (n := 0) (by decide +kernel) ?_
  refine gx_istore_n (i := 2) (l' := [some (gx_R _), some (gx_I _), some (gx_I _)]) (by decide +kernel) rfl (Nat.le_of_ble_eq_true rfl) (by decide) rfl ?_
  exact gx_less' (y_MD_find_2 gx_fu _ _ _ _) ⟨rfl, rfl, rfl, trivial⟩
def fb_MD_unlay_12 (N2 : gx_H → Nat → Int → Int → Option (Int × gx_H)) (N12 : gx_H → Nat → Int → Int → Int → Option (Int × gx_H)) (h : gx_H) (l0 : Nat) (l1 : Int) (l2 : Int) (l3 : Int) : Option (Int × gx_H) :=
  gq_get h l0 1 1 (fun v1 => gq_g (gx_i l3) (if l3 < v1 then gq_gr h l0 1 0 (fun o4 => gq_gr h l0 1 16 (fun o5 => gq_ald 0 h o5 (((16 * l1) + (4 * l2)) + l3) (fun v6 => gq_ast 0 True h o4 ((1928 + (4 * l2)) + l3) v6 (fun h8 => gq_gr h8 l0 1 0 (fun o9 => gq_gr h8 l0 1 17 (fun o10 => gq_ald 0 h8 o10 (((16 * l1) + (4 * l2)) + l3) (fun v11 => gq_ast 0 True h8 o9 ((1944 + (4 * l2)) + l3) v11 (fun h13 => N12 h13 l0 l1 l2 (l3 + 1))))))))) else N2 h l0 l1 (l2 + 1)))
set_option maxHeartbeats 4000000 in
set_option maxRecDepth 100000 in
theorem yb_MD_unlay_12 (N2 : gx_H → Nat → Int → Int → Option (Int × gx_H)) (hN2 : ∀ (h : gx_H) (l0 : Nat) (l1 : Int) (l2 : Int), gx_Y gm_MD_unlay (0, 0) 2 [some (gx_R l0), some (gx_I l1), some (gx_I l2), none] [] h (N2 h l0 l1 l2)) (N12 : gx_H → Nat → Int → Int → Int → Option (Int × gx_H)) (hN12 : ∀ (h : gx_H) (l0 : Nat) (l1 : Int) (l2 : Int) (l3 : Int), gx_Y gm_MD_unlay (0, 0) 12 [some (gx_R l0), some (gx_I l1), some (gx_I l2), some (gx_I l3)] [] h (N12 h l0 l1 l2 l3)) (h : gx_H) (l0 : Nat) (l1 : Int) (l2 : Int) (l3 : Int) : gx_Y gm_MD_unlay (0, 0) 12 [some (gx_R l0), some (gx_I l1), some (gx_I l2), some (gx_I l3)] [] h (fb_MD_unlay_12 N2 N12 h l0 l1 l2 l3) := by
  unfold fb_MD_unlay_12
  refine gx_iload_n (i := 3) (by decide +kernel) rfl ?_
  refine gx_aload_n (i := 0) (by decide +kernel) rfl ?_
  refine gx_geti gk_MD (by decide) fl_MD_13 (Or.inl rfl) (by decide +kernel) (fun c2 => ?_)
  refine gx_g (fun c3 => ?_)
  refine gx_icmp_ge (off := 67) (tgt := 84) c3 c2 (by decide +kernel) (by decide) ?_ ?_
  · refine gx_iinc (i := 2) (n := 1) (l' := [some (gx_R _), some (gx_I _), some (gx_I _), some (gx_I _)]) (by decide +kernel) rfl rfl (Nat.le_of_ble_eq_true rfl) (by decide) rfl ?_
    refine gx_goto (off := -85) (tgt := 2) (by decide +kernel) (by decide) ?_
    exact gx_less' (hN2 _ _ _ _) ⟨rfl, rfl, rfl, trivial⟩
  · refine gx_aload_n (i := 0) (by decide +kernel) rfl ?_
    refine gx_getr gk_MD (by decide) fl_MD_7 rfl (by decide +kernel) ?_
    refine gx_sipush (n := 1928) (by decide +kernel) (by decide) ?_
    refine gx_iconst (n := 4) (by decide +kernel) ?_
    refine gx_iload_n (i := 2) (by decide +kernel) rfl ?_
    refine gx_imul (by decide +kernel) ?_
    refine gx_iadd (by decide +kernel) ?_
    refine gx_iload_n (i := 3) (by decide +kernel) rfl ?_
    refine gx_iadd (by decide +kernel) ?_
    refine gx_aload_n (i := 0) (by decide +kernel) rfl ?_
    refine gx_getr gk_MD (by decide) fl_MD_35 rfl (by decide +kernel) ?_
    refine gx_bipush (n := 16) (by decide +kernel) (by decide) ?_
    refine gx_iload_n (i := 1) (by decide +kernel) rfl ?_
    refine gx_imul (by decide +kernel) ?_
    refine gx_iconst (n := 4) (by decide +kernel) ?_
    refine gx_iload_n (i := 2) (by decide +kernel) rfl ?_
    refine gx_imul (by decide +kernel) ?_
    refine gx_iadd (by decide +kernel) ?_
    refine gx_iload_n (i := 3) (by decide +kernel) rfl ?_
    refine gx_iadd (by decide +kernel) ?_
    refine gx_ialdi (by decide +kernel) (fun c7 => ?_)
    refine gx_iastT c7 (by decide +kernel) ?_
    refine gx_aload_n (i := 0) (by decide +kernel) rfl ?_
    refine gx_getr gk_MD (by decide) fl_MD_7 rfl (by decide +kernel) ?_
    refine gx_sipush (n := 1944) (by decide +kernel) (by decide) ?_
    refine gx_iconst (n := 4) (by decide +kernel) ?_
    refine gx_iload_n (i := 2) (by decide +kernel) rfl ?_
    refine gx_imul (by decide +kernel) ?_
    refine gx_iadd (by decide +kernel) ?_
    refine gx_iload_n (i := 3) (by decide +kernel) rfl ?_
    refine gx_iadd (by decide +kernel) ?_
    refine gx_aload_n (i := 0) (by decide +kernel) rfl ?_
    refine gx_getr gk_MD (by decide) fl_MD_38 rfl (by decide +kernel) ?_
    refine gx_bipush (n := 16) (by decide +kernel) (by decide) ?_
    refine gx_iload_n (i := 1) (by decide +kernel) rfl ?_
    refine gx_imul (by decide +kernel) ?_
    refine gx_iconst (n := 4) (by decide +kernel) ?_
    refine gx_iload_n (i := 2) (by decide +kernel) rfl ?_
    refine gx_imul (by decide +kernel) ?_
    refine gx_iadd (by decide +kernel) ?_
    refine gx_iload_n (i := 3) (by decide +kernel) rfl ?_
    refine gx_iadd (by decide +kernel) ?_
    refine gx_ialdi (by decide +kernel) (fun c12 => ?_)
    refine gx_iastT c12 (by decide +kernel) ?_
    refine gx_iinc (i := 3) (n := 1) (l' := [some (gx_R _), some (gx_I _), some (gx_I _), some (gx_I _)]) (by decide +kernel) rfl rfl (Nat.le_of_ble_eq_true rfl) (by decide) rfl ?_
    refine gx_goto (off := -69) (tgt := 12) (by decide +kernel) (by decide) ?_
    exact gx_less' (hN12 _ _ _ _ _) ⟨rfl, rfl, rfl, rfl, trivial⟩
def f_MD_unlay_12 (N2 : gx_H → Nat → Int → Int → Option (Int × gx_H)) : Nat → gx_H → Nat → Int → Int → Int → Option (Int × gx_H)
  | 0 => fun _ _ _ _ _ => none
  | fu + 1 => fb_MD_unlay_12 N2 (f_MD_unlay_12 N2 fu)
theorem y_MD_unlay_12 (N2 : gx_H → Nat → Int → Int → Option (Int × gx_H)) (hN2 : ∀ (h : gx_H) (l0 : Nat) (l1 : Int) (l2 : Int), gx_Y gm_MD_unlay (0, 0) 2 [some (gx_R l0), some (gx_I l1), some (gx_I l2), none] [] h (N2 h l0 l1 l2)) : ∀ (fu : Nat) (h : gx_H) (l0 : Nat) (l1 : Int) (l2 : Int) (l3 : Int), gx_Y gm_MD_unlay (0, 0) 12 [some (gx_R l0), some (gx_I l1), some (gx_I l2), some (gx_I l3)] [] h (f_MD_unlay_12 N2 fu h l0 l1 l2 l3) := by
  intro fu
  induction fu with
  | zero => intro h l0 l1 l2 l3; exact gx_none
  | succ fu ih => intro h l0 l1 l2 l3; exact yb_MD_unlay_12 N2 hN2 (f_MD_unlay_12 N2 fu) ih h l0 l1 l2 l3
def fb_MD_unlay_2 (N2 : gx_H → Nat → Int → Int → Option (Int × gx_H)) (h : gx_H) (l0 : Nat) (l1 : Int) (l2 : Int) : Option (Int × gx_H) :=
  gq_get h l0 1 1 (fun v1 => gq_g (gx_i l2) (if l2 < v1 then f_MD_unlay_12 N2 gx_fu h l0 l1 l2 0 else some (0, h)))
set_option maxHeartbeats 4000000 in
set_option maxRecDepth 100000 in
theorem yb_MD_unlay_2 (N2 : gx_H → Nat → Int → Int → Option (Int × gx_H)) (hN2 : ∀ (h : gx_H) (l0 : Nat) (l1 : Int) (l2 : Int), gx_Y gm_MD_unlay (0, 0) 2 [some (gx_R l0), some (gx_I l1), some (gx_I l2), none] [] h (N2 h l0 l1 l2)) (h : gx_H) (l0 : Nat) (l1 : Int) (l2 : Int) : gx_Y gm_MD_unlay (0, 0) 2 [some (gx_R l0), some (gx_I l1), some (gx_I l2), none] [] h (fb_MD_unlay_2 N2 h l0 l1 l2) := by
  unfold fb_MD_unlay_2
  refine gx_iload_n (i := 2) (by decide +kernel) rfl ?_
  refine gx_aload_n (i := 0) (by decide +kernel) rfl ?_
  refine gx_geti gk_MD (by decide) fl_MD_13 (Or.inl rfl) (by decide +kernel) (fun c2 => ?_)
  refine gx_g (fun c3 => ?_)
  refine gx_icmp_ge (off := 83) (tgt := 90) c3 c2 (by decide +kernel) (by decide) ?_ ?_
  · exact gx_return rfl rfl (by decide +kernel)
  · refine gx_iconst (n := 0) (by decide +kernel) ?_
    refine gx_istore_n (i := 3) (l' := [some (gx_R _), some (gx_I _), some (gx_I _), some (gx_I _)]) (by decide +kernel) rfl (Nat.le_of_ble_eq_true rfl) (by decide) rfl ?_
    exact gx_less' (y_MD_unlay_12 _ hN2 gx_fu _ _ _ _ _) ⟨rfl, rfl, rfl, rfl, trivial⟩
def f_MD_unlay_2 : Nat → gx_H → Nat → Int → Int → Option (Int × gx_H)
  | 0 => fun _ _ _ _ => none
  | fu + 1 => fb_MD_unlay_2 (f_MD_unlay_2 fu)
theorem y_MD_unlay_2 : ∀ (fu : Nat) (h : gx_H) (l0 : Nat) (l1 : Int) (l2 : Int), gx_Y gm_MD_unlay (0, 0) 2 [some (gx_R l0), some (gx_I l1), some (gx_I l2), none] [] h (f_MD_unlay_2 fu h l0 l1 l2) := by
  intro fu
  induction fu with
  | zero => intro h l0 l1 l2; exact gx_none
  | succ fu ih => intro h l0 l1 l2; exact yb_MD_unlay_2 (f_MD_unlay_2 fu) ih h l0 l1 l2
def f_MD_unlay (h : gx_H) (l0 : Nat) (l1 : Int) : Option (Int × gx_H) :=
  f_MD_unlay_2 gx_fu h l0 l1 0
set_option maxHeartbeats 4000000 in
set_option maxRecDepth 100000 in
theorem c_MD_unlay (h : gx_H) (l0 : Nat) (l1 : Int) : ∀ r h1, f_MD_unlay h l0 l1 = some (r, h1) → gx_Met gm_MD_unlay [gx_R l0, gx_I l1] h r h1 := by
  refine gx_enter (l := [some (gx_R l0), some (gx_I l1), none, none]) (by decide) (Nat.le_of_ble_eq_true rfl) rfl ?_
  unfold f_MD_unlay
  refine gx_iconst (n := 0) (by decide +kernel) ?_
  refine gx_istore_n (i := 2) (l' := [some (gx_R _), some (gx_I _), some (gx_I _), none]) (by decide +kernel) rfl (Nat.le_of_ble_eq_true rfl) (by decide) rfl ?_
  exact gx_less' (y_MD_unlay_2 gx_fu _ _ _ _) ⟨rfl, rfl, rfl, trivial⟩
def fb_MD_steps_59 (N4 : gx_H → Nat → Int → Int → Int → Option (Int × gx_H)) (h : gx_H) (l0 : Nat) (l1 : Int) (l2 : Int) (l3 : Int) (t0 : Nat) (t1 : Int) (t2 : Int) : Option (Int × gx_H) :=
  gq_gr h l0 1 0 (fun o1 => gq_ald 0 h o1 ((1944 + (4 * l1)) + l3) (fun v2 => gq_ast 0 (gx_i (t2 - v2)) h t0 t1 (t2 - v2) (fun h4 => N4 h4 l0 l1 l2 (l3 + 1))))
set_option maxHeartbeats 4000000 in
set_option maxRecDepth 100000 in
theorem y_MD_steps_59 (N4 : gx_H → Nat → Int → Int → Int → Option (Int × gx_H)) (hN4 : ∀ (h : gx_H) (l0 : Nat) (l1 : Int) (l2 : Int) (l3 : Int), gx_Y gm_MD_steps (0, 0) 4 [some (gx_R l0), some (gx_I l1), some (gx_I l2), some (gx_I l3), none, none] [] h (N4 h l0 l1 l2 l3)) (h : gx_H) (l0 : Nat) (l1 : Int) (l2 : Int) (l3 : Int) (t0 : Nat) (t1 : Int) (t2 : Int) : gx_Y gm_MD_steps (0, 0) 59 [some (gx_R l0), some (gx_I l1), some (gx_I l2), some (gx_I l3), none, none] [gx_I t2, gx_I t1, gx_R t0] h (fb_MD_steps_59 N4 h l0 l1 l2 l3 t0 t1 t2) := by
  unfold fb_MD_steps_59
  refine gx_aload_n (i := 0) (by decide +kernel) rfl ?_
  refine gx_getr gk_MD (by decide) fl_MD_7 rfl (by decide +kernel) ?_
  refine gx_sipush (n := 1944) (by decide +kernel) (by decide) ?_
  refine gx_iconst (n := 4) (by decide +kernel) ?_
  refine gx_iload_n (i := 1) (by decide +kernel) rfl ?_
  refine gx_imul (by decide +kernel) ?_
  refine gx_iadd (by decide +kernel) ?_
  refine gx_iload_n (i := 3) (by decide +kernel) rfl ?_
  refine gx_iadd (by decide +kernel) ?_
  refine gx_ialdi (by decide +kernel) (fun c3 => ?_)
  refine gx_isub (by decide +kernel) ?_
  refine gx_iast (by decide +kernel) ?_
  refine gx_iinc (i := 3) (n := 1) (l' := [some (gx_R _), some (gx_I _), some (gx_I _), some (gx_I _), none, none]) (by decide +kernel) rfl rfl (Nat.le_of_ble_eq_true rfl) (by decide) rfl ?_
  refine gx_goto (off := -74) (tgt := 4) (by decide +kernel) (by decide) ?_
  exact gx_less' (hN4 _ _ _ _ _) ⟨rfl, rfl, rfl, rfl, trivial⟩
def fb_MD_steps_161 (N83 : gx_H → Nat → Int → Int → Int → Option (Int × gx_H)) (N94 : gx_H → Nat → Int → Int → Int → Int → Option (Int × gx_H)) (h : gx_H) (l0 : Nat) (l1 : Int) (l2 : Int) (l3 : Int) (l4 : Int) (t0 : Int) : Option (Int × gx_H) :=
  gq_gr h l0 1 23 (fun o1 => gq_ast 0 (gx_i t0) h o1 ((4 + (4 * l3)) + l4) t0 (fun h2 => N94 h2 l0 l1 l2 l3 (l4 + 1)))
set_option maxHeartbeats 4000000 in
set_option maxRecDepth 100000 in
theorem y_MD_steps_161 (N83 : gx_H → Nat → Int → Int → Int → Option (Int × gx_H)) (hN83 : ∀ (h : gx_H) (l0 : Nat) (l1 : Int) (l2 : Int) (l3 : Int), gx_Y gm_MD_steps (0, 0) 83 [some (gx_R l0), some (gx_I l1), some (gx_I l2), some (gx_I l3), none, none] [] h (N83 h l0 l1 l2 l3)) (N94 : gx_H → Nat → Int → Int → Int → Int → Option (Int × gx_H)) (hN94 : ∀ (h : gx_H) (l0 : Nat) (l1 : Int) (l2 : Int) (l3 : Int) (l4 : Int), gx_Y gm_MD_steps (0, 0) 94 [some (gx_R l0), some (gx_I l1), some (gx_I l2), some (gx_I l3), some (gx_I l4), none] [] h (N94 h l0 l1 l2 l3 l4)) (h : gx_H) (l0 : Nat) (l1 : Int) (l2 : Int) (l3 : Int) (l4 : Int) (t0 : Int) : gx_Y gm_MD_steps (0, 0) 161 [some (gx_R l0), some (gx_I l1), some (gx_I l2), some (gx_I l3), some (gx_I l4), none] [gx_I t0] h (fb_MD_steps_161 N83 N94 h l0 l1 l2 l3 l4 t0) := by
  unfold fb_MD_steps_161
  refine gx_istore (i := 5) (l' := [some (gx_R _), some (gx_I _), some (gx_I _), some (gx_I _), some (gx_I _), some (gx_I _)]) (by decide +kernel) rfl (Nat.le_of_ble_eq_true rfl) (by decide) rfl ?_
  refine gx_aload_n (i := 0) (by decide +kernel) rfl ?_
  refine gx_getr gk_MD (by decide) fl_MD_53 rfl (by decide +kernel) ?_
  refine gx_iconst (n := 4) (by decide +kernel) ?_
  refine gx_iconst (n := 4) (by decide +kernel) ?_
  refine gx_iload_n (i := 3) (by decide +kernel) rfl ?_
  refine gx_imul (by decide +kernel) ?_
  refine gx_iadd (by decide +kernel) ?_
  refine gx_iload (i := 4) (by decide +kernel) rfl ?_
  refine gx_iadd (by decide +kernel) ?_
  refine gx_iload (i := 5) (by decide +kernel) rfl ?_
  refine gx_iast (by decide +kernel) ?_
  refine gx_iinc (i := 4) (n := 1) (l' := [some (gx_R _), some (gx_I _), some (gx_I _), some (gx_I _), some (gx_I _), some (gx_I _)]) (by decide +kernel) rfl rfl (Nat.le_of_ble_eq_true rfl) (by decide) rfl ?_
  refine gx_goto (off := -87) (tgt := 94) (by decide +kernel) (by decide) ?_
  exact gx_less' (hN94 _ _ _ _ _ _) ⟨rfl, rfl, rfl, rfl, rfl, trivial⟩
def fb_MD_steps_114 (N83 : gx_H → Nat → Int → Int → Int → Option (Int × gx_H)) (N94 : gx_H → Nat → Int → Int → Int → Int → Option (Int × gx_H)) (h : gx_H) (l0 : Nat) (l1 : Int) (l2 : Int) (l3 : Int) (l4 : Int) : Option (Int × gx_H) :=
  gq_cv h l0 1 (f_MD_b h l0 1920 l3 l4) (fun r1 h2 => fb_MD_steps_161 N83 N94 h2 l0 l1 l2 l3 l4 (-r1))
set_option maxHeartbeats 4000000 in
set_option maxRecDepth 100000 in
theorem y_MD_steps_114 (N83 : gx_H → Nat → Int → Int → Int → Option (Int × gx_H)) (hN83 : ∀ (h : gx_H) (l0 : Nat) (l1 : Int) (l2 : Int) (l3 : Int), gx_Y gm_MD_steps (0, 0) 83 [some (gx_R l0), some (gx_I l1), some (gx_I l2), some (gx_I l3), none, none] [] h (N83 h l0 l1 l2 l3)) (N94 : gx_H → Nat → Int → Int → Int → Int → Option (Int × gx_H)) (hN94 : ∀ (h : gx_H) (l0 : Nat) (l1 : Int) (l2 : Int) (l3 : Int) (l4 : Int), gx_Y gm_MD_steps (0, 0) 94 [some (gx_R l0), some (gx_I l1), some (gx_I l2), some (gx_I l3), some (gx_I l4), none] [] h (N94 h l0 l1 l2 l3 l4)) (h : gx_H) (l0 : Nat) (l1 : Int) (l2 : Int) (l3 : Int) (l4 : Int) : gx_Y gm_MD_steps (0, 0) 114 [some (gx_R l0), some (gx_I l1), some (gx_I l2), some (gx_I l3), some (gx_I l4), none] [] h (fb_MD_steps_114 N83 N94 h l0 l1 l2 l3 l4) := by
  unfold fb_MD_steps_114
  refine gx_aload_n (i := 0) (by decide +kernel) rfl ?_
  refine gx_sipush (n := 1920) (by decide +kernel) (by decide) ?_
  refine gx_iload_n (i := 3) (by decide +kernel) rfl ?_
  refine gx_iload (i := 4) (by decide +kernel) rfl ?_
  refine gx_cVi3 (Mc := gm_MD_b) (u' := (0, 0)) (c_MD_b _ _ _ _ _) vk_MD_b ml_MD_72 rfl rfl ⟨by decide, by decide, by decide, by decide⟩ (Nat.le_of_ble_eq_true rfl) (by decide +kernel) (fun r1 h2 => ?_)
  refine gx_ineg (by decide +kernel) ?_
  refine gx_goto (off := 36) (tgt := 161) (by decide +kernel) (by decide) ?_
  exact gx_less' (y_MD_steps_161 _ hN83 _ hN94 _ _ _ _ _ _ _) ⟨rfl, rfl, rfl, rfl, rfl, trivial⟩
def fb_MD_steps_94 (N83 : gx_H → Nat → Int → Int → Int → Option (Int × gx_H)) (N94 : gx_H → Nat → Int → Int → Int → Int → Option (Int × gx_H)) (h : gx_H) (l0 : Nat) (l1 : Int) (l2 : Int) (l3 : Int) (l4 : Int) : Option (Int × gx_H) :=
  gq_get h l0 1 1 (fun v1 => gq_g (gx_i l4) (if l4 < v1 then gq_g (gx_i l3) (gq_g (gx_i l1) (if l3 = l1 then fb_MD_steps_114 N83 N94 h l0 l1 l2 l3 l4 else if l4 = l1 then fb_MD_steps_114 N83 N94 h l0 l1 l2 l3 l4 else gq_cv h l0 1 (f_MD_b h l0 1920 l3 l4) (fun r6 h7 => gq_cv h7 l0 1 (f_MD_b h7 l0 1920 l3 l1) (fun r8 h9 => gq_cv h9 l0 1 (f_MD_b h9 l0 1920 l1 l4) (fun r10 h11 => gq_call (f_MD_both h11 r8 r10) (fun r12 h13 => fb_MD_steps_161 N83 N94 h13 l0 l1 l2 l3 l4 (r6 + r12))))))) else N83 h l0 l1 l2 (l3 + 1)))
set_option maxHeartbeats 4000000 in
set_option maxRecDepth 100000 in
theorem yb_MD_steps_94 (N83 : gx_H → Nat → Int → Int → Int → Option (Int × gx_H)) (hN83 : ∀ (h : gx_H) (l0 : Nat) (l1 : Int) (l2 : Int) (l3 : Int), gx_Y gm_MD_steps (0, 0) 83 [some (gx_R l0), some (gx_I l1), some (gx_I l2), some (gx_I l3), none, none] [] h (N83 h l0 l1 l2 l3)) (N94 : gx_H → Nat → Int → Int → Int → Int → Option (Int × gx_H)) (hN94 : ∀ (h : gx_H) (l0 : Nat) (l1 : Int) (l2 : Int) (l3 : Int) (l4 : Int), gx_Y gm_MD_steps (0, 0) 94 [some (gx_R l0), some (gx_I l1), some (gx_I l2), some (gx_I l3), some (gx_I l4), none] [] h (N94 h l0 l1 l2 l3 l4)) (h : gx_H) (l0 : Nat) (l1 : Int) (l2 : Int) (l3 : Int) (l4 : Int) : gx_Y gm_MD_steps (0, 0) 94 [some (gx_R l0), some (gx_I l1), some (gx_I l2), some (gx_I l3), some (gx_I l4), none] [] h (fb_MD_steps_94 N83 N94 h l0 l1 l2 l3 l4) := by
  unfold fb_MD_steps_94
  refine gx_iload (i := 4) (by decide +kernel) rfl ?_
  refine gx_aload_n (i := 0) (by decide +kernel) rfl ?_
  refine gx_geti gk_MD (by decide) fl_MD_13 (Or.inl rfl) (by decide +kernel) (fun c2 => ?_)
  refine gx_g (fun c3 => ?_)
  refine gx_icmp_ge (off := 84) (tgt := 184) c3 c2 (by decide +kernel) (by decide) ?_ ?_
  · refine gx_iinc (i := 3) (n := 1) (l' := [some (gx_R _), some (gx_I _), some (gx_I _), some (gx_I _), some (gx_I _), none]) (by decide +kernel) rfl rfl (Nat.le_of_ble_eq_true rfl) (by decide) rfl ?_
    refine gx_goto (off := -104) (tgt := 83) (by decide +kernel) (by decide) ?_
    exact gx_less' (hN83 _ _ _ _ _) ⟨rfl, rfl, rfl, rfl, trivial⟩
  · refine gx_iload_n (i := 3) (by decide +kernel) rfl ?_
    refine gx_iload_n (i := 1) (by decide +kernel) rfl ?_
    refine gx_g (fun c4 => ?_)
    refine gx_g (fun c5 => ?_)
    refine gx_icmp_eq (off := 9) (tgt := 114) c4 c5 (by decide +kernel) (by decide) ?_ ?_
    · exact gx_less' (y_MD_steps_114 _ hN83 _ hN94 _ _ _ _ _ _) ⟨rfl, rfl, rfl, rfl, rfl, trivial⟩
    · refine gx_iload (i := 4) (by decide +kernel) rfl ?_
      refine gx_iload_n (i := 1) (by decide +kernel) rfl ?_
      refine gx_icmp_ne (off := 17) (tgt := 128) c3 c5 (by decide +kernel) (by decide) ?_ ?_
      · refine gx_aload_n (i := 0) (by decide +kernel) rfl ?_
        refine gx_sipush (n := 1920) (by decide +kernel) (by decide) ?_
        refine gx_iload_n (i := 3) (by decide +kernel) rfl ?_
        refine gx_iload (i := 4) (by decide +kernel) rfl ?_
        refine gx_cVi3 (Mc := gm_MD_b) (u' := (0, 0)) (c_MD_b _ _ _ _ _) vk_MD_b ml_MD_72 rfl rfl ⟨by decide, by decide, by decide, by decide⟩ (Nat.le_of_ble_eq_true rfl) (by decide +kernel) (fun r6 h7 => ?_)
        refine gx_aload_n (i := 0) (by decide +kernel) rfl ?_
        refine gx_sipush (n := 1920) (by decide +kernel) (by decide) ?_
        refine gx_iload_n (i := 3) (by decide +kernel) rfl ?_
        refine gx_iload_n (i := 1) (by decide +kernel) rfl ?_
        refine gx_cVi3 (Mc := gm_MD_b) (u' := (0, 0)) (c_MD_b _ _ _ _ _) vk_MD_b ml_MD_72 rfl rfl ⟨by decide, by decide, by decide, by decide⟩ (Nat.le_of_ble_eq_true rfl) (by decide +kernel) (fun r8 h9 => ?_)
        refine gx_aload_n (i := 0) (by decide +kernel) rfl ?_
        refine gx_sipush (n := 1920) (by decide +kernel) (by decide) ?_
        refine gx_iload_n (i := 1) (by decide +kernel) rfl ?_
        refine gx_iload (i := 4) (by decide +kernel) rfl ?_
        refine gx_cVi3 (Mc := gm_MD_b) (u' := (0, 0)) (c_MD_b _ _ _ _ _) vk_MD_b ml_MD_72 rfl rfl ⟨by decide, by decide, by decide, by decide⟩ (Nat.le_of_ble_eq_true rfl) (by decide +kernel) (fun r10 h11 => ?_)
        refine gx_cSi2 (Mc := gm_MD_both) (u' := (0, 0)) (c_MD_both _ _ _) sk_MD_both ml_MD_104 rfl rfl ⟨by decide, by decide, by decide, by decide⟩ (Nat.le_of_ble_eq_true rfl) (by decide +kernel) (fun r12 h13 => ?_)
        refine gx_iadd (by decide +kernel) ?_
        exact gx_less' (y_MD_steps_161 _ hN83 _ hN94 _ _ _ _ _ _ _) ⟨rfl, rfl, rfl, rfl, rfl, trivial⟩
      · exact gx_less' (y_MD_steps_114 _ hN83 _ hN94 _ _ _ _ _ _) ⟨rfl, rfl, rfl, rfl, rfl, trivial⟩
def f_MD_steps_94 (N83 : gx_H → Nat → Int → Int → Int → Option (Int × gx_H)) : Nat → gx_H → Nat → Int → Int → Int → Int → Option (Int × gx_H)
  | 0 => fun _ _ _ _ _ _ => none
  | fu + 1 => fb_MD_steps_94 N83 (f_MD_steps_94 N83 fu)
theorem y_MD_steps_94 (N83 : gx_H → Nat → Int → Int → Int → Option (Int × gx_H)) (hN83 : ∀ (h : gx_H) (l0 : Nat) (l1 : Int) (l2 : Int) (l3 : Int), gx_Y gm_MD_steps (0, 0) 83 [some (gx_R l0), some (gx_I l1), some (gx_I l2), some (gx_I l3), none, none] [] h (N83 h l0 l1 l2 l3)) : ∀ (fu : Nat) (h : gx_H) (l0 : Nat) (l1 : Int) (l2 : Int) (l3 : Int) (l4 : Int), gx_Y gm_MD_steps (0, 0) 94 [some (gx_R l0), some (gx_I l1), some (gx_I l2), some (gx_I l3), some (gx_I l4), none] [] h (f_MD_steps_94 N83 fu h l0 l1 l2 l3 l4) := by
  intro fu
  induction fu with
  | zero => intro h l0 l1 l2 l3 l4; exact gx_none
  | succ fu ih => intro h l0 l1 l2 l3 l4; exact yb_MD_steps_94 N83 hN83 (f_MD_steps_94 N83 fu) ih h l0 l1 l2 l3 l4
def fb_MD_steps_283 (N192 : gx_H → Nat → Int → Int → Int → Option (Int × gx_H)) (N235 : gx_H → Nat → Int → Int → Int → Int → Option (Int × gx_H)) (h : gx_H) (l0 : Nat) (l1 : Int) (l3 : Int) (l4 : Int) (t0 : Int) : Option (Int × gx_H) :=
  N235 h l0 l1 t0 l3 (l4 + 1)
set_option maxHeartbeats 4000000 in
set_option maxRecDepth 100000 in
theorem y_MD_steps_283 (N192 : gx_H → Nat → Int → Int → Int → Option (Int × gx_H)) (hN192 : ∀ (h : gx_H) (l0 : Nat) (l1 : Int) (l2 : Int) (l3 : Int), gx_Y gm_MD_steps (0, 0) 192 [some (gx_R l0), some (gx_I l1), some (gx_I l2), some (gx_I l3), none, none] [] h (N192 h l0 l1 l2 l3)) (N235 : gx_H → Nat → Int → Int → Int → Int → Option (Int × gx_H)) (hN235 : ∀ (h : gx_H) (l0 : Nat) (l1 : Int) (l2 : Int) (l3 : Int) (l4 : Int), gx_Y gm_MD_steps (0, 0) 235 [some (gx_R l0), some (gx_I l1), some (gx_I l2), some (gx_I l3), some (gx_I l4), none] [] h (N235 h l0 l1 l2 l3 l4)) (h : gx_H) (l0 : Nat) (l1 : Int) (l3 : Int) (l4 : Int) (t0 : Int) : gx_Y gm_MD_steps (0, 0) 283 [some (gx_R l0), some (gx_I l1), none, some (gx_I l3), some (gx_I l4), none] [gx_I t0] h (fb_MD_steps_283 N192 N235 h l0 l1 l3 l4 t0) := by
  unfold fb_MD_steps_283
  refine gx_istore_n (i := 2) (l' := [some (gx_R _), some (gx_I _), some (gx_I _), some (gx_I _), some (gx_I _), none]) (by decide +kernel) rfl (Nat.le_of_ble_eq_true rfl) (by decide) rfl ?_
  refine gx_iinc (i := 4) (n := 1) (l' := [some (gx_R _), some (gx_I _), some (gx_I _), some (gx_I _), some (gx_I _), none]) (by decide +kernel) rfl rfl (Nat.le_of_ble_eq_true rfl) (by decide) rfl ?_
  refine gx_goto (off := -52) (tgt := 235) (by decide +kernel) (by decide) ?_
  exact gx_less' (hN235 _ _ _ _ _ _) ⟨rfl, rfl, rfl, rfl, rfl, trivial⟩
def fb_MD_steps_282 (N192 : gx_H → Nat → Int → Int → Int → Option (Int × gx_H)) (N235 : gx_H → Nat → Int → Int → Int → Int → Option (Int × gx_H)) (h : gx_H) (l0 : Nat) (l1 : Int) (l3 : Int) (l4 : Int) : Option (Int × gx_H) :=
  fb_MD_steps_283 N192 N235 h l0 l1 l3 l4 0
set_option maxHeartbeats 4000000 in
set_option maxRecDepth 100000 in
theorem y_MD_steps_282 (N192 : gx_H → Nat → Int → Int → Int → Option (Int × gx_H)) (hN192 : ∀ (h : gx_H) (l0 : Nat) (l1 : Int) (l2 : Int) (l3 : Int), gx_Y gm_MD_steps (0, 0) 192 [some (gx_R l0), some (gx_I l1), some (gx_I l2), some (gx_I l3), none, none] [] h (N192 h l0 l1 l2 l3)) (N235 : gx_H → Nat → Int → Int → Int → Int → Option (Int × gx_H)) (hN235 : ∀ (h : gx_H) (l0 : Nat) (l1 : Int) (l2 : Int) (l3 : Int) (l4 : Int), gx_Y gm_MD_steps (0, 0) 235 [some (gx_R l0), some (gx_I l1), some (gx_I l2), some (gx_I l3), some (gx_I l4), none] [] h (N235 h l0 l1 l2 l3 l4)) (h : gx_H) (l0 : Nat) (l1 : Int) (l3 : Int) (l4 : Int) : gx_Y gm_MD_steps (0, 0) 282 [some (gx_R l0), some (gx_I l1), none, some (gx_I l3), some (gx_I l4), none] [] h (fb_MD_steps_282 N192 N235 h l0 l1 l3 l4) := by
  unfold fb_MD_steps_282
  refine gx_iconst (n := 0) (by decide +kernel) ?_
  exact gx_less' (y_MD_steps_283 _ hN192 _ hN235 _ _ _ _ _ _) ⟨rfl, rfl, rfl, rfl, trivial⟩
def fb_MD_steps_235 (N192 : gx_H → Nat → Int → Int → Int → Option (Int × gx_H)) (N235 : gx_H → Nat → Int → Int → Int → Int → Option (Int × gx_H)) (h : gx_H) (l0 : Nat) (l1 : Int) (l2 : Int) (l3 : Int) (l4 : Int) : Option (Int × gx_H) :=
  gq_get h l0 1 1 (fun v1 => gq_g (gx_i l4) (if l4 < v1 then gq_gr h l0 1 23 (fun o4 => gq_ald 0 h o4 ((4 + (4 * l3)) + l4) (fun v5 => gq_cv h l0 1 (f_MD_lay h l0 ((1928 + (4 * l3)) + l4) v5) (fun r7 h8 => gq_g (gx_i r7) (if r7 = 0 then fb_MD_steps_282 N192 N235 h8 l0 l1 l3 l4 else gq_g (gx_i l2) (if l2 = 0 then fb_MD_steps_282 N192 N235 h8 l0 l1 l3 l4 else fb_MD_steps_283 N192 N235 h8 l0 l1 l3 l4 1))))) else N192 h l0 l1 l2 (l3 + 1)))
set_option maxHeartbeats 4000000 in
set_option maxRecDepth 100000 in
theorem yb_MD_steps_235 (N192 : gx_H → Nat → Int → Int → Int → Option (Int × gx_H)) (hN192 : ∀ (h : gx_H) (l0 : Nat) (l1 : Int) (l2 : Int) (l3 : Int), gx_Y gm_MD_steps (0, 0) 192 [some (gx_R l0), some (gx_I l1), some (gx_I l2), some (gx_I l3), none, none] [] h (N192 h l0 l1 l2 l3)) (N235 : gx_H → Nat → Int → Int → Int → Int → Option (Int × gx_H)) (hN235 : ∀ (h : gx_H) (l0 : Nat) (l1 : Int) (l2 : Int) (l3 : Int) (l4 : Int), gx_Y gm_MD_steps (0, 0) 235 [some (gx_R l0), some (gx_I l1), some (gx_I l2), some (gx_I l3), some (gx_I l4), none] [] h (N235 h l0 l1 l2 l3 l4)) (h : gx_H) (l0 : Nat) (l1 : Int) (l2 : Int) (l3 : Int) (l4 : Int) : gx_Y gm_MD_steps (0, 0) 235 [some (gx_R l0), some (gx_I l1), some (gx_I l2), some (gx_I l3), some (gx_I l4), none] [] h (fb_MD_steps_235 N192 N235 h l0 l1 l2 l3 l4) := by
  unfold fb_MD_steps_235
  refine gx_iload (i := 4) (by decide +kernel) rfl ?_
  refine gx_aload_n (i := 0) (by decide +kernel) rfl ?_
  refine gx_geti gk_MD (by decide) fl_MD_13 (Or.inl rfl) (by decide +kernel) (fun c2 => ?_)
  refine gx_g (fun c3 => ?_)
  refine gx_icmp_ge (off := 49) (tgt := 290) c3 c2 (by decide +kernel) (by decide) ?_ ?_
  · refine gx_iinc (i := 3) (n := 1) (l' := [some (gx_R _), some (gx_I _), some (gx_I _), some (gx_I _), some (gx_I _), none]) (by decide +kernel) rfl rfl (Nat.le_of_ble_eq_true rfl) (by decide) rfl ?_
    refine gx_goto (off := -101) (tgt := 192) (by decide +kernel) (by decide) ?_
    exact gx_less' (hN192 _ _ _ _ _) ⟨rfl, rfl, rfl, rfl, trivial⟩
  · refine gx_aload_n (i := 0) (by decide +kernel) rfl ?_
    refine gx_sipush (n := 1928) (by decide +kernel) (by decide) ?_
    refine gx_iconst (n := 4) (by decide +kernel) ?_
    refine gx_iload_n (i := 3) (by decide +kernel) rfl ?_
    refine gx_imul (by decide +kernel) ?_
    refine gx_iadd (by decide +kernel) ?_
    refine gx_iload (i := 4) (by decide +kernel) rfl ?_
    refine gx_iadd (by decide +kernel) ?_
    refine gx_aload_n (i := 0) (by decide +kernel) rfl ?_
    refine gx_getr gk_MD (by decide) fl_MD_53 rfl (by decide +kernel) ?_
    refine gx_iconst (n := 4) (by decide +kernel) ?_
    refine gx_iconst (n := 4) (by decide +kernel) ?_
    refine gx_iload_n (i := 3) (by decide +kernel) rfl ?_
    refine gx_imul (by decide +kernel) ?_
    refine gx_iadd (by decide +kernel) ?_
    refine gx_iload (i := 4) (by decide +kernel) rfl ?_
    refine gx_iadd (by decide +kernel) ?_
    refine gx_ialdi (by decide +kernel) (fun c6 => ?_)
    refine gx_cVi2 (Mc := gm_MD_lay) (u' := (0, 0)) (c_MD_lay _ _ _ _) vk_MD_lay ml_MD_108 rfl rfl ⟨by decide, by decide, by decide, by decide⟩ (Nat.le_of_ble_eq_true rfl) (by decide +kernel) (fun r7 h8 => ?_)
    refine gx_g (fun c9 => ?_)
    refine gx_if_eq (off := 11) (tgt := 282) c9 (by decide +kernel) (by decide) ?_ ?_
    · exact gx_less' (y_MD_steps_282 _ hN192 _ hN235 _ _ _ _ _) ⟨rfl, rfl, rfl, rfl, trivial⟩
    · refine gx_iload_n (i := 2) (by decide +kernel) rfl ?_
      refine gx_g (fun c10 => ?_)
      refine gx_if_eq (off := 7) (tgt := 282) c10 (by decide +kernel) (by decide) ?_ ?_
      · exact gx_less' (y_MD_steps_282 _ hN192 _ hN235 _ _ _ _ _) ⟨rfl, rfl, rfl, rfl, trivial⟩
      · refine gx_iconst (n := 1) (by decide +kernel) ?_
        refine gx_goto (off := 4) (tgt := 283) (by decide +kernel) (by decide) ?_
        exact gx_less' (y_MD_steps_283 _ hN192 _ hN235 _ _ _ _ _ _) ⟨rfl, rfl, rfl, rfl, trivial⟩
def f_MD_steps_235 (N192 : gx_H → Nat → Int → Int → Int → Option (Int × gx_H)) : Nat → gx_H → Nat → Int → Int → Int → Int → Option (Int × gx_H)
  | 0 => fun _ _ _ _ _ _ => none
  | fu + 1 => fb_MD_steps_235 N192 (f_MD_steps_235 N192 fu)
theorem y_MD_steps_235 (N192 : gx_H → Nat → Int → Int → Int → Option (Int × gx_H)) (hN192 : ∀ (h : gx_H) (l0 : Nat) (l1 : Int) (l2 : Int) (l3 : Int), gx_Y gm_MD_steps (0, 0) 192 [some (gx_R l0), some (gx_I l1), some (gx_I l2), some (gx_I l3), none, none] [] h (N192 h l0 l1 l2 l3)) : ∀ (fu : Nat) (h : gx_H) (l0 : Nat) (l1 : Int) (l2 : Int) (l3 : Int) (l4 : Int), gx_Y gm_MD_steps (0, 0) 235 [some (gx_R l0), some (gx_I l1), some (gx_I l2), some (gx_I l3), some (gx_I l4), none] [] h (f_MD_steps_235 N192 fu h l0 l1 l2 l3 l4) := by
  intro fu
  induction fu with
  | zero => intro h l0 l1 l2 l3 l4; exact gx_none
  | succ fu ih => intro h l0 l1 l2 l3 l4; exact yb_MD_steps_235 N192 hN192 (f_MD_steps_235 N192 fu) ih h l0 l1 l2 l3 l4
def fb_MD_steps_231 (N192 : gx_H → Nat → Int → Int → Int → Option (Int × gx_H)) (h : gx_H) (l0 : Nat) (l1 : Int) (l3 : Int) (t0 : Int) : Option (Int × gx_H) :=
  f_MD_steps_235 N192 gx_fu h l0 l1 t0 l3 0
set_option maxHeartbeats 4000000 in
set_option maxRecDepth 100000 in
theorem y_MD_steps_231 (N192 : gx_H → Nat → Int → Int → Int → Option (Int × gx_H)) (hN192 : ∀ (h : gx_H) (l0 : Nat) (l1 : Int) (l2 : Int) (l3 : Int), gx_Y gm_MD_steps (0, 0) 192 [some (gx_R l0), some (gx_I l1), some (gx_I l2), some (gx_I l3), none, none] [] h (N192 h l0 l1 l2 l3)) (h : gx_H) (l0 : Nat) (l1 : Int) (l3 : Int) (t0 : Int) : gx_Y gm_MD_steps (0, 0) 231 [some (gx_R l0), some (gx_I l1), none, some (gx_I l3), none, none] [gx_I t0] h (fb_MD_steps_231 N192 h l0 l1 l3 t0) := by
  unfold fb_MD_steps_231
  refine gx_istore_n (i := 2) (l' := [some (gx_R _), some (gx_I _), some (gx_I _), some (gx_I _), none, none]) (by decide +kernel) rfl (Nat.le_of_ble_eq_true rfl) (by decide) rfl ?_
  refine gx_iconst (n := 0) (by decide +kernel) ?_
  refine gx_istore (i := 4) (l' := [some (gx_R _), some (gx_I _), some (gx_I _), some (gx_I _), some (gx_I _), none]) (by decide +kernel) rfl (Nat.le_of_ble_eq_true rfl) (by decide) rfl ?_
  exact gx_less' (y_MD_steps_235 _ hN192 gx_fu _ _ _ _ _ _) ⟨rfl, rfl, rfl, rfl, rfl, trivial⟩
def fb_MD_steps_230 (N192 : gx_H → Nat → Int → Int → Int → Option (Int × gx_H)) (h : gx_H) (l0 : Nat) (l1 : Int) (l3 : Int) : Option (Int × gx_H) :=
  fb_MD_steps_231 N192 h l0 l1 l3 0
set_option maxHeartbeats 4000000 in
set_option maxRecDepth 100000 in
theorem y_MD_steps_230 (N192 : gx_H → Nat → Int → Int → Int → Option (Int × gx_H)) (hN192 : ∀ (h : gx_H) (l0 : Nat) (l1 : Int) (l2 : Int) (l3 : Int), gx_Y gm_MD_steps (0, 0) 192 [some (gx_R l0), some (gx_I l1), some (gx_I l2), some (gx_I l3), none, none] [] h (N192 h l0 l1 l2 l3)) (h : gx_H) (l0 : Nat) (l1 : Int) (l3 : Int) : gx_Y gm_MD_steps (0, 0) 230 [some (gx_R l0), some (gx_I l1), none, some (gx_I l3), none, none] [] h (fb_MD_steps_230 N192 h l0 l1 l3) := by
  unfold fb_MD_steps_230
  refine gx_iconst (n := 0) (by decide +kernel) ?_
  exact gx_less' (y_MD_steps_231 _ hN192 _ _ _ _ _) ⟨rfl, rfl, rfl, trivial⟩
def fb_MD_steps_192 (N192 : gx_H → Nat → Int → Int → Int → Option (Int × gx_H)) (h : gx_H) (l0 : Nat) (l1 : Int) (l2 : Int) (l3 : Int) : Option (Int × gx_H) :=
  gq_get h l0 1 1 (fun v1 => gq_g (gx_i l3) (if l3 < v1 then gq_gr h l0 1 23 (fun o5 => gq_ald 0 h o5 l3 (fun v6 => gq_cv h l0 1 (f_MD_lay h l0 ((1944 + (4 * l1)) + l3) v6) (fun r8 h9 => gq_g (gx_i r8) (if r8 = 0 then fb_MD_steps_230 N192 h9 l0 l1 l3 else gq_g (gx_i l2) (if l2 = 0 then fb_MD_steps_230 N192 h9 l0 l1 l3 else fb_MD_steps_231 N192 h9 l0 l1 l3 1))))) else gq_g ((l2 : Int) = 0 ∨ (l2 : Int) = 1) (some (l2, h))))
set_option maxHeartbeats 4000000 in
set_option maxRecDepth 100000 in
theorem yb_MD_steps_192 (N192 : gx_H → Nat → Int → Int → Int → Option (Int × gx_H)) (hN192 : ∀ (h : gx_H) (l0 : Nat) (l1 : Int) (l2 : Int) (l3 : Int), gx_Y gm_MD_steps (0, 0) 192 [some (gx_R l0), some (gx_I l1), some (gx_I l2), some (gx_I l3), none, none] [] h (N192 h l0 l1 l2 l3)) (h : gx_H) (l0 : Nat) (l1 : Int) (l2 : Int) (l3 : Int) : gx_Y gm_MD_steps (0, 0) 192 [some (gx_R l0), some (gx_I l1), some (gx_I l2), some (gx_I l3), none, none] [] h (fb_MD_steps_192 N192 h l0 l1 l2 l3) := by
  unfold fb_MD_steps_192
  refine gx_iload_n (i := 3) (by decide +kernel) rfl ?_
  refine gx_aload_n (i := 0) (by decide +kernel) rfl ?_
  refine gx_geti gk_MD (by decide) fl_MD_13 (Or.inl rfl) (by decide +kernel) (fun c2 => ?_)
  refine gx_g (fun c3 => ?_)
  refine gx_icmp_ge (off := 99) (tgt := 296) c3 c2 (by decide +kernel) (by decide) ?_ ?_
  · refine gx_iload_n (i := 2) (by decide +kernel) rfl ?_
    refine gx_g (fun c4 => ?_)
    exact gx_zreturn c4 rfl rfl (by decide +kernel)
  · refine gx_aload_n (i := 0) (by decide +kernel) rfl ?_
    refine gx_sipush (n := 1944) (by decide +kernel) (by decide) ?_
    refine gx_iconst (n := 4) (by decide +kernel) ?_
    refine gx_iload_n (i := 1) (by decide +kernel) rfl ?_
    refine gx_imul (by decide +kernel) ?_
    refine gx_iadd (by decide +kernel) ?_
    refine gx_iload_n (i := 3) (by decide +kernel) rfl ?_
    refine gx_iadd (by decide +kernel) ?_
    refine gx_aload_n (i := 0) (by decide +kernel) rfl ?_
    refine gx_getr gk_MD (by decide) fl_MD_53 rfl (by decide +kernel) ?_
    refine gx_iload_n (i := 3) (by decide +kernel) rfl ?_
    refine gx_ialdi (by decide +kernel) (fun c7 => ?_)
    refine gx_cVi2 (Mc := gm_MD_lay) (u' := (0, 0)) (c_MD_lay _ _ _ _) vk_MD_lay ml_MD_108 rfl rfl ⟨by decide, by decide, by decide, by decide⟩ (Nat.le_of_ble_eq_true rfl) (by decide +kernel) (fun r8 h9 => ?_)
    refine gx_g (fun c10 => ?_)
    refine gx_if_eq (off := 11) (tgt := 230) c10 (by decide +kernel) (by decide) ?_ ?_
    · exact gx_less' (y_MD_steps_230 _ hN192 _ _ _ _) ⟨rfl, rfl, rfl, trivial⟩
    · refine gx_iload_n (i := 2) (by decide +kernel) rfl ?_
      refine gx_g (fun c11 => ?_)
      refine gx_if_eq (off := 7) (tgt := 230) c11 (by decide +kernel) (by decide) ?_ ?_
      · exact gx_less' (y_MD_steps_230 _ hN192 _ _ _ _) ⟨rfl, rfl, rfl, trivial⟩
      · refine gx_iconst (n := 1) (by decide +kernel) ?_
        refine gx_goto (off := 4) (tgt := 231) (by decide +kernel) (by decide) ?_
        exact gx_less' (y_MD_steps_231 _ hN192 _ _ _ _ _) ⟨rfl, rfl, rfl, trivial⟩
def f_MD_steps_192 : Nat → gx_H → Nat → Int → Int → Int → Option (Int × gx_H)
  | 0 => fun _ _ _ _ _ => none
  | fu + 1 => fb_MD_steps_192 (f_MD_steps_192 fu)
theorem y_MD_steps_192 : ∀ (fu : Nat) (h : gx_H) (l0 : Nat) (l1 : Int) (l2 : Int) (l3 : Int), gx_Y gm_MD_steps (0, 0) 192 [some (gx_R l0), some (gx_I l1), some (gx_I l2), some (gx_I l3), none, none] [] h (f_MD_steps_192 fu h l0 l1 l2 l3) := by
  intro fu
  induction fu with
  | zero => intro h l0 l1 l2 l3; exact gx_none
  | succ fu ih => intro h l0 l1 l2 l3; exact yb_MD_steps_192 (f_MD_steps_192 fu) ih h l0 l1 l2 l3
def fb_MD_steps_83 (N83 : gx_H → Nat → Int → Int → Int → Option (Int × gx_H)) (h : gx_H) (l0 : Nat) (l1 : Int) (l2 : Int) (l3 : Int) : Option (Int × gx_H) :=
  gq_get h l0 1 1 (fun v1 => gq_g (gx_i l3) (if l3 < v1 then f_MD_steps_94 N83 gx_fu h l0 l1 l2 l3 0 else f_MD_steps_192 gx_fu h l0 l1 l2 0))
set_option maxHeartbeats 4000000 in
set_option maxRecDepth 100000 in
theorem yb_MD_steps_83 (N83 : gx_H → Nat → Int → Int → Int → Option (Int × gx_H)) (hN83 : ∀ (h : gx_H) (l0 : Nat) (l1 : Int) (l2 : Int) (l3 : Int), gx_Y gm_MD_steps (0, 0) 83 [some (gx_R l0), some (gx_I l1), some (gx_I l2), some (gx_I l3), none, none] [] h (N83 h l0 l1 l2 l3)) (h : gx_H) (l0 : Nat) (l1 : Int) (l2 : Int) (l3 : Int) : gx_Y gm_MD_steps (0, 0) 83 [some (gx_R l0), some (gx_I l1), some (gx_I l2), some (gx_I l3), none, none] [] h (fb_MD_steps_83 N83 h l0 l1 l2 l3) := by
  unfold fb_MD_steps_83
  refine gx_iload_n (i := 3) (by decide +kernel) rfl ?_
  refine gx_aload_n (i := 0) (by decide +kernel) rfl ?_
  refine gx_geti gk_MD (by decide) fl_MD_13 (Or.inl rfl) (by decide +kernel) (fun c2 => ?_)
  refine gx_g (fun c3 => ?_)
  refine gx_icmp_ge (off := 102) (tgt := 190) c3 c2 (by decide +kernel) (by decide) ?_ ?_
  · refine gx_iconst (n := 0) (by decide +kernel) ?_
    refine gx_istore_n (i := 3) (l' := [some (gx_R _), some (gx_I _), some (gx_I _), some (gx_I _), none, none]) (by decide +kernel) rfl (Nat.le_of_ble_eq_true rfl) (by decide) rfl ?_
    exact gx_less' (y_MD_steps_192 gx_fu _ _ _ _ _) ⟨rfl, rfl, rfl, rfl, trivial⟩
  · refine gx_iconst (n := 0) (by decide +kernel) ?_
    refine gx_istore (i := 4) (l' := [some (gx_R _), some (gx_I _), some (gx_I _), some (gx_I _), some (gx_I _), none]) (by decide +kernel) rfl (Nat.le_of_ble_eq_true rfl) (by decide) rfl ?_
    exact gx_less' (y_MD_steps_94 _ hN83 gx_fu _ _ _ _ _ _) ⟨rfl, rfl, rfl, rfl, rfl, trivial⟩
def f_MD_steps_83 : Nat → gx_H → Nat → Int → Int → Int → Option (Int × gx_H)
  | 0 => fun _ _ _ _ _ => none
  | fu + 1 => fb_MD_steps_83 (f_MD_steps_83 fu)
theorem y_MD_steps_83 : ∀ (fu : Nat) (h : gx_H) (l0 : Nat) (l1 : Int) (l2 : Int) (l3 : Int), gx_Y gm_MD_steps (0, 0) 83 [some (gx_R l0), some (gx_I l1), some (gx_I l2), some (gx_I l3), none, none] [] h (f_MD_steps_83 fu h l0 l1 l2 l3) := by
  intro fu
  induction fu with
  | zero => intro h l0 l1 l2 l3; exact gx_none
  | succ fu ih => intro h l0 l1 l2 l3; exact yb_MD_steps_83 (f_MD_steps_83 fu) ih h l0 l1 l2 l3
def fb_MD_steps_4 (N4 : gx_H → Nat → Int → Int → Int → Option (Int × gx_H)) (h : gx_H) (l0 : Nat) (l1 : Int) (l2 : Int) (l3 : Int) : Option (Int × gx_H) :=
  gq_get h l0 1 1 (fun v1 => gq_g (gx_i l3) (if l3 < v1 then gq_cv h l0 1 (f_MD_gathered h l0 1920 l1 1 24 l3) (fun r4 h5 => gq_cv h5 l0 1 (f_MD_gathered h5 l0 1920 l1 (-1) 24 l3) (fun r6 h7 => gq_gr h7 l0 1 23 (fun o8 => gq_g (gx_i r4) (gq_g (gx_i r6) (if r6 < r4 then fb_MD_steps_59 N4 h7 l0 l1 l2 l3 o8 l3 r4 else fb_MD_steps_59 N4 h7 l0 l1 l2 l3 o8 l3 r6))))) else f_MD_steps_83 gx_fu h l0 l1 l2 0))
set_option maxHeartbeats 4000000 in
set_option maxRecDepth 100000 in
theorem yb_MD_steps_4 (N4 : gx_H → Nat → Int → Int → Int → Option (Int × gx_H)) (hN4 : ∀ (h : gx_H) (l0 : Nat) (l1 : Int) (l2 : Int) (l3 : Int), gx_Y gm_MD_steps (0, 0) 4 [some (gx_R l0), some (gx_I l1), some (gx_I l2), some (gx_I l3), none, none] [] h (N4 h l0 l1 l2 l3)) (h : gx_H) (l0 : Nat) (l1 : Int) (l2 : Int) (l3 : Int) : gx_Y gm_MD_steps (0, 0) 4 [some (gx_R l0), some (gx_I l1), some (gx_I l2), some (gx_I l3), none, none] [] h (fb_MD_steps_4 N4 h l0 l1 l2 l3) := by
  unfold fb_MD_steps_4
  refine gx_iload_n (i := 3) (by decide +kernel) rfl ?_
  refine gx_aload_n (i := 0) (by decide +kernel) rfl ?_
  refine gx_geti gk_MD (by decide) fl_MD_13 (Or.inl rfl) (by decide +kernel) (fun c2 => ?_)
  refine gx_g (fun c3 => ?_)
  refine gx_icmp_ge (off := 72) (tgt := 81) c3 c2 (by decide +kernel) (by decide) ?_ ?_
  · refine gx_iconst (n := 0) (by decide +kernel) ?_
    refine gx_istore_n (i := 3) (l' := [some (gx_R _), some (gx_I _), some (gx_I _), some (gx_I _), none, none]) (by decide +kernel) rfl (Nat.le_of_ble_eq_true rfl) (by decide) rfl ?_
    exact gx_less' (y_MD_steps_83 gx_fu _ _ _ _ _) ⟨rfl, rfl, rfl, rfl, trivial⟩
  · refine gx_aload_n (i := 0) (by decide +kernel) rfl ?_
    refine gx_sipush (n := 1920) (by decide +kernel) (by decide) ?_
    refine gx_iload_n (i := 1) (by decide +kernel) rfl ?_
    refine gx_iconst (n := 1) (by decide +kernel) ?_
    refine gx_bipush (n := 24) (by decide +kernel) (by decide) ?_
    refine gx_iload_n (i := 3) (by decide +kernel) rfl ?_
    refine gx_cVi5 (Mc := gm_MD_gathered) (u' := (0, 0)) (c_MD_gathered _ _ _ _ _ _ _) vk_MD_gathered ml_MD_112 rfl rfl ⟨by decide, by decide, by decide, by decide⟩ (Nat.le_of_ble_eq_true rfl) (by decide +kernel) (fun r4 h5 => ?_)
    refine gx_istore (i := 4) (l' := [some (gx_R _), some (gx_I _), some (gx_I _), some (gx_I _), some (gx_I _), none]) (by decide +kernel) rfl (Nat.le_of_ble_eq_true rfl) (by decide) rfl ?_
    refine gx_aload_n (i := 0) (by decide +kernel) rfl ?_
    refine gx_sipush (n := 1920) (by decide +kernel) (by decide) ?_
    refine gx_iload_n (i := 1) (by decide +kernel) rfl ?_
    refine gx_iconst (n := (-1)) (by decide +kernel) ?_
    refine gx_bipush (n := 24) (by decide +kernel) (by decide) ?_
    refine gx_iload_n (i := 3) (by decide +kernel) rfl ?_
    refine gx_cVi5 (Mc := gm_MD_gathered) (u' := (0, 0)) (c_MD_gathered _ _ _ _ _ _ _) vk_MD_gathered ml_MD_112 rfl rfl ⟨by decide, by decide, by decide, by decide⟩ (Nat.le_of_ble_eq_true rfl) (by decide +kernel) (fun r6 h7 => ?_)
    refine gx_istore (i := 5) (l' := [some (gx_R _), some (gx_I _), some (gx_I _), some (gx_I _), some (gx_I _), some (gx_I _)]) (by decide +kernel) rfl (Nat.le_of_ble_eq_true rfl) (by decide) rfl ?_
    refine gx_aload_n (i := 0) (by decide +kernel) rfl ?_
    refine gx_getr gk_MD (by decide) fl_MD_53 rfl (by decide +kernel) ?_
    refine gx_iload_n (i := 3) (by decide +kernel) rfl ?_
    refine gx_iload (i := 4) (by decide +kernel) rfl ?_
    refine gx_iload (i := 5) (by decide +kernel) rfl ?_
    refine gx_g (fun c9 => ?_)
    refine gx_g (fun c10 => ?_)
    refine gx_icmp_le (off := 8) (tgt := 57) c9 c10 (by decide +kernel) (by decide) ?_ ?_
    · refine gx_iload (i := 5) (by decide +kernel) rfl ?_
      exact gx_less' (y_MD_steps_59 _ hN4 _ _ _ _ _ _ _ _) ⟨rfl, rfl, rfl, rfl, trivial⟩
    · refine gx_iload (i := 4) (by decide +kernel) rfl ?_
      refine gx_goto (off := 5) (tgt := 59) (by decide +kernel) (by decide) ?_
      exact gx_less' (y_MD_steps_59 _ hN4 _ _ _ _ _ _ _ _) ⟨rfl, rfl, rfl, rfl, trivial⟩
def f_MD_steps_4 : Nat → gx_H → Nat → Int → Int → Int → Option (Int × gx_H)
  | 0 => fun _ _ _ _ _ => none
  | fu + 1 => fb_MD_steps_4 (f_MD_steps_4 fu)
theorem y_MD_steps_4 : ∀ (fu : Nat) (h : gx_H) (l0 : Nat) (l1 : Int) (l2 : Int) (l3 : Int), gx_Y gm_MD_steps (0, 0) 4 [some (gx_R l0), some (gx_I l1), some (gx_I l2), some (gx_I l3), none, none] [] h (f_MD_steps_4 fu h l0 l1 l2 l3) := by
  intro fu
  induction fu with
  | zero => intro h l0 l1 l2 l3; exact gx_none
  | succ fu ih => intro h l0 l1 l2 l3; exact yb_MD_steps_4 (f_MD_steps_4 fu) ih h l0 l1 l2 l3
def f_MD_steps (h : gx_H) (l0 : Nat) (l1 : Int) : Option (Int × gx_H) :=
  f_MD_steps_4 gx_fu h l0 l1 1 0
set_option maxHeartbeats 4000000 in
set_option maxRecDepth 100000 in
theorem c_MD_steps (h : gx_H) (l0 : Nat) (l1 : Int) : ∀ r h1, f_MD_steps h l0 l1 = some (r, h1) → gx_Met gm_MD_steps [gx_R l0, gx_I l1] h r h1 := by
  refine gx_enter (l := [some (gx_R l0), some (gx_I l1), none, none, none, none]) (by decide) (Nat.le_of_ble_eq_true rfl) rfl ?_
  unfold f_MD_steps
  refine gx_iconst (n := 1) (by decide +kernel) ?_
  refine gx_istore_n (i := 2) (l' := [some (gx_R _), some (gx_I _), some (gx_I _), none, none, none]) (by decide +kernel) rfl (Nat.le_of_ble_eq_true rfl) (by decide) rfl ?_
  refine gx_iconst (n := 0) (by decide +kernel) ?_
  refine gx_istore_n (i := 3) (l' := [some (gx_R _), some (gx_I _), some (gx_I _), some (gx_I _), none, none]) (by decide +kernel) rfl (Nat.le_of_ble_eq_true rfl) (by decide) rfl ?_
  exact gx_less' (y_MD_steps_4 gx_fu _ _ _ _ _) ⟨rfl, rfl, rfl, rfl, trivial⟩
