def fb_MD_leadBack_125 (N2 : gx_H → Nat → Int → Int → Int → Option (Int × gx_H)) (N15 : gx_H → Nat → Int → Int → Int → Int → Int → Option (Int × gx_H)) (N38 : gx_H → Nat → Int → Int → Int → Int → Int → Int → Int → Option (Int × gx_H)) (h : gx_H) (l0 : Nat) (l1 : Int) (l2 : Int) (l3 : Int) (l5 : Int) (l6 : Int) (l7 : Int) (t0 : Int) : Option (Int × gx_H) :=
  N38 h l0 l1 l2 l3 t0 l5 l6 (l7 + 1)
set_option maxHeartbeats 4000000 in
set_option maxRecDepth 100000 in
theorem y_MD_leadBack_125 (N2 : gx_H → Nat → Int → Int → Int → Option (Int × gx_H)) (hN2 : ∀ (h : gx_H) (l0 : Nat) (l1 : Int) (l2 : Int) (l3 : Int), gx_Y gm_MD_leadBack (0, 0) 2 [some (gx_R l0), some (gx_I l1), some (gx_I l2), some (gx_I l3), none, none, none, none, none] [] h (N2 h l0 l1 l2 l3)) (N15 : gx_H → Nat → Int → Int → Int → Int → Int → Option (Int × gx_H)) (hN15 : ∀ (h : gx_H) (l0 : Nat) (l1 : Int) (l2 : Int) (l3 : Int) (l4 : Int) (l5 : Int), gx_Y gm_MD_leadBack (0, 0) 15 [some (gx_R l0), some (gx_I l1), some (gx_I l2), some (gx_I l3), some (gx_I l4), some (gx_I l5), none, none, none] [] h (N15 h l0 l1 l2 l3 l4 l5)) (N38 : gx_H → Nat → Int → Int → Int → Int → Int → Int → Int → Option (Int × gx_H)) (hN38 : ∀ (h : gx_H) (l0 : Nat) (l1 : Int) (l2 : Int) (l3 : Int) (l4 : Int) (l5 : Int) (l6 : Int) (l7 : Int), gx_Y gm_MD_leadBack (0, 0) 38 [some (gx_R l0), some (gx_I l1), some (gx_I l2), some (gx_I l3), some (gx_I l4), some (gx_I l5), some (gx_I l6), some (gx_I l7), none] [] h (N38 h l0 l1 l2 l3 l4 l5 l6 l7)) (h : gx_H) (l0 : Nat) (l1 : Int) (l2 : Int) (l3 : Int) (l5 : Int) (l6 : Int) (l7 : Int) (t0 : Int) : gx_Y gm_MD_leadBack (0, 0) 125 [some (gx_R l0), some (gx_I l1), some (gx_I l2), some (gx_I l3), none, some (gx_I l5), some (gx_I l6), some (gx_I l7), none] [gx_I t0] h (fb_MD_leadBack_125 N2 N15 N38 h l0 l1 l2 l3 l5 l6 l7 t0) := by
  unfold fb_MD_leadBack_125
  refine gx_istore (i := 4) (l' := [some (gx_R _), some (gx_I _), some (gx_I _), some (gx_I _), some (gx_I _), some (gx_I _), some (gx_I _), some (gx_I _), none]) (by decide +kernel) rfl (Nat.le_of_ble_eq_true rfl) (by decide) rfl ?_
  refine gx_iinc (i := 7) (n := 1) (l' := [some (gx_R _), some (gx_I _), some (gx_I _), some (gx_I _), some (gx_I _), some (gx_I _), some (gx_I _), some (gx_I _), none]) (by decide +kernel) rfl rfl (Nat.le_of_ble_eq_true rfl) (by decide) rfl ?_
  refine gx_goto (off := -92) (tgt := 38) (by decide +kernel) (by decide) ?_
  exact gx_less' (hN38 _ _ _ _ _ _ _ _ _) ⟨rfl, rfl, rfl, rfl, rfl, rfl, rfl, rfl, trivial⟩
def fb_MD_leadBack_124 (N2 : gx_H → Nat → Int → Int → Int → Option (Int × gx_H)) (N15 : gx_H → Nat → Int → Int → Int → Int → Int → Option (Int × gx_H)) (N38 : gx_H → Nat → Int → Int → Int → Int → Int → Int → Int → Option (Int × gx_H)) (h : gx_H) (l0 : Nat) (l1 : Int) (l2 : Int) (l3 : Int) (l5 : Int) (l6 : Int) (l7 : Int) : Option (Int × gx_H) :=
  fb_MD_leadBack_125 N2 N15 N38 h l0 l1 l2 l3 l5 l6 l7 0
set_option maxHeartbeats 4000000 in
set_option maxRecDepth 100000 in
theorem y_MD_leadBack_124 (N2 : gx_H → Nat → Int → Int → Int → Option (Int × gx_H)) (hN2 : ∀ (h : gx_H) (l0 : Nat) (l1 : Int) (l2 : Int) (l3 : Int), gx_Y gm_MD_leadBack (0, 0) 2 [some (gx_R l0), some (gx_I l1), some (gx_I l2), some (gx_I l3), none, none, none, none, none] [] h (N2 h l0 l1 l2 l3)) (N15 : gx_H → Nat → Int → Int → Int → Int → Int → Option (Int × gx_H)) (hN15 : ∀ (h : gx_H) (l0 : Nat) (l1 : Int) (l2 : Int) (l3 : Int) (l4 : Int) (l5 : Int), gx_Y gm_MD_leadBack (0, 0) 15 [some (gx_R l0), some (gx_I l1), some (gx_I l2), some (gx_I l3), some (gx_I l4), some (gx_I l5), none, none, none] [] h (N15 h l0 l1 l2 l3 l4 l5)) (N38 : gx_H → Nat → Int → Int → Int → Int → Int → Int → Int → Option (Int × gx_H)) (hN38 : ∀ (h : gx_H) (l0 : Nat) (l1 : Int) (l2 : Int) (l3 : Int) (l4 : Int) (l5 : Int) (l6 : Int) (l7 : Int), gx_Y gm_MD_leadBack (0, 0) 38 [some (gx_R l0), some (gx_I l1), some (gx_I l2), some (gx_I l3), some (gx_I l4), some (gx_I l5), some (gx_I l6), some (gx_I l7), none] [] h (N38 h l0 l1 l2 l3 l4 l5 l6 l7)) (h : gx_H) (l0 : Nat) (l1 : Int) (l2 : Int) (l3 : Int) (l5 : Int) (l6 : Int) (l7 : Int) : gx_Y gm_MD_leadBack (0, 0) 124 [some (gx_R l0), some (gx_I l1), some (gx_I l2), some (gx_I l3), none, some (gx_I l5), some (gx_I l6), some (gx_I l7), none] [] h (fb_MD_leadBack_124 N2 N15 N38 h l0 l1 l2 l3 l5 l6 l7) := by
  unfold fb_MD_leadBack_124
  refine gx_iconst (n := 0) (by decide +kernel) ?_
  exact gx_less' (y_MD_leadBack_125 _ hN2 _ hN15 _ hN38 _ _ _ _ _ _ _ _ _) ⟨rfl, rfl, rfl, rfl, rfl, rfl, rfl, trivial⟩
def fb_MD_leadBack_38 (N2 : gx_H → Nat → Int → Int → Int → Option (Int × gx_H)) (N15 : gx_H → Nat → Int → Int → Int → Int → Int → Option (Int × gx_H)) (N38 : gx_H → Nat → Int → Int → Int → Int → Int → Int → Int → Option (Int × gx_H)) (h : gx_H) (l0 : Nat) (l1 : Int) (l2 : Int) (l3 : Int) (l4 : Int) (l5 : Int) (l6 : Int) (l7 : Int) : Option (Int × gx_H) :=
  gq_get h l0 1 1 (fun v1 => gq_g (gx_i l7) (if l7 < v1 then gq_g (gx_i l4) (if l4 = 0 then fb_MD_leadBack_124 N2 N15 N38 h l0 l1 l2 l3 l5 l6 l7 else gq_gr h l0 1 16 (fun o5 => gq_ald 0 h o5 (((16 * l3) + (4 * l5)) + l7) (fun v6 => gq_cv h l0 1 (f_MD_rankedAt h l0 1920 l7) (fun r8 h9 => gq_cv h9 l0 1 (f_MD_b h9 l0 1920 l6 r8) (fun r10 h11 => gq_g (gx_i r10) (if v6 = r10 then gq_gr h11 l0 1 17 (fun o13 => gq_ald 0 h11 o13 (((16 * l3) + (4 * l5)) + l7) (fun v14 => gq_gr h11 l0 1 0 (fun o16 => gq_ald 0 h11 o16 ((1944 + (4 * l6)) + l7) (fun v17 => if v14 = v17 then fb_MD_leadBack_125 N2 N15 N38 h11 l0 l1 l2 l3 l5 l6 l7 1 else fb_MD_leadBack_124 N2 N15 N38 h11 l0 l1 l2 l3 l5 l6 l7)))) else fb_MD_leadBack_124 N2 N15 N38 h11 l0 l1 l2 l3 l5 l6 l7)))))) else N15 h l0 l1 l2 l3 l4 (l5 + 1)))
set_option maxHeartbeats 4000000 in
set_option maxRecDepth 100000 in
theorem yb_MD_leadBack_38 (N2 : gx_H → Nat → Int → Int → Int → Option (Int × gx_H)) (hN2 : ∀ (h : gx_H) (l0 : Nat) (l1 : Int) (l2 : Int) (l3 : Int), gx_Y gm_MD_leadBack (0, 0) 2 [some (gx_R l0), some (gx_I l1), some (gx_I l2), some (gx_I l3), none, none, none, none, none] [] h (N2 h l0 l1 l2 l3)) (N15 : gx_H → Nat → Int → Int → Int → Int → Int → Option (Int × gx_H)) (hN15 : ∀ (h : gx_H) (l0 : Nat) (l1 : Int) (l2 : Int) (l3 : Int) (l4 : Int) (l5 : Int), gx_Y gm_MD_leadBack (0, 0) 15 [some (gx_R l0), some (gx_I l1), some (gx_I l2), some (gx_I l3), some (gx_I l4), some (gx_I l5), none, none, none] [] h (N15 h l0 l1 l2 l3 l4 l5)) (N38 : gx_H → Nat → Int → Int → Int → Int → Int → Int → Int → Option (Int × gx_H)) (hN38 : ∀ (h : gx_H) (l0 : Nat) (l1 : Int) (l2 : Int) (l3 : Int) (l4 : Int) (l5 : Int) (l6 : Int) (l7 : Int), gx_Y gm_MD_leadBack (0, 0) 38 [some (gx_R l0), some (gx_I l1), some (gx_I l2), some (gx_I l3), some (gx_I l4), some (gx_I l5), some (gx_I l6), some (gx_I l7), none] [] h (N38 h l0 l1 l2 l3 l4 l5 l6 l7)) (h : gx_H) (l0 : Nat) (l1 : Int) (l2 : Int) (l3 : Int) (l4 : Int) (l5 : Int) (l6 : Int) (l7 : Int) : gx_Y gm_MD_leadBack (0, 0) 38 [some (gx_R l0), some (gx_I l1), some (gx_I l2), some (gx_I l3), some (gx_I l4), some (gx_I l5), some (gx_I l6), some (gx_I l7), none] [] h (fb_MD_leadBack_38 N2 N15 N38 h l0 l1 l2 l3 l4 l5 l6 l7) := by
  unfold fb_MD_leadBack_38
  refine gx_iload (i := 7) (by decide +kernel) rfl ?_
  refine gx_aload_n (i := 0) (by decide +kernel) rfl ?_
  refine gx_geti gk_MD (by decide) fl_MD_13 (Or.inl rfl) (by decide +kernel) (fun c2 => ?_)
  refine gx_g (fun c3 => ?_)
  refine gx_icmp_ge (off := 89) (tgt := 133) c3 c2 (by decide +kernel) (by decide) ?_ ?_
  · refine gx_iinc (i := 5) (n := 1) (l' := [some (gx_R _), some (gx_I _), some (gx_I _), some (gx_I _), some (gx_I _), some (gx_I _), some (gx_I _), some (gx_I _), none]) (by decide +kernel) rfl rfl (Nat.le_of_ble_eq_true rfl) (by decide) rfl ?_
    refine gx_goto (off := -121) (tgt := 15) (by decide +kernel) (by decide) ?_
    exact gx_less' (hN15 _ _ _ _ _ _ _) ⟨rfl, rfl, rfl, rfl, rfl, rfl, trivial⟩
  · refine gx_bipush (n := 16) (by decide +kernel) (by decide) ?_
    refine gx_iload_n (i := 3) (by decide +kernel) rfl ?_
    refine gx_imul (by decide +kernel) ?_
    refine gx_iconst (n := 4) (by decide +kernel) ?_
    refine gx_iload (i := 5) (by decide +kernel) rfl ?_
    refine gx_imul (by decide +kernel) ?_
    refine gx_iadd (by decide +kernel) ?_
    refine gx_iload (i := 7) (by decide +kernel) rfl ?_
    refine gx_iadd (by decide +kernel) ?_
    refine gx_istore (i := 8) (l' := [some (gx_R _), some (gx_I _), some (gx_I _), some (gx_I _), some (gx_I _), some (gx_I _), some (gx_I _), some (gx_I _), some (gx_I _)]) (by decide +kernel) rfl (Nat.le_of_ble_eq_true rfl) (by decide) rfl ?_
    refine gx_iload (i := 4) (by decide +kernel) rfl ?_
    refine gx_g (fun c4 => ?_)
    refine gx_if_eq (off := 61) (tgt := 124) c4 (by decide +kernel) (by decide) ?_ ?_
    · exact gx_less' (y_MD_leadBack_124 _ hN2 _ hN15 _ hN38 _ _ _ _ _ _ _ _) ⟨rfl, rfl, rfl, rfl, rfl, rfl, rfl, trivial⟩
    · refine gx_aload_n (i := 0) (by decide +kernel) rfl ?_
      refine gx_getr gk_MD (by decide) fl_MD_35 rfl (by decide +kernel) ?_
      refine gx_iload (i := 8) (by decide +kernel) rfl ?_
      refine gx_ialdi (by decide +kernel) (fun c7 => ?_)
      refine gx_aload_n (i := 0) (by decide +kernel) rfl ?_
      refine gx_sipush (n := 1920) (by decide +kernel) (by decide) ?_
      refine gx_iload (i := 6) (by decide +kernel) rfl ?_
      refine gx_aload_n (i := 0) (by decide +kernel) rfl ?_
      refine gx_sipush (n := 1920) (by decide +kernel) (by decide) ?_
      refine gx_iload (i := 7) (by decide +kernel) rfl ?_
      refine gx_cVi2 (Mc := gm_MD_rankedAt) (u' := (0, 0)) (c_MD_rankedAt _ _ _ _) vk_MD_rankedAt ml_MD_144 rfl rfl ⟨by decide, by decide, by decide, by decide⟩ (Nat.le_of_ble_eq_true rfl) (by decide +kernel) (fun r8 h9 => ?_)
      refine gx_cVi3 (Mc := gm_MD_b) (u' := (0, 0)) (c_MD_b _ _ _ _ _) vk_MD_b ml_MD_72 rfl rfl ⟨by decide, by decide, by decide, by decide⟩ (Nat.le_of_ble_eq_true rfl) (by decide +kernel) (fun r10 h11 => ?_)
      refine gx_g (fun c12 => ?_)
      refine gx_icmp_ne (off := 33) (tgt := 124) c7 c12 (by decide +kernel) (by decide) ?_ ?_
      · exact gx_less' (y_MD_leadBack_124 _ hN2 _ hN15 _ hN38 _ _ _ _ _ _ _ _) ⟨rfl, rfl, rfl, rfl, rfl, rfl, rfl, trivial⟩
      · refine gx_aload_n (i := 0) (by decide +kernel) rfl ?_
        refine gx_getr gk_MD (by decide) fl_MD_38 rfl (by decide +kernel) ?_
        refine gx_iload (i := 8) (by decide +kernel) rfl ?_
        refine gx_ialdi (by decide +kernel) (fun c15 => ?_)
        refine gx_aload_n (i := 0) (by decide +kernel) rfl ?_
        refine gx_getr gk_MD (by decide) fl_MD_7 rfl (by decide +kernel) ?_
        refine gx_sipush (n := 1944) (by decide +kernel) (by decide) ?_
        refine gx_iconst (n := 4) (by decide +kernel) ?_
        refine gx_iload (i := 6) (by decide +kernel) rfl ?_
        refine gx_imul (by decide +kernel) ?_
        refine gx_iadd (by decide +kernel) ?_
        refine gx_iload (i := 7) (by decide +kernel) rfl ?_
        refine gx_iadd (by decide +kernel) ?_
        refine gx_ialdi (by decide +kernel) (fun c18 => ?_)
        refine gx_icmp_ne (off := 7) (tgt := 124) c15 c18 (by decide +kernel) (by decide) ?_ ?_
        · exact gx_less' (y_MD_leadBack_124 _ hN2 _ hN15 _ hN38 _ _ _ _ _ _ _ _) ⟨rfl, rfl, rfl, rfl, rfl, rfl, rfl, trivial⟩
        · refine gx_iconst (n := 1) (by decide +kernel) ?_
          refine gx_goto (off := 4) (tgt := 125) (by decide +kernel) (by decide) ?_
          exact gx_less' (y_MD_leadBack_125 _ hN2 _ hN15 _ hN38 _ _ _ _ _ _ _ _ _) ⟨rfl, rfl, rfl, rfl, rfl, rfl, rfl, trivial⟩
def f_MD_leadBack_38 (N2 : gx_H → Nat → Int → Int → Int → Option (Int × gx_H)) (N15 : gx_H → Nat → Int → Int → Int → Int → Int → Option (Int × gx_H)) : Nat → gx_H → Nat → Int → Int → Int → Int → Int → Int → Int → Option (Int × gx_H)
  | 0 => fun _ _ _ _ _ _ _ _ _ => none
  | fu + 1 => fb_MD_leadBack_38 N2 N15 (f_MD_leadBack_38 N2 N15 fu)
theorem y_MD_leadBack_38 (N2 : gx_H → Nat → Int → Int → Int → Option (Int × gx_H)) (hN2 : ∀ (h : gx_H) (l0 : Nat) (l1 : Int) (l2 : Int) (l3 : Int), gx_Y gm_MD_leadBack (0, 0) 2 [some (gx_R l0), some (gx_I l1), some (gx_I l2), some (gx_I l3), none, none, none, none, none] [] h (N2 h l0 l1 l2 l3)) (N15 : gx_H → Nat → Int → Int → Int → Int → Int → Option (Int × gx_H)) (hN15 : ∀ (h : gx_H) (l0 : Nat) (l1 : Int) (l2 : Int) (l3 : Int) (l4 : Int) (l5 : Int), gx_Y gm_MD_leadBack (0, 0) 15 [some (gx_R l0), some (gx_I l1), some (gx_I l2), some (gx_I l3), some (gx_I l4), some (gx_I l5), none, none, none] [] h (N15 h l0 l1 l2 l3 l4 l5)) : ∀ (fu : Nat) (h : gx_H) (l0 : Nat) (l1 : Int) (l2 : Int) (l3 : Int) (l4 : Int) (l5 : Int) (l6 : Int) (l7 : Int), gx_Y gm_MD_leadBack (0, 0) 38 [some (gx_R l0), some (gx_I l1), some (gx_I l2), some (gx_I l3), some (gx_I l4), some (gx_I l5), some (gx_I l6), some (gx_I l7), none] [] h (f_MD_leadBack_38 N2 N15 fu h l0 l1 l2 l3 l4 l5 l6 l7) := by
  intro fu
  induction fu with
  | zero => intro h l0 l1 l2 l3 l4 l5 l6 l7; exact gx_none
  | succ fu ih => intro h l0 l1 l2 l3 l4 l5 l6 l7; exact yb_MD_leadBack_38 N2 hN2 N15 hN15 (f_MD_leadBack_38 N2 N15 fu) ih h l0 l1 l2 l3 l4 l5 l6 l7
def fb_MD_leadBack_15 (N2 : gx_H → Nat → Int → Int → Int → Option (Int × gx_H)) (N15 : gx_H → Nat → Int → Int → Int → Int → Int → Option (Int × gx_H)) (h : gx_H) (l0 : Nat) (l1 : Int) (l2 : Int) (l3 : Int) (l4 : Int) (l5 : Int) : Option (Int × gx_H) :=
  gq_get h l0 1 1 (fun v1 => gq_g (gx_i l5) (if l5 < v1 then gq_cv h l0 1 (f_MD_rankedAt h l0 1920 l5) (fun r7 h8 => f_MD_leadBack_38 N2 N15 gx_fu h8 l0 l1 l2 l3 l4 l5 r7 0) else gq_g (gx_i l4) (if l4 = 0 then N2 h l0 l1 l2 (l3 + 1) else gq_gr h l0 1 18 (fun o5 => gq_ast 0 (gx_i l3) h o5 ((4 * l1) + l2) l3 (fun h6 => some (1, h6))))))
set_option maxHeartbeats 4000000 in
set_option maxRecDepth 100000 in
theorem yb_MD_leadBack_15 (N2 : gx_H → Nat → Int → Int → Int → Option (Int × gx_H)) (hN2 : ∀ (h : gx_H) (l0 : Nat) (l1 : Int) (l2 : Int) (l3 : Int), gx_Y gm_MD_leadBack (0, 0) 2 [some (gx_R l0), some (gx_I l1), some (gx_I l2), some (gx_I l3), none, none, none, none, none] [] h (N2 h l0 l1 l2 l3)) (N15 : gx_H → Nat → Int → Int → Int → Int → Int → Option (Int × gx_H)) (hN15 : ∀ (h : gx_H) (l0 : Nat) (l1 : Int) (l2 : Int) (l3 : Int) (l4 : Int) (l5 : Int), gx_Y gm_MD_leadBack (0, 0) 15 [some (gx_R l0), some (gx_I l1), some (gx_I l2), some (gx_I l3), some (gx_I l4), some (gx_I l5), none, none, none] [] h (N15 h l0 l1 l2 l3 l4 l5)) (h : gx_H) (l0 : Nat) (l1 : Int) (l2 : Int) (l3 : Int) (l4 : Int) (l5 : Int) : gx_Y gm_MD_leadBack (0, 0) 15 [some (gx_R l0), some (gx_I l1), some (gx_I l2), some (gx_I l3), some (gx_I l4), some (gx_I l5), none, none, none] [] h (fb_MD_leadBack_15 N2 N15 h l0 l1 l2 l3 l4 l5) := by
  unfold fb_MD_leadBack_15
  refine gx_iload (i := 5) (by decide +kernel) rfl ?_
  refine gx_aload_n (i := 0) (by decide +kernel) rfl ?_
  refine gx_geti gk_MD (by decide) fl_MD_13 (Or.inl rfl) (by decide +kernel) (fun c2 => ?_)
  refine gx_g (fun c3 => ?_)
  refine gx_icmp_ge (off := 118) (tgt := 139) c3 c2 (by decide +kernel) (by decide) ?_ ?_
  · refine gx_iload (i := 4) (by decide +kernel) rfl ?_
    refine gx_g (fun c4 => ?_)
    refine gx_if_eq (off := 16) (tgt := 157) c4 (by decide +kernel) (by decide) ?_ ?_
    · refine gx_iinc (i := 3) (n := 1) (l' := [some (gx_R _), some (gx_I _), some (gx_I _), some (gx_I _), some (gx_I _), some (gx_I _), none, none, none]) (by decide +kernel) rfl rfl (Nat.le_of_ble_eq_true rfl) (by decide) rfl ?_
      refine gx_goto (off := -158) (tgt := 2) (by decide +kernel) (by decide) ?_
      exact gx_less' (hN2 _ _ _ _ _) ⟨rfl, rfl, rfl, rfl, trivial⟩
    · refine gx_aload_n (i := 0) (by decide +kernel) rfl ?_
      refine gx_getr gk_MD (by decide) fl_MD_41 rfl (by decide +kernel) ?_
      refine gx_iconst (n := 4) (by decide +kernel) ?_
      refine gx_iload_n (i := 1) (by decide +kernel) rfl ?_
      refine gx_imul (by decide +kernel) ?_
      refine gx_iload_n (i := 2) (by decide +kernel) rfl ?_
      refine gx_iadd (by decide +kernel) ?_
      refine gx_iload_n (i := 3) (by decide +kernel) rfl ?_
      refine gx_iast (by decide +kernel) ?_
      refine gx_iconst (n := 1) (by decide +kernel) ?_
      exact gx_zreturn (by decide) rfl rfl (by decide +kernel)
  · refine gx_aload_n (i := 0) (by decide +kernel) rfl ?_
    refine gx_sipush (n := 1920) (by decide +kernel) (by decide) ?_
    refine gx_iload (i := 5) (by decide +kernel) rfl ?_
    refine gx_cVi2 (Mc := gm_MD_rankedAt) (u' := (0, 0)) (c_MD_rankedAt _ _ _ _) vk_MD_rankedAt ml_MD_144 rfl rfl ⟨by decide, by decide, by decide, by decide⟩ (Nat.le_of_ble_eq_true rfl) (by decide +kernel) (fun r7 h8 => ?_)
    refine gx_istore (i := 6) (l' := [some (gx_R _), some (gx_I _), some (gx_I _), some (gx_I _), some (gx_I _), some (gx_I _), some (gx_I _), none, none]) (by decide +kernel) rfl (Nat.le_of_ble_eq_true rfl) (by decide) rfl ?_
    refine gx_iconst (n := 0) (by decide +kernel) ?_
    refine gx_istore (i := 7) (l' := [some (gx_R _), some (gx_I _), some (gx_I _), some (gx_I _), some (gx_I _), some (gx_I _), some (gx_I _), some (gx_I _), none]) (by decide +kernel) rfl (Nat.le_of_ble_eq_true rfl) (by decide) rfl ?_
    exact gx_less' (y_MD_leadBack_38 _ hN2 _ hN15 gx_fu _ _ _ _ _ _ _ _ _) ⟨rfl, rfl, rfl, rfl, rfl, rfl, rfl, rfl, trivial⟩
def f_MD_leadBack_15 (N2 : gx_H → Nat → Int → Int → Int → Option (Int × gx_H)) : Nat → gx_H → Nat → Int → Int → Int → Int → Int → Option (Int × gx_H)
  | 0 => fun _ _ _ _ _ _ _ => none
  | fu + 1 => fb_MD_leadBack_15 N2 (f_MD_leadBack_15 N2 fu)
theorem y_MD_leadBack_15 (N2 : gx_H → Nat → Int → Int → Int → Option (Int × gx_H)) (hN2 : ∀ (h : gx_H) (l0 : Nat) (l1 : Int) (l2 : Int) (l3 : Int), gx_Y gm_MD_leadBack (0, 0) 2 [some (gx_R l0), some (gx_I l1), some (gx_I l2), some (gx_I l3), none, none, none, none, none] [] h (N2 h l0 l1 l2 l3)) : ∀ (fu : Nat) (h : gx_H) (l0 : Nat) (l1 : Int) (l2 : Int) (l3 : Int) (l4 : Int) (l5 : Int), gx_Y gm_MD_leadBack (0, 0) 15 [some (gx_R l0), some (gx_I l1), some (gx_I l2), some (gx_I l3), some (gx_I l4), some (gx_I l5), none, none, none] [] h (f_MD_leadBack_15 N2 fu h l0 l1 l2 l3 l4 l5) := by
  intro fu
  induction fu with
  | zero => intro h l0 l1 l2 l3 l4 l5; exact gx_none
  | succ fu ih => intro h l0 l1 l2 l3 l4 l5; exact yb_MD_leadBack_15 N2 hN2 (f_MD_leadBack_15 N2 fu) ih h l0 l1 l2 l3 l4 l5
def fb_MD_leadBack_2 (N2 : gx_H → Nat → Int → Int → Int → Option (Int × gx_H)) (h : gx_H) (l0 : Nat) (l1 : Int) (l2 : Int) (l3 : Int) : Option (Int × gx_H) :=
  gq_g (gx_i l3) (if l3 < 200 then f_MD_leadBack_15 N2 gx_fu h l0 l1 l2 l3 1 0 else some (0, h))
set_option maxHeartbeats 4000000 in
set_option maxRecDepth 100000 in
theorem yb_MD_leadBack_2 (N2 : gx_H → Nat → Int → Int → Int → Option (Int × gx_H)) (hN2 : ∀ (h : gx_H) (l0 : Nat) (l1 : Int) (l2 : Int) (l3 : Int), gx_Y gm_MD_leadBack (0, 0) 2 [some (gx_R l0), some (gx_I l1), some (gx_I l2), some (gx_I l3), none, none, none, none, none] [] h (N2 h l0 l1 l2 l3)) (h : gx_H) (l0 : Nat) (l1 : Int) (l2 : Int) (l3 : Int) : gx_Y gm_MD_leadBack (0, 0) 2 [some (gx_R l0), some (gx_I l1), some (gx_I l2), some (gx_I l3), none, none, none, none, none] [] h (fb_MD_leadBack_2 N2 h l0 l1 l2 l3) := by
  unfold fb_MD_leadBack_2
  refine gx_iload_n (i := 3) (by decide +kernel) rfl ?_
  refine gx_sipush (n := 200) (by decide +kernel) (by decide) ?_
  refine gx_g (fun c1 => ?_)
  refine gx_icmp_ge (off := 157) (tgt := 163) c1 (by decide) (by decide +kernel) (by decide) ?_ ?_
  · refine gx_iconst (n := 0) (by decide +kernel) ?_
    exact gx_zreturn (by decide) rfl rfl (by decide +kernel)
  · refine gx_iconst (n := 1) (by decide +kernel) ?_
    refine gx_istore (i := 4) (l' := [some (gx_R _), some (gx_I _), some (gx_I _), some (gx_I _), some (gx_I _), none, none, none, none]) (by decide +kernel) rfl (Nat.le_of_ble_eq_true rfl) (by decide) rfl ?_
    refine gx_iconst (n := 0) (by decide +kernel) ?_
    refine gx_istore (i := 5) (l' := [some (gx_R _), some (gx_I _), some (gx_I _), some (gx_I _), some (gx_I _), some (gx_I _), none, none, none]) (by decide +kernel) rfl (Nat.le_of_ble_eq_true rfl) (by decide) rfl ?_
    exact gx_less' (y_MD_leadBack_15 _ hN2 gx_fu _ _ _ _ _ _ _) ⟨rfl, rfl, rfl, rfl, rfl, rfl, trivial⟩
def f_MD_leadBack_2 : Nat → gx_H → Nat → Int → Int → Int → Option (Int × gx_H)
  | 0 => fun _ _ _ _ _ => none
  | fu + 1 => fb_MD_leadBack_2 (f_MD_leadBack_2 fu)
theorem y_MD_leadBack_2 : ∀ (fu : Nat) (h : gx_H) (l0 : Nat) (l1 : Int) (l2 : Int) (l3 : Int), gx_Y gm_MD_leadBack (0, 0) 2 [some (gx_R l0), some (gx_I l1), some (gx_I l2), some (gx_I l3), none, none, none, none, none] [] h (f_MD_leadBack_2 fu h l0 l1 l2 l3) := by
  intro fu
  induction fu with
  | zero => intro h l0 l1 l2 l3; exact gx_none
  | succ fu ih => intro h l0 l1 l2 l3; exact yb_MD_leadBack_2 (f_MD_leadBack_2 fu) ih h l0 l1 l2 l3
def f_MD_leadBack (h : gx_H) (l0 : Nat) (l1 : Int) (l2 : Int) : Option (Int × gx_H) :=
  f_MD_leadBack_2 gx_fu h l0 l1 l2 0
set_option maxHeartbeats 4000000 in
set_option maxRecDepth 100000 in
theorem c_MD_leadBack (h : gx_H) (l0 : Nat) (l1 : Int) (l2 : Int) : ∀ r h1, f_MD_leadBack h l0 l1 l2 = some (r, h1) → gx_Met gm_MD_leadBack [gx_R l0, gx_I l1, gx_I l2] h r h1 := by
  refine gx_enter (l := [some (gx_R l0), some (gx_I l1), some (gx_I l2), none, none, none, none, none, none]) (by decide) (Nat.le_of_ble_eq_true rfl) rfl ?_
  unfold f_MD_leadBack
  refine gx_iconst (n := 0) (by decide +kernel) ?_
  refine gx_istore_n (i := 3) (l' := [some (gx_R _), some (gx_I _), some (gx_I _), some (gx_I _), none, none, none, none, none]) (by decide +kernel) rfl (Nat.le_of_ble_eq_true rfl) (by decide) rfl ?_
  exact gx_less' (y_MD_leadBack_2 gx_fu _ _ _ _ _) ⟨rfl, rfl, rfl, rfl, trivial⟩
def f_MD_leadOn (h : gx_H) (l0 : Nat) (l1 : Int) (l2 : Int) : Option (Int × gx_H) :=
  gq_cv h l0 1 (f_MD_unlay h l0 l1) (fun r1 h2 => gq_cv h2 l0 1 (f_MD_steps h2 l0 l2) (fun r3 h4 => gq_g (gx_i r3) (if r3 = 0 then some (0, h4) else gq_get h4 l0 1 22 (fun v6 => if v6 = 200 then gq_cv h4 l0 1 (f_MD_leadBack h4 l0 l1 l2) (fun r34 h35 => gq_g ((r34 : Int) = 0 ∨ (r34 : Int) = 1) (some (r34, h35))) else gq_get h4 l0 1 22 (fun v8 => gq_cv h4 l0 1 (f_MD_layStand h4 l0 1920 v8) (fun r10 h11 => gq_g (gx_i r10) (if r10 = 0 then some (0, h11) else gq_get h11 l0 1 22 (fun v13 => gq_cv h11 l0 1 (f_MD_find h11 l0 v13) (fun r15 h16 => gq_gr h16 l0 1 18 (fun o17 => gq_ast 0 (gx_i r15) h16 o17 ((4 * l1) + l2) r15 (fun h18 => gq_get h18 l0 1 22 (fun v19 => gq_g (gx_i r15) (if r15 = v19 then gq_gr h18 l0 1 19 (fun o22 => gq_gr h18 l0 1 19 (fun o23 => gq_ald 0 h18 o23 l1 (fun v24 => gq_ast 0 (gx_i (v24 + 1)) h18 o22 r15 (v24 + 1) (fun h26 => gq_gr h26 l0 1 20 (fun o27 => gq_ast 0 (gx_i l1) h26 o27 r15 l1 (fun h28 => gq_gr h28 l0 1 21 (fun o29 => gq_ast 0 (gx_i l2) h28 o29 r15 l2 (fun h30 => gq_get h30 l0 1 22 (fun v31 => gq_put (gx_i (v31 + 1)) h30 l0 1 22 (v31 + 1) (fun h33 => some (1, h33))))))))))) else some (1, h18))))))))))))))
set_option maxHeartbeats 4000000 in
set_option maxRecDepth 100000 in
theorem c_MD_leadOn (h : gx_H) (l0 : Nat) (l1 : Int) (l2 : Int) : ∀ r h1, f_MD_leadOn h l0 l1 l2 = some (r, h1) → gx_Met gm_MD_leadOn [gx_R l0, gx_I l1, gx_I l2] h r h1 := by
  refine gx_enter (l := [some (gx_R l0), some (gx_I l1), some (gx_I l2), none]) (by decide) (Nat.le_of_ble_eq_true rfl) rfl ?_
  unfold f_MD_leadOn
  refine gx_aload_n (i := 0) (by decide +kernel) rfl ?_
  refine gx_iload_n (i := 1) (by decide +kernel) rfl ?_
  refine gx_cVv1 (Mc := gm_MD_unlay) (u' := (0, 0)) (c_MD_unlay _ _ _) vk_MD_unlay ml_MD_159 rfl rfl ⟨by decide, by decide, by decide, by decide⟩ (Nat.le_of_ble_eq_true rfl) (by decide +kernel) (fun r1 h2 => ?_)
  refine gx_aload_n (i := 0) (by decide +kernel) rfl ?_
  refine gx_iload_n (i := 2) (by decide +kernel) rfl ?_
  refine gx_cVi1 (Mc := gm_MD_steps) (u' := (0, 0)) (c_MD_steps _ _ _) vk_MD_steps ml_MD_163 rfl rfl ⟨by decide, by decide, by decide, by decide⟩ (Nat.le_of_ble_eq_true rfl) (by decide +kernel) (fun r3 h4 => ?_)
  refine gx_g (fun c5 => ?_)
  refine gx_if_ne (off := 5) (tgt := 15) c5 (by decide +kernel) (by decide) ?_ ?_
  · refine gx_aload_n (i := 0) (by decide +kernel) rfl ?_
    refine gx_geti gk_MD (by decide) fl_MD_150 (Or.inl rfl) (by decide +kernel) (fun c7 => ?_)
    refine gx_sipush (n := 200) (by decide +kernel) (by decide) ?_
    refine gx_icmp_ne (off := 10) (tgt := 32) c7 (by decide) (by decide +kernel) (by decide) ?_ ?_
    · refine gx_aload_n (i := 0) (by decide +kernel) rfl ?_
      refine gx_sipush (n := 1920) (by decide +kernel) (by decide) ?_
      refine gx_aload_n (i := 0) (by decide +kernel) rfl ?_
      refine gx_geti gk_MD (by decide) fl_MD_150 (Or.inl rfl) (by decide +kernel) (fun c9 => ?_)
      refine gx_cVi2 (Mc := gm_MD_layStand) (u' := (0, 0)) (c_MD_layStand _ _ _ _) vk_MD_layStand ml_MD_153 rfl rfl ⟨by decide, by decide, by decide, by decide⟩ (Nat.le_of_ble_eq_true rfl) (by decide +kernel) (fun r10 h11 => ?_)
      refine gx_g (fun c12 => ?_)
      refine gx_if_ne (off := 5) (tgt := 48) c12 (by decide +kernel) (by decide) ?_ ?_
      · refine gx_aload_n (i := 0) (by decide +kernel) rfl ?_
        refine gx_aload_n (i := 0) (by decide +kernel) rfl ?_
        refine gx_geti gk_MD (by decide) fl_MD_150 (Or.inl rfl) (by decide +kernel) (fun c14 => ?_)
        refine gx_cVi1 (Mc := gm_MD_find) (u' := (0, 0)) (c_MD_find _ _ _) vk_MD_find ml_MD_170 rfl rfl ⟨by decide, by decide, by decide, by decide⟩ (Nat.le_of_ble_eq_true rfl) (by decide +kernel) (fun r15 h16 => ?_)
        refine gx_istore_n (i := 3) (l' := [some (gx_R _), some (gx_I _), some (gx_I _), some (gx_I _)]) (by decide +kernel) rfl (Nat.le_of_ble_eq_true rfl) (by decide) rfl ?_
        refine gx_aload_n (i := 0) (by decide +kernel) rfl ?_
        refine gx_getr gk_MD (by decide) fl_MD_41 rfl (by decide +kernel) ?_
        refine gx_iconst (n := 4) (by decide +kernel) ?_
        refine gx_iload_n (i := 1) (by decide +kernel) rfl ?_
        refine gx_imul (by decide +kernel) ?_
        refine gx_iload_n (i := 2) (by decide +kernel) rfl ?_
        refine gx_iadd (by decide +kernel) ?_
        refine gx_iload_n (i := 3) (by decide +kernel) rfl ?_
        refine gx_iast (by decide +kernel) ?_
        refine gx_iload_n (i := 3) (by decide +kernel) rfl ?_
        refine gx_aload_n (i := 0) (by decide +kernel) rfl ?_
        refine gx_geti gk_MD (by decide) fl_MD_150 (Or.inl rfl) (by decide +kernel) (fun c20 => ?_)
        refine gx_g (fun c21 => ?_)
        refine gx_icmp_ne (off := 41) (tgt := 114) c21 c20 (by decide +kernel) (by decide) ?_ ?_
        · refine gx_iconst (n := 1) (by decide +kernel) ?_
          exact gx_zreturn (by decide) rfl rfl (by decide +kernel)
        · refine gx_aload_n (i := 0) (by decide +kernel) rfl ?_
          refine gx_getr gk_MD (by decide) fl_MD_44 rfl (by decide +kernel) ?_
          refine gx_iload_n (i := 3) (by decide +kernel) rfl ?_
          refine gx_aload_n (i := 0) (by decide +kernel) rfl ?_
          refine gx_getr gk_MD (by decide) fl_MD_44 rfl (by decide +kernel) ?_
          refine gx_iload_n (i := 1) (by decide +kernel) rfl ?_
          refine gx_ialdi (by decide +kernel) (fun c25 => ?_)
          refine gx_iconst (n := 1) (by decide +kernel) ?_
          refine gx_iadd (by decide +kernel) ?_
          refine gx_iast (by decide +kernel) ?_
          refine gx_aload_n (i := 0) (by decide +kernel) rfl ?_
          refine gx_getr gk_MD (by decide) fl_MD_47 rfl (by decide +kernel) ?_
          refine gx_iload_n (i := 3) (by decide +kernel) rfl ?_
          refine gx_iload_n (i := 1) (by decide +kernel) rfl ?_
          refine gx_iast (by decide +kernel) ?_
          refine gx_aload_n (i := 0) (by decide +kernel) rfl ?_
          refine gx_getr gk_MD (by decide) fl_MD_50 rfl (by decide +kernel) ?_
          refine gx_iload_n (i := 3) (by decide +kernel) rfl ?_
          refine gx_iload_n (i := 2) (by decide +kernel) rfl ?_
          refine gx_iast (by decide +kernel) ?_
          refine gx_aload_n (i := 0) (by decide +kernel) rfl ?_
          refine gx_dup (by decide +kernel) (fun _ => rfl) ?_
          refine gx_geti gk_MD (by decide) fl_MD_150 (Or.inl rfl) (by decide +kernel) (fun c32 => ?_)
          refine gx_iconst (n := 1) (by decide +kernel) ?_
          refine gx_iadd (by decide +kernel) ?_
          refine gx_puti gk_MD (by decide) fl_MD_150 rfl rfl (by decide +kernel) ?_
          refine gx_iconst (n := 1) (by decide +kernel) ?_
          exact gx_zreturn (by decide) rfl rfl (by decide +kernel)
      · refine gx_iconst (n := 0) (by decide +kernel) ?_
        exact gx_zreturn (by decide) rfl rfl (by decide +kernel)
    · refine gx_aload_n (i := 0) (by decide +kernel) rfl ?_
      refine gx_iload_n (i := 1) (by decide +kernel) rfl ?_
      refine gx_iload_n (i := 2) (by decide +kernel) rfl ?_
      refine gx_cVi2 (Mc := gm_MD_leadBack) (u' := (0, 0)) (c_MD_leadBack _ _ _ _) vk_MD_leadBack ml_MD_167 rfl rfl ⟨by decide, by decide, by decide, by decide⟩ (Nat.le_of_ble_eq_true rfl) (by decide +kernel) (fun r34 h35 => ?_)
      refine gx_g (fun c36 => ?_)
      exact gx_zreturn c36 rfl rfl (by decide +kernel)
  · refine gx_iconst (n := 0) (by decide +kernel) ?_
    exact gx_zreturn (by decide) rfl rfl (by decide +kernel)
def fb_MD_walk_56 (N46 : gx_H → Nat → Int → Option (Int × gx_H)) (N56 : gx_H → Nat → Int → Int → Option (Int × gx_H)) (h : gx_H) (l0 : Nat) (l1 : Int) (l2 : Int) : Option (Int × gx_H) :=
  gq_get h l0 1 1 (fun v1 => gq_g (gx_i l2) (if l2 < v1 then gq_cv h l0 1 (f_MD_leadOn h l0 l1 l2) (fun r4 h5 => gq_g (gx_i r4) (if r4 = 0 then some (0, h5) else N56 h5 l0 l1 (l2 + 1))) else N46 h l0 (l1 + 1)))
set_option maxHeartbeats 4000000 in
set_option maxRecDepth 100000 in
theorem yb_MD_walk_56 (N46 : gx_H → Nat → Int → Option (Int × gx_H)) (hN46 : ∀ (h : gx_H) (l0 : Nat) (l1 : Int), gx_Y gm_MD_walk (0, 0) 46 [some (gx_R l0), some (gx_I l1), none] [] h (N46 h l0 l1)) (N56 : gx_H → Nat → Int → Int → Option (Int × gx_H)) (hN56 : ∀ (h : gx_H) (l0 : Nat) (l1 : Int) (l2 : Int), gx_Y gm_MD_walk (0, 0) 56 [some (gx_R l0), some (gx_I l1), some (gx_I l2)] [] h (N56 h l0 l1 l2)) (h : gx_H) (l0 : Nat) (l1 : Int) (l2 : Int) : gx_Y gm_MD_walk (0, 0) 56 [some (gx_R l0), some (gx_I l1), some (gx_I l2)] [] h (fb_MD_walk_56 N46 N56 h l0 l1 l2) := by
  unfold fb_MD_walk_56
  refine gx_iload_n (i := 2) (by decide +kernel) rfl ?_
  refine gx_aload_n (i := 0) (by decide +kernel) rfl ?_
  refine gx_geti gk_MD (by decide) fl_MD_13 (Or.inl rfl) (by decide +kernel) (fun c2 => ?_)
  refine gx_g (fun c3 => ?_)
  refine gx_icmp_ge (off := 20) (tgt := 81) c3 c2 (by decide +kernel) (by decide) ?_ ?_
  · refine gx_iinc (i := 1) (n := 1) (l' := [some (gx_R _), some (gx_I _), some (gx_I _)]) (by decide +kernel) rfl rfl (Nat.le_of_ble_eq_true rfl) (by decide) rfl ?_
    refine gx_goto (off := -38) (tgt := 46) (by decide +kernel) (by decide) ?_
    exact gx_less' (hN46 _ _ _) ⟨rfl, rfl, trivial⟩
  · refine gx_aload_n (i := 0) (by decide +kernel) rfl ?_
    refine gx_iload_n (i := 1) (by decide +kernel) rfl ?_
    refine gx_iload_n (i := 2) (by decide +kernel) rfl ?_
    refine gx_cVi2 (Mc := gm_MD_leadOn) (u' := (0, 0)) (c_MD_leadOn _ _ _ _) vk_MD_leadOn ml_MD_156 rfl rfl ⟨by decide, by decide, by decide, by decide⟩ (Nat.le_of_ble_eq_true rfl) (by decide +kernel) (fun r4 h5 => ?_)
    refine gx_g (fun c6 => ?_)
    refine gx_if_ne (off := 5) (tgt := 75) c6 (by decide +kernel) (by decide) ?_ ?_
    · refine gx_iinc (i := 2) (n := 1) (l' := [some (gx_R _), some (gx_I _), some (gx_I _)]) (by decide +kernel) rfl rfl (Nat.le_of_ble_eq_true rfl) (by decide) rfl ?_
      refine gx_goto (off := -22) (tgt := 56) (by decide +kernel) (by decide) ?_
      exact gx_less' (hN56 _ _ _ _) ⟨rfl, rfl, rfl, trivial⟩
    · refine gx_iconst (n := 0) (by decide +kernel) ?_
      exact gx_zreturn (by decide) rfl rfl (by decide +kernel)
def f_MD_walk_56 (N46 : gx_H → Nat → Int → Option (Int × gx_H)) : Nat → gx_H → Nat → Int → Int → Option (Int × gx_H)
  | 0 => fun _ _ _ _ => none
  | fu + 1 => fb_MD_walk_56 N46 (f_MD_walk_56 N46 fu)
theorem y_MD_walk_56 (N46 : gx_H → Nat → Int → Option (Int × gx_H)) (hN46 : ∀ (h : gx_H) (l0 : Nat) (l1 : Int), gx_Y gm_MD_walk (0, 0) 46 [some (gx_R l0), some (gx_I l1), none] [] h (N46 h l0 l1)) : ∀ (fu : Nat) (h : gx_H) (l0 : Nat) (l1 : Int) (l2 : Int), gx_Y gm_MD_walk (0, 0) 56 [some (gx_R l0), some (gx_I l1), some (gx_I l2)] [] h (f_MD_walk_56 N46 fu h l0 l1 l2) := by
  intro fu
  induction fu with
  | zero => intro h l0 l1 l2; exact gx_none
  | succ fu ih => intro h l0 l1 l2; exact yb_MD_walk_56 N46 hN46 (f_MD_walk_56 N46 fu) ih h l0 l1 l2
def fb_MD_walk_46 (N46 : gx_H → Nat → Int → Option (Int × gx_H)) (h : gx_H) (l0 : Nat) (l1 : Int) : Option (Int × gx_H) :=
  gq_get h l0 1 22 (fun v1 => gq_g (gx_i l1) (if l1 < v1 then f_MD_walk_56 N46 gx_fu h l0 l1 0 else some (1, h)))
set_option maxHeartbeats 4000000 in
set_option maxRecDepth 100000 in
theorem yb_MD_walk_46 (N46 : gx_H → Nat → Int → Option (Int × gx_H)) (hN46 : ∀ (h : gx_H) (l0 : Nat) (l1 : Int), gx_Y gm_MD_walk (0, 0) 46 [some (gx_R l0), some (gx_I l1), none] [] h (N46 h l0 l1)) (h : gx_H) (l0 : Nat) (l1 : Int) : gx_Y gm_MD_walk (0, 0) 46 [some (gx_R l0), some (gx_I l1), none] [] h (fb_MD_walk_46 N46 h l0 l1) := by
  unfold fb_MD_walk_46
  refine gx_iload_n (i := 1) (by decide +kernel) rfl ?_
  refine gx_aload_n (i := 0) (by decide +kernel) rfl ?_
  refine gx_geti gk_MD (by decide) fl_MD_150 (Or.inl rfl) (by decide +kernel) (fun c2 => ?_)
  refine gx_g (fun c3 => ?_)
  refine gx_icmp_ge (off := 36) (tgt := 87) c3 c2 (by decide +kernel) (by decide) ?_ ?_
  · refine gx_iconst (n := 1) (by decide +kernel) ?_
    exact gx_zreturn (by decide) rfl rfl (by decide +kernel)
  · refine gx_iconst (n := 0) (by decide +kernel) ?_
    refine gx_istore_n (i := 2) (l' := [some (gx_R _), some (gx_I _), some (gx_I _)]) (by decide +kernel) rfl (Nat.le_of_ble_eq_true rfl) (by decide) rfl ?_
    exact gx_less' (y_MD_walk_56 _ hN46 gx_fu _ _ _ _) ⟨rfl, rfl, rfl, trivial⟩
def f_MD_walk_46 : Nat → gx_H → Nat → Int → Option (Int × gx_H)
  | 0 => fun _ _ _ => none
  | fu + 1 => fb_MD_walk_46 (f_MD_walk_46 fu)
theorem y_MD_walk_46 : ∀ (fu : Nat) (h : gx_H) (l0 : Nat) (l1 : Int), gx_Y gm_MD_walk (0, 0) 46 [some (gx_R l0), some (gx_I l1), none] [] h (f_MD_walk_46 fu h l0 l1) := by
  intro fu
  induction fu with
  | zero => intro h l0 l1; exact gx_none
  | succ fu ih => intro h l0 l1; exact yb_MD_walk_46 (f_MD_walk_46 fu) ih h l0 l1
def f_MD_walk (h : gx_H) (l0 : Nat) : Option (Int × gx_H) :=
  gq_put True h l0 1 22 1 (fun h1 => gq_gr h1 l0 1 19 (fun o2 => gq_ast 0 True h1 o2 0 0 (fun h3 => gq_gr h3 l0 1 20 (fun o4 => gq_ast 0 True h3 o4 0 (-1) (fun h5 => gq_gr h5 l0 1 21 (fun o6 => gq_ast 0 True h5 o6 0 (-1) (fun h7 => gq_cv h7 l0 1 (f_MD_isWell h7 l0) (fun r8 h9 => gq_g (gx_i r8) (if r8 = 0 then some (0, h9) else gq_cv h9 l0 1 (f_MD_layStand h9 l0 0 0) (fun r11 h12 => gq_g (gx_i r11) (if r11 = 0 then some (0, h12) else f_MD_walk_46 gx_fu h12 l0 0)))))))))))
set_option maxHeartbeats 4000000 in
set_option maxRecDepth 100000 in
theorem c_MD_walk (h : gx_H) (l0 : Nat) : ∀ r h1, f_MD_walk h l0 = some (r, h1) → gx_Met gm_MD_walk [gx_R l0] h r h1 := by
  refine gx_enter (l := [some (gx_R l0), none, none]) (by decide) (Nat.le_of_ble_eq_true rfl) rfl ?_
  unfold f_MD_walk
  refine gx_aload_n (i := 0) (by decide +kernel) rfl ?_
  refine gx_iconst (n := 1) (by decide +kernel) ?_
  refine gx_putiT (by decide) gk_MD (by decide) fl_MD_150 rfl rfl (by decide +kernel) ?_
  refine gx_aload_n (i := 0) (by decide +kernel) rfl ?_
  refine gx_getr gk_MD (by decide) fl_MD_44 rfl (by decide +kernel) ?_
  refine gx_iconst (n := 0) (by decide +kernel) ?_
  refine gx_iconst (n := 0) (by decide +kernel) ?_
  refine gx_iastT (by decide) (by decide +kernel) ?_
  refine gx_aload_n (i := 0) (by decide +kernel) rfl ?_
  refine gx_getr gk_MD (by decide) fl_MD_47 rfl (by decide +kernel) ?_
  refine gx_iconst (n := 0) (by decide +kernel) ?_
  refine gx_iconst (n := (-1)) (by decide +kernel) ?_
  refine gx_iastT (by decide) (by decide +kernel) ?_
  refine gx_aload_n (i := 0) (by decide +kernel) rfl ?_
  refine gx_getr gk_MD (by decide) fl_MD_50 rfl (by decide +kernel) ?_
  refine gx_iconst (n := 0) (by decide +kernel) ?_
  refine gx_iconst (n := (-1)) (by decide +kernel) ?_
  refine gx_iastT (by decide) (by decide +kernel) ?_
  refine gx_aload_n (i := 0) (by decide +kernel) rfl ?_
  refine gx_cVi0 (Mc := gm_MD_isWell) (u' := (0, 0)) (c_MD_isWell _ _) vk_MD_isWell ml_MD_120 rfl rfl ⟨by decide, by decide, by decide, by decide⟩ (Nat.le_of_ble_eq_true rfl) (by decide +kernel) (fun r8 h9 => ?_)
  refine gx_g (fun c10 => ?_)
  refine gx_if_eq (off := 12) (tgt := 42) c10 (by decide +kernel) (by decide) ?_ ?_
  · refine gx_iconst (n := 0) (by decide +kernel) ?_
    exact gx_zreturn (by decide) rfl rfl (by decide +kernel)
  · refine gx_aload_n (i := 0) (by decide +kernel) rfl ?_
    refine gx_iconst (n := 0) (by decide +kernel) ?_
    refine gx_iconst (n := 0) (by decide +kernel) ?_
    refine gx_cVi2 (Mc := gm_MD_layStand) (u' := (0, 0)) (c_MD_layStand _ _ _ _) vk_MD_layStand ml_MD_153 rfl rfl ⟨by decide, by decide, by decide, by decide⟩ (Nat.le_of_ble_eq_true rfl) (by decide +kernel) (fun r11 h12 => ?_)
    refine gx_g (fun c13 => ?_)
    refine gx_if_ne (off := 5) (tgt := 44) c13 (by decide +kernel) (by decide) ?_ ?_
    · refine gx_iconst (n := 0) (by decide +kernel) ?_
      refine gx_istore_n (i := 1) (l' := [some (gx_R _), some (gx_I _), none]) (by decide +kernel) rfl (Nat.le_of_ble_eq_true rfl) (by decide) rfl ?_
      exact gx_less' (y_MD_walk_46 gx_fu _ _ _) ⟨rfl, rfl, trivial⟩
    · refine gx_iconst (n := 0) (by decide +kernel) ?_
      exact gx_zreturn (by decide) rfl rfl (by decide +kernel)
def fb_MD_isRowNew_67 (N2 : gx_H → Nat → Int → Int → Option (Int × gx_H)) (N24 : gx_H → Nat → Int → Int → Int → Int → Option (Int × gx_H)) (h : gx_H) (l0 : Nat) (l1 : Int) (l2 : Int) (l4 : Int) (t0 : Int) : Option (Int × gx_H) :=
  N24 h l0 l1 l2 t0 (l4 + 1)
set_option maxHeartbeats 4000000 in
set_option maxRecDepth 100000 in
theorem y_MD_isRowNew_67 (N2 : gx_H → Nat → Int → Int → Option (Int × gx_H)) (hN2 : ∀ (h : gx_H) (l0 : Nat) (l1 : Int) (l2 : Int), gx_Y gm_MD_isRowNew (0, 0) 2 [some (gx_R l0), some (gx_I l1), some (gx_I l2), none, none] [] h (N2 h l0 l1 l2)) (N24 : gx_H → Nat → Int → Int → Int → Int → Option (Int × gx_H)) (hN24 : ∀ (h : gx_H) (l0 : Nat) (l1 : Int) (l2 : Int) (l3 : Int) (l4 : Int), gx_Y gm_MD_isRowNew (0, 0) 24 [some (gx_R l0), some (gx_I l1), some (gx_I l2), some (gx_I l3), some (gx_I l4)] [] h (N24 h l0 l1 l2 l3 l4)) (h : gx_H) (l0 : Nat) (l1 : Int) (l2 : Int) (l4 : Int) (t0 : Int) : gx_Y gm_MD_isRowNew (0, 0) 67 [some (gx_R l0), some (gx_I l1), some (gx_I l2), none, some (gx_I l4)] [gx_I t0] h (fb_MD_isRowNew_67 N2 N24 h l0 l1 l2 l4 t0) := by
  unfold fb_MD_isRowNew_67
  refine gx_istore_n (i := 3) (l' := [some (gx_R _), some (gx_I _), some (gx_I _), some (gx_I _), some (gx_I _)]) (by decide +kernel) rfl (Nat.le_of_ble_eq_true rfl) (by decide) rfl ?_
  refine gx_iinc (i := 4) (n := 1) (l' := [some (gx_R _), some (gx_I _), some (gx_I _), some (gx_I _), some (gx_I _)]) (by decide +kernel) rfl rfl (Nat.le_of_ble_eq_true rfl) (by decide) rfl ?_
  refine gx_goto (off := -47) (tgt := 24) (by decide +kernel) (by decide) ?_
  exact gx_less' (hN24 _ _ _ _ _ _) ⟨rfl, rfl, rfl, rfl, rfl, trivial⟩
def fb_MD_isRowNew_66 (N2 : gx_H → Nat → Int → Int → Option (Int × gx_H)) (N24 : gx_H → Nat → Int → Int → Int → Int → Option (Int × gx_H)) (h : gx_H) (l0 : Nat) (l1 : Int) (l2 : Int) (l4 : Int) : Option (Int × gx_H) :=
  fb_MD_isRowNew_67 N2 N24 h l0 l1 l2 l4 0
set_option maxHeartbeats 4000000 in
set_option maxRecDepth 100000 in
theorem y_MD_isRowNew_66 (N2 : gx_H → Nat → Int → Int → Option (Int × gx_H)) (hN2 : ∀ (h : gx_H) (l0 : Nat) (l1 : Int) (l2 : Int), gx_Y gm_MD_isRowNew (0, 0) 2 [some (gx_R l0), some (gx_I l1), some (gx_I l2), none, none] [] h (N2 h l0 l1 l2)) (N24 : gx_H → Nat → Int → Int → Int → Int → Option (Int × gx_H)) (hN24 : ∀ (h : gx_H) (l0 : Nat) (l1 : Int) (l2 : Int) (l3 : Int) (l4 : Int), gx_Y gm_MD_isRowNew (0, 0) 24 [some (gx_R l0), some (gx_I l1), some (gx_I l2), some (gx_I l3), some (gx_I l4)] [] h (N24 h l0 l1 l2 l3 l4)) (h : gx_H) (l0 : Nat) (l1 : Int) (l2 : Int) (l4 : Int) : gx_Y gm_MD_isRowNew (0, 0) 66 [some (gx_R l0), some (gx_I l1), some (gx_I l2), none, some (gx_I l4)] [] h (fb_MD_isRowNew_66 N2 N24 h l0 l1 l2 l4) := by
  unfold fb_MD_isRowNew_66
  refine gx_iconst (n := 0) (by decide +kernel) ?_
  exact gx_less' (y_MD_isRowNew_67 _ hN2 _ hN24 _ _ _ _ _ _) ⟨rfl, rfl, rfl, rfl, trivial⟩
def fb_MD_isRowNew_24 (N2 : gx_H → Nat → Int → Int → Option (Int × gx_H)) (N24 : gx_H → Nat → Int → Int → Int → Int → Option (Int × gx_H)) (h : gx_H) (l0 : Nat) (l1 : Int) (l2 : Int) (l3 : Int) (l4 : Int) : Option (Int × gx_H) :=
  gq_get h l0 1 1 (fun v1 => gq_g (gx_i l4) (if l4 < v1 then gq_g (gx_i l3) (if l3 = 0 then fb_MD_isRowNew_66 N2 N24 h l0 l1 l2 l4 else gq_gr h l0 1 17 (fun o6 => gq_ald 0 h o6 ((4 * l2) + l4) (fun v7 => gq_gr h l0 1 17 (fun o9 => gq_ald 0 h o9 ((4 * l1) + l4) (fun v10 => if v7 = v10 then fb_MD_isRowNew_67 N2 N24 h l0 l1 l2 l4 1 else fb_MD_isRowNew_66 N2 N24 h l0 l1 l2 l4))))) else gq_g (gx_i l3) (if l3 = 0 then N2 h l0 l1 (l2 + 1) else some (0, h))))
set_option maxHeartbeats 4000000 in
set_option maxRecDepth 100000 in
theorem yb_MD_isRowNew_24 (N2 : gx_H → Nat → Int → Int → Option (Int × gx_H)) (hN2 : ∀ (h : gx_H) (l0 : Nat) (l1 : Int) (l2 : Int), gx_Y gm_MD_isRowNew (0, 0) 2 [some (gx_R l0), some (gx_I l1), some (gx_I l2), none, none] [] h (N2 h l0 l1 l2)) (N24 : gx_H → Nat → Int → Int → Int → Int → Option (Int × gx_H)) (hN24 : ∀ (h : gx_H) (l0 : Nat) (l1 : Int) (l2 : Int) (l3 : Int) (l4 : Int), gx_Y gm_MD_isRowNew (0, 0) 24 [some (gx_R l0), some (gx_I l1), some (gx_I l2), some (gx_I l3), some (gx_I l4)] [] h (N24 h l0 l1 l2 l3 l4)) (h : gx_H) (l0 : Nat) (l1 : Int) (l2 : Int) (l3 : Int) (l4 : Int) : gx_Y gm_MD_isRowNew (0, 0) 24 [some (gx_R l0), some (gx_I l1), some (gx_I l2), some (gx_I l3), some (gx_I l4)] [] h (fb_MD_isRowNew_24 N2 N24 h l0 l1 l2 l3 l4) := by
  unfold fb_MD_isRowNew_24
  refine gx_iload (i := 4) (by decide +kernel) rfl ?_
  refine gx_aload_n (i := 0) (by decide +kernel) rfl ?_
  refine gx_geti gk_MD (by decide) fl_MD_13 (Or.inl rfl) (by decide +kernel) (fun c2 => ?_)
  refine gx_g (fun c3 => ?_)
  refine gx_icmp_ge (off := 44) (tgt := 74) c3 c2 (by decide +kernel) (by decide) ?_ ?_
  · refine gx_iload_n (i := 3) (by decide +kernel) rfl ?_
    refine gx_g (fun c4 => ?_)
    refine gx_if_eq (off := 5) (tgt := 80) c4 (by decide +kernel) (by decide) ?_ ?_
    · refine gx_iinc (i := 2) (n := 1) (l' := [some (gx_R _), some (gx_I _), some (gx_I _), some (gx_I _), some (gx_I _)]) (by decide +kernel) rfl rfl (Nat.le_of_ble_eq_true rfl) (by decide) rfl ?_
      refine gx_goto (off := -81) (tgt := 2) (by decide +kernel) (by decide) ?_
      exact gx_less' (hN2 _ _ _ _) ⟨rfl, rfl, rfl, trivial⟩
    · refine gx_iconst (n := 0) (by decide +kernel) ?_
      exact gx_zreturn (by decide) rfl rfl (by decide +kernel)
  · refine gx_iload_n (i := 3) (by decide +kernel) rfl ?_
    refine gx_g (fun c5 => ?_)
    refine gx_if_eq (off := 32) (tgt := 66) c5 (by decide +kernel) (by decide) ?_ ?_
    · exact gx_less' (y_MD_isRowNew_66 _ hN2 _ hN24 _ _ _ _ _) ⟨rfl, rfl, rfl, rfl, trivial⟩
    · refine gx_aload_n (i := 0) (by decide +kernel) rfl ?_
      refine gx_getr gk_MD (by decide) fl_MD_38 rfl (by decide +kernel) ?_
      refine gx_iconst (n := 4) (by decide +kernel) ?_
      refine gx_iload_n (i := 2) (by decide +kernel) rfl ?_
      refine gx_imul (by decide +kernel) ?_
      refine gx_iload (i := 4) (by decide +kernel) rfl ?_
      refine gx_iadd (by decide +kernel) ?_
      refine gx_ialdi (by decide +kernel) (fun c8 => ?_)
      refine gx_aload_n (i := 0) (by decide +kernel) rfl ?_
      refine gx_getr gk_MD (by decide) fl_MD_38 rfl (by decide +kernel) ?_
      refine gx_iconst (n := 4) (by decide +kernel) ?_
      refine gx_iload_n (i := 1) (by decide +kernel) rfl ?_
      refine gx_imul (by decide +kernel) ?_
      refine gx_iload (i := 4) (by decide +kernel) rfl ?_
      refine gx_iadd (by decide +kernel) ?_
      refine gx_ialdi (by decide +kernel) (fun c11 => ?_)
      refine gx_icmp_ne (off := 7) (tgt := 66) c8 c11 (by decide +kernel) (by decide) ?_ ?_
      · exact gx_less' (y_MD_isRowNew_66 _ hN2 _ hN24 _ _ _ _ _) ⟨rfl, rfl, rfl, rfl, trivial⟩
      · refine gx_iconst (n := 1) (by decide +kernel) ?_
        refine gx_goto (off := 4) (tgt := 67) (by decide +kernel) (by decide) ?_
        exact gx_less' (y_MD_isRowNew_67 _ hN2 _ hN24 _ _ _ _ _ _) ⟨rfl, rfl, rfl, rfl, trivial⟩
def f_MD_isRowNew_24 (N2 : gx_H → Nat → Int → Int → Option (Int × gx_H)) : Nat → gx_H → Nat → Int → Int → Int → Int → Option (Int × gx_H)
  | 0 => fun _ _ _ _ _ _ => none
  | fu + 1 => fb_MD_isRowNew_24 N2 (f_MD_isRowNew_24 N2 fu)
theorem y_MD_isRowNew_24 (N2 : gx_H → Nat → Int → Int → Option (Int × gx_H)) (hN2 : ∀ (h : gx_H) (l0 : Nat) (l1 : Int) (l2 : Int), gx_Y gm_MD_isRowNew (0, 0) 2 [some (gx_R l0), some (gx_I l1), some (gx_I l2), none, none] [] h (N2 h l0 l1 l2)) : ∀ (fu : Nat) (h : gx_H) (l0 : Nat) (l1 : Int) (l2 : Int) (l3 : Int) (l4 : Int), gx_Y gm_MD_isRowNew (0, 0) 24 [some (gx_R l0), some (gx_I l1), some (gx_I l2), some (gx_I l3), some (gx_I l4)] [] h (f_MD_isRowNew_24 N2 fu h l0 l1 l2 l3 l4) := by
  intro fu
  induction fu with
  | zero => intro h l0 l1 l2 l3 l4; exact gx_none
  | succ fu ih => intro h l0 l1 l2 l3 l4; exact yb_MD_isRowNew_24 N2 hN2 (f_MD_isRowNew_24 N2 fu) ih h l0 l1 l2 l3 l4
def fb_MD_isRowNew_2 (N2 : gx_H → Nat → Int → Int → Option (Int × gx_H)) (h : gx_H) (l0 : Nat) (l1 : Int) (l2 : Int) : Option (Int × gx_H) :=
  gq_g (gx_i l2) (gq_g (gx_i l1) (if l2 < l1 then gq_get h l0 1 1 (fun v3 => gq_call (f_MD_in h (l2.tmod 4) 0 (v3 - 1)) (fun r5 h6 => f_MD_isRowNew_24 N2 gx_fu h6 l0 l1 l2 r5 0)) else some (1, h)))
set_option maxHeartbeats 4000000 in
set_option maxRecDepth 100000 in
theorem yb_MD_isRowNew_2 (N2 : gx_H → Nat → Int → Int → Option (Int × gx_H)) (hN2 : ∀ (h : gx_H) (l0 : Nat) (l1 : Int) (l2 : Int), gx_Y gm_MD_isRowNew (0, 0) 2 [some (gx_R l0), some (gx_I l1), some (gx_I l2), none, none] [] h (N2 h l0 l1 l2)) (h : gx_H) (l0 : Nat) (l1 : Int) (l2 : Int) : gx_Y gm_MD_isRowNew (0, 0) 2 [some (gx_R l0), some (gx_I l1), some (gx_I l2), none, none] [] h (fb_MD_isRowNew_2 N2 h l0 l1 l2) := by
  unfold fb_MD_isRowNew_2
  refine gx_iload_n (i := 2) (by decide +kernel) rfl ?_
  refine gx_iload_n (i := 1) (by decide +kernel) rfl ?_
  refine gx_g (fun c1 => ?_)
  refine gx_g (fun c2 => ?_)
  refine gx_icmp_ge (off := 82) (tgt := 86) c1 c2 (by decide +kernel) (by decide) ?_ ?_
  · refine gx_iconst (n := 1) (by decide +kernel) ?_
    exact gx_zreturn (by decide) rfl rfl (by decide +kernel)
  · refine gx_iload_n (i := 2) (by decide +kernel) rfl ?_
    refine gx_iconst (n := 4) (by decide +kernel) ?_
    refine gx_irem c1 (by decide) (by decide) (by decide +kernel) ?_
    refine gx_iconst (n := 0) (by decide +kernel) ?_
    refine gx_aload_n (i := 0) (by decide +kernel) rfl ?_
    refine gx_geti gk_MD (by decide) fl_MD_13 (Or.inl rfl) (by decide +kernel) (fun c4 => ?_)
    refine gx_iconst (n := 1) (by decide +kernel) ?_
    refine gx_isub (by decide +kernel) ?_
    refine gx_cSi3 (Mc := gm_MD_in) (u' := (0, 0)) (c_MD_in _ _ _ _) sk_MD_in ml_MD_68 rfl rfl ⟨by decide, by decide, by decide, by decide⟩ (Nat.le_of_ble_eq_true rfl) (by decide +kernel) (fun r5 h6 => ?_)
    refine gx_istore_n (i := 3) (l' := [some (gx_R _), some (gx_I _), some (gx_I _), some (gx_I _), none]) (by decide +kernel) rfl (Nat.le_of_ble_eq_true rfl) (by decide) rfl ?_
    refine gx_iconst (n := 0) (by decide +kernel) ?_
    refine gx_istore (i := 4) (l' := [some (gx_R _), some (gx_I _), some (gx_I _), some (gx_I _), some (gx_I _)]) (by decide +kernel) rfl (Nat.le_of_ble_eq_true rfl) (by decide) rfl ?_
    exact gx_less' (y_MD_isRowNew_24 _ hN2 gx_fu _ _ _ _ _ _) ⟨rfl, rfl, rfl, rfl, rfl, trivial⟩
def f_MD_isRowNew_2 : Nat → gx_H → Nat → Int → Int → Option (Int × gx_H)
  | 0 => fun _ _ _ _ => none
  | fu + 1 => fb_MD_isRowNew_2 (f_MD_isRowNew_2 fu)
theorem y_MD_isRowNew_2 : ∀ (fu : Nat) (h : gx_H) (l0 : Nat) (l1 : Int) (l2 : Int), gx_Y gm_MD_isRowNew (0, 0) 2 [some (gx_R l0), some (gx_I l1), some (gx_I l2), none, none] [] h (f_MD_isRowNew_2 fu h l0 l1 l2) := by
  intro fu
  induction fu with
  | zero => intro h l0 l1 l2; exact gx_none
  | succ fu ih => intro h l0 l1 l2; exact yb_MD_isRowNew_2 (f_MD_isRowNew_2 fu) ih h l0 l1 l2
def f_MD_isRowNew (h : gx_H) (l0 : Nat) (l1 : Int) : Option (Int × gx_H) :=
  f_MD_isRowNew_2 gx_fu h l0 l1 0
set_option maxHeartbeats 4000000 in
set_option maxRecDepth 100000 in
theorem c_MD_isRowNew (h : gx_H) (l0 : Nat) (l1 : Int) : ∀ r h1, f_MD_isRowNew h l0 l1 = some (r, h1) → gx_Met gm_MD_isRowNew [gx_R l0, gx_I l1] h r h1 := by
  refine gx_enter (l := [some (gx_R l0), some (gx_I l1), none, none, none]) (by decide) (Nat.le_of_ble_eq_true rfl) rfl ?_
  unfold f_MD_isRowNew
  refine gx_iconst (n := 0) (by decide +kernel) ?_
  refine gx_istore_n (i := 2) (l' := [some (gx_R _), some (gx_I _), some (gx_I _), none, none]) (by decide +kernel) rfl (Nat.le_of_ble_eq_true rfl) (by decide) rfl ?_
  exact gx_less' (y_MD_isRowNew_2 gx_fu _ _ _ _) ⟨rfl, rfl, rfl, trivial⟩
def fb_MD_allLetters_38 (N4 : gx_H → Nat → Int → Int → Option (Int × gx_H)) (h : gx_H) (l0 : Nat) (l2 : Int) (t0 : Int) (t1 : Int) : Option (Int × gx_H) :=
  N4 h l0 (t0 + t1) (l2 + 1)
set_option maxHeartbeats 4000000 in
set_option maxRecDepth 100000 in
theorem y_MD_allLetters_38 (N4 : gx_H → Nat → Int → Int → Option (Int × gx_H)) (hN4 : ∀ (h : gx_H) (l0 : Nat) (l1 : Int) (l2 : Int), gx_Y gm_MD_allLetters (0, 0) 4 [some (gx_R l0), some (gx_I l1), some (gx_I l2)] [] h (N4 h l0 l1 l2)) (h : gx_H) (l0 : Nat) (l2 : Int) (t0 : Int) (t1 : Int) : gx_Y gm_MD_allLetters (0, 0) 38 [some (gx_R l0), none, some (gx_I l2)] [gx_I t1, gx_I t0] h (fb_MD_allLetters_38 N4 h l0 l2 t0 t1) := by
  unfold fb_MD_allLetters_38
  refine gx_iadd (by decide +kernel) ?_
  refine gx_istore_n (i := 1) (l' := [some (gx_R _), some (gx_I _), some (gx_I _)]) (by decide +kernel) rfl (Nat.le_of_ble_eq_true rfl) (by decide) rfl ?_
  refine gx_iinc (i := 2) (n := 1) (l' := [some (gx_R _), some (gx_I _), some (gx_I _)]) (by decide +kernel) rfl rfl (Nat.le_of_ble_eq_true rfl) (by decide) rfl ?_
  refine gx_goto (off := -39) (tgt := 4) (by decide +kernel) (by decide) ?_
  exact gx_less' (hN4 _ _ _ _) ⟨rfl, rfl, rfl, trivial⟩
def fb_MD_allLetters_37 (N4 : gx_H → Nat → Int → Int → Option (Int × gx_H)) (h : gx_H) (l0 : Nat) (l2 : Int) (t0 : Int) : Option (Int × gx_H) :=
  fb_MD_allLetters_38 N4 h l0 l2 t0 0
set_option maxHeartbeats 4000000 in
set_option maxRecDepth 100000 in
theorem y_MD_allLetters_37 (N4 : gx_H → Nat → Int → Int → Option (Int × gx_H)) (hN4 : ∀ (h : gx_H) (l0 : Nat) (l1 : Int) (l2 : Int), gx_Y gm_MD_allLetters (0, 0) 4 [some (gx_R l0), some (gx_I l1), some (gx_I l2)] [] h (N4 h l0 l1 l2)) (h : gx_H) (l0 : Nat) (l2 : Int) (t0 : Int) : gx_Y gm_MD_allLetters (0, 0) 37 [some (gx_R l0), none, some (gx_I l2)] [gx_I t0] h (fb_MD_allLetters_37 N4 h l0 l2 t0) := by
  unfold fb_MD_allLetters_37
  refine gx_iconst (n := 0) (by decide +kernel) ?_
  exact gx_less' (y_MD_allLetters_38 _ hN4 _ _ _ _ _) ⟨rfl, rfl, trivial⟩
def fb_MD_allLetters_4 (N4 : gx_H → Nat → Int → Int → Option (Int × gx_H)) (h : gx_H) (l0 : Nat) (l1 : Int) (l2 : Int) : Option (Int × gx_H) :=
  gq_get h l0 1 22 (fun v1 => gq_g (gx_i l2) (gq_g (gx_i (4 * v1)) (if l2 < (4 * v1) then gq_get h l0 1 1 (fun v5 => gq_g (gx_i (l2.tmod 4)) (if (l2.tmod 4) < v5 then gq_cv h l0 1 (f_MD_isRowNew h l0 l2) (fun r8 h9 => gq_g (gx_i r8) (if r8 = 0 then fb_MD_allLetters_37 N4 h9 l0 l2 l1 else fb_MD_allLetters_38 N4 h9 l0 l2 l1 1)) else fb_MD_allLetters_37 N4 h l0 l2 l1)) else some (l1, h))))
set_option maxHeartbeats 4000000 in
set_option maxRecDepth 100000 in
theorem yb_MD_allLetters_4 (N4 : gx_H → Nat → Int → Int → Option (Int × gx_H)) (hN4 : ∀ (h : gx_H) (l0 : Nat) (l1 : Int) (l2 : Int), gx_Y gm_MD_allLetters (0, 0) 4 [some (gx_R l0), some (gx_I l1), some (gx_I l2)] [] h (N4 h l0 l1 l2)) (h : gx_H) (l0 : Nat) (l1 : Int) (l2 : Int) : gx_Y gm_MD_allLetters (0, 0) 4 [some (gx_R l0), some (gx_I l1), some (gx_I l2)] [] h (fb_MD_allLetters_4 N4 h l0 l1 l2) := by
  unfold fb_MD_allLetters_4
  refine gx_iload_n (i := 2) (by decide +kernel) rfl ?_
  refine gx_iconst (n := 4) (by decide +kernel) ?_
  refine gx_aload_n (i := 0) (by decide +kernel) rfl ?_
  refine gx_geti gk_MD (by decide) fl_MD_150 (Or.inl rfl) (by decide +kernel) (fun c2 => ?_)
  refine gx_imul (by decide +kernel) ?_
  refine gx_g (fun c3 => ?_)
  refine gx_g (fun c4 => ?_)
  refine gx_icmp_ge (off := 35) (tgt := 46) c3 c4 (by decide +kernel) (by decide) ?_ ?_
  · refine gx_iload_n (i := 1) (by decide +kernel) rfl ?_
    exact gx_ireturn rfl rfl (by decide +kernel)
  · refine gx_iload_n (i := 1) (by decide +kernel) rfl ?_
    refine gx_iload_n (i := 2) (by decide +kernel) rfl ?_
    refine gx_iconst (n := 4) (by decide +kernel) ?_
    refine gx_irem c3 (by decide) (by decide) (by decide +kernel) ?_
    refine gx_aload_n (i := 0) (by decide +kernel) rfl ?_
    refine gx_geti gk_MD (by decide) fl_MD_13 (Or.inl rfl) (by decide +kernel) (fun c6 => ?_)
    refine gx_g (fun c7 => ?_)
    refine gx_icmp_ge (off := 15) (tgt := 37) c7 c6 (by decide +kernel) (by decide) ?_ ?_
    · exact gx_less' (y_MD_allLetters_37 _ hN4 _ _ _ _) ⟨rfl, rfl, trivial⟩
    · refine gx_aload_n (i := 0) (by decide +kernel) rfl ?_
      refine gx_iload_n (i := 2) (by decide +kernel) rfl ?_
      refine gx_cVi1 (Mc := gm_MD_isRowNew) (u' := (0, 0)) (c_MD_isRowNew _ _ _) vk_MD_isRowNew ml_MD_174 rfl rfl ⟨by decide, by decide, by decide, by decide⟩ (Nat.le_of_ble_eq_true rfl) (by decide +kernel) (fun r8 h9 => ?_)
      refine gx_g (fun c10 => ?_)
      refine gx_if_eq (off := 7) (tgt := 37) c10 (by decide +kernel) (by decide) ?_ ?_
      · exact gx_less' (y_MD_allLetters_37 _ hN4 _ _ _ _) ⟨rfl, rfl, trivial⟩
      · refine gx_iconst (n := 1) (by decide +kernel) ?_
        refine gx_goto (off := 4) (tgt := 38) (by decide +kernel) (by decide) ?_
        exact gx_less' (y_MD_allLetters_38 _ hN4 _ _ _ _ _) ⟨rfl, rfl, trivial⟩
def f_MD_allLetters_4 : Nat → gx_H → Nat → Int → Int → Option (Int × gx_H)
  | 0 => fun _ _ _ _ => none
  | fu + 1 => fb_MD_allLetters_4 (f_MD_allLetters_4 fu)
theorem y_MD_allLetters_4 : ∀ (fu : Nat) (h : gx_H) (l0 : Nat) (l1 : Int) (l2 : Int), gx_Y gm_MD_allLetters (0, 0) 4 [some (gx_R l0), some (gx_I l1), some (gx_I l2)] [] h (f_MD_allLetters_4 fu h l0 l1 l2) := by
  intro fu
  induction fu with
  | zero => intro h l0 l1 l2; exact gx_none
  | succ fu ih => intro h l0 l1 l2; exact yb_MD_allLetters_4 (f_MD_allLetters_4 fu) ih h l0 l1 l2
def f_MD_allLetters (h : gx_H) (l0 : Nat) : Option (Int × gx_H) :=
  f_MD_allLetters_4 gx_fu h l0 0 0
set_option maxHeartbeats 4000000 in
set_option maxRecDepth 100000 in
theorem c_MD_allLetters (h : gx_H) (l0 : Nat) : ∀ r h1, f_MD_allLetters h l0 = some (r, h1) → gx_Met gm_MD_allLetters [gx_R l0] h r h1 := by
  refine gx_enter (l := [some (gx_R l0), none, none]) (by decide) (Nat.le_of_ble_eq_true rfl) rfl ?_
  unfold f_MD_allLetters
  refine gx_iconst (n := 0) (by decide +kernel) ?_
  refine gx_istore_n (i := 1) (l' := [some (gx_R _), some (gx_I _), none]) (by decide +kernel) rfl (Nat.le_of_ble_eq_true rfl) (by decide) rfl ?_
  refine gx_iconst (n := 0) (by decide +kernel) ?_
  refine gx_istore_n (i := 2) (l' := [some (gx_R _), some (gx_I _), some (gx_I _)]) (by decide +kernel) rfl (Nat.le_of_ble_eq_true rfl) (by decide) rfl ?_
  exact gx_less' (y_MD_allLetters_4 gx_fu _ _ _ _) ⟨rfl, rfl, rfl, trivial⟩
def fb_MD_far_32 (N4 : gx_H → Nat → Int → Int → Option (Int × gx_H)) (h : gx_H) (l0 : Nat) (l2 : Int) (t0 : Int) : Option (Int × gx_H) :=
  N4 h l0 t0 (l2 + 1)
set_option maxHeartbeats 4000000 in
set_option maxRecDepth 100000 in
theorem y_MD_far_32 (N4 : gx_H → Nat → Int → Int → Option (Int × gx_H)) (hN4 : ∀ (h : gx_H) (l0 : Nat) (l1 : Int) (l2 : Int), gx_Y gm_MD_far (0, 0) 4 [some (gx_R l0), some (gx_I l1), some (gx_I l2)] [] h (N4 h l0 l1 l2)) (h : gx_H) (l0 : Nat) (l2 : Int) (t0 : Int) : gx_Y gm_MD_far (0, 0) 32 [some (gx_R l0), none, some (gx_I l2)] [gx_I t0] h (fb_MD_far_32 N4 h l0 l2 t0) := by
  unfold fb_MD_far_32
  refine gx_istore_n (i := 1) (l' := [some (gx_R _), some (gx_I _), some (gx_I _)]) (by decide +kernel) rfl (Nat.le_of_ble_eq_true rfl) (by decide) rfl ?_
  refine gx_iinc (i := 2) (n := 1) (l' := [some (gx_R _), some (gx_I _), some (gx_I _)]) (by decide +kernel) rfl rfl (Nat.le_of_ble_eq_true rfl) (by decide) rfl ?_
  refine gx_goto (off := -32) (tgt := 4) (by decide +kernel) (by decide) ?_
  exact gx_less' (hN4 _ _ _ _) ⟨rfl, rfl, rfl, trivial⟩
def fb_MD_far_4 (N4 : gx_H → Nat → Int → Int → Option (Int × gx_H)) (h : gx_H) (l0 : Nat) (l1 : Int) (l2 : Int) : Option (Int × gx_H) :=
  gq_get h l0 1 22 (fun v1 => gq_g (gx_i l2) (if l2 < v1 then gq_gr h l0 1 19 (fun o4 => gq_ald 0 h o4 l2 (fun v5 => gq_g (gx_i l1) (if l1 < v5 then gq_gr h l0 1 19 (fun o8 => gq_ald 0 h o8 l2 (fun v9 => fb_MD_far_32 N4 h l0 l2 v9)) else fb_MD_far_32 N4 h l0 l2 l1))) else some (l1, h)))
set_option maxHeartbeats 4000000 in
set_option maxRecDepth 100000 in
theorem yb_MD_far_4 (N4 : gx_H → Nat → Int → Int → Option (Int × gx_H)) (hN4 : ∀ (h : gx_H) (l0 : Nat) (l1 : Int) (l2 : Int), gx_Y gm_MD_far (0, 0) 4 [some (gx_R l0), some (gx_I l1), some (gx_I l2)] [] h (N4 h l0 l1 l2)) (h : gx_H) (l0 : Nat) (l1 : Int) (l2 : Int) : gx_Y gm_MD_far (0, 0) 4 [some (gx_R l0), some (gx_I l1), some (gx_I l2)] [] h (fb_MD_far_4 N4 h l0 l1 l2) := by
  unfold fb_MD_far_4
  refine gx_iload_n (i := 2) (by decide +kernel) rfl ?_
  refine gx_aload_n (i := 0) (by decide +kernel) rfl ?_
  refine gx_geti gk_MD (by decide) fl_MD_150 (Or.inl rfl) (by decide +kernel) (fun c2 => ?_)
  refine gx_g (fun c3 => ?_)
  refine gx_icmp_ge (off := 30) (tgt := 39) c3 c2 (by decide +kernel) (by decide) ?_ ?_
  · refine gx_iload_n (i := 1) (by decide +kernel) rfl ?_
    exact gx_ireturn rfl rfl (by decide +kernel)
  · refine gx_aload_n (i := 0) (by decide +kernel) rfl ?_
    refine gx_getr gk_MD (by decide) fl_MD_44 rfl (by decide +kernel) ?_
    refine gx_iload_n (i := 2) (by decide +kernel) rfl ?_
    refine gx_ialdi (by decide +kernel) (fun c6 => ?_)
    refine gx_iload_n (i := 1) (by decide +kernel) rfl ?_
    refine gx_g (fun c7 => ?_)
    refine gx_icmp_le (off := 12) (tgt := 31) c6 c7 (by decide +kernel) (by decide) ?_ ?_
    · refine gx_iload_n (i := 1) (by decide +kernel) rfl ?_
      exact gx_less' (y_MD_far_32 _ hN4 _ _ _ _) ⟨rfl, rfl, trivial⟩
    · refine gx_aload_n (i := 0) (by decide +kernel) rfl ?_
      refine gx_getr gk_MD (by decide) fl_MD_44 rfl (by decide +kernel) ?_
      refine gx_iload_n (i := 2) (by decide +kernel) rfl ?_
      refine gx_ialdi (by decide +kernel) (fun c10 => ?_)
      refine gx_goto (off := 4) (tgt := 32) (by decide +kernel) (by decide) ?_
      exact gx_less' (y_MD_far_32 _ hN4 _ _ _ _) ⟨rfl, rfl, trivial⟩
def f_MD_far_4 : Nat → gx_H → Nat → Int → Int → Option (Int × gx_H)
  | 0 => fun _ _ _ _ => none
  | fu + 1 => fb_MD_far_4 (f_MD_far_4 fu)
theorem y_MD_far_4 : ∀ (fu : Nat) (h : gx_H) (l0 : Nat) (l1 : Int) (l2 : Int), gx_Y gm_MD_far (0, 0) 4 [some (gx_R l0), some (gx_I l1), some (gx_I l2)] [] h (f_MD_far_4 fu h l0 l1 l2) := by
  intro fu
  induction fu with
  | zero => intro h l0 l1 l2; exact gx_none
  | succ fu ih => intro h l0 l1 l2; exact yb_MD_far_4 (f_MD_far_4 fu) ih h l0 l1 l2
def f_MD_far (h : gx_H) (l0 : Nat) : Option (Int × gx_H) :=
  f_MD_far_4 gx_fu h l0 0 0
set_option maxHeartbeats 4000000 in
set_option maxRecDepth 100000 in
theorem c_MD_far (h : gx_H) (l0 : Nat) : ∀ r h1, f_MD_far h l0 = some (r, h1) → gx_Met gm_MD_far [gx_R l0] h r h1 := by
  refine gx_enter (l := [some (gx_R l0), none, none]) (by decide) (Nat.le_of_ble_eq_true rfl) rfl ?_
  unfold f_MD_far
  refine gx_iconst (n := 0) (by decide +kernel) ?_
  refine gx_istore_n (i := 1) (l' := [some (gx_R _), some (gx_I _), none]) (by decide +kernel) rfl (Nat.le_of_ble_eq_true rfl) (by decide) rfl ?_
  refine gx_iconst (n := 0) (by decide +kernel) ?_
  refine gx_istore_n (i := 2) (l' := [some (gx_R _), some (gx_I _), some (gx_I _)]) (by decide +kernel) rfl (Nat.le_of_ble_eq_true rfl) (by decide) rfl ?_
  exact gx_less' (y_MD_far_4 gx_fu _ _ _ _) ⟨rfl, rfl, rfl, trivial⟩
def f_MD_ofStands (h : gx_H) (l0 : Nat) (l1 : Int) : Option (Int × gx_H) :=
  gq_cv h l0 1 (f_MD_walk h l0) (fun r1 h2 => gq_g (gx_i r1) (if r1 = 0 then some ((-1), h2) else gq_g (gx_i l1) (if l1 = 4 then gq_get h2 l0 1 22 (fun v9 => some (v9, h2)) else if l1 = 5 then gq_cv h2 l0 1 (f_MD_allLetters h2 l0) (fun r7 h8 => some (r7, h8)) else gq_cv h2 l0 1 (f_MD_far h2 l0) (fun r5 h6 => some (r5, h6)))))
set_option maxHeartbeats 4000000 in
set_option maxRecDepth 100000 in
theorem c_MD_ofStands (h : gx_H) (l0 : Nat) (l1 : Int) : ∀ r h1, f_MD_ofStands h l0 l1 = some (r, h1) → gx_Met gm_MD_ofStands [gx_R l0, gx_I l1] h r h1 := by
  refine gx_enter (l := [some (gx_R l0), some (gx_I l1)]) (by decide) (Nat.le_of_ble_eq_true rfl) rfl ?_
  unfold f_MD_ofStands
  refine gx_aload_n (i := 0) (by decide +kernel) rfl ?_
  refine gx_cVi0 (Mc := gm_MD_walk) (u' := (0, 0)) (c_MD_walk _ _) vk_MD_walk ml_MD_177 rfl rfl ⟨by decide, by decide, by decide, by decide⟩ (Nat.le_of_ble_eq_true rfl) (by decide +kernel) (fun r1 h2 => ?_)
  refine gx_g (fun c3 => ?_)
  refine gx_if_ne (off := 5) (tgt := 9) c3 (by decide +kernel) (by decide) ?_ ?_
  · refine gx_iload_n (i := 1) (by decide +kernel) rfl ?_
    refine gx_iconst (n := 4) (by decide +kernel) ?_
    refine gx_g (fun c4 => ?_)
    refine gx_icmp_ne (off := 10) (tgt := 21) c4 (by decide) (by decide +kernel) (by decide) ?_ ?_
    · refine gx_iload_n (i := 1) (by decide +kernel) rfl ?_
      refine gx_iconst (n := 5) (by decide +kernel) ?_
      refine gx_icmp_ne (off := 10) (tgt := 33) c4 (by decide) (by decide +kernel) (by decide) ?_ ?_
      · refine gx_aload_n (i := 0) (by decide +kernel) rfl ?_
        refine gx_cVi0 (Mc := gm_MD_far) (u' := (0, 0)) (c_MD_far _ _) vk_MD_far ml_MD_184 rfl rfl ⟨by decide, by decide, by decide, by decide⟩ (Nat.le_of_ble_eq_true rfl) (by decide +kernel) (fun r5 h6 => ?_)
        exact gx_ireturn rfl rfl (by decide +kernel)
      · refine gx_aload_n (i := 0) (by decide +kernel) rfl ?_
        refine gx_cVi0 (Mc := gm_MD_allLetters) (u' := (0, 0)) (c_MD_allLetters _ _) vk_MD_allLetters ml_MD_180 rfl rfl ⟨by decide, by decide, by decide, by decide⟩ (Nat.le_of_ble_eq_true rfl) (by decide +kernel) (fun r7 h8 => ?_)
        refine gx_goto (off := 7) (tgt := 37) (by decide +kernel) (by decide) ?_
        exact gx_ireturn rfl rfl (by decide +kernel)
    · refine gx_aload_n (i := 0) (by decide +kernel) rfl ?_
      refine gx_geti gk_MD (by decide) fl_MD_150 (Or.inl rfl) (by decide +kernel) (fun c10 => ?_)
      refine gx_goto (off := 19) (tgt := 37) (by decide +kernel) (by decide) ?_
      exact gx_ireturn rfl rfl (by decide +kernel)
  · refine gx_iconst (n := (-1)) (by decide +kernel) ?_
    exact gx_ireturn rfl rfl (by decide +kernel)
def f_MD_stand (h : gx_H) (l0 : Nat) (l1 : Int) (l2 : Int) : Option (Int × gx_H) :=
  gq_cv h l0 1 (f_MD_walk h l0) (fun r1 h2 => gq_g (gx_i r1) (if r1 = 0 then some ((-1000000001), h2) else gq_get h2 l0 1 22 (fun v4 => gq_call (f_MD_in h2 l1 0 (v4 - 1)) (fun r6 h7 => gq_g (gx_i r6) (if r6 = 0 then some ((-1000000001), h7) else gq_g (gx_i l2) (if l2 = 0 then gq_gr h7 l0 1 19 (fun o11 => gq_ald 0 h7 o11 l1 (fun v12 => some (v12, h7))) else if l2 = 1 then gq_gr h7 l0 1 20 (fun o15 => gq_ald 0 h7 o15 l1 (fun v16 => some (v16, h7))) else if l2 = 2 then gq_gr h7 l0 1 21 (fun o19 => gq_ald 0 h7 o19 l1 (fun v20 => some (v20, h7))) else some ((-1000000002), h7)))))))
set_option maxHeartbeats 4000000 in
set_option maxRecDepth 100000 in
theorem c_MD_stand (h : gx_H) (l0 : Nat) (l1 : Int) (l2 : Int) : ∀ r h1, f_MD_stand h l0 l1 l2 = some (r, h1) → gx_Met gm_MD_stand [gx_R l0, gx_I l1, gx_I l2] h r h1 := by
  refine gx_enter (l := [some (gx_R l0), some (gx_I l1), some (gx_I l2)]) (by decide) (Nat.le_of_ble_eq_true rfl) rfl ?_
  unfold f_MD_stand
  refine gx_aload_n (i := 0) (by decide +kernel) rfl ?_
  refine gx_cVi0 (Mc := gm_MD_walk) (u' := (0, 0)) (c_MD_walk _ _) vk_MD_walk ml_MD_177 rfl rfl ⟨by decide, by decide, by decide, by decide⟩ (Nat.le_of_ble_eq_true rfl) (by decide +kernel) (fun r1 h2 => ?_)
  refine gx_g (fun c3 => ?_)
  refine gx_if_eq (off := 17) (tgt := 21) c3 (by decide +kernel) (by decide) ?_ ?_
  · refine gx_ldc (a := (-1000000001)) kc_MD_187 (by decide +kernel) ?_
    exact gx_ireturn rfl rfl (by decide +kernel)
  · refine gx_iload_n (i := 1) (by decide +kernel) rfl ?_
    refine gx_iconst (n := 0) (by decide +kernel) ?_
    refine gx_aload_n (i := 0) (by decide +kernel) rfl ?_
    refine gx_geti gk_MD (by decide) fl_MD_150 (Or.inl rfl) (by decide +kernel) (fun c5 => ?_)
    refine gx_iconst (n := 1) (by decide +kernel) ?_
    refine gx_isub (by decide +kernel) ?_
    refine gx_cSi3 (Mc := gm_MD_in) (u' := (0, 0)) (c_MD_in _ _ _ _) sk_MD_in ml_MD_68 rfl rfl ⟨by decide, by decide, by decide, by decide⟩ (Nat.le_of_ble_eq_true rfl) (by decide +kernel) (fun r6 h7 => ?_)
    refine gx_g (fun c8 => ?_)
    refine gx_if_ne (off := 6) (tgt := 24) c8 (by decide +kernel) (by decide) ?_ ?_
    · refine gx_iload_n (i := 2) (by decide +kernel) rfl ?_
      refine gx_g (fun c9 => ?_)
      refine gx_ite (fun c10 => ?_) (fun c10 => ?_)
      · refine gx_swIn (dflt := 48) (lo := 0) (hi := 2) (offs := #[27, 34, 41]) (len := 27) (off := 27) (tgt := 52) c9 (by decide +kernel) (by rw [c10]; decide) (by rw [c10]; decide) (by rw [c10]; decide) (by decide) ?_
        refine gx_aload_n (i := 0) (by decide +kernel) rfl ?_
        refine gx_getr gk_MD (by decide) fl_MD_44 rfl (by decide +kernel) ?_
        refine gx_iload_n (i := 1) (by decide +kernel) rfl ?_
        refine gx_ialdi (by decide +kernel) (fun c13 => ?_)
        exact gx_ireturn rfl rfl (by decide +kernel)
      · refine gx_ite (fun c14 => ?_) (fun c14 => ?_)
        · refine gx_swIn (dflt := 48) (lo := 0) (hi := 2) (offs := #[27, 34, 41]) (len := 27) (off := 34) (tgt := 59) c9 (by decide +kernel) (by rw [c14]; decide) (by rw [c14]; decide) (by rw [c14]; decide) (by decide) ?_
          refine gx_aload_n (i := 0) (by decide +kernel) rfl ?_
          refine gx_getr gk_MD (by decide) fl_MD_47 rfl (by decide +kernel) ?_
          refine gx_iload_n (i := 1) (by decide +kernel) rfl ?_
          refine gx_ialdi (by decide +kernel) (fun c17 => ?_)
          exact gx_ireturn rfl rfl (by decide +kernel)
        · refine gx_ite (fun c18 => ?_) (fun c18 => ?_)
          · refine gx_swIn (dflt := 48) (lo := 0) (hi := 2) (offs := #[27, 34, 41]) (len := 27) (off := 41) (tgt := 66) c9 (by decide +kernel) (by rw [c18]; decide) (by rw [c18]; decide) (by rw [c18]; decide) (by decide) ?_
            refine gx_aload_n (i := 0) (by decide +kernel) rfl ?_
            refine gx_getr gk_MD (by decide) fl_MD_50 rfl (by decide +kernel) ?_
            refine gx_iload_n (i := 1) (by decide +kernel) rfl ?_
            refine gx_ialdi (by decide +kernel) (fun c21 => ?_)
            exact gx_ireturn rfl rfl (by decide +kernel)
          · refine gx_swOut (dflt := 48) (lo := 0) (hi := 2) (offs := #[27, 34, 41]) (len := 27) (tgt := 73) c9 (by decide +kernel) (by omega) (by decide) ?_
            refine gx_ldc (a := (-1000000002)) kc_MD_188 (by decide +kernel) ?_
            exact gx_ireturn rfl rfl (by decide +kernel)
    · refine gx_ldc (a := (-1000000001)) kc_MD_187 (by decide +kernel) ?_
      exact gx_ireturn rfl rfl (by decide +kernel)
def f_MD_next (h : gx_H) (l0 : Nat) (l1 : Int) (l2 : Int) : Option (Int × gx_H) :=
  gq_cv h l0 1 (f_MD_isLetter h l0 l2) (fun r1 h2 => gq_g (gx_i r1) (if r1 = 0 then some ((-1000000001), h2) else gq_cv h2 l0 1 (f_MD_walk h2 l0) (fun r4 h5 => gq_g (gx_i r4) (if r4 = 0 then some ((-1000000001), h5) else gq_get h5 l0 1 22 (fun v7 => gq_call (f_MD_in h5 l1 0 (v7 - 1)) (fun r9 h10 => gq_g (gx_i r9) (if r9 = 0 then some ((-1000000001), h10) else gq_gr h10 l0 1 18 (fun o12 => gq_ald 0 h10 o12 ((4 * l1) + l2) (fun v13 => some (v13, h10))))))))))
set_option maxHeartbeats 4000000 in
set_option maxRecDepth 100000 in
theorem c_MD_next (h : gx_H) (l0 : Nat) (l1 : Int) (l2 : Int) : ∀ r h1, f_MD_next h l0 l1 l2 = some (r, h1) → gx_Met gm_MD_next [gx_R l0, gx_I l1, gx_I l2] h r h1 := by
  refine gx_enter (l := [some (gx_R l0), some (gx_I l1), some (gx_I l2)]) (by decide) (Nat.le_of_ble_eq_true rfl) rfl ?_
  unfold f_MD_next
  refine gx_aload_n (i := 0) (by decide +kernel) rfl ?_
  refine gx_iload_n (i := 2) (by decide +kernel) rfl ?_
  refine gx_cVi1 (Mc := gm_MD_isLetter) (u' := (0, 0)) (c_MD_isLetter _ _ _) vk_MD_isLetter ml_MD_189 rfl rfl ⟨by decide, by decide, by decide, by decide⟩ (Nat.le_of_ble_eq_true rfl) (by decide +kernel) (fun r1 h2 => ?_)
  refine gx_g (fun c3 => ?_)
  refine gx_if_eq (off := 24) (tgt := 29) c3 (by decide +kernel) (by decide) ?_ ?_
  · refine gx_ldc (a := (-1000000001)) kc_MD_187 (by decide +kernel) ?_
    exact gx_ireturn rfl rfl (by decide +kernel)
  · refine gx_aload_n (i := 0) (by decide +kernel) rfl ?_
    refine gx_cVi0 (Mc := gm_MD_walk) (u' := (0, 0)) (c_MD_walk _ _) vk_MD_walk ml_MD_177 rfl rfl ⟨by decide, by decide, by decide, by decide⟩ (Nat.le_of_ble_eq_true rfl) (by decide +kernel) (fun r4 h5 => ?_)
    refine gx_g (fun c6 => ?_)
    refine gx_if_eq (off := 17) (tgt := 29) c6 (by decide +kernel) (by decide) ?_ ?_
    · refine gx_ldc (a := (-1000000001)) kc_MD_187 (by decide +kernel) ?_
      exact gx_ireturn rfl rfl (by decide +kernel)
    · refine gx_iload_n (i := 1) (by decide +kernel) rfl ?_
      refine gx_iconst (n := 0) (by decide +kernel) ?_
      refine gx_aload_n (i := 0) (by decide +kernel) rfl ?_
      refine gx_geti gk_MD (by decide) fl_MD_150 (Or.inl rfl) (by decide +kernel) (fun c8 => ?_)
      refine gx_iconst (n := 1) (by decide +kernel) ?_
      refine gx_isub (by decide +kernel) ?_
      refine gx_cSi3 (Mc := gm_MD_in) (u' := (0, 0)) (c_MD_in _ _ _ _) sk_MD_in ml_MD_68 rfl rfl ⟨by decide, by decide, by decide, by decide⟩ (Nat.le_of_ble_eq_true rfl) (by decide +kernel) (fun r9 h10 => ?_)
      refine gx_g (fun c11 => ?_)
      refine gx_if_ne (off := 6) (tgt := 32) c11 (by decide +kernel) (by decide) ?_ ?_
      · refine gx_aload_n (i := 0) (by decide +kernel) rfl ?_
        refine gx_getr gk_MD (by decide) fl_MD_41 rfl (by decide +kernel) ?_
        refine gx_iconst (n := 4) (by decide +kernel) ?_
        refine gx_iload_n (i := 1) (by decide +kernel) rfl ?_
        refine gx_imul (by decide +kernel) ?_
        refine gx_iload_n (i := 2) (by decide +kernel) rfl ?_
        refine gx_iadd (by decide +kernel) ?_
        refine gx_ialdi (by decide +kernel) (fun c14 => ?_)
        exact gx_ireturn rfl rfl (by decide +kernel)
      · refine gx_ldc (a := (-1000000001)) kc_MD_187 (by decide +kernel) ?_
        exact gx_ireturn rfl rfl (by decide +kernel)
def fb_MD_away_37 (N13 : gx_H → Nat → Int → Int → Int → Option (Int × gx_H)) (h : gx_H) (l0 : Nat) (l1 : Int) (l3 : Int) (t0 : Int) (t1 : Int) : Option (Int × gx_H) :=
  N13 h l0 l1 (t0 + t1) (l3 + 1)
set_option maxHeartbeats 4000000 in
set_option maxRecDepth 100000 in
theorem y_MD_away_37 (N13 : gx_H → Nat → Int → Int → Int → Option (Int × gx_H)) (hN13 : ∀ (h : gx_H) (l0 : Nat) (l1 : Int) (l2 : Int) (l3 : Int), gx_Y gm_MD_away (0, 0) 13 [some (gx_R l0), some (gx_I l1), some (gx_I l2), some (gx_I l3)] [] h (N13 h l0 l1 l2 l3)) (h : gx_H) (l0 : Nat) (l1 : Int) (l3 : Int) (t0 : Int) (t1 : Int) : gx_Y gm_MD_away (0, 0) 37 [some (gx_R l0), some (gx_I l1), none, some (gx_I l3)] [gx_I t1, gx_I t0] h (fb_MD_away_37 N13 h l0 l1 l3 t0 t1) := by
  unfold fb_MD_away_37
  refine gx_iadd (by decide +kernel) ?_
  refine gx_istore_n (i := 2) (l' := [some (gx_R _), some (gx_I _), some (gx_I _), some (gx_I _)]) (by decide +kernel) rfl (Nat.le_of_ble_eq_true rfl) (by decide) rfl ?_
  refine gx_iinc (i := 3) (n := 1) (l' := [some (gx_R _), some (gx_I _), some (gx_I _), some (gx_I _)]) (by decide +kernel) rfl rfl (Nat.le_of_ble_eq_true rfl) (by decide) rfl ?_
  refine gx_goto (off := -29) (tgt := 13) (by decide +kernel) (by decide) ?_
  exact gx_less' (hN13 _ _ _ _ _) ⟨rfl, rfl, rfl, rfl, trivial⟩
def fb_MD_away_13 (N13 : gx_H → Nat → Int → Int → Int → Option (Int × gx_H)) (h : gx_H) (l0 : Nat) (l1 : Int) (l2 : Int) (l3 : Int) : Option (Int × gx_H) :=
  gq_get h l0 1 22 (fun v1 => gq_g (gx_i l3) (if l3 < v1 then gq_gr h l0 1 19 (fun o4 => gq_ald 0 h o4 l3 (fun v5 => gq_g (gx_i l1) (if v5 = l1 then fb_MD_away_37 N13 h l0 l1 l3 l2 1 else fb_MD_away_37 N13 h l0 l1 l3 l2 0))) else some (l2, h)))
set_option maxHeartbeats 4000000 in
set_option maxRecDepth 100000 in
theorem yb_MD_away_13 (N13 : gx_H → Nat → Int → Int → Int → Option (Int × gx_H)) (hN13 : ∀ (h : gx_H) (l0 : Nat) (l1 : Int) (l2 : Int) (l3 : Int), gx_Y gm_MD_away (0, 0) 13 [some (gx_R l0), some (gx_I l1), some (gx_I l2), some (gx_I l3)] [] h (N13 h l0 l1 l2 l3)) (h : gx_H) (l0 : Nat) (l1 : Int) (l2 : Int) (l3 : Int) : gx_Y gm_MD_away (0, 0) 13 [some (gx_R l0), some (gx_I l1), some (gx_I l2), some (gx_I l3)] [] h (fb_MD_away_13 N13 h l0 l1 l2 l3) := by
  unfold fb_MD_away_13
  refine gx_iload_n (i := 3) (by decide +kernel) rfl ?_
  refine gx_aload_n (i := 0) (by decide +kernel) rfl ?_
  refine gx_geti gk_MD (by decide) fl_MD_150 (Or.inl rfl) (by decide +kernel) (fun c2 => ?_)
  refine gx_g (fun c3 => ?_)
  refine gx_icmp_ge (off := 27) (tgt := 45) c3 c2 (by decide +kernel) (by decide) ?_ ?_
  · refine gx_iload_n (i := 2) (by decide +kernel) rfl ?_
    exact gx_ireturn rfl rfl (by decide +kernel)
  · refine gx_iload_n (i := 2) (by decide +kernel) rfl ?_
    refine gx_aload_n (i := 0) (by decide +kernel) rfl ?_
    refine gx_getr gk_MD (by decide) fl_MD_44 rfl (by decide +kernel) ?_
    refine gx_iload_n (i := 3) (by decide +kernel) rfl ?_
    refine gx_ialdi (by decide +kernel) (fun c6 => ?_)
    refine gx_iload_n (i := 1) (by decide +kernel) rfl ?_
    refine gx_g (fun c7 => ?_)
    refine gx_icmp_ne (off := 7) (tgt := 36) c6 c7 (by decide +kernel) (by decide) ?_ ?_
    · refine gx_iconst (n := 0) (by decide +kernel) ?_
      exact gx_less' (y_MD_away_37 _ hN13 _ _ _ _ _ _) ⟨rfl, rfl, rfl, trivial⟩
    · refine gx_iconst (n := 1) (by decide +kernel) ?_
      refine gx_goto (off := 4) (tgt := 37) (by decide +kernel) (by decide) ?_
      exact gx_less' (y_MD_away_37 _ hN13 _ _ _ _ _ _) ⟨rfl, rfl, rfl, trivial⟩
def f_MD_away_13 : Nat → gx_H → Nat → Int → Int → Int → Option (Int × gx_H)
  | 0 => fun _ _ _ _ _ => none
  | fu + 1 => fb_MD_away_13 (f_MD_away_13 fu)
theorem y_MD_away_13 : ∀ (fu : Nat) (h : gx_H) (l0 : Nat) (l1 : Int) (l2 : Int) (l3 : Int), gx_Y gm_MD_away (0, 0) 13 [some (gx_R l0), some (gx_I l1), some (gx_I l2), some (gx_I l3)] [] h (f_MD_away_13 fu h l0 l1 l2 l3) := by
  intro fu
  induction fu with
  | zero => intro h l0 l1 l2 l3; exact gx_none
  | succ fu ih => intro h l0 l1 l2 l3; exact yb_MD_away_13 (f_MD_away_13 fu) ih h l0 l1 l2 l3
def f_MD_away (h : gx_H) (l0 : Nat) (l1 : Int) : Option (Int × gx_H) :=
  gq_cv h l0 1 (f_MD_walk h l0) (fun r1 h2 => gq_g (gx_i r1) (if r1 = 0 then some ((-1), h2) else f_MD_away_13 gx_fu h2 l0 l1 0 0))
set_option maxHeartbeats 4000000 in
set_option maxRecDepth 100000 in
theorem c_MD_away (h : gx_H) (l0 : Nat) (l1 : Int) : ∀ r h1, f_MD_away h l0 l1 = some (r, h1) → gx_Met gm_MD_away [gx_R l0, gx_I l1] h r h1 := by
  refine gx_enter (l := [some (gx_R l0), some (gx_I l1), none, none]) (by decide) (Nat.le_of_ble_eq_true rfl) rfl ?_
  unfold f_MD_away
  refine gx_aload_n (i := 0) (by decide +kernel) rfl ?_
  refine gx_cVi0 (Mc := gm_MD_walk) (u' := (0, 0)) (c_MD_walk _ _) vk_MD_walk ml_MD_177 rfl rfl ⟨by decide, by decide, by decide, by decide⟩ (Nat.le_of_ble_eq_true rfl) (by decide +kernel) (fun r1 h2 => ?_)
  refine gx_g (fun c3 => ?_)
  refine gx_if_ne (off := 5) (tgt := 9) c3 (by decide +kernel) (by decide) ?_ ?_
  · refine gx_iconst (n := 0) (by decide +kernel) ?_
    refine gx_istore_n (i := 2) (l' := [some (gx_R _), some (gx_I _), some (gx_I _), none]) (by decide +kernel) rfl (Nat.le_of_ble_eq_true rfl) (by decide) rfl ?_
    refine gx_iconst (n := 0) (by decide +kernel) ?_
    refine gx_istore_n (i := 3) (l' := [some (gx_R _), some (gx_I _), some (gx_I _), some (gx_I _)]) (by decide +kernel) rfl (Nat.le_of_ble_eq_true rfl) (by decide) rfl ?_
    exact gx_less' (y_MD_away_13 gx_fu _ _ _ _ _) ⟨rfl, rfl, rfl, rfl, trivial⟩
  · refine gx_iconst (n := (-1)) (by decide +kernel) ?_
    exact gx_ireturn rfl rfl (by decide +kernel)
def f_MD_standRow (h : gx_H) (l0 : Nat) (l1 : Int) (l2 : Int) (l3 : Int) : Option (Int × gx_H) :=
  gq_cv h l0 1 (f_MD_isLetter h l0 l2) (fun r1 h2 => gq_g (gx_i r1) (if r1 = 0 then some ((-1000000001), h2) else gq_cv h2 l0 1 (f_MD_walk h2 l0) (fun r4 h5 => gq_g (gx_i r4) (if r4 = 0 then some ((-1000000001), h5) else gq_get h5 l0 1 22 (fun v7 => gq_call (f_MD_in h5 l1 0 (v7 - 1)) (fun r9 h10 => gq_g (gx_i r9) (if r9 = 0 then some ((-1000000001), h10) else gq_get h10 l0 1 1 (fun v12 => gq_call (f_MD_in h10 l3 0 (v12 - 1)) (fun r14 h15 => gq_g (gx_i r14) (if r14 = 0 then some ((-1000000002), h15) else gq_gr h15 l0 1 17 (fun o17 => gq_ald 0 h15 o17 (((16 * l1) + (4 * l2)) + l3) (fun v18 => some ((v18 + 1000), h15)))))))))))))
set_option maxHeartbeats 4000000 in
set_option maxRecDepth 100000 in
theorem c_MD_standRow (h : gx_H) (l0 : Nat) (l1 : Int) (l2 : Int) (l3 : Int) : ∀ r h1, f_MD_standRow h l0 l1 l2 l3 = some (r, h1) → gx_Met gm_MD_standRow [gx_R l0, gx_I l1, gx_I l2, gx_I l3] h r h1 := by
  refine gx_enter (l := [some (gx_R l0), some (gx_I l1), some (gx_I l2), some (gx_I l3)]) (by decide) (Nat.le_of_ble_eq_true rfl) rfl ?_
  unfold f_MD_standRow
  refine gx_aload_n (i := 0) (by decide +kernel) rfl ?_
  refine gx_iload_n (i := 2) (by decide +kernel) rfl ?_
  refine gx_cVi1 (Mc := gm_MD_isLetter) (u' := (0, 0)) (c_MD_isLetter _ _ _) vk_MD_isLetter ml_MD_189 rfl rfl ⟨by decide, by decide, by decide, by decide⟩ (Nat.le_of_ble_eq_true rfl) (by decide +kernel) (fun r1 h2 => ?_)
  refine gx_g (fun c3 => ?_)
  refine gx_if_eq (off := 24) (tgt := 29) c3 (by decide +kernel) (by decide) ?_ ?_
  · refine gx_ldc (a := (-1000000001)) kc_MD_187 (by decide +kernel) ?_
    exact gx_ireturn rfl rfl (by decide +kernel)
  · refine gx_aload_n (i := 0) (by decide +kernel) rfl ?_
    refine gx_cVi0 (Mc := gm_MD_walk) (u' := (0, 0)) (c_MD_walk _ _) vk_MD_walk ml_MD_177 rfl rfl ⟨by decide, by decide, by decide, by decide⟩ (Nat.le_of_ble_eq_true rfl) (by decide +kernel) (fun r4 h5 => ?_)
    refine gx_g (fun c6 => ?_)
    refine gx_if_eq (off := 17) (tgt := 29) c6 (by decide +kernel) (by decide) ?_ ?_
    · refine gx_ldc (a := (-1000000001)) kc_MD_187 (by decide +kernel) ?_
      exact gx_ireturn rfl rfl (by decide +kernel)
    · refine gx_iload_n (i := 1) (by decide +kernel) rfl ?_
      refine gx_iconst (n := 0) (by decide +kernel) ?_
      refine gx_aload_n (i := 0) (by decide +kernel) rfl ?_
      refine gx_geti gk_MD (by decide) fl_MD_150 (Or.inl rfl) (by decide +kernel) (fun c8 => ?_)
      refine gx_iconst (n := 1) (by decide +kernel) ?_
      refine gx_isub (by decide +kernel) ?_
      refine gx_cSi3 (Mc := gm_MD_in) (u' := (0, 0)) (c_MD_in _ _ _ _) sk_MD_in ml_MD_68 rfl rfl ⟨by decide, by decide, by decide, by decide⟩ (Nat.le_of_ble_eq_true rfl) (by decide +kernel) (fun r9 h10 => ?_)
      refine gx_g (fun c11 => ?_)
      refine gx_if_ne (off := 6) (tgt := 32) c11 (by decide +kernel) (by decide) ?_ ?_
      · refine gx_iload_n (i := 3) (by decide +kernel) rfl ?_
        refine gx_iconst (n := 0) (by decide +kernel) ?_
        refine gx_aload_n (i := 0) (by decide +kernel) rfl ?_
        refine gx_geti gk_MD (by decide) fl_MD_13 (Or.inl rfl) (by decide +kernel) (fun c13 => ?_)
        refine gx_iconst (n := 1) (by decide +kernel) ?_
        refine gx_isub (by decide +kernel) ?_
        refine gx_cSi3 (Mc := gm_MD_in) (u' := (0, 0)) (c_MD_in _ _ _ _) sk_MD_in ml_MD_68 rfl rfl ⟨by decide, by decide, by decide, by decide⟩ (Nat.le_of_ble_eq_true rfl) (by decide +kernel) (fun r14 h15 => ?_)
        refine gx_g (fun c16 => ?_)
        refine gx_if_eq (off := 25) (tgt := 68) c16 (by decide +kernel) (by decide) ?_ ?_
        · refine gx_ldc (a := (-1000000002)) kc_MD_188 (by decide +kernel) ?_
          exact gx_ireturn rfl rfl (by decide +kernel)
        · refine gx_aload_n (i := 0) (by decide +kernel) rfl ?_
          refine gx_getr gk_MD (by decide) fl_MD_38 rfl (by decide +kernel) ?_
          refine gx_bipush (n := 16) (by decide +kernel) (by decide) ?_
          refine gx_iload_n (i := 1) (by decide +kernel) rfl ?_
          refine gx_imul (by decide +kernel) ?_
          refine gx_iconst (n := 4) (by decide +kernel) ?_
          refine gx_iload_n (i := 2) (by decide +kernel) rfl ?_
          refine gx_imul (by decide +kernel) ?_
          refine gx_iadd (by decide +kernel) ?_
          refine gx_iload_n (i := 3) (by decide +kernel) rfl ?_
          refine gx_iadd (by decide +kernel) ?_
          refine gx_ialdi (by decide +kernel) (fun c19 => ?_)
          refine gx_sipush (n := 1000) (by decide +kernel) (by decide) ?_
          refine gx_iadd (by decide +kernel) ?_
          refine gx_goto (off := 5) (tgt := 70) (by decide +kernel) (by decide) ?_
          exact gx_ireturn rfl rfl (by decide +kernel)
      · refine gx_ldc (a := (-1000000001)) kc_MD_187 (by decide +kernel) ?_
        exact gx_ireturn rfl rfl (by decide +kernel)
def fb_MD_isHome_12 (N2 : gx_H → Nat → Int → Option (Int × gx_H)) (N12 : gx_H → Nat → Int → Int → Option (Int × gx_H)) (h : gx_H) (l0 : Nat) (l1 : Int) (l2 : Int) : Option (Int × gx_H) :=
  gq_get h l0 1 1 (fun v1 => gq_g (gx_i l2) (if l2 < v1 then gq_gr h l0 1 0 (fun o4 => gq_cv h l0 1 (f_MD_rankedAt h l0 0 l1) (fun r5 h6 => gq_ald 0 h6 o4 ((24 + (4 * r5)) + l2) (fun v7 => gq_gr h6 l0 1 0 (fun o9 => gq_cv h6 l0 1 (f_MD_rankedAt h6 l0 1920 l1) (fun r10 h11 => gq_ald 0 h11 o9 ((1944 + (4 * r10)) + l2) (fun v12 => if v7 = v12 then N12 h11 l0 l1 (l2 + 1) else some (0, h11))))))) else N2 h l0 (l1 + 1)))
set_option maxHeartbeats 4000000 in
set_option maxRecDepth 100000 in
theorem yb_MD_isHome_12 (N2 : gx_H → Nat → Int → Option (Int × gx_H)) (hN2 : ∀ (h : gx_H) (l0 : Nat) (l1 : Int), gx_Y gm_MD_isHome (0, 0) 2 [some (gx_R l0), some (gx_I l1), none] [] h (N2 h l0 l1)) (N12 : gx_H → Nat → Int → Int → Option (Int × gx_H)) (hN12 : ∀ (h : gx_H) (l0 : Nat) (l1 : Int) (l2 : Int), gx_Y gm_MD_isHome (0, 0) 12 [some (gx_R l0), some (gx_I l1), some (gx_I l2)] [] h (N12 h l0 l1 l2)) (h : gx_H) (l0 : Nat) (l1 : Int) (l2 : Int) : gx_Y gm_MD_isHome (0, 0) 12 [some (gx_R l0), some (gx_I l1), some (gx_I l2)] [] h (fb_MD_isHome_12 N2 N12 h l0 l1 l2) := by
  unfold fb_MD_isHome_12
  refine gx_iload_n (i := 2) (by decide +kernel) rfl ?_
  refine gx_aload_n (i := 0) (by decide +kernel) rfl ?_
  refine gx_geti gk_MD (by decide) fl_MD_13 (Or.inl rfl) (by decide +kernel) (fun c2 => ?_)
  refine gx_g (fun c3 => ?_)
  refine gx_icmp_ge (off := 53) (tgt := 70) c3 c2 (by decide +kernel) (by decide) ?_ ?_
  · refine gx_iinc (i := 1) (n := 1) (l' := [some (gx_R _), some (gx_I _), some (gx_I _)]) (by decide +kernel) rfl rfl (Nat.le_of_ble_eq_true rfl) (by decide) rfl ?_
    refine gx_goto (off := -71) (tgt := 2) (by decide +kernel) (by decide) ?_
    exact gx_less' (hN2 _ _ _) ⟨rfl, rfl, trivial⟩
  · refine gx_aload_n (i := 0) (by decide +kernel) rfl ?_
    refine gx_getr gk_MD (by decide) fl_MD_7 rfl (by decide +kernel) ?_
    refine gx_bipush (n := 24) (by decide +kernel) (by decide) ?_
    refine gx_iconst (n := 4) (by decide +kernel) ?_
    refine gx_aload_n (i := 0) (by decide +kernel) rfl ?_
    refine gx_iconst (n := 0) (by decide +kernel) ?_
    refine gx_iload_n (i := 1) (by decide +kernel) rfl ?_
    refine gx_cVi2 (Mc := gm_MD_rankedAt) (u' := (0, 0)) (c_MD_rankedAt _ _ _ _) vk_MD_rankedAt ml_MD_144 rfl rfl ⟨by decide, by decide, by decide, by decide⟩ (Nat.le_of_ble_eq_true rfl) (by decide +kernel) (fun r5 h6 => ?_)
    refine gx_imul (by decide +kernel) ?_
    refine gx_iadd (by decide +kernel) ?_
    refine gx_iload_n (i := 2) (by decide +kernel) rfl ?_
    refine gx_iadd (by decide +kernel) ?_
    refine gx_ialdi (by decide +kernel) (fun c8 => ?_)
    refine gx_aload_n (i := 0) (by decide +kernel) rfl ?_
    refine gx_getr gk_MD (by decide) fl_MD_7 rfl (by decide +kernel) ?_
    refine gx_sipush (n := 1944) (by decide +kernel) (by decide) ?_
    refine gx_iconst (n := 4) (by decide +kernel) ?_
    refine gx_aload_n (i := 0) (by decide +kernel) rfl ?_
    refine gx_sipush (n := 1920) (by decide +kernel) (by decide) ?_
    refine gx_iload_n (i := 1) (by decide +kernel) rfl ?_
    refine gx_cVi2 (Mc := gm_MD_rankedAt) (u' := (0, 0)) (c_MD_rankedAt _ _ _ _) vk_MD_rankedAt ml_MD_144 rfl rfl ⟨by decide, by decide, by decide, by decide⟩ (Nat.le_of_ble_eq_true rfl) (by decide +kernel) (fun r10 h11 => ?_)
    refine gx_imul (by decide +kernel) ?_
    refine gx_iadd (by decide +kernel) ?_
    refine gx_iload_n (i := 2) (by decide +kernel) rfl ?_
    refine gx_iadd (by decide +kernel) ?_
    refine gx_ialdi (by decide +kernel) (fun c13 => ?_)
    refine gx_icmp_eq (off := 5) (tgt := 64) c8 c13 (by decide +kernel) (by decide) ?_ ?_
    · refine gx_iinc (i := 2) (n := 1) (l' := [some (gx_R _), some (gx_I _), some (gx_I _)]) (by decide +kernel) rfl rfl (Nat.le_of_ble_eq_true rfl) (by decide) rfl ?_
      refine gx_goto (off := -55) (tgt := 12) (by decide +kernel) (by decide) ?_
      exact gx_less' (hN12 _ _ _ _) ⟨rfl, rfl, rfl, trivial⟩
    · refine gx_iconst (n := 0) (by decide +kernel) ?_
      exact gx_zreturn (by decide) rfl rfl (by decide +kernel)
def f_MD_isHome_12 (N2 : gx_H → Nat → Int → Option (Int × gx_H)) : Nat → gx_H → Nat → Int → Int → Option (Int × gx_H)
  | 0 => fun _ _ _ _ => none
  | fu + 1 => fb_MD_isHome_12 N2 (f_MD_isHome_12 N2 fu)
theorem y_MD_isHome_12 (N2 : gx_H → Nat → Int → Option (Int × gx_H)) (hN2 : ∀ (h : gx_H) (l0 : Nat) (l1 : Int), gx_Y gm_MD_isHome (0, 0) 2 [some (gx_R l0), some (gx_I l1), none] [] h (N2 h l0 l1)) : ∀ (fu : Nat) (h : gx_H) (l0 : Nat) (l1 : Int) (l2 : Int), gx_Y gm_MD_isHome (0, 0) 12 [some (gx_R l0), some (gx_I l1), some (gx_I l2)] [] h (f_MD_isHome_12 N2 fu h l0 l1 l2) := by
  intro fu
  induction fu with
  | zero => intro h l0 l1 l2; exact gx_none
  | succ fu ih => intro h l0 l1 l2; exact yb_MD_isHome_12 N2 hN2 (f_MD_isHome_12 N2 fu) ih h l0 l1 l2
def fb_MD_isHome_2 (N2 : gx_H → Nat → Int → Option (Int × gx_H)) (h : gx_H) (l0 : Nat) (l1 : Int) : Option (Int × gx_H) :=
  gq_get h l0 1 1 (fun v1 => gq_g (gx_i l1) (if l1 < v1 then f_MD_isHome_12 N2 gx_fu h l0 l1 0 else some (1, h)))
set_option maxHeartbeats 4000000 in
set_option maxRecDepth 100000 in
theorem yb_MD_isHome_2 (N2 : gx_H → Nat → Int → Option (Int × gx_H)) (hN2 : ∀ (h : gx_H) (l0 : Nat) (l1 : Int), gx_Y gm_MD_isHome (0, 0) 2 [some (gx_R l0), some (gx_I l1), none] [] h (N2 h l0 l1)) (h : gx_H) (l0 : Nat) (l1 : Int) : gx_Y gm_MD_isHome (0, 0) 2 [some (gx_R l0), some (gx_I l1), none] [] h (fb_MD_isHome_2 N2 h l0 l1) := by
  unfold fb_MD_isHome_2
  refine gx_iload_n (i := 1) (by decide +kernel) rfl ?_
  refine gx_aload_n (i := 0) (by decide +kernel) rfl ?_
  refine gx_geti gk_MD (by decide) fl_MD_13 (Or.inl rfl) (by decide +kernel) (fun c2 => ?_)
  refine gx_g (fun c3 => ?_)
  refine gx_icmp_ge (off := 69) (tgt := 76) c3 c2 (by decide +kernel) (by decide) ?_ ?_
  · refine gx_iconst (n := 1) (by decide +kernel) ?_
    exact gx_zreturn (by decide) rfl rfl (by decide +kernel)
  · refine gx_iconst (n := 0) (by decide +kernel) ?_
    refine gx_istore_n (i := 2) (l' := [some (gx_R _), some (gx_I _), some (gx_I _)]) (by decide +kernel) rfl (Nat.le_of_ble_eq_true rfl) (by decide) rfl ?_
    exact gx_less' (y_MD_isHome_12 _ hN2 gx_fu _ _ _ _) ⟨rfl, rfl, rfl, trivial⟩
def f_MD_isHome_2 : Nat → gx_H → Nat → Int → Option (Int × gx_H)
  | 0 => fun _ _ _ => none
  | fu + 1 => fb_MD_isHome_2 (f_MD_isHome_2 fu)
theorem y_MD_isHome_2 : ∀ (fu : Nat) (h : gx_H) (l0 : Nat) (l1 : Int), gx_Y gm_MD_isHome (0, 0) 2 [some (gx_R l0), some (gx_I l1), none] [] h (f_MD_isHome_2 fu h l0 l1) := by
  intro fu
  induction fu with
  | zero => intro h l0 l1; exact gx_none
  | succ fu ih => intro h l0 l1; exact yb_MD_isHome_2 (f_MD_isHome_2 fu) ih h l0 l1
def f_MD_isHome (h : gx_H) (l0 : Nat) : Option (Int × gx_H) :=
  f_MD_isHome_2 gx_fu h l0 0
set_option maxHeartbeats 4000000 in
set_option maxRecDepth 100000 in
theorem c_MD_isHome (h : gx_H) (l0 : Nat) : ∀ r h1, f_MD_isHome h l0 = some (r, h1) → gx_Met gm_MD_isHome [gx_R l0] h r h1 := by
  refine gx_enter (l := [some (gx_R l0), none, none]) (by decide) (Nat.le_of_ble_eq_true rfl) rfl ?_
  unfold f_MD_isHome
  refine gx_iconst (n := 0) (by decide +kernel) ?_
  refine gx_istore_n (i := 1) (l' := [some (gx_R _), some (gx_I _), none]) (by decide +kernel) rfl (Nat.le_of_ble_eq_true rfl) (by decide) rfl ?_
  exact gx_less' (y_MD_isHome_2 gx_fu _ _ _) ⟨rfl, rfl, trivial⟩
def fb_MD_byTurns_62 (N43 : gx_H → Nat → Int → Int → Int → Option (Int × gx_H)) (h : gx_H) (l0 : Nat) (l1 : Int) (l2 : Int) (l3 : Int) (t0 : Nat) (t1 : Int) : Option (Int × gx_H) :=
  gq_cv h t0 1 (f_MD_steps h t0 t1) (fun r1 h2 => gq_g (gx_i r1) (if r1 = 0 then some ((-1), h2) else gq_cv h2 l0 1 (f_MD_isHome h2 l0) (fun r4 h5 => gq_g (gx_i r4) (if r4 = 0 then N43 h5 l0 l1 l2 (l3 + 1) else some (l3, h5)))))
set_option maxHeartbeats 4000000 in
set_option maxRecDepth 100000 in
theorem y_MD_byTurns_62 (N43 : gx_H → Nat → Int → Int → Int → Option (Int × gx_H)) (hN43 : ∀ (h : gx_H) (l0 : Nat) (l1 : Int) (l2 : Int) (l3 : Int), gx_Y gm_MD_byTurns (0, 0) 43 [some (gx_R l0), some (gx_I l1), some (gx_I l2), some (gx_I l3)] [] h (N43 h l0 l1 l2 l3)) (h : gx_H) (l0 : Nat) (l1 : Int) (l2 : Int) (l3 : Int) (t0 : Nat) (t1 : Int) : gx_Y gm_MD_byTurns (0, 0) 62 [some (gx_R l0), some (gx_I l1), some (gx_I l2), some (gx_I l3)] [gx_I t1, gx_R t0] h (fb_MD_byTurns_62 N43 h l0 l1 l2 l3 t0 t1) := by
  unfold fb_MD_byTurns_62
  refine gx_cVi1 (Mc := gm_MD_steps) (u' := (0, 0)) (c_MD_steps _ _ _) vk_MD_steps ml_MD_163 rfl rfl ⟨by decide, by decide, by decide, by decide⟩ (Nat.le_of_ble_eq_true rfl) (by decide +kernel) (fun r1 h2 => ?_)
  refine gx_g (fun c3 => ?_)
  refine gx_if_ne (off := 5) (tgt := 70) c3 (by decide +kernel) (by decide) ?_ ?_
  · refine gx_aload_n (i := 0) (by decide +kernel) rfl ?_
    refine gx_cVi0 (Mc := gm_MD_isHome) (u' := (0, 0)) (c_MD_isHome _ _) vk_MD_isHome ml_MD_192 rfl rfl ⟨by decide, by decide, by decide, by decide⟩ (Nat.le_of_ble_eq_true rfl) (by decide +kernel) (fun r4 h5 => ?_)
    refine gx_g (fun c6 => ?_)
    refine gx_if_eq (off := 5) (tgt := 79) c6 (by decide +kernel) (by decide) ?_ ?_
    · refine gx_iinc (i := 3) (n := 1) (l' := [some (gx_R _), some (gx_I _), some (gx_I _), some (gx_I _)]) (by decide +kernel) rfl rfl (Nat.le_of_ble_eq_true rfl) (by decide) rfl ?_
      refine gx_goto (off := -39) (tgt := 43) (by decide +kernel) (by decide) ?_
      exact gx_less' (hN43 _ _ _ _ _) ⟨rfl, rfl, rfl, rfl, trivial⟩
    · refine gx_iload_n (i := 3) (by decide +kernel) rfl ?_
      exact gx_ireturn rfl rfl (by decide +kernel)
  · refine gx_iconst (n := (-1)) (by decide +kernel) ?_
    exact gx_ireturn rfl rfl (by decide +kernel)
def fb_MD_byTurns_43 (N43 : gx_H → Nat → Int → Int → Int → Option (Int × gx_H)) (h : gx_H) (l0 : Nat) (l1 : Int) (l2 : Int) (l3 : Int) : Option (Int × gx_H) :=
  gq_g (gx_i l3) (if 20 < l3 then some ((-1), h) else gq_g (gx_i (l3.tmod 2)) (if (l3.tmod 2) = 1 then fb_MD_byTurns_62 N43 h l0 l1 l2 l3 l0 l1 else fb_MD_byTurns_62 N43 h l0 l1 l2 l3 l0 l2))
set_option maxHeartbeats 4000000 in
set_option maxRecDepth 100000 in
theorem yb_MD_byTurns_43 (N43 : gx_H → Nat → Int → Int → Int → Option (Int × gx_H)) (hN43 : ∀ (h : gx_H) (l0 : Nat) (l1 : Int) (l2 : Int) (l3 : Int), gx_Y gm_MD_byTurns (0, 0) 43 [some (gx_R l0), some (gx_I l1), some (gx_I l2), some (gx_I l3)] [] h (N43 h l0 l1 l2 l3)) (h : gx_H) (l0 : Nat) (l1 : Int) (l2 : Int) (l3 : Int) : gx_Y gm_MD_byTurns (0, 0) 43 [some (gx_R l0), some (gx_I l1), some (gx_I l2), some (gx_I l3)] [] h (fb_MD_byTurns_43 N43 h l0 l1 l2 l3) := by
  unfold fb_MD_byTurns_43
  refine gx_iload_n (i := 3) (by decide +kernel) rfl ?_
  refine gx_bipush (n := 20) (by decide +kernel) (by decide) ?_
  refine gx_g (fun c1 => ?_)
  refine gx_icmp_gt (off := 39) (tgt := 85) c1 (by decide) (by decide +kernel) (by decide) ?_ ?_
  · refine gx_iconst (n := (-1)) (by decide +kernel) ?_
    exact gx_ireturn rfl rfl (by decide +kernel)
  · refine gx_aload_n (i := 0) (by decide +kernel) rfl ?_
    refine gx_iload_n (i := 3) (by decide +kernel) rfl ?_
    refine gx_iconst (n := 2) (by decide +kernel) ?_
    refine gx_irem c1 (by decide) (by decide) (by decide +kernel) ?_
    refine gx_iconst (n := 1) (by decide +kernel) ?_
    refine gx_g (fun c2 => ?_)
    refine gx_icmp_ne (off := 7) (tgt := 61) c2 (by decide) (by decide +kernel) (by decide) ?_ ?_
    · refine gx_iload_n (i := 2) (by decide +kernel) rfl ?_
      exact gx_less' (y_MD_byTurns_62 _ hN43 _ _ _ _ _ _ _) ⟨rfl, rfl, rfl, rfl, trivial⟩
    · refine gx_iload_n (i := 1) (by decide +kernel) rfl ?_
      refine gx_goto (off := 4) (tgt := 62) (by decide +kernel) (by decide) ?_
      exact gx_less' (y_MD_byTurns_62 _ hN43 _ _ _ _ _ _ _) ⟨rfl, rfl, rfl, rfl, trivial⟩
def f_MD_byTurns_43 : Nat → gx_H → Nat → Int → Int → Int → Option (Int × gx_H)
  | 0 => fun _ _ _ _ _ => none
  | fu + 1 => fb_MD_byTurns_43 (f_MD_byTurns_43 fu)
theorem y_MD_byTurns_43 : ∀ (fu : Nat) (h : gx_H) (l0 : Nat) (l1 : Int) (l2 : Int) (l3 : Int), gx_Y gm_MD_byTurns (0, 0) 43 [some (gx_R l0), some (gx_I l1), some (gx_I l2), some (gx_I l3)] [] h (f_MD_byTurns_43 fu h l0 l1 l2 l3) := by
  intro fu
  induction fu with
  | zero => intro h l0 l1 l2 l3; exact gx_none
  | succ fu ih => intro h l0 l1 l2 l3; exact yb_MD_byTurns_43 (f_MD_byTurns_43 fu) ih h l0 l1 l2 l3
def f_MD_byTurns (h : gx_H) (l0 : Nat) (l1 : Int) (l2 : Int) : Option (Int × gx_H) :=
  gq_cv h l0 1 (f_MD_isLetter h l0 l1) (fun r1 h2 => gq_g (gx_i r1) (if r1 = 0 then some ((-1000000001), h2) else gq_cv h2 l0 1 (f_MD_isLetter h2 l0 l2) (fun r4 h5 => gq_g (gx_i r4) (if r4 = 0 then some ((-1000000001), h5) else gq_g (gx_i l1) (gq_g (gx_i l2) (if l1 = l2 then some ((-1000000001), h5) else gq_cv h5 l0 1 (f_MD_isWell h5 l0) (fun r9 h10 => gq_g (gx_i r9) (if r9 = 0 then some ((-1), h10) else gq_cv h10 l0 1 (f_MD_copyRow h10 l0 0 1920) (fun r12 h13 => f_MD_byTurns_43 gx_fu h13 l0 l1 l2 1)))))))))
set_option maxHeartbeats 4000000 in
set_option maxRecDepth 100000 in
theorem c_MD_byTurns (h : gx_H) (l0 : Nat) (l1 : Int) (l2 : Int) : ∀ r h1, f_MD_byTurns h l0 l1 l2 = some (r, h1) → gx_Met gm_MD_byTurns [gx_R l0, gx_I l1, gx_I l2] h r h1 := by
  refine gx_enter (l := [some (gx_R l0), some (gx_I l1), some (gx_I l2), none]) (by decide) (Nat.le_of_ble_eq_true rfl) rfl ?_
  unfold f_MD_byTurns
  refine gx_aload_n (i := 0) (by decide +kernel) rfl ?_
  refine gx_iload_n (i := 1) (by decide +kernel) rfl ?_
  refine gx_cVi1 (Mc := gm_MD_isLetter) (u' := (0, 0)) (c_MD_isLetter _ _ _) vk_MD_isLetter ml_MD_189 rfl rfl ⟨by decide, by decide, by decide, by decide⟩ (Nat.le_of_ble_eq_true rfl) (by decide +kernel) (fun r1 h2 => ?_)
  refine gx_g (fun c3 => ?_)
  refine gx_if_eq (off := 16) (tgt := 21) c3 (by decide +kernel) (by decide) ?_ ?_
  · refine gx_ldc (a := (-1000000001)) kc_MD_187 (by decide +kernel) ?_
    exact gx_ireturn rfl rfl (by decide +kernel)
  · refine gx_aload_n (i := 0) (by decide +kernel) rfl ?_
    refine gx_iload_n (i := 2) (by decide +kernel) rfl ?_
    refine gx_cVi1 (Mc := gm_MD_isLetter) (u' := (0, 0)) (c_MD_isLetter _ _ _) vk_MD_isLetter ml_MD_189 rfl rfl ⟨by decide, by decide, by decide, by decide⟩ (Nat.le_of_ble_eq_true rfl) (by decide +kernel) (fun r4 h5 => ?_)
    refine gx_g (fun c6 => ?_)
    refine gx_if_eq (off := 8) (tgt := 21) c6 (by decide +kernel) (by decide) ?_ ?_
    · refine gx_ldc (a := (-1000000001)) kc_MD_187 (by decide +kernel) ?_
      exact gx_ireturn rfl rfl (by decide +kernel)
    · refine gx_iload_n (i := 1) (by decide +kernel) rfl ?_
      refine gx_iload_n (i := 2) (by decide +kernel) rfl ?_
      refine gx_g (fun c7 => ?_)
      refine gx_g (fun c8 => ?_)
      refine gx_icmp_ne (off := 6) (tgt := 24) c7 c8 (by decide +kernel) (by decide) ?_ ?_
      · refine gx_aload_n (i := 0) (by decide +kernel) rfl ?_
        refine gx_cVi0 (Mc := gm_MD_isWell) (u' := (0, 0)) (c_MD_isWell _ _) vk_MD_isWell ml_MD_120 rfl rfl ⟨by decide, by decide, by decide, by decide⟩ (Nat.le_of_ble_eq_true rfl) (by decide +kernel) (fun r9 h10 => ?_)
        refine gx_g (fun c11 => ?_)
        refine gx_if_ne (off := 5) (tgt := 33) c11 (by decide +kernel) (by decide) ?_ ?_
        · refine gx_aload_n (i := 0) (by decide +kernel) rfl ?_
          refine gx_iconst (n := 0) (by decide +kernel) ?_
          refine gx_sipush (n := 1920) (by decide +kernel) (by decide) ?_
          refine gx_cVv2 (Mc := gm_MD_copyRow) (u' := (0, 0)) (c_MD_copyRow _ _ _ _) vk_MD_copyRow ml_MD_116 rfl rfl ⟨by decide, by decide, by decide, by decide⟩ (Nat.le_of_ble_eq_true rfl) (by decide +kernel) (fun r12 h13 => ?_)
          refine gx_iconst (n := 1) (by decide +kernel) ?_
          refine gx_istore_n (i := 3) (l' := [some (gx_R _), some (gx_I _), some (gx_I _), some (gx_I _)]) (by decide +kernel) rfl (Nat.le_of_ble_eq_true rfl) (by decide) rfl ?_
          exact gx_less' (y_MD_byTurns_43 gx_fu _ _ _ _ _) ⟨rfl, rfl, rfl, rfl, trivial⟩
        · refine gx_iconst (n := (-1)) (by decide +kernel) ?_
          exact gx_ireturn rfl rfl (by decide +kernel)
      · refine gx_ldc (a := (-1000000001)) kc_MD_187 (by decide +kernel) ?_
        exact gx_ireturn rfl rfl (by decide +kernel)
def f_MD_feed (h : gx_H) (l0 : Nat) (l1 : Int) : Option (Int × gx_H) :=
  gq_call (f_MD_in h l1 0 255) (fun r1 h2 => gq_g (gx_i r1) (if r1 = 0 then some ((-1000000002), h2) else gq_get h2 l0 1 7 (fun v4 => if v4 = 100 then some ((-1000000004), h2) else gq_gr h2 l0 1 6 (fun o6 => gq_get h2 l0 1 7 (fun v7 => gq_ast 0 (gx_i l1) h2 o6 v7 l1 (fun h9 => gq_get h9 l0 1 7 (fun v10 => gq_put (gx_i (v10 + 1)) h9 l0 1 7 (v10 + 1) (fun h12 => gq_get h12 l0 1 7 (fun v13 => some (v13, h12))))))))))
set_option maxHeartbeats 4000000 in
set_option maxRecDepth 100000 in
theorem c_MD_feed (h : gx_H) (l0 : Nat) (l1 : Int) : ∀ r h1, f_MD_feed h l0 l1 = some (r, h1) → gx_Met gm_MD_feed [gx_R l0, gx_I l1] h r h1 := by
  refine gx_enter (l := [some (gx_R l0), some (gx_I l1)]) (by decide) (Nat.le_of_ble_eq_true rfl) rfl ?_
  unfold f_MD_feed
  refine gx_iload_n (i := 1) (by decide +kernel) rfl ?_
  refine gx_iconst (n := 0) (by decide +kernel) ?_
  refine gx_sipush (n := 255) (by decide +kernel) (by decide) ?_
  refine gx_cSi3 (Mc := gm_MD_in) (u' := (0, 0)) (c_MD_in _ _ _ _) sk_MD_in ml_MD_68 rfl rfl ⟨by decide, by decide, by decide, by decide⟩ (Nat.le_of_ble_eq_true rfl) (by decide +kernel) (fun r1 h2 => ?_)
  refine gx_g (fun c3 => ?_)
  refine gx_if_ne (off := 6) (tgt := 14) c3 (by decide +kernel) (by decide) ?_ ?_
  · refine gx_aload_n (i := 0) (by decide +kernel) rfl ?_
    refine gx_geti gk_MD (by decide) fl_MD_195 (Or.inl rfl) (by decide +kernel) (fun c5 => ?_)
    refine gx_bipush (n := 100) (by decide +kernel) (by decide) ?_
    refine gx_icmp_ne (off := 6) (tgt := 26) c5 (by decide) (by decide +kernel) (by decide) ?_ ?_
    · refine gx_aload_n (i := 0) (by decide +kernel) rfl ?_
      refine gx_getr gk_MD (by decide) fl_MD_20 rfl (by decide +kernel) ?_
      refine gx_aload_n (i := 0) (by decide +kernel) rfl ?_
      refine gx_geti gk_MD (by decide) fl_MD_195 (Or.inl rfl) (by decide +kernel) (fun c8 => ?_)
      refine gx_iload_n (i := 1) (by decide +kernel) rfl ?_
      refine gx_iast (by decide +kernel) ?_
      refine gx_aload_n (i := 0) (by decide +kernel) rfl ?_
      refine gx_dup (by decide +kernel) (fun _ => rfl) ?_
      refine gx_geti gk_MD (by decide) fl_MD_195 (Or.inl rfl) (by decide +kernel) (fun c11 => ?_)
      refine gx_iconst (n := 1) (by decide +kernel) ?_
      refine gx_iadd (by decide +kernel) ?_
      refine gx_puti gk_MD (by decide) fl_MD_195 rfl rfl (by decide +kernel) ?_
      refine gx_aload_n (i := 0) (by decide +kernel) rfl ?_
      refine gx_geti gk_MD (by decide) fl_MD_195 (Or.inl rfl) (by decide +kernel) (fun c14 => ?_)
      exact gx_ireturn rfl rfl (by decide +kernel)
    · refine gx_ldc (a := (-1000000004)) kc_MD_198 (by decide +kernel) ?_
      exact gx_ireturn rfl rfl (by decide +kernel)
  · refine gx_ldc (a := (-1000000002)) kc_MD_188 (by decide +kernel) ?_
    exact gx_ireturn rfl rfl (by decide +kernel)
def f_MD_fail (h : gx_H) (l0 : Nat) (l1 : Int) : Option (Int × gx_H) :=
  gq_get h l0 1 25 (fun v1 => if v1 = 0 then gq_put (gx_i l1) h l0 1 25 l1 (fun h3 => gq_get h3 l0 1 24 (fun v4 => gq_put True h3 l0 1 26 v4 (fun h6 => some (0, h6)))) else some (0, h))
set_option maxHeartbeats 4000000 in
set_option maxRecDepth 100000 in
theorem c_MD_fail (h : gx_H) (l0 : Nat) (l1 : Int) : ∀ r h1, f_MD_fail h l0 l1 = some (r, h1) → gx_Met gm_MD_fail [gx_R l0, gx_I l1] h r h1 := by
  refine gx_enter (l := [some (gx_R l0), some (gx_I l1)]) (by decide) (Nat.le_of_ble_eq_true rfl) rfl ?_
  unfold f_MD_fail
  refine gx_aload_n (i := 0) (by decide +kernel) rfl ?_
  refine gx_geti gk_MD (by decide) fl_MD_199 (Or.inl rfl) (by decide +kernel) (fun c2 => ?_)
  refine gx_if_ne (off := 16) (tgt := 20) c2 (by decide +kernel) (by decide) ?_ ?_
  · exact gx_return rfl rfl (by decide +kernel)
  · refine gx_aload_n (i := 0) (by decide +kernel) rfl ?_
    refine gx_iload_n (i := 1) (by decide +kernel) rfl ?_
    refine gx_puti gk_MD (by decide) fl_MD_199 rfl rfl (by decide +kernel) ?_
    refine gx_aload_n (i := 0) (by decide +kernel) rfl ?_
    refine gx_aload_n (i := 0) (by decide +kernel) rfl ?_
    refine gx_geti gk_MD (by decide) fl_MD_202 (Or.inl rfl) (by decide +kernel) (fun c5 => ?_)
    refine gx_putiT c5 gk_MD (by decide) fl_MD_205 rfl rfl (by decide +kernel) ?_
    exact gx_return rfl rfl (by decide +kernel)
def fb_MD_here_38 (h : gx_H) (l0 : Nat) : Option (Int × gx_H) :=
  gq_get h l0 1 24 (fun v1 => gq_get h l0 1 7 (fun v3 => if v1 < v3 then gq_gr h l0 1 6 (fun o5 => gq_get h l0 1 24 (fun v6 => gq_ald 0 h o5 v6 (fun v8 => some (v8, h)))) else some ((-1), h)))
set_option maxHeartbeats 4000000 in
set_option maxRecDepth 100000 in
theorem y_MD_here_38 (h : gx_H) (l0 : Nat) : gx_Y gm_MD_here (0, 0) 38 [some (gx_R l0)] [] h (fb_MD_here_38 h l0) := by
  unfold fb_MD_here_38
  refine gx_aload_n (i := 0) (by decide +kernel) rfl ?_
  refine gx_geti gk_MD (by decide) fl_MD_202 (Or.inl rfl) (by decide +kernel) (fun c2 => ?_)
  refine gx_aload_n (i := 0) (by decide +kernel) rfl ?_
  refine gx_geti gk_MD (by decide) fl_MD_195 (Or.inl rfl) (by decide +kernel) (fun c4 => ?_)
  refine gx_icmp_ge (off := 15) (tgt := 61) c2 c4 (by decide +kernel) (by decide) ?_ ?_
  · refine gx_iconst (n := (-1)) (by decide +kernel) ?_
    exact gx_ireturn rfl rfl (by decide +kernel)
  · refine gx_aload_n (i := 0) (by decide +kernel) rfl ?_
    refine gx_getr gk_MD (by decide) fl_MD_20 rfl (by decide +kernel) ?_
    refine gx_aload_n (i := 0) (by decide +kernel) rfl ?_
    refine gx_geti gk_MD (by decide) fl_MD_202 (Or.inl rfl) (by decide +kernel) (fun c7 => ?_)
    refine gx_ialdi (by decide +kernel) (fun c9 => ?_)
    refine gx_goto (off := 4) (tgt := 62) (by decide +kernel) (by decide) ?_
    exact gx_ireturn rfl rfl (by decide +kernel)
def fb_MD_here_0 (N0 : gx_H → Nat → Option (Int × gx_H)) (h : gx_H) (l0 : Nat) : Option (Int × gx_H) :=
  gq_get h l0 1 24 (fun v1 => gq_get h l0 1 7 (fun v3 => if v1 < v3 then gq_gr h l0 1 6 (fun o5 => gq_get h l0 1 24 (fun v6 => gq_ald 0 h o5 v6 (fun v8 => if v8 = 32 then gq_get h l0 1 24 (fun v10 => gq_put (gx_i (v10 + 1)) h l0 1 24 (v10 + 1) (fun h12 => N0 h12 l0)) else fb_MD_here_38 h l0))) else fb_MD_here_38 h l0))
set_option maxHeartbeats 4000000 in
set_option maxRecDepth 100000 in
theorem yb_MD_here_0 (N0 : gx_H → Nat → Option (Int × gx_H)) (hN0 : ∀ (h : gx_H) (l0 : Nat), gx_Y gm_MD_here (0, 0) 0 [some (gx_R l0)] [] h (N0 h l0)) (h : gx_H) (l0 : Nat) : gx_Y gm_MD_here (0, 0) 0 [some (gx_R l0)] [] h (fb_MD_here_0 N0 h l0) := by
  unfold fb_MD_here_0
  refine gx_aload_n (i := 0) (by decide +kernel) rfl ?_
  refine gx_geti gk_MD (by decide) fl_MD_202 (Or.inl rfl) (by decide +kernel) (fun c2 => ?_)
  refine gx_aload_n (i := 0) (by decide +kernel) rfl ?_
  refine gx_geti gk_MD (by decide) fl_MD_195 (Or.inl rfl) (by decide +kernel) (fun c4 => ?_)
  refine gx_icmp_ge (off := 30) (tgt := 38) c2 c4 (by decide +kernel) (by decide) ?_ ?_
  · exact gx_less' (y_MD_here_38 _ _) ⟨rfl, trivial⟩
  · refine gx_aload_n (i := 0) (by decide +kernel) rfl ?_
    refine gx_getr gk_MD (by decide) fl_MD_20 rfl (by decide +kernel) ?_
    refine gx_aload_n (i := 0) (by decide +kernel) rfl ?_
    refine gx_geti gk_MD (by decide) fl_MD_202 (Or.inl rfl) (by decide +kernel) (fun c7 => ?_)
    refine gx_ialdi (by decide +kernel) (fun c9 => ?_)
    refine gx_bipush (n := 32) (by decide +kernel) (by decide) ?_
    refine gx_icmp_ne (off := 16) (tgt := 38) c9 (by decide) (by decide +kernel) (by decide) ?_ ?_
    · exact gx_less' (y_MD_here_38 _ _) ⟨rfl, trivial⟩
    · refine gx_aload_n (i := 0) (by decide +kernel) rfl ?_
      refine gx_dup (by decide +kernel) (fun _ => rfl) ?_
      refine gx_geti gk_MD (by decide) fl_MD_202 (Or.inl rfl) (by decide +kernel) (fun c11 => ?_)
      refine gx_iconst (n := 1) (by decide +kernel) ?_
      refine gx_iadd (by decide +kernel) ?_
      refine gx_puti gk_MD (by decide) fl_MD_202 rfl rfl (by decide +kernel) ?_
      refine gx_goto (off := -35) (tgt := 0) (by decide +kernel) (by decide) ?_
      exact gx_less' (hN0 _ _) ⟨rfl, trivial⟩
def f_MD_here_0 : Nat → gx_H → Nat → Option (Int × gx_H)
  | 0 => fun _ _ => none
  | fu + 1 => fb_MD_here_0 (f_MD_here_0 fu)
theorem y_MD_here_0 : ∀ (fu : Nat) (h : gx_H) (l0 : Nat), gx_Y gm_MD_here (0, 0) 0 [some (gx_R l0)] [] h (f_MD_here_0 fu h l0) := by
  intro fu
  induction fu with
  | zero => intro h l0; exact gx_none
  | succ fu ih => intro h l0; exact yb_MD_here_0 (f_MD_here_0 fu) ih h l0
def f_MD_here (h : gx_H) (l0 : Nat) : Option (Int × gx_H) :=
  f_MD_here_0 gx_fu h l0
set_option maxHeartbeats 4000000 in
set_option maxRecDepth 100000 in
theorem c_MD_here (h : gx_H) (l0 : Nat) : ∀ r h1, f_MD_here h l0 = some (r, h1) → gx_Met gm_MD_here [gx_R l0] h r h1 := by
  refine gx_enter (l := [some (gx_R l0)]) (by decide) (Nat.le_of_ble_eq_true rfl) rfl ?_
  unfold f_MD_here
  exact gx_less' (y_MD_here_0 gx_fu _ _) ⟨rfl, trivial⟩
def fb_MD_figure_50 (h : gx_H) (l0 : Nat) (l1 : Int) (l3 : Int) : Option (Int × gx_H) :=
  gq_get h l0 1 25 (fun v1 => if v1 = 0 then some ((l3 - 48), h) else some (l1, h))
set_option maxHeartbeats 4000000 in
set_option maxRecDepth 100000 in
theorem y_MD_figure_50 (h : gx_H) (l0 : Nat) (l1 : Int) (l3 : Int) : gx_Y gm_MD_figure (0, 0) 50 [some (gx_R l0), some (gx_I l1), none, some (gx_I l3)] [] h (fb_MD_figure_50 h l0 l1 l3) := by
  unfold fb_MD_figure_50
  refine gx_aload_n (i := 0) (by decide +kernel) rfl ?_
  refine gx_geti gk_MD (by decide) fl_MD_199 (Or.inl rfl) (by decide +kernel) (fun c2 => ?_)
  refine gx_if_ne (off := 10) (tgt := 64) c2 (by decide +kernel) (by decide) ?_ ?_
  · refine gx_iload_n (i := 1) (by decide +kernel) rfl ?_
    exact gx_ireturn rfl rfl (by decide +kernel)
  · refine gx_iload_n (i := 3) (by decide +kernel) rfl ?_
    refine gx_bipush (n := 48) (by decide +kernel) (by decide) ?_
    refine gx_isub (by decide +kernel) ?_
    refine gx_goto (off := 4) (tgt := 65) (by decide +kernel) (by decide) ?_
    exact gx_ireturn rfl rfl (by decide +kernel)
def f_MD_figure (h : gx_H) (l0 : Nat) (l1 : Int) (l2 : Int) : Option (Int × gx_H) :=
  gq_get h l0 1 25 (fun v1 => if v1 = 0 then gq_cv h l0 1 (f_MD_here h l0) (fun r3 h4 => gq_call (f_MD_in h4 r3 48 57) (fun r5 h6 => gq_g (gx_i r5) (if r5 = 0 then gq_cv h6 l0 1 (f_MD_fail h6 l0 1) (fun r13 h14 => fb_MD_figure_50 h14 l0 l1 r3) else gq_call (f_MD_in h6 (r3 - 48) l1 l2) (fun r8 h9 => gq_g (gx_i r8) (if r8 = 0 then gq_cv h9 l0 1 (f_MD_fail h9 l0 2) (fun r11 h12 => fb_MD_figure_50 h12 l0 l1 r3) else fb_MD_figure_50 h9 l0 l1 r3))))) else some (l1, h))
set_option maxHeartbeats 4000000 in
set_option maxRecDepth 100000 in
theorem c_MD_figure (h : gx_H) (l0 : Nat) (l1 : Int) (l2 : Int) : ∀ r h1, f_MD_figure h l0 l1 l2 = some (r, h1) → gx_Met gm_MD_figure [gx_R l0, gx_I l1, gx_I l2] h r h1 := by
  refine gx_enter (l := [some (gx_R l0), some (gx_I l1), some (gx_I l2), none]) (by decide) (Nat.le_of_ble_eq_true rfl) rfl ?_
  unfold f_MD_figure
  refine gx_aload_n (i := 0) (by decide +kernel) rfl ?_
  refine gx_geti gk_MD (by decide) fl_MD_199 (Or.inl rfl) (by decide +kernel) (fun c2 => ?_)
  refine gx_if_eq (off := 5) (tgt := 9) c2 (by decide +kernel) (by decide) ?_ ?_
  · refine gx_aload_n (i := 0) (by decide +kernel) rfl ?_
    refine gx_cVi0 (Mc := gm_MD_here) (u' := (0, 0)) (c_MD_here _ _) vk_MD_here ml_MD_208 rfl rfl ⟨by decide, by decide, by decide, by decide⟩ (Nat.le_of_ble_eq_true rfl) (by decide +kernel) (fun r3 h4 => ?_)
    refine gx_istore_n (i := 3) (l' := [some (gx_R _), some (gx_I _), some (gx_I _), some (gx_I _)]) (by decide +kernel) rfl (Nat.le_of_ble_eq_true rfl) (by decide) rfl ?_
    refine gx_iload_n (i := 3) (by decide +kernel) rfl ?_
    refine gx_bipush (n := 48) (by decide +kernel) (by decide) ?_
    refine gx_bipush (n := 57) (by decide +kernel) (by decide) ?_
    refine gx_cSi3 (Mc := gm_MD_in) (u' := (0, 0)) (c_MD_in _ _ _ _) sk_MD_in ml_MD_68 rfl rfl ⟨by decide, by decide, by decide, by decide⟩ (Nat.le_of_ble_eq_true rfl) (by decide +kernel) (fun r5 h6 => ?_)
    refine gx_g (fun c7 => ?_)
    refine gx_if_ne (off := 11) (tgt := 33) c7 (by decide +kernel) (by decide) ?_ ?_
    · refine gx_iload_n (i := 3) (by decide +kernel) rfl ?_
      refine gx_bipush (n := 48) (by decide +kernel) (by decide) ?_
      refine gx_isub (by decide +kernel) ?_
      refine gx_iload_n (i := 1) (by decide +kernel) rfl ?_
      refine gx_iload_n (i := 2) (by decide +kernel) rfl ?_
      refine gx_cSi3 (Mc := gm_MD_in) (u' := (0, 0)) (c_MD_in _ _ _ _) sk_MD_in ml_MD_68 rfl rfl ⟨by decide, by decide, by decide, by decide⟩ (Nat.le_of_ble_eq_true rfl) (by decide +kernel) (fun r8 h9 => ?_)
      refine gx_g (fun c10 => ?_)
      refine gx_if_ne (off := 8) (tgt := 50) c10 (by decide +kernel) (by decide) ?_ ?_
      · exact gx_less' (y_MD_figure_50 _ _ _ _) ⟨rfl, rfl, rfl, trivial⟩
      · refine gx_aload_n (i := 0) (by decide +kernel) rfl ?_
        refine gx_iconst (n := 2) (by decide +kernel) ?_
        refine gx_cVv1 (Mc := gm_MD_fail) (u' := (0, 0)) (c_MD_fail _ _ _) vk_MD_fail ml_MD_211 rfl rfl ⟨by decide, by decide, by decide, by decide⟩ (Nat.le_of_ble_eq_true rfl) (by decide +kernel) (fun r11 h12 => ?_)
        exact gx_less' (y_MD_figure_50 _ _ _ _) ⟨rfl, rfl, rfl, trivial⟩
    · refine gx_aload_n (i := 0) (by decide +kernel) rfl ?_
      refine gx_iconst (n := 1) (by decide +kernel) ?_
      refine gx_cVv1 (Mc := gm_MD_fail) (u' := (0, 0)) (c_MD_fail _ _ _) vk_MD_fail ml_MD_211 rfl rfl ⟨by decide, by decide, by decide, by decide⟩ (Nat.le_of_ble_eq_true rfl) (by decide +kernel) (fun r13 h14 => ?_)
      refine gx_goto (off := 20) (tgt := 50) (by decide +kernel) (by decide) ?_
      exact gx_less' (y_MD_figure_50 _ _ _ _) ⟨rfl, rfl, rfl, trivial⟩
  · refine gx_iload_n (i := 1) (by decide +kernel) rfl ?_
    exact gx_ireturn rfl rfl (by decide +kernel)
def fb_MD_pass_9 (h : gx_H) (l0 : Nat) : Option (Int × gx_H) :=
  gq_get h l0 1 25 (fun v1 => if v1 = 0 then gq_get h l0 1 24 (fun v3 => gq_put (gx_i (v3 + 1)) h l0 1 24 (v3 + 1) (fun h5 => some (0, h5))) else some (0, h))
set_option maxHeartbeats 4000000 in
set_option maxRecDepth 100000 in
theorem y_MD_pass_9 (h : gx_H) (l0 : Nat) : gx_Y gm_MD_pass (0, 0) 9 [some (gx_R l0), none] [] h (fb_MD_pass_9 h l0) := by
  unfold fb_MD_pass_9
  refine gx_aload_n (i := 0) (by decide +kernel) rfl ?_
  refine gx_geti gk_MD (by decide) fl_MD_199 (Or.inl rfl) (by decide +kernel) (fun c2 => ?_)
  refine gx_if_ne (off := 13) (tgt := 26) c2 (by decide +kernel) (by decide) ?_ ?_
  · exact gx_return rfl rfl (by decide +kernel)
  · refine gx_aload_n (i := 0) (by decide +kernel) rfl ?_
    refine gx_dup (by decide +kernel) (fun _ => rfl) ?_
    refine gx_geti gk_MD (by decide) fl_MD_202 (Or.inl rfl) (by decide +kernel) (fun c4 => ?_)
    refine gx_iconst (n := 1) (by decide +kernel) ?_
    refine gx_iadd (by decide +kernel) ?_
    refine gx_puti gk_MD (by decide) fl_MD_202 rfl rfl (by decide +kernel) ?_
    exact gx_return rfl rfl (by decide +kernel)
def f_MD_pass (h : gx_H) (l0 : Nat) (l1 : Int) : Option (Int × gx_H) :=
  gq_g (gx_i l1) (if l1 = 0 then fb_MD_pass_9 h l0 else gq_cv h l0 1 (f_MD_fail h l0 4) (fun r2 h3 => fb_MD_pass_9 h3 l0))
set_option maxHeartbeats 4000000 in
set_option maxRecDepth 100000 in
theorem c_MD_pass (h : gx_H) (l0 : Nat) (l1 : Int) : ∀ r h1, f_MD_pass h l0 l1 = some (r, h1) → gx_Met gm_MD_pass [gx_R l0, gx_I l1] h r h1 := by
  refine gx_enter (l := [some (gx_R l0), some (gx_I l1)]) (by decide) (Nat.le_of_ble_eq_true rfl) rfl ?_
  unfold f_MD_pass
  refine gx_iload_n (i := 1) (by decide +kernel) rfl ?_
  refine gx_g (fun c1 => ?_)
  refine gx_if_eq (off := 8) (tgt := 9) c1 (by decide +kernel) (by decide) ?_ ?_
  · exact gx_less' (y_MD_pass_9 _ _) ⟨rfl, trivial⟩
  · refine gx_aload_n (i := 0) (by decide +kernel) rfl ?_
    refine gx_iconst (n := 4) (by decide +kernel) ?_
    refine gx_cVv1 (Mc := gm_MD_fail) (u' := (0, 0)) (c_MD_fail _ _ _) vk_MD_fail ml_MD_211 rfl rfl ⟨by decide, by decide, by decide, by decide⟩ (Nat.le_of_ble_eq_true rfl) (by decide +kernel) (fun r2 h3 => ?_)
    exact gx_less' (y_MD_pass_9 _ _) ⟨rfl, trivial⟩
def fb_MD_readMany_38 (N38 : gx_H → Nat → Int → Option (Int × gx_H)) (h : gx_H) (l0 : Nat) (l1 : Int) : Option (Int × gx_H) :=
  gq_g (gx_i l1) (if l1 < 4 then gq_gr h l0 1 29 (fun o2 => gq_ast 0 True h o2 l1 1 (fun h3 => N38 h3 l0 (l1 + 1))) else some (0, h))
set_option maxHeartbeats 4000000 in
set_option maxRecDepth 100000 in
theorem yb_MD_readMany_38 (N38 : gx_H → Nat → Int → Option (Int × gx_H)) (hN38 : ∀ (h : gx_H) (l0 : Nat) (l1 : Int), gx_Y gm_MD_readMany (0, 0) 38 [some (gx_R l0), some (gx_I l1)] [] h (N38 h l0 l1)) (h : gx_H) (l0 : Nat) (l1 : Int) : gx_Y gm_MD_readMany (0, 0) 38 [some (gx_R l0), some (gx_I l1)] [] h (fb_MD_readMany_38 N38 h l0 l1) := by
  unfold fb_MD_readMany_38
  refine gx_iload_n (i := 1) (by decide +kernel) rfl ?_
  refine gx_iconst (n := 4) (by decide +kernel) ?_
  refine gx_g (fun c1 => ?_)
  refine gx_icmp_ge (off := 16) (tgt := 56) c1 (by decide) (by decide +kernel) (by decide) ?_ ?_
  · exact gx_return rfl rfl (by decide +kernel)
  · refine gx_aload_n (i := 0) (by decide +kernel) rfl ?_
    refine gx_getr gk_MD (by decide) fl_MD_59 rfl (by decide +kernel) ?_
    refine gx_iload_n (i := 1) (by decide +kernel) rfl ?_
    refine gx_iconst (n := 1) (by decide +kernel) ?_
    refine gx_iastT (by decide) (by decide +kernel) ?_
    refine gx_iinc (i := 1) (n := 1) (l' := [some (gx_R _), some (gx_I _)]) (by decide +kernel) rfl rfl (Nat.le_of_ble_eq_true rfl) (by decide) rfl ?_
    refine gx_goto (off := -15) (tgt := 38) (by decide +kernel) (by decide) ?_
    exact gx_less' (hN38 _ _ _) ⟨rfl, rfl, trivial⟩
def f_MD_readMany_38 : Nat → gx_H → Nat → Int → Option (Int × gx_H)
  | 0 => fun _ _ _ => none
  | fu + 1 => fb_MD_readMany_38 (f_MD_readMany_38 fu)
theorem y_MD_readMany_38 : ∀ (fu : Nat) (h : gx_H) (l0 : Nat) (l1 : Int), gx_Y gm_MD_readMany (0, 0) 38 [some (gx_R l0), some (gx_I l1)] [] h (f_MD_readMany_38 fu h l0 l1) := by
  intro fu
  induction fu with
  | zero => intro h l0 l1; exact gx_none
  | succ fu ih => intro h l0 l1; exact yb_MD_readMany_38 (f_MD_readMany_38 fu) ih h l0 l1
def fb_MD_readMany_17 (N17 : gx_H → Nat → Int → Option (Int × gx_H)) (h : gx_H) (l0 : Nat) (l1 : Int) : Option (Int × gx_H) :=
  gq_g (gx_i l1) (if l1 < 16 then gq_gr h l0 1 28 (fun o2 => gq_ast 0 True h o2 l1 0 (fun h3 => N17 h3 l0 (l1 + 1))) else f_MD_readMany_38 gx_fu h l0 0)
set_option maxHeartbeats 4000000 in
set_option maxRecDepth 100000 in
theorem yb_MD_readMany_17 (N17 : gx_H → Nat → Int → Option (Int × gx_H)) (hN17 : ∀ (h : gx_H) (l0 : Nat) (l1 : Int), gx_Y gm_MD_readMany (0, 0) 17 [some (gx_R l0), some (gx_I l1)] [] h (N17 h l0 l1)) (h : gx_H) (l0 : Nat) (l1 : Int) : gx_Y gm_MD_readMany (0, 0) 17 [some (gx_R l0), some (gx_I l1)] [] h (fb_MD_readMany_17 N17 h l0 l1) := by
  unfold fb_MD_readMany_17
  refine gx_iload_n (i := 1) (by decide +kernel) rfl ?_
  refine gx_bipush (n := 16) (by decide +kernel) (by decide) ?_
  refine gx_g (fun c1 => ?_)
  refine gx_icmp_ge (off := 16) (tgt := 36) c1 (by decide) (by decide +kernel) (by decide) ?_ ?_
  · refine gx_iconst (n := 0) (by decide +kernel) ?_
    refine gx_istore_n (i := 1) (l' := [some (gx_R _), some (gx_I _)]) (by decide +kernel) rfl (Nat.le_of_ble_eq_true rfl) (by decide) rfl ?_
    exact gx_less' (y_MD_readMany_38 gx_fu _ _ _) ⟨rfl, rfl, trivial⟩
  · refine gx_aload_n (i := 0) (by decide +kernel) rfl ?_
    refine gx_getr gk_MD (by decide) fl_MD_56 rfl (by decide +kernel) ?_
    refine gx_iload_n (i := 1) (by decide +kernel) rfl ?_
    refine gx_iconst (n := 0) (by decide +kernel) ?_
    refine gx_iastT (by decide) (by decide +kernel) ?_
    refine gx_iinc (i := 1) (n := 1) (l' := [some (gx_R _), some (gx_I _)]) (by decide +kernel) rfl rfl (Nat.le_of_ble_eq_true rfl) (by decide) rfl ?_
    refine gx_goto (off := -16) (tgt := 17) (by decide +kernel) (by decide) ?_
    exact gx_less' (hN17 _ _ _) ⟨rfl, rfl, trivial⟩
def f_MD_readMany_17 : Nat → gx_H → Nat → Int → Option (Int × gx_H)
  | 0 => fun _ _ _ => none
  | fu + 1 => fb_MD_readMany_17 (f_MD_readMany_17 fu)
theorem y_MD_readMany_17 : ∀ (fu : Nat) (h : gx_H) (l0 : Nat) (l1 : Int), gx_Y gm_MD_readMany (0, 0) 17 [some (gx_R l0), some (gx_I l1)] [] h (f_MD_readMany_17 fu h l0 l1) := by
  intro fu
  induction fu with
  | zero => intro h l0 l1; exact gx_none
  | succ fu ih => intro h l0 l1; exact yb_MD_readMany_17 (f_MD_readMany_17 fu) ih h l0 l1
def f_MD_readMany (h : gx_H) (l0 : Nat) : Option (Int × gx_H) :=
  gq_cv h l0 1 (f_MD_figure h l0 2 4) (fun r1 h2 => gq_put (gx_i r1) h2 l0 1 27 r1 (fun h3 => gq_cv h3 l0 1 (f_MD_pass h3 l0 0) (fun r4 h5 => f_MD_readMany_17 gx_fu h5 l0 0)))
set_option maxHeartbeats 4000000 in
set_option maxRecDepth 100000 in
theorem c_MD_readMany (h : gx_H) (l0 : Nat) : ∀ r h1, f_MD_readMany h l0 = some (r, h1) → gx_Met gm_MD_readMany [gx_R l0] h r h1 := by
  refine gx_enter (l := [some (gx_R l0), none]) (by decide) (Nat.le_of_ble_eq_true rfl) rfl ?_
  unfold f_MD_readMany
  refine gx_aload_n (i := 0) (by decide +kernel) rfl ?_
  refine gx_aload_n (i := 0) (by decide +kernel) rfl ?_
  refine gx_iconst (n := 2) (by decide +kernel) ?_
  refine gx_iconst (n := 4) (by decide +kernel) ?_
  refine gx_cVi2 (Mc := gm_MD_figure) (u' := (0, 0)) (c_MD_figure _ _ _ _) vk_MD_figure ml_MD_214 rfl rfl ⟨by decide, by decide, by decide, by decide⟩ (Nat.le_of_ble_eq_true rfl) (by decide +kernel) (fun r1 h2 => ?_)
  refine gx_puti gk_MD (by decide) fl_MD_62 rfl rfl (by decide +kernel) ?_
  refine gx_aload_n (i := 0) (by decide +kernel) rfl ?_
  refine gx_iconst (n := 0) (by decide +kernel) ?_
  refine gx_cVv1 (Mc := gm_MD_pass) (u' := (0, 0)) (c_MD_pass _ _ _) vk_MD_pass ml_MD_217 rfl rfl ⟨by decide, by decide, by decide, by decide⟩ (Nat.le_of_ble_eq_true rfl) (by decide +kernel) (fun r4 h5 => ?_)
  refine gx_iconst (n := 0) (by decide +kernel) ?_
  refine gx_istore_n (i := 1) (l' := [some (gx_R _), some (gx_I _)]) (by decide +kernel) rfl (Nat.le_of_ble_eq_true rfl) (by decide) rfl ?_
  exact gx_less' (y_MD_readMany_17 gx_fu _ _ _) ⟨rfl, rfl, trivial⟩
