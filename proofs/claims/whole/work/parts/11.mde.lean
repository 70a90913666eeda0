def f_MD_keep (h : gx_H) (l0 : Nat) (l1 : Int) : Option (Int × gx_H) :=
  gq_call (f_MD_in h l1 0 1) (fun r1 h2 => gq_g (gx_i r1) (if r1 = 0 then some ((-1000000001), h2) else gq_cv h2 l0 1 (f_MD_copyRow h2 l0 0 (1680 + (80 * l1))) (fun r4 h5 => gq_gr h5 l0 1 5 (fun o6 => gq_get h5 l0 1 4 (fun v7 => gq_ast 0 True h5 o6 l1 v7 (fun h9 => gq_get h9 l0 1 3 (fun v10 => gq_put True h9 l0 1 3 (gq_or v10 (gq_shl 1 l1)) (fun h12 => gq_put True h12 l0 1 2 0 (fun h13 => some (1, h13))))))))))
set_option maxHeartbeats 4000000 in
set_option maxRecDepth 100000 in
theorem c_MD_keep (h : gx_H) (l0 : Nat) (l1 : Int) : ∀ r h1, f_MD_keep h l0 l1 = some (r, h1) → gx_Met gm_MD_keep [gx_R l0, gx_I l1] h r h1 := by
  refine gx_enter (l := [some (gx_R l0), some (gx_I l1)]) (by decide) (Nat.le_of_ble_eq_true rfl) rfl ?_
  unfold f_MD_keep
  refine gx_iload_n (i := 1) (by decide +kernel) rfl ?_
  refine gx_iconst (n := 0) (by decide +kernel) ?_
  refine gx_iconst (n := 1) (by decide +kernel) ?_
  refine gx_cSi3 (Mc := gm_MD_in) (u' := (0, 0)) (c_MD_in _ _ _ _) sk_MD_in ml_MD_68 rfl rfl ⟨by decide, by decide, by decide, by decide⟩ (Nat.le_of_ble_eq_true rfl) (by decide +kernel) (fun r1 h2 => ?_)
  refine gx_g (fun c3 => ?_)
  refine gx_if_ne (off := 6) (tgt := 12) c3 (by decide +kernel) (by decide) ?_ ?_
  · refine gx_aload_n (i := 0) (by decide +kernel) rfl ?_
    refine gx_iconst (n := 0) (by decide +kernel) ?_
    refine gx_sipush (n := 1680) (by decide +kernel) (by decide) ?_
    refine gx_bipush (n := 80) (by decide +kernel) (by decide) ?_
    refine gx_iload_n (i := 1) (by decide +kernel) rfl ?_
    refine gx_imul (by decide +kernel) ?_
    refine gx_iadd (by decide +kernel) ?_
    refine gx_cVv2 (Mc := gm_MD_copyRow) (u' := (0, 0)) (c_MD_copyRow _ _ _ _) vk_MD_copyRow ml_MD_116 rfl rfl ⟨by decide, by decide, by decide, by decide⟩ (Nat.le_of_ble_eq_true rfl) (by decide +kernel) (fun r4 h5 => ?_)
    refine gx_aload_n (i := 0) (by decide +kernel) rfl ?_
    refine gx_getr gk_MD (by decide) fl_MD_17 rfl (by decide +kernel) ?_
    refine gx_iload_n (i := 1) (by decide +kernel) rfl ?_
    refine gx_aload_n (i := 0) (by decide +kernel) rfl ?_
    refine gx_geti gk_MD (by decide) fl_MD_268 (Or.inl rfl) (by decide +kernel) (fun c8 => ?_)
    refine gx_iastT c8 (by decide +kernel) ?_
    refine gx_aload_n (i := 0) (by decide +kernel) rfl ?_
    refine gx_dup (by decide +kernel) (fun _ => rfl) ?_
    refine gx_geti gk_MD (by decide) fl_MD_233 (Or.inl rfl) (by decide +kernel) (fun c11 => ?_)
    refine gx_iconst (n := 1) (by decide +kernel) ?_
    refine gx_iload_n (i := 1) (by decide +kernel) rfl ?_
    refine gx_ishl (by decide +kernel) ?_
    refine gx_ior (by decide +kernel) ?_
    refine gx_putiT (gx_toI _) gk_MD (by decide) fl_MD_233 rfl rfl (by decide +kernel) ?_
    refine gx_aload_n (i := 0) (by decide +kernel) rfl ?_
    refine gx_iconst (n := 0) (by decide +kernel) ?_
    refine gx_putiT (by decide) gk_MD (by decide) fl_MD_230 rfl rfl (by decide +kernel) ?_
    refine gx_iconst (n := 1) (by decide +kernel) ?_
    exact gx_ireturn rfl rfl (by decide +kernel)
  · refine gx_ldc (a := (-1000000001)) kc_MD_187 (by decide +kernel) ?_
    exact gx_ireturn rfl rfl (by decide +kernel)
def f_MD_goBack (h : gx_H) (l0 : Nat) (l1 : Int) : Option (Int × gx_H) :=
  gq_call (f_MD_in h l1 0 1) (fun r1 h2 => gq_g (gx_i r1) (if r1 = 0 then some ((-1000000001), h2) else gq_get h2 l0 1 3 (fun v4 => if (gq_and (gq_shr v4 l1) 1) = 0 then some ((-1000000003), h2) else gq_cv h2 l0 1 (f_MD_copyRow h2 l0 (1680 + (80 * l1)) 0) (fun r6 h7 => gq_gr h7 l0 1 5 (fun o8 => gq_ald 0 h7 o8 l1 (fun v9 => gq_put True h7 l0 1 4 v9 (fun h11 => gq_put True h11 l0 1 2 0 (fun h12 => some (1, h12)))))))))
set_option maxHeartbeats 4000000 in
set_option maxRecDepth 100000 in
theorem c_MD_goBack (h : gx_H) (l0 : Nat) (l1 : Int) : ∀ r h1, f_MD_goBack h l0 l1 = some (r, h1) → gx_Met gm_MD_goBack [gx_R l0, gx_I l1] h r h1 := by
  refine gx_enter (l := [some (gx_R l0), some (gx_I l1)]) (by decide) (Nat.le_of_ble_eq_true rfl) rfl ?_
  unfold f_MD_goBack
  refine gx_iload_n (i := 1) (by decide +kernel) rfl ?_
  refine gx_iconst (n := 0) (by decide +kernel) ?_
  refine gx_iconst (n := 1) (by decide +kernel) ?_
  refine gx_cSi3 (Mc := gm_MD_in) (u' := (0, 0)) (c_MD_in _ _ _ _) sk_MD_in ml_MD_68 rfl rfl ⟨by decide, by decide, by decide, by decide⟩ (Nat.le_of_ble_eq_true rfl) (by decide +kernel) (fun r1 h2 => ?_)
  refine gx_g (fun c3 => ?_)
  refine gx_if_ne (off := 6) (tgt := 12) c3 (by decide +kernel) (by decide) ?_ ?_
  · refine gx_aload_n (i := 0) (by decide +kernel) rfl ?_
    refine gx_geti gk_MD (by decide) fl_MD_233 (Or.inl rfl) (by decide +kernel) (fun c5 => ?_)
    refine gx_iload_n (i := 1) (by decide +kernel) rfl ?_
    refine gx_ishr (by decide +kernel) ?_
    refine gx_iconst (n := 1) (by decide +kernel) ?_
    refine gx_iand (by decide +kernel) ?_
    refine gx_if_ne (off := 7) (tgt := 27) (gx_toI _) (by decide +kernel) (by decide) ?_ ?_
    · refine gx_aload_n (i := 0) (by decide +kernel) rfl ?_
      refine gx_sipush (n := 1680) (by decide +kernel) (by decide) ?_
      refine gx_bipush (n := 80) (by decide +kernel) (by decide) ?_
      refine gx_iload_n (i := 1) (by decide +kernel) rfl ?_
      refine gx_imul (by decide +kernel) ?_
      refine gx_iadd (by decide +kernel) ?_
      refine gx_iconst (n := 0) (by decide +kernel) ?_
      refine gx_cVv2 (Mc := gm_MD_copyRow) (u' := (0, 0)) (c_MD_copyRow _ _ _ _) vk_MD_copyRow ml_MD_116 rfl rfl ⟨by decide, by decide, by decide, by decide⟩ (Nat.le_of_ble_eq_true rfl) (by decide +kernel) (fun r6 h7 => ?_)
      refine gx_aload_n (i := 0) (by decide +kernel) rfl ?_
      refine gx_aload_n (i := 0) (by decide +kernel) rfl ?_
      refine gx_getr gk_MD (by decide) fl_MD_17 rfl (by decide +kernel) ?_
      refine gx_iload_n (i := 1) (by decide +kernel) rfl ?_
      refine gx_ialdi (by decide +kernel) (fun c10 => ?_)
      refine gx_putiT c10 gk_MD (by decide) fl_MD_268 rfl rfl (by decide +kernel) ?_
      refine gx_aload_n (i := 0) (by decide +kernel) rfl ?_
      refine gx_iconst (n := 0) (by decide +kernel) ?_
      refine gx_putiT (by decide) gk_MD (by decide) fl_MD_230 rfl rfl (by decide +kernel) ?_
      refine gx_iconst (n := 1) (by decide +kernel) ?_
      exact gx_ireturn rfl rfl (by decide +kernel)
    · refine gx_ldcw (a := (-1000000003)) kc_MD_261 (by decide +kernel) ?_
      exact gx_ireturn rfl rfl (by decide +kernel)
  · refine gx_ldc (a := (-1000000001)) kc_MD_187 (by decide +kernel) ?_
    exact gx_ireturn rfl rfl (by decide +kernel)
