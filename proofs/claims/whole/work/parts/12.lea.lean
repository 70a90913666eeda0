def f_TX_init (h : gx_H) (l0 : Nat) : Option (Int × gx_H) :=
  gq_na h 0 100 0 (fun o1 h2 => gq_put True h2 l0 10 0 (o1 : Int) (fun h3 => gq_put True h3 l0 10 1 0 (fun h4 => gq_put True h4 l0 10 2 0 (fun h5 => gq_put True h5 l0 10 3 (-1) (fun h6 => gq_put True h6 l0 10 4 0 (fun h7 => gq_put True h7 l0 10 5 0 (fun h8 => some (0, h8))))))))
set_option maxHeartbeats 4000000 in
set_option maxRecDepth 100000 in
theorem c_TX_init (h : gx_H) (l0 : Nat) : ∀ r h1, f_TX_init h l0 = some (r, h1) → gx_Met gm_TX_init [gx_R l0] h r h1 := by
  refine gx_enter (l := [some (gx_R l0)]) (by decide) (Nat.le_of_ble_eq_true rfl) rfl ?_
  unfold f_TX_init
  refine gx_aload_n (i := 0) (by decide +kernel) rfl ?_
  refine gx_obj ml_TX_3 (by decide) (Nat.le_of_ble_eq_true rfl) (by decide +kernel) ?_
  refine gx_aload_n (i := 0) (by decide +kernel) rfl ?_
  refine gx_bipush (n := 100) (by decide +kernel) (by decide) ?_
  refine gx_newi (N := 100) rfl (by decide) ⟨by decide, by decide⟩ (by decide +kernel) ?_
  show gx_Y _ (1, 100) _ _ _ _ _
  refine gx_putFr gk_TX (by decide) fl_TX_11 rfl rfl rfl rfl (by decide +kernel) ?_
  refine gx_aload_n (i := 0) (by decide +kernel) rfl ?_
  refine gx_iconst (n := 0) (by decide +kernel) ?_
  refine gx_putiT (by decide) gk_TX (by decide) fl_TX_15 rfl rfl (by decide +kernel) ?_
  refine gx_aload_n (i := 0) (by decide +kernel) rfl ?_
  refine gx_iconst (n := 0) (by decide +kernel) ?_
  refine gx_putiT (by decide) gk_TX (by decide) fl_TX_19 rfl rfl (by decide +kernel) ?_
  refine gx_aload_n (i := 0) (by decide +kernel) rfl ?_
  refine gx_iconst (n := (-1)) (by decide +kernel) ?_
  refine gx_putiT (by decide) gk_TX (by decide) fl_TX_22 rfl rfl (by decide +kernel) ?_
  refine gx_aload_n (i := 0) (by decide +kernel) rfl ?_
  refine gx_iconst (n := 0) (by decide +kernel) ?_
  refine gx_putiT (by decide) gk_TX (by decide) fl_TX_25 rfl rfl (by decide +kernel) ?_
  refine gx_aload_n (i := 0) (by decide +kernel) rfl ?_
  refine gx_iconst (n := 0) (by decide +kernel) ?_
  refine gx_putiT (by decide) gk_TX (by decide) fl_TX_28 rfl rfl (by decide +kernel) ?_
  exact gx_return rfl rfl (by decide +kernel)
def f_SC_init (h : gx_H) (l0 : Nat) : Option (Int × gx_H) :=
  gq_put True h l0 7 0 0 (fun h1 => gq_na h1 0 4 0 (fun o2 h3 => gq_put True h3 l0 7 1 (o2 : Int) (fun h4 => some (0, h4))))
set_option maxHeartbeats 4000000 in
set_option maxRecDepth 100000 in
theorem c_SC_init (h : gx_H) (l0 : Nat) : ∀ r h1, f_SC_init h l0 = some (r, h1) → gx_Met gm_SC_init [gx_R l0] h r h1 := by
  refine gx_enter (l := [some (gx_R l0)]) (by decide) (Nat.le_of_ble_eq_true rfl) rfl ?_
  unfold f_SC_init
  refine gx_aload_n (i := 0) (by decide +kernel) rfl ?_
  refine gx_obj ml_SC_3 (by decide) (Nat.le_of_ble_eq_true rfl) (by decide +kernel) ?_
  refine gx_aload_n (i := 0) (by decide +kernel) rfl ?_
  refine gx_iconst (n := 0) (by decide +kernel) ?_
  refine gx_putzT (by decide) gk_SC (by decide) fl_SC_9 rfl rfl (by decide +kernel) ?_
  refine gx_aload_n (i := 0) (by decide +kernel) rfl ?_
  refine gx_iconst (n := 4) (by decide +kernel) ?_
  refine gx_newi (N := 4) rfl (by decide) ⟨by decide, by decide⟩ (by decide +kernel) ?_
  show gx_Y _ (1, 4) _ _ _ _ _
  refine gx_putFr gk_SC (by decide) fl_SC_15 rfl rfl rfl rfl (by decide +kernel) ?_
  exact gx_return rfl rfl (by decide +kernel)
def f_FR_init (h : gx_H) (l0 : Nat) : Option (Int × gx_H) :=
  gq_put True h l0 4 0 1 (fun h1 => gq_put True h1 l0 4 1 1 (fun h2 => some (0, h2)))
set_option maxHeartbeats 4000000 in
set_option maxRecDepth 100000 in
theorem c_FR_init (h : gx_H) (l0 : Nat) : ∀ r h1, f_FR_init h l0 = some (r, h1) → gx_Met gm_FR_init [gx_R l0] h r h1 := by
  refine gx_enter (l := [some (gx_R l0)]) (by decide) (Nat.le_of_ble_eq_true rfl) rfl ?_
  unfold f_FR_init
  refine gx_aload_n (i := 0) (by decide +kernel) rfl ?_
  refine gx_obj ml_FR_1 (by decide) (Nat.le_of_ble_eq_true rfl) (by decide +kernel) ?_
  refine gx_aload_n (i := 0) (by decide +kernel) rfl ?_
  refine gx_lconst (n := 1) (a := 1) (by decide +kernel) (by decide) ?_
  refine gx_putlT (by decide) gk_FR (by decide) fl_FR_7 rfl rfl (by decide +kernel) ?_
  refine gx_aload_n (i := 0) (by decide +kernel) rfl ?_
  refine gx_lconst (n := 1) (a := 1) (by decide +kernel) (by decide) ?_
  refine gx_putlT (by decide) gk_FR (by decide) fl_FR_13 rfl rfl (by decide +kernel) ?_
  exact gx_return rfl rfl (by decide +kernel)
def f_EX_init (h : gx_H) (l0 : Nat) : Option (Int × gx_H) :=
  gq_new h 4 2 (fun o1 h2 => gq_call (f_FR_init h2 o1) (fun r3 h4 => gq_put True h4 l0 3 0 (o1 : Int) (fun h5 => gq_new h5 4 2 (fun o6 h7 => gq_call (f_FR_init h7 o6) (fun r8 h9 => gq_put True h9 l0 3 1 (o6 : Int) (fun h10 => some (0, h10)))))))
set_option maxHeartbeats 4000000 in
set_option maxRecDepth 100000 in
theorem c_EX_init (h : gx_H) (l0 : Nat) : ∀ r h1, f_EX_init h l0 = some (r, h1) → gx_Met gm_EX_init [gx_R l0] h r h1 := by
  refine gx_enter (l := [some (gx_R l0)]) (by decide) (Nat.le_of_ble_eq_true rfl) rfl ?_
  unfold f_EX_init
  refine gx_aload_n (i := 0) (by decide +kernel) rfl ?_
  refine gx_obj ml_EX_3 (by decide) (Nat.le_of_ble_eq_true rfl) (by decide +kernel) ?_
  refine gx_aload_n (i := 0) (by decide +kernel) rfl ?_
  refine gx_new gk_FR nk_EX_9 ni_FR nj_FR (by decide) ⟨by decide, by decide⟩ (by decide +kernel) ?_
  show gx_Y _ (1, 2) _ _ _ _ _
  refine gx_dup (by decide +kernel) (fun _ => rfl) ?_
  refine gx_cIN (Mc := gm_FR_init) (u' := (1, 2)) (c_FR_init _ _) ik_FR_init ml_EX_11 rfl ⟨by decide, by decide, by decide, by decide⟩ (Nat.le_of_ble_eq_true rfl) (by decide +kernel) (fun r3 h4 => ?_)
  refine gx_putFr gk_EX (by decide) fl_EX_12 rfl rfl rfl rfl (by decide +kernel) ?_
  refine gx_aload_n (i := 0) (by decide +kernel) rfl ?_
  refine gx_new gk_FR nk_EX_9 ni_FR nj_FR (by decide) ⟨by decide, by decide⟩ (by decide +kernel) ?_
  show gx_Y _ (2, 4) _ _ _ _ _
  refine gx_dup (by decide +kernel) (fun _ => rfl) ?_
  refine gx_cIN (Mc := gm_FR_init) (u' := (2, 4)) (c_FR_init _ _) ik_FR_init ml_EX_11 rfl ⟨by decide, by decide, by decide, by decide⟩ (Nat.le_of_ble_eq_true rfl) (by decide +kernel) (fun r8 h9 => ?_)
  refine gx_putFr gk_EX (by decide) fl_EX_18 rfl rfl rfl rfl (by decide +kernel) ?_
  exact gx_return rfl rfl (by decide +kernel)
def f_SH_init (h : gx_H) (l0 : Nat) : Option (Int × gx_H) :=
  gq_put True h l0 8 0 2 (fun h1 => gq_na h1 0 16 0 (fun o2 h3 => gq_put True h3 l0 8 1 (o2 : Int) (fun h4 => gq_na h4 0 16 0 (fun o5 h6 => gq_put True h6 l0 8 2 (o5 : Int) (fun h7 => some (0, h7))))))
set_option maxHeartbeats 4000000 in
set_option maxRecDepth 100000 in
theorem c_SH_init (h : gx_H) (l0 : Nat) : ∀ r h1, f_SH_init h l0 = some (r, h1) → gx_Met gm_SH_init [gx_R l0] h r h1 := by
  refine gx_enter (l := [some (gx_R l0)]) (by decide) (Nat.le_of_ble_eq_true rfl) rfl ?_
  unfold f_SH_init
  refine gx_aload_n (i := 0) (by decide +kernel) rfl ?_
  refine gx_obj ml_SH_3 (by decide) (Nat.le_of_ble_eq_true rfl) (by decide +kernel) ?_
  refine gx_aload_n (i := 0) (by decide +kernel) rfl ?_
  refine gx_iconst (n := 2) (by decide +kernel) ?_
  refine gx_putiT (by decide) gk_SH (by decide) fl_SH_9 rfl rfl (by decide +kernel) ?_
  refine gx_aload_n (i := 0) (by decide +kernel) rfl ?_
  refine gx_bipush (n := 16) (by decide +kernel) (by decide) ?_
  refine gx_newi (N := 16) rfl (by decide) ⟨by decide, by decide⟩ (by decide +kernel) ?_
  show gx_Y _ (1, 16) _ _ _ _ _
  refine gx_putFr gk_SH (by decide) fl_SH_15 rfl rfl rfl rfl (by decide +kernel) ?_
  refine gx_aload_n (i := 0) (by decide +kernel) rfl ?_
  refine gx_bipush (n := 16) (by decide +kernel) (by decide) ?_
  refine gx_newi (N := 16) rfl (by decide) ⟨by decide, by decide⟩ (by decide +kernel) ?_
  show gx_Y _ (2, 32) _ _ _ _ _
  refine gx_putFr gk_SH (by decide) fl_SH_19 rfl rfl rfl rfl (by decide +kernel) ?_
  exact gx_return rfl rfl (by decide +kernel)
def f_ST_init (h : gx_H) (l0 : Nat) : Option (Int × gx_H) :=
  gq_new h 8 3 (fun o1 h2 => gq_call (f_SH_init h2 o1) (fun r3 h4 => gq_put True h4 l0 9 0 (o1 : Int) (fun h5 => gq_na h5 0 4 0 (fun o6 h7 => gq_put True h7 l0 9 1 (o6 : Int) (fun h8 => gq_na h8 0 4 0 (fun o9 h10 => gq_put True h10 l0 9 2 (o9 : Int) (fun h11 => gq_na h11 0 16 0 (fun o12 h13 => gq_put True h13 l0 9 3 (o12 : Int) (fun h14 => gq_na h14 0 16 0 (fun o15 h16 => gq_put True h16 l0 9 4 (o15 : Int) (fun h17 => gq_put True h17 l0 9 5 0 (fun h18 => some (0, h18)))))))))))))
set_option maxHeartbeats 4000000 in
set_option maxRecDepth 100000 in
theorem c_ST_init (h : gx_H) (l0 : Nat) : ∀ r h1, f_ST_init h l0 = some (r, h1) → gx_Met gm_ST_init [gx_R l0] h r h1 := by
  refine gx_enter (l := [some (gx_R l0)]) (by decide) (Nat.le_of_ble_eq_true rfl) rfl ?_
  unfold f_ST_init
  refine gx_aload_n (i := 0) (by decide +kernel) rfl ?_
  refine gx_obj ml_ST_3 (by decide) (Nat.le_of_ble_eq_true rfl) (by decide +kernel) ?_
  refine gx_aload_n (i := 0) (by decide +kernel) rfl ?_
  refine gx_new gk_SH nk_ST_9 ni_SH nj_SH (by decide) ⟨by decide, by decide⟩ (by decide +kernel) ?_
  show gx_Y _ (1, 3) _ _ _ _ _
  refine gx_dup (by decide +kernel) (fun _ => rfl) ?_
  refine gx_cIN (Mc := gm_SH_init) (u' := (3, 35)) (c_SH_init _ _) ik_SH_init ml_ST_11 rfl ⟨by decide, by decide, by decide, by decide⟩ (Nat.le_of_ble_eq_true rfl) (by decide +kernel) (fun r3 h4 => ?_)
  refine gx_putFr gk_ST (by decide) fl_ST_12 rfl rfl rfl rfl (by decide +kernel) ?_
  refine gx_aload_n (i := 0) (by decide +kernel) rfl ?_
  refine gx_iconst (n := 4) (by decide +kernel) ?_
  refine gx_newi (N := 4) rfl (by decide) ⟨by decide, by decide⟩ (by decide +kernel) ?_
  show gx_Y _ (4, 39) _ _ _ _ _
  refine gx_putFr gk_ST (by decide) fl_ST_18 rfl rfl rfl rfl (by decide +kernel) ?_
  refine gx_aload_n (i := 0) (by decide +kernel) rfl ?_
  refine gx_iconst (n := 4) (by decide +kernel) ?_
  refine gx_newi (N := 4) rfl (by decide) ⟨by decide, by decide⟩ (by decide +kernel) ?_
  show gx_Y _ (5, 43) _ _ _ _ _
  refine gx_putFr gk_ST (by decide) fl_ST_22 rfl rfl rfl rfl (by decide +kernel) ?_
  refine gx_aload_n (i := 0) (by decide +kernel) rfl ?_
  refine gx_bipush (n := 16) (by decide +kernel) (by decide) ?_
  refine gx_newi (N := 16) rfl (by decide) ⟨by decide, by decide⟩ (by decide +kernel) ?_
  show gx_Y _ (6, 59) _ _ _ _ _
  refine gx_putFr gk_ST (by decide) fl_ST_25 rfl rfl rfl rfl (by decide +kernel) ?_
  refine gx_aload_n (i := 0) (by decide +kernel) rfl ?_
  refine gx_bipush (n := 16) (by decide +kernel) (by decide) ?_
  refine gx_newi (N := 16) rfl (by decide) ⟨by decide, by decide⟩ (by decide +kernel) ?_
  show gx_Y _ (7, 75) _ _ _ _ _
  refine gx_putFr gk_ST (by decide) fl_ST_28 rfl rfl rfl rfl (by decide +kernel) ?_
  refine gx_aload_n (i := 0) (by decide +kernel) rfl ?_
  refine gx_iconst (n := 0) (by decide +kernel) ?_
  refine gx_putiT (by decide) gk_ST (by decide) fl_ST_31 rfl rfl (by decide +kernel) ?_
  exact gx_return rfl rfl (by decide +kernel)
theorem gx_icmp_geH {M : gx_M} {u : Nat × Nat} {pc : Nat} {l : List (Option gx_V)} {st : List gx_V} {h : gx_H} {A B : Option (Int × gx_H)} {off : Int} {tgt : Nat} {a b : Int} (ha : gx_i a) (hb : gx_i b) (hd : decode M.2.1 pc = .ok (.if_icmp .ge off, 3)) (ht : (pc : Int) + off = (tgt : Int)) (ka : ¬ a < b → gx_Y M u tgt l st h A) (kb : a < b → gx_Y M u (pc + 3) l st h B) : gx_Y M u pc l (gx_I b :: gx_I a :: st) h (if a < b then B else A) := by
  by_cases c : a < b
  · have e : (if a < b then B else A) = B := if_pos c
    rw [e]
    intro r h' hr p la e s m args below meth cd D cA ad0 n0 A' ad ls H locs E Bd hs hl hh
    exact lv_icmp_ge E.1 E.2.1 hd ht (fun z => absurd ((gx_leI hb ha).mp z) (by omega)) (fun _ => kb c r h' hr p la e s m args below meth cd D cA ad0 n0 A' ad ls H locs E Bd (gx_t2 hs) hl hh)
  · have e : (if a < b then B else A) = A := if_neg c
    rw [e]
    intro r h' hr p la e s m args below meth cd D cA ad0 n0 A' ad ls H locs E Bd hs hl hh
    exact lv_icmp_ge E.1 E.2.1 hd ht (fun _ => ka c r h' hr p la e s m args below meth cd D cA ad0 n0 A' ad ls H locs E Bd (gx_t2 hs) hl hh) (fun z => absurd ((gx_leI hb ha).mpr (by omega)) z)
def fb_HI_init_25 (N25 : gx_H → Nat → Int → Option (Int × gx_H)) (h : gx_H) (l0 : Nat) (l1 : Int) : Option (Int × gx_H) :=
  gq_g (gx_i l1) (if l1 < 20 then gq_gr h l0 6 0 (fun o2 => gq_new h 9 6 (fun o3 h4 => gq_call (f_ST_init h4 o3) (fun r5 h6 => gq_aas h6 o2 l1 o3 9 (fun h7 => N25 h7 l0 (l1 + 1))))) else some (0, h))
def f_HI_init_25 : Nat → gx_H → Nat → Int → Option (Int × gx_H)
  | 0 => fun _ _ _ => none
  | fu + 1 => fb_HI_init_25 (f_HI_init_25 fu)
set_option maxHeartbeats 4000000 in
set_option maxRecDepth 100000 in
theorem yb_HI_init_25 (i : Nat) (hi : i ≤ 20) (N25 : gx_H → Nat → Int → Option (Int × gx_H)) (hN25 : i < 20 → ∀ (h : gx_H) (l0 : Nat), gx_Y gm_HI_init (1 + 8 * (i + 1), 20 + 81 * (i + 1)) 25 [some (gx_R l0), some (gx_I ((i : Int) + 1))] [] h (N25 h l0 ((i : Int) + 1))) (h : gx_H) (l0 : Nat) : gx_Y gm_HI_init (1 + 8 * i, 20 + 81 * i) 25 [some (gx_R l0), some (gx_I (i : Int))] [] h (fb_HI_init_25 N25 h l0 (i : Int)) := by
  unfold fb_HI_init_25
  refine gx_iload_n (i := 1) (by decide +kernel) rfl ?_
  refine gx_bipush (n := 20) (by decide +kernel) (by decide) ?_
  refine gx_g (fun c1 => ?_)
  refine gx_icmp_geH (off := 22) (tgt := 50) c1 (by decide) (by decide +kernel) (by decide) (fun c => ?_) (fun c => ?_)
  · have e : i = 20 := by omega
    subst e
    exact gx_return rfl rfl (by decide +kernel)
  · have hlt : i < 20 := by omega
    refine gx_aload_n (i := 0) (by decide +kernel) rfl ?_
    refine gx_getr gk_HI (by decide) fl_HI_11 rfl (by decide +kernel) ?_
    refine gx_iload_n (i := 1) (by decide +kernel) rfl ?_
    refine gx_new gk_ST nk_HI_9 ni_ST nj_ST (by decide) ⟨by show 1 + 8 * i + 1 ≤ 161; omega, by show 20 + 81 * i + 6 ≤ 1640; omega⟩ (by decide +kernel) ?_
    refine gx_dup (by decide +kernel) (fun _ => rfl) ?_
    refine gx_cIN (Mc := gm_ST_init) (u' := (1 + 8 * (i + 1), 20 + 81 * (i + 1))) (c_ST_init _ _) ik_ST_init ml_HI_24 (by show (1 + 8 * i + 1 + 7, 20 + 81 * i + 6 + 75) = (1 + 8 * (i + 1), 20 + 81 * (i + 1)); rw [Prod.mk.injEq]; omega) ⟨by decide, by decide, by show 1 + 8 * i + 1 + 7 ≤ 161; omega, by show 20 + 81 * i + 6 + 75 ≤ 1640; omega⟩ (Nat.le_of_ble_eq_true rfl) (by decide +kernel) (fun r5 h6 => ?_)
    refine gx_aast (ci := 9) rfl rfl (by decide +kernel) ?_
    refine gx_iinc (i := 1) (n := 1) (l' := [some (gx_R _), some (gx_I _)]) (by decide +kernel) rfl rfl (Nat.le_of_ble_eq_true rfl) (by decide) rfl ?_
    refine gx_goto (off := -22) (tgt := 25) (by decide +kernel) (by decide) ?_
    exact gx_less' (hN25 hlt _ _) ⟨rfl, rfl, trivial⟩
theorem y_HI_init_25 : ∀ (fu i : Nat) (hi : i ≤ 20) (h : gx_H) (l0 : Nat), gx_Y gm_HI_init (1 + 8 * i, 20 + 81 * i) 25 [some (gx_R l0), some (gx_I (i : Int))] [] h (f_HI_init_25 fu h l0 (i : Int)) := by
  intro fu
  induction fu with
  | zero => intro i hi h l0; exact gx_none
  | succ fu ih => intro i hi h l0; exact yb_HI_init_25 i hi (f_HI_init_25 fu) (fun hl h l0 => ih (i + 1) hl h l0) h l0
def f_HI_init (h : gx_H) (l0 : Nat) : Option (Int × gx_H) :=
  gq_na h 2 20 (-1) (fun o1 h2 => gq_put True h2 l0 6 0 (o1 : Int) (fun h3 => gq_put True h3 l0 6 1 0 (fun h4 => gq_put True h4 l0 6 2 0 (fun h5 => f_HI_init_25 gx_fu h5 l0 0))))
set_option maxHeartbeats 4000000 in
set_option maxRecDepth 100000 in
theorem c_HI_init (h : gx_H) (l0 : Nat) : ∀ r h1, f_HI_init h l0 = some (r, h1) → gx_Met gm_HI_init [gx_R l0] h r h1 := by
  refine gx_enter (l := [some (gx_R l0), none]) (by decide) (Nat.le_of_ble_eq_true rfl) rfl ?_
  unfold f_HI_init
  refine gx_aload_n (i := 0) (by decide +kernel) rfl ?_
  refine gx_obj ml_HI_3 (by decide) (Nat.le_of_ble_eq_true rfl) (by decide +kernel) ?_
  refine gx_aload_n (i := 0) (by decide +kernel) rfl ?_
  refine gx_bipush (n := 20) (by decide +kernel) (by decide) ?_
  refine gx_newr (N := 20) nk_HI_9 rfl (by decide) ⟨by decide, by decide⟩ (by decide +kernel) ?_
  show gx_Y _ (1, 20) _ _ _ _ _
  refine gx_putFr gk_HI (by decide) fl_HI_11 rfl rfl rfl rfl (by decide +kernel) ?_
  refine gx_aload_n (i := 0) (by decide +kernel) rfl ?_
  refine gx_iconst (n := 0) (by decide +kernel) ?_
  refine gx_putiT (by decide) gk_HI (by decide) fl_HI_17 rfl rfl (by decide +kernel) ?_
  refine gx_aload_n (i := 0) (by decide +kernel) rfl ?_
  refine gx_iconst (n := 0) (by decide +kernel) ?_
  refine gx_putiT (by decide) gk_HI (by decide) fl_HI_21 rfl rfl (by decide +kernel) ?_
  refine gx_iconst (n := 0) (by decide +kernel) ?_
  refine gx_istore_n (i := 1) (l' := [some (gx_R _), some (gx_I _)]) (by decide +kernel) rfl (Nat.le_of_ble_eq_true rfl) (by decide) rfl ?_
  exact gx_less' (y_HI_init_25 gx_fu 0 (by decide) _ _) ⟨rfl, rfl, trivial⟩
def f_BK_init (h : gx_H) (l0 : Nat) : Option (Int × gx_H) :=
  gq_na h 0 20 0 (fun o1 h2 => gq_put True h2 l0 2 0 (o1 : Int) (fun h3 => gq_na h3 0 20 0 (fun o4 h5 => gq_put True h5 l0 2 1 (o4 : Int) (fun h6 => gq_put True h6 l0 2 2 0 (fun h7 => some (0, h7))))))
set_option maxHeartbeats 4000000 in
set_option maxRecDepth 100000 in
theorem c_BK_init (h : gx_H) (l0 : Nat) : ∀ r h1, f_BK_init h l0 = some (r, h1) → gx_Met gm_BK_init [gx_R l0] h r h1 := by
  refine gx_enter (l := [some (gx_R l0)]) (by decide) (Nat.le_of_ble_eq_true rfl) rfl ?_
  unfold f_BK_init
  refine gx_aload_n (i := 0) (by decide +kernel) rfl ?_
  refine gx_obj ml_BK_3 (by decide) (Nat.le_of_ble_eq_true rfl) (by decide +kernel) ?_
  refine gx_aload_n (i := 0) (by decide +kernel) rfl ?_
  refine gx_bipush (n := 20) (by decide +kernel) (by decide) ?_
  refine gx_newi (N := 20) rfl (by decide) ⟨by decide, by decide⟩ (by decide +kernel) ?_
  show gx_Y _ (1, 20) _ _ _ _ _
  refine gx_putFr gk_BK (by decide) fl_BK_11 rfl rfl rfl rfl (by decide +kernel) ?_
  refine gx_aload_n (i := 0) (by decide +kernel) rfl ?_
  refine gx_bipush (n := 20) (by decide +kernel) (by decide) ?_
  refine gx_newi (N := 20) rfl (by decide) ⟨by decide, by decide⟩ (by decide +kernel) ?_
  show gx_Y _ (2, 40) _ _ _ _ _
  refine gx_putFr gk_BK (by decide) fl_BK_15 rfl rfl rfl rfl (by decide +kernel) ?_
  refine gx_aload_n (i := 0) (by decide +kernel) rfl ?_
  refine gx_iconst (n := 0) (by decide +kernel) ?_
  refine gx_putiT (by decide) gk_BK (by decide) fl_BK_18 rfl rfl (by decide +kernel) ?_
  exact gx_return rfl rfl (by decide +kernel)
def f_GR_init (h : gx_H) (l0 : Nat) : Option (Int × gx_H) :=
  gq_put True h l0 5 0 0 (fun h1 => gq_put True h1 l0 5 1 2 (fun h2 => gq_put True h2 l0 5 2 0 (fun h3 => gq_put True h3 l0 5 3 1 (fun h4 => gq_na h4 0 800 0 (fun o5 h6 => gq_put True h6 l0 5 4 (o5 : Int) (fun h7 => gq_na h7 0 1600 0 (fun o8 h9 => gq_put True h9 l0 5 5 (o8 : Int) (fun h10 => gq_na h10 0 8 0 (fun o11 h12 => gq_put True h12 l0 5 6 (o11 : Int) (fun h13 => gq_na h13 0 4 0 (fun o14 h15 => gq_put True h15 l0 5 7 (o14 : Int) (fun h16 => gq_na h16 0 4 0 (fun o17 h18 => gq_put True h18 l0 5 8 (o17 : Int) (fun h19 => gq_na h19 0 4 0 (fun o20 h21 => gq_put True h21 l0 5 9 (o20 : Int) (fun h22 => gq_na h22 0 800 0 (fun o23 h24 => gq_put True h24 l0 5 10 (o23 : Int) (fun h25 => gq_new h25 8 3 (fun o26 h27 => gq_call (f_SH_init h27 o26) (fun r28 h29 => gq_put True h29 l0 5 11 (o26 : Int) (fun h30 => gq_new h30 8 3 (fun o31 h32 => gq_call (f_SH_init h32 o31) (fun r33 h34 => gq_put True h34 l0 5 12 (o31 : Int) (fun h35 => some (0, h35)))))))))))))))))))))))))
set_option maxHeartbeats 4000000 in
set_option maxRecDepth 100000 in
theorem c_GR_init (h : gx_H) (l0 : Nat) : ∀ r h1, f_GR_init h l0 = some (r, h1) → gx_Met gm_GR_init [gx_R l0] h r h1 := by
  refine gx_enter (l := [some (gx_R l0)]) (by decide) (Nat.le_of_ble_eq_true rfl) rfl ?_
  unfold f_GR_init
  refine gx_aload_n (i := 0) (by decide +kernel) rfl ?_
  refine gx_obj ml_GR_3 (by decide) (Nat.le_of_ble_eq_true rfl) (by decide +kernel) ?_
  refine gx_aload_n (i := 0) (by decide +kernel) rfl ?_
  refine gx_iconst (n := 0) (by decide +kernel) ?_
  refine gx_putiT (by decide) gk_GR (by decide) fl_GR_9 rfl rfl (by decide +kernel) ?_
  refine gx_aload_n (i := 0) (by decide +kernel) rfl ?_
  refine gx_iconst (n := 2) (by decide +kernel) ?_
  refine gx_putiT (by decide) gk_GR (by decide) fl_GR_15 rfl rfl (by decide +kernel) ?_
  refine gx_aload_n (i := 0) (by decide +kernel) rfl ?_
  refine gx_iconst (n := 0) (by decide +kernel) ?_
  refine gx_putiT (by decide) gk_GR (by decide) fl_GR_18 rfl rfl (by decide +kernel) ?_
  refine gx_aload_n (i := 0) (by decide +kernel) rfl ?_
  refine gx_iconst (n := 1) (by decide +kernel) ?_
  refine gx_putzT (by decide) gk_GR (by decide) fl_GR_21 rfl rfl (by decide +kernel) ?_
  refine gx_aload_n (i := 0) (by decide +kernel) rfl ?_
  refine gx_sipush (n := 800) (by decide +kernel) (by decide) ?_
  refine gx_newi (N := 800) rfl (by decide) ⟨by decide, by decide⟩ (by decide +kernel) ?_
  show gx_Y _ (1, 800) _ _ _ _ _
  refine gx_putFr gk_GR (by decide) fl_GR_25 rfl rfl rfl rfl (by decide +kernel) ?_
  refine gx_aload_n (i := 0) (by decide +kernel) rfl ?_
  refine gx_sipush (n := 1600) (by decide +kernel) (by decide) ?_
  refine gx_newi (N := 1600) rfl (by decide) ⟨by decide, by decide⟩ (by decide +kernel) ?_
  show gx_Y _ (2, 2400) _ _ _ _ _
  refine gx_putFr gk_GR (by decide) fl_GR_29 rfl rfl rfl rfl (by decide +kernel) ?_
  refine gx_aload_n (i := 0) (by decide +kernel) rfl ?_
  refine gx_bipush (n := 8) (by decide +kernel) (by decide) ?_
  refine gx_newi (N := 8) rfl (by decide) ⟨by decide, by decide⟩ (by decide +kernel) ?_
  show gx_Y _ (3, 2408) _ _ _ _ _
  refine gx_putFr gk_GR (by decide) fl_GR_32 rfl rfl rfl rfl (by decide +kernel) ?_
  refine gx_aload_n (i := 0) (by decide +kernel) rfl ?_
  refine gx_iconst (n := 4) (by decide +kernel) ?_
  refine gx_newi (N := 4) rfl (by decide) ⟨by decide, by decide⟩ (by decide +kernel) ?_
  show gx_Y _ (4, 2412) _ _ _ _ _
  refine gx_putFr gk_GR (by decide) fl_GR_35 rfl rfl rfl rfl (by decide +kernel) ?_
  refine gx_aload_n (i := 0) (by decide +kernel) rfl ?_
  refine gx_iconst (n := 4) (by decide +kernel) ?_
  refine gx_newi (N := 4) rfl (by decide) ⟨by decide, by decide⟩ (by decide +kernel) ?_
  show gx_Y _ (5, 2416) _ _ _ _ _
  refine gx_putFr gk_GR (by decide) fl_GR_38 rfl rfl rfl rfl (by decide +kernel) ?_
  refine gx_aload_n (i := 0) (by decide +kernel) rfl ?_
  refine gx_iconst (n := 4) (by decide +kernel) ?_
  refine gx_newi (N := 4) rfl (by decide) ⟨by decide, by decide⟩ (by decide +kernel) ?_
  show gx_Y _ (6, 2420) _ _ _ _ _
  refine gx_putFr gk_GR (by decide) fl_GR_41 rfl rfl rfl rfl (by decide +kernel) ?_
  refine gx_aload_n (i := 0) (by decide +kernel) rfl ?_
  refine gx_sipush (n := 800) (by decide +kernel) (by decide) ?_
  refine gx_newi (N := 800) rfl (by decide) ⟨by decide, by decide⟩ (by decide +kernel) ?_
  show gx_Y _ (7, 3220) _ _ _ _ _
  refine gx_putFr gk_GR (by decide) fl_GR_44 rfl rfl rfl rfl (by decide +kernel) ?_
  refine gx_aload_n (i := 0) (by decide +kernel) rfl ?_
  refine gx_new gk_SH nk_GR_47 ni_SH nj_SH (by decide) ⟨by decide, by decide⟩ (by decide +kernel) ?_
  show gx_Y _ (8, 3223) _ _ _ _ _
  refine gx_dup (by decide +kernel) (fun _ => rfl) ?_
  refine gx_cIN (Mc := gm_SH_init) (u' := (10, 3255)) (c_SH_init _ _) ik_SH_init ml_GR_49 rfl ⟨by decide, by decide, by decide, by decide⟩ (Nat.le_of_ble_eq_true rfl) (by decide +kernel) (fun r28 h29 => ?_)
  refine gx_putFr gk_GR (by decide) fl_GR_50 rfl rfl rfl rfl (by decide +kernel) ?_
  refine gx_aload_n (i := 0) (by decide +kernel) rfl ?_
  refine gx_new gk_SH nk_GR_47 ni_SH nj_SH (by decide) ⟨by decide, by decide⟩ (by decide +kernel) ?_
  show gx_Y _ (11, 3258) _ _ _ _ _
  refine gx_dup (by decide +kernel) (fun _ => rfl) ?_
  refine gx_cIN (Mc := gm_SH_init) (u' := (13, 3290)) (c_SH_init _ _) ik_SH_init ml_GR_49 rfl ⟨by decide, by decide, by decide, by decide⟩ (Nat.le_of_ble_eq_true rfl) (by decide +kernel) (fun r33 h34 => ?_)
  refine gx_putFr gk_GR (by decide) fl_GR_54 rfl rfl rfl rfl (by decide +kernel) ?_
  exact gx_return rfl rfl (by decide +kernel)
def f_WA_init (h : gx_H) (l0 : Nat) : Option (Int × gx_H) :=
  gq_put True h l0 12 0 0 (fun h1 => gq_na h1 0 200 0 (fun o2 h3 => gq_put True h3 l0 12 1 (o2 : Int) (fun h4 => gq_na h4 0 200 0 (fun o5 h6 => gq_put True h6 l0 12 2 (o5 : Int) (fun h7 => gq_na h7 0 200 0 (fun o8 h9 => gq_put True h9 l0 12 3 (o8 : Int) (fun h10 => gq_na h10 0 200 0 (fun o11 h12 => gq_put True h12 l0 12 4 (o11 : Int) (fun h13 => gq_na h13 0 200 0 (fun o14 h15 => gq_put True h15 l0 12 5 (o14 : Int) (fun h16 => some (0, h16))))))))))))
set_option maxHeartbeats 4000000 in
set_option maxRecDepth 100000 in
theorem c_WA_init (h : gx_H) (l0 : Nat) : ∀ r h1, f_WA_init h l0 = some (r, h1) → gx_Met gm_WA_init [gx_R l0] h r h1 := by
  refine gx_enter (l := [some (gx_R l0)]) (by decide) (Nat.le_of_ble_eq_true rfl) rfl ?_
  unfold f_WA_init
  refine gx_aload_n (i := 0) (by decide +kernel) rfl ?_
  refine gx_obj ml_WA_3 (by decide) (Nat.le_of_ble_eq_true rfl) (by decide +kernel) ?_
  refine gx_aload_n (i := 0) (by decide +kernel) rfl ?_
  refine gx_iconst (n := 0) (by decide +kernel) ?_
  refine gx_putiT (by decide) gk_WA (by decide) fl_WA_9 rfl rfl (by decide +kernel) ?_
  refine gx_aload_n (i := 0) (by decide +kernel) rfl ?_
  refine gx_sipush (n := 200) (by decide +kernel) (by decide) ?_
  refine gx_newi (N := 200) rfl (by decide) ⟨by decide, by decide⟩ (by decide +kernel) ?_
  show gx_Y _ (1, 200) _ _ _ _ _
  refine gx_putFr gk_WA (by decide) fl_WA_17 rfl rfl rfl rfl (by decide +kernel) ?_
  refine gx_aload_n (i := 0) (by decide +kernel) rfl ?_
  refine gx_sipush (n := 200) (by decide +kernel) (by decide) ?_
  refine gx_newi (N := 200) rfl (by decide) ⟨by decide, by decide⟩ (by decide +kernel) ?_
  show gx_Y _ (2, 400) _ _ _ _ _
  refine gx_putFr gk_WA (by decide) fl_WA_21 rfl rfl rfl rfl (by decide +kernel) ?_
  refine gx_aload_n (i := 0) (by decide +kernel) rfl ?_
  refine gx_sipush (n := 200) (by decide +kernel) (by decide) ?_
  refine gx_newi (N := 200) rfl (by decide) ⟨by decide, by decide⟩ (by decide +kernel) ?_
  show gx_Y _ (3, 600) _ _ _ _ _
  refine gx_putFr gk_WA (by decide) fl_WA_24 rfl rfl rfl rfl (by decide +kernel) ?_
  refine gx_aload_n (i := 0) (by decide +kernel) rfl ?_
  refine gx_sipush (n := 200) (by decide +kernel) (by decide) ?_
  refine gx_newi (N := 200) rfl (by decide) ⟨by decide, by decide⟩ (by decide +kernel) ?_
  show gx_Y _ (4, 800) _ _ _ _ _
  refine gx_putFr gk_WA (by decide) fl_WA_27 rfl rfl rfl rfl (by decide +kernel) ?_
  refine gx_aload_n (i := 0) (by decide +kernel) rfl ?_
  refine gx_sipush (n := 200) (by decide +kernel) (by decide) ?_
  refine gx_newi (N := 200) rfl (by decide) ⟨by decide, by decide⟩ (by decide +kernel) ?_
  show gx_Y _ (5, 1000) _ _ _ _ _
  refine gx_putFr gk_WA (by decide) fl_WA_30 rfl rfl rfl rfl (by decide +kernel) ?_
  exact gx_return rfl rfl (by decide +kernel)
def f_TU_init (h : gx_H) (l0 : Nat) : Option (Int × gx_H) :=
  gq_new h 8 3 (fun o1 h2 => gq_call (f_SH_init h2 o1) (fun r3 h4 => gq_put True h4 l0 11 0 (o1 : Int) (fun h5 => gq_new h5 8 3 (fun o6 h7 => gq_call (f_SH_init h7 o6) (fun r8 h9 => gq_put True h9 l0 11 1 (o6 : Int) (fun h10 => gq_na h10 0 4 0 (fun o11 h12 => gq_put True h12 l0 11 2 (o11 : Int) (fun h13 => gq_na h13 0 4 0 (fun o14 h15 => gq_put True h15 l0 11 3 (o14 : Int) (fun h16 => some (0, h16)))))))))))
set_option maxHeartbeats 4000000 in
set_option maxRecDepth 100000 in
theorem c_TU_init (h : gx_H) (l0 : Nat) : ∀ r h1, f_TU_init h l0 = some (r, h1) → gx_Met gm_TU_init [gx_R l0] h r h1 := by
  refine gx_enter (l := [some (gx_R l0)]) (by decide) (Nat.le_of_ble_eq_true rfl) rfl ?_
  unfold f_TU_init
  refine gx_aload_n (i := 0) (by decide +kernel) rfl ?_
  refine gx_obj ml_TU_3 (by decide) (Nat.le_of_ble_eq_true rfl) (by decide +kernel) ?_
  refine gx_aload_n (i := 0) (by decide +kernel) rfl ?_
  refine gx_new gk_SH nk_TU_9 ni_SH nj_SH (by decide) ⟨by decide, by decide⟩ (by decide +kernel) ?_
  show gx_Y _ (1, 3) _ _ _ _ _
  refine gx_dup (by decide +kernel) (fun _ => rfl) ?_
  refine gx_cIN (Mc := gm_SH_init) (u' := (3, 35)) (c_SH_init _ _) ik_SH_init ml_TU_11 rfl ⟨by decide, by decide, by decide, by decide⟩ (Nat.le_of_ble_eq_true rfl) (by decide +kernel) (fun r3 h4 => ?_)
  refine gx_putFr gk_TU (by decide) fl_TU_12 rfl rfl rfl rfl (by decide +kernel) ?_
  refine gx_aload_n (i := 0) (by decide +kernel) rfl ?_
  refine gx_new gk_SH nk_TU_9 ni_SH nj_SH (by decide) ⟨by decide, by decide⟩ (by decide +kernel) ?_
  show gx_Y _ (4, 38) _ _ _ _ _
  refine gx_dup (by decide +kernel) (fun _ => rfl) ?_
  refine gx_cIN (Mc := gm_SH_init) (u' := (6, 70)) (c_SH_init _ _) ik_SH_init ml_TU_11 rfl ⟨by decide, by decide, by decide, by decide⟩ (Nat.le_of_ble_eq_true rfl) (by decide +kernel) (fun r8 h9 => ?_)
  refine gx_putFr gk_TU (by decide) fl_TU_18 rfl rfl rfl rfl (by decide +kernel) ?_
  refine gx_aload_n (i := 0) (by decide +kernel) rfl ?_
  refine gx_iconst (n := 4) (by decide +kernel) ?_
  refine gx_newi (N := 4) rfl (by decide) ⟨by decide, by decide⟩ (by decide +kernel) ?_
  show gx_Y _ (7, 74) _ _ _ _ _
  refine gx_putFr gk_TU (by decide) fl_TU_21 rfl rfl rfl rfl (by decide +kernel) ?_
  refine gx_aload_n (i := 0) (by decide +kernel) rfl ?_
  refine gx_iconst (n := 4) (by decide +kernel) ?_
  refine gx_newi (N := 4) rfl (by decide) ⟨by decide, by decide⟩ (by decide +kernel) ?_
  show gx_Y _ (8, 78) _ _ _ _ _
  refine gx_putFr gk_TU (by decide) fl_TU_25 rfl rfl rfl rfl (by decide +kernel) ?_
  exact gx_return rfl rfl (by decide +kernel)
def f_LE_cell (h : gx_H) (l0 : Int) (l1 : Int) : Option (Int × gx_H) :=
  some (((l0 * 4) + l1), h)
set_option maxHeartbeats 4000000 in
set_option maxRecDepth 100000 in
theorem c_LE_cell (h : gx_H) (l0 : Int) (l1 : Int) : ∀ r h1, f_LE_cell h l0 l1 = some (r, h1) → gx_Met gm_LE_cell [gx_I l0, gx_I l1] h r h1 := by
  refine gx_enter (l := [some (gx_I l0), some (gx_I l1)]) (by decide) (Nat.le_of_ble_eq_true rfl) rfl ?_
  unfold f_LE_cell
  refine gx_iload_n (i := 0) (by decide +kernel) rfl ?_
  refine gx_iconst (n := 4) (by decide +kernel) ?_
  refine gx_imul (by decide +kernel) ?_
  refine gx_iload_n (i := 1) (by decide +kernel) rfl ?_
  refine gx_iadd (by decide +kernel) ?_
  exact gx_ireturn rfl rfl (by decide +kernel)
def fb_SH_begin_49 (N7 : gx_H → Nat → Int → Option (Int × gx_H)) (N14 : gx_H → Nat → Int → Int → Option (Int × gx_H)) (h : gx_H) (l0 : Nat) (l2 : Int) (l3 : Int) (t0 : Nat) (t1 : Int) (t2 : Int) : Option (Int × gx_H) :=
  gq_ast 0 (gx_i t2) h t0 t1 t2 (fun h1 => N14 h1 l0 l2 (l3 + 1))
set_option maxHeartbeats 4000000 in
set_option maxRecDepth 100000 in
theorem y_SH_begin_49 (N7 : gx_H → Nat → Int → Option (Int × gx_H)) (hN7 : ∀ (h : gx_H) (l0 : Nat) (l2 : Int), gx_Y gm_SH_begin (0, 0) 7 [some (gx_R l0), none, some (gx_I l2), none] [] h (N7 h l0 l2)) (N14 : gx_H → Nat → Int → Int → Option (Int × gx_H)) (hN14 : ∀ (h : gx_H) (l0 : Nat) (l2 : Int) (l3 : Int), gx_Y gm_SH_begin (0, 0) 14 [some (gx_R l0), none, some (gx_I l2), some (gx_I l3)] [] h (N14 h l0 l2 l3)) (h : gx_H) (l0 : Nat) (l2 : Int) (l3 : Int) (t0 : Nat) (t1 : Int) (t2 : Int) : gx_Y gm_SH_begin (0, 0) 49 [some (gx_R l0), none, some (gx_I l2), some (gx_I l3)] [gx_I t2, gx_I t1, gx_R t0] h (fb_SH_begin_49 N7 N14 h l0 l2 l3 t0 t1 t2) := by
  unfold fb_SH_begin_49
  refine gx_iast (by decide +kernel) ?_
  refine gx_iinc (i := 3) (n := 1) (l' := [some (gx_R _), none, some (gx_I _), some (gx_I _)]) (by decide +kernel) rfl rfl (Nat.le_of_ble_eq_true rfl) (by decide) rfl ?_
  refine gx_goto (off := -39) (tgt := 14) (by decide +kernel) (by decide) ?_
  exact gx_less' (hN14 _ _ _ _) ⟨rfl, rfl, rfl, trivial⟩
def fb_SH_begin_14 (N7 : gx_H → Nat → Int → Option (Int × gx_H)) (N14 : gx_H → Nat → Int → Int → Option (Int × gx_H)) (h : gx_H) (l0 : Nat) (l2 : Int) (l3 : Int) : Option (Int × gx_H) :=
  gq_g (gx_i l3) (if l3 < 4 then gq_gr h l0 8 1 (fun o2 => gq_call (f_LE_cell h l2 l3) (fun r3 h4 => gq_ast 0 True h4 o2 r3 0 (fun h5 => gq_gr h5 l0 8 2 (fun o6 => gq_call (f_LE_cell h5 l2 l3) (fun r7 h8 => gq_g (gx_i l2) (if l2 = l3 then fb_SH_begin_49 N7 N14 h8 l0 l2 l3 o6 r7 (-1) else fb_SH_begin_49 N7 N14 h8 l0 l2 l3 o6 r7 0)))))) else N7 h l0 (l2 + 1))
set_option maxHeartbeats 4000000 in
set_option maxRecDepth 100000 in
theorem yb_SH_begin_14 (N7 : gx_H → Nat → Int → Option (Int × gx_H)) (hN7 : ∀ (h : gx_H) (l0 : Nat) (l2 : Int), gx_Y gm_SH_begin (0, 0) 7 [some (gx_R l0), none, some (gx_I l2), none] [] h (N7 h l0 l2)) (N14 : gx_H → Nat → Int → Int → Option (Int × gx_H)) (hN14 : ∀ (h : gx_H) (l0 : Nat) (l2 : Int) (l3 : Int), gx_Y gm_SH_begin (0, 0) 14 [some (gx_R l0), none, some (gx_I l2), some (gx_I l3)] [] h (N14 h l0 l2 l3)) (h : gx_H) (l0 : Nat) (l2 : Int) (l3 : Int) : gx_Y gm_SH_begin (0, 0) 14 [some (gx_R l0), none, some (gx_I l2), some (gx_I l3)] [] h (fb_SH_begin_14 N7 N14 h l0 l2 l3) := by
  unfold fb_SH_begin_14
  refine gx_iload_n (i := 3) (by decide +kernel) rfl ?_
  refine gx_iconst (n := 4) (by decide +kernel) ?_
  refine gx_g (fun c1 => ?_)
  refine gx_icmp_ge (off := 40) (tgt := 56) c1 (by decide) (by decide +kernel) (by decide) ?_ ?_
  · refine gx_iinc (i := 2) (n := 1) (l' := [some (gx_R _), none, some (gx_I _), some (gx_I _)]) (by decide +kernel) rfl rfl (Nat.le_of_ble_eq_true rfl) (by decide) rfl ?_
    refine gx_goto (off := -52) (tgt := 7) (by decide +kernel) (by decide) ?_
    exact gx_less' (hN7 _ _ _) ⟨rfl, rfl, trivial⟩
  · refine gx_aload_n (i := 0) (by decide +kernel) rfl ?_
    refine gx_getr gk_SH (by decide) fl_SH_15 rfl (by decide +kernel) ?_
    refine gx_iload_n (i := 2) (by decide +kernel) rfl ?_
    refine gx_iload_n (i := 3) (by decide +kernel) rfl ?_
    refine gx_cSNi2 (Mc := gm_LE_cell) (u' := (0, 0)) (c_LE_cell _ _ _) sk_LE_cell ml_SH_22 rfl rfl ⟨by decide, by decide, by decide, by decide⟩ (Nat.le_of_ble_eq_true rfl) (by decide +kernel) (fun r3 h4 => ?_)
    refine gx_iconst (n := 0) (by decide +kernel) ?_
    refine gx_iastT (by decide) (by decide +kernel) ?_
    refine gx_aload_n (i := 0) (by decide +kernel) rfl ?_
    refine gx_getr gk_SH (by decide) fl_SH_19 rfl (by decide +kernel) ?_
    refine gx_iload_n (i := 2) (by decide +kernel) rfl ?_
    refine gx_iload_n (i := 3) (by decide +kernel) rfl ?_
    refine gx_cSNi2 (Mc := gm_LE_cell) (u' := (0, 0)) (c_LE_cell _ _ _) sk_LE_cell ml_SH_22 rfl rfl ⟨by decide, by decide, by decide, by decide⟩ (Nat.le_of_ble_eq_true rfl) (by decide +kernel) (fun r7 h8 => ?_)
    refine gx_iload_n (i := 2) (by decide +kernel) rfl ?_
    refine gx_iload_n (i := 3) (by decide +kernel) rfl ?_
    refine gx_g (fun c9 => ?_)
    refine gx_icmp_ne (off := 7) (tgt := 48) c9 c1 (by decide +kernel) (by decide) ?_ ?_
    · refine gx_iconst (n := 0) (by decide +kernel) ?_
      exact gx_less' (y_SH_begin_49 _ hN7 _ hN14 _ _ _ _ _ _ _) ⟨rfl, rfl, rfl, trivial⟩
    · refine gx_iconst (n := (-1)) (by decide +kernel) ?_
      refine gx_goto (off := 4) (tgt := 49) (by decide +kernel) (by decide) ?_
      exact gx_less' (y_SH_begin_49 _ hN7 _ hN14 _ _ _ _ _ _ _) ⟨rfl, rfl, rfl, trivial⟩
def f_SH_begin_14 (N7 : gx_H → Nat → Int → Option (Int × gx_H)) : Nat → gx_H → Nat → Int → Int → Option (Int × gx_H)
  | 0 => fun _ _ _ _ => none
  | fu + 1 => fb_SH_begin_14 N7 (f_SH_begin_14 N7 fu)
theorem y_SH_begin_14 (N7 : gx_H → Nat → Int → Option (Int × gx_H)) (hN7 : ∀ (h : gx_H) (l0 : Nat) (l2 : Int), gx_Y gm_SH_begin (0, 0) 7 [some (gx_R l0), none, some (gx_I l2), none] [] h (N7 h l0 l2)) : ∀ (fu : Nat) (h : gx_H) (l0 : Nat) (l2 : Int) (l3 : Int), gx_Y gm_SH_begin (0, 0) 14 [some (gx_R l0), none, some (gx_I l2), some (gx_I l3)] [] h (f_SH_begin_14 N7 fu h l0 l2 l3) := by
  intro fu
  induction fu with
  | zero => intro h l0 l2 l3; exact gx_none
  | succ fu ih => intro h l0 l2 l3; exact yb_SH_begin_14 N7 hN7 (f_SH_begin_14 N7 fu) ih h l0 l2 l3
def fb_SH_begin_7 (N7 : gx_H → Nat → Int → Option (Int × gx_H)) (h : gx_H) (l0 : Nat) (l2 : Int) : Option (Int × gx_H) :=
  gq_g (gx_i l2) (if l2 < 4 then f_SH_begin_14 N7 gx_fu h l0 l2 0 else some (0, h))
set_option maxHeartbeats 4000000 in
set_option maxRecDepth 100000 in
theorem yb_SH_begin_7 (N7 : gx_H → Nat → Int → Option (Int × gx_H)) (hN7 : ∀ (h : gx_H) (l0 : Nat) (l2 : Int), gx_Y gm_SH_begin (0, 0) 7 [some (gx_R l0), none, some (gx_I l2), none] [] h (N7 h l0 l2)) (h : gx_H) (l0 : Nat) (l2 : Int) : gx_Y gm_SH_begin (0, 0) 7 [some (gx_R l0), none, some (gx_I l2), none] [] h (fb_SH_begin_7 N7 h l0 l2) := by
  unfold fb_SH_begin_7
  refine gx_iload_n (i := 2) (by decide +kernel) rfl ?_
  refine gx_iconst (n := 4) (by decide +kernel) ?_
  refine gx_g (fun c1 => ?_)
  refine gx_icmp_ge (off := 53) (tgt := 62) c1 (by decide) (by decide +kernel) (by decide) ?_ ?_
  · exact gx_return rfl rfl (by decide +kernel)
  · refine gx_iconst (n := 0) (by decide +kernel) ?_
    refine gx_istore_n (i := 3) (l' := [some (gx_R _), none, some (gx_I _), some (gx_I _)]) (by decide +kernel) rfl (Nat.le_of_ble_eq_true rfl) (by decide) rfl ?_
    exact gx_less' (y_SH_begin_14 _ hN7 gx_fu _ _ _ _) ⟨rfl, rfl, rfl, trivial⟩
def f_SH_begin_7 : Nat → gx_H → Nat → Int → Option (Int × gx_H)
  | 0 => fun _ _ _ => none
  | fu + 1 => fb_SH_begin_7 (f_SH_begin_7 fu)
theorem y_SH_begin_7 : ∀ (fu : Nat) (h : gx_H) (l0 : Nat) (l2 : Int), gx_Y gm_SH_begin (0, 0) 7 [some (gx_R l0), none, some (gx_I l2), none] [] h (f_SH_begin_7 fu h l0 l2) := by
  intro fu
  induction fu with
  | zero => intro h l0 l2; exact gx_none
  | succ fu ih => intro h l0 l2; exact yb_SH_begin_7 (f_SH_begin_7 fu) ih h l0 l2
def f_SH_begin (h : gx_H) (l0 : Nat) (l1 : Int) : Option (Int × gx_H) :=
  gq_put (gx_i l1) h l0 8 0 l1 (fun h1 => f_SH_begin_7 gx_fu h1 l0 0)
set_option maxHeartbeats 4000000 in
set_option maxRecDepth 100000 in
theorem c_SH_begin (h : gx_H) (l0 : Nat) (l1 : Int) : ∀ r h1, f_SH_begin h l0 l1 = some (r, h1) → gx_Met gm_SH_begin [gx_R l0, gx_I l1] h r h1 := by
  refine gx_enter (l := [some (gx_R l0), some (gx_I l1), none, none]) (by decide) (Nat.le_of_ble_eq_true rfl) rfl ?_
  unfold f_SH_begin
  refine gx_aload_n (i := 0) (by decide +kernel) rfl ?_
  refine gx_iload_n (i := 1) (by decide +kernel) rfl ?_
  refine gx_puti gk_SH (by decide) fl_SH_9 rfl rfl (by decide +kernel) ?_
  refine gx_iconst (n := 0) (by decide +kernel) ?_
  refine gx_istore_n (i := 2) (l' := [some (gx_R _), some (gx_I _), some (gx_I _), none]) (by decide +kernel) rfl (Nat.le_of_ble_eq_true rfl) (by decide) rfl ?_
  exact gx_less' (y_SH_begin_7 gx_fu _ _ _) ⟨rfl, rfl, trivial⟩
def fb_ST_begin_80 (N15 : gx_H → Nat → Int → Option (Int × gx_H)) (N36 : gx_H → Nat → Int → Int → Option (Int × gx_H)) (h : gx_H) (l0 : Nat) (l2 : Int) (l3 : Int) (t0 : Nat) (t1 : Int) (t2 : Int) : Option (Int × gx_H) :=
  gq_ast 0 (gx_i t2) h t0 t1 t2 (fun h1 => N36 h1 l0 l2 (l3 + 1))
set_option maxHeartbeats 4000000 in
set_option maxRecDepth 100000 in
theorem y_ST_begin_80 (N15 : gx_H → Nat → Int → Option (Int × gx_H)) (hN15 : ∀ (h : gx_H) (l0 : Nat) (l2 : Int), gx_Y gm_ST_begin (0, 0) 15 [some (gx_R l0), none, some (gx_I l2), none] [] h (N15 h l0 l2)) (N36 : gx_H → Nat → Int → Int → Option (Int × gx_H)) (hN36 : ∀ (h : gx_H) (l0 : Nat) (l2 : Int) (l3 : Int), gx_Y gm_ST_begin (0, 0) 36 [some (gx_R l0), none, some (gx_I l2), some (gx_I l3)] [] h (N36 h l0 l2 l3)) (h : gx_H) (l0 : Nat) (l2 : Int) (l3 : Int) (t0 : Nat) (t1 : Int) (t2 : Int) : gx_Y gm_ST_begin (0, 0) 80 [some (gx_R l0), none, some (gx_I l2), some (gx_I l3)] [gx_I t2, gx_I t1, gx_R t0] h (fb_ST_begin_80 N15 N36 h l0 l2 l3 t0 t1 t2) := by
  unfold fb_ST_begin_80
  refine gx_iast (by decide +kernel) ?_
  refine gx_iinc (i := 3) (n := 1) (l' := [some (gx_R _), none, some (gx_I _), some (gx_I _)]) (by decide +kernel) rfl rfl (Nat.le_of_ble_eq_true rfl) (by decide) rfl ?_
  refine gx_goto (off := -48) (tgt := 36) (by decide +kernel) (by decide) ?_
  exact gx_less' (hN36 _ _ _ _) ⟨rfl, rfl, rfl, trivial⟩
def fb_ST_begin_60 (N15 : gx_H → Nat → Int → Option (Int × gx_H)) (N36 : gx_H → Nat → Int → Int → Option (Int × gx_H)) (h : gx_H) (l0 : Nat) (l2 : Int) (l3 : Int) (t0 : Nat) (t1 : Int) (t2 : Int) : Option (Int × gx_H) :=
  gq_ast 0 (gx_i t2) h t0 t1 t2 (fun h1 => gq_gr h1 l0 9 4 (fun o2 => gq_call (f_LE_cell h1 l2 l3) (fun r3 h4 => gq_g (gx_i l2) (gq_g (gx_i l3) (if l2 = l3 then fb_ST_begin_80 N15 N36 h4 l0 l2 l3 o2 r3 1 else fb_ST_begin_80 N15 N36 h4 l0 l2 l3 o2 r3 0)))))
set_option maxHeartbeats 4000000 in
set_option maxRecDepth 100000 in
theorem y_ST_begin_60 (N15 : gx_H → Nat → Int → Option (Int × gx_H)) (hN15 : ∀ (h : gx_H) (l0 : Nat) (l2 : Int), gx_Y gm_ST_begin (0, 0) 15 [some (gx_R l0), none, some (gx_I l2), none] [] h (N15 h l0 l2)) (N36 : gx_H → Nat → Int → Int → Option (Int × gx_H)) (hN36 : ∀ (h : gx_H) (l0 : Nat) (l2 : Int) (l3 : Int), gx_Y gm_ST_begin (0, 0) 36 [some (gx_R l0), none, some (gx_I l2), some (gx_I l3)] [] h (N36 h l0 l2 l3)) (h : gx_H) (l0 : Nat) (l2 : Int) (l3 : Int) (t0 : Nat) (t1 : Int) (t2 : Int) : gx_Y gm_ST_begin (0, 0) 60 [some (gx_R l0), none, some (gx_I l2), some (gx_I l3)] [gx_I t2, gx_I t1, gx_R t0] h (fb_ST_begin_60 N15 N36 h l0 l2 l3 t0 t1 t2) := by
  unfold fb_ST_begin_60
  refine gx_iast (by decide +kernel) ?_
  refine gx_aload_n (i := 0) (by decide +kernel) rfl ?_
  refine gx_getr gk_ST (by decide) fl_ST_28 rfl (by decide +kernel) ?_
  refine gx_iload_n (i := 2) (by decide +kernel) rfl ?_
  refine gx_iload_n (i := 3) (by decide +kernel) rfl ?_
  refine gx_cSNi2 (Mc := gm_LE_cell) (u' := (0, 0)) (c_LE_cell _ _ _) sk_LE_cell ml_ST_39 rfl rfl ⟨by decide, by decide, by decide, by decide⟩ (Nat.le_of_ble_eq_true rfl) (by decide +kernel) (fun r3 h4 => ?_)
  refine gx_iload_n (i := 2) (by decide +kernel) rfl ?_
  refine gx_iload_n (i := 3) (by decide +kernel) rfl ?_
  refine gx_g (fun c5 => ?_)
  refine gx_g (fun c6 => ?_)
  refine gx_icmp_ne (off := 7) (tgt := 79) c5 c6 (by decide +kernel) (by decide) ?_ ?_
  · refine gx_iconst (n := 0) (by decide +kernel) ?_
    exact gx_less' (y_ST_begin_80 _ hN15 _ hN36 _ _ _ _ _ _ _) ⟨rfl, rfl, rfl, trivial⟩
  · refine gx_iconst (n := 1) (by decide +kernel) ?_
    refine gx_goto (off := 4) (tgt := 80) (by decide +kernel) (by decide) ?_
    exact gx_less' (y_ST_begin_80 _ hN15 _ hN36 _ _ _ _ _ _ _) ⟨rfl, rfl, rfl, trivial⟩
def fb_ST_begin_36 (N15 : gx_H → Nat → Int → Option (Int × gx_H)) (N36 : gx_H → Nat → Int → Int → Option (Int × gx_H)) (h : gx_H) (l0 : Nat) (l2 : Int) (l3 : Int) : Option (Int × gx_H) :=
  gq_g (gx_i l3) (if l3 < 4 then gq_gr h l0 9 3 (fun o2 => gq_call (f_LE_cell h l2 l3) (fun r3 h4 => gq_g (gx_i l2) (if l2 = l3 then fb_ST_begin_60 N15 N36 h4 l0 l2 l3 o2 r3 1 else fb_ST_begin_60 N15 N36 h4 l0 l2 l3 o2 r3 0))) else N15 h l0 (l2 + 1))
set_option maxHeartbeats 4000000 in
set_option maxRecDepth 100000 in
theorem yb_ST_begin_36 (N15 : gx_H → Nat → Int → Option (Int × gx_H)) (hN15 : ∀ (h : gx_H) (l0 : Nat) (l2 : Int), gx_Y gm_ST_begin (0, 0) 15 [some (gx_R l0), none, some (gx_I l2), none] [] h (N15 h l0 l2)) (N36 : gx_H → Nat → Int → Int → Option (Int × gx_H)) (hN36 : ∀ (h : gx_H) (l0 : Nat) (l2 : Int) (l3 : Int), gx_Y gm_ST_begin (0, 0) 36 [some (gx_R l0), none, some (gx_I l2), some (gx_I l3)] [] h (N36 h l0 l2 l3)) (h : gx_H) (l0 : Nat) (l2 : Int) (l3 : Int) : gx_Y gm_ST_begin (0, 0) 36 [some (gx_R l0), none, some (gx_I l2), some (gx_I l3)] [] h (fb_ST_begin_36 N15 N36 h l0 l2 l3) := by
  unfold fb_ST_begin_36
  refine gx_iload_n (i := 3) (by decide +kernel) rfl ?_
  refine gx_iconst (n := 4) (by decide +kernel) ?_
  refine gx_g (fun c1 => ?_)
  refine gx_icmp_ge (off := 49) (tgt := 87) c1 (by decide) (by decide +kernel) (by decide) ?_ ?_
  · refine gx_iinc (i := 2) (n := 1) (l' := [some (gx_R _), none, some (gx_I _), some (gx_I _)]) (by decide +kernel) rfl rfl (Nat.le_of_ble_eq_true rfl) (by decide) rfl ?_
    refine gx_goto (off := -75) (tgt := 15) (by decide +kernel) (by decide) ?_
    exact gx_less' (hN15 _ _ _) ⟨rfl, rfl, trivial⟩
  · refine gx_aload_n (i := 0) (by decide +kernel) rfl ?_
    refine gx_getr gk_ST (by decide) fl_ST_25 rfl (by decide +kernel) ?_
    refine gx_iload_n (i := 2) (by decide +kernel) rfl ?_
    refine gx_iload_n (i := 3) (by decide +kernel) rfl ?_
    refine gx_cSNi2 (Mc := gm_LE_cell) (u' := (0, 0)) (c_LE_cell _ _ _) sk_LE_cell ml_ST_39 rfl rfl ⟨by decide, by decide, by decide, by decide⟩ (Nat.le_of_ble_eq_true rfl) (by decide +kernel) (fun r3 h4 => ?_)
    refine gx_iload_n (i := 2) (by decide +kernel) rfl ?_
    refine gx_iload_n (i := 3) (by decide +kernel) rfl ?_
    refine gx_g (fun c5 => ?_)
    refine gx_icmp_ne (off := 7) (tgt := 59) c5 c1 (by decide +kernel) (by decide) ?_ ?_
    · refine gx_iconst (n := 0) (by decide +kernel) ?_
      exact gx_less' (y_ST_begin_60 _ hN15 _ hN36 _ _ _ _ _ _ _) ⟨rfl, rfl, rfl, trivial⟩
    · refine gx_iconst (n := 1) (by decide +kernel) ?_
      refine gx_goto (off := 4) (tgt := 60) (by decide +kernel) (by decide) ?_
      exact gx_less' (y_ST_begin_60 _ hN15 _ hN36 _ _ _ _ _ _ _) ⟨rfl, rfl, rfl, trivial⟩
def f_ST_begin_36 (N15 : gx_H → Nat → Int → Option (Int × gx_H)) : Nat → gx_H → Nat → Int → Int → Option (Int × gx_H)
  | 0 => fun _ _ _ _ => none
  | fu + 1 => fb_ST_begin_36 N15 (f_ST_begin_36 N15 fu)
theorem y_ST_begin_36 (N15 : gx_H → Nat → Int → Option (Int × gx_H)) (hN15 : ∀ (h : gx_H) (l0 : Nat) (l2 : Int), gx_Y gm_ST_begin (0, 0) 15 [some (gx_R l0), none, some (gx_I l2), none] [] h (N15 h l0 l2)) : ∀ (fu : Nat) (h : gx_H) (l0 : Nat) (l2 : Int) (l3 : Int), gx_Y gm_ST_begin (0, 0) 36 [some (gx_R l0), none, some (gx_I l2), some (gx_I l3)] [] h (f_ST_begin_36 N15 fu h l0 l2 l3) := by
  intro fu
  induction fu with
  | zero => intro h l0 l2 l3; exact gx_none
  | succ fu ih => intro h l0 l2 l3; exact yb_ST_begin_36 N15 hN15 (f_ST_begin_36 N15 fu) ih h l0 l2 l3
def fb_ST_begin_15 (N15 : gx_H → Nat → Int → Option (Int × gx_H)) (h : gx_H) (l0 : Nat) (l2 : Int) : Option (Int × gx_H) :=
  gq_g (gx_i l2) (if l2 < 4 then gq_gr h l0 9 1 (fun o2 => gq_ast 0 True h o2 l2 1 (fun h3 => gq_gr h3 l0 9 2 (fun o4 => gq_ast 0 True h3 o4 l2 1 (fun h5 => f_ST_begin_36 N15 gx_fu h5 l0 l2 0)))) else some (0, h))
set_option maxHeartbeats 4000000 in
set_option maxRecDepth 100000 in
theorem yb_ST_begin_15 (N15 : gx_H → Nat → Int → Option (Int × gx_H)) (hN15 : ∀ (h : gx_H) (l0 : Nat) (l2 : Int), gx_Y gm_ST_begin (0, 0) 15 [some (gx_R l0), none, some (gx_I l2), none] [] h (N15 h l0 l2)) (h : gx_H) (l0 : Nat) (l2 : Int) : gx_Y gm_ST_begin (0, 0) 15 [some (gx_R l0), none, some (gx_I l2), none] [] h (fb_ST_begin_15 N15 h l0 l2) := by
  unfold fb_ST_begin_15
  refine gx_iload_n (i := 2) (by decide +kernel) rfl ?_
  refine gx_iconst (n := 4) (by decide +kernel) ?_
  refine gx_g (fun c1 => ?_)
  refine gx_icmp_ge (off := 76) (tgt := 93) c1 (by decide) (by decide +kernel) (by decide) ?_ ?_
  · exact gx_return rfl rfl (by decide +kernel)
  · refine gx_aload_n (i := 0) (by decide +kernel) rfl ?_
    refine gx_getr gk_ST (by decide) fl_ST_18 rfl (by decide +kernel) ?_
    refine gx_iload_n (i := 2) (by decide +kernel) rfl ?_
    refine gx_iconst (n := 1) (by decide +kernel) ?_
    refine gx_iastT (by decide) (by decide +kernel) ?_
    refine gx_aload_n (i := 0) (by decide +kernel) rfl ?_
    refine gx_getr gk_ST (by decide) fl_ST_22 rfl (by decide +kernel) ?_
    refine gx_iload_n (i := 2) (by decide +kernel) rfl ?_
    refine gx_iconst (n := 1) (by decide +kernel) ?_
    refine gx_iastT (by decide) (by decide +kernel) ?_
    refine gx_iconst (n := 0) (by decide +kernel) ?_
    refine gx_istore_n (i := 3) (l' := [some (gx_R _), none, some (gx_I _), some (gx_I _)]) (by decide +kernel) rfl (Nat.le_of_ble_eq_true rfl) (by decide) rfl ?_
    exact gx_less' (y_ST_begin_36 _ hN15 gx_fu _ _ _ _) ⟨rfl, rfl, rfl, trivial⟩
def f_ST_begin_15 : Nat → gx_H → Nat → Int → Option (Int × gx_H)
  | 0 => fun _ _ _ => none
  | fu + 1 => fb_ST_begin_15 (f_ST_begin_15 fu)
theorem y_ST_begin_15 : ∀ (fu : Nat) (h : gx_H) (l0 : Nat) (l2 : Int), gx_Y gm_ST_begin (0, 0) 15 [some (gx_R l0), none, some (gx_I l2), none] [] h (f_ST_begin_15 fu h l0 l2) := by
  intro fu
  induction fu with
  | zero => intro h l0 l2; exact gx_none
  | succ fu ih => intro h l0 l2; exact yb_ST_begin_15 (f_ST_begin_15 fu) ih h l0 l2
def f_ST_begin (h : gx_H) (l0 : Nat) (l1 : Int) : Option (Int × gx_H) :=
  gq_gr h l0 9 0 (fun o1 => gq_cv h o1 8 (f_SH_begin h o1 l1) (fun r2 h3 => gq_put True h3 l0 9 5 0 (fun h4 => f_ST_begin_15 gx_fu h4 l0 0)))
set_option maxHeartbeats 4000000 in
set_option maxRecDepth 100000 in
theorem c_ST_begin (h : gx_H) (l0 : Nat) (l1 : Int) : ∀ r h1, f_ST_begin h l0 l1 = some (r, h1) → gx_Met gm_ST_begin [gx_R l0, gx_I l1] h r h1 := by
  refine gx_enter (l := [some (gx_R l0), some (gx_I l1), none, none]) (by decide) (Nat.le_of_ble_eq_true rfl) rfl ?_
  unfold f_ST_begin
  refine gx_aload_n (i := 0) (by decide +kernel) rfl ?_
  refine gx_getr gk_ST (by decide) fl_ST_12 rfl (by decide +kernel) ?_
  refine gx_iload_n (i := 1) (by decide +kernel) rfl ?_
  refine gx_cVv1 (Mc := gm_SH_begin) (u' := (0, 0)) (c_SH_begin _ _ _) vk_SH_begin ml_ST_35 rfl rfl ⟨by decide, by decide, by decide, by decide⟩ (Nat.le_of_ble_eq_true rfl) (by decide +kernel) (fun r2 h3 => ?_)
  refine gx_aload_n (i := 0) (by decide +kernel) rfl ?_
  refine gx_iconst (n := 0) (by decide +kernel) ?_
  refine gx_putiT (by decide) gk_ST (by decide) fl_ST_31 rfl rfl (by decide +kernel) ?_
  refine gx_iconst (n := 0) (by decide +kernel) ?_
  refine gx_istore_n (i := 2) (l' := [some (gx_R _), some (gx_I _), some (gx_I _), none]) (by decide +kernel) rfl (Nat.le_of_ble_eq_true rfl) (by decide) rfl ?_
  exact gx_less' (y_ST_begin_15 gx_fu _ _ _) ⟨rfl, rfl, trivial⟩
def f_SH_hang (h : gx_H) (l0 : Nat) (l1 : Int) (l2 : Int) (l3 : Int) (l4 : Int) : Option (Int × gx_H) :=
  gq_gr h l0 8 1 (fun o1 => gq_call (f_LE_cell h l1 l2) (fun r2 h3 => gq_ast 0 (gx_i l3) h3 o1 r2 l3 (fun h4 => gq_gr h4 l0 8 1 (fun o5 => gq_call (f_LE_cell h4 l2 l1) (fun r6 h7 => gq_ast 0 (gx_i (-l4)) h7 o5 r6 (-l4) (fun h8 => some (0, h8)))))))
set_option maxHeartbeats 4000000 in
set_option maxRecDepth 100000 in
theorem c_SH_hang (h : gx_H) (l0 : Nat) (l1 : Int) (l2 : Int) (l3 : Int) (l4 : Int) : ∀ r h1, f_SH_hang h l0 l1 l2 l3 l4 = some (r, h1) → gx_Met gm_SH_hang [gx_R l0, gx_I l1, gx_I l2, gx_I l3, gx_I l4] h r h1 := by
  refine gx_enter (l := [some (gx_R l0), some (gx_I l1), some (gx_I l2), some (gx_I l3), some (gx_I l4)]) (by decide) (Nat.le_of_ble_eq_true rfl) rfl ?_
  unfold f_SH_hang
  refine gx_aload_n (i := 0) (by decide +kernel) rfl ?_
  refine gx_getr gk_SH (by decide) fl_SH_15 rfl (by decide +kernel) ?_
  refine gx_iload_n (i := 1) (by decide +kernel) rfl ?_
  refine gx_iload_n (i := 2) (by decide +kernel) rfl ?_
  refine gx_cSNi2 (Mc := gm_LE_cell) (u' := (0, 0)) (c_LE_cell _ _ _) sk_LE_cell ml_SH_22 rfl rfl ⟨by decide, by decide, by decide, by decide⟩ (Nat.le_of_ble_eq_true rfl) (by decide +kernel) (fun r2 h3 => ?_)
  refine gx_iload_n (i := 3) (by decide +kernel) rfl ?_
  refine gx_iast (by decide +kernel) ?_
  refine gx_aload_n (i := 0) (by decide +kernel) rfl ?_
  refine gx_getr gk_SH (by decide) fl_SH_15 rfl (by decide +kernel) ?_
  refine gx_iload_n (i := 2) (by decide +kernel) rfl ?_
  refine gx_iload_n (i := 1) (by decide +kernel) rfl ?_
  refine gx_cSNi2 (Mc := gm_LE_cell) (u' := (0, 0)) (c_LE_cell _ _ _) sk_LE_cell ml_SH_22 rfl rfl ⟨by decide, by decide, by decide, by decide⟩ (Nat.le_of_ble_eq_true rfl) (by decide +kernel) (fun r6 h7 => ?_)
  refine gx_iload (i := 4) (by decide +kernel) rfl ?_
  refine gx_ineg (by decide +kernel) ?_
  refine gx_iast (by decide +kernel) ?_
  exact gx_return rfl rfl (by decide +kernel)
def f_SH_copyFrom (h : gx_H) (l0 : Nat) (l1 : Nat) : Option (Int × gx_H) :=
  gq_get h l1 8 0 (fun v1 => gq_put True h l0 8 0 v1 (fun h3 => gq_gr h3 l1 8 1 (fun o4 => gq_gr h3 l0 8 1 (fun o5 => gq_copy h3 o4 0 o5 0 16 (fun h6 => gq_gr h6 l1 8 2 (fun o7 => gq_gr h6 l0 8 2 (fun o8 => gq_copy h6 o7 0 o8 0 16 (fun h9 => some (0, h9)))))))))
set_option maxHeartbeats 4000000 in
set_option maxRecDepth 100000 in
theorem c_SH_copyFrom (h : gx_H) (l0 : Nat) (l1 : Nat) : ∀ r h1, f_SH_copyFrom h l0 l1 = some (r, h1) → gx_Met gm_SH_copyFrom [gx_R l0, gx_R l1] h r h1 := by
  refine gx_enter (l := [some (gx_R l0), some (gx_R l1)]) (by decide) (Nat.le_of_ble_eq_true rfl) rfl ?_
  unfold f_SH_copyFrom
  refine gx_aload_n (i := 0) (by decide +kernel) rfl ?_
  refine gx_aload_n (i := 1) (by decide +kernel) rfl ?_
  refine gx_geti gk_SH (by decide) fl_SH_9 (Or.inl rfl) (by decide +kernel) (fun c2 => ?_)
  refine gx_putiT c2 gk_SH (by decide) fl_SH_9 rfl rfl (by decide +kernel) ?_
  refine gx_aload_n (i := 1) (by decide +kernel) rfl ?_
  refine gx_getr gk_SH (by decide) fl_SH_15 rfl (by decide +kernel) ?_
  refine gx_iconst (n := 0) (by decide +kernel) ?_
  refine gx_aload_n (i := 0) (by decide +kernel) rfl ?_
  refine gx_getr gk_SH (by decide) fl_SH_15 rfl (by decide +kernel) ?_
  refine gx_iconst (n := 0) (by decide +kernel) ?_
  refine gx_bipush (n := 16) (by decide +kernel) (by decide) ?_
  refine gx_copy ml_SH_26 (by decide) (Nat.le_of_ble_eq_true rfl) (by decide +kernel) ?_
  refine gx_aload_n (i := 1) (by decide +kernel) rfl ?_
  refine gx_getr gk_SH (by decide) fl_SH_19 rfl (by decide +kernel) ?_
  refine gx_iconst (n := 0) (by decide +kernel) ?_
  refine gx_aload_n (i := 0) (by decide +kernel) rfl ?_
  refine gx_getr gk_SH (by decide) fl_SH_19 rfl (by decide +kernel) ?_
  refine gx_iconst (n := 0) (by decide +kernel) ?_
  refine gx_bipush (n := 16) (by decide +kernel) (by decide) ?_
  refine gx_copy ml_SH_26 (by decide) (Nat.le_of_ble_eq_true rfl) (by decide +kernel) ?_
  exact gx_return rfl rfl (by decide +kernel)
def f_ST_copyFrom (h : gx_H) (l0 : Nat) (l1 : Nat) : Option (Int × gx_H) :=
  gq_gr h l0 9 0 (fun o1 => gq_gr h l1 9 0 (fun o2 => gq_cv h o1 8 (f_SH_copyFrom h o1 o2) (fun r3 h4 => gq_gr h4 l1 9 1 (fun o5 => gq_gr h4 l0 9 1 (fun o6 => gq_copy h4 o5 0 o6 0 4 (fun h7 => gq_gr h7 l1 9 2 (fun o8 => gq_gr h7 l0 9 2 (fun o9 => gq_copy h7 o8 0 o9 0 4 (fun h10 => gq_gr h10 l1 9 3 (fun o11 => gq_gr h10 l0 9 3 (fun o12 => gq_copy h10 o11 0 o12 0 16 (fun h13 => gq_gr h13 l1 9 4 (fun o14 => gq_gr h13 l0 9 4 (fun o15 => gq_copy h13 o14 0 o15 0 16 (fun h16 => gq_get h16 l1 9 5 (fun v17 => gq_put True h16 l0 9 5 v17 (fun h19 => some (0, h19))))))))))))))))))
set_option maxHeartbeats 4000000 in
set_option maxRecDepth 100000 in
theorem c_ST_copyFrom (h : gx_H) (l0 : Nat) (l1 : Nat) : ∀ r h1, f_ST_copyFrom h l0 l1 = some (r, h1) → gx_Met gm_ST_copyFrom [gx_R l0, gx_R l1] h r h1 := by
  refine gx_enter (l := [some (gx_R l0), some (gx_R l1)]) (by decide) (Nat.le_of_ble_eq_true rfl) rfl ?_
  unfold f_ST_copyFrom
  refine gx_aload_n (i := 0) (by decide +kernel) rfl ?_
  refine gx_getr gk_ST (by decide) fl_ST_12 rfl (by decide +kernel) ?_
  refine gx_aload_n (i := 1) (by decide +kernel) rfl ?_
  refine gx_getr gk_ST (by decide) fl_ST_12 rfl (by decide +kernel) ?_
  refine gx_cVv1 (Mc := gm_SH_copyFrom) (u' := (0, 0)) (c_SH_copyFrom _ _ _) vk_SH_copyFrom ml_ST_43 rfl rfl ⟨by decide, by decide, by decide, by decide⟩ (Nat.le_of_ble_eq_true rfl) (by decide +kernel) (fun r3 h4 => ?_)
  refine gx_aload_n (i := 1) (by decide +kernel) rfl ?_
  refine gx_getr gk_ST (by decide) fl_ST_18 rfl (by decide +kernel) ?_
  refine gx_iconst (n := 0) (by decide +kernel) ?_
  refine gx_aload_n (i := 0) (by decide +kernel) rfl ?_
  refine gx_getr gk_ST (by decide) fl_ST_18 rfl (by decide +kernel) ?_
  refine gx_iconst (n := 0) (by decide +kernel) ?_
  refine gx_iconst (n := 4) (by decide +kernel) ?_
  refine gx_copy ml_ST_47 (by decide) (Nat.le_of_ble_eq_true rfl) (by decide +kernel) ?_
  refine gx_aload_n (i := 1) (by decide +kernel) rfl ?_
  refine gx_getr gk_ST (by decide) fl_ST_22 rfl (by decide +kernel) ?_
  refine gx_iconst (n := 0) (by decide +kernel) ?_
  refine gx_aload_n (i := 0) (by decide +kernel) rfl ?_
  refine gx_getr gk_ST (by decide) fl_ST_22 rfl (by decide +kernel) ?_
  refine gx_iconst (n := 0) (by decide +kernel) ?_
  refine gx_iconst (n := 4) (by decide +kernel) ?_
  refine gx_copy ml_ST_47 (by decide) (Nat.le_of_ble_eq_true rfl) (by decide +kernel) ?_
  refine gx_aload_n (i := 1) (by decide +kernel) rfl ?_
  refine gx_getr gk_ST (by decide) fl_ST_25 rfl (by decide +kernel) ?_
  refine gx_iconst (n := 0) (by decide +kernel) ?_
  refine gx_aload_n (i := 0) (by decide +kernel) rfl ?_
  refine gx_getr gk_ST (by decide) fl_ST_25 rfl (by decide +kernel) ?_
  refine gx_iconst (n := 0) (by decide +kernel) ?_
  refine gx_bipush (n := 16) (by decide +kernel) (by decide) ?_
  refine gx_copy ml_ST_47 (by decide) (Nat.le_of_ble_eq_true rfl) (by decide +kernel) ?_
  refine gx_aload_n (i := 1) (by decide +kernel) rfl ?_
  refine gx_getr gk_ST (by decide) fl_ST_28 rfl (by decide +kernel) ?_
  refine gx_iconst (n := 0) (by decide +kernel) ?_
  refine gx_aload_n (i := 0) (by decide +kernel) rfl ?_
  refine gx_getr gk_ST (by decide) fl_ST_28 rfl (by decide +kernel) ?_
  refine gx_iconst (n := 0) (by decide +kernel) ?_
  refine gx_bipush (n := 16) (by decide +kernel) (by decide) ?_
  refine gx_copy ml_ST_47 (by decide) (Nat.le_of_ble_eq_true rfl) (by decide +kernel) ?_
  refine gx_aload_n (i := 0) (by decide +kernel) rfl ?_
  refine gx_aload_n (i := 1) (by decide +kernel) rfl ?_
  refine gx_geti gk_ST (by decide) fl_ST_31 (Or.inl rfl) (by decide +kernel) (fun c18 => ?_)
  refine gx_putiT c18 gk_ST (by decide) fl_ST_31 rfl rfl (by decide +kernel) ?_
  exact gx_return rfl rfl (by decide +kernel)
def f_LE_takeSpare (h : gx_H) (l0 : Nat) : Option (Int × gx_H) :=
  gq_gr h l0 0 13 (fun o1 => gq_gr h l0 0 14 (fun o2 => gq_put True h l0 0 13 (o2 : Int) (fun h3 => gq_put True h3 l0 0 14 (o1 : Int) (fun h4 => gq_put True h4 l0 0 17 1 (fun h5 => some (0, h5))))))
set_option maxHeartbeats 4000000 in
set_option maxRecDepth 100000 in
theorem c_LE_takeSpare (h : gx_H) (l0 : Nat) : ∀ r h1, f_LE_takeSpare h l0 = some (r, h1) → gx_Met gm_LE_takeSpare [gx_R l0] h r h1 := by
  refine gx_enter (l := [some (gx_R l0), none]) (by decide) (Nat.le_of_ble_eq_true rfl) rfl ?_
  unfold f_LE_takeSpare
  refine gx_aload_n (i := 0) (by decide +kernel) rfl ?_
  refine gx_getr gk_LE (by decide) fl_LE_87 rfl (by decide +kernel) ?_
  refine gx_astore_n (i := 1) (l' := [some (gx_R _), some (gx_R _)]) (by decide +kernel) rfl (Nat.le_of_ble_eq_true rfl) (by decide) rfl ?_
  refine gx_aload_n (i := 0) (by decide +kernel) rfl ?_
  refine gx_aload_n (i := 0) (by decide +kernel) rfl ?_
  refine gx_getr gk_LE (by decide) fl_LE_90 rfl (by decide +kernel) ?_
  refine gx_putr gk_LE (by decide) fl_LE_87 rfl rfl (by decide +kernel) ?_
  refine gx_aload_n (i := 0) (by decide +kernel) rfl ?_
  refine gx_aload_n (i := 1) (by decide +kernel) rfl ?_
  refine gx_putr gk_LE (by decide) fl_LE_90 rfl rfl (by decide +kernel) ?_
  refine gx_aload_n (i := 0) (by decide +kernel) rfl ?_
  refine gx_iconst (n := 1) (by decide +kernel) ?_
  refine gx_putzT (by decide) gk_LE (by decide) fl_LE_101 rfl rfl (by decide +kernel) ?_
  exact gx_return rfl rfl (by decide +kernel)
def fb_SC_fits_2 (N2 : gx_H → Nat → Nat → Int → Int → Option (Int × gx_H)) (h : gx_H) (l0 : Nat) (l1 : Nat) (l2 : Int) (l3 : Int) : Option (Int × gx_H) :=
  gq_g (gx_i l3) (gq_g (gx_i l2) (if l3 < l2 then gq_ald 0 h l1 l2 (fun v3 => gq_gr h l0 8 1 (fun o5 => gq_call (f_LE_cell h l2 l3) (fun r6 h7 => gq_ald 0 h7 o5 r6 (fun v8 => gq_ald 0 h7 l1 l3 (fun v10 => gq_gr h7 l0 8 1 (fun o12 => gq_call (f_LE_cell h7 l3 l2) (fun r13 h14 => gq_ald 0 h14 o12 r13 (fun v15 => gq_g (gx_i (v3 * v8)) (gq_g (gx_i (-(v10 * v15))) (if (v3 * v8) = (-(v10 * v15)) then N2 h14 l0 l1 l2 (l3 + 1) else some (0, h14))))))))))) else some (1, h)))
set_option maxHeartbeats 4000000 in
set_option maxRecDepth 100000 in
theorem yb_SC_fits_2 (N2 : gx_H → Nat → Nat → Int → Int → Option (Int × gx_H)) (hN2 : ∀ (h : gx_H) (l0 : Nat) (l1 : Nat) (l2 : Int) (l3 : Int), gx_Y gm_SC_fits (0, 0) 2 [some (gx_R l0), some (gx_R l1), some (gx_I l2), some (gx_I l3), none, none] [] h (N2 h l0 l1 l2 l3)) (h : gx_H) (l0 : Nat) (l1 : Nat) (l2 : Int) (l3 : Int) : gx_Y gm_SC_fits (0, 0) 2 [some (gx_R l0), some (gx_R l1), some (gx_I l2), some (gx_I l3), none, none] [] h (fb_SC_fits_2 N2 h l0 l1 l2 l3) := by
  unfold fb_SC_fits_2
  refine gx_iload_n (i := 3) (by decide +kernel) rfl ?_
  refine gx_iload_n (i := 2) (by decide +kernel) rfl ?_
  refine gx_g (fun c1 => ?_)
  refine gx_g (fun c2 => ?_)
  refine gx_icmp_ge (off := 51) (tgt := 55) c1 c2 (by decide +kernel) (by decide) ?_ ?_
  · refine gx_iconst (n := 1) (by decide +kernel) ?_
    exact gx_zreturn (by decide) rfl rfl (by decide +kernel)
  · refine gx_aload_n (i := 1) (by decide +kernel) rfl ?_
    refine gx_iload_n (i := 2) (by decide +kernel) rfl ?_
    refine gx_ialdi (by decide +kernel) (fun c4 => ?_)
    refine gx_aload_n (i := 0) (by decide +kernel) rfl ?_
    refine gx_getr gk_SH (by decide) fl_SC_32 rfl (by decide +kernel) ?_
    refine gx_iload_n (i := 2) (by decide +kernel) rfl ?_
    refine gx_iload_n (i := 3) (by decide +kernel) rfl ?_
    refine gx_cSNi2 (Mc := gm_LE_cell) (u' := (0, 0)) (c_LE_cell _ _ _) sk_LE_cell ml_SC_35 rfl rfl ⟨by decide, by decide, by decide, by decide⟩ (Nat.le_of_ble_eq_true rfl) (by decide +kernel) (fun r6 h7 => ?_)
    refine gx_ialdi (by decide +kernel) (fun c9 => ?_)
    refine gx_imul (by decide +kernel) ?_
    refine gx_istore (i := 4) (l' := [some (gx_R _), some (gx_R _), some (gx_I _), some (gx_I _), some (gx_I _), none]) (by decide +kernel) rfl (Nat.le_of_ble_eq_true rfl) (by decide) rfl ?_
    refine gx_aload_n (i := 1) (by decide +kernel) rfl ?_
    refine gx_iload_n (i := 3) (by decide +kernel) rfl ?_
    refine gx_ialdi (by decide +kernel) (fun c11 => ?_)
    refine gx_aload_n (i := 0) (by decide +kernel) rfl ?_
    refine gx_getr gk_SH (by decide) fl_SC_32 rfl (by decide +kernel) ?_
    refine gx_iload_n (i := 3) (by decide +kernel) rfl ?_
    refine gx_iload_n (i := 2) (by decide +kernel) rfl ?_
    refine gx_cSNi2 (Mc := gm_LE_cell) (u' := (0, 0)) (c_LE_cell _ _ _) sk_LE_cell ml_SC_35 rfl rfl ⟨by decide, by decide, by decide, by decide⟩ (Nat.le_of_ble_eq_true rfl) (by decide +kernel) (fun r13 h14 => ?_)
    refine gx_ialdi (by decide +kernel) (fun c16 => ?_)
    refine gx_imul (by decide +kernel) ?_
    refine gx_istore (i := 5) (l' := [some (gx_R _), some (gx_R _), some (gx_I _), some (gx_I _), some (gx_I _), some (gx_I _)]) (by decide +kernel) rfl (Nat.le_of_ble_eq_true rfl) (by decide) rfl ?_
    refine gx_iload (i := 4) (by decide +kernel) rfl ?_
    refine gx_iload (i := 5) (by decide +kernel) rfl ?_
    refine gx_ineg (by decide +kernel) ?_
    refine gx_g (fun c17 => ?_)
    refine gx_g (fun c18 => ?_)
    refine gx_icmp_eq (off := 5) (tgt := 49) c17 c18 (by decide +kernel) (by decide) ?_ ?_
    · refine gx_iinc (i := 3) (n := 1) (l' := [some (gx_R _), some (gx_R _), some (gx_I _), some (gx_I _), some (gx_I _), some (gx_I _)]) (by decide +kernel) rfl rfl (Nat.le_of_ble_eq_true rfl) (by decide) rfl ?_
      refine gx_goto (off := -50) (tgt := 2) (by decide +kernel) (by decide) ?_
      exact gx_less' (hN2 _ _ _ _ _) ⟨rfl, rfl, rfl, rfl, trivial⟩
    · refine gx_iconst (n := 0) (by decide +kernel) ?_
      exact gx_zreturn (by decide) rfl rfl (by decide +kernel)
def f_SC_fits_2 : Nat → gx_H → Nat → Nat → Int → Int → Option (Int × gx_H)
  | 0 => fun _ _ _ _ _ => none
  | fu + 1 => fb_SC_fits_2 (f_SC_fits_2 fu)
theorem y_SC_fits_2 : ∀ (fu : Nat) (h : gx_H) (l0 : Nat) (l1 : Nat) (l2 : Int) (l3 : Int), gx_Y gm_SC_fits (0, 0) 2 [some (gx_R l0), some (gx_R l1), some (gx_I l2), some (gx_I l3), none, none] [] h (f_SC_fits_2 fu h l0 l1 l2 l3) := by
  intro fu
  induction fu with
  | zero => intro h l0 l1 l2 l3; exact gx_none
  | succ fu ih => intro h l0 l1 l2 l3; exact yb_SC_fits_2 (f_SC_fits_2 fu) ih h l0 l1 l2 l3
def f_SC_fits (h : gx_H) (l0 : Nat) (l1 : Nat) (l2 : Int) : Option (Int × gx_H) :=
  f_SC_fits_2 gx_fu h l0 l1 l2 0
set_option maxHeartbeats 4000000 in
set_option maxRecDepth 100000 in
theorem c_SC_fits (h : gx_H) (l0 : Nat) (l1 : Nat) (l2 : Int) : ∀ r h1, f_SC_fits h l0 l1 l2 = some (r, h1) → gx_Met gm_SC_fits [gx_R l0, gx_R l1, gx_I l2] h r h1 := by
  refine gx_enter (l := [some (gx_R l0), some (gx_R l1), some (gx_I l2), none, none, none]) (by decide) (Nat.le_of_ble_eq_true rfl) rfl ?_
  unfold f_SC_fits
  refine gx_iconst (n := 0) (by decide +kernel) ?_
  refine gx_istore_n (i := 3) (l' := [some (gx_R _), some (gx_R _), some (gx_I _), some (gx_I _), none, none]) (by decide +kernel) rfl (Nat.le_of_ble_eq_true rfl) (by decide) rfl ?_
  exact gx_less' (y_SC_fits_2 gx_fu _ _ _ _ _) ⟨rfl, rfl, rfl, rfl, trivial⟩
def fb_SC_weighFrom_49 (RC : gx_H → Nat → Nat → Int → Option (Int × gx_H)) (N17 : gx_H → Nat → Nat → Int → Int → Option (Int × gx_H)) (h : gx_H) (l0 : Nat) (l1 : Nat) (l2 : Int) (l3 : Int) : Option (Int × gx_H) :=
  N17 h l0 l1 l2 (l3 + 1)
set_option maxHeartbeats 4000000 in
set_option maxRecDepth 100000 in
theorem y_SC_weighFrom_49 {d : Nat} (RC : gx_H → Nat → Nat → Int → Option (Int × gx_H)) (hRC : ∀ h a b c r h1, RC h a b c = some (r, h1) → gx_Met (gm_SC_weighFrom d) [gx_R a, gx_R b, gx_I c] h r h1) (N17 : gx_H → Nat → Nat → Int → Int → Option (Int × gx_H)) (hN17 : ∀ (h : gx_H) (l0 : Nat) (l1 : Nat) (l2 : Int) (l3 : Int), gx_Y (gm_SC_weighFrom (d + 1)) (0, 0) 17 [some (gx_R l0), some (gx_R l1), some (gx_I l2), some (gx_I l3)] [] h (N17 h l0 l1 l2 l3)) (h : gx_H) (l0 : Nat) (l1 : Nat) (l2 : Int) (l3 : Int) : gx_Y (gm_SC_weighFrom (d + 1)) (0, 0) 49 [some (gx_R l0), some (gx_R l1), some (gx_I l2), some (gx_I l3)] [] h (fb_SC_weighFrom_49 RC N17 h l0 l1 l2 l3) := by
  unfold fb_SC_weighFrom_49
  refine gx_iinc (i := 3) (n := 1) (l' := [some (gx_R _), some (gx_R _), some (gx_I _), some (gx_I _)]) (show decode prog_7_method_3_code _ = _ from by decide +kernel) rfl rfl (Nat.le_of_ble_eq_true rfl) (Nat.le_of_ble_eq_true rfl) rfl ?_
  refine gx_goto (off := -35) (tgt := 17) (show decode prog_7_method_3_code _ = _ from by decide +kernel) (by decide) ?_
  exact gx_less' (hN17 _ _ _ _ _) ⟨rfl, rfl, rfl, rfl, trivial⟩
def fb_SC_weighFrom_17 (RC : gx_H → Nat → Nat → Int → Option (Int × gx_H)) (N17 : gx_H → Nat → Nat → Int → Int → Option (Int × gx_H)) (h : gx_H) (l0 : Nat) (l1 : Nat) (l2 : Int) (l3 : Int) : Option (Int × gx_H) :=
  gq_g (gx_i l3) (if 9 < l3 then some (0, h) else gq_ast 0 True h l1 l2 l3 (fun h2 => gq_call (f_SC_fits h2 l0 l1 l2) (fun r3 h4 => gq_g (gx_i r3) (if r3 = 0 then fb_SC_weighFrom_49 RC N17 h4 l0 l1 l2 l3 else gq_call (RC h4 l0 l1 (l2 + 1)) (fun r6 h7 => gq_g (gx_i r6) (if r6 = 0 then fb_SC_weighFrom_49 RC N17 h7 l0 l1 l2 l3 else some (1, h7)))))))
set_option maxHeartbeats 4000000 in
set_option maxRecDepth 100000 in
theorem yb_SC_weighFrom_17 {d : Nat} (RC : gx_H → Nat → Nat → Int → Option (Int × gx_H)) (hRC : ∀ h a b c r h1, RC h a b c = some (r, h1) → gx_Met (gm_SC_weighFrom d) [gx_R a, gx_R b, gx_I c] h r h1) (N17 : gx_H → Nat → Nat → Int → Int → Option (Int × gx_H)) (hN17 : ∀ (h : gx_H) (l0 : Nat) (l1 : Nat) (l2 : Int) (l3 : Int), gx_Y (gm_SC_weighFrom (d + 1)) (0, 0) 17 [some (gx_R l0), some (gx_R l1), some (gx_I l2), some (gx_I l3)] [] h (N17 h l0 l1 l2 l3)) (h : gx_H) (l0 : Nat) (l1 : Nat) (l2 : Int) (l3 : Int) : gx_Y (gm_SC_weighFrom (d + 1)) (0, 0) 17 [some (gx_R l0), some (gx_R l1), some (gx_I l2), some (gx_I l3)] [] h (fb_SC_weighFrom_17 RC N17 h l0 l1 l2 l3) := by
  unfold fb_SC_weighFrom_17
  refine gx_iload_n (i := 3) (show decode prog_7_method_3_code _ = _ from by decide +kernel) rfl ?_
  refine gx_bipush (n := 9) (show decode prog_7_method_3_code _ = _ from by decide +kernel) (by decide) ?_
  refine gx_g (fun c1 => ?_)
  refine gx_icmp_gt (off := 35) (tgt := 55) c1 (by decide) (show decode prog_7_method_3_code _ = _ from by decide +kernel) (by decide) ?_ ?_
  · refine gx_iconst (n := 0) (show decode prog_7_method_3_code _ = _ from by decide +kernel) ?_
    exact gx_zreturn (by decide) rfl rfl (show decode prog_7_method_3_code _ = _ from by decide +kernel)
  · refine gx_aload_n (i := 1) (show decode prog_7_method_3_code _ = _ from by decide +kernel) rfl ?_
    refine gx_iload_n (i := 2) (show decode prog_7_method_3_code _ = _ from by decide +kernel) rfl ?_
    refine gx_iload_n (i := 3) (show decode prog_7_method_3_code _ = _ from by decide +kernel) rfl ?_
    refine gx_iastT c1 (show decode prog_7_method_3_code _ = _ from by decide +kernel) ?_
    refine gx_aload_n (i := 0) (show decode prog_7_method_3_code _ = _ from by decide +kernel) rfl ?_
    refine gx_aload_n (i := 1) (show decode prog_7_method_3_code _ = _ from by decide +kernel) rfl ?_
    refine gx_iload_n (i := 2) (show decode prog_7_method_3_code _ = _ from by decide +kernel) rfl ?_
    refine gx_cSi3 (Mc := gm_SC_fits) (u' := (0, 0)) (c_SC_fits _ _ _ _) sk_SC_fits ml_SC_29 rfl rfl ⟨by show 1 + 1 ≤ d + 1 + 2; omega, by show 8 + (6 + 11) + 21 ≤ 100 + 40 * (d + 1); omega, by show 0 ≤ 0; omega, by show 0 ≤ 0; omega⟩ (Nat.le_of_ble_eq_true rfl) (show decode prog_7_method_3_code _ = _ from by decide +kernel) (fun r3 h4 => ?_)
    refine gx_g (fun c5 => ?_)
    refine gx_if_eq (off := 16) (tgt := 49) c5 (show decode prog_7_method_3_code _ = _ from by decide +kernel) (by decide) ?_ ?_
    · exact gx_less' (y_SC_weighFrom_49 _ hRC _ hN17 _ _ _ _ _) ⟨rfl, rfl, rfl, rfl, trivial⟩
    · refine gx_aload_n (i := 0) (show decode prog_7_method_3_code _ = _ from by decide +kernel) rfl ?_
      refine gx_aload_n (i := 1) (show decode prog_7_method_3_code _ = _ from by decide +kernel) rfl ?_
      refine gx_iload_n (i := 2) (show decode prog_7_method_3_code _ = _ from by decide +kernel) rfl ?_
      refine gx_iconst (n := 1) (show decode prog_7_method_3_code _ = _ from by decide +kernel) ?_
      refine gx_iadd (show decode prog_7_method_3_code _ = _ from by decide +kernel) ?_
      refine gx_cSi3 (Mc := gm_SC_weighFrom d) (u' := (0, 0)) (hRC _ _ _ _) (sk_SC_weighFrom _) ml_SC_19 rfl rfl ⟨by show d + 2 + 1 ≤ d + 1 + 2; omega, by show 8 + (4 + 11) + (100 + 40 * d) ≤ 100 + 40 * (d + 1); omega, by show 0 ≤ 0; omega, by show 0 ≤ 0; omega⟩ (Nat.le_of_ble_eq_true rfl) (show decode prog_7_method_3_code _ = _ from by decide +kernel) (fun r6 h7 => ?_)
      refine gx_g (fun c8 => ?_)
      refine gx_if_eq (off := 5) (tgt := 49) c8 (show decode prog_7_method_3_code _ = _ from by decide +kernel) (by decide) ?_ ?_
      · exact gx_less' (y_SC_weighFrom_49 _ hRC _ hN17 _ _ _ _ _) ⟨rfl, rfl, rfl, rfl, trivial⟩
      · refine gx_iconst (n := 1) (show decode prog_7_method_3_code _ = _ from by decide +kernel) ?_
        exact gx_zreturn (by decide) rfl rfl (show decode prog_7_method_3_code _ = _ from by decide +kernel)
def f_SC_weighFrom_17 (RC : gx_H → Nat → Nat → Int → Option (Int × gx_H)) : Nat → gx_H → Nat → Nat → Int → Int → Option (Int × gx_H)
  | 0 => fun _ _ _ _ _ => none
  | fu + 1 => fb_SC_weighFrom_17 RC (f_SC_weighFrom_17 RC fu)
theorem y_SC_weighFrom_17 {d : Nat} (RC : gx_H → Nat → Nat → Int → Option (Int × gx_H)) (hRC : ∀ h a b c r h1, RC h a b c = some (r, h1) → gx_Met (gm_SC_weighFrom d) [gx_R a, gx_R b, gx_I c] h r h1) : ∀ (fu : Nat) (h : gx_H) (l0 : Nat) (l1 : Nat) (l2 : Int) (l3 : Int), gx_Y (gm_SC_weighFrom (d + 1)) (0, 0) 17 [some (gx_R l0), some (gx_R l1), some (gx_I l2), some (gx_I l3)] [] h (f_SC_weighFrom_17 RC fu h l0 l1 l2 l3) := by
  intro fu
  induction fu with
  | zero => intro h l0 l1 l2 l3; exact gx_none
  | succ fu ih => intro h l0 l1 l2 l3; exact yb_SC_weighFrom_17 RC hRC (f_SC_weighFrom_17 RC fu) ih h l0 l1 l2 l3
def fe_SC_weighFrom (RC : gx_H → Nat → Nat → Int → Option (Int × gx_H)) (h : gx_H) (l0 : Nat) (l1 : Nat) (l2 : Int) : Option (Int × gx_H) :=
  gq_get h l0 8 0 (fun v1 => gq_g (gx_i l2) (if l2 < v1 then if l2 < 4 then f_SC_weighFrom_17 RC gx_fu h l0 l1 l2 1 else some (1, h) else some (1, h)))
def f_SC_weighFrom : Nat → gx_H → Nat → Nat → Int → Option (Int × gx_H)
  | 0 => fun _ _ _ _ => none
  | d + 1 => fe_SC_weighFrom (f_SC_weighFrom d)
set_option maxHeartbeats 4000000 in
set_option maxRecDepth 100000 in
theorem ye_SC_weighFrom {d : Nat} (RC : gx_H → Nat → Nat → Int → Option (Int × gx_H)) (hRC : ∀ h a b c r h1, RC h a b c = some (r, h1) → gx_Met (gm_SC_weighFrom d) [gx_R a, gx_R b, gx_I c] h r h1) (h : gx_H) (l0 : Nat) (l1 : Nat) (l2 : Int) : gx_Y (gm_SC_weighFrom (d + 1)) (0, 0) 0 [some (gx_R l0), some (gx_R l1), some (gx_I l2), none] [] h (fe_SC_weighFrom RC h l0 l1 l2) := by
  unfold fe_SC_weighFrom
  refine gx_iload_n (i := 2) (show decode prog_7_method_3_code _ = _ from by decide +kernel) rfl ?_
  refine gx_aload_n (i := 0) (show decode prog_7_method_3_code _ = _ from by decide +kernel) rfl ?_
  refine gx_geti gk_SH (by decide) fl_SC_23 (Or.inl rfl) (show decode prog_7_method_3_code _ = _ from by decide +kernel) (fun c2 => ?_)
  refine gx_g (fun c3 => ?_)
  refine gx_icmp_ge (off := 8) (tgt := 13) c3 c2 (show decode prog_7_method_3_code _ = _ from by decide +kernel) (by decide) ?_ ?_
  · refine gx_iconst (n := 1) (show decode prog_7_method_3_code _ = _ from by decide +kernel) ?_
    exact gx_zreturn (by decide) rfl rfl (show decode prog_7_method_3_code _ = _ from by decide +kernel)
  · refine gx_iload_n (i := 2) (show decode prog_7_method_3_code _ = _ from by decide +kernel) rfl ?_
    refine gx_iconst (n := 4) (show decode prog_7_method_3_code _ = _ from by decide +kernel) ?_
    refine gx_icmp_lt (off := 5) (tgt := 15) c3 (by decide) (show decode prog_7_method_3_code _ = _ from by decide +kernel) (by decide) ?_ ?_
    · refine gx_iconst (n := 1) (show decode prog_7_method_3_code _ = _ from by decide +kernel) ?_
      refine gx_istore_n (i := 3) (l' := [some (gx_R _), some (gx_R _), some (gx_I _), some (gx_I _)]) (show decode prog_7_method_3_code _ = _ from by decide +kernel) rfl (Nat.le_of_ble_eq_true rfl) (Nat.le_of_ble_eq_true rfl) rfl ?_
      exact gx_less' (y_SC_weighFrom_17 _ hRC gx_fu _ _ _ _ _) ⟨rfl, rfl, rfl, rfl, trivial⟩
    · refine gx_iconst (n := 1) (show decode prog_7_method_3_code _ = _ from by decide +kernel) ?_
      exact gx_zreturn (by decide) rfl rfl (show decode prog_7_method_3_code _ = _ from by decide +kernel)
theorem c_SC_weighFrom : ∀ (d : Nat) (h : gx_H) (l0 : Nat) (l1 : Nat) (l2 : Int) (r : Int) (h1 : gx_H), f_SC_weighFrom d h l0 l1 l2 = some (r, h1) → gx_Met (gm_SC_weighFrom d) [gx_R l0, gx_R l1, gx_I l2] h r h1 := by
  intro d
  induction d with
  | zero => intro h l0 l1 l2 r h1 hr; cases hr
  | succ d ih => intro h l0 l1 l2 r h1 hr; exact gx_enter (show plainName "LetterExchange$Scales" = true by decide) (Nat.le_of_ble_eq_true rfl) rfl (ye_SC_weighFrom (f_SC_weighFrom d) ih h l0 l1 l2) r h1 hr
def f_SC_weigh (h : gx_H) (l0 : Nat) (l1 : Nat) : Option (Int × gx_H) :=
  gq_gr h l0 7 1 (fun o1 => gq_call (f_SC_weighFrom 6 h l1 o1 0) (fun r2 h3 => gq_put ((r2 : Int) = 0 ∨ (r2 : Int) = 1) h3 l0 7 0 r2 (fun h4 => some (0, h4))))
set_option maxHeartbeats 4000000 in
set_option maxRecDepth 100000 in
theorem c_SC_weigh (h : gx_H) (l0 : Nat) (l1 : Nat) : ∀ r h1, f_SC_weigh h l0 l1 = some (r, h1) → gx_Met gm_SC_weigh [gx_R l0, gx_R l1] h r h1 := by
  refine gx_enter (l := [some (gx_R l0), some (gx_R l1)]) (by decide) (Nat.le_of_ble_eq_true rfl) rfl ?_
  unfold f_SC_weigh
  refine gx_aload_n (i := 0) (by decide +kernel) rfl ?_
  refine gx_aload_n (i := 1) (by decide +kernel) rfl ?_
  refine gx_aload_n (i := 0) (by decide +kernel) rfl ?_
  refine gx_getr gk_SC (by decide) fl_SC_15 rfl (by decide +kernel) ?_
  refine gx_iconst (n := 0) (by decide +kernel) ?_
  refine gx_cSi3 (Mc := gm_SC_weighFrom 6) (u' := (0, 0)) (c_SC_weighFrom 6 _ _ _ _) (sk_SC_weighFrom _) ml_SC_19 rfl rfl ⟨by decide, by decide, by decide, by decide⟩ (Nat.le_of_ble_eq_true rfl) (by decide +kernel) (fun r2 h3 => ?_)
  refine gx_putz gk_SC (by decide) fl_SC_9 rfl rfl (by decide +kernel) ?_
  exact gx_return rfl rfl (by decide +kernel)
def f_HI_forget (h : gx_H) (l0 : Nat) : Option (Int × gx_H) :=
  gq_put True h l0 6 2 0 (fun h1 => some (0, h1))
set_option maxHeartbeats 4000000 in
set_option maxRecDepth 100000 in
theorem c_HI_forget (h : gx_H) (l0 : Nat) : ∀ r h1, f_HI_forget h l0 = some (r, h1) → gx_Met gm_HI_forget [gx_R l0] h r h1 := by
  refine gx_enter (l := [some (gx_R l0)]) (by decide) (Nat.le_of_ble_eq_true rfl) rfl ?_
  unfold f_HI_forget
  refine gx_aload_n (i := 0) (by decide +kernel) rfl ?_
  refine gx_iconst (n := 0) (by decide +kernel) ?_
  refine gx_putiT (by decide) gk_HI (by decide) fl_HI_21 rfl rfl (by decide +kernel) ?_
  exact gx_return rfl rfl (by decide +kernel)
def fb_LE_beginAsSpare_46 (N46 : gx_H → Nat → Int → Option (Int × gx_H)) (h : gx_H) (l0 : Nat) (l1 : Int) : Option (Int × gx_H) :=
  gq_g (gx_i l1) (if l1 < 2 then gq_gr h l0 0 10 (fun o3 => gq_ast 1 True h o3 l1 0 (fun h4 => N46 h4 l0 (l1 + 1))) else gq_put True h l0 0 16 1 (fun h2 => some (0, h2)))
set_option maxHeartbeats 4000000 in
set_option maxRecDepth 100000 in
theorem yb_LE_beginAsSpare_46 (N46 : gx_H → Nat → Int → Option (Int × gx_H)) (hN46 : ∀ (h : gx_H) (l0 : Nat) (l1 : Int), gx_Y gm_LE_beginAsSpare (0, 0) 46 [some (gx_R l0), some (gx_I l1)] [] h (N46 h l0 l1)) (h : gx_H) (l0 : Nat) (l1 : Int) : gx_Y gm_LE_beginAsSpare (0, 0) 46 [some (gx_R l0), some (gx_I l1)] [] h (fb_LE_beginAsSpare_46 N46 h l0 l1) := by
  unfold fb_LE_beginAsSpare_46
  refine gx_iload_n (i := 1) (by decide +kernel) rfl ?_
  refine gx_iconst (n := 2) (by decide +kernel) ?_
  refine gx_g (fun c1 => ?_)
  refine gx_icmp_ge (off := 16) (tgt := 64) c1 (by decide) (by decide +kernel) (by decide) ?_ ?_
  · refine gx_aload_n (i := 0) (by decide +kernel) rfl ?_
    refine gx_iconst (n := 1) (by decide +kernel) ?_
    refine gx_putzT (by decide) gk_LE (by decide) fl_LE_97 rfl rfl (by decide +kernel) ?_
    exact gx_return rfl rfl (by decide +kernel)
  · refine gx_aload_n (i := 0) (by decide +kernel) rfl ?_
    refine gx_getr gk_LE (by decide) fl_LE_76 rfl (by decide +kernel) ?_
    refine gx_iload_n (i := 1) (by decide +kernel) rfl ?_
    refine gx_iconst (n := 0) (by decide +kernel) ?_
    refine gx_zastT (by decide) (by decide +kernel) ?_
    refine gx_iinc (i := 1) (n := 1) (l' := [some (gx_R _), some (gx_I _)]) (by decide +kernel) rfl rfl (Nat.le_of_ble_eq_true rfl) (by decide) rfl ?_
    refine gx_goto (off := -15) (tgt := 46) (by decide +kernel) (by decide) ?_
    exact gx_less' (hN46 _ _ _) ⟨rfl, rfl, trivial⟩
def f_LE_beginAsSpare_46 : Nat → gx_H → Nat → Int → Option (Int × gx_H)
  | 0 => fun _ _ _ => none
  | fu + 1 => fb_LE_beginAsSpare_46 (f_LE_beginAsSpare_46 fu)
theorem y_LE_beginAsSpare_46 : ∀ (fu : Nat) (h : gx_H) (l0 : Nat) (l1 : Int), gx_Y gm_LE_beginAsSpare (0, 0) 46 [some (gx_R l0), some (gx_I l1)] [] h (f_LE_beginAsSpare_46 fu h l0 l1) := by
  intro fu
  induction fu with
  | zero => intro h l0 l1; exact gx_none
  | succ fu ih => intro h l0 l1; exact yb_LE_beginAsSpare_46 (f_LE_beginAsSpare_46 fu) ih h l0 l1
def f_LE_beginAsSpare (h : gx_H) (l0 : Nat) : Option (Int × gx_H) :=
  gq_gr h l0 0 8 (fun o1 => gq_gr h l0 0 14 (fun o2 => gq_cv h o1 9 (f_ST_copyFrom h o1 o2) (fun r3 h4 => gq_cv h4 l0 0 (f_LE_takeSpare h4 l0) (fun r5 h6 => gq_gr h6 l0 0 1 (fun o7 => gq_gr h6 l0 0 8 (fun o8 => gq_gr h6 o8 9 0 (fun o9 => gq_cv h6 o7 7 (f_SC_weigh h6 o7 o9) (fun r10 h11 => gq_gr h11 l0 0 4 (fun o12 => gq_put True h11 o12 2 2 0 (fun h13 => gq_gr h13 l0 0 3 (fun o14 => gq_cv h13 o14 6 (f_HI_forget h13 o14) (fun r15 h16 => f_LE_beginAsSpare_46 gx_fu h16 l0 0))))))))))))
set_option maxHeartbeats 4000000 in
set_option maxRecDepth 100000 in
theorem c_LE_beginAsSpare (h : gx_H) (l0 : Nat) : ∀ r h1, f_LE_beginAsSpare h l0 = some (r, h1) → gx_Met gm_LE_beginAsSpare [gx_R l0] h r h1 := by
  refine gx_enter (l := [some (gx_R l0), none]) (by decide) (Nat.le_of_ble_eq_true rfl) rfl ?_
  unfold f_LE_beginAsSpare
  refine gx_aload_n (i := 0) (by decide +kernel) rfl ?_
  refine gx_getr gk_LE (by decide) fl_LE_68 rfl (by decide +kernel) ?_
  refine gx_aload_n (i := 0) (by decide +kernel) rfl ?_
  refine gx_getr gk_LE (by decide) fl_LE_90 rfl (by decide +kernel) ?_
  refine gx_cVv1 (Mc := gm_ST_copyFrom) (u' := (0, 0)) (c_ST_copyFrom _ _ _) vk_ST_copyFrom ml_LE_219 rfl rfl ⟨by decide, by decide, by decide, by decide⟩ (Nat.le_of_ble_eq_true rfl) (by decide +kernel) (fun r3 h4 => ?_)
  refine gx_aload_n (i := 0) (by decide +kernel) rfl ?_
  refine gx_cVv0 (Mc := gm_LE_takeSpare) (u' := (0, 0)) (c_LE_takeSpare _ _) vk_LE_takeSpare ml_LE_216 rfl rfl ⟨by decide, by decide, by decide, by decide⟩ (Nat.le_of_ble_eq_true rfl) (by decide +kernel) (fun r5 h6 => ?_)
  refine gx_aload_n (i := 0) (by decide +kernel) rfl ?_
  refine gx_getr gk_LE (by decide) fl_LE_19 rfl (by decide +kernel) ?_
  refine gx_aload_n (i := 0) (by decide +kernel) rfl ?_
  refine gx_getr gk_LE (by decide) fl_LE_68 rfl (by decide +kernel) ?_
  refine gx_getr gk_ST (by decide) fl_LE_108 rfl (by decide +kernel) ?_
  refine gx_cVv1 (Mc := gm_SC_weigh) (u' := (0, 0)) (c_SC_weigh _ _ _) vk_SC_weigh ml_LE_261 rfl rfl ⟨by decide, by decide, by decide, by decide⟩ (Nat.le_of_ble_eq_true rfl) (by decide +kernel) (fun r10 h11 => ?_)
  refine gx_aload_n (i := 0) (by decide +kernel) rfl ?_
  refine gx_getr gk_LE (by decide) fl_LE_40 rfl (by decide +kernel) ?_
  refine gx_iconst (n := 0) (by decide +kernel) ?_
  refine gx_putiT (by decide) gk_BK (by decide) fl_LE_161 rfl rfl (by decide +kernel) ?_
  refine gx_aload_n (i := 0) (by decide +kernel) rfl ?_
  refine gx_getr gk_LE (by decide) fl_LE_33 rfl (by decide +kernel) ?_
  refine gx_cVv0 (Mc := gm_HI_forget) (u' := (0, 0)) (c_HI_forget _ _) vk_HI_forget ml_LE_258 rfl rfl ⟨by decide, by decide, by decide, by decide⟩ (Nat.le_of_ble_eq_true rfl) (by decide +kernel) (fun r15 h16 => ?_)
  refine gx_iconst (n := 0) (by decide +kernel) ?_
  refine gx_istore_n (i := 1) (l' := [some (gx_R _), some (gx_I _)]) (by decide +kernel) rfl (Nat.le_of_ble_eq_true rfl) (by decide) rfl ?_
  exact gx_less' (y_LE_beginAsSpare_46 gx_fu _ _ _) ⟨rfl, rfl, trivial⟩
def f_LE_init (h : gx_H) (l0 : Nat) : Option (Int × gx_H) :=
  gq_new h 10 6 (fun o1 h2 => gq_call (f_TX_init h2 o1) (fun r3 h4 => gq_put True h4 l0 0 0 (o1 : Int) (fun h5 => gq_new h5 7 2 (fun o6 h7 => gq_call (f_SC_init h7 o6) (fun r8 h9 => gq_put True h9 l0 0 1 (o6 : Int) (fun h10 => gq_new h10 3 2 (fun o11 h12 => gq_call (f_EX_init h12 o11) (fun r13 h14 => gq_put True h14 l0 0 2 (o11 : Int) (fun h15 => gq_new h15 6 3 (fun o16 h17 => gq_call (f_HI_init h17 o16) (fun r18 h19 => gq_put True h19 l0 0 3 (o16 : Int) (fun h20 => gq_new h20 2 3 (fun o21 h22 => gq_call (f_BK_init h22 o21) (fun r23 h24 => gq_put True h24 l0 0 4 (o21 : Int) (fun h25 => gq_new h25 5 13 (fun o26 h27 => gq_call (f_GR_init h27 o26) (fun r28 h29 => gq_put True h29 l0 0 5 (o26 : Int) (fun h30 => gq_new h30 12 6 (fun o31 h32 => gq_call (f_WA_init h32 o31) (fun r33 h34 => gq_put True h34 l0 0 6 (o31 : Int) (fun h35 => gq_new h35 11 4 (fun o36 h37 => gq_call (f_TU_init h37 o36) (fun r38 h39 => gq_put True h39 l0 0 7 (o36 : Int) (fun h40 => gq_new h40 9 6 (fun o41 h42 => gq_call (f_ST_init h42 o41) (fun r43 h44 => gq_put True h44 l0 0 8 (o41 : Int) (fun h45 => gq_na h45 2 2 (-1) (fun o46 h47 => gq_new h47 9 6 (fun o48 h49 => gq_call (f_ST_init h49 o48) (fun r50 h51 => gq_aas h51 o46 0 o48 9 (fun h52 => gq_new h52 9 6 (fun o53 h54 => gq_call (f_ST_init h54 o53) (fun r55 h56 => gq_aas h56 o46 1 o53 9 (fun h57 => gq_put True h57 l0 0 9 (o46 : Int) (fun h58 => gq_na h58 1 2 0 (fun o59 h60 => gq_put True h60 l0 0 10 (o59 : Int) (fun h61 => gq_na h61 0 2 0 (fun o62 h63 => gq_put True h63 l0 0 11 (o62 : Int) (fun h64 => gq_na h64 0 4 0 (fun o65 h66 => gq_put True h66 l0 0 12 (o65 : Int) (fun h67 => gq_new h67 9 6 (fun o68 h69 => gq_call (f_ST_init h69 o68) (fun r70 h71 => gq_put True h71 l0 0 13 (o68 : Int) (fun h72 => gq_new h72 9 6 (fun o73 h74 => gq_call (f_ST_init h74 o73) (fun r75 h76 => gq_put True h76 l0 0 14 (o73 : Int) (fun h77 => gq_put True h77 l0 0 15 0 (fun h78 => gq_put True h78 l0 0 16 1 (fun h79 => gq_put True h79 l0 0 17 1 (fun h80 => gq_gr h80 l0 0 14 (fun o81 => gq_cv h80 o81 9 (f_ST_begin h80 o81 2) (fun r82 h83 => gq_gr h83 l0 0 14 (fun o84 => gq_gr h83 o84 9 0 (fun o85 => gq_cv h83 o85 8 (f_SH_hang h83 o85 0 1 1 1) (fun r86 h87 => gq_cv h87 l0 0 (f_LE_beginAsSpare h87 l0) (fun r88 h89 => some (0, h89)))))))))))))))))))))))))))))))))))))))))))))))))))))))))
set_option maxHeartbeats 4000000 in
set_option maxRecDepth 100000 in
theorem c_LE_init (h : gx_H) (l0 : Nat) : ∀ r h1, f_LE_init h l0 = some (r, h1) → gx_Met gm_LE_init [gx_R l0] h r h1 := by
  refine gx_enter (l := [some (gx_R l0)]) (by decide) (Nat.le_of_ble_eq_true rfl) rfl ?_
  unfold f_LE_init
  refine gx_aload_n (i := 0) (by decide +kernel) rfl ?_
  refine gx_obj ml_LE_3 (by decide) (Nat.le_of_ble_eq_true rfl) (by decide +kernel) ?_
  refine gx_aload_n (i := 0) (by decide +kernel) rfl ?_
  refine gx_new gk_TX nk_LE_9 ni_TX nj_TX (by decide) ⟨by decide, by decide⟩ (by decide +kernel) ?_
  show gx_Y _ (1, 6) _ _ _ _ _
  refine gx_dup (by decide +kernel) (fun _ => rfl) ?_
  refine gx_cIN (Mc := gm_TX_init) (u' := (2, 106)) (c_TX_init _ _) ik_TX_init ml_LE_11 rfl ⟨by decide, by decide, by decide, by decide⟩ (Nat.le_of_ble_eq_true rfl) (by decide +kernel) (fun r3 h4 => ?_)
  refine gx_putFr gk_LE (by decide) fl_LE_12 rfl rfl rfl rfl (by decide +kernel) ?_
  refine gx_aload_n (i := 0) (by decide +kernel) rfl ?_
  refine gx_new gk_SC nk_LE_16 ni_SC nj_SC (by decide) ⟨by decide, by decide⟩ (by decide +kernel) ?_
  show gx_Y _ (3, 108) _ _ _ _ _
  refine gx_dup (by decide +kernel) (fun _ => rfl) ?_
  refine gx_cIN (Mc := gm_SC_init) (u' := (4, 112)) (c_SC_init _ _) ik_SC_init ml_LE_18 rfl ⟨by decide, by decide, by decide, by decide⟩ (Nat.le_of_ble_eq_true rfl) (by decide +kernel) (fun r8 h9 => ?_)
  refine gx_putFr gk_LE (by decide) fl_LE_19 rfl rfl rfl rfl (by decide +kernel) ?_
  refine gx_aload_n (i := 0) (by decide +kernel) rfl ?_
  refine gx_new gk_EX nk_LE_23 ni_EX nj_EX (by decide) ⟨by decide, by decide⟩ (by decide +kernel) ?_
  show gx_Y _ (5, 114) _ _ _ _ _
  refine gx_dup (by decide +kernel) (fun _ => rfl) ?_
  refine gx_cIN (Mc := gm_EX_init) (u' := (7, 118)) (c_EX_init _ _) ik_EX_init ml_LE_25 rfl ⟨by decide, by decide, by decide, by decide⟩ (Nat.le_of_ble_eq_true rfl) (by decide +kernel) (fun r13 h14 => ?_)
  refine gx_putFr gk_LE (by decide) fl_LE_26 rfl rfl rfl rfl (by decide +kernel) ?_
  refine gx_aload_n (i := 0) (by decide +kernel) rfl ?_
  refine gx_new gk_HI nk_LE_30 ni_HI nj_HI (by decide) ⟨by decide, by decide⟩ (by decide +kernel) ?_
  show gx_Y _ (8, 121) _ _ _ _ _
  refine gx_dup (by decide +kernel) (fun _ => rfl) ?_
  refine gx_cI (Mc := gm_HI_init) (u' := (169, 1761)) (c_HI_init _ _) ik_HI_init ml_LE_32 rfl ⟨by decide, by decide, by decide, by decide⟩ (Nat.le_of_ble_eq_true rfl) (by decide +kernel) (fun r18 h19 => ?_)
  refine gx_putFr gk_LE (by decide) fl_LE_33 rfl rfl rfl rfl (by decide +kernel) ?_
  refine gx_aload_n (i := 0) (by decide +kernel) rfl ?_
  refine gx_new gk_BK nk_LE_37 ni_BK nj_BK (by decide) ⟨by decide, by decide⟩ (by decide +kernel) ?_
  show gx_Y _ (170, 1764) _ _ _ _ _
  refine gx_dup (by decide +kernel) (fun _ => rfl) ?_
  refine gx_cIN (Mc := gm_BK_init) (u' := (172, 1804)) (c_BK_init _ _) ik_BK_init ml_LE_39 rfl ⟨by decide, by decide, by decide, by decide⟩ (Nat.le_of_ble_eq_true rfl) (by decide +kernel) (fun r23 h24 => ?_)
  refine gx_putFr gk_LE (by decide) fl_LE_40 rfl rfl rfl rfl (by decide +kernel) ?_
  refine gx_aload_n (i := 0) (by decide +kernel) rfl ?_
  refine gx_new gk_GR nk_LE_44 ni_GR nj_GR (by decide) ⟨by decide, by decide⟩ (by decide +kernel) ?_
  show gx_Y _ (173, 1817) _ _ _ _ _
  refine gx_dup (by decide +kernel) (fun _ => rfl) ?_
  refine gx_cIN (Mc := gm_GR_init) (u' := (186, 5107)) (c_GR_init _ _) ik_GR_init ml_LE_46 rfl ⟨by decide, by decide, by decide, by decide⟩ (Nat.le_of_ble_eq_true rfl) (by decide +kernel) (fun r28 h29 => ?_)
  refine gx_putFr gk_LE (by decide) fl_LE_47 rfl rfl rfl rfl (by decide +kernel) ?_
  refine gx_aload_n (i := 0) (by decide +kernel) rfl ?_
  refine gx_new gk_WA nk_LE_51 ni_WA nj_WA (by decide) ⟨by decide, by decide⟩ (by decide +kernel) ?_
  show gx_Y _ (187, 5113) _ _ _ _ _
  refine gx_dup (by decide +kernel) (fun _ => rfl) ?_
  refine gx_cIN (Mc := gm_WA_init) (u' := (192, 6113)) (c_WA_init _ _) ik_WA_init ml_LE_53 rfl ⟨by decide, by decide, by decide, by decide⟩ (Nat.le_of_ble_eq_true rfl) (by decide +kernel) (fun r33 h34 => ?_)
  refine gx_putFr gk_LE (by decide) fl_LE_54 rfl rfl rfl rfl (by decide +kernel) ?_
  refine gx_aload_n (i := 0) (by decide +kernel) rfl ?_
  refine gx_new gk_TU nk_LE_58 ni_TU nj_TU (by decide) ⟨by decide, by decide⟩ (by decide +kernel) ?_
  show gx_Y _ (193, 6117) _ _ _ _ _
  refine gx_dup (by decide +kernel) (fun _ => rfl) ?_
  refine gx_cIN (Mc := gm_TU_init) (u' := (201, 6195)) (c_TU_init _ _) ik_TU_init ml_LE_60 rfl ⟨by decide, by decide, by decide, by decide⟩ (Nat.le_of_ble_eq_true rfl) (by decide +kernel) (fun r38 h39 => ?_)
  refine gx_putFr gk_LE (by decide) fl_LE_61 rfl rfl rfl rfl (by decide +kernel) ?_
  refine gx_aload_n (i := 0) (by decide +kernel) rfl ?_
  refine gx_new gk_ST nk_LE_65 ni_ST nj_ST (by decide) ⟨by decide, by decide⟩ (by decide +kernel) ?_
  show gx_Y _ (202, 6201) _ _ _ _ _
  refine gx_dup (by decide +kernel) (fun _ => rfl) ?_
  refine gx_cIN (Mc := gm_ST_init) (u' := (209, 6276)) (c_ST_init _ _) ik_ST_init ml_LE_67 rfl ⟨by decide, by decide, by decide, by decide⟩ (Nat.le_of_ble_eq_true rfl) (by decide +kernel) (fun r43 h44 => ?_)
  refine gx_putFr gk_LE (by decide) fl_LE_68 rfl rfl rfl rfl (by decide +kernel) ?_
  refine gx_aload_n (i := 0) (by decide +kernel) rfl ?_
  refine gx_iconst (n := 2) (by decide +kernel) ?_
  refine gx_newr (N := 2) nk_LE_65 rfl (by decide) ⟨by decide, by decide⟩ (by decide +kernel) ?_
  show gx_Y _ (210, 6278) _ _ _ _ _
  refine gx_dup (by decide +kernel) (fun _ => rfl) ?_
  refine gx_iconst (n := 0) (by decide +kernel) ?_
  refine gx_new gk_ST nk_LE_65 ni_ST nj_ST (by decide) ⟨by decide, by decide⟩ (by decide +kernel) ?_
  show gx_Y _ (211, 6284) _ _ _ _ _
  refine gx_dup (by decide +kernel) (fun _ => rfl) ?_
  refine gx_cIN (Mc := gm_ST_init) (u' := (218, 6359)) (c_ST_init _ _) ik_ST_init ml_LE_67 rfl ⟨by decide, by decide, by decide, by decide⟩ (Nat.le_of_ble_eq_true rfl) (by decide +kernel) (fun r50 h51 => ?_)
  refine gx_aast (ci := 9) rfl rfl (by decide +kernel) ?_
  refine gx_dup (by decide +kernel) (fun _ => rfl) ?_
  refine gx_iconst (n := 1) (by decide +kernel) ?_
  refine gx_new gk_ST nk_LE_65 ni_ST nj_ST (by decide) ⟨by decide, by decide⟩ (by decide +kernel) ?_
  show gx_Y _ (219, 6365) _ _ _ _ _
  refine gx_dup (by decide +kernel) (fun _ => rfl) ?_
  refine gx_cIN (Mc := gm_ST_init) (u' := (226, 6440)) (c_ST_init _ _) ik_ST_init ml_LE_67 rfl ⟨by decide, by decide, by decide, by decide⟩ (Nat.le_of_ble_eq_true rfl) (by decide +kernel) (fun r55 h56 => ?_)
  refine gx_aast (ci := 9) rfl rfl (by decide +kernel) ?_
  refine gx_putFr gk_LE (by decide) fl_LE_72 rfl rfl rfl rfl (by decide +kernel) ?_
  refine gx_aload_n (i := 0) (by decide +kernel) rfl ?_
  refine gx_iconst (n := 2) (by decide +kernel) ?_
  refine gx_newz (N := 2) rfl (by decide) ⟨by decide, by decide⟩ (by decide +kernel) ?_
  show gx_Y _ (227, 6442) _ _ _ _ _
  refine gx_putFr gk_LE (by decide) fl_LE_76 rfl rfl rfl rfl (by decide +kernel) ?_
  refine gx_aload_n (i := 0) (by decide +kernel) rfl ?_
  refine gx_iconst (n := 2) (by decide +kernel) ?_
  refine gx_newi (N := 2) rfl (by decide) ⟨by decide, by decide⟩ (by decide +kernel) ?_
  show gx_Y _ (228, 6444) _ _ _ _ _
  refine gx_putFr gk_LE (by decide) fl_LE_80 rfl rfl rfl rfl (by decide +kernel) ?_
  refine gx_aload_n (i := 0) (by decide +kernel) rfl ?_
  refine gx_iconst (n := 4) (by decide +kernel) ?_
  refine gx_newi (N := 4) rfl (by decide) ⟨by decide, by decide⟩ (by decide +kernel) ?_
  show gx_Y _ (229, 6448) _ _ _ _ _
  refine gx_putFr gk_LE (by decide) fl_LE_84 rfl rfl rfl rfl (by decide +kernel) ?_
  refine gx_aload_n (i := 0) (by decide +kernel) rfl ?_
  refine gx_new gk_ST nk_LE_65 ni_ST nj_ST (by decide) ⟨by decide, by decide⟩ (by decide +kernel) ?_
  show gx_Y _ (230, 6454) _ _ _ _ _
  refine gx_dup (by decide +kernel) (fun _ => rfl) ?_
  refine gx_cIN (Mc := gm_ST_init) (u' := (237, 6529)) (c_ST_init _ _) ik_ST_init ml_LE_67 rfl ⟨by decide, by decide, by decide, by decide⟩ (Nat.le_of_ble_eq_true rfl) (by decide +kernel) (fun r70 h71 => ?_)
  refine gx_putr gk_LE (by decide) fl_LE_87 rfl rfl (by decide +kernel) ?_
  refine gx_aload_n (i := 0) (by decide +kernel) rfl ?_
  refine gx_new gk_ST nk_LE_65 ni_ST nj_ST (by decide) ⟨by decide, by decide⟩ (by decide +kernel) ?_
  show gx_Y _ (238, 6535) _ _ _ _ _
  refine gx_dup (by decide +kernel) (fun _ => rfl) ?_
  refine gx_cIN (Mc := gm_ST_init) (u' := (245, 6610)) (c_ST_init _ _) ik_ST_init ml_LE_67 rfl ⟨by decide, by decide, by decide, by decide⟩ (Nat.le_of_ble_eq_true rfl) (by decide +kernel) (fun r75 h76 => ?_)
  refine gx_putr gk_LE (by decide) fl_LE_90 rfl rfl (by decide +kernel) ?_
  refine gx_aload_n (i := 0) (by decide +kernel) rfl ?_
  refine gx_iconst (n := 0) (by decide +kernel) ?_
  refine gx_putiT (by decide) gk_LE (by decide) fl_LE_93 rfl rfl (by decide +kernel) ?_
  refine gx_aload_n (i := 0) (by decide +kernel) rfl ?_
  refine gx_iconst (n := 1) (by decide +kernel) ?_
  refine gx_putzT (by decide) gk_LE (by decide) fl_LE_97 rfl rfl (by decide +kernel) ?_
  refine gx_aload_n (i := 0) (by decide +kernel) rfl ?_
  refine gx_iconst (n := 1) (by decide +kernel) ?_
  refine gx_putzT (by decide) gk_LE (by decide) fl_LE_101 rfl rfl (by decide +kernel) ?_
  refine gx_aload_n (i := 0) (by decide +kernel) rfl ?_
  refine gx_getr gk_LE (by decide) fl_LE_90 rfl (by decide +kernel) ?_
  refine gx_iconst (n := 2) (by decide +kernel) ?_
  refine gx_cVv1 (Mc := gm_ST_begin) (u' := (245, 6610)) (c_ST_begin _ _ _) vk_ST_begin ml_LE_104 rfl rfl ⟨by decide, by decide, by decide, by decide⟩ (Nat.le_of_ble_eq_true rfl) (by decide +kernel) (fun r82 h83 => ?_)
  refine gx_aload_n (i := 0) (by decide +kernel) rfl ?_
  refine gx_getr gk_LE (by decide) fl_LE_90 rfl (by decide +kernel) ?_
  refine gx_getr gk_ST (by decide) fl_LE_108 rfl (by decide +kernel) ?_
  refine gx_iconst (n := 0) (by decide +kernel) ?_
  refine gx_iconst (n := 1) (by decide +kernel) ?_
  refine gx_iconst (n := 1) (by decide +kernel) ?_
  refine gx_iconst (n := 1) (by decide +kernel) ?_
  refine gx_cVv4 (Mc := gm_SH_hang) (u' := (245, 6610)) (c_SH_hang _ _ _ _ _ _) vk_SH_hang ml_LE_112 rfl rfl ⟨by decide, by decide, by decide, by decide⟩ (Nat.le_of_ble_eq_true rfl) (by decide +kernel) (fun r86 h87 => ?_)
  refine gx_aload_n (i := 0) (by decide +kernel) rfl ?_
  refine gx_cVv0 (Mc := gm_LE_beginAsSpare) (u' := (245, 6610)) (c_LE_beginAsSpare _ _) vk_LE_beginAsSpare ml_LE_118 rfl rfl ⟨by decide, by decide, by decide, by decide⟩ (Nat.le_of_ble_eq_true rfl) (by decide +kernel) (fun r88 h89 => ?_)
  exact gx_return rfl rfl (by decide +kernel)
def f_TX_append (h : gx_H) (l0 : Nat) (l1 : Int) : Option (Int × gx_H) :=
  gq_get h l0 10 1 (fun v1 => if v1 < 100 then gq_gr h l0 10 0 (fun o3 => gq_get h l0 10 1 (fun v4 => gq_ast 0 (gx_i l1) h o3 v4 l1 (fun h6 => gq_get h6 l0 10 1 (fun v7 => gq_put (gx_i (v7 + 1)) h6 l0 10 1 (v7 + 1) (fun h9 => some (1, h9)))))) else some (0, h))
set_option maxHeartbeats 4000000 in
set_option maxRecDepth 100000 in
theorem c_TX_append (h : gx_H) (l0 : Nat) (l1 : Int) : ∀ r h1, f_TX_append h l0 l1 = some (r, h1) → gx_Met gm_TX_append [gx_R l0, gx_I l1] h r h1 := by
  refine gx_enter (l := [some (gx_R l0), some (gx_I l1)]) (by decide) (Nat.le_of_ble_eq_true rfl) rfl ?_
  unfold f_TX_append
  refine gx_aload_n (i := 0) (by decide +kernel) rfl ?_
  refine gx_geti gk_TX (by decide) fl_TX_15 (Or.inl rfl) (by decide +kernel) (fun c2 => ?_)
  refine gx_bipush (n := 100) (by decide +kernel) (by decide) ?_
  refine gx_icmp_lt (off := 5) (tgt := 11) c2 (by decide) (by decide +kernel) (by decide) ?_ ?_
  · refine gx_aload_n (i := 0) (by decide +kernel) rfl ?_
    refine gx_getr gk_TX (by decide) fl_TX_11 rfl (by decide +kernel) ?_
    refine gx_aload_n (i := 0) (by decide +kernel) rfl ?_
    refine gx_geti gk_TX (by decide) fl_TX_15 (Or.inl rfl) (by decide +kernel) (fun c5 => ?_)
    refine gx_iload_n (i := 1) (by decide +kernel) rfl ?_
    refine gx_iast (by decide +kernel) ?_
    refine gx_aload_n (i := 0) (by decide +kernel) rfl ?_
    refine gx_dup (by decide +kernel) (fun _ => rfl) ?_
    refine gx_geti gk_TX (by decide) fl_TX_15 (Or.inl rfl) (by decide +kernel) (fun c8 => ?_)
    refine gx_iconst (n := 1) (by decide +kernel) ?_
    refine gx_iadd (by decide +kernel) ?_
    refine gx_puti gk_TX (by decide) fl_TX_15 rfl rfl (by decide +kernel) ?_
    refine gx_iconst (n := 1) (by decide +kernel) ?_
    exact gx_zreturn (by decide) rfl rfl (by decide +kernel)
  · refine gx_iconst (n := 0) (by decide +kernel) ?_
    exact gx_zreturn (by decide) rfl rfl (by decide +kernel)
def f_LE_feed (h : gx_H) (l0 : Nat) (l1 : Int) : Option (Int × gx_H) :=
  gq_g (gx_i l1) (if l1 < 0 then some ((-1000000002), h) else if 255 < l1 then some ((-1000000002), h) else gq_gr h l0 0 0 (fun o2 => gq_cv h o2 10 (f_TX_append h o2 l1) (fun r3 h4 => gq_g (gx_i r3) (if r3 = 0 then some ((-1000000004), h4) else gq_gr h4 l0 0 0 (fun o6 => gq_get h4 o6 10 1 (fun v7 => some (v7, h4)))))))
set_option maxHeartbeats 4000000 in
set_option maxRecDepth 100000 in
theorem c_LE_feed (h : gx_H) (l0 : Nat) (l1 : Int) : ∀ r h1, f_LE_feed h l0 l1 = some (r, h1) → gx_Met gm_LE_feed [gx_R l0, gx_I l1] h r h1 := by
  refine gx_enter (l := [some (gx_R l0), some (gx_I l1)]) (by decide) (Nat.le_of_ble_eq_true rfl) rfl ?_
  unfold f_LE_feed
  refine gx_iload_n (i := 1) (by decide +kernel) rfl ?_
  refine gx_g (fun c1 => ?_)
  refine gx_if_lt (off := 10) (tgt := 11) c1 (by decide +kernel) (by decide) ?_ ?_
  · refine gx_ldc (a := (-1000000002)) kc_LE_121 (by decide +kernel) ?_
    exact gx_ireturn rfl rfl (by decide +kernel)
  · refine gx_iload_n (i := 1) (by decide +kernel) rfl ?_
    refine gx_sipush (n := 255) (by decide +kernel) (by decide) ?_
    refine gx_icmp_le (off := 6) (tgt := 14) c1 (by decide) (by decide +kernel) (by decide) ?_ ?_
    · refine gx_aload_n (i := 0) (by decide +kernel) rfl ?_
      refine gx_getr gk_LE (by decide) fl_LE_12 rfl (by decide +kernel) ?_
      refine gx_iload_n (i := 1) (by decide +kernel) rfl ?_
      refine gx_cVi1 (Mc := gm_TX_append) (u' := (0, 0)) (c_TX_append _ _ _) vk_TX_append ml_LE_122 rfl rfl ⟨by decide, by decide, by decide, by decide⟩ (Nat.le_of_ble_eq_true rfl) (by decide +kernel) (fun r3 h4 => ?_)
      refine gx_g (fun c5 => ?_)
      refine gx_if_eq (off := 13) (tgt := 35) c5 (by decide +kernel) (by decide) ?_ ?_
      · refine gx_ldc (a := (-1000000004)) kc_LE_129 (by decide +kernel) ?_
        exact gx_ireturn rfl rfl (by decide +kernel)
      · refine gx_aload_n (i := 0) (by decide +kernel) rfl ?_
        refine gx_getr gk_LE (by decide) fl_LE_12 rfl (by decide +kernel) ?_
        refine gx_geti gk_TX (by decide) fl_LE_126 (Or.inl rfl) (by decide +kernel) (fun c8 => ?_)
        refine gx_goto (off := 5) (tgt := 37) (by decide +kernel) (by decide) ?_
        exact gx_ireturn rfl rfl (by decide +kernel)
    · refine gx_ldc (a := (-1000000002)) kc_LE_121 (by decide +kernel) ?_
      exact gx_ireturn rfl rfl (by decide +kernel)
def fb_TX_take_38 (h : gx_H) (l0 : Nat) : Option (Int × gx_H) :=
  gq_get h l0 10 4 (fun v1 => gq_put True h l0 10 5 v1 (fun h3 => gq_get h3 l0 10 4 (fun v4 => gq_get h3 l0 10 1 (fun v6 => if v4 < v6 then gq_get h3 l0 10 4 (fun v8 => gq_put (gx_i (v8 + 1)) h3 l0 10 4 (v8 + 1) (fun h10 => gq_gr h10 l0 10 0 (fun o11 => gq_get h10 l0 10 5 (fun v12 => gq_ald 0 h10 o11 v12 (fun v14 => some (v14, h10)))))) else some ((-1), h3)))))
set_option maxHeartbeats 4000000 in
set_option maxRecDepth 100000 in
theorem y_TX_take_38 (h : gx_H) (l0 : Nat) : gx_Y gm_TX_take (0, 0) 38 [some (gx_R l0)] [] h (fb_TX_take_38 h l0) := by
  unfold fb_TX_take_38
  refine gx_aload_n (i := 0) (by decide +kernel) rfl ?_
  refine gx_aload_n (i := 0) (by decide +kernel) rfl ?_
  refine gx_geti gk_TX (by decide) fl_TX_25 (Or.inl rfl) (by decide +kernel) (fun c2 => ?_)
  refine gx_putiT c2 gk_TX (by decide) fl_TX_28 rfl rfl (by decide +kernel) ?_
  refine gx_aload_n (i := 0) (by decide +kernel) rfl ?_
  refine gx_geti gk_TX (by decide) fl_TX_25 (Or.inl rfl) (by decide +kernel) (fun c5 => ?_)
  refine gx_aload_n (i := 0) (by decide +kernel) rfl ?_
  refine gx_geti gk_TX (by decide) fl_TX_15 (Or.inl rfl) (by decide +kernel) (fun c7 => ?_)
  refine gx_icmp_lt (off := 5) (tgt := 59) c5 c7 (by decide +kernel) (by decide) ?_ ?_
  · refine gx_aload_n (i := 0) (by decide +kernel) rfl ?_
    refine gx_dup (by decide +kernel) (fun _ => rfl) ?_
    refine gx_geti gk_TX (by decide) fl_TX_25 (Or.inl rfl) (by decide +kernel) (fun c9 => ?_)
    refine gx_iconst (n := 1) (by decide +kernel) ?_
    refine gx_iadd (by decide +kernel) ?_
    refine gx_puti gk_TX (by decide) fl_TX_25 rfl rfl (by decide +kernel) ?_
    refine gx_aload_n (i := 0) (by decide +kernel) rfl ?_
    refine gx_getr gk_TX (by decide) fl_TX_11 rfl (by decide +kernel) ?_
    refine gx_aload_n (i := 0) (by decide +kernel) rfl ?_
    refine gx_geti gk_TX (by decide) fl_TX_28 (Or.inl rfl) (by decide +kernel) (fun c13 => ?_)
    refine gx_ialdi (by decide +kernel) (fun c15 => ?_)
    exact gx_ireturn rfl rfl (by decide +kernel)
  · refine gx_iconst (n := (-1)) (by decide +kernel) ?_
    exact gx_ireturn rfl rfl (by decide +kernel)
def fb_TX_take_0 (N0 : gx_H → Nat → Option (Int × gx_H)) (h : gx_H) (l0 : Nat) : Option (Int × gx_H) :=
  gq_get h l0 10 4 (fun v1 => gq_get h l0 10 1 (fun v3 => if v1 < v3 then gq_gr h l0 10 0 (fun o5 => gq_get h l0 10 4 (fun v6 => gq_ald 0 h o5 v6 (fun v8 => if v8 = 32 then gq_get h l0 10 4 (fun v10 => gq_put (gx_i (v10 + 1)) h l0 10 4 (v10 + 1) (fun h12 => N0 h12 l0)) else fb_TX_take_38 h l0))) else fb_TX_take_38 h l0))
set_option maxHeartbeats 4000000 in
set_option maxRecDepth 100000 in
theorem yb_TX_take_0 (N0 : gx_H → Nat → Option (Int × gx_H)) (hN0 : ∀ (h : gx_H) (l0 : Nat), gx_Y gm_TX_take (0, 0) 0 [some (gx_R l0)] [] h (N0 h l0)) (h : gx_H) (l0 : Nat) : gx_Y gm_TX_take (0, 0) 0 [some (gx_R l0)] [] h (fb_TX_take_0 N0 h l0) := by
  unfold fb_TX_take_0
  refine gx_aload_n (i := 0) (by decide +kernel) rfl ?_
  refine gx_geti gk_TX (by decide) fl_TX_25 (Or.inl rfl) (by decide +kernel) (fun c2 => ?_)
  refine gx_aload_n (i := 0) (by decide +kernel) rfl ?_
  refine gx_geti gk_TX (by decide) fl_TX_15 (Or.inl rfl) (by decide +kernel) (fun c4 => ?_)
  refine gx_icmp_ge (off := 30) (tgt := 38) c2 c4 (by decide +kernel) (by decide) ?_ ?_
  · exact gx_less' (y_TX_take_38 _ _) ⟨rfl, trivial⟩
  · refine gx_aload_n (i := 0) (by decide +kernel) rfl ?_
    refine gx_getr gk_TX (by decide) fl_TX_11 rfl (by decide +kernel) ?_
    refine gx_aload_n (i := 0) (by decide +kernel) rfl ?_
    refine gx_geti gk_TX (by decide) fl_TX_25 (Or.inl rfl) (by decide +kernel) (fun c7 => ?_)
    refine gx_ialdi (by decide +kernel) (fun c9 => ?_)
    refine gx_bipush (n := 32) (by decide +kernel) (by decide) ?_
    refine gx_icmp_ne (off := 16) (tgt := 38) c9 (by decide) (by decide +kernel) (by decide) ?_ ?_
    · exact gx_less' (y_TX_take_38 _ _) ⟨rfl, trivial⟩
    · refine gx_aload_n (i := 0) (by decide +kernel) rfl ?_
      refine gx_dup (by decide +kernel) (fun _ => rfl) ?_
      refine gx_geti gk_TX (by decide) fl_TX_25 (Or.inl rfl) (by decide +kernel) (fun c11 => ?_)
      refine gx_iconst (n := 1) (by decide +kernel) ?_
      refine gx_iadd (by decide +kernel) ?_
      refine gx_puti gk_TX (by decide) fl_TX_25 rfl rfl (by decide +kernel) ?_
      refine gx_goto (off := -35) (tgt := 0) (by decide +kernel) (by decide) ?_
      exact gx_less' (hN0 _ _) ⟨rfl, trivial⟩
def f_TX_take_0 : Nat → gx_H → Nat → Option (Int × gx_H)
  | 0 => fun _ _ => none
  | fu + 1 => fb_TX_take_0 (f_TX_take_0 fu)
theorem y_TX_take_0 : ∀ (fu : Nat) (h : gx_H) (l0 : Nat), gx_Y gm_TX_take (0, 0) 0 [some (gx_R l0)] [] h (f_TX_take_0 fu h l0) := by
  intro fu
  induction fu with
  | zero => intro h l0; exact gx_none
  | succ fu ih => intro h l0; exact yb_TX_take_0 (f_TX_take_0 fu) ih h l0
def f_TX_take (h : gx_H) (l0 : Nat) : Option (Int × gx_H) :=
  f_TX_take_0 gx_fu h l0
set_option maxHeartbeats 4000000 in
set_option maxRecDepth 100000 in
theorem c_TX_take (h : gx_H) (l0 : Nat) : ∀ r h1, f_TX_take h l0 = some (r, h1) → gx_Met gm_TX_take [gx_R l0] h r h1 := by
  refine gx_enter (l := [some (gx_R l0)]) (by decide) (Nat.le_of_ble_eq_true rfl) rfl ?_
  unfold f_TX_take
  exact gx_less' (y_TX_take_0 gx_fu _ _) ⟨rfl, trivial⟩
