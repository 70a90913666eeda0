/-! the law's walk: from its entry -/
theorem lw_ao : Cond.arrayOver (.object "LetterExchange$State") ∈ lw_tbl := by decide +kernel
theorem gx_d_ad {a a' : Nat → Nat} {ci N : Nat} : gx_fs a ci N (gx_d ci) = gx_fs a' ci N (gx_d ci) := by
  unfold gx_fs
  apply List.map_congr_left
  intro j _
  unfold gx_d
  generalize gx_fty ci j = t
  match t with
  | 0 => rfl
  | 1 => rfl
  | 2 => rfl
  | t + 3 => rw [if_pos (by omega)]; rfl
theorem gx_d_ok {ci N : Nat} (hN : N ≤ 2147483647) : gx_ok ([(ci + 3, N)], fun _ => gx_d ci) := by
  intro o k hk
  have ho : o = 0 := by
    have := (List.getElem?_eq_some_iff.mp hk).1
    have h1 : ([(ci + 3, N)] : List gx_K).length = 1 := rfl
    rw [h1] at this
    omega
  subst ho
  cases hk
  refine ⟨hN, fun j hj => ?_⟩
  show gx_sl 1 (gx_fty ci j) (gx_d ci j)
  unfold gx_d
  generalize gx_fty ci j = t
  match t with
  | 0 => show gx_i _; decide
  | 1 => exact Or.inl rfl
  | 2 => show gx_l _; decide
  | t + 3 => rw [if_pos (by omega)]; show (-1 : Int) < _; omega
section LWS
variable {p : Program} {l : Launch} {e : Env} {s : State} {m : MethodId} {below : List Frame} {meth : Method} {c : Code} {b L : Nat} {xs : Nat → Int32}
theorem lw_cl (C0 : lw_At p s m meth c b L xs) (k : Nat) : ∃ (cC : ClassId) (iS : Nat → Nat), ∀ q : vw_C, gx_cls[k]? = some q → u_Kn s q.1 q.2.1 q.2.2 cC iS := by
  have hts := lw_tb C0
  have f : ∀ {ci : Nat} {C : String} {T : u_T} {N : Nat} {ty : Nat → FieldType}, gx_CL ci C T N ty → Cond.instantiable C N ∈ lw_tbl → ∃ (cC : ClassId) (iS : Nat → Nat), ∀ q : vw_C, gx_cls[ci]? = some q → u_Kn s q.1 q.2.1 q.2.2 cC iS := fun g hi => by
    obtain ⟨cC, iS, h⟩ := u_known hts g.2.1 (hts _ (gx_gd hi rfl))
    refine ⟨cC, iS, fun q hq => ?_⟩
    rw [g.1] at hq
    cases hq
    exact h
  match k with
  | 0 => exact f gk_LE ni_LE
  | 1 => exact f gk_MD ni_MD
  | 2 => exact f gk_BK ni_BK
  | 3 => exact f gk_EX ni_EX
  | 4 => exact f gk_FR ni_FR
  | 5 => exact f gk_GR ni_GR
  | 6 => exact f gk_HI ni_HI
  | 7 => exact f gk_SC ni_SC
  | 8 => exact f gk_SH ni_SH
  | 9 => exact f gk_ST ni_ST
  | 10 => exact f gk_TX ni_TX
  | 11 => exact f gk_TU ni_TU
  | 12 => exact f gk_WA ni_WA
  | k + 13 => exact ⟨(Classical.choice ⟨(f gk_LE ni_LE).choose⟩), fun _ => 0, fun q hq => by simp [gx_cls] at hq⟩
theorem lw_Kn (C0 : lw_At p s m meth c b L xs) : ∃ (D : va_G) (cA : Nat → ClassId), gx_Kn D cA s := by
  have hts : ∀ w ∈ lw_tbl, w.before #[Value.ref b] s = true := C0.2.2.2.2.2.1
  obtain ⟨c0, k0, p0, x1, x2, x3⟩ := Cond.arrayClass_spec (hts _ nw_ac_int)
  obtain ⟨c1, k1, p1, y1, y2, y3⟩ := Cond.arrayClass_spec (hts _ nw_ac_bool)
  obtain ⟨p2, c2, k2, z1, -, z2, z3, z4⟩ := Cond.arrayOver_spec (hts _ lw_ao)
  refine ⟨(fun k => (lw_cl C0 k).choose, fun k => (lw_cl C0 k).choose_spec.choose), fun k => if k = 0 then c0 else if k = 1 then c1 else c2, ⟨fun k q hq => (lw_cl C0 k).choose_spec.choose_spec q hq, fun k q hq => ?_⟩, fun w hw hn => ?_, va_AO.of (hts _ lw_ao)⟩
  · match k, hq with
    | 0, hq =>
      cases hq
      exact ⟨fun n z => ⟨fun k h => (by cases h), k0, x2, p0, x3⟩, x1⟩
    | 1, hq =>
      cases hq
      exact ⟨fun n z => ⟨fun k h => (by cases h), k1, y2, p1, y3⟩, y1⟩
    | 2, hq =>
      cases hq
      exact ⟨fun n z => ⟨fun k h => (by cases h), k2, z2, p2, z3⟩, k2, p2, z2, z3, z1, z4⟩
    | k + 3, hq => simp at hq
  · have h1 := hts w hw
    cases w <;> first | exact va_Nw.of rfl h1 | cases hn
theorem lw_new {ci ix N pc : Nat} {C : String} {T : u_T} {ty : Nat → FieldType} {cA : Nat → ClassId} {D : va_G} {a0 a2 : Nat → Nat} {c0 : Nat → Nat → Int} {g2 : gx_H} {H : Heap} {locs : List Loc} {cells slots : Nat} {Q : State → Prop} {ls : Array Slot} {rest : List Value} (C0 : lw_At p s m meth c b L xs) (g : gx_CL ci C T N ty) (hl : Cond.classLink R_law ix C ∈ lw_tbl) (hinst : Cond.instantiable C N ∈ lw_tbl) (hini : Cond.initialized C ∈ lw_tbl) (hN : N ≤ 2147483647) (hu : cells + 1 ≤ 600000 ∧ slots + N ≤ 7302250) (hd : decode code pc = .ok (.new ix, 3)) (B : lw_B D cA s a0 a2 H locs ([], c0) g2)
    (kk : ∀ (q : Nat) (H1 : Heap), lw_B D cA s (fun _ => q) a2 H1 locs ([(ci + 3, N)], fun _ => gx_d ci) g2 → W p l e room_1 s m #[Value.ref b] below meth c H1 locs (cells + 1) (slots + N) Q (F0 m (pc + 3) ls (.ref q :: rest))) : W p l e room_1 s m #[Value.ref b] below meth c H locs cells slots Q (F0 m pc ls rest) := by
  have hts := lw_tb C0
  obtain ⟨hx, hb, hr, hml, hown, -⟩ := id C0
  obtain ⟨⟨bK, bS⟩, -, ⟨o2, P2, D2⟩, -⟩ := B
  refine va_new (fs := gx_fs a2 ci N (gx_d ci)) hx hb hts g.2.1 ty g.2.2.1 hown (hts _ (gx_gd hl rfl)) (hts _ (gx_gd hinst rfl)) (hts _ (gx_gd hini rfl)) bK.1 P2 D2 bS (fun _ h => h) g.1 (fun j hj => ?_) hu.1 hu.2 hd (fun q H1 hP hD hS => ?_)
  · have e1 := gx_fs_at (ad := a2) (ci := ci) (f := gx_d ci) hj
    unfold vp_V
    rw [List.getD_eq_getElem?_getD, e1]
    have ht := g.2.2.2.2.1 j hj
    simp only [Option.getD_some, gx_d]
    generalize gx_fty ci j = t at ht ⊢
    match t, ht with
    | 0, ht => rw [show ty j = .int from ht]; rfl
    | 1, ht => rw [show ty j = .boolean from ht]; rfl
    | 2, ht => rw [show ty j = .long from ht]; rfl
    | t + 3, ht =>
      rw [if_pos (by omega)]
      rcases ht with ⟨_, e⟩ | ⟨_, e⟩ <;> rw [e] <;> rfl
  · have w1 : gx_W cA (fun _ => q) ([(ci + 3, N)], fun _ => gx_d ci) = [(q, .inr (ci, gx_fs a2 ci N (gx_d ci)))] := by
      rw [gx_d_ad (a := a2) (a' := fun _ => q)]
      rfl
    have lt : ∀ (j : Nat) (y : Nat × va_E), (gx_W cA a2 g2)[j]? = some y → j < (gx_W cA a2 g2).length := fun j y hy => (List.getElem?_eq_some_iff.mp hy).1
    have lf : ∀ (j : Nat) (y : Nat × va_E), (gx_W cA a2 g2)[j]? = some y → (gx_W cA a2 g2 ++ [(q, .inr (ci, gx_fs a2 ci N (gx_d ci)))])[j]? = some y := fun j y hy => by rw [List.getElem?_append_left (lt j y hy)]; exact hy
    have rg : ∀ (i : Nat) (x : Nat × va_E), ([(q, .inr (ci, gx_fs a2 ci N (gx_d ci)))] : va_W)[i]? = some x → (gx_W cA a2 g2 ++ [(q, .inr (ci, gx_fs a2 ci N (gx_d ci)))])[(gx_W cA a2 g2).length + i]? = some x := fun i x hx => by rw [List.getElem?_append_right (by omega), Nat.add_sub_cancel_left]; exact hx
    refine kk q H1 ⟨⟨bK, hS⟩, ⟨gx_d_ok hN, ?_, ?_⟩, ⟨o2, fun k x hx => hP k x (lf k x hx), ?_⟩, fun i j x y hx hy e => ?_⟩
    · rw [w1]
      exact fun k x hx => hP _ x (rg k x hx)
    · rw [w1]
      refine ⟨fun i j x y hx hy e => ?_, fun k x hx => hD.2 _ x (rg k x hx)⟩
      have := hD.1 _ _ x y (rg i x hx) (rg j y hy) e
      omega
    · exact ⟨fun i j x y hx hy e => hD.1 i j x y (lf i x hx) (lf j y hy) e, fun k x hx => hD.2 k x (lf k x hx)⟩
    · rw [w1] at hx
      have h1 := hD.1 _ _ x y (rg i x hx) (lf j y hy) e
      have h2 := lt j y hy
      omega
end LWS
set_option maxHeartbeats 4000000 in
set_option maxRecDepth 100000 in
/-- THE LAW, from its entry -/
theorem whole_start {p : Program} {e : Env} {s : State} {m : MethodId} {below : List Frame} {meth : Method} {c : Code} (l : Launch) (hflags : l.flags = flags0) {b L : Nat} {xs : Nat → Int32} (hL : L ≤ 2048) (C0 : lw_At p s m meth c b L xs) : W p l e room_1 s m #[Value.ref b] below meth c s.heap [] 0 0 (lw_Z below #[Value.ref b] s) (entryFrame m ([Value.ref b] : List Value).toArray 4) := by
  obtain ⟨D, cA, hK⟩ := lw_Kn C0
  obtain ⟨hx, hb, hr, hml, hown, hts, hX, hbl, hlocks, hgv⟩ := id C0
  obtain ⟨Z, X, i1, i2, hrl⟩ := rl_start
  have ok0 : gx_ok ([], fun _ _ => 0) := fun o k hk => by simp at hk
  have B0 : lw_B D cA s (fun _ => 0) (fun _ => 0) s.heap [] ([], fun _ _ => 0) ([], fun _ _ => 0) := by
    have hP : va_P D gx_cls (gx_W cA (fun _ => 0) ([], fun _ _ => 0)) s.heap := fun k q h => by simp [gx_W] at h
    have hD : va_D (lw_A s) (gx_W cA (fun _ => 0) ([], fun _ _ => 0)) := ⟨fun i j p q h => by simp [gx_W] at h, fun k q h => by simp [gx_W] at h⟩
    exact ⟨⟨hK, va_S.rf⟩, ⟨ok0, hP, hD⟩, ⟨ok0, hP, hD⟩, fun i j p q h => by simp [gx_W] at h⟩
  have hl := lv_entry ([.ref b]) (n := 4) (Nat.le_of_ble_eq_true rfl)
  rw [lg_entry_eq]
  generalize (lg_sl ([.ref b]) ++ List.replicate (4 - (lg_sl ([.ref b])).length) Slot.unset).toArray = ls at hl ⊢
  have hl : lv_has ls 4 [(0, .ref b)] := hl
  refine lw_new C0 gk_LE nk_LW_7 ni_LE nj_LE (Nat.le_of_ble_eq_true rfl) ⟨Nat.le_of_ble_eq_true rfl, Nat.le_of_ble_eq_true rfl⟩ (by decide +kernel) B0 (fun x1 H1 B1 => ?_)
  refine lv_dup hx hb (show decode code 3 = .ok (.dup, 1) by decide +kernel) rfl ?_
  refine lw_callI (Mc := gm_LE_init) (ix := 9) (h := le_h0) (a1 := fun _ => x1) (rest := [.ref x1]) C0 (c_LE_init le_h0 0 _ _ i1) ik_LE_init (by decide) ml_LW_9 ⟨Nat.le_of_ble_eq_true rfl, Nat.le_of_ble_eq_true rfl⟩ ⟨Nat.le_of_ble_eq_true rfl, Nat.le_of_ble_eq_true rfl⟩ hl.1 (by simp [Value.category]) (show decode code 4 = .ok (.invokespecial 9, 3) by decide +kernel) B1 (fun b1 H2 locs2 e1 B2 => ?_)
  refine lv_astore_n (lv' := [(1, .ref x1), (0, .ref b)]) hx hb (show decode code 7 = .ok (.astore_n 1, 1) by decide +kernel) rfl hl (by decide) rfl (fun ls hl => ?_)
  refine lw_new C0 gk_MD nk_LW_10 ni_MD nj_MD (Nat.le_of_ble_eq_true rfl) ⟨Nat.le_of_ble_eq_true rfl, Nat.le_of_ble_eq_true rfl⟩ (by decide +kernel) B2.swap (fun x2 H3 B3 => ?_)
  refine lv_dup hx hb (show decode code 11 = .ok (.dup, 1) by decide +kernel) rfl ?_
  refine lw_callI (Mc := gm_MD_init) (ix := 12) (h := md_h0) (a1 := fun _ => x2) (rest := [.ref x2]) C0 (c_MD_init md_h0 0 _ _ i2) ik_MD_init (by decide) ml_LW_12 ⟨Nat.le_of_ble_eq_true rfl, Nat.le_of_ble_eq_true rfl⟩ ⟨Nat.le_of_ble_eq_true rfl, Nat.le_of_ble_eq_true rfl⟩ hl.1 (by simp [Value.category]) (show decode code 12 = .ok (.invokespecial 12, 3) by decide +kernel) B3 (fun b2 H4 locs4 e2 B4 => ?_)
  refine lv_astore_n (lv' := [(2, .ref x2), (1, .ref x1), (0, .ref b)]) hx hb (show decode code 15 = .ok (.astore_n 2, 1) by decide +kernel) rfl hl (by decide) rfl (fun ls hl => ?_)
  refine lv_iconst (v := 0) hx hb (show decode code 16 = .ok (.iconst 0, 1) by decide +kernel) (by decide) ?_
  refine lv_istore_n (lv' := [(3, .int 0), (2, .ref x2), (1, .ref x1), (0, .ref b)]) hx hb (show decode code 17 = .ok (.istore_n 3, 1) by decide +kernel) rfl hl (by decide) rfl (fun ls hl => ?_)
  refine W.widen (k := 600000) (n := 7302250) (Nat.le_of_ble_eq_true rfl) (Nat.le_of_ble_eq_true rfl) ?_
  exact lw_loop (q1 := x1) (q2 := x2) C0 hL (L + 1) 0 (by omega) (by omega) ls H4 locs4 Z X ⟨hl, hrl, b1, b2, e1, e2, B4.swap⟩
