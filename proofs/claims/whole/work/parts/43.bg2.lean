/-! the reference begins: the whole of it -/
set_option maxHeartbeats 2000000 in
theorem pm_begin (X : Nat → Nat → Int) {n : Nat} (hn : X 0 27 = (n : Int)) (hn4 : n ≤ 4) :
    ∃ Y, f_MD_begin (pm_h X) 0 = some (0, pm_h Y) ∧ (∀ o, o ≠ 0 → o ≠ 1 → Y o = X o) ∧ Y 0 1 = (n : Int) ∧ Y 0 2 = 0 ∧ Y 0 3 = 0 ∧ Y 0 11 = 0 ∧ (∀ j, j ≠ 1 → j ≠ 2 → j ≠ 3 → j ≠ 11 → Y 0 j = X 0 j) ∧ (∀ q, 80 ≤ q → (q < 1840 ∨ 1920 ≤ q) → Y 1 q = X 1 q) ∧ (∀ j, j < 80 → Y 1 j = Y 1 (1840 + j)) ∧ pm_bg n X (fun j => Y 1 (1840 + j)) := by
  unfold f_MD_begin
  rw [pm_get (by decide) rfl, hn, pm_put trivial (by decide) rfl]
  generalize hX1 : gx_up X 0 1 (n : Int) = X1
  have x1 : X1 0 1 = (n : Int) := by rw [← hX1, gx_up_at, if_pos rfl]
  have xo : ∀ o, o ≠ 0 → X1 o = X o := fun o ho => by rw [← hX1, gx_up_ne ho]
  have xj : ∀ j, j ≠ 1 → X1 0 j = X 0 j := fun j hj => by rw [← hX1, gx_up_at, if_neg hj]
  -- the table of a row
  have third : ∀ (i : Nat) (Y0 : Nat → Nat → Int) (fu : Nat), i < n → pm_Qg n X1 (i + 1) i 0 Y0 → ∃ Y, pm_Qg n X1 (i + 1) i n Y ∧ f_MD_begin_117 (f_MD_begin_35 fu) gx_fu (pm_h Y0) 0 (i : Int) 0 = f_MD_begin_35 fu (pm_h Y) 0 ((i + 1 : Nat) : Int) := by
    intro i Y0 fu hi hq
    refine pl_inv (A := fun gu j Y => f_MD_begin_117 (f_MD_begin_35 fu) gu (pm_h Y) 0 (i : Int) (j : Int)) (out := fun Y => f_MD_begin_35 fu (pm_h Y) 0 ((i + 1 : Nat) : Int)) (Q := fun j Y => pm_Qg n X1 (i + 1) i j Y) n (by omega) (fun j hj Y hY gu => ?_) (fun gu Y hY => ?_) Y0 hq
    · have y1 : Y 0 1 = (n : Int) := by rw [hY.1 0 (by decide)]; exact x1
      have y14 : Y 14 = X1 14 := hY.1 14 (by decide)
      show ∃ s', _ ∧ fb_MD_begin_117 (f_MD_begin_35 fu) (f_MD_begin_117 (f_MD_begin_35 fu) gu) _ _ _ _ = _
      unfold fb_MD_begin_117
      rw [pm_get (by decide) rfl, y1, pl_gi (by omega) (by omega), if_pos (by omega), pm_gr (t := 1) (by decide) rfl (by decide), pm_gr (t := 14) (by decide) rfl (by decide), pm_ald (o := 14) (i := 4 * i + j) (by omega) (by show _ < 16; omega), y14, pm_ast (o := 1) (i := 1848 + 4 * i + j) trivial (by omega) (by show _ < 2000; omega)]
      exact ⟨_, pm_Qg_in hn4 hi hj hY, rfl⟩
    · have y1 : Y 0 1 = (n : Int) := by rw [hY.1 0 (by decide)]; exact x1
      show fb_MD_begin_117 (f_MD_begin_35 fu) (f_MD_begin_117 (f_MD_begin_35 fu) gu) _ _ _ _ = _
      unfold fb_MD_begin_117
      rw [pm_get (by decide) rfl, y1, pl_gi (by omega) (by omega), if_neg (by omega)]
      rfl
  -- the rows
  have second : ∀ Y0, pm_Qg n X1 0 0 0 Y0 → ∃ Y, pm_Qg n X1 n n 0 Y ∧ f_MD_begin_35 gx_fu (pm_h Y0) 0 0 = some (0, pm_h (gx_up (gx_up (gx_up (gx_us Y 1 (pm_cp (Y 1) 1840 0 80)) 0 2 0) 0 3 0) 0 11 0)) := by
    intro Y0 hq
    refine pl_inv (A := fun fu i Y => f_MD_begin_35 fu (pm_h Y) 0 (i : Int)) (out := fun Y => some (0, pm_h (gx_up (gx_up (gx_up (gx_us Y 1 (pm_cp (Y 1) 1840 0 80)) 0 2 0) 0 3 0) 0 11 0))) (Q := fun i Y => pm_Qg n X1 i i 0 Y) n (by omega) (fun i hi Y hY fu => ?_) (fun fu Y hY => ?_) Y0 hq
    · have y1 : Y 0 1 = (n : Int) := by rw [hY.1 0 (by decide)]; exact x1
      have y15 : Y 15 = X1 15 := hY.1 15 (by decide)
      obtain ⟨Y2, hq2, he⟩ := third i _ fu hi (pm_Qg_out hn4 hi hY)
      refine ⟨Y2, ⟨hq2.1, hq2.2.1, hq2.2.2.1, fun r c hr hc hp => hq2.2.2.2.1 r c hr hc (by omega), hq2.2.2.2.2⟩, ?_⟩
      show fb_MD_begin_35 (f_MD_begin_35 fu) _ _ _ = _
      unfold fb_MD_begin_35
      rw [pm_get (by decide) rfl, y1, pl_gi (by omega) (by omega), if_pos (by omega), pm_gr (t := 1) (by decide) rfl (by decide), pm_gr (t := 15) (by decide) rfl (by decide), pm_ald (o := 15) (i := i) rfl (by show _ < 4; omega), y15, pm_ast (o := 1) (i := 1840 + i) trivial (by omega) (by show _ < 2000; omega), pm_gr (t := 1) (by decide) rfl (by decide), pm_ast (o := 1) (i := 1844 + i) trivial (by omega) (by show _ < 2000; omega), pm_gr (t := 1) (by decide) rfl (by decide), pm_ast (o := 1) (i := 1864 + 4 * i + i) trivial (by omega) (by show _ < 2000; omega), pm_gr (t := 1) (by decide) rfl (by decide), pm_ast (o := 1) (i := 1880 + 4 * i + i) trivial (by omega) (by show _ < 2000; omega), pm_gr (t := 1) (by decide) rfl (by decide), pm_ast (o := 1) (i := 1896 + 4 * i + i) trivial (by omega) (by show _ < 2000; omega)]
      exact he
    · have y1 : Y 0 1 = (n : Int) := by rw [hY.1 0 (by decide)]; exact x1
      show fb_MD_begin_35 (f_MD_begin_35 fu) _ _ _ = _
      unfold fb_MD_begin_35
      rw [pm_get (by decide) rfl, y1, pl_gi (by omega) (by omega), if_neg (by omega), pm_cv, pm_copy Y (x := 1840) (y := 0) (a := 1840) (b := 0) rfl rfl (by decide) (by decide) (by decide), pl_call, pm_put trivial (by decide) rfl, pm_put trivial (by decide) rfl, pm_put trivial (by decide) rfl]
  -- eighty noughts
  have first := pl_inv (A := fun fu i Y => f_MD_begin_10 fu (pm_h Y) 0 (i : Int)) (out := fun Y => f_MD_begin_35 gx_fu (pm_h Y) 0 0) (Q := fun i Y => (∀ o, o ≠ 1 → Y o = X1 o) ∧ ∀ q, Y 1 q = if 1840 ≤ q ∧ q < 1840 + i then 0 else X1 1 q) 80 (by decide) (fun i hi Y hY fu => ?_) (fun fu Y hY => ?_) X1 ⟨fun _ _ => rfl, fun q => by rw [if_neg (by omega)]⟩
  · obtain ⟨Y0, ⟨h1, h2⟩, h3⟩ := first
    have hq0 : pm_Qg n X1 0 0 0 Y0 := by
      refine ⟨h1, fun q hq => ?_, fun r hr => by omega, fun r c hr hc hp => by omega, fun r c hr hc => ⟨?_, ?_, ?_⟩, fun q a b => ?_⟩
      · rw [h2, if_neg (by omega)]
      · rw [h2, if_pos (by omega), if_neg (by omega)]
      · rw [h2, if_pos (by omega), if_neg (by omega)]
      · rw [h2, if_pos (by omega), if_neg (by omega)]
      · rw [h2, if_pos (by omega)]
    obtain ⟨Y, hY, he⟩ := second Y0 hq0
    obtain ⟨g1, g2, g3, g4, g5, g6⟩ := hY
    refine ⟨_, (show f_MD_begin_10 gx_fu (pm_h X1) 0 0 = f_MD_begin_35 gx_fu (pm_h Y0) 0 0 from h3).trans he, ?_⟩
    have w1 : gx_up (gx_up (gx_up (gx_us Y 1 (pm_cp (Y 1) 1840 0 80)) 0 2 0) 0 3 0) 0 11 0 1 = pm_cp (Y 1) 1840 0 80 := by rw [gx_up_ne (by decide), gx_up_ne (by decide), gx_up_ne (by decide), gx_us_eq]
    have wo : ∀ o, o ≠ 0 → o ≠ 1 → gx_up (gx_up (gx_up (gx_us Y 1 (pm_cp (Y 1) 1840 0 80)) 0 2 0) 0 3 0) 0 11 0 o = Y o := fun o a b => by rw [gx_up_ne a, gx_up_ne a, gx_up_ne a, gx_us_ne b]
    have w0 : ∀ j, gx_up (gx_up (gx_up (gx_us Y 1 (pm_cp (Y 1) 1840 0 80)) 0 2 0) 0 3 0) 0 11 0 0 j = if j = 11 then 0 else if j = 3 then 0 else if j = 2 then 0 else Y 0 j := fun j => by rw [gx_up_at, gx_up_at, gx_up_at, gx_us_ne (by decide)]
    generalize gx_up (gx_up (gx_up (gx_us Y 1 (pm_cp (Y 1) 1840 0 80)) 0 2 0) 0 3 0) 0 11 0 = W at w1 wo w0 ⊢
    have c1 : ∀ q, 80 ≤ q → W 1 q = Y 1 q := fun q hq => by rw [w1]; unfold pm_cp; rw [if_neg (by omega)]
    have c2 : ∀ j, j < 80 → W 1 j = Y 1 (1840 + j) := fun j hj => by
      rw [w1]; unfold pm_cp; rw [if_pos (by omega), Nat.sub_zero]
    have c3 : ∀ j, W 1 (1840 + j) = Y 1 (1840 + j) := fun j => c1 _ (by omega)
    refine ⟨fun o a b => ?_, ?_, ?_, ?_, ?_, fun j a b c d => ?_, fun q a b => ?_, fun j hj => ?_, ?_, ?_, ?_, ?_⟩
    · rw [wo o a b, g1 o b, xo o a]
    · rw [w0, if_neg (by decide), if_neg (by decide), if_neg (by decide), g1 0 (by decide)]; exact x1
    · rw [w0, if_neg (by decide), if_neg (by decide), if_pos rfl]
    · rw [w0, if_neg (by decide), if_pos rfl]
    · rw [w0, if_pos rfl]
    · rw [w0, if_neg d, if_neg c, if_neg b, g1 0 (by decide)]; exact xj j a
    · rw [c1 q a, g2 q b, xo 1 (by decide)]
    · rw [c2 j hj, c3]
    · intro i hi
      have := g3 i hi
      rw [xo 15 (by decide)] at this
      refine ⟨(c3 i).trans this.1, ?_⟩
      show W 1 (1840 + (4 + i)) = 1
      rw [c3, show 1840 + (4 + i) = 1844 + i by omega]; exact this.2
    · intro i j hi hj
      show W 1 (1840 + (8 + 4 * i + j)) = _
      rw [c3, show 1840 + (8 + 4 * i + j) = 1848 + 4 * i + j by omega, g4 i j hi hj (by omega), xo 14 (by decide)]
    · intro i j hi hj
      show W 1 (1840 + (24 + 4 * i + j)) = _ ∧ W 1 (1840 + (40 + 4 * i + j)) = _ ∧ W 1 (1840 + (56 + 4 * i + j)) = _
      rw [c3, c3, c3, show 1840 + (24 + 4 * i + j) = 1864 + 4 * i + j by omega, show 1840 + (40 + 4 * i + j) = 1880 + 4 * i + j by omega, show 1840 + (56 + 4 * i + j) = 1896 + 4 * i + j by omega]
      exact g5 i j hi hj
    · intro j a b
      show W 1 (1840 + j) = 0
      rw [c3]; exact g6 _ (by omega) (by omega)
  · show ∃ s', _ ∧ fb_MD_begin_10 (f_MD_begin_10 fu) _ _ _ = _
    unfold fb_MD_begin_10
    rw [pl_gi (by omega) (by omega), if_pos (by omega), pm_gr (t := 1) (by decide) rfl (by decide), pm_ast (o := 1) (i := 1840 + i) trivial (by omega) (by show _ < 2000; omega)]
    refine ⟨_, ⟨fun o ho => ?_, fun q => ?_⟩, rfl⟩
    · rw [gx_up_ne ho]; exact hY.1 o ho
    · rw [gx_up_at]
      by_cases c : q = 1840 + i
      · rw [if_pos c, if_pos (by omega)]
      · rw [if_neg c, hY.2 q]
        by_cases d : 1840 ≤ q ∧ q < 1840 + i
        · rw [if_pos d, if_pos (by omega)]
        · rw [if_neg d, if_neg (by omega)]
  · show fb_MD_begin_10 (f_MD_begin_10 fu) _ _ _ = _
    unfold fb_MD_begin_10
    rw [pl_gi (by omega) (by omega), if_neg (by omega)]
