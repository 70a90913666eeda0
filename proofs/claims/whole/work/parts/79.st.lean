/-! the beginnings of both: like -/
theorem gq_new_b {β γ : Type} {h : gx_H} {ci n : Nat} {K : Nat → gx_H → Option β} {F : β → Option γ} : (gq_new h ci n K).bind F = gq_new h ci n (fun o g => (K o g).bind F) := rfl
theorem gq_na_b {β γ : Type} {h : gx_H} {t n : Nat} {v : Int} {K : Nat → gx_H → Option β} {F : β → Option γ} : (gq_na h t n v K).bind F = gq_na h t n v (fun o g => (K o g).bind F) := rfl
theorem gq_put_b {β γ : Type} {c : Prop} [Decidable c] {h : gx_H} {o ci k : Nat} {v : Int} {K : gx_H → Option β} {F : β → Option γ} : (gq_put c h o ci k v K).bind F = gq_put c h o ci k v (fun g => (K g).bind F) := by
  unfold gq_put
  cases h.1[o]? with
  | none => rfl
  | some q =>
    show (if _ then _ else none : Option β).bind F = if _ then _ else none
    split <;> rfl
theorem gq_gr_b {β γ : Type} {h : gx_H} {o ci k : Nat} {K : Nat → Option β} {F : β → Option γ} : (gq_gr h o ci k K).bind F = gq_gr h o ci k (fun g => (K g).bind F) := by
  unfold gq_gr
  cases h.1[o]? with
  | none => rfl
  | some q =>
    show (if _ then _ else none : Option β).bind F = if _ then _ else none
    split <;> rfl
theorem gq_ast_b {β γ : Type} {c : Prop} [Decidable c] {h : gx_H} {t o : Nat} {i v : Int} {K : gx_H → Option β} {F : β → Option γ} : (gq_ast t c h o i v K).bind F = gq_ast t c h o i v (fun g => (K g).bind F) := by
  unfold gq_ast
  cases h.1[o]? with
  | none => rfl
  | some q =>
    show (if _ then _ else none : Option β).bind F = if _ then _ else none
    split <;> rfl
theorem gq_aas_b {β γ : Type} {h : gx_H} {o b ci : Nat} {i : Int} {K : gx_H → Option β} {F : β → Option γ} : (gq_aas h o i b ci K).bind F = gq_aas h o i b ci (fun g => (K g).bind F) := by
  unfold gq_aas
  cases h.1[o]? with
  | none => rfl
  | some q =>
    cases h.1[b]? with
    | none => rfl
    | some q1 =>
      show (if _ then _ else none : Option β).bind F = if _ then _ else none
      split <;> rfl
theorem gq_call_b {β γ : Type} {x : Option (Int × gx_H)} {K : Int → gx_H → Option β} {F : β → Option γ} : (gq_call x K).bind F = gq_call x (fun r g => (K r g).bind F) := by
  cases x <;> rfl
theorem le_mk_b (h : gx_H) (K : gx_H → Option (Int × gx_H)) : le_mk h 0 K = (le_mk h 0 (fun g => some (0, g))).bind (fun q => K q.2) := by
  unfold le_mk
  simp only [gq_new_b, gq_na_b, gq_put_b, gq_aas_b, gq_call_b, Option.bind_some]
theorem md_mk_b (h : gx_H) (K : gx_H → Option (Int × gx_H)) : md_mk h 0 K = (md_mk h 0 (fun g => some (0, g))).bind (fun q => K q.2) := by
  unfold md_mk
  simp only [gq_na_b, gq_put_b, gq_gr_b, gq_ast_b, Option.bind_some]
theorem ih_b {x : Option (Int × gx_H)} {L : List gx_K} (hL : ih_L x = L) (h : L ≠ []) (K : gx_H → Option (Int × gx_H)) : x.bind (fun q => K q.2) = K (L, ih_c x) := by
  subst hL
  cases x with
  | none => exact absurd rfl h
  | some q => rfl
theorem pc_r_in {o j : Nat} (h : pc_r o j ≠ 0) : o < 246 ∧ j < 20 := by
  have h1 : o < 246 := by
    by_cases c : o < 246
    · exact c
    · refine absurd ?_ h
      have e : pc_R.getD o [] = [] := by rw [List.getD_eq_getElem?_getD, List.getElem?_eq_none (by have := pc_R_len2; omega)]; rfl
      unfold pc_r
      rw [e]
      rfl
  refine ⟨h1, ?_⟩
  by_cases c : j < 20
  · exact c
  · refine absurd ?_ h
    unfold pc_r
    rw [List.getD_eq_getElem?_getD, List.getElem?_eq_none (by have := pc_R_len o h1; omega)]
    rfl
theorem pm_r_in {j : Nat} (h : pm_r j ≠ 0) : j < 30 := by
  by_cases c : j < 30
  · exact c
  · refine absurd ?_ h
    obtain ⟨k, rfl⟩ : ∃ k, j = k + 30 := ⟨j - 30, by omega⟩
    rfl
theorem pc_h_of {c : Nat → Nat → Int} (h : ∀ o, o < 246 → ∀ j, j < 20 → pc_r o j ≠ 0 → c o j = (pc_r o j : Int)) : (pc_L, c) = pc_h c := by
  unfold pc_h
  have : c = pc_c c := by
    funext o j
    unfold pc_c
    by_cases e : pc_r o j ≠ 0
    · rw [if_pos e]; exact h o (pc_r_in e).1 j (pc_r_in e).2 e
    · rw [if_neg e]
  rw [← this]
theorem pm_h_of {c : Nat → Nat → Int} (h : ∀ j, j < 30 → pm_r j ≠ 0 → c 0 j = pm_r j) : (pm_L, c) = pm_h c := by
  unfold pm_h
  have : c = pm_c c := by
    funext o j
    unfold pm_c
    by_cases e : o = 0 ∧ pm_r j ≠ 0
    · rw [if_pos e, e.1]; exact h j (pm_r_in e.2) e.2
    · rw [if_neg e]
  rw [← this]
theorem rl_start : ∃ Z X, f_LE_init le_h0 0 = some (0, pc_h Z) ∧ f_MD_init md_h0 0 = some (0, pm_h X) ∧ rl Z X := by
  have e1 : f_LE_init le_h0 0 = le_tl 0 (pc_h (ih_c le_h)) := by
    rw [← pc_h_of le_r0]
    exact (le_mk_eq le_h0 0).trans ((le_mk_b le_h0 (le_tl 0)).trans (ih_b le_L (by decide) (le_tl 0)))
  have e2 : f_MD_init md_h0 0 = md_tl 0 (pm_h (ih_c md_h)) := by
    rw [← pm_h_of md_r0]
    exact (md_mk_eq md_h0 0).trans ((md_mk_b md_h0 (md_tl 0)).trans (ih_b md_L (by decide) (md_tl 0)))
  have v1 := le_v
  have v2 := md_v
  have v3 := md_t
  have v4 := md_w
  rw [e1, e2]
  clear e1 e2
  generalize ih_c le_h = Z at v1 ⊢
  generalize ih_c md_h = X at v2 v3 v4 ⊢
  obtain ⟨z13, z14, z15, z11, z12, z81⟩ := v1
  obtain ⟨x4, x7, x8, x27⟩ := v2
  have hS : pc_S 238 = true := by decide
  obtain ⟨s0, s1, -⟩ := pc_S_all 238 (by decide) hS
  obtain ⟨r0, -⟩ := pc_S_ref 238 (by decide) hS
  obtain ⟨g0, -⟩ := pc_H_all (238 + 1) (by decide) s1
  obtain ⟨Y, ⟨y1, y2, y3, y4, y5⟩, yb⟩ := pc_beginS Z (A := 238) (n := 2) (a := 2) hS rfl (by decide)
  have yh := pc_hang Y (t := 238 + 1) (i := 0) (j := 1) (a := 0) (b := 1) (u := 1) (v := 1) s1 rfl rfl (by decide) (by decide) (by decide) (by decide)
  have y14 : Y 0 14 = ((238 : Nat) : Int) := by rw [y1 0 (by decide)]; exact z14
  unfold le_tl md_tl
  rw [pc_grv (t := 238) pc_L0 (by decide) pc_r0'.2.1 z14, pc_cv s0, yb, pl_call, pc_grv (t := 238) pc_L0 (by decide) pc_r0'.2.1 y14, pc_gr s0 (by decide) r0 (by decide), pc_cv g0, yh, pl_call, pc_cv pc_L0, pm_cv]
  generalize hW : gx_up (gx_up Y (238 + 1 + 1) (4 * 0 + 1) 1) (238 + 1 + 1) (4 * 1 + 0) (-1) = W
  have wo : ∀ o, o ≠ 240 → W o = Y o := fun o ho => by rw [← hW, gx_up_ne ho, gx_up_ne ho]
  have w2 : ∀ j, j < 16 → W 240 j = if j = 1 then 1 else if j = 4 then -1 else 0 := fun j hj => by
    have e : Y 240 j = 0 := by
      have := (y5 (j / 4) (j % 4) (by omega) (by omega)).1
      rw [show 4 * (j / 4) + j % 4 = j by omega] at this
      exact this
    rw [← hW]
    show gx_up (gx_up Y 240 1 1) 240 4 (-1) 240 j = _
    rw [gx_up_at, gx_up_at, e]
    by_cases c : j = 4
    · subst c; rfl
    · rw [if_neg c]
      by_cases d : j = 1
      · rw [if_pos d, if_pos d]
      · rw [if_neg d, if_neg d, if_neg c]
  have wT : tx_T (pc_T W (238 + 2)) := by
    have key : ∀ i, i < 4 → ∀ j, j < 4 → pc_T W (238 + 2) i j = if 4 * i + j = 1 then 1 else if 4 * i + j = 4 then -1 else 0 := fun i hi j hj => w2 (4 * i + j) (by omega)
    have all : ∀ i, i < 4 → ∀ j, j < 4 → -3 ≤ (if 4 * i + j = 1 then (1 : Int) else if 4 * i + j = 4 then -1 else 0) ∧ (if 4 * i + j = 1 then (1 : Int) else if 4 * i + j = 4 then -1 else 0) ≤ 3 ∧ (i = j → (if 4 * i + j = 1 then (1 : Int) else if 4 * i + j = 4 then -1 else 0) = 0) ∧ (0 < (if 4 * i + j = 1 then (1 : Int) else if 4 * i + j = 4 then -1 else 0) ↔ (if 4 * j + i = 1 then (1 : Int) else if 4 * j + i = 4 then -1 else 0) < 0) := by decide
    intro i hi j hj
    rw [key i hi j hj, key j hj i hi]
    exact all i hi j hj
  have wn : W (238 + 1) 0 = ((2 : Nat) : Int) := by rw [wo _ (by decide)]; exact y2
  have wN : tx_new 238 W := by
    refine ⟨by rw [wo _ (by decide)]; exact y3, fun r hr => by rw [wo _ (by decide)]; exact (y4 r hr).2, fun r c hr hc => ?_⟩
    rw [wo _ (by decide), wo _ (by decide), wo _ (by decide)]
    exact (y5 r c hr hc).2
  have wz : ∀ o, o < 238 → W o = Z o := fun o ho => by rw [wo o (by omega), y1 o (by omega)]
  obtain ⟨Y2, q0, q⟩ := pc_beginAs W (A := 230) (P := 238) (n := 2) (by rw [wz 0 (by decide)]; exact z13) (by rw [wz 0 (by decide)]; exact z14) (Or.inl ⟨rfl, rfl⟩) wn (by decide) (fun i hi j hj => by have := wT i (by omega) j (by omega); exact ⟨by omega, by omega⟩) (fun i hi => (wT i (by omega) i (by omega)).2.2.1 rfl)
  obtain ⟨X2, p0, p⟩ := pm_begin X (n := 2) x27 (by decide)
  rw [q0, p0, pl_call, pl_call]
  refine ⟨Y2, X2, rfl, rfl, rl_begun (O := 0) (by decide) (by decide) (Or.inl ⟨rfl, rfl⟩) wn wN (fun j hj => ?_) (fun i hi => ?_) wT ⟨?_, by decide⟩ ⟨?_, ?_, ?_⟩ ⟨⟨?_, x7, by decide, fun q hq => by omega⟩, ?_⟩ q p⟩
  · rw [v3 j hj, show 238 + 2 = 240 from rfl, w2 j hj]
  · rw [wo _ (by decide), (y4 i (by omega)).1]
    rcases (show i = 0 ∨ i = 1 by omega) with e | e
    · subst e; exact ⟨v4.1, by decide, by decide⟩
    · subst e; exact ⟨v4.2, by decide, by decide⟩
  · rw [wz 8 (by decide)]; exact z81
  · rw [wz 0 (by decide), z15, x4]
  · rw [x4]; decide
  · rw [x4]; decide
  · rw [wz 1 (by decide)]; exact z11
  · rw [wz 1 (by decide), z12, x8]
