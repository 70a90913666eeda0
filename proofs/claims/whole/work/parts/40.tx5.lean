/-! the first clause, and the whole text: both sides -/
theorem pc_tx_of {Y Z : Nat → Nat → Int} {a b c d : Int} (h : Y 1 = pc_tx Z a b c d 1) : Y = pc_tx (gx_us Y 1 (Z 1)) a b c d := by
  funext o
  by_cases e : o = 1
  · subst e
    rw [h]
    unfold pc_tx
    rw [gx_us_eq, gx_us_eq, gx_us_eq]
  · rw [pc_tx_o e, gx_us_ne e]
theorem pm_tx_of {Y X : Nat → Nat → Int} {a w l : Int} (h : Y 0 = pm_tx X a w l 0) : Y = pm_tx (gx_us Y 0 (X 0)) a w l := by
  funext o
  by_cases e : o = 0
  · subst e
    rw [h]
    unfold pm_tx
    rw [gx_us_eq, gx_us_eq, gx_us_eq]
  · rw [pm_tx_o e, gx_us_ne e]
theorem pm_tx_u0 {X : Nat → Nat → Int} {a w l v : Int} {i : Nat} (h1 : i ≠ 24) (h2 : i ≠ 25) (h3 : i ≠ 26) : gx_up (pm_tx X a w l) 0 i v = pm_tx (gx_up X 0 i v) a w l := by
  unfold pm_tx
  rw [gx_up_us]
  funext o
  by_cases e : o = 0
  · subst e
    rw [gx_us_eq, gx_us_eq]
    funext j
    unfold gx_u1
    rw [gx_up_at]
    by_cases c : j = i
    · subst c; simp only [if_neg h1, if_neg h2, if_neg h3, if_true]
    · simp only [if_neg c]
  · rw [gx_us_ne e, gx_us_ne e, gx_up_ne e]
theorem pm_tx_id (X : Nat → Nat → Int) : pm_tx X (X 0 24) (X 0 25) (X 0 26) = X := by
  unfold pm_tx
  refine gx_us_id (funext fun j => ?_)
  by_cases h4 : j = 24
  · subst h4; rfl
  · by_cases h5 : j = 25
    · subst h5; rfl
    · by_cases h2 : j = 26
      · subst h2; rfl
      · simp only [if_neg h4, if_neg h5, if_neg h2]
/-- the reference clears what it reads into -/
theorem pm_clear (X : Nat → Nat → Int) : ∃ Y, f_MD_readMany_17 gx_fu (pm_h X) 0 0 = some (0, pm_h Y) ∧ (∀ o, o ≠ 14 → o ≠ 15 → Y o = X o) ∧ (∀ j, j < 16 → Y 14 j = 0) ∧ ∀ i, i < 4 → Y 15 i = 1 := by
  have second : ∀ Y0 : Nat → Nat → Int, ∃ Y, ((∀ o, o ≠ 15 → Y o = Y0 o) ∧ ∀ i, i < 4 → Y 15 i = 1) ∧ f_MD_readMany_38 gx_fu (pm_h Y0) 0 0 = some (0, pm_h Y) := by
    intro Y0
    refine pl_inv (A := fun fu i Y => f_MD_readMany_38 fu (pm_h Y) 0 (i : Int)) (out := fun Y => some (0, pm_h Y)) (Q := fun i Y => (∀ o, o ≠ 15 → Y o = Y0 o) ∧ ∀ r, r < i → Y 15 r = 1) 4 (by decide) (fun i hi Y hY fu => ?_) (fun fu Y hY => ?_) Y0 ⟨fun _ _ => rfl, fun r hr => by omega⟩
    · show ∃ s', _ ∧ fb_MD_readMany_38 (f_MD_readMany_38 fu) _ _ _ = _
      unfold fb_MD_readMany_38
      rw [pl_gi (by omega) (by omega), if_pos (by omega), pm_gr (t := 15) (by decide) rfl (by decide), pm_ast (o := 15) (i := i) trivial rfl (by show i < 4; omega)]
      refine ⟨_, ⟨fun o ho => ?_, fun r hr => ?_⟩, rfl⟩
      · rw [gx_up_ne ho]; exact hY.1 o ho
      · rw [gx_up_at]
        by_cases c : r = i
        · rw [if_pos c]
        · rw [if_neg c]; exact hY.2 r (by omega)
    · show fb_MD_readMany_38 (f_MD_readMany_38 fu) _ _ _ = _
      unfold fb_MD_readMany_38
      rw [pl_gi (by omega) (by omega), if_neg (by omega)]
  have first := pl_inv (A := fun fu i Y => f_MD_readMany_17 fu (pm_h Y) 0 (i : Int)) (out := fun Y => f_MD_readMany_38 gx_fu (pm_h Y) 0 0) (Q := fun i Y => (∀ o, o ≠ 14 → Y o = X o) ∧ ∀ r, r < i → Y 14 r = 0) 16 (by decide) (fun i hi Y hY fu => ?_) (fun fu Y hY => ?_) X ⟨fun _ _ => rfl, fun r hr => by omega⟩
  · obtain ⟨Y0, ⟨h1, h2⟩, h3⟩ := first
    obtain ⟨Y, ⟨h4, h5⟩, h6⟩ := second Y0
    exact ⟨Y, (show f_MD_readMany_17 gx_fu (pm_h X) 0 0 = f_MD_readMany_38 gx_fu (pm_h Y0) 0 0 from h3).trans h6, fun o a b => (h4 o b).trans (h1 o a), fun j hj => by rw [h4 14 (by decide)]; exact h2 j hj, h5⟩
  · show ∃ s', _ ∧ fb_MD_readMany_17 (f_MD_readMany_17 fu) _ _ _ = _
    unfold fb_MD_readMany_17
    rw [pl_gi (by omega) (by omega), if_pos (by omega), pm_gr (t := 14) (by decide) rfl (by decide), pm_ast (o := 14) (i := i) trivial rfl (by show i < 16; omega)]
    refine ⟨_, ⟨fun o ho => ?_, fun r hr => ?_⟩, rfl⟩
    · rw [gx_up_ne ho]; exact hY.1 o ho
    · rw [gx_up_at]
      by_cases c : r = i
      · rw [if_pos c]
      · rw [if_neg c]; exact hY.2 r (by omega)
  · show fb_MD_readMany_17 (f_MD_readMany_17 fu) _ _ _ = _
    unfold fb_MD_readMany_17
    rw [pl_gi (by omega) (by omega), if_neg (by omega)]
def tx_F8 (A : Nat) (Z Z' : Nat → Nat → Int) : Prop := ∀ o, (o < A ∨ A + 8 ≤ o) → Z' o = Z o
def tx_G8 (X X' : Nat → Nat → Int) : Prop := (∀ o, o ≠ 0 → o ≠ 14 → o ≠ 15 → X' o = X o) ∧ ∀ j, j ≠ 27 → X' 0 j = X 0 j
/-- the rest of a state that a text gives -/
def tx_new (A : Nat) (Z : Nat → Nat → Int) : Prop := Z A 5 = 0 ∧ (∀ r, r < 4 → Z (A + 5) r = 1) ∧ ∀ r c, r < 4 → c < 4 → Z (A + 3) (4 * r + c) = (if r = c then -1 else 0) ∧ Z (A + 6) (4 * r + c) = (if r = c then 1 else 0) ∧ Z (A + 7) (4 * r + c) = if r = c then 1 else 0
def tx_one (A len : Nat) (Z X : Nat → Nat → Int) (x y : Option (Int × gx_H)) : Prop :=
  (∃ (k q : Nat) (Z' X' : Nat → Nat → Int) (a b' a' : Int), 0 < k ∧ k < 5 ∧ q ≤ len ∧ x = some (0, pc_h (pc_tx Z' a b' (k : Int) (q : Int))) ∧ y = some (0, pm_h (pm_tx X' a' (k : Int) (q : Int))) ∧ tx_F8 A Z Z' ∧ tx_G8 X X') ∨
  (∃ (n p' : Nat) (Z' X' : Nat → Nat → Int) (b' l' : Int), p' ≤ len ∧ x = some (1, pc_h (pc_tx Z' (p' : Int) b' 0 (-1))) ∧ y = some (0, pm_h (pm_tx X' (p' : Int) 0 l')) ∧ tx_F8 A Z Z' ∧ tx_G8 X X' ∧ tx_R A n len Z' X' ∧ tx_new A Z')
theorem tx_F8_F {A : Nat} {X Y Z : Nat → Nat → Int} (h : tx_F8 A X Y) (h2 : tx_F A Y Z) : tx_F8 A X Z := fun o ho => (h2 o (by omega) (by omega)).trans (h o ho)
theorem tx_G8_G {X Y Z : Nat → Nat → Int} (h : tx_G8 X Y) (h2 : tx_G Y Z) : tx_G8 X Z := ⟨fun o a b c => (h2 o b c).trans (h.1 o a b c), fun j hj => by rw [h2 0 (by decide) (by decide)]; exact h.2 j hj⟩
theorem tx_new_F {A : Nat} {Y Z : Nat → Nat → Int} (h : tx_new A Y) (h2 : tx_F A Y Z) : tx_new A Z := by
  unfold tx_new
  rw [h2 A (by omega) (by omega), h2 (A + 5) (by omega) (by omega), h2 (A + 3) (by omega) (by omega), h2 (A + 6) (by omega) (by omega), h2 (A + 7) (by omega) (by omega)]
  exact h
set_option maxHeartbeats 2000000 in
theorem tx_first1 {A len q p1 : Nat} {Z X : Nat → Nat → Int} {p b l s : Int} (hA : pc_S A = true) (hs : tx_s len Z X) (hq : q ≤ len) (hsi : gx_i s) (hs1 : s = 110 → q < len ∧ p1 = q + 1)
    (et : f_TX_take (pc_h (pc_tx Z p b 0 (-1))) 1 = some (s, pc_h (pc_tx Z (p1 : Int) (q : Int) 0 (-1)))) (eh : f_MD_here (pm_h (pm_tx X p 0 l)) 0 = some (s, pm_h (pm_tx X (q : Int) 0 l))) :
    tx_one A len Z X (f_TX_readCount (pc_h (pc_tx Z p b 0 (-1))) 1 A) (f_MD_readClause (pm_h (pm_tx X p 0 l)) 0 1) := by
  have hA10 := pc_S_ge A hA
  obtain ⟨a0, ah, a4, a5, a6, a7⟩ := pc_S_all A (pc_S_lt hA) hA
  obtain ⟨l1, l2⟩ := pc_L1
  have len100 := hs.2.2.1
  unfold f_TX_readCount f_MD_readClause fb_MD_readClause_42 fb_MD_readClause_36
  rw [pc_cv l1, et, pl_call, pm_cv, eh, pl_call]
  simp only [gq_g_ok hsi, pl_gi (show (-2147483648 : Int) ≤ 1 by decide) (show (1 : Int) ≤ 2147483647 by decide), if_neg (show ¬ (1 : Int) = 0 by decide)]
  by_cases c1 : s = 110
  · obtain ⟨cq, cp⟩ := hs1 c1
    subst cp
    rw [if_pos c1, if_pos c1, pc_cv l1]
    unfold fb_MD_readClause_58 f_MD_readMany
    rw [pm_get (by decide) rfl, pm_tx_24, pm_put ⟨by omega, by omega⟩ (by decide) rfl, pm_tx_u24, gq_g_ok hsi, if_pos c1, pm_cv, show (q : Int) + 1 = ((q + 1 : Nat) : Int) by omega, pm_cv]
    rcases tx_fig (p := q + 1) (b := (q : Int)) (l := l) (lo := 2) (hi := 4) hs (by omega) (by decide) (by decide) with ⟨q1, g1, g2, g3, g4, e1, e2⟩ | ⟨k, q', a, k0, k5, hq', e1, e2⟩
    · obtain ⟨n, hn⟩ : ∃ i : Nat, Z 2 q1 - 48 = (i : Int) := ⟨(Z 2 q1 - 48).toNat, by omega⟩
      rw [hn] at e1 e2 g3 g4
      obtain ⟨Y, hY, eY⟩ := pc_beginS (pc_tx Z ((q1 + 1 : Nat) : Int) (q1 : Int) 0 (-1)) (n := n) hA rfl (by omega)
      obtain ⟨y1, y2, y3, y4, y5⟩ := hY
      have hY1 := pc_tx_of (y1 1 (by omega))
      obtain ⟨W, eW, w1, w2, w3⟩ := pm_clear (pm_tx (gx_up X 0 27 (n : Int)) ((q1 + 1 : Nat) : Int) 0 l)
      have hW1 := pm_tx_of (w1 0 (by decide) (by decide))
      rw [e1, pl_call, pl_gi (by omega) (by omega), if_neg (by omega), pc_cv a0, eY, pl_call, hY1, pc_cv l1, e2, pl_call, pm_put ⟨by omega, by omega⟩ (by decide) rfl, pm_tx_u0 (by decide) (by decide) (by decide), pm_cv, pm_pass0 _ (by omega), pl_call, eW, pl_call, hW1]
      have Zo : ∀ o, o ≠ 1 → gx_us Y 1 (Z 1) o = Y o := fun o h => gx_us_ne h
      have Xo : ∀ o, o ≠ 0 → gx_us W 0 (gx_up X 0 27 (n : Int) 0) o = W o := fun o h => gx_us_ne h
      have Z1 : gx_us Y 1 (Z 1) 1 = Z 1 := gx_us_eq
      have X0 : gx_us W 0 (gx_up X 0 27 (n : Int) 0) 0 = gx_up X 0 27 (n : Int) 0 := gx_us_eq
      generalize gx_us Y 1 (Z 1) = Z2 at Zo Z1 ⊢
      generalize gx_us W 0 (gx_up X 0 27 (n : Int) 0) = X2 at Xo X0 ⊢
      have F8 : tx_F8 A Z Z2 := fun o ho => by
        by_cases e : o = 1
        · subst e; exact Z1
        · rw [Zo o e, y1 o ho, pc_tx_o e]
      have G8 : tx_G8 X X2 := ⟨fun o h0 h14 h15 => by rw [Xo o h0, w1 o h14 h15, pm_tx_o h0, gx_up_ne h0], fun j hj => by rw [X0, gx_up_at, if_neg hj]⟩
      have N : tx_new A Z2 := by
        refine ⟨by rw [Zo _ (by omega)]; exact y3, fun r hr => by rw [Zo _ (by omega)]; exact (y4 r hr).2, fun r c hr hc => ?_⟩
        rw [Zo _ (by omega), Zo _ (by omega), Zo _ (by omega)]
        exact (y5 r c hr hc).2
      have R : tx_R A n len Z2 X2 := by
        refine ⟨⟨by omega, by omega⟩, by rw [Zo _ (by omega)]; exact y2, by rw [X0, gx_up_at, if_pos rfl], fun j hj => ?_, fun i hi => ?_, fun i hi j hj => ?_⟩
        · have := (y5 (j / 4) (j % 4) (by omega) (by omega)).1
          rw [show 4 * (j / 4) + j % 4 = j by omega] at this
          rw [Xo 14 (by decide), w2 j hj, Zo _ (by omega), this]
        · rw [Xo 15 (by decide), w3 i hi, Zo _ (by omega), (y4 i hi).1]
          exact ⟨rfl, by decide, by decide⟩
        · unfold pc_T
          rw [Zo _ (by omega), (y5 i j hi hj).1, (y5 j i hj hi).1]
          exact ⟨by decide, by decide, fun _ => rfl, by decide⟩
      have S : tx_s len Z2 X2 := by
        obtain ⟨s1, s2, s3, s4⟩ := hs
        refine ⟨by rw [F8 1 (by omega)]; exact s1, by rw [G8.2 7 (by decide)]; exact s2, s3, fun q hq => ?_⟩
        rw [F8 2 (by omega), G8.1 3 (by decide) (by decide) (by decide)]
        exact s4 q hq
      rcases tx_out_g (tx_end (p := q1 + 1) (p0 := 0) (b := (q1 : Int)) (l := l) hA10 S R (by omega) (by omega) tx_F.rf tx_G.rf) with ⟨k, q', Z', X', a, b', a', k0, k5, hq', f1, f2, hF, hG⟩ | ⟨p', Z', X', b', l', hp1, hp2, f1, f2, hF, hG, hR'⟩
      · exact Or.inl ⟨k, q', Z', X', a, b', a', k0, k5, hq', f1, f2, tx_F8_F F8 hF, tx_G8_G G8 hG⟩
      · exact Or.inr ⟨n, p', Z', X', b', l', hp2, f1, f2, tx_F8_F F8 hF, tx_G8_G G8 hG, hR', tx_new_F N hF⟩
    · obtain ⟨W, eW, w1, w2, w3⟩ := pm_clear (pm_tx (gx_up X 0 27 2) (q' : Int) (k : Int) (q' : Int))
      have hW1 := pm_tx_of (w1 0 (by decide) (by decide))
      rw [e1, pl_call, pl_gi (by decide) (by decide), if_pos rfl, e2, pl_call, pm_put (by decide) (by decide) rfl, pm_tx_u0 (by decide) (by decide) (by decide), pm_cv, pm_passw _ (by omega) (by decide), pl_call, eW, pl_call, hW1, pm_endw _ (by omega) (by omega)]
      refine Or.inl ⟨k, q', Z, _, _, _, _, k0, k5, hq', rfl, rfl, fun _ _ => rfl, fun o h0 h14 h15 => ?_, fun j hj => ?_⟩
      · rw [gx_us_ne h0, w1 o h14 h15, pm_tx_o h0, gx_up_ne h0]
      · rw [gx_us_eq, gx_up_at, if_neg hj]
  · rw [if_neg c1, if_neg c1, pc_cv l1, pc_blame Z (k := 1) (v := 1) rfl (by decide), pl_call, pm_cv, pm_fail0 X (k := 1) (v := 1) rfl (by decide), pl_call]
    exact Or.inl ⟨1, q, Z, X, _, _, _, by decide, by decide, hq, rfl, rfl, fun _ _ => rfl, fun _ _ _ _ => rfl, fun _ _ => rfl⟩
/-- the first clause -/
theorem tx_first {A len p : Nat} {Z X : Nat → Nat → Int} {b l : Int} (hA : pc_S A = true) (hs : tx_s len Z X) (hp : p ≤ len) :
    tx_one A len Z X (f_TX_readCount (pc_h (pc_tx Z (p : Int) b 0 (-1))) 1 A) (f_MD_readClause (pm_h (pm_tx X (p : Int) 0 l)) 0 1) := by
  obtain ⟨h1, h2, h3, h4⟩ := hs
  have hcg : ∀ q, q < len → X 3 q = Z 2 q := fun q hq => (h4 q hq).1
  have hsk := mu_sk_cg hcg len p
  have hle := mu_sk_le (s := Z 2) (len := len) len p hp
  have et := pc_take Z (p := p) (b := b) (c := 0) (d := -1) h1 h3 hp
  have eh := pm_here X (p := p) (w := 0) (l := l) h2 h3 hp
  rw [hsk] at eh
  generalize mu_sk (Z 2) len len p = q at hle et eh
  by_cases cq : q < len
  · have hx := h4 q cq
    rw [if_pos cq, if_pos cq] at et
    rw [if_pos cq, hcg q cq] at eh
    exact tx_first1 hA ⟨h1, h2, h3, h4⟩ hle ⟨by omega, by omega⟩ (fun _ => ⟨cq, rfl⟩) et eh
  · rw [if_neg cq, if_neg cq] at et
    rw [if_neg cq] at eh
    exact tx_first1 hA ⟨h1, h2, h3, h4⟩ hle (by decide) (fun z => absurd z (by decide)) et eh
