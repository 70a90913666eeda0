/-! clauses, both sides at once -/
theorem mu_sk_cg {s s' : Nat → Int} {len : Nat} (h : ∀ q, q < len → s q = s' q) : ∀ d p, mu_sk s len d p = mu_sk s' len d p := by
  intro d
  induction d with
  | zero => intro p; rfl
  | succ d ih =>
    intro p
    unfold mu_sk
    by_cases c : p < len ∧ s p = 32
    · rw [if_pos c, if_pos ⟨c.1, by rw [← h p c.1]; exact c.2⟩, ih]
    · rw [if_neg c, if_neg (fun z => c ⟨z.1, by rw [h p z.1]; exact z.2⟩)]
theorem mu_ff_cg {s s' : Nat → Int} {len q : Nat} {lo hi : Int} (h : ∀ q, q < len → s q = s' q) : mu_ff s len q lo hi = mu_ff s' len q lo hi := by
  unfold mu_ff
  by_cases c : q < len
  · rw [h q c]
  · rw [if_neg (fun z => c z.1), if_neg (fun z => c z.1)]
theorem mu_ff_ok {s : Nat → Int} {len q : Nat} {lo hi : Int} (h : mu_ff s len q lo hi = 0) : q < len ∧ lo ≤ s q - 48 ∧ s q - 48 ≤ hi := by
  unfold mu_ff at h
  by_cases c : q < len ∧ 48 ≤ s q ∧ s q ≤ 57
  · rw [if_pos c] at h
    by_cases d : lo ≤ s q - 48 ∧ s q - 48 ≤ hi
    · exact ⟨c.1, d⟩
    · rw [if_neg d] at h; cases h
  · rw [if_neg c] at h; cases h
theorem mu_ff_lt {s : Nat → Int} {len q : Nat} {lo hi : Int} : mu_ff s len q lo hi < 5 := by
  unfold mu_ff
  split
  · split <;> decide
  · decide
/-- a table as a text gives it -/
def tx_T (B : Nat → Nat → Int) : Prop := ∀ i, i < 4 → ∀ j, j < 4 → -3 ≤ B i j ∧ B i j ≤ 3 ∧ (i = j → B i j = 0) ∧ (0 < B i j ↔ B j i < 0)
/-- what both sides have read -/
def tx_R (A n len : Nat) (Z X : Nat → Nat → Int) : Prop :=
  (2 ≤ n ∧ n ≤ 4) ∧ Z (A + 1) 0 = (n : Int) ∧ X 0 27 = (n : Int) ∧ (∀ j, j < 16 → X 14 j = Z (A + 2) j) ∧ (∀ i, i < 4 → X 15 i = Z (A + 4) i ∧ 1 ≤ Z (A + 4) i ∧ Z (A + 4) i ≤ 9) ∧ tx_T (pc_T Z (A + 2))
/-- the text, on both sides -/
def tx_s (len : Nat) (Z X : Nat → Nat → Int) : Prop := Z 1 1 = (len : Int) ∧ X 0 7 = (len : Int) ∧ len ≤ 100 ∧ ∀ q, q < len → X 3 q = Z 2 q ∧ 0 ≤ Z 2 q ∧ Z 2 q ≤ 255
def tx_F (A : Nat) (Z Z' : Nat → Nat → Int) : Prop := ∀ o, o ≠ A + 2 → o ≠ A + 4 → Z' o = Z o
def tx_G (X X' : Nat → Nat → Int) : Prop := ∀ o, o ≠ 14 → o ≠ 15 → X' o = X o
theorem tx_F.rf {A : Nat} {Z : Nat → Nat → Int} : tx_F A Z Z := fun _ _ _ => rfl
theorem tx_G.rf {X : Nat → Nat → Int} : tx_G X X := fun _ _ _ => rfl
theorem tx_F.trans {A : Nat} {X Y Z : Nat → Nat → Int} (h : tx_F A X Y) (h2 : tx_F A Y Z) : tx_F A X Z := fun o a b => (h2 o a b).trans (h o a b)
theorem tx_G.trans {X Y Z : Nat → Nat → Int} (h : tx_G X Y) (h2 : tx_G Y Z) : tx_G X Z := fun o a b => (h2 o a b).trans (h o a b)
/-- a clause ends: with a like fault, or further on with the like -/
def tx_out (A n len p : Nat) (Z X : Nat → Nat → Int) (x y : Option (Int × gx_H)) : Prop :=
  (∃ (k q : Nat) (Z' X' : Nat → Nat → Int) (a b a' : Int), 0 < k ∧ k < 5 ∧ q ≤ len ∧ x = some (0, pc_h (pc_tx Z' a b (k : Int) (q : Int))) ∧ y = some (0, pm_h (pm_tx X' a' (k : Int) (q : Int))) ∧ tx_F A Z Z' ∧ tx_G X X') ∨
  (∃ (p' : Nat) (Z' X' : Nat → Nat → Int) (b l : Int), p < p' ∧ p' ≤ len ∧ x = some (1, pc_h (pc_tx Z' (p' : Int) b 0 (-1))) ∧ y = some (0, pm_h (pm_tx X' (p' : Int) 0 l)) ∧ tx_F A Z Z' ∧ tx_G X X' ∧ tx_R A n len Z' X')
theorem tx_s_F {A len : Nat} {Z Z' X X' : Nat → Nat → Int} (hA : 10 ≤ A) (h : tx_s len Z X) (hF : tx_F A Z Z') (hG : tx_G X X') : tx_s len Z' X' := by
  obtain ⟨h1, h2, h3, h4⟩ := h
  refine ⟨?_, ?_, h3, fun q hq => ?_⟩
  · rw [hF 1 (by omega) (by omega)]; exact h1
  · rw [hG 0 (by decide) (by decide)]; exact h2
  · rw [hF 2 (by omega) (by omega), hG 3 (by decide) (by decide)]; exact h4 q hq
/-- the end of a clause -/
theorem tx_end {A n len p p0 : Nat} {Z X Z0 X0 : Nat → Nat → Int} {b l : Int} (hA : 10 ≤ A) (hs : tx_s len Z X) (hR : tx_R A n len Z X) (hp0 : p0 ≤ p) (hp : p ≤ len) (hF : tx_F A Z0 Z) (hG : tx_G X0 X) : tx_out A n len p0 Z0 X0 (f_TX_readEnd (pc_h (pc_tx Z (p : Int) b 0 (-1))) 1) (fb_MD_readClause_98 (pm_h (pm_tx X (p : Int) 0 l)) 0) := by
  obtain ⟨h1, h2, h3, h4⟩ := hs
  have hc : ∀ q, q < len → X 3 q = Z 2 q := fun q hq => (h4 q hq).1
  have hq := mu_sk_cg hc len p
  have e1 := pc_readEnd Z (b := b) (c := 0) (d := -1) h1 h3 hp (fun q hq => (h4 q hq).2) _ rfl
  have e2 := pm_end X (l := l) h2 h3 hp (fun q hq => by rw [(h4 q hq).1]; exact (h4 q hq).2) _ rfl
  rw [hq] at e2
  have hge := mu_sk_ge (s := Z 2) (len := len) len p
  have hle := mu_sk_le (s := Z 2) (len := len) len p hp
  generalize mu_sk (Z 2) len len p = q at e1 e2 hge hle
  by_cases c : q < len ∧ Z 2 q = 59
  · exact Or.inr ⟨q + 1, Z, X, _, _, by omega, by omega, e1.1 c, e2.1 ⟨c.1, by rw [hc q c.1]; exact c.2⟩, hF, hG, hR⟩
  · obtain ⟨a, ha⟩ := e1.2 c
    obtain ⟨a', ha'⟩ := e2.2 (fun z => c ⟨z.1, by rw [← hc q z.1]; exact z.2⟩)
    exact Or.inl ⟨1, q, Z, X, a, _, a', by decide, by decide, hle, ha, ha', hF, hG⟩
/-- a figure, both sides -/
theorem tx_fig {len p : Nat} {Z X : Nat → Nat → Int} {b l lo hi : Int} (hs : tx_s len Z X) (hp : p ≤ len) (hlo : gx_i lo) (hhi : gx_i hi) :
    (∃ q, p ≤ q ∧ q < len ∧ lo ≤ Z 2 q - 48 ∧ Z 2 q - 48 ≤ hi ∧ f_TX_figure (pc_h (pc_tx Z (p : Int) b 0 (-1))) 1 lo hi = some (Z 2 q - 48, pc_h (pc_tx Z ((q + 1 : Nat) : Int) (q : Int) 0 (-1))) ∧ f_MD_figure (pm_h (pm_tx X (p : Int) 0 l)) 0 lo hi = some (Z 2 q - 48, pm_h (pm_tx X (q : Int) 0 l))) ∨
    (∃ (k q : Nat) (a : Int), 0 < k ∧ k < 5 ∧ q ≤ len ∧ f_TX_figure (pc_h (pc_tx Z (p : Int) b 0 (-1))) 1 lo hi = some (-1, pc_h (pc_tx Z a (q : Int) (k : Int) (q : Int))) ∧ f_MD_figure (pm_h (pm_tx X (p : Int) 0 l)) 0 lo hi = some (lo, pm_h (pm_tx X (q : Int) (k : Int) (q : Int)))) := by
  obtain ⟨h1, h2, h3, h4⟩ := hs
  have hc : ∀ q, q < len → X 3 q = Z 2 q := fun q hq => (h4 q hq).1
  have hq := mu_sk_cg hc len p
  have e1 := pc_figure Z (b := b) (c := 0) (d := -1) (lo := lo) (hi := hi) h1 h3 hp (fun q hq => (h4 q hq).2) hlo hhi _ rfl
  have e2 := pm_figure X (l := l) (lo := lo) (hi := hi) h2 h3 hp (fun q hq => by rw [(h4 q hq).1]; exact (h4 q hq).2) hlo hhi _ rfl
  rw [hq, mu_ff_cg hc] at e2
  have hge := mu_sk_ge (s := Z 2) (len := len) len p
  have hle := mu_sk_le (s := Z 2) (len := len) len p hp
  generalize mu_sk (Z 2) len len p = q at e1 e2 hge hle
  by_cases c : mu_ff (Z 2) len q lo hi = 0
  · obtain ⟨f1, f2, f3⟩ := mu_ff_ok c
    refine Or.inl ⟨q, hge, f1, f2, f3, e1.1 c, ?_⟩
    rw [e2.1 c, hc q f1]
  · obtain ⟨a, ha⟩ := e1.2 c
    exact Or.inr ⟨mu_ff (Z 2) len q lo hi, q, a, by omega, mu_ff_lt, hle, ha, e2.2 c⟩
/-! the reference, once there is a fault -/
theorem rt91w (X : Nat → Nat → Int) {a w l l1 l2 l3 l4 t : Int} (hw : w ≠ 0) (ht : gx_i t) : fb_MD_readTable_91 (pm_h (pm_tx X a w l)) 0 l1 l2 l3 l4 0 t = some (0, pm_h (pm_tx X a w l)) := by
  unfold fb_MD_readTable_91
  rw [pm_cv, pm_passw X hw ht, pl_call, pm_get (by decide) rfl, pm_tx_25, if_neg hw]
theorem rt83w (X : Nat → Nat → Int) {a w l l1 l2 l3 l4 t u : Int} (hw : w ≠ 0) (ht : gx_i t) (hu : gx_i u) : fb_MD_readTable_83 (pm_h (pm_tx X a w l)) 0 l1 l2 l3 l4 0 t u = some (0, pm_h (pm_tx X a w l)) := by
  unfold fb_MD_readTable_83
  rw [gq_g_ok ht, gq_g_ok hu, rt91w X hw (by decide), rt91w X hw (by decide)]
  split <;> rfl
theorem rt73w (X : Nat → Nat → Int) {a w l l1 l2 l3 l4 t : Int} (hw : w ≠ 0) (ht : gx_i t) (h4 : gx_i l4) : fb_MD_readTable_73 (pm_h (pm_tx X a w l)) 0 l1 l2 l3 l4 0 t = some (0, pm_h (pm_tx X a w l)) := by
  unfold fb_MD_readTable_73
  rw [gq_g_ok h4, rt83w X hw ht (by decide), rt83w X hw ht (by decide)]
  split <;> rfl
theorem rt40w (X : Nat → Nat → Int) {a w l l1 l2 t : Int} (hw : w ≠ 0) (ht : gx_i t) : fb_MD_readTable_40 (pm_h (pm_tx X a w l)) 0 l1 l2 0 t = some (0, pm_h (pm_tx X a w l)) := by
  unfold fb_MD_readTable_40
  rw [pm_cv, pm_passw X hw ht, pl_call, pm_cv, pm_figw X hw, pl_call, pm_cv, pm_passw X hw (by decide), pl_call, pm_cv, pm_figw X hw, pl_call, pl_gi (by decide) (by decide), rt73w X hw (by decide) (by decide), rt73w X hw (by decide) (by decide)]
  split <;> rfl
