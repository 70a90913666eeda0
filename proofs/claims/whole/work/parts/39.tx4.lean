/-! a clause, and all of them: both sides -/
theorem mu_sk_fix {s : Nat → Int} {len q : Nat} (h : s q ≠ 32) : ∀ d, mu_sk s len d q = q := by
  intro d
  cases d with
  | zero => rfl
  | succ d =>
    unfold mu_sk
    rw [if_neg (fun z => h z.2)]
theorem mu_sk_end {s : Nat → Int} {len : Nat} : ∀ d, mu_sk s len d len = len := by
  intro d
  cases d with
  | zero => rfl
  | succ d =>
    unfold mu_sk
    rw [if_neg (fun z => absurd z.1 (Nat.lt_irrefl _))]
theorem mu_sk_stop {s : Nat → Int} {len : Nat} : ∀ d p, len ≤ p + d → mu_sk s len d p < len → s (mu_sk s len d p) ≠ 32 := by
  intro d
  induction d with
  | zero =>
    intro p h1 h2
    have : mu_sk s len 0 p = p := rfl
    rw [this] at h2
    omega
  | succ d ih =>
    intro p h1
    unfold mu_sk
    by_cases c : p < len ∧ s p = 32
    · rw [if_pos c]; exact ih (p + 1) (by omega)
    · rw [if_neg c]
      intro h2 h3
      exact c ⟨h2, h3⟩
theorem tx_clause {A n len q : Nat} {Z X : Nat → Nat → Int} {l : Int} (hA : pc_S A = true) (hs : tx_s len Z X) (hR : tx_R A n len Z X) (hq : q < len) (hb : Z 2 q ≠ 32) :
    tx_out A n len q Z X (f_TX_readClause (pc_h (pc_tx Z ((q + 1 : Nat) : Int) (q : Int) 0 (-1))) 1 (Z 2 q) A) (f_MD_readClause (pm_h (pm_tx X (q : Int) 0 l)) 0 0) := by
  have hA10 := pc_S_ge A hA
  obtain ⟨a0, ah, a4, a5, a6, a7⟩ := pc_S_all A (pc_S_lt hA) hA
  obtain ⟨z0, z1, z2, z3, z4, z5⟩ := pc_S_ref A (pc_S_lt hA) hA
  obtain ⟨l1, l2⟩ := pc_L1
  obtain ⟨h1, h2, h3, h4⟩ := hs
  have hx := h4 q hq
  have hx3 : X 3 q ≠ 32 := by rw [hx.1]; exact hb
  unfold f_TX_readClause f_MD_readClause fb_MD_readClause_42 fb_MD_readClause_36
  rw [pm_cv, pm_here X h2 h3 (by omega), mu_sk_fix hx3, if_pos hq, hx.1, pl_call, pl_gi (by omega) (by omega), pl_gi (by decide) (by decide), if_pos (show (0 : Int) = 0 from rfl), pl_gi (by omega) (by omega)]
  simp only [pl_gi (show (-2147483648 : Int) ≤ 0 by decide) (show (0 : Int) ≤ 2147483647 by decide), pl_gi (show (-2147483648 : Int) ≤ Z 2 q by omega) (show Z 2 q ≤ 2147483647 by omega), if_pos (show (0 : Int) = 0 from rfl)]
  by_cases c1 : Z 2 q = 98
  · have n1 : ¬ Z 2 q = 110 := by omega
    simp only [if_pos c1, if_neg n1]
    rw [pc_gr a0 (by decide) z0 (by omega), pc_cv l1]
    unfold fb_MD_readClause_58
    rw [pm_get (by decide) rfl, pm_tx_24, pm_put ⟨by omega, by omega⟩ (by decide) rfl, pm_tx_u24, pl_gi (by omega) (by omega), if_neg n1, if_pos c1, pm_cv, show (q : Int) + 1 = ((q + 1 : Nat) : Int) by omega]
    exact tx_out_g (tx_out_le (tx_hang (p := q + 1) hA ⟨h1, h2, h3, h4⟩ hR (by omega)) (by omega))
  · by_cases c2 : Z 2 q = 110
    · simp only [if_neg c1, if_pos c2]
      rw [pc_cv l1, pc_blame Z (k := 3) (v := 3) rfl (by decide), pl_call, pm_cv, pm_fail0 X (k := 3) (v := 3) rfl (by decide), pl_call]
      exact Or.inl ⟨3, q, Z, X, _, _, _, by decide, by decide, by omega, rfl, rfl, tx_F.rf, tx_G.rf⟩
    · by_cases c3 : Z 2 q = 120
      · simp only [if_neg c1, if_neg c2, if_pos c3]
        rw [pc_cv l1]
        unfold fb_MD_readClause_58
        rw [pm_get (by decide) rfl, pm_tx_24, pm_put ⟨by omega, by omega⟩ (by decide) rfl, pm_tx_u24, pl_gi (by omega) (by omega), if_neg c2, if_neg c1, pm_cv, show (q : Int) + 1 = ((q + 1 : Nat) : Int) by omega]
        exact tx_out_g (tx_out_le (tx_worth (p := q + 1) hA ⟨h1, h2, h3, h4⟩ hR (by omega)) (by omega))
      · simp only [if_neg c1, if_neg c2, if_neg c3]
        rw [pc_cv l1, pc_blame Z (k := 1) (v := 1) rfl (by decide), pl_call, pm_cv, pm_fail0 X (k := 1) (v := 1) rfl (by decide), pl_call]
        exact Or.inl ⟨1, q, Z, X, _, _, _, by decide, by decide, by omega, rfl, rfl, tx_F.rf, tx_G.rf⟩
/-- all is read: with a like fault, or with the like -/
def tx_fin (A n len : Nat) (Z X : Nat → Nat → Int) (x y : Option (Int × gx_H)) : Prop :=
  (∃ (k q : Nat) (Z' X' : Nat → Nat → Int) (a b a' : Int), 0 < k ∧ k < 5 ∧ q ≤ len ∧ x = some (0, pc_h (pc_tx Z' a b (k : Int) (q : Int))) ∧ y = fb_MD_letters_43 (pm_h (pm_tx X' a' (k : Int) (q : Int))) 0 ∧ tx_F A Z Z' ∧ tx_G X X') ∨
  (∃ (Z' X' : Nat → Nat → Int) (a b a' l : Int), x = some (1, pc_h (pc_tx Z' a b 0 (-1))) ∧ y = fb_MD_letters_43 (pm_h (pm_tx X' a' 0 l)) 0 ∧ tx_F A Z Z' ∧ tx_G X X' ∧ tx_R A n len Z' X')
set_option maxHeartbeats 1000000 in
theorem tx_loop {A n len : Nat} (hA : pc_S A = true) : ∀ (e p c fu gu : Nat) (Z X : Nat → Nat → Int) (b l : Int), tx_s len Z X → tx_R A n len Z X → p + e = len → c ≤ p → e + 1 < fu → e + 1 < gu →
    tx_fin A n len Z X (f_TX_readInto_27 fu (pc_h (pc_tx Z (p : Int) b 0 (-1))) 1 A (c : Int)) (f_MD_letters_20 gu (pm_h (pm_tx X (p : Int) 0 l)) 0) := by
  obtain ⟨l1, l2⟩ := pc_L1
  have hA10 := pc_S_ge A hA
  have fu1 : ∀ fu, f_TX_readInto_27 (fu + 1) = fb_TX_readInto_27 (f_TX_readInto_27 fu) := fun _ => rfl
  have gu1 : ∀ fu, f_MD_letters_20 (fu + 1) = fb_MD_letters_20 (f_MD_letters_20 fu) := fun _ => rfl
  intro e
  induction e using Nat.strongRecOn with
  | ind e ih =>
    intro p c fu gu Z X b l hs hR hp hc hf hg
    obtain ⟨f, rfl⟩ : ∃ f, fu = f + 1 := ⟨fu - 1, by omega⟩
    obtain ⟨g, rfl⟩ : ∃ g, gu = g + 1 := ⟨gu - 1, by omega⟩
    obtain ⟨h1, h2, h3, h4⟩ := hs
    have hcg : ∀ q, q < len → X 3 q = Z 2 q := fun q hq => (h4 q hq).1
    have hsk := mu_sk_cg hcg len p
    have hge := mu_sk_ge (s := Z 2) (len := len) len p
    have hle := mu_sk_le (s := Z 2) (len := len) len p (by omega)
    have hst := mu_sk_stop (s := Z 2) (len := len) len p (by omega)
    have et := pc_take Z (p := p) (b := b) (c := 0) (d := -1) h1 h3 (by omega)
    have eh := pm_here X (p := p) (w := 0) (l := l) h2 h3 (by omega)
    rw [hsk] at eh
    rw [fu1, gu1]
    unfold fb_TX_readInto_27 fb_MD_letters_20
    rw [pl_gi (by omega) (by omega), pm_get (by decide) rfl, pm_tx_25, if_pos (show (0 : Int) = 0 from rfl), pm_cv, eh, pl_call]
    by_cases cq : mu_sk (Z 2) len len p < len
    · have hb := hst cq
      have hx := h4 _ cq
      rw [if_pos (by omega), pc_cv l1, et, pl_call]
      generalize mu_sk (Z 2) len len p = q at hge hle cq hb hx ⊢
      rw [if_pos cq, if_pos cq, if_pos cq, hcg q cq, pl_gi (by omega) (by omega), pl_gi (by omega) (by omega), if_neg (by omega), if_neg (by omega), pc_cv l1, pm_cv]
      rcases tx_clause (l := l) hA ⟨h1, h2, h3, h4⟩ hR cq hb with ⟨k, q', Z', X', a, b', a', k0, k5, hq', e1, e2, hF, hG⟩ | ⟨p', Z', X', b', l', hp1, hp2, e1, e2, hF, hG, hR'⟩
      · rw [e1, e2, pl_call, pl_call, pl_gi (by decide) (by decide), if_pos (show (0 : Int) = 0 from rfl)]
        obtain ⟨g', rfl⟩ : ∃ g', g = g' + 1 := ⟨g - 1, by omega⟩
        rw [gu1]
        unfold fb_MD_letters_20
        rw [pm_get (by decide) rfl, pm_tx_25, if_neg (by omega)]
        exact Or.inl ⟨k, q', Z', X', a, b', a', k0, k5, hq', rfl, rfl, hF, hG⟩
      · rw [e1, e2, pl_call, pl_call, pl_gi (by decide) (by decide), if_neg (show ¬ (1 : Int) = 0 by decide), show (c : Int) + 1 = ((c + 1 : Nat) : Int) by omega]
        rcases ih (len - p') (by omega) p' (c + 1) f g Z' X' b' l' (tx_s_F hA10 ⟨h1, h2, h3, h4⟩ hF hG) hR' (by omega) (by omega) (by omega) (by omega) with ⟨k, q', Z2, X2, a, b2, a', k0, k5, hq', e1, e2, hF2, hG2⟩ | ⟨Z2, X2, a, b2, a', l2', e1, e2, hF2, hG2, hR2⟩
        · exact Or.inl ⟨k, q', Z2, X2, a, b2, a', k0, k5, hq', e1, e2, hF.trans hF2, hG.trans hG2⟩
        · exact Or.inr ⟨Z2, X2, a, b2, a', l2', e1, e2, hF.trans hF2, hG.trans hG2, hR2⟩
    · rw [if_neg cq, pl_gi (by decide) (by decide), if_pos (show (-1 : Int) = -1 from rfl)]
      by_cases cc : (c : Int) < 100
      · rw [if_pos cc, pc_cv l1, et, pl_call, if_neg cq, pl_gi (by decide) (by decide), if_pos (show (-1 : Int) = -1 from rfl)]
        exact Or.inr ⟨Z, X, _, _, _, _, rfl, rfl, tx_F.rf, tx_G.rf, hR⟩
      · rw [if_neg cc]
        exact Or.inr ⟨Z, X, _, _, _, _, rfl, rfl, tx_F.rf, tx_G.rf, hR⟩
