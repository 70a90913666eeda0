/-! the reading of a text: the reference -/
def pm_tx (X : Nat → Nat → Int) (a w l : Int) : Nat → Nat → Int := gx_us X 0 (fun j => if j = 24 then a else if j = 25 then w else if j = 26 then l else X 0 j)
theorem pm_tx_o {X : Nat → Nat → Int} {a w l : Int} {o : Nat} (h : o ≠ 0) : pm_tx X a w l o = X o := gx_us_ne h
theorem pm_tx_24 {X : Nat → Nat → Int} {a w l : Int} : pm_tx X a w l 0 24 = a := by unfold pm_tx; rw [gx_us_eq]; rfl
theorem pm_tx_25 {X : Nat → Nat → Int} {a w l : Int} : pm_tx X a w l 0 25 = w := by unfold pm_tx; rw [gx_us_eq]; rfl
theorem pm_tx_26 {X : Nat → Nat → Int} {a w l : Int} : pm_tx X a w l 0 26 = l := by unfold pm_tx; rw [gx_us_eq]; rfl
theorem pm_tx_j {X : Nat → Nat → Int} {a w l : Int} {j : Nat} (h1 : j ≠ 24) (h2 : j ≠ 25) (h3 : j ≠ 26) : pm_tx X a w l 0 j = X 0 j := by
  unfold pm_tx
  rw [gx_us_eq]
  simp only [if_neg h1, if_neg h2, if_neg h3]
theorem pm_tx_u24 {X : Nat → Nat → Int} {a w l v : Int} : gx_up (pm_tx X a w l) 0 24 v = pm_tx X v w l := by
  unfold pm_tx
  rw [gx_up_us]
  refine congrArg (gx_us X 0) (funext fun j => ?_)
  unfold gx_u1
  by_cases h : j = 24
  · subst h; rfl
  · simp only [if_neg h]
theorem pm_tx_u25 {X : Nat → Nat → Int} {a w l v : Int} : gx_up (pm_tx X a w l) 0 25 v = pm_tx X a v l := by
  unfold pm_tx
  rw [gx_up_us]
  refine congrArg (gx_us X 0) (funext fun j => ?_)
  unfold gx_u1
  by_cases h : j = 25
  · subst h; rfl
  · simp only [if_neg h]
theorem pm_tx_u26 {X : Nat → Nat → Int} {a w l v : Int} : gx_up (pm_tx X a w l) 0 26 v = pm_tx X a w v := by
  unfold pm_tx
  rw [gx_up_us]
  refine congrArg (gx_us X 0) (funext fun j => ?_)
  unfold gx_u1
  by_cases h : j = 26
  · subst h; rfl
  · simp only [if_neg h]
theorem pm_tx_up {X : Nat → Nat → Int} {a w l v : Int} {o i : Nat} (h : o ≠ 0) : gx_up (pm_tx X a w l) o i v = pm_tx (gx_up X o i v) a w l := by
  funext q
  by_cases e : q = 0
  · subst e
    rw [gx_up_ne (fun z => h z.symm)]
    unfold pm_tx
    rw [gx_us_eq, gx_us_eq, gx_up_ne (fun z => h z.symm)]
  · by_cases e2 : q = o
    · subst e2
      rw [pm_tx_o e]
      funext j
      rw [gx_up_at, gx_up_at, pm_tx_o e]
    · rw [gx_up_ne e2, pm_tx_o e, pm_tx_o e, gx_up_ne e2]
theorem pm_here38 (X : Nat → Nat → Int) {p len : Nat} {w l : Int} (hl : X 0 7 = (len : Int)) (hl2 : len ≤ 100) : fb_MD_here_38 (pm_h (pm_tx X (p : Int) w l)) 0 = some (if p < len then X 3 p else -1, pm_h (pm_tx X (p : Int) w l)) := by
  have h7 : pm_tx X (p : Int) w l 0 7 = (len : Int) := by rw [pm_tx_j (by decide) (by decide) (by decide)]; exact hl
  unfold fb_MD_here_38
  rw [pm_get (by decide) rfl, pm_tx_24, pm_get (by decide) rfl, h7]
  by_cases h : p < len
  · rw [if_pos (by omega), if_pos h, pm_gr (t := 3) (by decide) rfl (by decide), pm_get (by decide) rfl, pm_tx_24, pm_ald (o := 3) (i := p) rfl (by show p < 100; omega), pm_tx_o (by decide)]
  · rw [if_neg (by omega), if_neg h]
theorem pm_here (X : Nat → Nat → Int) {p len : Nat} {w l : Int} (hl : X 0 7 = (len : Int)) (hl2 : len ≤ 100) (hp : p ≤ len) : f_MD_here (pm_h (pm_tx X (p : Int) w l)) 0 = some (if mu_sk (X 3) len len p < len then X 3 (mu_sk (X 3) len len p) else -1, pm_h (pm_tx X ((mu_sk (X 3) len len p : Nat) : Int) w l)) := by
  have h7 : ∀ p w l, pm_tx X p w l 0 7 = (len : Int) := fun p w l => by rw [pm_tx_j (by decide) (by decide) (by decide)]; exact hl
  have fu1 : ∀ fu, f_MD_here_0 (fu + 1) = fb_MD_here_0 (f_MD_here_0 fu) := fun _ => rfl
  have key : ∀ e p fu, p ≤ len → len ≤ p + e → e < fu → f_MD_here_0 fu (pm_h (pm_tx X (p : Int) w l)) 0 = fb_MD_here_38 (pm_h (pm_tx X ((mu_sk (X 3) len e p : Nat) : Int) w l)) 0 := by
    intro e
    induction e with
    | zero =>
      intro p fu h1 h2 h3
      obtain ⟨f, rfl⟩ : ∃ f, fu = f + 1 := ⟨fu - 1, by omega⟩
      rw [fu1]
      unfold fb_MD_here_0
      rw [pm_get (by decide) rfl, pm_tx_24, pm_get (by decide) rfl, h7, if_neg (by omega)]
      rfl
    | succ e ih =>
      intro p fu h1 h2 h3
      obtain ⟨f, rfl⟩ : ∃ f, fu = f + 1 := ⟨fu - 1, by omega⟩
      rw [fu1]
      unfold fb_MD_here_0
      rw [pm_get (by decide) rfl, pm_tx_24, pm_get (by decide) rfl, h7]
      have es : mu_sk (X 3) len (e + 1) p = if p < len ∧ X 3 p = 32 then mu_sk (X 3) len e (p + 1) else p := rfl
      by_cases h : p < len
      · rw [if_pos (by omega), pm_gr (t := 3) (by decide) rfl (by decide), pm_get (by decide) rfl, pm_tx_24, pm_ald (o := 3) (i := p) rfl (by show p < 100; omega), pm_tx_o (by decide)]
        by_cases hb : X 3 p = 32
        · rw [if_pos hb, es, if_pos ⟨h, hb⟩, pm_get (by decide) rfl, pm_tx_24, pm_put ⟨by omega, by omega⟩ (by decide) rfl, pm_tx_u24]
          exact ih (p + 1) f (by omega) (by omega) (by omega)
        · rw [if_neg hb, es, if_neg (fun z => hb z.2)]
      · rw [if_neg (by omega), es, if_neg (fun z => h z.1)]
  unfold f_MD_here
  rw [key len p gx_fu hp (by omega) (show len < 1000000 by omega)]
  exact pm_here38 X hl hl2
theorem pm_fail0 (X : Nat → Nat → Int) {k : Nat} {a l v : Int} (hv : v = (k : Int)) (hk : k < 10) : f_MD_fail (pm_h (pm_tx X a 0 l)) 0 v = some (0, pm_h (pm_tx X a (k : Int) a)) := by
  subst hv
  unfold f_MD_fail
  rw [pm_get (by decide) rfl, pm_tx_25, if_pos rfl, pm_put ⟨by omega, by omega⟩ (by decide) rfl, pm_tx_u25, pm_get (by decide) rfl, pm_tx_24, pm_put trivial (by decide) rfl, pm_tx_u26]
theorem pm_failw (X : Nat → Nat → Int) {a w l v : Int} (hw : w ≠ 0) : f_MD_fail (pm_h (pm_tx X a w l)) 0 v = some (0, pm_h (pm_tx X a w l)) := by
  unfold f_MD_fail
  rw [pm_get (by decide) rfl, pm_tx_25, if_neg hw]
theorem pm_figw (X : Nat → Nat → Int) {a w l lo hi : Int} (hw : w ≠ 0) : f_MD_figure (pm_h (pm_tx X a w l)) 0 lo hi = some (lo, pm_h (pm_tx X a w l)) := by
  unfold f_MD_figure
  rw [pm_get (by decide) rfl, pm_tx_25, if_neg hw]
theorem pm_passw (X : Nat → Nat → Int) {a w l v : Int} (hw : w ≠ 0) (hv : gx_i v) : f_MD_pass (pm_h (pm_tx X a w l)) 0 v = some (0, pm_h (pm_tx X a w l)) := by
  have h9 : fb_MD_pass_9 (pm_h (pm_tx X a w l)) 0 = some (0, pm_h (pm_tx X a w l)) := by
    unfold fb_MD_pass_9
    rw [pm_get (by decide) rfl, pm_tx_25, if_neg hw]
  unfold f_MD_pass
  rw [gq_g_ok hv]
  by_cases c : v = 0
  · rw [if_pos c, h9]
  · rw [if_neg c, pm_cv, pm_failw X hw, pl_call, h9]
theorem pm_pass0 (X : Nat → Nat → Int) {p : Nat} {l : Int} (hp : p ≤ 100) : f_MD_pass (pm_h (pm_tx X (p : Int) 0 l)) 0 0 = some (0, pm_h (pm_tx X ((p + 1 : Nat) : Int) 0 l)) := by
  unfold f_MD_pass fb_MD_pass_9
  rw [pl_gi (by decide) (by decide), if_pos (show (0 : Int) = 0 from rfl), pm_get (by decide) rfl, pm_tx_25, if_pos (show (0 : Int) = 0 from rfl), pm_get (by decide) rfl, pm_tx_24, pm_put ⟨by omega, by omega⟩ (by decide) rfl, pm_tx_u24]
  rfl
theorem pm_pass1 (X : Nat → Nat → Int) {p : Nat} {l : Int} : f_MD_pass (pm_h (pm_tx X (p : Int) 0 l)) 0 1 = some (0, pm_h (pm_tx X (p : Int) 4 (p : Int))) := by
  unfold f_MD_pass
  rw [pl_gi (by decide) (by decide), if_neg (show ¬ (1 : Int) = 0 by decide), pm_cv, pm_fail0 X (k := 4) (v := 4) rfl (by decide), pl_call]
  unfold fb_MD_pass_9
  rw [pm_get (by decide) rfl, pm_tx_25, if_neg (by decide)]
  rfl
theorem pm_figure (X : Nat → Nat → Int) {p len : Nat} {l lo hi : Int} (hl : X 0 7 = (len : Int)) (hl2 : len ≤ 100) (hp : p ≤ len) (hs : ∀ q, q < len → 0 ≤ X 3 q ∧ X 3 q ≤ 255) (hlo : gx_i lo) (hhi : gx_i hi) (q : Nat) (hq : q = mu_sk (X 3) len len p) :
    (mu_ff (X 3) len q lo hi = 0 → f_MD_figure (pm_h (pm_tx X (p : Int) 0 l)) 0 lo hi = some (X 3 q - 48, pm_h (pm_tx X (q : Int) 0 l))) ∧
    (mu_ff (X 3) len q lo hi ≠ 0 → f_MD_figure (pm_h (pm_tx X (p : Int) 0 l)) 0 lo hi = some (lo, pm_h (pm_tx X (q : Int) (mu_ff (X 3) len q lo hi : Int) (q : Int)))) := by
  unfold f_MD_figure fb_MD_figure_50
  rw [pm_get (by decide) rfl, pm_tx_25, if_pos (show (0 : Int) = 0 from rfl), pm_cv, pm_here X hl hl2 hp, ← hq, pl_call]
  by_cases h : q < len
  · have hb := hs q h
    rw [if_pos h, pm_in _ ⟨by omega, by omega⟩ (by decide) (by decide), pl_call]
    by_cases c1 : 48 ≤ X 3 q ∧ X 3 q ≤ 57
    · rw [if_pos c1, pl_gi (by decide) (by decide), if_neg (show ¬ (1 : Int) = 0 by decide), pm_in _ ⟨by omega, by omega⟩ hlo hhi, pl_call]
      by_cases c2 : lo ≤ X 3 q - 48 ∧ X 3 q - 48 ≤ hi
      · have ef : mu_ff (X 3) len q lo hi = 0 := by unfold mu_ff; rw [if_pos ⟨h, c1⟩, if_pos c2]
        rw [if_pos c2, pl_gi (by decide) (by decide), if_neg (show ¬ (1 : Int) = 0 by decide), pm_get (by decide) rfl, pm_tx_25, if_pos (show (0 : Int) = 0 from rfl)]
        exact ⟨fun _ => rfl, fun z => absurd ef z⟩
      · have ef : mu_ff (X 3) len q lo hi = 2 := by unfold mu_ff; rw [if_pos ⟨h, c1⟩, if_neg c2]
        rw [if_neg c2, pl_gi (by decide) (by decide), if_pos (show (0 : Int) = 0 from rfl), pm_cv, pm_fail0 X (k := 2) (v := 2) rfl (by decide), pl_call, pm_get (by decide) rfl, pm_tx_25, if_neg (by decide), ef]
        exact ⟨fun z => absurd z (by decide), fun _ => rfl⟩
    · have ef : mu_ff (X 3) len q lo hi = 1 := by unfold mu_ff; rw [if_neg (fun z => c1 z.2)]
      rw [if_neg c1, pl_gi (by decide) (by decide), if_pos (show (0 : Int) = 0 from rfl), pm_cv, pm_fail0 X (k := 1) (v := 1) rfl (by decide), pl_call, pm_get (by decide) rfl, pm_tx_25, if_neg (by decide), ef]
      exact ⟨fun z => absurd z (by decide), fun _ => rfl⟩
  · have ef : mu_ff (X 3) len q lo hi = 1 := by unfold mu_ff; rw [if_neg (fun z => h z.1)]
    rw [if_neg h, pm_in _ (by decide) (by decide) (by decide), pl_call, if_neg (by decide), pl_gi (by decide) (by decide), if_pos (show (0 : Int) = 0 from rfl), pm_cv, pm_fail0 X (k := 1) (v := 1) rfl (by decide), pl_call, pm_get (by decide) rfl, pm_tx_25, if_neg (by decide), ef]
    exact ⟨fun z => absurd z (by decide), fun _ => rfl⟩
/-- the end of a clause -/
theorem pm_end (X : Nat → Nat → Int) {p len : Nat} {l : Int} (hl : X 0 7 = (len : Int)) (hl2 : len ≤ 100) (hp : p ≤ len) (hs : ∀ q, q < len → 0 ≤ X 3 q ∧ X 3 q ≤ 255) (q : Nat) (hq : q = mu_sk (X 3) len len p) :
    ((q < len ∧ X 3 q = 59) → fb_MD_readClause_98 (pm_h (pm_tx X (p : Int) 0 l)) 0 = some (0, pm_h (pm_tx X ((q + 1 : Nat) : Int) 0 l))) ∧
    (¬ (q < len ∧ X 3 q = 59) → ∃ a, fb_MD_readClause_98 (pm_h (pm_tx X (p : Int) 0 l)) 0 = some (0, pm_h (pm_tx X a 1 (q : Int)))) := by
  have hqle := mu_sk_le (s := X 3) len p hp
  rw [← hq] at hqle
  unfold fb_MD_readClause_98 fb_MD_readClause_119
  rw [pm_get (by decide) rfl, pm_tx_25, if_pos (show (0 : Int) = 0 from rfl), pm_cv, pm_here X hl hl2 hp, ← hq, pl_call]
  by_cases h : q < len
  · have hb := hs q h
    rw [if_pos h, pl_gi (by omega) (by omega)]
    by_cases c1 : X 3 q = 59
    · rw [if_pos c1, pm_get (by decide) rfl, pm_tx_24, pm_put ⟨by omega, by omega⟩ (by decide) rfl, pm_tx_u24]
      exact ⟨fun _ => rfl, fun z => absurd ⟨h, c1⟩ z⟩
    · rw [if_neg c1, pm_cv, pm_fail0 X (k := 1) (v := 1) rfl (by decide), pl_call, pm_get (by decide) rfl, pm_tx_24, pm_put ⟨by omega, by omega⟩ (by decide) rfl, pm_tx_u24]
      exact ⟨fun z => absurd z.2 c1, fun _ => ⟨_, rfl⟩⟩
  · rw [if_neg h, pl_gi (by decide) (by decide), if_neg (by decide), pm_cv, pm_fail0 X (k := 1) (v := 1) rfl (by decide), pl_call, pm_get (by decide) rfl, pm_tx_24, pm_put ⟨by omega, by omega⟩ (by decide) rfl, pm_tx_u24]
    exact ⟨fun z => absurd z.1 h, fun _ => ⟨_, rfl⟩⟩
theorem pm_endw (X : Nat → Nat → Int) {p : Nat} {w l : Int} (hw : w ≠ 0) (hp : p ≤ 101) : fb_MD_readClause_98 (pm_h (pm_tx X (p : Int) w l)) 0 = some (0, pm_h (pm_tx X ((p : Int) + 1) w l)) := by
  unfold fb_MD_readClause_98 fb_MD_readClause_119
  rw [pm_get (by decide) rfl, pm_tx_25, if_neg hw, pm_get (by decide) rfl, pm_tx_24, pm_put ⟨by omega, by omega⟩ (by decide) rfl, pm_tx_u24]
