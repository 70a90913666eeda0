/-! the reading of a text: signs -/
def mu_sk (s : Nat → Int) (len : Nat) : Nat → Nat → Nat
  | 0, p => p
  | d + 1, p => if p < len ∧ s p = 32 then mu_sk s len d (p + 1) else p
theorem mu_sk_ge {s : Nat → Int} {len : Nat} : ∀ d p, p ≤ mu_sk s len d p := by
  intro d
  induction d with
  | zero => intro p; exact Nat.le_refl _
  | succ d ih =>
    intro p
    unfold mu_sk
    split
    · have := ih (p + 1); omega
    · exact Nat.le_refl _
theorem mu_sk_le {s : Nat → Int} {len : Nat} : ∀ d p, p ≤ len → mu_sk s len d p ≤ len := by
  intro d
  induction d with
  | zero => intro p h; exact h
  | succ d ih =>
    intro p h
    unfold mu_sk
    split
    · rename_i c; exact ih (p + 1) (by omega)
    · exact h
/-- the text's own numbers -/
def pc_tx (Z : Nat → Nat → Int) (a b c d : Int) : Nat → Nat → Int := gx_us Z 1 (fun j => if j = 4 then a else if j = 5 then b else if j = 2 then c else if j = 3 then d else Z 1 j)
theorem pc_tx_o {Z : Nat → Nat → Int} {a b c d : Int} {o : Nat} (h : o ≠ 1) : pc_tx Z a b c d o = Z o := gx_us_ne h
theorem pc_tx_4 {Z : Nat → Nat → Int} {a b c d : Int} : pc_tx Z a b c d 1 4 = a := by unfold pc_tx; rw [gx_us_eq]; rfl
theorem pc_tx_5 {Z : Nat → Nat → Int} {a b c d : Int} : pc_tx Z a b c d 1 5 = b := by unfold pc_tx; rw [gx_us_eq]; rfl
theorem pc_tx_2 {Z : Nat → Nat → Int} {a b c d : Int} : pc_tx Z a b c d 1 2 = c := by unfold pc_tx; rw [gx_us_eq]; rfl
theorem pc_tx_3 {Z : Nat → Nat → Int} {a b c d : Int} : pc_tx Z a b c d 1 3 = d := by unfold pc_tx; rw [gx_us_eq]; rfl
theorem pc_tx_1 {Z : Nat → Nat → Int} {a b c d : Int} : pc_tx Z a b c d 1 1 = Z 1 1 := by unfold pc_tx; rw [gx_us_eq]; rfl
theorem pc_tx_u4 {Z : Nat → Nat → Int} {a b c d v : Int} : gx_up (pc_tx Z a b c d) 1 4 v = pc_tx Z v b c d := by
  unfold pc_tx
  rw [gx_up_us]
  refine congrArg (gx_us Z 1) (funext fun j => ?_)
  unfold gx_u1
  by_cases h : j = 4
  · rw [if_pos h, if_pos h]
  · simp only [if_neg h]
theorem pc_tx_u5 {Z : Nat → Nat → Int} {a b c d v : Int} : gx_up (pc_tx Z a b c d) 1 5 v = pc_tx Z a v c d := by
  unfold pc_tx
  rw [gx_up_us]
  refine congrArg (gx_us Z 1) (funext fun j => ?_)
  unfold gx_u1
  by_cases h : j = 5
  · subst h; rfl
  · simp only [if_neg h]
theorem pc_tx_u2 {Z : Nat → Nat → Int} {a b c d v : Int} : gx_up (pc_tx Z a b c d) 1 2 v = pc_tx Z a b v d := by
  unfold pc_tx
  rw [gx_up_us]
  refine congrArg (gx_us Z 1) (funext fun j => ?_)
  unfold gx_u1
  by_cases h : j = 2
  · subst h; rfl
  · simp only [if_neg h]
theorem pc_tx_u3 {Z : Nat → Nat → Int} {a b c d v : Int} : gx_up (pc_tx Z a b c d) 1 3 v = pc_tx Z a b c v := by
  unfold pc_tx
  rw [gx_up_us]
  refine congrArg (gx_us Z 1) (funext fun j => ?_)
  unfold gx_u1
  by_cases h : j = 3
  · subst h; rfl
  · simp only [if_neg h]
theorem pc_tx_id (Z : Nat → Nat → Int) : pc_tx Z (Z 1 4) (Z 1 5) (Z 1 2) (Z 1 3) = Z := by
  unfold pc_tx
  refine gx_us_id (funext fun j => ?_)
  by_cases h4 : j = 4
  · subst h4; rfl
  · by_cases h5 : j = 5
    · subst h5; rfl
    · by_cases h2 : j = 2
      · subst h2; rfl
      · by_cases h3 : j = 3
        · subst h3; rfl
        · rw [if_neg h4, if_neg h5, if_neg h2, if_neg h3]
/-- another cell changes beside -/
theorem pc_tx_up {Z : Nat → Nat → Int} {a b c d v : Int} {o i : Nat} (h : o ≠ 1) : gx_up (pc_tx Z a b c d) o i v = pc_tx (gx_up Z o i v) a b c d := by
  funext q
  by_cases e : q = 1
  · subst e
    rw [gx_up_ne (fun z => h z.symm)]
    unfold pc_tx
    rw [gx_us_eq, gx_us_eq, gx_up_ne (fun z => h z.symm)]
  · by_cases e2 : q = o
    · subst e2
      rw [pc_tx_o e]
      funext j
      rw [gx_up_at, gx_up_at, pc_tx_o e]
    · rw [gx_up_ne e2, pc_tx_o e, pc_tx_o e, gx_up_ne e2]
theorem pc_L1 : pc_L[1]? = some (10 + 3, 6) ∧ pc_L[2]? = some (0, 100) := by decide +kernel
theorem pc_r1 : pc_r 1 0 = 2 ∧ pc_r 1 1 = 0 ∧ pc_r 1 2 = 0 ∧ pc_r 1 3 = 0 ∧ pc_r 1 4 = 0 ∧ pc_r 1 5 = 0 := by decide +kernel
theorem pc_take38 (Z : Nat → Nat → Int) {p len : Nat} {b c d : Int} (hl : Z 1 1 = (len : Int)) (hl2 : len ≤ 100) (hp : p ≤ len) : fb_TX_take_38 (pc_h (pc_tx Z (p : Int) b c d)) 1 = some (if p < len then Z 2 p else -1, pc_h (pc_tx Z ((if p < len then p + 1 else p : Nat) : Int) (p : Int) c d)) := by
  obtain ⟨l1, l2⟩ := pc_L1
  obtain ⟨e0, e1, e2, e3, e4, e5⟩ := pc_r1
  unfold fb_TX_take_38
  rw [pc_get l1 (by decide) e4, pc_tx_4, pc_put trivial l1 (by decide) e5, pc_tx_u5, pc_get l1 (by decide) e4, pc_tx_4, pc_get l1 (by decide) e1, pc_tx_1, hl]
  by_cases h : p < len
  · rw [if_pos (by omega), if_pos h, if_pos h, pc_get l1 (by decide) e4, pc_tx_4, pc_put ⟨by omega, by omega⟩ l1 (by decide) e4, pc_tx_u4, pc_gr l1 (by decide) e0 (by decide), pc_get l1 (by decide) e5, pc_tx_5, pc_ald (i := p) l2 rfl (by omega), pc_tx_o (by decide)]
    rfl
  · rw [if_neg (by omega), if_neg h, if_neg h]
theorem pc_take (Z : Nat → Nat → Int) {p len : Nat} {b c d : Int} (hl : Z 1 1 = (len : Int)) (hl2 : len ≤ 100) (hp : p ≤ len) : f_TX_take (pc_h (pc_tx Z (p : Int) b c d)) 1 = some (if mu_sk (Z 2) len len p < len then Z 2 (mu_sk (Z 2) len len p) else -1, pc_h (pc_tx Z ((if mu_sk (Z 2) len len p < len then mu_sk (Z 2) len len p + 1 else mu_sk (Z 2) len len p : Nat) : Int) ((mu_sk (Z 2) len len p : Nat) : Int) c d)) := by
  obtain ⟨l1, l2⟩ := pc_L1
  obtain ⟨e0, e1, e2, e3, e4, e5⟩ := pc_r1
  have fu1 : ∀ fu, f_TX_take_0 (fu + 1) = fb_TX_take_0 (f_TX_take_0 fu) := fun _ => rfl
  have key : ∀ e p fu, p ≤ len → len ≤ p + e → e < fu → f_TX_take_0 fu (pc_h (pc_tx Z (p : Int) b c d)) 1 = fb_TX_take_38 (pc_h (pc_tx Z ((mu_sk (Z 2) len e p : Nat) : Int) b c d)) 1 := by
    intro e
    induction e with
    | zero =>
      intro p fu h1 h2 h3
      obtain ⟨f, rfl⟩ : ∃ f, fu = f + 1 := ⟨fu - 1, by omega⟩
      rw [fu1]
      unfold fb_TX_take_0
      rw [pc_get l1 (by decide) e4, pc_tx_4, pc_get l1 (by decide) e1, pc_tx_1, hl, if_neg (by omega)]
      rfl
    | succ e ih =>
      intro p fu h1 h2 h3
      obtain ⟨f, rfl⟩ : ∃ f, fu = f + 1 := ⟨fu - 1, by omega⟩
      rw [fu1]
      unfold fb_TX_take_0
      rw [pc_get l1 (by decide) e4, pc_tx_4, pc_get l1 (by decide) e1, pc_tx_1, hl]
      have es : mu_sk (Z 2) len (e + 1) p = if p < len ∧ Z 2 p = 32 then mu_sk (Z 2) len e (p + 1) else p := rfl
      by_cases h : p < len
      · rw [if_pos (by omega), pc_gr l1 (by decide) e0 (by decide), pc_get l1 (by decide) e4, pc_tx_4, pc_ald (i := p) l2 rfl (by omega), pc_tx_o (by decide)]
        by_cases hb : Z 2 p = 32
        · rw [if_pos hb, es, if_pos ⟨h, hb⟩, pc_get l1 (by decide) e4, pc_tx_4, pc_put ⟨by omega, by omega⟩ l1 (by decide) e4, pc_tx_u4]
          exact ih (p + 1) f (by omega) (by omega) (by omega)
        · rw [if_neg hb, es, if_neg (fun z => hb z.2)]
      · rw [if_neg (by omega), es, if_neg (fun z => h z.1)]
  unfold f_TX_take
  rw [key len p gx_fu hp (by omega) (show len < 1000000 by omega)]
  exact pc_take38 Z hl hl2 (mu_sk_le _ _ hp)
theorem pc_blame (Z : Nat → Nat → Int) {k : Nat} {a b c d v : Int} (hv : v = (k : Int)) (hk : k < 10) : f_TX_blame (pc_h (pc_tx Z a b c d)) 1 v = some (0, pc_h (pc_tx Z a b (k : Int) b)) := by
  subst hv
  obtain ⟨l1, l2⟩ := pc_L1
  obtain ⟨e0, e1, e2, e3, e4, e5⟩ := pc_r1
  unfold f_TX_blame
  rw [pc_put ⟨by omega, by omega⟩ l1 (by decide) e2, pc_tx_u2, pc_get l1 (by decide) e5, pc_tx_5, pc_put trivial l1 (by decide) e3, pc_tx_u3]
/-- the figure at q: its fault -/
def mu_ff (s : Nat → Int) (len q : Nat) (lo hi : Int) : Nat := if q < len ∧ 48 ≤ s q ∧ s q ≤ 57 then (if lo ≤ s q - 48 ∧ s q - 48 ≤ hi then 0 else 2) else 1
theorem pc_figure (Z : Nat → Nat → Int) {p len : Nat} {b c d lo hi : Int} (hl : Z 1 1 = (len : Int)) (hl2 : len ≤ 100) (hp : p ≤ len) (hs : ∀ q, q < len → 0 ≤ Z 2 q ∧ Z 2 q ≤ 255) (hlo : gx_i lo) (hhi : gx_i hi) (q : Nat) (hq : q = mu_sk (Z 2) len len p) :
    (mu_ff (Z 2) len q lo hi = 0 → f_TX_figure (pc_h (pc_tx Z (p : Int) b c d)) 1 lo hi = some (Z 2 q - 48, pc_h (pc_tx Z ((q + 1 : Nat) : Int) (q : Int) c d))) ∧
    (mu_ff (Z 2) len q lo hi ≠ 0 → ∃ a, f_TX_figure (pc_h (pc_tx Z (p : Int) b c d)) 1 lo hi = some (-1, pc_h (pc_tx Z a (q : Int) (mu_ff (Z 2) len q lo hi : Int) (q : Int)))) := by
  obtain ⟨l1, l2⟩ := pc_L1
  unfold f_TX_figure fb_TX_figure_17 fb_TX_figure_43
  rw [pc_cv l1, pc_take Z hl hl2 hp, ← hq, pl_call]
  have bl := fun (a c d v : Int) (k : Nat) (hv : v = (k : Int)) (hk : k < 10) => pc_blame Z (a := a) (b := (q : Int)) (c := c) (d := d) hv hk
  by_cases h : q < len
  · have hb := hs q h
    rw [if_pos h, if_pos h, pl_gi (by omega) (by omega)]
    by_cases c1 : Z 2 q < 48
    · have ef : mu_ff (Z 2) len q lo hi = 1 := by unfold mu_ff; rw [if_neg (by omega)]
      rw [if_pos c1, ef, pc_cv l1, bl _ _ _ 1 1 rfl (by decide), pl_call]
      exact ⟨fun z => absurd z (by decide), fun _ => ⟨_, rfl⟩⟩
    · rw [if_neg c1]
      by_cases c2 : 57 < Z 2 q
      · have ef : mu_ff (Z 2) len q lo hi = 1 := by unfold mu_ff; rw [if_neg (by omega)]
        rw [if_pos c2, ef, pc_cv l1, bl _ _ _ 1 1 rfl (by decide), pl_call]
        exact ⟨fun z => absurd z (by decide), fun _ => ⟨_, rfl⟩⟩
      · rw [if_neg c2, pl_gi (by omega) (by omega), gq_g_ok hlo]
        by_cases c3 : Z 2 q - 48 < lo
        · have ef : mu_ff (Z 2) len q lo hi = 2 := by unfold mu_ff; rw [if_pos (by omega), if_neg (by omega)]
          rw [if_pos c3, ef, pc_cv l1, bl _ _ _ 2 2 rfl (by decide), pl_call]
          exact ⟨fun z => absurd z (by decide), fun _ => ⟨_, rfl⟩⟩
        · rw [if_neg c3, gq_g_ok hhi]
          by_cases c4 : hi < Z 2 q - 48
          · have ef : mu_ff (Z 2) len q lo hi = 2 := by unfold mu_ff; rw [if_pos (by omega), if_neg (by omega)]
            rw [if_pos c4, ef, pc_cv l1, bl _ _ _ 2 2 rfl (by decide), pl_call]
            exact ⟨fun z => absurd z (by decide), fun _ => ⟨_, rfl⟩⟩
          · have ef : mu_ff (Z 2) len q lo hi = 0 := by unfold mu_ff; rw [if_pos (by omega), if_pos (by omega)]
            rw [if_neg c4]
            exact ⟨fun _ => rfl, fun z => absurd ef z⟩
  · have ef : mu_ff (Z 2) len q lo hi = 1 := by unfold mu_ff; rw [if_neg (by omega)]
    rw [if_neg h, if_neg h, pl_gi (by decide) (by decide), if_pos (by decide), ef, pc_cv l1, bl _ _ _ 1 1 rfl (by decide), pl_call]
    exact ⟨fun z => absurd z (by decide), fun _ => ⟨_, rfl⟩⟩
/-- the end of a clause -/
theorem pc_readEnd (Z : Nat → Nat → Int) {p len : Nat} {b c d : Int} (hl : Z 1 1 = (len : Int)) (hl2 : len ≤ 100) (hp : p ≤ len) (hs : ∀ q, q < len → 0 ≤ Z 2 q ∧ Z 2 q ≤ 255) (q : Nat) (hq : q = mu_sk (Z 2) len len p) :
    ((q < len ∧ Z 2 q = 59) → f_TX_readEnd (pc_h (pc_tx Z (p : Int) b c d)) 1 = some (1, pc_h (pc_tx Z ((q + 1 : Nat) : Int) (q : Int) c d))) ∧
    (¬ (q < len ∧ Z 2 q = 59) → ∃ a, f_TX_readEnd (pc_h (pc_tx Z (p : Int) b c d)) 1 = some (0, pc_h (pc_tx Z a (q : Int) 1 (q : Int)))) := by
  obtain ⟨l1, l2⟩ := pc_L1
  unfold f_TX_readEnd fb_TX_readEnd_17
  rw [pc_cv l1, pc_take Z hl hl2 hp, ← hq, pl_call]
  have bl := fun (a c d v : Int) (k : Nat) (hv : v = (k : Int)) (hk : k < 10) => pc_blame Z (a := a) (b := (q : Int)) (c := c) (d := d) hv hk
  by_cases h : q < len
  · have hb := hs q h
    rw [if_pos h, if_pos h, pl_gi (by omega) (by omega)]
    by_cases c1 : Z 2 q = 59
    · rw [if_pos c1]
      exact ⟨fun _ => rfl, fun z => absurd ⟨h, c1⟩ z⟩
    · rw [if_neg c1, pc_cv l1, bl _ _ _ 1 1 rfl (by decide), pl_call, pl_gi (by decide) (by decide), if_pos (show (0 : Int) = 0 from rfl)]
      exact ⟨fun z => absurd z.2 c1, fun _ => ⟨_, rfl⟩⟩
  · rw [if_neg h, if_neg h, pl_gi (by decide) (by decide), if_neg (by decide), pc_cv l1, bl _ _ _ 1 1 rfl (by decide), pl_call, pl_gi (by decide) (by decide), if_pos (show (0 : Int) = 0 from rfl)]
    exact ⟨fun z => absurd z.1 h, fun _ => ⟨_, rfl⟩⟩
