/-! the reference walks: stands laid down, taken up, compared -/
theorem pl_inv2 {σ α : Type} {A : Nat → Nat → σ → α} {Bf : Nat → Nat → Nat → Nat → σ → α} {out : σ → α} {Q : Nat → Nat → σ → Prop} (n m : Nat) (hn : n < 1000000) (hm : m < 1000000)
    (ho : ∀ i, i < n → ∀ s, Q i 0 s → ∀ fu, A (fu + 1) i s = Bf fu gx_fu i 0 s)
    (hi : ∀ i, i < n → ∀ j, j < m → ∀ s, Q i j s → ∀ fu gu, ∃ s', Q i (j + 1) s' ∧ Bf fu (gu + 1) i j s = Bf fu gu i (j + 1) s')
    (hr : ∀ i, i < n → ∀ s, Q i m s → Q (i + 1) 0 s ∧ ∀ fu gu, Bf fu (gu + 1) i m s = A fu (i + 1) s)
    (he : ∀ s, Q n 0 s → ∀ fu, A (fu + 1) n s = out s) (s0 : σ) (h0 : Q 0 0 s0) : ∃ s, Q n 0 s ∧ A gx_fu 0 s0 = out s := by
  refine pl_inv (Q := fun i s => Q i 0 s) n hn (fun i hi' s hs fu => ?_) (fun fu s hs => he s hs fu) s0 h0
  obtain ⟨s', h1, h2⟩ := pl_inv (A := fun gu j s => Bf fu gu i j s) (out := fun s => A fu (i + 1) s) (Q := fun j s => Q i j s) m hm (fun j hj s hs gu => hi i hi' j hj s hs fu gu) (fun gu s hs => (hr i hi' s hs).2 fu gu) s hs
  exact ⟨s', (hr i hi' s' h1).1, (ho i hi' s hs fu).trans h2⟩
/-- a stand as it lies -/
def wl_nd (X : Nat → Nat → Int) (s : Nat) : st_t := (fun p q => X 7 (16 * s + 4 * p + q), fun p q => X 8 (16 * s + 4 * p + q))
theorem pm_unlay (X : Nat → Nat → Int) {n s : Nat} {a : Int} (hn : X 0 1 = (n : Int)) (hn4 : n ≤ 4) (ha : a = (s : Int)) (hs : s < 200) : ∃ Y, f_MD_unlay (pm_h X) 0 a = some (0, pm_h Y) ∧ (∀ o, o ≠ 1 → Y o = X o) ∧ (∀ q, q < 1928 → Y 1 q = X 1 q) ∧ mu_q n (pm_T Y 1928) (wl_nd X s).1 ∧ mu_q n (pm_T Y 1944) (wl_nd X s).2 := by
  subst ha
  unfold f_MD_unlay
  have hh := pl_inv2 (A := fun fu i Y => f_MD_unlay_2 fu (pm_h Y) 0 (s : Int) (i : Int)) (Bf := fun fu gu i j Y => f_MD_unlay_12 (f_MD_unlay_2 fu) gu (pm_h Y) 0 (s : Int) (i : Int) (j : Int)) (out := fun Y => some (0, pm_h Y)) (Q := fun i j Y => (∀ o, o ≠ 1 → Y o = X o) ∧ (∀ q, q < 1928 → Y 1 q = X 1 q) ∧ ∀ r c, r < n → c < n → mu_to n i j r c → Y 1 (1928 + 4 * r + c) = X 7 (16 * s + 4 * r + c) ∧ Y 1 (1944 + 4 * r + c) = X 8 (16 * s + 4 * r + c)) n n (by omega) (by omega) (fun i hi Y hQ fu => ?_) (fun i hi j hj Y hQ fu gu => ?_) (fun i hi Y hQ => ⟨⟨hQ.1, hQ.2.1, fun r c hr hc ht => hQ.2.2 r c hr hc (by unfold mu_to at *; omega)⟩, fun fu gu => ?_⟩) (fun Y hQ fu => ?_) X ⟨fun _ _ => rfl, fun _ _ => rfl, fun r c _ _ h => by unfold mu_to at h; omega⟩
  · obtain ⟨Y, ⟨q1, q2, q3⟩, e⟩ := hh
    exact ⟨Y, e, q1, q2, fun i hi j hj => (q3 i j hi hj (Or.inl ⟨hi, hj⟩)).1, fun i hi j hj => (q3 i j hi hj (Or.inl ⟨hi, hj⟩)).2⟩
  · have y1 : Y 0 1 = (n : Int) := by rw [hQ.1 0 (by decide)]; exact hn
    show fb_MD_unlay_2 (f_MD_unlay_2 fu) _ _ _ _ = _
    unfold fb_MD_unlay_2
    rw [pm_get (by decide) rfl, y1, pl_gi (by omega) (by omega), if_pos (by omega)]
    rfl
  · have y1 : Y 0 1 = (n : Int) := by rw [hQ.1 0 (by decide)]; exact hn
    show ∃ s', _ ∧ fb_MD_unlay_12 (f_MD_unlay_2 fu) (f_MD_unlay_12 (f_MD_unlay_2 fu) gu) _ _ _ _ _ = _
    unfold fb_MD_unlay_12
    rw [pm_get (by decide) rfl, y1, pl_gi (by omega) (by omega), if_pos (by omega), pm_gr (t := 1) (by decide) rfl (by decide), pm_gr (t := 7) (by decide) rfl (by decide), pm_ald (o := 7) (i := 16 * s + 4 * i + j) (by omega) (by show _ < 3200; omega), pm_ast (o := 1) (i := 1928 + 4 * i + j) trivial (by omega) (by show _ < 2000; omega), pm_gr (t := 1) (by decide) rfl (by decide), pm_gr (t := 8) (by decide) rfl (by decide), pm_ald (o := 8) (i := 16 * s + 4 * i + j) (by omega) (by show _ < 3200; omega), pm_ast (o := 1) (i := 1944 + 4 * i + j) trivial (by omega) (by show _ < 2000; omega), gx_up_ne (o' := 8) (by decide), hQ.1 7 (by decide), hQ.1 8 (by decide)]
    refine ⟨_, ⟨fun o ho => ?_, fun q hq => ?_, fun r c hr hc ht => ?_⟩, rfl⟩
    · rw [gx_up_ne ho, gx_up_ne ho]; exact hQ.1 o ho
    · rw [gx_up_at, if_neg (by omega), gx_up_at, if_neg (by omega)]; exact hQ.2.1 q hq
    · rw [gx_up_at, gx_up_at, gx_up_at, gx_up_at]
      by_cases e : r = i ∧ c = j
      · obtain ⟨e1, e2⟩ := e
        subst e1 e2
        rw [if_neg (by omega), if_pos rfl, if_pos rfl]
        exact ⟨rfl, rfl⟩
      · rw [if_neg (by omega), if_neg (by omega), if_neg (by omega), if_neg (by omega)]
        exact hQ.2.2 r c hr hc (by unfold mu_to at *; omega)
  · have y1 : Y 0 1 = (n : Int) := by rw [hQ.1 0 (by decide)]; exact hn
    show fb_MD_unlay_12 (f_MD_unlay_2 fu) (f_MD_unlay_12 (f_MD_unlay_2 fu) gu) _ _ _ _ _ = _
    unfold fb_MD_unlay_12
    rw [pm_get (by decide) rfl, y1, pl_gi (by omega) (by omega), if_neg (by omega)]
    rfl
  · have y1 : Y 0 1 = (n : Int) := by rw [hQ.1 0 (by decide)]; exact hn
    show fb_MD_unlay_2 (f_MD_unlay_2 fu) _ _ _ _ = _
    unfold fb_MD_unlay_2
    rw [pm_get (by decide) rfl, y1, pl_gi (by omega) (by omega), if_neg (by omega)]
/-- all products but -3 and above -/
abbrev mu_Mi (n : Nat) (B : Nat → Nat → Int) : Prop := ∀ i, i < n → ∀ j, j < n → ¬ B i j * B j i < -3
theorem mu_Mi_iff {n : Nat} {B : Nat → Nat → Int} : mu_Mi n B ↔ mu_mi n B := by
  constructor
  · exact fun h i hi j hj => h i hi j (by omega)
  · intro h i hi j hj
    rcases Nat.lt_trichotomy i j with c | c | c
    · rw [Int.mul_comm]
      exact h j hj i c
    · subst c
      have : 0 ≤ B i i * B i i := by
        rcases Int.le_total 0 (B i i) with q | q
        · exact Int.mul_nonneg q q
        · exact Int.mul_nonneg_of_nonpos_of_nonpos q q
      omega
    · exact h i hi j c
theorem mu_prod_i {x y : Int} (hx : mu_in x) (hy : mu_in y) : gx_i (x * y) := by
  have := mu_mul (x := x) (y := y) 99 99 (by omega) (by omega) (by omega) (by omega)
  constructor <;> omega
set_option maxHeartbeats 2000000 in
theorem pm_layStand (X : Nat → Nat → Int) {n x s : Nat} {a b : Int} (hn : X 0 1 = (n : Int)) (hn4 : n ≤ 4) (hn2 : 2 ≤ n) (ha : a = (x : Int)) (hb : b = (s : Int)) (hx : x + 80 ≤ 2000) (hs : s < 200) (hB : mu_bd n (pm_T X (x + 8))) :
    ∃ (fl : Int) (Y : Nat → Nat → Int), f_MD_layStand (pm_h X) 0 a b = some (fl, pm_h Y) ∧ (fl = 0 ∨ fl = 1) ∧ (fl = 1 ↔ mu_mi n (st_cn n (pm_T X (x + 8), pm_T X (x + 24))).1) ∧ (∀ o, o ≠ 7 → o ≠ 8 → Y o = X o) ∧ (∀ q, (q < 16 * s ∨ 16 * s + 16 ≤ q) → Y 7 q = X 7 q ∧ Y 8 q = X 8 q) ∧ st_E n (wl_nd Y s) (st_cn n (pm_T X (x + 8), pm_T X (x + 24))) := by
  subst ha hb
  unfold f_MD_layStand
  generalize hc : st_cn n (pm_T X (x + 8), pm_T X (x + 24)) = cn
  have c1 : ∀ p q, cn.1 p q = pm_T X (x + 8) (mu_rk n (pm_T X (x + 24)) p) (mu_rk n (pm_T X (x + 24)) q) := fun p q => by rw [← hc]; rfl
  have c2 : ∀ p q, cn.2 p q = pm_T X (x + 24) (mu_rk n (pm_T X (x + 24)) p) q := fun p q => by rw [← hc]; rfl
  have rl : ∀ p, mu_rk n (pm_T X (x + 24)) p < n := fun p => mu_rk_lt n _ _ (by omega)
  generalize hrk : mu_rk n (pm_T X (x + 24)) = rk at c1 c2 rl
  have hh := pl_inv2 (σ := Int × (Nat → Nat → Int)) (A := fun fu i S => f_MD_layStand_5 fu (pm_h S.2) 0 (x : Int) (s : Int) S.1 (i : Int)) (Bf := fun fu gu i j S => f_MD_layStand_26 (f_MD_layStand_5 fu) gu (pm_h S.2) 0 (x : Int) (s : Int) S.1 (i : Int) (rk i : Int) (j : Int)) (out := fun S => some (S.1, pm_h S.2))
    (Q := fun i j S => (S.1 = 0 ∨ S.1 = 1) ∧ (S.1 = 1 ↔ ∀ r c, r < n → c < n → mu_to n i j r c → ¬ cn.1 r c * cn.1 c r < -3) ∧ (∀ o, o ≠ 7 → o ≠ 8 → S.2 o = X o) ∧ (∀ q, (q < 16 * s ∨ 16 * s + 16 ≤ q) → S.2 7 q = X 7 q ∧ S.2 8 q = X 8 q) ∧ ∀ r c, r < n → c < n → mu_to n i j r c → S.2 7 (16 * s + 4 * r + c) = cn.1 r c ∧ S.2 8 (16 * s + 4 * r + c) = cn.2 r c) n n (by omega) (by omega) (fun i hi S hQ fu => ?_) (fun i hi j hj S hQ fu gu => ?_) (fun i hi S hQ => ⟨⟨hQ.1, hQ.2.1.trans ⟨fun h r c hr hc ht => h r c hr hc (by unfold mu_to at *; omega), fun h r c hr hc ht => h r c hr hc (by unfold mu_to at *; omega)⟩, hQ.2.2.1, hQ.2.2.2.1, fun r c hr hc ht => hQ.2.2.2.2 r c hr hc (by unfold mu_to at *; omega)⟩, fun fu gu => ?_⟩) (fun S hQ fu => ?_) (1, X) ⟨Or.inr rfl, ⟨fun _ r c _ _ h => by unfold mu_to at h; omega, fun _ => rfl⟩, fun _ _ _ => rfl, fun _ _ => ⟨rfl, rfl⟩, fun r c _ _ h => by unfold mu_to at h; omega⟩
  · obtain ⟨⟨fl, Y⟩, ⟨q0, q1, q2, q3, q4⟩, e⟩ := hh
    refine ⟨fl, Y, e, q0, q1.trans ?_, q2, q3, fun i hi j hj => (q4 i j hi hj (Or.inl ⟨hi, hj⟩)).1, fun i hi j hj => (q4 i j hi hj (Or.inl ⟨hi, hj⟩)).2⟩
    exact ⟨fun h => mu_Mi_iff.mp fun i hi j hj => h i j hi hj (Or.inl ⟨hi, hj⟩), fun h r c hr hc _ => mu_Mi_iff.mpr h r hr c hc⟩
  · obtain ⟨fl, Y⟩ := S
    have y1 : Y 0 1 = (n : Int) := (congrFun (hQ.2.2.1 0 (by decide) (by decide)) 1).trans hn
    have e7 : Y 1 = X 1 := hQ.2.2.1 1 (by decide) (by decide)
    have yT : pm_T Y (x + 24) = pm_T X (x + 24) := by unfold pm_T; rw [e7]
    show fb_MD_layStand_5 (f_MD_layStand_5 fu) (pm_h Y) _ _ _ _ _ = _
    unfold fb_MD_layStand_5
    rw [pm_get (by decide) rfl, y1, pl_gi (by omega) (by omega), if_pos (by omega), pm_cv, pm_rankedAt Y (x := x) (p := i) y1 hn4 rfl rfl (by omega) hx, pl_call, yT, hrk]
    rfl
  · obtain ⟨fl, Y⟩ := S
    have y1 : Y 0 1 = (n : Int) := (congrFun (hQ.2.2.1 0 (by decide) (by decide)) 1).trans hn
    have e7 : Y 1 = X 1 := hQ.2.2.1 1 (by decide) (by decide)
    have yT : pm_T Y (x + 24) = pm_T X (x + 24) := by unfold pm_T; rw [e7]
    have ri := rl i
    have rj := rl j
    have v7 : Y 1 (x + 8 + 4 * rk i + rk j) = cn.1 i j := by rw [e7, c1]; rfl
    have b1 : mu_in (cn.1 i j) := by rw [c1]; exact hB _ ri _ rj
    have b2 : mu_in (cn.1 j i) := by rw [c1]; exact hB _ rj _ ri
    show ∃ s', _ ∧ fb_MD_layStand_26 (f_MD_layStand_5 fu) (f_MD_layStand_26 (f_MD_layStand_5 fu) gu) (pm_h Y) _ _ _ _ _ _ _ = _
    unfold fb_MD_layStand_26
    rw [pm_get (by decide) rfl, y1, pl_gi (by omega) (by omega), if_pos (by omega), pm_cv, pm_rankedAt Y (x := x) (p := j) y1 hn4 rfl rfl (by omega) hx, pl_call, yT, hrk, pm_gr (t := 7) (by decide) rfl (by decide), pm_cv, pm_b Y (x := x) (i := rk i) (j := rk j) rfl rfl rfl (by omega), pl_call, v7, pm_ast (o := 7) (i := 16 * s + 4 * i + j) ⟨by omega, by omega⟩ (by omega) (by show _ < 3200; omega), pm_gr (t := 8) (by decide) rfl (by decide), pm_gr (t := 1) (by decide) rfl (by decide), pm_ald (o := 1) (i := x + 24 + 4 * rk i + j) (by omega) (by show _ < 2000; omega), gx_up_ne (o' := 1) (by decide), e7, pm_ast (o := 8) (i := 16 * s + 4 * i + j) trivial (by omega) (by show _ < 3200; omega)]
    have v8 : X 1 (x + 24 + 4 * rk i + j) = cn.2 i j := by rw [c2]; rfl
    rw [v8]
    generalize hW : gx_up (gx_up Y 7 (16 * s + 4 * i + j) (cn.1 i j)) 8 (16 * s + 4 * i + j) (cn.2 i j) = W
    have w7 : ∀ q, W 7 q = if q = 16 * s + 4 * i + j then cn.1 i j else Y 7 q := fun q => by rw [← hW, gx_up_ne (by decide), gx_up_at]
    have w8 : ∀ q, W 8 q = if q = 16 * s + 4 * i + j then cn.2 i j else Y 8 q := fun q => by rw [← hW, gx_up_at, gx_up_ne (by decide)]
    have wo : ∀ o, o ≠ 7 → o ≠ 8 → W o = X o := fun o a b => by rw [← hW, gx_up_ne b, gx_up_ne a]; exact hQ.2.2.1 o a b
    have w1 : W 1 = X 1 := wo 1 (by decide) (by decide)
    have h3 : ∀ q, (q < 16 * s ∨ 16 * s + 16 ≤ q) → W 7 q = X 7 q ∧ W 8 q = X 8 q := fun q hq => by
      rw [w7, w8, if_neg (by omega), if_neg (by omega)]; exact hQ.2.2.2.1 q hq
    have h4 : ∀ r c, r < n → c < n → mu_to n i (j + 1) r c → W 7 (16 * s + 4 * r + c) = cn.1 r c ∧ W 8 (16 * s + 4 * r + c) = cn.2 r c := fun r c hr hc ht => by
      rw [w7, w8]
      by_cases e : r = i ∧ c = j
      · obtain ⟨e1, e2⟩ := e
        subst e1 e2
        rw [if_pos rfl, if_pos rfl]
        exact ⟨rfl, rfl⟩
      · rw [if_neg (by omega), if_neg (by omega)]
        exact hQ.2.2.2.2 r c hr hc (by unfold mu_to at *; omega)
    have f1 : fl = 0 ∨ fl = 1 := hQ.1
    have f2 : fl = 1 ↔ ∀ r c, r < n → c < n → mu_to n i j r c → ¬ cn.1 r c * cn.1 c r < -3 := hQ.2.1
    have stp : (∀ r c, r < n → c < n → mu_to n i (j + 1) r c → ¬ cn.1 r c * cn.1 c r < -3) ↔ (∀ r c, r < n → c < n → mu_to n i j r c → ¬ cn.1 r c * cn.1 c r < -3) ∧ ¬ cn.1 i j * cn.1 j i < -3 := by
      constructor
      · exact fun h => ⟨fun r c hr hc ht => h r c hr hc (by unfold mu_to at *; omega), h i j hi hj (by unfold mu_to; omega)⟩
      · rintro ⟨h, h'⟩ r c hr hc ht
        by_cases e : r = i ∧ c = j
        · obtain ⟨e1, e2⟩ := e
          subst e1 e2
          exact h'
        · exact h r c hr hc (by unfold mu_to at *; omega)
    rw [pl_gi (by omega) (by omega)]
    by_cases z : fl = 0
    · rw [if_pos z]
      refine ⟨(0, W), ⟨Or.inl rfl, ⟨fun q : (0 : Int) = 1 => absurd q (by decide), fun q => ?_⟩, wo, h3, h4⟩, rfl⟩
      have := f2.mpr (stp.mp q).1
      omega
    · rw [if_neg z, pm_cv, pm_b W (x := x) (i := rk i) (j := rk j) rfl rfl rfl (by omega), pl_call, pm_cv, pm_b W (x := x) (i := rk j) (j := rk i) rfl rfl rfl (by omega), pl_call, w1]
      have u1 : X 1 (x + 8 + 4 * rk i + rk j) = cn.1 i j := by rw [c1]; rfl
      have u2 : X 1 (x + 8 + 4 * rk j + rk i) = cn.1 j i := by rw [c1]; rfl
      rw [u1, u2, gq_g_ok (mu_prod_i b1 b2)]
      have z1 : fl = 1 := by omega
      by_cases y : cn.1 i j * cn.1 j i < -3
      · rw [if_pos y]
        exact ⟨(0, W), ⟨Or.inl rfl, ⟨fun q : (0 : Int) = 1 => absurd q (by decide), fun q => absurd y (stp.mp q).2⟩, wo, h3, h4⟩, rfl⟩
      · rw [if_neg y]
        exact ⟨(1, W), ⟨Or.inr rfl, ⟨fun _ => stp.mpr ⟨f2.mp z1, y⟩, fun _ => rfl⟩, wo, h3, h4⟩, rfl⟩
  · obtain ⟨fl, Y⟩ := S
    have y1 : Y 0 1 = (n : Int) := (congrFun (hQ.2.2.1 0 (by decide) (by decide)) 1).trans hn
    show fb_MD_layStand_26 (f_MD_layStand_5 fu) (f_MD_layStand_26 (f_MD_layStand_5 fu) gu) (pm_h Y) _ _ _ _ _ _ _ = _
    unfold fb_MD_layStand_26
    rw [pm_get (by decide) rfl, y1, pl_gi (by omega) (by omega), if_neg (by omega)]
    rfl
  · obtain ⟨fl, Y⟩ := S
    have y1 : Y 0 1 = (n : Int) := (congrFun (hQ.2.2.1 0 (by decide) (by decide)) 1).trans hn
    show fb_MD_layStand_5 (f_MD_layStand_5 fu) (pm_h Y) _ _ _ _ _ = _
    unfold fb_MD_layStand_5
    rw [pm_get (by decide) rfl, y1, pl_gi (by omega) (by omega), if_neg (by omega)]
    have f1 : fl = 0 ∨ fl = 1 := hQ.1
    exact gq_g_ok f1
theorem pm_isSame (X : Nat → Nat → Int) {n s r : Nat} {a b : Int} (hn : X 0 1 = (n : Int)) (hn4 : n ≤ 4) (ha : a = (s : Int)) (hb : b = (r : Int)) (hs : s < 200) (hr : r < 200) : (st_E n (wl_nd X s) (wl_nd X r) → f_MD_isSame (pm_h X) 0 a b = some (1, pm_h X)) ∧ (¬ st_E n (wl_nd X s) (wl_nd X r) → f_MD_isSame (pm_h X) 0 a b = some (0, pm_h X)) := by
  subst ha hb
  unfold f_MD_isSame
  have h := pl_srch0 (A := fun fu i => f_MD_isSame_2 fu (pm_h X) 0 (s : Int) (r : Int) (i : Int)) (out := some ((1 : Int), pm_h X)) (bad := some (0, pm_h X)) n (by omega) (fun i => ∀ j, j < n → (wl_nd X s).1 i j = (wl_nd X r).1 i j ∧ (wl_nd X s).2 i j = (wl_nd X r).2 i j) (fun i hi fu => ?_) (fun fu => ?_)
  · have e : st_E n (wl_nd X s) (wl_nd X r) ↔ ∀ i, i < n → ∀ j, j < n → (wl_nd X s).1 i j = (wl_nd X r).1 i j ∧ (wl_nd X s).2 i j = (wl_nd X r).2 i j :=
      ⟨fun z i hi j hj => ⟨z.1 i hi j hj, z.2 i hi j hj⟩, fun z => ⟨fun i hi j hj => (z i hi j hj).1, fun i hi j hj => (z i hi j hj).2⟩⟩
    constructor
    · intro z
      exact h.trans (if_pos (e.mp z))
    · intro z
      exact h.trans (if_neg fun q => z (e.mpr q))
  · show fb_MD_isSame_2 (f_MD_isSame_2 fu) _ _ _ _ _ = _
    unfold fb_MD_isSame_2
    rw [pm_get (by decide) rfl, hn, pl_gi (by omega) (by omega), if_pos (by omega)]
    refine pl_srch0 (A := fun gu j => f_MD_isSame_13 (f_MD_isSame_2 fu) gu (pm_h X) 0 (s : Int) (r : Int) (i : Int) (j : Int)) n (by omega) (fun j => (wl_nd X s).1 i j = (wl_nd X r).1 i j ∧ (wl_nd X s).2 i j = (wl_nd X r).2 i j) (fun j hj gu => ?_) (fun gu => ?_)
    · show fb_MD_isSame_13 (f_MD_isSame_2 fu) (f_MD_isSame_13 (f_MD_isSame_2 fu) gu) _ _ _ _ _ _ = _
      unfold fb_MD_isSame_13
      rw [pm_get (by decide) rfl, hn, pl_gi (by omega) (by omega), if_pos (by omega), pm_gr (t := 7) (by decide) rfl (by decide), pm_ald (o := 7) (i := 16 * s + 4 * i + j) (by omega) (by show _ < 3200; omega), pm_gr (t := 7) (by decide) rfl (by decide), pm_ald (o := 7) (i := 16 * r + 4 * i + j) (by omega) (by show _ < 3200; omega), pm_gr (t := 8) (by decide) rfl (by decide), pm_ald (o := 8) (i := 16 * s + 4 * i + j) (by omega) (by show _ < 3200; omega), pm_gr (t := 8) (by decide) rfl (by decide), pm_ald (o := 8) (i := 16 * r + 4 * i + j) (by omega) (by show _ < 3200; omega)]
      show (if (wl_nd X s).1 i j = (wl_nd X r).1 i j then if (wl_nd X s).2 i j = (wl_nd X r).2 i j then _ else _ else _) = _
      by_cases h1 : (wl_nd X s).1 i j = (wl_nd X r).1 i j
      · rw [if_pos h1]
        by_cases h2 : (wl_nd X s).2 i j = (wl_nd X r).2 i j
        · rw [if_pos h2, if_pos ⟨h1, h2⟩]
          rfl
        · rw [if_neg h2, if_neg fun z => h2 z.2]
      · rw [if_neg h1, if_neg fun z => h1 z.1]
    · show fb_MD_isSame_13 (f_MD_isSame_2 fu) (f_MD_isSame_13 (f_MD_isSame_2 fu) gu) _ _ _ _ _ _ = _
      unfold fb_MD_isSame_13
      rw [pm_get (by decide) rfl, hn, pl_gi (by omega) (by omega), if_neg (by omega)]
      rfl
  · show fb_MD_isSame_2 (f_MD_isSame_2 fu) _ _ _ _ _ = _
    unfold fb_MD_isSame_2
    rw [pm_get (by decide) rfl, hn, pl_gi (by omega) (by omega), if_neg (by omega)]
theorem pm_find (X : Nat → Nat → Int) {n s : Nat} {a : Int} (hn : X 0 1 = (n : Int)) (hn4 : n ≤ 4) (ha : a = (s : Int)) (hs : s < 200) : ∃ r : Nat, f_MD_find (pm_h X) 0 a = some ((r : Int), pm_h X) ∧ ((r < s ∧ st_E n (wl_nd X s) (wl_nd X r)) ∨ (r = s ∧ ∀ t, t < s → ¬ st_E n (wl_nd X s) (wl_nd X t))) := by
  subst ha
  have h := pl_find (A := fun fu i => f_MD_find_2 fu (pm_h X) 0 (s : Int) (i : Int)) (out := some ((s : Int), pm_h X)) (bad := fun e => some ((e : Int), pm_h X)) s (by omega) (fun t => ¬ st_E n (wl_nd X s) (wl_nd X t)) (fun i hi fu => ?_) (fun fu => ?_)
  · rcases mu_least (P := fun t => st_E n (wl_nd X s) (wl_nd X t)) s with q | ⟨r, hr, he, hl⟩
    · exact ⟨s, h.1 q, Or.inr ⟨rfl, q⟩⟩
    · exact ⟨r, h.2 r hr (fun z => z he) hl, Or.inl ⟨hr, he⟩⟩
  · have e := pm_isSame X hn hn4 (s := s) (r := i) rfl rfl hs (by omega)
    show (_ → fb_MD_find_2 (f_MD_find_2 fu) _ _ _ _ = _) ∧ (_ → fb_MD_find_2 (f_MD_find_2 fu) _ _ _ _ = _)
    unfold fb_MD_find_2
    rw [pl_gi (by omega) (by omega), pl_gi (by omega) (by omega), if_pos (by omega), pm_cv]
    constructor
    · intro z
      rw [e.2 z, pl_call, pl_gi (by decide) (by decide), if_pos rfl]
      rfl
    · intro z
      rw [e.1 (Classical.byContradiction z), pl_call, pl_gi (by decide) (by decide), if_neg (by decide)]
  · show fb_MD_find_2 (f_MD_find_2 fu) _ _ _ _ = _
    unfold fb_MD_find_2
    rw [pl_gi (by omega) (by omega), pl_gi (by omega) (by omega), if_neg (by omega)]
