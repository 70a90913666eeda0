/-! the reference walks: leads -/
theorem pm_leadBack_in (X : Nat → Nat → Int) {n s k r : Nat} (hn : X 0 1 = (n : Int)) (hn4 : n ≤ 4) (hn2 : 2 ≤ n) (hs : s < 200) (hk : k < 4) (hr : r < 200) (hB : mu_bd n (pm_T X 1928)) (fu : Nat) :
    (st_E n (wl_nd X r) (st_cn n (pm_T X 1928, pm_T X 1944)) → f_MD_leadBack_15 (f_MD_leadBack_2 fu) gx_fu (pm_h X) 0 (s : Int) (k : Int) (r : Int) 1 0 = some (1, pm_h (gx_up X 9 (4 * s + k) (r : Int)))) ∧
    (¬ st_E n (wl_nd X r) (st_cn n (pm_T X 1928, pm_T X 1944)) → f_MD_leadBack_15 (f_MD_leadBack_2 fu) gx_fu (pm_h X) 0 (s : Int) (k : Int) (r : Int) 1 0 = f_MD_leadBack_2 fu (pm_h X) 0 (s : Int) (k : Int) ((r + 1 : Nat) : Int)) := by
  generalize hc : st_cn n (pm_T X 1928, pm_T X 1944) = cn
  have c1 : ∀ p q, cn.1 p q = pm_T X 1928 (mu_rk n (pm_T X 1944) p) (mu_rk n (pm_T X 1944) q) := fun p q => by rw [← hc]; rfl
  have c2 : ∀ p q, cn.2 p q = pm_T X 1944 (mu_rk n (pm_T X 1944) p) q := fun p q => by rw [← hc]; rfl
  have rl : ∀ p, mu_rk n (pm_T X 1944) p < n := fun p => mu_rk_lt n _ _ (by omega)
  have rr : ∀ p, p < n → f_MD_rankedAt (pm_h X) 0 1920 (p : Int) = some ((mu_rk n (pm_T X 1944) p : Int), pm_h X) := fun p hp => pm_rankedAt X (x := 1920) (p := p) hn hn4 rfl rfl (by omega) (by decide)
  generalize hrk : mu_rk n (pm_T X 1944) = rk at c1 c2 rl rr
  have hh := pl_inv2 (σ := Int) (A := fun fu' i fl => f_MD_leadBack_15 (f_MD_leadBack_2 fu) fu' (pm_h X) 0 (s : Int) (k : Int) (r : Int) fl (i : Int)) (Bf := fun fu' gu i j fl => f_MD_leadBack_38 (f_MD_leadBack_2 fu) (f_MD_leadBack_15 (f_MD_leadBack_2 fu) fu') gu (pm_h X) 0 (s : Int) (k : Int) (r : Int) fl (i : Int) (rk i : Int) (j : Int)) (out := fun fl => if fl = 0 then f_MD_leadBack_2 fu (pm_h X) 0 (s : Int) (k : Int) ((r : Int) + 1) else some (1, pm_h (gx_up X 9 (4 * s + k) (r : Int))))
    (Q := fun i j fl => (fl = 0 ∨ fl = 1) ∧ (fl = 1 ↔ ∀ a c, a < n → c < n → mu_to n i j a c → (wl_nd X r).1 a c = cn.1 a c ∧ (wl_nd X r).2 a c = cn.2 a c)) n n (by omega) (by omega) (fun i hi fl hQ fu' => ?_) (fun i hi j hj fl hQ fu' gu => ?_) (fun i hi fl hQ => ⟨⟨hQ.1, hQ.2.trans ⟨fun h a c ha hc ht => h a c ha hc (by unfold mu_to at *; omega), fun h a c ha hc ht => h a c ha hc (by unfold mu_to at *; omega)⟩⟩, fun fu' gu => ?_⟩) (fun fl hQ fu' => ?_) 1 ⟨Or.inr rfl, ⟨fun _ a c _ _ h => by unfold mu_to at h; omega, fun _ => rfl⟩⟩
  · obtain ⟨fl, ⟨q1, q2⟩, e⟩ := hh
    have e' : f_MD_leadBack_15 (f_MD_leadBack_2 fu) gx_fu (pm_h X) 0 (s : Int) (k : Int) (r : Int) 1 0 = if fl = 0 then f_MD_leadBack_2 fu (pm_h X) 0 (s : Int) (k : Int) ((r : Int) + 1) else some (1, pm_h (gx_up X 9 (4 * s + k) (r : Int))) := e
    have key : fl = 1 ↔ st_E n (wl_nd X r) cn := q2.trans ⟨fun z => ⟨fun i hi j hj => (z i j hi hj (Or.inl ⟨hi, hj⟩)).1, fun i hi j hj => (z i j hi hj (Or.inl ⟨hi, hj⟩)).2⟩, fun z a c ha hc _ => ⟨z.1 a ha c hc, z.2 a ha c hc⟩⟩
    constructor
    · intro z
      rw [e', if_neg (by have := key.mpr z; omega)]
    · intro z
      rw [e', if_pos (by rcases q1 with q | q; exact q; exact absurd (key.mp q) z)]
      rfl
  · show fb_MD_leadBack_15 (f_MD_leadBack_2 fu) (f_MD_leadBack_15 (f_MD_leadBack_2 fu) fu') _ _ _ _ _ _ _ = _
    unfold fb_MD_leadBack_15
    rw [pm_get (by decide) rfl, hn, pl_gi (by omega) (by omega), if_pos (by omega), pm_cv, rr i hi, pl_call]
    rfl
  · have ri := rl i
    have rj := rl j
    have b1 : mu_in (cn.1 i j) := by rw [c1]; exact hB _ ri _ rj
    have v1 : X 1 (1920 + 8 + 4 * rk i + rk j) = cn.1 i j := by rw [c1]; rfl
    have v2 : X 1 (1944 + 4 * rk i + j) = cn.2 i j := by rw [c2]; rfl
    have q1 := hQ.1
    have stp : (∀ a c, a < n → c < n → mu_to n i (j + 1) a c → (wl_nd X r).1 a c = cn.1 a c ∧ (wl_nd X r).2 a c = cn.2 a c) ↔ (∀ a c, a < n → c < n → mu_to n i j a c → (wl_nd X r).1 a c = cn.1 a c ∧ (wl_nd X r).2 a c = cn.2 a c) ∧ ((wl_nd X r).1 i j = cn.1 i j ∧ (wl_nd X r).2 i j = cn.2 i j) := by
      constructor
      · exact fun h => ⟨fun a c ha hc ht => h a c ha hc (by unfold mu_to at *; omega), h i j hi hj (by unfold mu_to; omega)⟩
      · rintro ⟨h, h'⟩ a c ha hc ht
        by_cases e : a = i ∧ c = j
        · obtain ⟨e1, e2⟩ := e
          subst e1 e2
          exact h'
        · exact h a c ha hc (by unfold mu_to at *; omega)
    show ∃ s', _ ∧ fb_MD_leadBack_38 (f_MD_leadBack_2 fu) (f_MD_leadBack_15 (f_MD_leadBack_2 fu) fu') (f_MD_leadBack_38 (f_MD_leadBack_2 fu) (f_MD_leadBack_15 (f_MD_leadBack_2 fu) fu') gu) _ _ _ _ _ _ _ _ _ = _
    unfold fb_MD_leadBack_38
    rw [pm_get (by decide) rfl, hn, pl_gi (by omega) (by omega), if_pos (by omega), pl_gi (by omega) (by omega)]
    by_cases z : fl = 0
    · rw [if_pos z]
      refine ⟨0, ⟨Or.inl rfl, ⟨fun q => absurd q (by decide), fun q => ?_⟩⟩, rfl⟩
      have := hQ.2.mpr (stp.mp q).1
      omega
    · have z1 : fl = 1 := by omega
      rw [if_neg z, pm_gr (t := 7) (by decide) rfl (by decide), pm_ald (o := 7) (i := 16 * r + 4 * i + j) (by omega) (by show _ < 3200; omega), pm_cv, rr j hj, pl_call, pm_cv, pm_b X (a := 1920) (x := 1920) (i := rk i) (j := rk j) rfl rfl rfl (by omega), pl_call, v1, pl_gi (by omega) (by omega)]
      by_cases y : X 7 (16 * r + 4 * i + j) = cn.1 i j
      · rw [if_pos y, pm_gr (t := 8) (by decide) rfl (by decide), pm_ald (o := 8) (i := 16 * r + 4 * i + j) (by omega) (by show _ < 3200; omega), pm_gr (t := 1) (by decide) rfl (by decide), pm_ald (o := 1) (i := 1944 + 4 * rk i + j) (by omega) (by show _ < 2000; omega), v2]
        by_cases x : X 8 (16 * r + 4 * i + j) = cn.2 i j
        · rw [if_pos x]
          exact ⟨1, ⟨Or.inr rfl, ⟨fun _ => stp.mpr ⟨hQ.2.mp z1, y, x⟩, fun _ => rfl⟩⟩, rfl⟩
        · rw [if_neg x]
          exact ⟨0, ⟨Or.inl rfl, ⟨fun q => absurd q (by decide), fun q => absurd (stp.mp q).2.2 x⟩⟩, rfl⟩
      · rw [if_neg y]
        exact ⟨0, ⟨Or.inl rfl, ⟨fun q => absurd q (by decide), fun q => absurd (stp.mp q).2.1 y⟩⟩, rfl⟩
  · show fb_MD_leadBack_38 (f_MD_leadBack_2 fu) (f_MD_leadBack_15 (f_MD_leadBack_2 fu) fu') (f_MD_leadBack_38 (f_MD_leadBack_2 fu) (f_MD_leadBack_15 (f_MD_leadBack_2 fu) fu') gu) _ _ _ _ _ _ _ _ _ = _
    unfold fb_MD_leadBack_38
    rw [pm_get (by decide) rfl, hn, pl_gi (by omega) (by omega), if_neg (by omega)]
    rfl
  · have q1 := hQ.1
    show fb_MD_leadBack_15 (f_MD_leadBack_2 fu) (f_MD_leadBack_15 (f_MD_leadBack_2 fu) fu') _ _ _ _ _ _ _ = _
    unfold fb_MD_leadBack_15
    rw [pm_get (by decide) rfl, hn, pl_gi (by omega) (by omega), if_neg (by omega), pl_gi (by omega) (by omega)]
    by_cases z : fl = 0
    · rw [if_pos z, if_pos z]
    · rw [if_neg z, if_neg z, pm_gr (t := 9) (by decide) rfl (by decide), pm_ast (o := 9) (i := 4 * s + k) ⟨by omega, by omega⟩ (by omega) (by show _ < 800; omega)]
theorem pm_leadBack (X : Nat → Nat → Int) {n s k : Nat} {a b : Int} (hn : X 0 1 = (n : Int)) (hn4 : n ≤ 4) (hn2 : 2 ≤ n) (ha : a = (s : Int)) (hb : b = (k : Int)) (hs : s < 200) (hk : k < 4) (hB : mu_bd n (pm_T X 1928)) :
    (∃ r : Nat, r < 200 ∧ f_MD_leadBack (pm_h X) 0 a b = some (1, pm_h (gx_up X 9 (4 * s + k) (r : Int))) ∧ st_E n (wl_nd X r) (st_cn n (pm_T X 1928, pm_T X 1944))) ∨
    (f_MD_leadBack (pm_h X) 0 a b = some (0, pm_h X) ∧ ∀ r, r < 200 → ¬ st_E n (wl_nd X r) (st_cn n (pm_T X 1928, pm_T X 1944))) := by
  subst ha hb
  have h := pl_find (A := fun fu r => f_MD_leadBack_2 fu (pm_h X) 0 (s : Int) (k : Int) (r : Int)) (out := some ((0 : Int), pm_h X)) (bad := fun r => some (1, pm_h (gx_up X 9 (4 * s + k) (r : Int)))) 200 (by decide) (fun r => ¬ st_E n (wl_nd X r) (st_cn n (pm_T X 1928, pm_T X 1944))) (fun r hr fu => ?_) (fun fu => ?_)
  · rcases mu_least (P := fun r => st_E n (wl_nd X r) (st_cn n (pm_T X 1928, pm_T X 1944))) 200 with q | ⟨r, hr, he, hl⟩
    · exact Or.inr ⟨h.1 q, q⟩
    · exact Or.inl ⟨r, hr, h.2 r hr (fun z => z he) hl, he⟩
  · have e := pm_leadBack_in X (s := s) (k := k) (r := r) hn hn4 hn2 hs hk hr hB fu
    show (_ → fb_MD_leadBack_2 (f_MD_leadBack_2 fu) _ _ _ _ _ = _) ∧ (_ → fb_MD_leadBack_2 (f_MD_leadBack_2 fu) _ _ _ _ _ = _)
    unfold fb_MD_leadBack_2
    rw [pl_gi (by omega) (by omega), if_pos (by omega)]
    exact ⟨fun z => e.2 z, fun z => e.1 (Classical.byContradiction z)⟩
  · show fb_MD_leadBack_2 (f_MD_leadBack_2 fu) _ _ _ _ _ = _
    unfold fb_MD_leadBack_2
    rw [pl_gi (by decide) (by decide), if_neg (by decide)]
theorem mu_mi_q {n : Nat} {B B' : Nat → Nat → Int} (h : mu_q n B B') : mu_mi n B ↔ mu_mi n B' :=
  ⟨fun z i hi j hj => by rw [← h i hi j (by omega), ← h j (by omega) i hi]; exact z i hi j hj, fun z i hi j hj => by rw [h i hi j (by omega), h j (by omega) i hi]; exact z i hi j hj⟩
/-- what a lead leaves as it was -/
def wl_fr (X Y : Nat → Nat → Int) (N s k : Nat) : Prop := (∀ q, q < 16 * N → Y 7 q = X 7 q ∧ Y 8 q = X 8 q) ∧ (∀ q, q ≠ 4 * s + k → Y 9 q = X 9 q) ∧ ∀ t, t ≠ N → Y 10 t = X 10 t ∧ Y 11 t = X 11 t ∧ Y 12 t = X 12 t
theorem wl_fr_nd {n N s k r : Nat} {X Y : Nat → Nat → Int} (hn4 : n ≤ 4) (h : wl_fr X Y N s k) (hr : r < N) : st_E n (wl_nd Y r) (wl_nd X r) :=
  ⟨fun p hp q hq => (h.1 _ (by omega)).1, fun p hp q hq => (h.1 _ (by omega)).2⟩
set_option maxHeartbeats 2000000 in
theorem pm_leadOn (X : Nat → Nat → Int) {n N s k : Nat} {a b : Int} (hn : X 0 1 = (n : Int)) (hn4 : n ≤ 4) (hn2 : 2 ≤ n) (ha : a = (s : Int)) (hb : b = (k : Int)) (hN : X 0 22 = (N : Int)) (hN2 : N ≤ 200) (hs : s < N) (hk : k < n) (hB : mu_bd n (wl_nd X s).1) (hD : mu_bd n (wl_nd X s).2) (hw : 0 ≤ X 10 s ∧ X 10 s ≤ 200) :
    ∃ (fl : Int) (Y : Nat → Nat → Int), f_MD_leadOn (pm_h X) 0 a b = some (fl, pm_h Y) ∧ pm_S X Y ∧
    ((fl = 0 ∧ (¬ (mu_bd n (st_mv n (wl_nd X s) k).1 ∧ mu_bd n (st_mv n (wl_nd X s) k).2) ∨ ¬ mu_mi n (st_go n (wl_nd X s) k).1 ∨ (N = 200 ∧ ∀ r, r < N → ¬ st_E n (st_go n (wl_nd X s) k) (wl_nd X r)))) ∨
     (fl = 1 ∧ mu_bd n (st_mv n (wl_nd X s) k).1 ∧ mu_bd n (st_mv n (wl_nd X s) k).2 ∧ wl_fr X Y N s k ∧
       ((∃ r, r < N ∧ st_E n (st_go n (wl_nd X s) k) (wl_nd X r) ∧ Y 9 (4 * s + k) = (r : Int) ∧ Y 0 22 = (N : Int)) ∨
        (N < 200 ∧ mu_mi n (st_go n (wl_nd X s) k).1 ∧ (∀ r, r < N → ¬ st_E n (st_go n (wl_nd X s) k) (wl_nd X r)) ∧ st_E n (wl_nd Y N) (st_go n (wl_nd X s) k) ∧ Y 9 (4 * s + k) = (N : Int) ∧ Y 10 N = X 10 s + 1 ∧ Y 11 N = (s : Int) ∧ Y 12 N = (k : Int) ∧ Y 0 22 = ((N + 1 : Nat) : Int))))) := by
  subst ha hb
  obtain ⟨X1, e1, a1, a2, a3, a4⟩ := pm_unlay X (s := s) hn hn4 rfl (by omega)
  have n1 : X1 0 1 = (n : Int) := by rw [a1 0 (by decide)]; exact hn
  have E1 : st_E n (pm_T X1 1928, pm_T X1 1944) (wl_nd X s) := ⟨a3, a4⟩
  obtain ⟨fl, X2, e2, b0, b1, b2, b3, b4⟩ := pm_steps X1 (k := k) n1 hn4 rfl hk ((mu_q_bd a3).mpr hB) ((mu_q_bd a4).mpr hD)
  have E2 : st_E n (pm_T X2 1928, pm_T X2 1944) (st_mv n (wl_nd X s) k) := b4.trans (st_mv_E E1 hk)
  have hfl : fl = 1 ↔ mu_bd n (st_mv n (wl_nd X s) k).1 ∧ mu_bd n (st_mv n (wl_nd X s) k).2 := b1.trans ⟨fun z => ⟨(mu_q_bd (st_mv_E E1 hk).1).mp z.1, (mu_q_bd (st_mv_E E1 hk).2).mp z.2⟩, fun z => ⟨(mu_q_bd (st_mv_E E1 hk).1).mpr z.1, (mu_q_bd (st_mv_E E1 hk).2).mpr z.2⟩⟩
  have x2 : ∀ o, o ≠ 1 → o ≠ 13 → X2 o = X o := fun o h1 h2 => (b2 o h1 h2).trans (a1 o h1)
  have S2 : pm_S X X2 := ⟨fun j hj => by rw [b3 j (by omega), a2 j (by omega)], fun o ho => x2 o (by omega) (by omega), fun j _ => by rw [x2 0 (by decide) (by decide)]⟩
  have n2 : X2 0 1 = (n : Int) := by rw [x2 0 (by decide) (by decide)]; exact hn
  have N2 : X2 0 22 = (N : Int) := by rw [x2 0 (by decide) (by decide)]; exact hN
  have nd2 : ∀ r, wl_nd X2 r = wl_nd X r := fun r => by unfold wl_nd; rw [x2 7 (by decide) (by decide), x2 8 (by decide) (by decide)]
  have G2 : st_E n (st_cn n (pm_T X2 1928, pm_T X2 1944)) (st_go n (wl_nd X s) k) := st_cn_E (by omega) E2
  unfold f_MD_leadOn
  rw [pm_cv, e1, pl_call, pm_cv, e2, pl_call, pl_gi (by omega) (by omega)]
  by_cases c0 : fl = 0
  · rw [if_pos c0]
    exact ⟨0, X2, rfl, S2, Or.inl ⟨rfl, Or.inl fun z => by have := hfl.mpr z; omega⟩⟩
  rw [if_neg c0, pm_get (by decide) rfl, N2]
  have ok := hfl.mp (by omega)
  have bB : mu_bd n (pm_T X2 1928) := (mu_q_bd E2.1).mpr ok.1
  by_cases c1 : N = 200
  · subst c1
    rw [if_pos (show ((200 : Nat) : Int) = 200 from rfl), pm_cv]
    rcases pm_leadBack X2 (s := s) (k := k) n2 hn4 hn2 rfl rfl (by omega) (by omega) bB with ⟨r, hr, h1, h2⟩ | ⟨h1, h2⟩
    · rw [h1, pl_call]
      refine ⟨1, gx_up X2 9 (4 * s + k) (r : Int), gq_g_ok (Or.inr rfl), ?_, Or.inr ⟨rfl, ok.1, ok.2, ⟨fun q _ => ?_, fun q hq => ?_, fun t ht => ?_⟩, Or.inl ⟨r, hr, ?_, ?_, ?_⟩⟩⟩
      · exact S2.trans ⟨fun j hj => by rw [gx_up_ne (by decide)], fun o ho => gx_up_ne (by omega), fun j _ => by rw [gx_up_ne (by decide)]⟩
      · rw [gx_up_ne (by decide), gx_up_ne (by decide), x2 7 (by decide) (by decide), x2 8 (by decide) (by decide)]
        exact ⟨rfl, rfl⟩
      · rw [gx_up_at, if_neg hq, x2 9 (by decide) (by decide)]
      · rw [gx_up_ne (by decide), gx_up_ne (by decide), gx_up_ne (by decide), x2 10 (by decide) (by decide), x2 11 (by decide) (by decide), x2 12 (by decide) (by decide)]
        exact ⟨rfl, rfl, rfl⟩
      · rw [nd2] at h2
        exact G2.symm.trans h2.symm
      · rw [gx_up_at, if_pos rfl]
      · rw [gx_up_ne (by decide)]
        exact N2
    · rw [h1, pl_call]
      refine ⟨0, X2, gq_g_ok (Or.inl rfl), S2, Or.inl ⟨rfl, Or.inr (Or.inr ⟨rfl, fun r hr z => h2 r hr ?_⟩)⟩⟩
      rw [nd2]
      exact (G2.trans z).symm
  · rw [if_neg (by omega), pm_get (by decide) rfl, N2, pm_cv]
    obtain ⟨f3, X3, e3, d0, d1, d2, d3, d4⟩ := pm_layStand X2 (n := n) (x := 1920) (s := N) (a := 1920) (b := (N : Int)) n2 hn4 hn2 rfl rfl (by decide) (by omega) bB
    have x3 : ∀ o, o ≠ 1 → o ≠ 13 → o ≠ 7 → o ≠ 8 → X3 o = X o := fun o h1 h2 h3 h4 => (d2 o h3 h4).trans (x2 o h1 h2)
    have S3 : pm_S X X3 := S2.trans ⟨fun j _ => by rw [d2 1 (by decide) (by decide)], fun o ho => d2 o (by omega) (by omega), fun j _ => by rw [d2 0 (by decide) (by decide)]⟩
    have n3 : X3 0 1 = (n : Int) := by rw [d2 0 (by decide) (by decide)]; exact n2
    have N3 : X3 0 22 = (N : Int) := by rw [d2 0 (by decide) (by decide)]; exact N2
    have l3 : ∀ q, q < 16 * N → X3 7 q = X 7 q ∧ X3 8 q = X 8 q := fun q hq => by
      have := d3 q (Or.inl hq)
      rw [x2 7 (by decide) (by decide), x2 8 (by decide) (by decide)] at this
      exact this
    have nd3 : ∀ r, r < N → st_E n (wl_nd X3 r) (wl_nd X r) := fun r hr => ⟨fun p hp q hq => (l3 _ (by omega)).1, fun p hp q hq => (l3 _ (by omega)).2⟩
    have G3 : st_E n (wl_nd X3 N) (st_go n (wl_nd X s) k) := st_E.trans d4 G2
    have mi : f3 = 1 ↔ mu_mi n (st_go n (wl_nd X s) k).1 := d1.trans (mu_mi_q G2.1)
    rw [e3, pl_call, pl_gi (by omega) (by omega)]
    by_cases c2 : f3 = 0
    · rw [if_pos c2]
      exact ⟨0, X3, rfl, S3, Or.inl ⟨rfl, Or.inr (Or.inl fun z => by have := mi.mpr z; omega)⟩⟩
    rw [if_neg c2, pm_get (by decide) rfl, N3, pm_cv]
    obtain ⟨r, e4, hr⟩ := pm_find X3 (s := N) n3 hn4 rfl (by omega)
    have r2 : r ≤ N := by omega
    rw [e4, pl_call, pm_gr (t := 9) (by decide) rfl (by decide), pm_ast (o := 9) (i := 4 * s + k) ⟨by omega, by omega⟩ (by omega) (by show _ < 800; omega), pm_get (by decide) rfl, gx_up_ne (o' := 0) (by decide), N3, pl_gi (by omega) (by omega)]
    generalize hX4 : gx_up X3 9 (4 * s + k) (r : Int) = X4
    have x4 : ∀ o, o ≠ 9 → X4 o = X3 o := fun o ho => by rw [← hX4, gx_up_ne ho]
    have x49 : ∀ q, X4 9 q = if q = 4 * s + k then (r : Int) else X 9 q := fun q => by rw [← hX4, gx_up_at, x3 9 (by decide) (by decide) (by decide) (by decide)]
    have S4 : pm_S X X4 := S3.trans ⟨fun j _ => by rw [x4 1 (by decide)], fun o ho => x4 o (by omega), fun j _ => by rw [x4 0 (by decide)]⟩
    rcases hr with ⟨hr, he⟩ | ⟨hr, he⟩
    · rw [if_neg (by omega)]
      refine ⟨1, X4, rfl, S4, Or.inr ⟨rfl, ok.1, ok.2, ⟨fun q hq => ?_, fun q hq => ?_, fun t ht => ?_⟩, Or.inl ⟨r, hr, G3.symm.trans (he.trans (nd3 r hr)), ?_, ?_⟩⟩⟩
      · rw [x4 7 (by decide), x4 8 (by decide)]
        exact l3 q hq
      · rw [x49, if_neg hq]
      · rw [x4 10 (by decide), x4 11 (by decide), x4 12 (by decide), x3 10 (by decide) (by decide) (by decide) (by decide), x3 11 (by decide) (by decide) (by decide) (by decide), x3 12 (by decide) (by decide) (by decide) (by decide)]
        exact ⟨rfl, rfl, rfl⟩
      · rw [x49, if_pos rfl]
      · rw [x4 0 (by decide)]
        exact N3
    · subst hr
      have w4 : X4 10 s = X 10 s := by rw [x4 10 (by decide), x3 10 (by decide) (by decide) (by decide) (by decide)]
      rw [if_pos rfl, pm_gr (t := 10) (by decide) rfl (by decide), pm_gr (t := 10) (by decide) rfl (by decide), pm_ald (o := 10) (i := s) rfl (by show _ < 200; omega), w4, pm_ast (o := 10) (i := r) ⟨by omega, by omega⟩ rfl (by show _ < 200; omega), pm_gr (t := 11) (by decide) rfl (by decide), pm_ast (o := 11) (i := r) ⟨by omega, by omega⟩ rfl (by show _ < 200; omega), pm_gr (t := 12) (by decide) rfl (by decide), pm_ast (o := 12) (i := r) ⟨by omega, by omega⟩ rfl (by show _ < 200; omega), pm_get (by decide) rfl, gx_up_ne (o' := 0) (by decide), gx_up_ne (o' := 0) (by decide), gx_up_ne (o' := 0) (by decide), x4 0 (by decide), N3, pm_put ⟨by omega, by omega⟩ (by decide) rfl]
      generalize hX5 : gx_up (gx_up (gx_up (gx_up X4 10 r (X 10 s + 1)) 11 r (s : Int)) 12 r (k : Int)) 0 22 ((r : Int) + 1) = X5
      have x5 : ∀ o, o ≠ 0 → o ≠ 10 → o ≠ 11 → o ≠ 12 → X5 o = X4 o := fun o h0 h1 h2 h3 => by rw [← hX5, gx_up_ne h0, gx_up_ne h3, gx_up_ne h2, gx_up_ne h1]
      have x50 : ∀ q, X5 0 q = if q = 22 then (r : Int) + 1 else X4 0 q := fun q => by rw [← hX5, gx_up_at, gx_up_ne (by decide), gx_up_ne (by decide), gx_up_ne (by decide)]
      have xa : ∀ q, X5 10 q = if q = r then X 10 s + 1 else X4 10 q := fun q => by rw [← hX5, gx_up_ne (by decide), gx_up_ne (by decide), gx_up_ne (by decide), gx_up_at]
      have xb : ∀ q, X5 11 q = if q = r then (s : Int) else X4 11 q := fun q => by rw [← hX5, gx_up_ne (by decide), gx_up_ne (by decide), gx_up_at, gx_up_ne (by decide)]
      have xc : ∀ q, X5 12 q = if q = r then (k : Int) else X4 12 q := fun q => by rw [← hX5, gx_up_ne (by decide), gx_up_at, gx_up_ne (by decide), gx_up_ne (by decide)]
      refine ⟨1, X5, rfl, S4.trans ⟨fun j _ => by rw [x5 1 (by decide) (by decide) (by decide) (by decide)], fun o ho => x5 o (by omega) (by omega) (by omega) (by omega), fun j hj => by rw [x50, if_neg (by omega)]⟩, Or.inr ⟨rfl, ok.1, ok.2, ⟨fun q hq => ?_, fun q hq => ?_, fun t ht => ?_⟩, Or.inr ⟨by omega, mi.mp (by omega), fun t ht z => ?_, ?_, ?_, ?_, ?_, ?_, ?_⟩⟩⟩
      · rw [x5 7 (by decide) (by decide) (by decide) (by decide), x5 8 (by decide) (by decide) (by decide) (by decide), x4 7 (by decide), x4 8 (by decide)]
        exact l3 q hq
      · rw [x5 9 (by decide) (by decide) (by decide) (by decide), x49, if_neg hq]
      · rw [xa, xb, xc, if_neg ht, if_neg ht, if_neg ht, x4 10 (by decide), x4 11 (by decide), x4 12 (by decide), x3 10 (by decide) (by decide) (by decide) (by decide), x3 11 (by decide) (by decide) (by decide) (by decide), x3 12 (by decide) (by decide) (by decide) (by decide)]
        exact ⟨rfl, rfl, rfl⟩
      · exact he t ht (G3.trans (z.trans (nd3 t ht).symm))
      · have q7 : X5 7 = X3 7 := by rw [x5 7 (by decide) (by decide) (by decide) (by decide), x4 7 (by decide)]
        have q8 : X5 8 = X3 8 := by rw [x5 8 (by decide) (by decide) (by decide) (by decide), x4 8 (by decide)]
        have q : wl_nd X5 r = wl_nd X3 r := by unfold wl_nd; rw [q7, q8]
        rw [q]
        exact G3
      · rw [x5 9 (by decide) (by decide) (by decide) (by decide), x49, if_pos rfl]
      · rw [xa, if_pos rfl]
      · rw [xb, if_pos rfl]
      · rw [xc, if_pos rfl]
      · rw [x50, if_pos rfl]
        omega
