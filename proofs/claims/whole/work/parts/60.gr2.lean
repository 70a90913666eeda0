/-! the class's graph: leads -/
/-- a shape exchanged into another, as a move -/
theorem pc_become (Z : Nat → Nat → Int) {t u k n : Nat} {a : Int} (ht : pc_H t = true) (hu : pc_H u = true) (htu : t ≠ u) (hn : Z u 0 = (n : Int)) (hn4 : n ≤ 4) (ha : a = (k : Int)) (hk : k < n) (hB : mu_bd n (pc_T Z (u + 1))) (hD : mu_bd n (pc_T Z (u + 2))) :
    ∃ (fl : Int) (Y : Nat → Nat → Int), f_SH_becomeExchanged (pc_h Z) t u a = some (fl, pc_h Y) ∧ (fl = 0 ∨ fl = 1) ∧ (fl = 1 ↔ mu_bd n (st_mv n (pc_T Z (u + 1), pc_T Z (u + 2)) k).1 ∧ mu_bd n (st_mv n (pc_T Z (u + 1), pc_T Z (u + 2)) k).2) ∧ (∀ o, (o < t ∨ t + 3 ≤ o) → Y o = Z o) ∧ Y t 0 = (n : Int) ∧ st_E n (pc_T Y (t + 1), pc_T Y (t + 2)) (st_mv n (pc_T Z (u + 1), pc_T Z (u + 2)) k) := by
  have h := pc_becomeExchanged Z ht hu htu hn hn4 ha hk hB hD
  have hX1 := pc_X_1 Z t u k n (fun i j => i < n ∧ j < n)
  have hX2 := pc_X_2 Z t u k n (fun i j => i < n ∧ j < n)
  refine ⟨_, _, h, by split <;> simp, ?_, fun o ho => pc_X_o Z t u k n _ ho, pc_X_0 Z t u k n _, fun i hi j hj => ?_, fun i hi j hj => ?_⟩
  · show (if _ then (1 : Int) else 0) = 1 ↔ mu_bd n (mu_B (pc_T Z (u + 1)) k) ∧ mu_bd n (mu_D n (pc_T Z (u + 1)) (pc_T Z (u + 2)) k)
    by_cases c : mu_bd n (mu_B (pc_T Z (u + 1)) k) ∧ mu_bd n (mu_D n (pc_T Z (u + 1)) (pc_T Z (u + 2)) k)
    · rw [if_pos c]; exact ⟨fun _ => c, fun _ => rfl⟩
    · rw [if_neg c]; exact ⟨fun z => absurd z (by decide), fun z => absurd z c⟩
  · show pc_X Z t u k n _ (t + 1) (4 * i + j) = mu_B (pc_T Z (u + 1)) k i j
    have e := pm_wr_in (f := Z (t + 1)) (a := 0) (i := i) (j := j) (P := fun i j => i < n ∧ j < n) (M := mu_B (pc_T Z (u + 1)) k) (by omega) (by omega)
    rw [Nat.zero_add, if_pos ⟨hi, hj⟩] at e
    rw [hX1]
    exact e
  · show pc_X Z t u k n _ (t + 2) (4 * i + j) = mu_D n (pc_T Z (u + 1)) (pc_T Z (u + 2)) k i j
    have e := pm_wr_in (f := Z (t + 2)) (a := 0) (i := i) (j := j) (P := fun i j => i < n ∧ j < n) (M := mu_D n (pc_T Z (u + 1)) (pc_T Z (u + 2)) k) (by omega) (by omega)
    rw [Nat.zero_add, if_pos ⟨hi, hj⟩] at e
    rw [hX2]
    exact e
def gr_Ld (n : Nat) (G : Prop) (a : st_t) (k : Nat) (b : st_t) : Prop := (∃ s : Nat → Nat, mu_pm n n s ∧ mu_tn n s b.1 (mu_B a.1 k)) ∧ (G → st_E n (st_go n a k) b)
theorem gr_Ld_to {n k : Nat} {G : Prop} {a b : st_t} (hn2 : 2 ≤ n) (hn4 : n ≤ 4) (hb : mu_bd n (st_mv n a k).2) (e : st_E n (st_go n a k) b) : gr_Ld n G a k b := by
  refine ⟨⟨mu_pl n (st_mv n a k).2, mu_pl_pm hb, fun i hi j hj => ?_⟩, fun _ => e⟩
  have pm := mu_pl_pm hb
  rw [← e.1 _ (pm.1 i hi) _ (pm.1 j hj)]
  show _ = mu_B a.1 k (mu_rk n (st_mv n a k).2 (mu_pl n (st_mv n a k).2 i)) (mu_rk n (st_mv n a k).2 (mu_pl n (st_mv n a k).2 j))
  rw [mu_rk_pl hn2 hn4 hb hi, mu_rk_pl hn2 hn4 hb hj]
theorem gr_Ld_fro {n k : Nat} {G : Prop} {B0 : Nat → Nat → Int} {a b : st_t} (hn2 : 2 ≤ n) (hn4 : n ≤ 4) (hG : G → mu_fin n B0 ∧ ∃ w : Nat → Int, (∀ i, i < n → 1 ≤ w i) ∧ mu_wt n B0 w) (ha : G → rc_S n B0 a ∧ st_K n a) (hk : k < n) (hb : mu_bd n (st_mv n a k).2) (e : st_E n (st_go n a k) b) : gr_Ld n G b (mu_pl n (st_mv n a k).2 k) a := by
  have pm := mu_pl_pm hb
  have hp := pm.1 k hk
  constructor
  · have t0 : mu_tn n (mu_rk n (st_mv n a k).2) (mu_B a.1 k) b.1 := fun i hi j hj => by
      rw [← e.1 i hi j hj]
      rfl
    have t1 := mu_tn_B (mu_rk_pm hn2 hn4 hb) t0 hp
    rw [mu_rk_pl hn2 hn4 hb hk, mu_B_inv] at t1
    exact ⟨_, mu_rk_pm hn2 hn4 hb, t1⟩
  · intro g
    obtain ⟨hf, w, hw, hB⟩ := hG g
    exact (st_go_E e.symm hp).trans (rc_back hn2 hn4 hw hB hf (ha g).1 (ha g).2 hk)
def gr_A (n : Nat) (G : Prop) (B0 : Nat → Nat → Int) (Z : Nat → Nat → Int) (N : Nat) (gn : Nat → st_t) : Prop :=
  Z 173 1 = (n : Int) ∧ Z 173 0 = (N : Int) ∧ N ≤ 200 ∧
  (∀ t, t < N → (∀ p, p < n → Z 175 (8 * t + p) = mu_cd (gn t).2 p n ∧ Z 175 (8 * t + 4 + p) = mu_cd (gn t).1 p n) ∧ mu_bd n (gn t).1 ∧ mu_bd n (gn t).2 ∧ mu_mi n (gn t).1 ∧ (G → rc_S n B0 (gn t) ∧ st_K n (gn t))) ∧
  (∀ t u, t < u → u < N → ¬ st_E n (gn t) (gn u)) ∧
  ∀ t k, t < N → k < n → Z 174 (4 * t + k) = -1 ∨ ∃ r : Nat, r < N ∧ Z 174 (4 * t + k) = (r : Int) ∧ gr_Ld n G (gn t) k (gn r)
theorem gr_A_set {n N t k r : Nat} {G : Prop} {B0 Z : Nat → Nat → Int} {gn : Nat → st_t} (hn4 : n ≤ 4) (h : gr_A n G B0 Z N gn) (hr : r < N) (hk : k < n) (hl : gr_Ld n G (gn t) k (gn r)) : gr_A n G B0 (gx_up Z 174 (4 * t + k) (r : Int)) N gn := by
  obtain ⟨a1, a2, a3, a4, a5, a6⟩ := h
  refine ⟨by rw [gx_up_ne (by decide)]; exact a1, by rw [gx_up_ne (by decide)]; exact a2, a3, fun t ht => by rw [gx_up_ne (by decide)]; exact a4 t ht, a5, fun t' k' ht' hk' => ?_⟩
  rw [gx_up_at]
  by_cases c : 4 * t' + k' = 4 * t + k
  · have e1 : t' = t := by omega
    have e2 : k' = k := by omega
    subst e1 e2
    rw [if_pos rfl]
    exact Or.inr ⟨r, hr, rfl, hl⟩
  · rw [if_neg c]
    exact a6 t' k' ht' hk'
theorem gr_A_cg {n N : Nat} {G : Prop} {B0 Z Y : Nat → Nat → Int} {gn : Nat → st_t} (h : gr_A n G B0 Z N gn) (h1 : Y 173 1 = Z 173 1) (h0 : Y 173 0 = Z 173 0) (h5 : Y 175 = Z 175) (h4 : Y 174 = Z 174) : gr_A n G B0 Y N gn := by
  obtain ⟨a1, a2, a3, a4, a5, a6⟩ := h
  exact ⟨h1.trans a1, h0.trans a2, a3, fun t ht => by rw [h5]; exact a4 t ht, a5, fun t k ht hk => by rw [h4]; exact a6 t k ht hk⟩
theorem gr_cd_iff {n : Nat} {a b : st_t} (h1 : mu_bd n a.1) (h2 : mu_bd n a.2) (g1 : mu_bd n b.1) (g2 : mu_bd n b.2) : (∀ p, p < n → mu_cd a.2 p n = mu_cd b.2 p n ∧ mu_cd a.1 p n = mu_cd b.1 p n) ↔ st_E n a b := by
  constructor
  · exact fun h => ⟨fun i hi j hj => (mu_cd_inj n (fun m hm => h1 i hi m hm) (fun m hm => g1 i hi m hm)).mp (h i hi).2 j hj, fun i hi j hj => (mu_cd_inj n (fun m hm => h2 i hi m hm) (fun m hm => g2 i hi m hm)).mp (h i hi).1 j hj⟩
  · exact fun h p hp => ⟨mu_cd_cg n fun m hm => h.2 p hp m hm, mu_cd_cg n fun m hm => h.1 p hp m hm⟩
/-- what leads leave: entries that are set stay set -/
def gr_on (Z Z' : Nat → Nat → Int) (N : Nat) : Prop := ∀ q, q < 4 * N → Z 174 q ≠ -1 → Z' 174 q ≠ -1
theorem pc_62 (Z : Nat → Nat → Int) {n N s k r p : Nat} {G : Prop} {B0 : Nat → Nat → Int} {gn : Nat → st_t} (hn4 : n ≤ 4) (h : gr_A n G B0 Z N gn) (hs : s < N) (hr : r < N) (hk : k < n) (hp : Z 178 k = (p : Int)) (hp2 : p < n) (h1 : gr_Ld n G (gn s) k (gn r)) (h2 : gr_Ld n G (gn r) p (gn s)) :
    ∃ Y, fb_GR_findLead_62 (pc_h Z) 173 (s : Int) (k : Int) (r : Int) = some (1, pc_h Y) ∧ gr_A n G B0 Y N gn ∧ (∀ o, o ≠ 174 → Y o = Z o) ∧ Y 174 (4 * s + k) ≠ -1 ∧ gr_on Z Y N := by
  obtain ⟨l0, l1, l2, l3, l4, l5, l6⟩ := pc_LG
  obtain ⟨e0, e1, e2, e3, e4, e5, e6, e7, e8, e9, e10, e11, e12⟩ := pc_rG
  have hN2 := h.2.2.1
  unfold fb_GR_findLead_62
  rw [pc_gr pc_L173 (by decide) e4 (by decide), pc_ast (i := 4 * s + k) (Or.inl rfl) ⟨by omega, by omega⟩ l0 (by omega) (by omega), pc_gr pc_L173 (by decide) e4 (by decide), pc_gr pc_L173 (by decide) e8 (by decide), pc_ald (i := k) l4 rfl (by omega), gx_up_ne (by decide), hp, pc_ast (i := 4 * r + p) (Or.inl rfl) ⟨by omega, by omega⟩ l0 (by omega) (by omega)]
  refine ⟨_, rfl, gr_A_set hn4 (gr_A_set hn4 h hr hk h1) hs hp2 h2, fun o ho => ?_, ?_, fun q hq hz => ?_⟩
  · rw [gx_up_ne ho, gx_up_ne ho]
  · rw [gx_up_at, gx_up_at, if_pos rfl]
    split <;> omega
  · rw [gx_up_at, gx_up_at]
    split
    · omega
    · split
      · omega
      · exact hz
set_option maxHeartbeats 4000000 in
theorem pc_findLead (Z : Nat → Nat → Int) {n N s k : Nat} {a b : Int} {G : Prop} {B0 : Nat → Nat → Int} {gn : Nat → st_t} (hn4 : n ≤ 4) (hn2 : 2 ≤ n) (ha : a = (s : Int)) (hb : b = (k : Int)) (hG : G → mu_fin n B0 ∧ ∃ w : Nat → Int, (∀ i, i < n → 1 ≤ w i) ∧ mu_wt n B0 w) (h : gr_A n G B0 Z N gn) (hs : s < N) (hk : k < n) (h0 : Z 181 0 = (n : Int)) (hh : st_E n (pc_T Z 182, pc_T Z 183) (gn s)) :
    ∃ (fl : Int) (Y : Nat → Nat → Int), f_GR_findLead (pc_h Z) 173 a b = some (fl, pc_h Y) ∧ (∀ o, (o < 173 ∨ 186 < o) → Y o = Z o) ∧ (∀ j, j ≠ 0 → Y 173 j = Z 173 j) ∧ ((fl = 0 ∧ ¬ G) ∨ (fl = 1 ∧ (∀ o, o = 181 ∨ o = 182 ∨ o = 183 → Y o = Z o) ∧ ∃ (N' : Nat) (gn' : Nat → st_t), gr_A n G B0 Y N' gn' ∧ N ≤ N' ∧ (∀ t, t < N → gn' t = gn t) ∧ Y 174 (4 * s + k) ≠ -1 ∧ gr_on Z Y N)) := by
  subst ha hb
  obtain ⟨l0, l1, l2, l3, l4, l5, l6⟩ := pc_LG
  obtain ⟨e0, e1, e2, e3, e4, e5, e6, e7, e8, e9, e10, e11, e12⟩ := pc_rG
  obtain ⟨g0, g1, g2, r0, r1, r2⟩ := pc_H_all 184 (by decide) pc_H181.2
  have hN2 := h.2.2.1
  obtain ⟨s1, s2, s3, s4, s5⟩ := h.2.2.2.1 s hs
  obtain ⟨f1, Z1, E1, a0, a1, a2, a3, a4⟩ := pc_become Z (t := 184) (u := 181) (k := k) pc_H181.2 pc_H181.1 (by decide) h0 hn4 rfl hk ((mu_q_bd hh.1).mpr s2) ((mu_q_bd hh.2).mpr s3)
  have mvE := st_mv_E hh hk
  have hE1 : st_E n (pc_T Z1 185, pc_T Z1 186) (st_mv n (gn s) k) := a4.trans mvE
  unfold f_GR_findLead
  rw [pc_gr pc_L173 (by decide) e12 (by decide), pc_gr pc_L173 (by decide) e11 (by decide), pc_cv g0, E1, pl_call, pl_gi (by omega) (by omega)]
  by_cases c0 : f1 = 0
  · rw [if_pos c0]
    refine ⟨0, Z1, rfl, fun o ho => a2 o (by omega), fun j _ => by rw [a2 173 (by decide)], Or.inl ⟨rfl, fun g => ?_⟩⟩
    have f := rc_fin (hG g).1 (rc_mv hn2 hn4 (s5 g).1 hk)
    have := a1.mpr ⟨(mu_q_bd mvE.1).mpr f.1, (mu_q_bd mvE.2).mpr f.2.1⟩
    omega
  have ok := a1.mp (by omega)
  have ok1 : mu_bd n (st_mv n (gn s) k).1 := (mu_q_bd mvE.1).mp ok.1
  have ok2 : mu_bd n (st_mv n (gn s) k).2 := (mu_q_bd mvE.2).mp ok.2
  have b1 : mu_bd n (pc_T Z1 185) := (mu_q_bd hE1.1).mpr ok1
  have b2 : mu_bd n (pc_T Z1 186) := (mu_q_bd hE1.2).mpr ok2
  have mild := pc_isMild Z1 (t := 184) pc_H181.2 a3 hn4 b1
  rw [if_neg c0, pc_gr pc_L173 (by decide) e12 (by decide), pc_cv g0, mild, pl_call]
  by_cases c1' : ¬ mu_mi n (pc_T Z1 185)
  · have c1 := c1'
    rw [if_neg c1, pl_gi (by decide) (by decide), if_pos rfl]
    refine ⟨0, Z1, rfl, fun o ho => a2 o (by omega), fun j _ => by rw [a2 173 (by decide)], Or.inl ⟨rfl, fun g => c1 ?_⟩⟩
    have f := rc_fin (hG g).1 (rc_mv hn2 hn4 (s5 g).1 hk)
    exact (mu_mi_q hE1.1).mpr f.2.2.1
  have c1 : mu_mi n (pc_T Z1 185) := Classical.byContradiction c1'
  rw [if_pos c1, pl_gi (by decide) (by decide), if_neg (by decide), pc_gr pc_L173 (by decide) e12 (by decide), pc_cv pc_L173]
  obtain ⟨Z2, E2, p1, p2, p3⟩ := pc_fillProbe Z1 (t := 184) pc_H181.2 (by rw [a2 173 (by decide)]; exact h.1) hn4 hn2 b1 b2
  have hcn : st_E n (st_cn n (pc_T Z1 185, pc_T Z1 186)) (st_go n (gn s) k) := st_cn_E (by omega) hE1
  have bgo : mu_bd n (st_go n (gn s) k).1 ∧ mu_bd n (st_go n (gn s) k).2 := st_cn_bd (n := n) (a := st_mv n (gn s) k) (by omega) ok1 ok2
  have z2 : ∀ o, (o < 176 ∨ 179 < o) → (o < 184 ∨ 187 ≤ o) → Z2 o = Z o := fun o h1 h2 => (p1 o h1).trans (a2 o h2)
  have hA2 : gr_A n G B0 Z2 N gn := gr_A_cg h (by rw [z2 173 (by decide) (by decide)]) (by rw [z2 173 (by decide) (by decide)]) (z2 175 (by decide) (by decide)) (z2 174 (by decide) (by decide))
  have pr : ∀ p, p < n → Z2 176 p = mu_cd (st_go n (gn s) k).2 p n ∧ Z2 176 (4 + p) = mu_cd (st_go n (gn s) k).1 p n := fun p hp => ⟨(p3 p hp).1.trans (mu_cd_cg n fun m hm => hcn.2 p hp m hm), (p3 p hp).2.trans (mu_cd_cg n fun m hm => hcn.1 p hp m hm)⟩
  have pl : Z2 178 k = (mu_pl n (st_mv n (gn s) k).2 k : Int) := by
    rw [p2 k hk]
    exact congrArg (fun z : Nat => (z : Int)) (mu_pl_q hE1.2 hk)
  have plt := (mu_pl_pm ok2).1 k hk
  have mt : ∀ r, r < N → (gr_m n Z2 r ↔ st_E n (st_go n (gn s) k) (gn r)) := fun r hr => by
    obtain ⟨q1, q2, q3, -⟩ := hA2.2.2.2.1 r hr
    rw [← gr_cd_iff bgo.1 bgo.2 q2 q3]
    unfold gr_m
    constructor
    · intro z p hp
      have := z p hp
      rw [(q1 p hp).1, (q1 p hp).2, (pr p hp).1, (pr p hp).2] at this
      exact ⟨this.1.symm, this.2.symm⟩
    · intro z p hp
      rw [(q1 p hp).1, (q1 p hp).2, (pr p hp).1, (pr p hp).2]
      exact ⟨(z p hp).1.symm, (z p hp).2.symm⟩
  rw [E2, pl_call, pc_cv pc_L173]
  rcases pc_standOfProbe Z2 (n := n) (N := N) hA2.1 hn4 hn2 hA2.2.1 hN2 with ⟨r, hr, hm, E3⟩ | ⟨hno, E3⟩
  · have er := (mt r hr).mp hm
    obtain ⟨Y, E4, q1, q2, q3, q4⟩ := pc_62 Z2 (s := s) (k := k) (r := r) hn4 hA2 hs hr hk pl plt (gr_Ld_to hn2 hn4 ok2 er) (gr_Ld_fro hn2 hn4 hG s5 hk ok2 er)
    rw [E3, pl_call, pl_gi (by omega) (by omega), if_neg (by omega), E4]
    refine ⟨1, Y, rfl, fun o ho => ?_, fun j _ => ?_, Or.inr ⟨rfl, fun o ho => ?_, N, gn, q1, Nat.le_refl _, fun _ _ => rfl, q3, fun q hq hz => q4 q hq ?_⟩⟩
    · rw [q2 o (by omega), z2 o (by omega) (by omega)]
    · rw [q2 173 (by decide), z2 173 (by decide) (by decide)]
    · rw [q2 o (by omega), z2 o (by omega) (by omega)]
    · rw [z2 174 (by decide) (by decide)]; exact hz
  · have new : ∀ r, r < N → ¬ st_E n (st_go n (gn s) k) (gn r) := fun r hr z => hno r hr ((mt r hr).mpr z)
    rw [E3, pl_call, pl_gi (by decide) (by decide), if_pos rfl, pc_get pc_L173 (by decide) e0, hA2.2.1]
    have kn : G → rc_S n B0 (st_go n (gn s) k) ∧ st_K n (st_go n (gn s) k) := fun g => by
      have q := rc_mv hn2 hn4 (s5 g).1 hk
      have f := rc_fin (hG g).1 q
      exact ⟨rc_cn hn2 hn4 q f.2.1, st_K_cn hn2 hn4 f.2.1 f.2.2.2⟩
    by_cases c2 : N < 200
    · rw [if_pos (by omega), pc_cv pc_L173]
      obtain ⟨Z3, E4, u1, u2, u3, u4, u5⟩ := pc_addProbe Z2 hA2.2.1 c2
      have hA3 : gr_A n G B0 Z3 (N + 1) (bf_u1 gn N (st_go n (gn s) k)) := by
        refine ⟨by rw [u2 1 (by decide)]; exact hA2.1, u3, by omega, fun t ht => ?_, fun t u htu hu => ?_, fun t k' ht hk' => ?_⟩
        · by_cases c : t = N
          · subst c
            rw [bf_u1_at]
            refine ⟨fun p hp => ?_, bgo.1, bgo.2, st_rn_mi (st_cn_rn hn2 hn4 ok2) ((mu_mi_q hE1.1).mp c1), kn⟩
            rw [u4, u4, if_pos (by omega), if_pos (by omega), show 8 * t + p - 8 * t = p by omega, show 8 * t + 4 + p - 8 * t = 4 + p by omega]
            exact pr p hp
          · rw [bf_u1_ne c]
            obtain ⟨q1, q2⟩ := hA2.2.2.2.1 t (by omega)
            refine ⟨fun p hp => ?_, q2⟩
            rw [u4, u4, if_neg (by omega), if_neg (by omega)]
            exact q1 p hp
        · by_cases c : u = N
          · subst c
            rw [bf_u1_at, bf_u1_ne (by omega)]
            exact fun z => new t htu z.symm
          · rw [bf_u1_ne (by omega), bf_u1_ne c]
            exact hA2.2.2.2.2.1 t u htu (by omega)
        · rw [u5]
          by_cases c : t = N
          · subst c
            rw [if_pos (by omega)]
            exact Or.inl rfl
          · rw [if_neg (by omega), bf_u1_ne c]
            rcases hA2.2.2.2.2.2 t k' (by omega) hk' with q | ⟨r, q1, q2, q3⟩
            · exact Or.inl q
            · exact Or.inr ⟨r, by omega, q2, by rw [bf_u1_ne (by omega)]; exact q3⟩
      have gs : bf_u1 gn N (st_go n (gn s) k) s = gn s := bf_u1_ne (by omega)
      have gN : bf_u1 gn N (st_go n (gn s) k) N = st_go n (gn s) k := bf_u1_at
      obtain ⟨Y, E5, q1, q2, q3, q4⟩ := pc_62 Z3 (s := s) (k := k) (r := N) (p := mu_pl n (st_mv n (gn s) k).2 k) hn4 hA3 (by omega) (by omega) hk (by rw [u1 178 (by decide) (by decide) (by decide)]; exact pl) plt (by rw [gs, gN]; exact gr_Ld_to hn2 hn4 ok2 st_E.rf) (by rw [gs, gN]; exact gr_Ld_fro hn2 hn4 hG s5 hk ok2 st_E.rf)
      rw [E4, pl_call, E5]
      refine ⟨1, Y, rfl, fun o ho => ?_, fun j hj => ?_, Or.inr ⟨rfl, fun o ho => ?_, N + 1, _, q1, by omega, fun t ht => bf_u1_ne (by omega), q3, fun q hq hz => q4 q (by omega) ?_⟩⟩
      · rw [q2 o (by omega), u1 o (by omega) (by omega) (by omega), z2 o (by omega) (by omega)]
      · rw [q2 173 (by decide), u2 j hj, z2 173 (by decide) (by decide)]
      · rw [q2 o (by omega), u1 o (by omega) (by omega) (by omega), z2 o (by omega) (by omega)]
      · rw [u5, if_neg (by omega), z2 174 (by decide) (by decide)]; exact hz
    · rw [if_neg (by omega)]
      refine ⟨0, Z2, rfl, fun o ho => z2 o (by omega) (by omega), fun j _ => by rw [z2 173 (by decide) (by decide)], Or.inl ⟨rfl, fun g => ?_⟩⟩
      have := rc_few (N := N + 1) (nd := bf_u1 gn N (st_go n (gn s) k)) hn2 hn4 (hG g).1 (fun t ht => ?_) (fun t u htu hu => ?_)
      · omega
      · by_cases c : t = N
        · subst c
          rw [bf_u1_at]
          exact kn g
        · rw [bf_u1_ne c]
          exact (hA2.2.2.2.1 t (by omega)).2.2.2.2 g
      · by_cases c : u = N
        · subst c
          rw [bf_u1_at, bf_u1_ne (by omega)]
          exact fun z => new t htu z.symm
        · rw [bf_u1_ne (by omega), bf_u1_ne c]
          exact hA2.2.2.2.2.1 t u htu (by omega)
