/-! the law's walk: one call of each side -/
def lw_ag (pc : Nat) (k : Int) : Prop := decode code pc = .ok (.aload_n 0, 1) ∧ decode code (pc + 1) = .ok (.iload_n 3, 1) ∧ decode code (pc + 2) = .ok (.iconst k, 1) ∧ decode code (pc + 3) = .ok (.iadd, 1) ∧ decode code (pc + 4) = .ok (.iaload, 1)
section LWC
variable {p : Program} {l : Launch} {e : Env} {s : State} {m : MethodId} {below : List Frame} {meth : Method} {c : Code} {b L : Nat} {xs : Nat → Int32} {ls : Array Slot}
theorem lw_arg {H : Heap} {locs : List Loc} {cells slots : Nat} {Q : State → Prop} {pc j k : Nat} {rest : List Value} (C0 : lw_At p s m meth c b L xs) (hL : L ≤ 2048) (hj : j + k < L) (h0 : ls[0]? = some (.val (.ref b))) (h3 : ls[3]? = some (.val (.int (Int32.ofInt (j : Int))))) (g : lw_ag pc (k : Int)) (hS : va_S (lw_A s) s.heap H locs)
    (kk : W p l e room_1 s m #[Value.ref b] below meth c H locs cells slots Q (F0 m (pc + 5) ls (.int (xs (j + k)) :: rest))) : W p l e room_1 s m #[Value.ref b] below meth c H locs cells slots Q (F0 m pc ls rest) := by
  obtain ⟨hx, hb, hr, hml, hown, hts, hX, hbl, hlocks, hgv⟩ := C0
  obtain ⟨d0, d1, d2, d3, d4⟩ := g
  have hi : Int32.ofInt (j : Int) + Int32.ofInt (k : Int) = Int32.ofInt ((j + k : Nat) : Int) := by rw [← Int32.ofInt_add]; rfl
  obtain ⟨i1, i2⟩ := gx_in (i := ((j + k : Nat) : Int)) (n := L) (by omega) (by omega) (by omega)
  refine lv_aload_n hx hb d0 rfl h0 ?_
  refine lv_iload_n hx hb d1 rfl h3 ?_
  refine lv_iconst hx hb d2 rfl ?_
  refine lv_iadd hx hb d3 ?_
  rw [hi]
  refine va_sld hx hb hX hbl (Nat.not_le.mpr hbl) hS i1 d4 ?_
  rw [i2, Int.toNat_natCast]
  exact kk
/-- n arguments are laid on the stack -/
def lw_push (p : Program) (l : Launch) (e : Env) (s : State) (m : MethodId) (below : List Frame) (meth : Method) (c : Code) (b : Nat) (ls : Array Slot) (pc n : Nat) (zs : List Int) : Prop :=
  ∀ (H : Heap) (locs : List Loc) (cells slots : Nat) (Q : State → Prop) (rest : List Value), va_S (lw_A s) s.heap H locs → W p l e room_1 s m #[Value.ref b] below meth c H locs cells slots Q (F0 m (pc + n) ls ((zs.map (fun z => Value.int (Int32.ofInt z))).reverse ++ rest)) → W p l e room_1 s m #[Value.ref b] below meth c H locs cells slots Q (F0 m pc ls rest)
theorem lw_push0 {pc : Nat} : lw_push p l e s m below meth c b ls pc 0 [] := fun _ _ _ _ _ _ _ kk => kk
theorem lw_push1 {pc j : Nat} (C0 : lw_At p s m meth c b L xs) (hL : L ≤ 2048) (hj : j + 4 ≤ L) (h0 : ls[0]? = some (.val (.ref b))) (h3 : ls[3]? = some (.val (.int (Int32.ofInt (j : Int))))) (g1 : lw_ag pc 1) : lw_push p l e s m below meth c b ls pc 5 [(xs (j + 1)).toInt] := fun _ _ _ _ _ _ hS kk => by
  refine lw_arg (k := 1) C0 hL (by omega) h0 h3 g1 hS ?_
  rw [← Int32.ofInt_toInt (xs (j + 1))]
  exact kk
theorem lw_push2 {pc j : Nat} (C0 : lw_At p s m meth c b L xs) (hL : L ≤ 2048) (hj : j + 4 ≤ L) (h0 : ls[0]? = some (.val (.ref b))) (h3 : ls[3]? = some (.val (.int (Int32.ofInt (j : Int))))) (g1 : lw_ag pc 1) (g2 : lw_ag (pc + 5) 2) : lw_push p l e s m below meth c b ls pc 10 [(xs (j + 1)).toInt, (xs (j + 2)).toInt] := fun _ _ _ _ _ _ hS kk => by
  refine lw_arg (k := 1) C0 hL (by omega) h0 h3 g1 hS ?_
  refine lw_arg (k := 2) C0 hL (by omega) h0 h3 g2 hS ?_
  rw [← Int32.ofInt_toInt (xs (j + 1)), ← Int32.ofInt_toInt (xs (j + 2))]
  exact kk
theorem lw_push3 {pc j : Nat} (C0 : lw_At p s m meth c b L xs) (hL : L ≤ 2048) (hj : j + 4 ≤ L) (h0 : ls[0]? = some (.val (.ref b))) (h3 : ls[3]? = some (.val (.int (Int32.ofInt (j : Int))))) (g1 : lw_ag pc 1) (g2 : lw_ag (pc + 5) 2) (g3 : lw_ag (pc + 10) 3) : lw_push p l e s m below meth c b ls pc 15 [(xs (j + 1)).toInt, (xs (j + 2)).toInt, (xs (j + 3)).toInt] := fun _ _ _ _ _ _ hS kk => by
  refine lw_arg (k := 1) C0 hL (by omega) h0 h3 g1 hS ?_
  refine lw_arg (k := 2) C0 hL (by omega) h0 h3 g2 hS ?_
  refine lw_arg (k := 3) C0 hL (by omega) h0 h3 g3 hS ?_
  rw [← Int32.ofInt_toInt (xs (j + 1)), ← Int32.ofInt_toInt (xs (j + 2)), ← Int32.ofInt_toInt (xs (j + 3))]
  exact kk
/-- what a method needs to be called from the law -/
def lw_fit (M : gx_M) : Prop := (M.2.2.2.2.1.frames + 1 ≤ 2048 ∧ 8 + (M.2.2.1 + 11) + M.2.2.2.2.1.locals ≤ 84000) ∧ (M.2.2.2.2.2.1 = 0 ∧ M.2.2.2.2.2.2 = 0) ∧ M.2.2.2.1 = some .int
theorem lw_case {n len P ix1 ix2 : Nat} {off : Int} {M1 M2 : gx_M} {zs : List Int} {x y : Option (Int × gx_H)} {cA : Nat → ClassId} {D : va_G} {a1 a2 : Nat → Nat} {Z X : Nat → Nat → Int} {H : Heap} {locs : List Loc} {Q : State → Prop} (C0 : lw_At p s m meth c b L xs) (hc : rl_call x y)
    (hM1 : ∀ r h1, x = some (r, h1) → gx_Met M1 (gx_R 0 :: zs.map gx_I) (pc_h Z) r h1) (hM2 : ∀ r h1, y = some (r, h1) → gx_Met M2 (gx_R 0 :: zs.map gx_I) (pm_h X) r h1) (vk1 : gx_VK M1 n 0) (vk2 : gx_VK M2 n 1) (hl1 : Cond.methodLink R_law ix1 M1.1 ∈ lw_tbl) (hl2 : Cond.methodLink R_law ix2 M2.1 ∈ lw_tbl) (f1 : lw_fit M1) (f2 : lw_fit M2) (hn : zs.length = n)
    (u1 : lw_push p l e s m below meth c b ls (P + 1) len zs) (u2 : lw_push p l e s m below meth c b ls (P + len + 5) len zs) (h4 : ls.size = 4) (l1 : ls[1]? = some (.val (.ref (a1 0)))) (l2 : ls[2]? = some (.val (.ref (a2 0))))
    (dd : decode code P = .ok (.aload_n 1, 1) ∧ decode code (P + 1 + len) = .ok (.invokevirtual ix1, 3) ∧ decode code (P + len + 4) = .ok (.aload_n 2, 1) ∧ decode code (P + len + 5 + len) = .ok (.invokevirtual ix2, 3) ∧ decode code (P + len + 5 + len + 3) = .ok (.if_icmp .eq off, 3)) (ht : ((P + len + 5 + len + 3 : Nat) : Int) + off = ((675 : Nat) : Int)) (B : lw_B D cA s a1 a2 H locs (pc_h Z) (pm_h X))
    (kk : ∀ (b1 b2 : Nat → Nat) (H1 : Heap) (locs1 : List Loc) (Z' X' : Nat → Nat → Int), b1 0 = a1 0 → b2 0 = a2 0 → rl Z' X' → lw_B D cA s b1 b2 H1 locs1 (pc_h Z') (pm_h X') → W p l e room_1 s m #[Value.ref b] below meth c H1 locs1 600000 7302250 Q (F0 m 675 ls [])) : W p l e room_1 s m #[Value.ref b] below meth c H locs 600000 7302250 Q (F0 m P ls []) := by
  obtain ⟨r, Z', X', e1, e2, hrl⟩ := hc
  obtain ⟨d0, d1, d2, d3, d4⟩ := dd
  obtain ⟨hx, hb, -⟩ := id C0
  have mp : ∀ ad : Nat → Nat, (zs.map gx_I).map (gx_v ad) = zs.map (fun z => Value.int (Int32.ofInt z)) := fun ad => by rw [List.map_map]; rfl
  have hv : ∀ n, ∀ v ∈ zs.map gx_I, gx_vl n v := fun n v hv => by
    obtain ⟨z, -, rfl⟩ := List.mem_map.mp hv
    trivial
  refine lv_aload_n hx hb d0 rfl l1 ?_
  refine u1 _ _ _ _ _ _ B.1.2 ?_
  rw [← mp a1]
  refine lw_callV (w := 18) C0 (hM1 r _ e1) vk1 (by exact pc_L0) hl1 (by rw [List.length_map]; exact hn) f1.2.2 f1.1 f1.2.1 ⟨Nat.le_refl _, Nat.le_refl _⟩ (hv _) h4 (by decide) d1 B (fun b1 H1 locs1 q1 B1 => ?_)
  rw [show P + 1 + len + 3 = P + len + 4 by omega]
  refine lv_aload_n hx hb d2 rfl l2 ?_
  rw [show P + len + 4 + 1 = P + len + 5 by omega]
  refine u2 _ _ _ _ _ _ B1.1.2 ?_
  rw [← mp a2]
  refine lw_callV (w := 30) C0 (hM2 r _ e2) vk2 (by rfl) hl2 (by rw [List.length_map]; exact hn) f2.2.2 f2.1 f2.2.1 ⟨Nat.le_refl _, Nat.le_refl _⟩ (hv _) h4 (by simp [Value.category]) d3 B1.swap (fun b2 H2 locs2 q2 B2 => ?_)
  refine lv_icmp_eq hx hb d4 ht (fun _ => kk b1 b2 H2 locs2 Z' X' q1 q2 hrl B2.swap) (fun z => absurd rfl z)
end LWC
