/-! the law's walk: two worlds -/
abbrev lw_A (s : State) : Nat → Prop := fun q => s.heap.size ≤ q
/-- two worlds, apart -/
def lw_B (D : va_G) (cA : Nat → ClassId) (s : State) (a1 a2 : Nat → Nat) (H : Heap) (locs : List Loc) (h g : gx_H) : Prop :=
  (gx_Kn D cA s ∧ va_S (lw_A s) s.heap H locs) ∧ (gx_ok h ∧ va_P D gx_cls (gx_W cA a1 h) H ∧ va_D (lw_A s) (gx_W cA a1 h)) ∧ (gx_ok g ∧ va_P D gx_cls (gx_W cA a2 g) H ∧ va_D (lw_A s) (gx_W cA a2 g)) ∧ ∀ (i j : Nat) (p q : Nat × va_E), (gx_W cA a1 h)[i]? = some p → (gx_W cA a2 g)[j]? = some q → p.1 ≠ q.1
theorem lw_B.swap {D : va_G} {cA : Nat → ClassId} {s : State} {a1 a2 : Nat → Nat} {H : Heap} {locs : List Loc} {h g : gx_H} (B : lw_B D cA s a1 a2 H locs h g) : lw_B D cA s a2 a1 H locs g h := ⟨B.1, B.2.2.1, B.2.1, fun i j p q hp hq e => B.2.2.2 j i q p hq hp e.symm⟩
section LWR
variable {p : Program} {l : Launch} {e : Env} {s : State} {m : MethodId} {below : List Frame} {meth : Method} {c : Code} {H : Heap} {locs : List Loc} {cells slots : Nat} {Q : State → Prop} {b L : Nat} {xs : Nat → Int32}
variable {pc : Nat} {ls : Array Slot} {rest st0 : List Value} {a : Array Value} {mc ms : Nat}
theorem lw_after {ret : Option FieldType} {cA : Nat → ClassId} {D : va_G} {a1 a2 : Nat → Nat} {r : Int} {h h1 g : gx_H} (hr : va_Run p l e room_1 s m #[Value.ref b] below meth c H locs cells slots mc ms (F0 m pc ls st0) rest (gx_Q ret cA D a1 h.1.length (va_A (gx_W cA a1 h) H.size) r h1 a) (va_A (gx_W cA a1 h) H.size)) (B : lw_B D cA s a1 a2 H locs h g)
    (kk : ∀ (ad1 : Nat → Nat) (H1 : Heap) (locs1 : List Loc), (∀ o, o < h.1.length → ad1 o = a1 o) → lw_B D cA s ad1 a2 H1 locs1 h1 g → W p l e room_1 s m #[Value.ref b] below meth c H1 locs1 (cells + mc) (slots + ms) Q (F0 m (pc + 3) ls ((gx_ret ret r).toList ++ rest))) : W p l e room_1 s m #[Value.ref b] below meth c H locs cells slots Q (F0 m pc ls st0) := by
  intro T hT X
  obtain ⟨v, st₀, t, T', Lx, h0, X', hL, e1, e2, ⟨⟨ad1, g1, g2, hv, g3, g4, g5⟩, hz, hk⟩, st⟩ := hr T hT X
  cases hv
  rw [h0] at hz hk
  obtain ⟨⟨bK, bS⟩, ⟨o1, P1, D1⟩, ⟨o2, P2, D2⟩, ap⟩ := B
  have hA : ∀ q, va_A (gx_W cA a1 h) H.size q → lw_A s q := fun q hq => by
    rcases hq with ⟨k, e, hk⟩ | hq
    · exact D1.2 k (q, e) hk
    · exact Nat.le_trans bS.1 hq
  have hn : ∀ (j : Nat) (q : Nat × va_E), (gx_W cA a2 g)[j]? = some q → ¬ va_A (gx_W cA a1 h) H.size q.1 := fun j q hq hz => by
    rcases hz with ⟨k, e, hk⟩ | hz
    · exact ap k j (q.1, e) q hk hq rfl
    · exact absurd (P2 j q hq).lt (Nat.not_lt.mpr hz)
  obtain ⟨t2, b1, b2⟩ := kk ad1 T'.heap (locs ++ Lx) g1 ⟨⟨bK, ⟨Nat.le_trans bS.1 (by rw [e1]; exact hz), fun q h1 h2 => by rw [e1, hk q (Nat.lt_of_lt_of_le h1 bS.1) (fun z => h2 (hA q z))]; exact bS.2.1 q h1 h2, fun q hq => by
      rcases List.mem_append.mp hq with h | h
      · exact bS.2.2 q h
      · exact hA _ (hL q h)⟩⟩, ⟨g3, by rw [e1]; exact g4, g5.weaken (fun _ _ _ z => hA _ z)⟩, ⟨o2, by rw [e1]; exact P2.kept (fun k q hq => hk q.1 (P2 k q hq).lt (hn k q hq)), D2⟩, fun i j x y hx hy e => hn j y hy (by rw [← e]; exact g5.2 i x hx)⟩ T' rfl X'
  exact ⟨t2, st t2 b1, b2⟩
theorem lw_tb (C0 : lw_At p s m meth c b L xs) : ∀ w ∈ gx_tbl, w.before #[Value.ref b] s = true := fun w hw => C0.2.2.2.2.2.1 w (List.mem_filter.mp hw).1
/-- a call of a method of the object in cell 0 -/
theorem lw_callV {Mc : gx_M} {avs : List gx_V} {ci ix n w : Nat} {ty : FieldType} {cA : Nat → ClassId} {D : va_G} {a1 a2 : Nat → Nat} {r : Int} {h h1 g : gx_H} (C0 : lw_At p s m meth c b L xs) (hM : gx_Met Mc (gx_R 0 :: avs) h r h1) (vk : gx_VK Mc n ci) (hk : h.1[0]? = some (ci + 3, w)) (hl : Cond.methodLink R_law ix Mc.1 ∈ lw_tbl) (hn : avs.length = n) (hret : Mc.2.2.2.1 = some ty) (hfr : Mc.2.2.2.2.1.frames + 1 ≤ 2048 ∧ 8 + (Mc.2.2.1 + 11) + Mc.2.2.2.2.1.locals ≤ 84000) (h0 : Mc.2.2.2.2.2.1 = 0 ∧ Mc.2.2.2.2.2.2 = 0) (hu : cells ≤ 600000 ∧ slots ≤ 7302250) (hv : ∀ v ∈ avs, gx_vl h.1.length v) (hls : ls.size = 4)
    (h8 : (rest.map fun v => v.category).sum ≤ 8) (hd : decode code pc = .ok (.invokevirtual ix, 3)) (B : lw_B D cA s a1 a2 H locs h g)
    (kk : ∀ (ad1 : Nat → Nat) (H1 : Heap) (locs1 : List Loc), ad1 0 = a1 0 → lw_B D cA s ad1 a2 H1 locs1 h1 g → W p l e room_1 s m #[Value.ref b] below meth c H1 locs1 cells slots Q (F0 m (pc + 3) ls (.int (Int32.ofInt r) :: rest))) : W p l e room_1 s m #[Value.ref b] below meth c H locs cells slots Q (F0 m pc ls ((avs.map (gx_v a1)).reverse ++ .ref (a1 0) :: rest)) := by
  obtain ⟨ck, hin, hsel, q, hcl, hq⟩ := vk
  have hts := lw_tb C0
  have hcall : CallW room_1 s #[Value.ref b] R_law Mc.1.cls ix Mc.1 Mc.2.1 Mc.2.2.1 Mc.2.2.2.1 (gx_ws Mc) Mc.2.2.2.2.1 Mc.2.2.2.2.2.1 Mc.2.2.2.2.2.2 n :=
    ⟨callB_of n hts (gx_goodIn ck.1) rfl ck.2.2.2.1 ck.2.2.2.2 (hts _ (gx_gd ck.2.1 rfl)) (hts _ (gx_gd hl rfl)) ck.2.2.1 hfr, hts _ (gx_gd hin rfl), hts _ (gx_gd hsel rfl)⟩
  have hlt : 0 < h.1.length := gx_lt hk
  have hat : (gx_W cA a1 h)[0]? = some (a1 0, .inr (ci, gx_fs a1 ci w (h.2 0))) := gx_W_at hk
  obtain ⟨hx, hb, hr0, hml, hown, -⟩ := id C0
  obtain ⟨c0, s0⟩ := h0
  refine lw_after (mc := Mc.2.2.2.2.2.1) (ms := Mc.2.2.2.2.2.2) (rest := rest) (h1 := h1) (r := r) (ret := Mc.2.2.2.1) (a := ((gx_R 0 :: avs).map (gx_v a1)).toArray) (va_runV ⟨hx, hb, hml, hown, hts⟩ (hM l D cA a1 H.size) hcall ⟨gx_blind, ?_, fun U hU hW => ⟨rfl, by rw [hU], gx_Kn.warm hW B.1.1, B.2.1.1, List.forall_mem_cons.mpr ⟨hlt, hv⟩, by rw [hU]; exact B.2.1.2.1, B.2.1.2.2.weaken (fun _ _ _ _ => trivial)⟩⟩ rfl (by simpa using hn) hls rfl (lv_room h8) hd ⟨by rw [c0]; exact hu.1, by rw [s0]; exact hu.2⟩) B (fun ad1 H1 locs1 g1 B1 => ?_)
  · rw [← hq]
    exact va_recv B.1.1.1 B.2.1.2.1 hcl hat
  · rw [hret, c0, s0]
    exact kk ad1 H1 locs1 (g1 0 hlt) B1
/-- a constructor of the object in cell 0 -/
theorem lw_callI {Mc : gx_M} {ix : Nat} {cA : Nat → ClassId} {D : va_G} {a1 a2 : Nat → Nat} {r : Int} {h h1 g : gx_H} (C0 : lw_At p s m meth c b L xs) (hM : gx_Met Mc [gx_R 0] h r h1) (ik : gx_IK Mc) (hlt : 0 < h.1.length) (hl : Cond.methodLink R_law ix Mc.1 ∈ lw_tbl) (hfr : Mc.2.2.2.2.1.frames + 1 ≤ 2048 ∧ 8 + (Mc.2.2.1 + 11) + Mc.2.2.2.2.1.locals ≤ 84000) (hu : cells + Mc.2.2.2.2.2.1 ≤ 600000 ∧ slots + Mc.2.2.2.2.2.2 ≤ 7302250) (hls : ls.size = 4)
    (h8 : (rest.map fun v => v.category).sum ≤ 8) (hd : decode code pc = .ok (.invokespecial ix, 3)) (B : lw_B D cA s a1 a2 H locs h g)
    (kk : ∀ (ad1 : Nat → Nat) (H1 : Heap) (locs1 : List Loc), ad1 0 = a1 0 → lw_B D cA s ad1 a2 H1 locs1 h1 g → W p l e room_1 s m #[Value.ref b] below meth c H1 locs1 (cells + Mc.2.2.2.2.2.1) (slots + Mc.2.2.2.2.2.2) Q (F0 m (pc + 3) ls rest)) : W p l e room_1 s m #[Value.ref b] below meth c H locs cells slots Q (F0 m pc ls (.ref (a1 0) :: rest)) := by
  obtain ⟨ck, hin, hnm, hret⟩ := ik
  have hts := lw_tb C0
  have hcall : CallB room_1 s #[Value.ref b] R_law ix Mc.1 Mc.2.1 Mc.2.2.1 Mc.2.2.2.1 (gx_ws Mc) Mc.2.2.2.2.1 Mc.2.2.2.2.2.1 Mc.2.2.2.2.2.2 0 :=
    callB_of 0 hts (gx_goodIn ck.1) rfl ck.2.2.2.1 ck.2.2.2.2 (hts _ (gx_gd ck.2.1 rfl)) (hts _ (gx_gd hl rfl)) ck.2.2.1 hfr
  rw [hret] at hcall
  obtain ⟨hx, hb, hr0, hml, hown, -⟩ := id C0
  refine lw_after (mc := Mc.2.2.2.2.2.1) (ms := Mc.2.2.2.2.2.2) (rest := rest) (h1 := h1) (r := r) (ret := Mc.2.2.2.1) (a := ([gx_R 0].map (gx_v a1)).toArray) (va_runI (As := []) ⟨hx, hb, hml, hown, hts⟩ (hM l D cA a1 H.size) ⟨hcall, hnm, hts _ (gx_gd hin rfl)⟩ ⟨gx_blind, fun U hU hW => ⟨rfl, by rw [hU], gx_Kn.warm hW B.1.1, B.2.1.1, List.forall_mem_cons.mpr ⟨hlt, fun _ h => by cases h⟩, by rw [hU]; exact B.2.1.2.1, B.2.1.2.2.weaken (fun _ _ _ _ => trivial)⟩⟩ rfl rfl hls rfl (lv_room h8) hd hu) B (fun ad1 H1 locs1 g1 B1 => ?_)
  rw [hret]
  exact kk ad1 H1 locs1 (g1 0 hlt) B1
end LWR
