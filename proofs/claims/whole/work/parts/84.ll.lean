/-! the law's walk: its loop -/
theorem lw_d32 : decode code 32 = .ok (.tableswitch 643 0 20 #[100, 123, 136, 149, 172, 205, 238, 281, 314, 337, 350, 373, 396, 429, 462, 485, 528, 561, 574, 597, 620], 100) := by decide +kernel
theorem lw_31 (x : Int32) : 0 ≤ (x &&& 31).toInt ∧ (x &&& 31).toInt ≤ 31 := by
  have h : (x &&& 31).toBitVec.toNat ≤ 31 := by
    rw [Int32.toBitVec_and, BitVec.toNat_and]
    exact Nat.and_le_right
  have e : (x &&& 31).toInt = ((x &&& 31).toBitVec.toNat : Int) := by
    show (x &&& 31).toBitVec.toInt = _
    exact BitVec.toInt_eq_toNat_of_lt (by omega)
  omega
section LWL
variable {p : Program} {l : Launch} {e : Env} {s : State} {m : MethodId} {below : List Frame} {meth : Method} {c : Code} {b L : Nat} {xs : Nat → Int32} {cA : Nat → ClassId} {D : va_G} {q1 q2 : Nat}
theorem lw_switch {ls : Array Slot} {j : Nat} {Z X : Nat → Nat → Int} {H : Heap} {locs : List Loc} {Q : State → Prop} {x : Int32} (C0 : lw_At p s m meth c b L xs) (hL : L ≤ 2048) (hj : j + 4 ≤ L) (I : lw_I D cA s b q1 q2 j ls H locs Z X) (h1 : 0 ≤ x.toInt) (kk : ∀ (H1 : Heap) (locs1 : List Loc) (Z' X' : Nat → Nat → Int), lw_I D cA s b q1 q2 j ls H1 locs1 Z' X' → W p l e room_1 s m #[Value.ref b] below meth c H1 locs1 600000 7302250 Q (F0 m 675 ls [])) : W p l e room_1 s m #[Value.ref b] below meth c H locs 600000 7302250 Q (F0 m 32 ls [.int x]) := by
  obtain ⟨hx, hb, -⟩ := id C0
  by_cases c : 20 < x.toInt
  · refine lv_tableOut (tgt := 675) hx hb lw_d32 (Or.inr c) (by decide) ?_
    exact kk H locs Z X I
  rcases (show x.toInt = 0 ∨ x.toInt = 1 ∨ x.toInt = 2 ∨ x.toInt = 3 ∨ x.toInt = 4 ∨ x.toInt = 5 ∨ x.toInt = 6 ∨ x.toInt = 7 ∨ x.toInt = 8 ∨ x.toInt = 9 ∨ x.toInt = 10 ∨ x.toInt = 11 ∨ x.toInt = 12 ∨ x.toInt = 13 ∨ x.toInt = 14 ∨ x.toInt = 15 ∨ x.toInt = 16 ∨ x.toInt = 17 ∨ x.toInt = 18 ∨ x.toInt = 19 ∨ x.toInt = 20 by omega) with q | q | q | q | q | q | q | q | q | q | q | q | q | q | q | q | q | q | q | q | q
  · refine lv_tableIn (tgt := 132) (off := 100) hx hb lw_d32 (by rw [q]; decide) (by rw [q]; decide) (by rw [q]; rfl) (by decide) ?_
    exact lw_k0 C0 hL hj I kk
  · refine lv_tableIn (tgt := 155) (off := 123) hx hb lw_d32 (by rw [q]; decide) (by rw [q]; decide) (by rw [q]; rfl) (by decide) ?_
    exact lw_k1 C0 hL hj I kk
  · refine lv_tableIn (tgt := 168) (off := 136) hx hb lw_d32 (by rw [q]; decide) (by rw [q]; decide) (by rw [q]; rfl) (by decide) ?_
    exact lw_k2 C0 hL hj I kk
  · refine lv_tableIn (tgt := 181) (off := 149) hx hb lw_d32 (by rw [q]; decide) (by rw [q]; decide) (by rw [q]; rfl) (by decide) ?_
    exact lw_k3 C0 hL hj I kk
  · refine lv_tableIn (tgt := 204) (off := 172) hx hb lw_d32 (by rw [q]; decide) (by rw [q]; decide) (by rw [q]; rfl) (by decide) ?_
    exact lw_k4 C0 hL hj I kk
  · refine lv_tableIn (tgt := 237) (off := 205) hx hb lw_d32 (by rw [q]; decide) (by rw [q]; decide) (by rw [q]; rfl) (by decide) ?_
    exact lw_k5 C0 hL hj I kk
  · refine lv_tableIn (tgt := 270) (off := 238) hx hb lw_d32 (by rw [q]; decide) (by rw [q]; decide) (by rw [q]; rfl) (by decide) ?_
    exact lw_k6 C0 hL hj I kk
  · refine lv_tableIn (tgt := 313) (off := 281) hx hb lw_d32 (by rw [q]; decide) (by rw [q]; decide) (by rw [q]; rfl) (by decide) ?_
    exact lw_k7 C0 hL hj I kk
  · refine lv_tableIn (tgt := 346) (off := 314) hx hb lw_d32 (by rw [q]; decide) (by rw [q]; decide) (by rw [q]; rfl) (by decide) ?_
    exact lw_k8 C0 hL hj I kk
  · refine lv_tableIn (tgt := 369) (off := 337) hx hb lw_d32 (by rw [q]; decide) (by rw [q]; decide) (by rw [q]; rfl) (by decide) ?_
    exact lw_k9 C0 hL hj I kk
  · refine lv_tableIn (tgt := 382) (off := 350) hx hb lw_d32 (by rw [q]; decide) (by rw [q]; decide) (by rw [q]; rfl) (by decide) ?_
    exact lw_k10 C0 hL hj I kk
  · refine lv_tableIn (tgt := 405) (off := 373) hx hb lw_d32 (by rw [q]; decide) (by rw [q]; decide) (by rw [q]; rfl) (by decide) ?_
    exact lw_k11 C0 hL hj I kk
  · refine lv_tableIn (tgt := 428) (off := 396) hx hb lw_d32 (by rw [q]; decide) (by rw [q]; decide) (by rw [q]; rfl) (by decide) ?_
    exact lw_k12 C0 hL hj I kk
  · refine lv_tableIn (tgt := 461) (off := 429) hx hb lw_d32 (by rw [q]; decide) (by rw [q]; decide) (by rw [q]; rfl) (by decide) ?_
    exact lw_k13 C0 hL hj I kk
  · refine lv_tableIn (tgt := 494) (off := 462) hx hb lw_d32 (by rw [q]; decide) (by rw [q]; decide) (by rw [q]; rfl) (by decide) ?_
    exact lw_k14 C0 hL hj I kk
  · refine lv_tableIn (tgt := 517) (off := 485) hx hb lw_d32 (by rw [q]; decide) (by rw [q]; decide) (by rw [q]; rfl) (by decide) ?_
    exact lw_k15 C0 hL hj I kk
  · refine lv_tableIn (tgt := 560) (off := 528) hx hb lw_d32 (by rw [q]; decide) (by rw [q]; decide) (by rw [q]; rfl) (by decide) ?_
    exact lw_k16 C0 hL hj I kk
  · refine lv_tableIn (tgt := 593) (off := 561) hx hb lw_d32 (by rw [q]; decide) (by rw [q]; decide) (by rw [q]; rfl) (by decide) ?_
    exact lw_k17 C0 hL hj I kk
  · refine lv_tableIn (tgt := 606) (off := 574) hx hb lw_d32 (by rw [q]; decide) (by rw [q]; decide) (by rw [q]; rfl) (by decide) ?_
    exact lw_k18 C0 hL hj I kk
  · refine lv_tableIn (tgt := 629) (off := 597) hx hb lw_d32 (by rw [q]; decide) (by rw [q]; decide) (by rw [q]; rfl) (by decide) ?_
    exact lw_k19 C0 hL hj I kk
  · refine lv_tableIn (tgt := 652) (off := 620) hx hb lw_d32 (by rw [q]; decide) (by rw [q]; decide) (by rw [q]; rfl) (by decide) ?_
    exact lw_k20 C0 hL hj I kk
theorem lw_loop (C0 : lw_At p s m meth c b L xs) (hL : L ≤ 2048) : ∀ (n j : Nat), L < j + 4 * n → j ≤ L + 4 → ∀ (ls : Array Slot) (H : Heap) (locs : List Loc) (Z X : Nat → Nat → Int), lw_I D cA s b q1 q2 j ls H locs Z X → W p l e room_1 s m #[Value.ref b] below meth c H locs 600000 7302250 (lw_Z below #[Value.ref b] s) (F0 m 18 ls []) := by
  obtain ⟨hx, hb, hr, hml, hown, hts, hX, hbl, hlocks, hgv⟩ := id C0
  have hbA : ¬ lw_A s b := Nat.not_le.mpr hbl
  have eL : Int32.ofNat L - Int32.ofInt 4 = Int32.ofInt ((L : Int) - 4) := by
    rw [Int32.ofInt_sub, ← Int32.ofInt_eq_ofNat]
  intro n
  induction n with
  | zero =>
    intro j h1 h2 ls H locs Z X I
    obtain ⟨hl, hrl, a1, a2, ea, eb, B⟩ := id I
    refine lv_iload_n hx hb (show decode code 18 = .ok (.iload_n 3, 1) by decide +kernel) rfl (lv_at hl 0 rfl) ?_
    refine lv_aload_n hx hb (show decode code 19 = .ok (.aload_n 0, 1) by decide +kernel) rfl (lv_at hl 3 rfl) ?_
    refine va_slen hx hb hX hbl hbA B.1.2 (show decode code 20 = .ok (.arraylength, 1) by decide +kernel) ?_
    refine lv_iconst hx hb (show decode code 21 = .ok (.iconst 4, 1) by decide +kernel) rfl ?_
    refine lv_isub hx hb (show decode code 22 = .ok (.isub, 1) by decide +kernel) ?_
    rw [eL]
    refine lv_icmp_gt (tgt := 681) hx hb (show decode code 23 = .ok (.if_icmp .gt 658, 3) by decide +kernel) (by decide) (fun _ => ?_) (fun z => absurd ((gx_ltI (a := (L : Int) - 4) (b := (j : Int)) ⟨by omega, by omega⟩ ⟨by omega, by omega⟩).mpr (by omega)) z)
    refine lv_iconst (v := 1) hx hb (show decode code 681 = .ok (.iconst 1, 1) by decide +kernel) (by decide) ?_
    exact va_forget B.1.2.2.2 (lw_ret hx hb hr hlocks (by decide +kernel))
  | succ n ih =>
    intro j h1 h2 ls H locs Z X I
    obtain ⟨hl, hrl, a1, a2, ea, eb, B⟩ := id I
    refine lv_iload_n hx hb (show decode code 18 = .ok (.iload_n 3, 1) by decide +kernel) rfl (lv_at hl 0 rfl) ?_
    refine lv_aload_n hx hb (show decode code 19 = .ok (.aload_n 0, 1) by decide +kernel) rfl (lv_at hl 3 rfl) ?_
    refine va_slen hx hb hX hbl hbA B.1.2 (show decode code 20 = .ok (.arraylength, 1) by decide +kernel) ?_
    refine lv_iconst hx hb (show decode code 21 = .ok (.iconst 4, 1) by decide +kernel) rfl ?_
    refine lv_isub hx hb (show decode code 22 = .ok (.isub, 1) by decide +kernel) ?_
    rw [eL]
    refine lv_icmp_gt (tgt := 681) hx hb (show decode code 23 = .ok (.if_icmp .gt 658, 3) by decide +kernel) (by decide) (fun _ => ?_) (fun z => ?_)
    · refine lv_iconst (v := 1) hx hb (show decode code 681 = .ok (.iconst 1, 1) by decide +kernel) (by decide) ?_
      exact va_forget B.1.2.2.2 (lw_ret hx hb hr hlocks (by decide +kernel))
    · have hj : j + 4 ≤ L := by
        rcases Nat.lt_or_ge L (j + 4) with w | w
        · exact absurd ((gx_ltI (a := (L : Int) - 4) (b := (j : Int)) ⟨by omega, by omega⟩ ⟨by omega, by omega⟩).mpr (by omega)) z
        · exact w
      obtain ⟨i1, i2⟩ := gx_in (i := (j : Int)) (n := L) (by omega) (by omega) (by omega)
      refine lv_aload_n hx hb (show decode code 26 = .ok (.aload_n 0, 1) by decide +kernel) rfl (lv_at hl 3 rfl) ?_
      refine lv_iload_n hx hb (show decode code 27 = .ok (.iload_n 3, 1) by decide +kernel) rfl (lv_at hl 0 rfl) ?_
      refine va_sld hx hb hX hbl hbA B.1.2 i1 (show decode code 28 = .ok (.iaload, 1) by decide +kernel) ?_
      refine lv_bipush (v := 31) hx hb (show decode code 29 = .ok (.bipush 31, 2) by decide +kernel) (by decide) ?_
      refine lv_iand hx hb (show decode code 31 = .ok (.iand, 1) by decide +kernel) ?_
      refine lw_switch C0 hL hj I (lw_31 _).1 (fun H1 locs1 Z' X' I1 => ?_)
      obtain ⟨hl1, hrl1, I2⟩ := I1
      refine lv_iinc (k := 0) (v := Int32.ofInt ((j + 4 : Nat) : Int)) (lv' := [(3, .int (Int32.ofInt ((j + 4 : Nat) : Int))), (2, .ref q2), (1, .ref q1), (0, .ref b)]) hx hb (show decode code 675 = .ok (.iinc 3 4, 3) by decide +kernel) hl1 rfl (by rw [← Int32.ofInt_add]; rfl) (by decide) rfl (fun ls' hl' => ?_)
      refine lv_goto (tgt := 18) hx hb (show decode code 678 = .ok (.goto (-660), 3) by decide +kernel) (by decide) ?_
      exact ih (j + 4) (by omega) (by omega) ls' H1 locs1 Z' X' ⟨hl', hrl1, I2⟩
end LWL
