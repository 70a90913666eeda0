/-! rows: division, longs, bits, branches, stores, the heap, returns -/
def gq_g {β : Type} (c : Prop) [Decidable c] (A : Option β) : Option β := if c then A else none
theorem gq_g_in {β : Type} {c : Prop} [Decidable c] {A : Option β} {r : β} (h : gq_g c A = some r) : c ∧ A = some r := by
  unfold gq_g at h
  by_cases hc : c
  · rw [if_pos hc] at h; exact ⟨hc, h⟩
  · rw [if_neg hc] at h; cases h
theorem gq_g_ok {β : Type} {c : Prop} [Decidable c] {A : Option β} (h : c) : gq_g c A = A := if_pos h
section GXR
variable {M : gx_M} {u : Nat × Nat} {pc : Nat} {l : List (Option gx_V)} {st : List gx_V} {h : gx_H} {res : Option (Int × gx_H)}
/-- the check stands ahead of the rest -/
theorem gx_g {c : Prop} [Decidable c] (k : c → gx_Y M u pc l st h res) : gx_Y M u pc l st h (gq_g c res) := by
  intro r h' hr
  obtain ⟨hc, hr⟩ := gq_g_in hr
  exact k hc r h' hr
theorem gx_ite {c : Prop} [Decidable c] {A B : Option (Int × gx_H)} (ka : c → gx_Y M u pc l st h A) (kb : ¬ c → gx_Y M u pc l st h B) : gx_Y M u pc l st h (if c then A else B) := by
  by_cases hc : c
  · rw [if_pos hc]; exact ka hc
  · rw [if_neg hc]; exact kb hc
theorem gx_idiv {a b : Int} (ha : gx_i a) (h0 : 0 < b) (hb : gx_i b) (hd : decode M.2.1 pc = .ok (.idiv, 1)) (k : gx_Y M u (pc + 1) l (gx_I (a.tdiv b) :: st) h res) : gx_Y M u pc l (gx_I b :: gx_I a :: st) h res :=
  gx_pure k (fun _ hs _ => gx_c2 hs trivial) (fun _ _ _ _ _ _ _ _ _ _ _ _ _ _ E _ w => lv_idiv E.1 E.2.1 hd (gx_nz h0 hb) (by rw [gx_div ha h0 hb]; exact w))
theorem gx_irem {a b : Int} (ha : gx_i a) (h0 : 0 < b) (hb : gx_i b) (hd : decode M.2.1 pc = .ok (.irem, 1)) (k : gx_Y M u (pc + 1) l (gx_I (a.tmod b) :: st) h res) : gx_Y M u pc l (gx_I b :: gx_I a :: st) h res :=
  gx_pure k (fun _ hs _ => gx_c2 hs trivial) (fun _ _ _ _ _ _ _ _ _ _ _ _ _ _ E _ w => lv_irem E.1 E.2.1 hd (gx_nz h0 hb) (by rw [gx_div ha h0 hb, ← Int32.ofInt_mul, ← Int32.ofInt_sub, gx_tm]; exact w))
theorem gx_ldiv {a b : Int} (ha : gx_l a) (h0 : 0 < b) (hb : gx_l b) (hd : decode M.2.1 pc = .ok (.ldiv, 1)) (k : gx_Y M u (pc + 1) l (gx_L (a.tdiv b) :: st) h res) : gx_Y M u pc l (gx_L b :: gx_L a :: st) h res :=
  gx_pure k (fun _ hs _ => gx_c2 hs trivial) (fun _ _ _ _ _ _ _ _ _ _ _ _ _ _ E _ w => lv_ldiv E.1 E.2.1 hd (gx_nzl h0 hb) (by rw [gx_divl ha h0 hb]; exact w))
theorem gx_lrem {a b : Int} (ha : gx_l a) (h0 : 0 < b) (hb : gx_l b) (hd : decode M.2.1 pc = .ok (.lrem, 1)) (k : gx_Y M u (pc + 1) l (gx_L (a.tmod b) :: st) h res) : gx_Y M u pc l (gx_L b :: gx_L a :: st) h res :=
  gx_pure k (fun _ hs _ => gx_c2 hs trivial) (fun _ _ _ _ _ _ _ _ _ _ _ _ _ _ E _ w => lv_lrem E.1 E.2.1 hd (gx_nzl h0 hb) (by rw [gx_divl ha h0 hb, ← Int64.ofInt_mul, ← Int64.ofInt_sub, gx_tm]; exact w))
theorem gx_i2l {a : Int} (ha : gx_i a) (hd : decode M.2.1 pc = .ok (.i2l, 1)) (k : gx_Y M u (pc + 1) l (gx_L a :: st) h res) : gx_Y M u pc l (gx_I a :: st) h res :=
  gx_pure k (fun _ hs _ => gx_c1 hs trivial) (fun _ _ _ _ _ _ _ _ _ _ _ _ _ _ E _ w => lv_i2l E.1 E.2.1 hd (Int32.toInt64_ofInt ha.1 ha.2) w)
theorem gx_l2i {a : Int} (hd : decode M.2.1 pc = .ok (.l2i, 1)) (k : gx_Y M u (pc + 1) l (gx_I a :: st) h res) : gx_Y M u pc l (gx_L a :: st) h res :=
  gx_pure k (fun _ hs _ => gx_c1 hs trivial) (fun _ _ _ _ _ _ _ _ _ _ _ _ _ _ E _ w => lv_l2i E.1 E.2.1 hd Int64.toInt32_ofInt w)
def gq_and (a b : Int) : Int := (Int32.ofInt a &&& Int32.ofInt b).toInt
def gq_or (a b : Int) : Int := (Int32.ofInt a ||| Int32.ofInt b).toInt
def gq_shl (a b : Int) : Int := (Int32.ofInt a <<< (Int32.ofInt b &&& 31)).toInt
def gq_shr (a b : Int) : Int := (Int32.ofInt a >>> (Int32.ofInt b &&& 31)).toInt
def gq_land (a b : Int) : Int := (Int64.ofInt a &&& Int64.ofInt b).toInt
theorem gx_iand {a b : Int} (hd : decode M.2.1 pc = .ok (.iand, 1)) (k : gx_Y M u (pc + 1) l (gx_I (gq_and a b) :: st) h res) : gx_Y M u pc l (gx_I b :: gx_I a :: st) h res :=
  gx_pure k (fun _ hs _ => gx_c2 hs trivial) (fun _ _ _ _ _ _ _ _ _ _ _ _ _ _ E _ w => lv_iand E.1 E.2.1 hd (by rw [← Int32.ofInt_toInt (Int32.ofInt a &&& Int32.ofInt b)]; exact w))
theorem gx_ior {a b : Int} (hd : decode M.2.1 pc = .ok (.ior, 1)) (k : gx_Y M u (pc + 1) l (gx_I (gq_or a b) :: st) h res) : gx_Y M u pc l (gx_I b :: gx_I a :: st) h res :=
  gx_pure k (fun _ hs _ => gx_c2 hs trivial) (fun _ _ _ _ _ _ _ _ _ _ _ _ _ _ E _ w => lv_ior E.1 E.2.1 hd (by rw [← Int32.ofInt_toInt (Int32.ofInt a ||| Int32.ofInt b)]; exact w))
theorem gx_ishl {a b : Int} (hd : decode M.2.1 pc = .ok (.ishl, 1)) (k : gx_Y M u (pc + 1) l (gx_I (gq_shl a b) :: st) h res) : gx_Y M u pc l (gx_I b :: gx_I a :: st) h res :=
  gx_pure k (fun _ hs _ => gx_c2 hs trivial) (fun _ _ _ _ _ _ _ _ _ _ _ _ _ _ E _ w => lv_ishl E.1 E.2.1 hd (by rw [← Int32.ofInt_toInt (Int32.ofInt a <<< (Int32.ofInt b &&& 31))]; exact w))
theorem gx_ishr {a b : Int} (hd : decode M.2.1 pc = .ok (.ishr, 1)) (k : gx_Y M u (pc + 1) l (gx_I (gq_shr a b) :: st) h res) : gx_Y M u pc l (gx_I b :: gx_I a :: st) h res :=
  gx_pure k (fun _ hs _ => gx_c2 hs trivial) (fun _ _ _ _ _ _ _ _ _ _ _ _ _ _ E _ w => lv_ishr E.1 E.2.1 hd (by rw [← Int32.ofInt_toInt (Int32.ofInt a >>> (Int32.ofInt b &&& 31))]; exact w))
theorem gx_land {a b : Int} (hd : decode M.2.1 pc = .ok (.land, 1)) (k : gx_Y M u (pc + 1) l (gx_L (gq_land a b) :: st) h res) : gx_Y M u pc l (gx_L b :: gx_L a :: st) h res :=
  gx_pure k (fun _ hs _ => gx_c2 hs trivial) (fun _ _ _ _ _ _ _ _ _ _ _ _ _ _ E _ w => lv_land E.1 E.2.1 hd (by rw [← Int64.ofInt_toInt (Int64.ofInt a &&& Int64.ofInt b)]; exact w))
end GXR
theorem gx_eI {a b : Int} (ha : gx_i a) (hb : gx_i b) : Int32.ofInt a = Int32.ofInt b ↔ a = b := by
  refine ⟨fun e => ?_, fun e => by rw [e]⟩
  have h1 := congrArg Int32.toInt e
  rw [Int32.toInt_ofInt_of_le (by omega) (by omega), Int32.toInt_ofInt_of_le (by omega) (by omega)] at h1
  exact h1
theorem gx_ltI {a b : Int} (ha : gx_i a) (hb : gx_i b) : Int32.ofInt a < Int32.ofInt b ↔ a < b := by
  rw [Int32.lt_iff_toInt_lt, Int32.toInt_ofInt_of_le (by omega) (by omega), Int32.toInt_ofInt_of_le (by omega) (by omega)]
theorem gx_leI {a b : Int} (ha : gx_i a) (hb : gx_i b) : Int32.ofInt a ≤ Int32.ofInt b ↔ a ≤ b := by
  rw [Int32.le_iff_toInt_le, Int32.toInt_ofInt_of_le (by omega) (by omega), Int32.toInt_ofInt_of_le (by omega) (by omega)]
theorem gx_ltL {a b : Int} (ha : gx_l a) (hb : gx_l b) : Int64.ofInt a < Int64.ofInt b ↔ a < b := by
  rw [Int64.lt_iff_toInt_lt, Int64.toInt_ofInt_of_le (by omega) (by omega), Int64.toInt_ofInt_of_le (by omega) (by omega)]
theorem gx_eL {a b : Int} (ha : gx_l a) (hb : gx_l b) : Int64.ofInt a = Int64.ofInt b ↔ a = b := by
  refine ⟨fun e => ?_, fun e => by rw [e]⟩
  have h1 := congrArg Int64.toInt e
  rw [Int64.toInt_ofInt_of_le (by omega) (by omega), Int64.toInt_ofInt_of_le (by omega) (by omega)] at h1
  exact h1
theorem gx_i0 : gx_i 0 := by decide
/-- a branch: two goals, by a test that the machine's test stands for -/
theorem gx_br {M : gx_M} {u : Nat × Nat} {pc pcA pcB : Nat} {l : List (Option gx_V)} {st st' : List gx_V} {h : gx_H} {A B : Option (Int × gx_H)} {c : Prop} [Decidable c] (ka : gx_Y M u pcA l st' h A) (kb : gx_Y M u pcB l st' h B)
    (hv : ∀ n, (∀ v ∈ st, gx_vl n v) → ∀ v ∈ st', gx_vl n v)
    (hw : ∀ (p : Program) (la : Launch) (e : Env) (s : State) (m : MethodId) (args : Array Value) (below : List Frame) (meth : Method) (cd : Code) (ad : Nat → Nat) (ls : Array Slot) (H : Heap) (locs : List Loc) (Q : State → Prop), gx_E M p s m args meth cd →
      (c → W p la e M.2.2.2.2.1 s m args below meth cd H locs u.1 u.2 Q (F0 m pcA ls (st'.map (gx_v ad)))) → (¬ c → W p la e M.2.2.2.2.1 s m args below meth cd H locs u.1 u.2 Q (F0 m pcB ls (st'.map (gx_v ad)))) → W p la e M.2.2.2.2.1 s m args below meth cd H locs u.1 u.2 Q (F0 m pc ls (st.map (gx_v ad)))) : gx_Y M u pc l st h (if c then A else B) := by
  intro r h' hr p la e s m args below meth cd D cA ad0 n0 A' ad ls H locs E Bd hs hl hh
  refine hw p la e s m args below meth cd ad ls H locs _ E (fun hc => ?_) (fun hc => ?_)
  · rw [if_pos hc] at hr
    exact ka r h' hr p la e s m args below meth cd D cA ad0 n0 A' ad ls H locs E Bd (hv _ hs) hl hh
  · rw [if_neg hc] at hr
    exact kb r h' hr p la e s m args below meth cd D cA ad0 n0 A' ad ls H locs E Bd (hv _ hs) hl hh
section GXB
variable {M : gx_M} {u : Nat × Nat} {pc : Nat} {l : List (Option gx_V)} {st : List gx_V} {h : gx_H} {A B : Option (Int × gx_H)} {off : Int} {tgt : Nat} {a b : Int}
theorem gx_t2 {n : Nat} {a b : gx_V} {st : List gx_V} (hs : ∀ w ∈ b :: a :: st, gx_vl n w) : ∀ w ∈ st, gx_vl n w := (List.forall_mem_cons.mp (List.forall_mem_cons.mp hs).2).2
theorem gx_t1 {n : Nat} {a : gx_V} {st : List gx_V} (hs : ∀ w ∈ a :: st, gx_vl n w) : ∀ w ∈ st, gx_vl n w := (List.forall_mem_cons.mp hs).2
theorem gx_icmp_eq (ha : gx_i a) (hb : gx_i b) (hd : decode M.2.1 pc = .ok (.if_icmp .eq off, 3)) (ht : (pc : Int) + off = (tgt : Int)) (ka : gx_Y M u tgt l st h A) (kb : gx_Y M u (pc + 3) l st h B) : gx_Y M u pc l (gx_I b :: gx_I a :: st) h (if a = b then A else B) :=
  gx_br ka kb (fun _ hs => gx_t2 hs) (fun _ _ _ _ _ _ _ _ _ _ _ _ _ _ E wa wb => lv_icmp_eq E.1 E.2.1 hd ht (fun z => wa ((gx_eI ha hb).mp z)) (fun z => wb (fun q => z ((gx_eI ha hb).mpr q))))
theorem gx_icmp_ne (ha : gx_i a) (hb : gx_i b) (hd : decode M.2.1 pc = .ok (.if_icmp .ne off, 3)) (ht : (pc : Int) + off = (tgt : Int)) (ka : gx_Y M u tgt l st h A) (kb : gx_Y M u (pc + 3) l st h B) : gx_Y M u pc l (gx_I b :: gx_I a :: st) h (if a = b then B else A) :=
  gx_br kb ka (fun _ hs => gx_t2 hs) (fun _ _ _ _ _ _ _ _ _ _ _ _ _ _ E wb wa => lv_icmp_ne E.1 E.2.1 hd ht (fun z => wa (fun q => z ((gx_eI ha hb).mpr q))) (fun z => wb ((gx_eI ha hb).mp z)))
theorem gx_icmp_lt (ha : gx_i a) (hb : gx_i b) (hd : decode M.2.1 pc = .ok (.if_icmp .lt off, 3)) (ht : (pc : Int) + off = (tgt : Int)) (ka : gx_Y M u tgt l st h A) (kb : gx_Y M u (pc + 3) l st h B) : gx_Y M u pc l (gx_I b :: gx_I a :: st) h (if a < b then A else B) :=
  gx_br ka kb (fun _ hs => gx_t2 hs) (fun _ _ _ _ _ _ _ _ _ _ _ _ _ _ E wa wb => lv_icmp_lt E.1 E.2.1 hd ht (fun z => wa ((gx_ltI ha hb).mp z)) (fun z => wb (fun q => z ((gx_ltI ha hb).mpr q))))
theorem gx_icmp_ge (ha : gx_i a) (hb : gx_i b) (hd : decode M.2.1 pc = .ok (.if_icmp .ge off, 3)) (ht : (pc : Int) + off = (tgt : Int)) (ka : gx_Y M u tgt l st h A) (kb : gx_Y M u (pc + 3) l st h B) : gx_Y M u pc l (gx_I b :: gx_I a :: st) h (if a < b then B else A) :=
  gx_br kb ka (fun _ hs => gx_t2 hs) (fun _ _ _ _ _ _ _ _ _ _ _ _ _ _ E wb wa => lv_icmp_ge E.1 E.2.1 hd ht (fun z => wa (fun q => by have z1 := (gx_leI hb ha).mp z; omega)) (fun z => wb (by rcases Int.lt_or_le a b with q | q; exact q; exact absurd ((gx_leI hb ha).mpr q) z)))
theorem gx_icmp_gt (ha : gx_i a) (hb : gx_i b) (hd : decode M.2.1 pc = .ok (.if_icmp .gt off, 3)) (ht : (pc : Int) + off = (tgt : Int)) (ka : gx_Y M u tgt l st h A) (kb : gx_Y M u (pc + 3) l st h B) : gx_Y M u pc l (gx_I b :: gx_I a :: st) h (if b < a then A else B) :=
  gx_br ka kb (fun _ hs => gx_t2 hs) (fun _ _ _ _ _ _ _ _ _ _ _ _ _ _ E wa wb => lv_icmp_gt E.1 E.2.1 hd ht (fun z => wa ((gx_ltI hb ha).mp z)) (fun z => wb (fun q => z ((gx_ltI hb ha).mpr q))))
theorem gx_icmp_le (ha : gx_i a) (hb : gx_i b) (hd : decode M.2.1 pc = .ok (.if_icmp .le off, 3)) (ht : (pc : Int) + off = (tgt : Int)) (ka : gx_Y M u tgt l st h A) (kb : gx_Y M u (pc + 3) l st h B) : gx_Y M u pc l (gx_I b :: gx_I a :: st) h (if b < a then B else A) :=
  gx_br kb ka (fun _ hs => gx_t2 hs) (fun _ _ _ _ _ _ _ _ _ _ _ _ _ _ E wb wa => lv_icmp_le E.1 E.2.1 hd ht (fun z => wa (fun q => by have z1 := (gx_leI ha hb).mp z; omega)) (fun z => wb (by rcases Int.lt_or_le b a with q | q; exact q; exact absurd ((gx_leI ha hb).mpr q) z)))
theorem gx_if_eq (ha : gx_i a) (hd : decode M.2.1 pc = .ok (.ifCond .eq off, 3)) (ht : (pc : Int) + off = (tgt : Int)) (ka : gx_Y M u tgt l st h A) (kb : gx_Y M u (pc + 3) l st h B) : gx_Y M u pc l (gx_I a :: st) h (if a = 0 then A else B) :=
  gx_br ka kb (fun _ hs => gx_t1 hs) (fun _ _ _ _ _ _ _ _ _ _ _ _ _ _ E wa wb => lv_if_eq E.1 E.2.1 hd ht (fun z => wa ((gx_eI ha gx_i0).mp z)) (fun z => wb (fun q => z ((gx_eI ha gx_i0).mpr q))))
theorem gx_if_ne (ha : gx_i a) (hd : decode M.2.1 pc = .ok (.ifCond .ne off, 3)) (ht : (pc : Int) + off = (tgt : Int)) (ka : gx_Y M u tgt l st h A) (kb : gx_Y M u (pc + 3) l st h B) : gx_Y M u pc l (gx_I a :: st) h (if a = 0 then B else A) :=
  gx_br kb ka (fun _ hs => gx_t1 hs) (fun _ _ _ _ _ _ _ _ _ _ _ _ _ _ E wb wa => lv_if_ne E.1 E.2.1 hd ht (fun z => wa (fun q => z ((gx_eI ha gx_i0).mpr q))) (fun z => wb ((gx_eI ha gx_i0).mp z)))
theorem gx_if_lt (ha : gx_i a) (hd : decode M.2.1 pc = .ok (.ifCond .lt off, 3)) (ht : (pc : Int) + off = (tgt : Int)) (ka : gx_Y M u tgt l st h A) (kb : gx_Y M u (pc + 3) l st h B) : gx_Y M u pc l (gx_I a :: st) h (if a < 0 then A else B) :=
  gx_br ka kb (fun _ hs => gx_t1 hs) (fun _ _ _ _ _ _ _ _ _ _ _ _ _ _ E wa wb => lv_if_lt E.1 E.2.1 hd ht (fun z => wa ((gx_ltI ha gx_i0).mp z)) (fun z => wb (fun q => z ((gx_ltI ha gx_i0).mpr q))))
theorem gx_if_ge (ha : gx_i a) (hd : decode M.2.1 pc = .ok (.ifCond .ge off, 3)) (ht : (pc : Int) + off = (tgt : Int)) (ka : gx_Y M u tgt l st h A) (kb : gx_Y M u (pc + 3) l st h B) : gx_Y M u pc l (gx_I a :: st) h (if a < 0 then B else A) :=
  gx_br kb ka (fun _ hs => gx_t1 hs) (fun _ _ _ _ _ _ _ _ _ _ _ _ _ _ E wb wa => lv_if_ge E.1 E.2.1 hd ht (fun z => wa (fun q => by have z1 := (gx_leI gx_i0 ha).mp z; omega)) (fun z => wb (by rcases Int.lt_or_le a 0 with q | q; exact q; exact absurd ((gx_leI gx_i0 ha).mpr q) z)))
theorem gx_if_gt (ha : gx_i a) (hd : decode M.2.1 pc = .ok (.ifCond .gt off, 3)) (ht : (pc : Int) + off = (tgt : Int)) (ka : gx_Y M u tgt l st h A) (kb : gx_Y M u (pc + 3) l st h B) : gx_Y M u pc l (gx_I a :: st) h (if 0 < a then A else B) :=
  gx_br ka kb (fun _ hs => gx_t1 hs) (fun _ _ _ _ _ _ _ _ _ _ _ _ _ _ E wa wb => lv_if_gt E.1 E.2.1 hd ht (fun z => wa ((gx_ltI gx_i0 ha).mp z)) (fun z => wb (fun q => z ((gx_ltI gx_i0 ha).mpr q))))
theorem gx_if_le (ha : gx_i a) (hd : decode M.2.1 pc = .ok (.ifCond .le off, 3)) (ht : (pc : Int) + off = (tgt : Int)) (ka : gx_Y M u tgt l st h A) (kb : gx_Y M u (pc + 3) l st h B) : gx_Y M u pc l (gx_I a :: st) h (if 0 < a then B else A) :=
  gx_br kb ka (fun _ hs => gx_t1 hs) (fun _ _ _ _ _ _ _ _ _ _ _ _ _ _ E wb wa => lv_if_le E.1 E.2.1 hd ht (fun z => wa (fun q => by have z1 := (gx_leI ha gx_i0).mp z; omega)) (fun z => wb (by rcases Int.lt_or_le 0 a with q | q; exact q; exact absurd ((gx_leI ha gx_i0).mpr q) z)))
end GXB
/-- three ways: less, alike, more -/
def gq_cmp (a b : Int) : Int := if a < b then -1 else if a = b then 0 else 1
section GXS
variable {M : gx_M} {u : Nat × Nat} {pc : Nat} {l : List (Option gx_V)} {st : List gx_V} {h : gx_H} {res : Option (Int × gx_H)}
theorem gx_swIn {dflt lo hi off : Int} {offs : Array Int} {len tgt : Nat} {a : Int} (ha : gx_i a) (hd : decode M.2.1 pc = .ok (.tableswitch dflt lo hi offs, len)) (h1 : ¬ a < lo) (h2 : ¬ hi < a) (ho : offs[(a - lo).toNat]? = some off) (ht : (pc : Int) + off = (tgt : Int)) (k : gx_Y M u tgt l st h res) : gx_Y M u pc l (gx_I a :: st) h res :=
  gx_pure k (fun _ hs _ => gx_t1 hs) (fun _ _ _ _ _ _ _ _ _ _ _ _ _ _ E _ w => lv_tableIn E.1 E.2.1 hd (by rw [Int32.toInt_ofInt_of_le (by omega) (by omega)]; exact h1) (by rw [Int32.toInt_ofInt_of_le (by omega) (by omega)]; exact h2) (by rw [Int32.toInt_ofInt_of_le (by omega) (by omega)]; exact ho) ht w)
theorem gx_swOut {dflt lo hi : Int} {offs : Array Int} {len tgt : Nat} {a : Int} (ha : gx_i a) (hd : decode M.2.1 pc = .ok (.tableswitch dflt lo hi offs, len)) (h1 : a < lo ∨ hi < a) (ht : (pc : Int) + dflt = (tgt : Int)) (k : gx_Y M u tgt l st h res) : gx_Y M u pc l (gx_I a :: st) h res :=
  gx_pure k (fun _ hs _ => gx_t1 hs) (fun _ _ _ _ _ _ _ _ _ _ _ _ _ _ E _ w => lv_tableOut E.1 E.2.1 hd (by rw [Int32.toInt_ofInt_of_le (by omega) (by omega)]; exact h1) ht w)
theorem gx_look {dflt off : Int} {ps : Array (Int × Int)} {len tgt : Nat} {a : Int} (ha : gx_i a) (hd : decode M.2.1 pc = .ok (.lookupswitch dflt ps, len)) (hp : (ps.toList.zip (ps.toList.drop 1)).all (fun (a, next) => a.1 < next.1) = true) (ho : Op.lookupswitch.offset ps.toList dflt a = off) (ht : (pc : Int) + off = (tgt : Int)) (k : gx_Y M u tgt l st h res) : gx_Y M u pc l (gx_I a :: st) h res :=
  gx_pure k (fun _ hs _ => gx_t1 hs) (fun _ _ _ _ _ _ _ _ _ _ _ _ _ _ E _ w => lv_lookup E.1 E.2.1 hd hp (by rw [Int32.toInt_ofInt_of_le (by omega) (by omega)]; exact ho) ht w)
/-- fewer locals -/
def gx_le : List (Option gx_V) → List (Option gx_V) → Prop
  | [], _ => True
  | none :: t, _ :: t' => gx_le t t'
  | some v :: t, some w :: t' => v = w ∧ gx_le t t'
  | none :: t, [] => gx_le t []
  | some _ :: _, none :: _ => False
  | some _ :: _, [] => False
theorem gx_le_at : ∀ {l' l : List (Option gx_V)}, gx_le l' l → ∀ (i : Nat) (v : gx_V), l'[i]? = some (some v) → l[i]? = some (some v)
  | [], _, _, i, v, h => by simp at h
  | none :: t, _ :: t', hl, 0, v, h => by simp at h
  | none :: t, _ :: t', hl, i + 1, v, h => by
    simp only [List.getElem?_cons_succ] at h ⊢
    exact gx_le_at (l' := t) (l := t') hl i v h
  | some w :: t, some w' :: t', hl, 0, v, h => by
    obtain ⟨rfl, -⟩ := hl
    exact h
  | some w :: t, some w' :: t', hl, i + 1, v, h => by
    simp only [List.getElem?_cons_succ] at h ⊢
    exact gx_le_at (l' := t) (l := t') hl.2 i v h
  | none :: t, [], hl, 0, v, h => by simp at h
  | none :: t, [], hl, i + 1, v, h => by
    simp only [List.getElem?_cons_succ] at h
    have := gx_le_at (l' := t) (l := []) hl i v h
    simp at this
theorem gx_less {l' : List (Option gx_V)} (hl : gx_le l' l) (k : gx_Y M u pc l' st h res) : gx_Y M u pc l st h res := by
  intro r h' hr p la e s m args below meth c D cA ad0 n0 A ad ls H locs E B hs hk hh
  refine k r h' hr p la e s m args below meth c D cA ad0 n0 A ad ls H locs E B hs (fun v hv => ?_) ⟨hh.1, hh.2.1, fun i v hi => hh.2.2 i v (gx_le_at hl i v hi)⟩
  obtain ⟨i, hi⟩ := List.getElem?_of_mem hv
  exact hk v (List.mem_of_getElem? (gx_le_at hl i v hi))
end GXS
