/-! names: classes, their fields, links, methods (written by gen_names.py) -/
def gx_tbl : List Cond := lw_tbl.filter goodWord
theorem gx_gd {w : Cond} (h : w ∈ lw_tbl) (hg : goodWord w = true) : w ∈ gx_tbl := List.mem_filter.mpr ⟨h, hg⟩
def nc_RLE : String := "LetterExchange"
def nc_TLE : u_T := fun k => match k with
  | 0 => ("LetterExchange", "text", "LLetterExchange$Text;", true)
  | 1 => ("LetterExchange", "scales", "LLetterExchange$Scales;", true)
  | 2 => ("LetterExchange", "exchanger", "LLetterExchange$Exchanger;", true)
  | 3 => ("LetterExchange", "history", "LLetterExchange$History;", true)
  | 4 => ("LetterExchange", "book", "LLetterExchange$Book;", true)
  | 5 => ("LetterExchange", "graph", "LLetterExchange$Graph;", true)
  | 6 => ("LetterExchange", "walk", "LLetterExchange$Walk;", true)
  | 7 => ("LetterExchange", "turns", "LLetterExchange$Turns;", true)
  | 8 => ("LetterExchange", "first", "LLetterExchange$State;", true)
  | 9 => ("LetterExchange", "images", "[LLetterExchange$State;", true)
  | 10 => ("LetterExchange", "kept", "[Z", true)
  | 11 => ("LetterExchange", "imageSeeds", "[I", true)
  | 12 => ("LetterExchange", "codesNow", "[I", true)
  | 13 => ("LetterExchange", "now", "LLetterExchange$State;", false)
  | 14 => ("LetterExchange", "spare", "LLetterExchange$State;", false)
  | 15 => ("LetterExchange", "theSeed", "I", false)
  | 16 => ("LetterExchange", "graphIsOld", "Z", false)
  | _ => ("LetterExchange", "walkIsOld", "Z", false)
def nc_tLE : Nat → FieldType := fun k => match k with
  | 0 => .object "LetterExchange$Text"
  | 1 => .object "LetterExchange$Scales"
  | 2 => .object "LetterExchange$Exchanger"
  | 3 => .object "LetterExchange$History"
  | 4 => .object "LetterExchange$Book"
  | 5 => .object "LetterExchange$Graph"
  | 6 => .object "LetterExchange$Walk"
  | 7 => .object "LetterExchange$Turns"
  | 8 => .object "LetterExchange$State"
  | 9 => .array (.object "LetterExchange$State")
  | 10 => .array (.boolean)
  | 11 => .array (.int)
  | 12 => .array (.int)
  | 13 => .object "LetterExchange$State"
  | 14 => .object "LetterExchange$State"
  | 15 => .int
  | 16 => .boolean
  | _ => .boolean
def nc_RMD : String := "LetterExchangeModel"
def nc_TMD : u_T := fun k => match k with
  | 0 => ("LetterExchangeModel", "w", "[I", true)
  | 1 => ("LetterExchangeModel", "many", "I", false)
  | 2 => ("LetterExchangeModel", "known", "I", false)
  | 3 => ("LetterExchangeModel", "kept", "I", false)
  | 4 => ("LetterExchangeModel", "seed", "I", false)
  | 5 => ("LetterExchangeModel", "keptSeed", "[I", true)
  | 6 => ("LetterExchangeModel", "text", "[I", true)
  | 7 => ("LetterExchangeModel", "size", "I", false)
  | 8 => ("LetterExchangeModel", "fault", "I", false)
  | 9 => ("LetterExchangeModel", "bookOf", "[I", true)
  | 10 => ("LetterExchangeModel", "bookIs", "[I", true)
  | 11 => ("LetterExchangeModel", "booked", "I", false)
  | 12 => ("LetterExchangeModel", "weight", "[I", true)
  | 13 => ("LetterExchangeModel", "up", "J", false)
  | 14 => ("LetterExchangeModel", "down", "J", false)
  | 15 => ("LetterExchangeModel", "beyond", "Z", false)
  | 16 => ("LetterExchangeModel", "standTable", "[I", true)
  | 17 => ("LetterExchangeModel", "standRow", "[I", true)
  | 18 => ("LetterExchangeModel", "leads", "[I", true)
  | 19 => ("LetterExchangeModel", "away", "[I", true)
  | 20 => ("LetterExchangeModel", "from", "[I", true)
  | 21 => ("LetterExchangeModel", "by", "[I", true)
  | 22 => ("LetterExchangeModel", "stands", "I", false)
  | 23 => ("LetterExchangeModel", "hand", "[I", true)
  | 24 => ("LetterExchangeModel", "at", "I", false)
  | 25 => ("LetterExchangeModel", "wrong", "I", false)
  | 26 => ("LetterExchangeModel", "place", "I", false)
  | 27 => ("LetterExchangeModel", "newMany", "I", false)
  | 28 => ("LetterExchangeModel", "newTable", "[I", true)
  | _ => ("LetterExchangeModel", "newWorth", "[I", true)
def nc_tMD : Nat → FieldType := fun k => match k with
  | 0 => .array (.int)
  | 1 => .int
  | 2 => .int
  | 3 => .int
  | 4 => .int
  | 5 => .array (.int)
  | 6 => .array (.int)
  | 7 => .int
  | 8 => .int
  | 9 => .array (.int)
  | 10 => .array (.int)
  | 11 => .int
  | 12 => .array (.int)
  | 13 => .long
  | 14 => .long
  | 15 => .boolean
  | 16 => .array (.int)
  | 17 => .array (.int)
  | 18 => .array (.int)
  | 19 => .array (.int)
  | 20 => .array (.int)
  | 21 => .array (.int)
  | 22 => .int
  | 23 => .array (.int)
  | 24 => .int
  | 25 => .int
  | 26 => .int
  | 27 => .int
  | 28 => .array (.int)
  | _ => .array (.int)
def nc_RBK : String := "LetterExchange$Book"
def nc_TBK : u_T := fun k => match k with
  | 0 => ("LetterExchange$Book", "letters", "[I", true)
  | 1 => ("LetterExchange$Book", "codes", "[I", true)
  | _ => ("LetterExchange$Book", "size", "I", false)
def nc_tBK : Nat → FieldType := fun k => match k with
  | 0 => .array (.int)
  | 1 => .array (.int)
  | _ => .int
def nc_REX : String := "LetterExchange$Exchanger"
def nc_TEX : u_T := fun k => match k with
  | 0 => ("LetterExchange$Exchanger", "worth", "LLetterExchange$Fraction;", true)
  | _ => ("LetterExchange$Exchanger", "other", "LLetterExchange$Fraction;", true)
def nc_tEX : Nat → FieldType := fun k => match k with
  | 0 => .object "LetterExchange$Fraction"
  | _ => .object "LetterExchange$Fraction"
def nc_RFR : String := "LetterExchange$Fraction"
def nc_TFR : u_T := fun k => match k with
  | 0 => ("LetterExchange$Fraction", "above", "J", false)
  | _ => ("LetterExchange$Fraction", "below", "J", false)
def nc_tFR : Nat → FieldType := fun k => match k with
  | 0 => .long
  | _ => .long
def nc_RGR : String := "LetterExchange$Graph"
def nc_TGR : u_T := fun k => match k with
  | 0 => ("LetterExchange$Graph", "count", "I", false)
  | 1 => ("LetterExchange$Graph", "letters", "I", false)
  | 2 => ("LetterExchange$Graph", "allLetters", "I", false)
  | 3 => ("LetterExchange$Graph", "open", "Z", false)
  | 4 => ("LetterExchange$Graph", "leads", "[I", true)
  | 5 => ("LetterExchange$Graph", "codes", "[I", true)
  | 6 => ("LetterExchange$Graph", "probe", "[I", true)
  | 7 => ("LetterExchange$Graph", "ownCodes", "[I", true)
  | 8 => ("LetterExchange$Graph", "places", "[I", true)
  | 9 => ("LetterExchange$Graph", "ranked", "[I", true)
  | 10 => ("LetterExchange$Graph", "seen", "[I", true)
  | 11 => ("LetterExchange$Graph", "here", "LLetterExchange$Shape;", true)
  | _ => ("LetterExchange$Graph", "there", "LLetterExchange$Shape;", true)
def nc_tGR : Nat → FieldType := fun k => match k with
  | 0 => .int
  | 1 => .int
  | 2 => .int
  | 3 => .boolean
  | 4 => .array (.int)
  | 5 => .array (.int)
  | 6 => .array (.int)
  | 7 => .array (.int)
  | 8 => .array (.int)
  | 9 => .array (.int)
  | 10 => .array (.int)
  | 11 => .object "LetterExchange$Shape"
  | _ => .object "LetterExchange$Shape"
def nc_RHI : String := "LetterExchange$History"
def nc_THI : u_T := fun k => match k with
  | 0 => ("LetterExchange$History", "states", "[LLetterExchange$State;", true)
  | 1 => ("LetterExchange$History", "oldest", "I", false)
  | _ => ("LetterExchange$History", "size", "I", false)
def nc_tHI : Nat → FieldType := fun k => match k with
  | 0 => .array (.object "LetterExchange$State")
  | 1 => .int
  | _ => .int
def nc_RSC : String := "LetterExchange$Scales"
def nc_TSC : u_T := fun k => match k with
  | 0 => ("LetterExchange$Scales", "well", "Z", false)
  | _ => ("LetterExchange$Scales", "weights", "[I", true)
def nc_tSC : Nat → FieldType := fun k => match k with
  | 0 => .boolean
  | _ => .array (.int)
def nc_RSH : String := "LetterExchange$Shape"
def nc_TSH : u_T := fun k => match k with
  | 0 => ("LetterExchange$Shape", "count", "I", false)
  | 1 => ("LetterExchange$Shape", "table", "[I", true)
  | _ => ("LetterExchange$Shape", "rows", "[I", true)
def nc_tSH : Nat → FieldType := fun k => match k with
  | 0 => .int
  | 1 => .array (.int)
  | _ => .array (.int)
def nc_RST : String := "LetterExchange$State"
def nc_TST : u_T := fun k => match k with
  | 0 => ("LetterExchange$State", "shape", "LLetterExchange$Shape;", true)
  | 1 => ("LetterExchange$State", "above", "[I", true)
  | 2 => ("LetterExchange$State", "below", "[I", true)
  | 3 => ("LetterExchange$State", "signs", "[I", true)
  | 4 => ("LetterExchange$State", "degrees", "[I", true)
  | _ => ("LetterExchange$State", "exchanges", "I", false)
def nc_tST : Nat → FieldType := fun k => match k with
  | 0 => .object "LetterExchange$Shape"
  | 1 => .array (.int)
  | 2 => .array (.int)
  | 3 => .array (.int)
  | 4 => .array (.int)
  | _ => .int
def nc_RTX : String := "LetterExchange$Text"
def nc_TTX : u_T := fun k => match k with
  | 0 => ("LetterExchange$Text", "signs", "[I", true)
  | 1 => ("LetterExchange$Text", "length", "I", false)
  | 2 => ("LetterExchange$Text", "fault", "I", false)
  | 3 => ("LetterExchange$Text", "faultPlace", "I", false)
  | 4 => ("LetterExchange$Text", "at", "I", false)
  | _ => ("LetterExchange$Text", "place", "I", false)
def nc_tTX : Nat → FieldType := fun k => match k with
  | 0 => .array (.int)
  | 1 => .int
  | 2 => .int
  | 3 => .int
  | 4 => .int
  | _ => .int
def nc_RTU : String := "LetterExchange$Turns"
def nc_TTU : u_T := fun k => match k with
  | 0 => ("LetterExchange$Turns", "one", "LLetterExchange$Shape;", true)
  | 1 => ("LetterExchange$Turns", "other", "LLetterExchange$Shape;", true)
  | 2 => ("LetterExchange$Turns", "startCodes", "[I", true)
  | _ => ("LetterExchange$Turns", "codes", "[I", true)
def nc_tTU : Nat → FieldType := fun k => match k with
  | 0 => .object "LetterExchange$Shape"
  | 1 => .object "LetterExchange$Shape"
  | 2 => .array (.int)
  | _ => .array (.int)
def nc_RWA : String := "LetterExchange$Walk"
def nc_TWA : u_T := fun k => match k with
  | 0 => ("LetterExchange$Walk", "count", "I", false)
  | 1 => ("LetterExchange$Walk", "stands", "[I", true)
  | 2 => ("LetterExchange$Walk", "numbers", "[I", true)
  | 3 => ("LetterExchange$Walk", "steps", "[I", true)
  | 4 => ("LetterExchange$Walk", "parents", "[I", true)
  | _ => ("LetterExchange$Walk", "ways", "[I", true)
def nc_tWA : Nat → FieldType := fun k => match k with
  | 0 => .int
  | 1 => .array (.int)
  | 2 => .array (.int)
  | 3 => .array (.int)
  | 4 => .array (.int)
  | _ => .array (.int)
def gx_cls : List vw_C := [(nc_RLE, nc_TLE, 18), (nc_RMD, nc_TMD, 30), (nc_RBK, nc_TBK, 3), (nc_REX, nc_TEX, 2), (nc_RFR, nc_TFR, 2), (nc_RGR, nc_TGR, 13), (nc_RHI, nc_THI, 3), (nc_RSC, nc_TSC, 2), (nc_RSH, nc_TSH, 3), (nc_RST, nc_TST, 6), (nc_RTX, nc_TTX, 6), (nc_RTU, nc_TTU, 4), (nc_RWA, nc_TWA, 6)]
def gx_ftl : List (List Nat) := [[3, 3, 3, 3, 3, 3, 3, 3, 3, 3, 3, 3, 3, 3, 3, 0, 1, 1], [3, 0, 0, 0, 0, 3, 3, 0, 0, 3, 3, 0, 3, 2, 2, 1, 3, 3, 3, 3, 3, 3, 0, 3, 0, 0, 0, 0, 3, 3], [3, 3, 0], [3, 3], [2, 2], [0, 0, 0, 1, 3, 3, 3, 3, 3, 3, 3, 3, 3], [3, 0, 0], [1, 3], [0, 3, 3], [3, 3, 3, 3, 3, 0], [3, 0, 0, 0, 0, 0], [3, 3, 3, 3], [0, 3, 3, 3, 3, 3]]
def gx_fty (ci k : Nat) : Nat := (gx_ftl.getD ci []).getD k 0
def gx_tyok (t : Nat) (ty : FieldType) : Prop := match t with
  | 0 => ty = .int
  | 1 => ty = .boolean
  | 2 => ty = .long
  | _ => (∃ C, ty = .object C) ∨ ∃ t, ty = .array t
/-- what the tables say of a class -/
def gx_CL (ci : Nat) (C : String) (T : u_T) (N : Nat) (ty : Nat → FieldType) : Prop := gx_cls[ci]? = some (C, T, N) ∧ (∀ w ∈ u_ws C T N, w ∈ gx_tbl) ∧ (∀ k, k < N → parseFieldDescriptor (T k).2.2.1 = some (ty k)) ∧ (∀ a, a < N → ∀ b, b < N → a ≠ b → (T a).2.1 ≠ (T b).2.1) ∧ (∀ k, k < N → gx_tyok (gx_fty ci k) (ty k)) ∧ ∀ k, k < N → (T k).1 = C
theorem nl_LE_0 : u_lay nc_RLE nc_TLE 0 ∈ lw_tbl := List.mem_of_getElem? (i := 451) (by decide +kernel)
theorem nl_LE_1 : u_lay nc_RLE nc_TLE 1 ∈ lw_tbl := List.mem_of_getElem? (i := 453) (by decide +kernel)
theorem nl_LE_2 : u_lay nc_RLE nc_TLE 2 ∈ lw_tbl := List.mem_of_getElem? (i := 455) (by decide +kernel)
theorem nl_LE_3 : u_lay nc_RLE nc_TLE 3 ∈ lw_tbl := List.mem_of_getElem? (i := 457) (by decide +kernel)
theorem nl_LE_4 : u_lay nc_RLE nc_TLE 4 ∈ lw_tbl := List.mem_of_getElem? (i := 459) (by decide +kernel)
theorem nl_LE_5 : u_lay nc_RLE nc_TLE 5 ∈ lw_tbl := List.mem_of_getElem? (i := 461) (by decide +kernel)
theorem nl_LE_6 : u_lay nc_RLE nc_TLE 6 ∈ lw_tbl := List.mem_of_getElem? (i := 463) (by decide +kernel)
theorem nl_LE_7 : u_lay nc_RLE nc_TLE 7 ∈ lw_tbl := List.mem_of_getElem? (i := 465) (by decide +kernel)
theorem nl_LE_8 : u_lay nc_RLE nc_TLE 8 ∈ lw_tbl := List.mem_of_getElem? (i := 467) (by decide +kernel)
theorem nl_LE_9 : u_lay nc_RLE nc_TLE 9 ∈ lw_tbl := List.mem_of_getElem? (i := 469) (by decide +kernel)
theorem nl_LE_10 : u_lay nc_RLE nc_TLE 10 ∈ lw_tbl := List.mem_of_getElem? (i := 471) (by decide +kernel)
theorem nl_LE_11 : u_lay nc_RLE nc_TLE 11 ∈ lw_tbl := List.mem_of_getElem? (i := 473) (by decide +kernel)
theorem nl_LE_12 : u_lay nc_RLE nc_TLE 12 ∈ lw_tbl := List.mem_of_getElem? (i := 475) (by decide +kernel)
theorem nl_LE_13 : u_lay nc_RLE nc_TLE 13 ∈ lw_tbl := List.mem_of_getElem? (i := 477) (by decide +kernel)
theorem nl_LE_14 : u_lay nc_RLE nc_TLE 14 ∈ lw_tbl := List.mem_of_getElem? (i := 479) (by decide +kernel)
theorem nl_LE_15 : u_lay nc_RLE nc_TLE 15 ∈ lw_tbl := List.mem_of_getElem? (i := 481) (by decide +kernel)
theorem nl_LE_16 : u_lay nc_RLE nc_TLE 16 ∈ lw_tbl := List.mem_of_getElem? (i := 483) (by decide +kernel)
theorem nl_LE_17 : u_lay nc_RLE nc_TLE 17 ∈ lw_tbl := List.mem_of_getElem? (i := 485) (by decide +kernel)
theorem nw_LE : ∀ w ∈ u_ws nc_RLE nc_TLE 18, w ∈ gx_tbl := by
  intro w hw
  obtain ⟨k, hk, rfl⟩ := List.mem_map.mp hw
  have hk := List.mem_range.mp hk
  match k, hk with
  | 0, _ => exact gx_gd nl_LE_0 rfl
  | 1, _ => exact gx_gd nl_LE_1 rfl
  | 2, _ => exact gx_gd nl_LE_2 rfl
  | 3, _ => exact gx_gd nl_LE_3 rfl
  | 4, _ => exact gx_gd nl_LE_4 rfl
  | 5, _ => exact gx_gd nl_LE_5 rfl
  | 6, _ => exact gx_gd nl_LE_6 rfl
  | 7, _ => exact gx_gd nl_LE_7 rfl
  | 8, _ => exact gx_gd nl_LE_8 rfl
  | 9, _ => exact gx_gd nl_LE_9 rfl
  | 10, _ => exact gx_gd nl_LE_10 rfl
  | 11, _ => exact gx_gd nl_LE_11 rfl
  | 12, _ => exact gx_gd nl_LE_12 rfl
  | 13, _ => exact gx_gd nl_LE_13 rfl
  | 14, _ => exact gx_gd nl_LE_14 rfl
  | 15, _ => exact gx_gd nl_LE_15 rfl
  | 16, _ => exact gx_gd nl_LE_16 rfl
  | 17, _ => exact gx_gd nl_LE_17 rfl
  | k + 18, hk => exact absurd hk (by omega)
theorem gk_LE : gx_CL 0 nc_RLE nc_TLE 18 nc_tLE := by
  refine ⟨rfl, nw_LE, by decide +kernel, by decide +kernel, ?_, by decide +kernel⟩
  intro k hk
  match k, hk with
  | 0, _ => exact Or.inl ⟨_, rfl⟩
  | 1, _ => exact Or.inl ⟨_, rfl⟩
  | 2, _ => exact Or.inl ⟨_, rfl⟩
  | 3, _ => exact Or.inl ⟨_, rfl⟩
  | 4, _ => exact Or.inl ⟨_, rfl⟩
  | 5, _ => exact Or.inl ⟨_, rfl⟩
  | 6, _ => exact Or.inl ⟨_, rfl⟩
  | 7, _ => exact Or.inl ⟨_, rfl⟩
  | 8, _ => exact Or.inl ⟨_, rfl⟩
  | 9, _ => exact Or.inr ⟨_, rfl⟩
  | 10, _ => exact Or.inr ⟨_, rfl⟩
  | 11, _ => exact Or.inr ⟨_, rfl⟩
  | 12, _ => exact Or.inr ⟨_, rfl⟩
  | 13, _ => exact Or.inl ⟨_, rfl⟩
  | 14, _ => exact Or.inl ⟨_, rfl⟩
  | 15, _ => exact rfl
  | 16, _ => exact rfl
  | 17, _ => exact rfl
  | k + 18, hk => exact absurd hk (by omega)
theorem nl_MD_0 : u_lay nc_RMD nc_TMD 0 ∈ lw_tbl := List.mem_of_getElem? (i := 882) (by decide +kernel)
theorem nl_MD_1 : u_lay nc_RMD nc_TMD 1 ∈ lw_tbl := List.mem_of_getElem? (i := 884) (by decide +kernel)
theorem nl_MD_2 : u_lay nc_RMD nc_TMD 2 ∈ lw_tbl := List.mem_of_getElem? (i := 886) (by decide +kernel)
theorem nl_MD_3 : u_lay nc_RMD nc_TMD 3 ∈ lw_tbl := List.mem_of_getElem? (i := 888) (by decide +kernel)
theorem nl_MD_4 : u_lay nc_RMD nc_TMD 4 ∈ lw_tbl := List.mem_of_getElem? (i := 890) (by decide +kernel)
theorem nl_MD_5 : u_lay nc_RMD nc_TMD 5 ∈ lw_tbl := List.mem_of_getElem? (i := 892) (by decide +kernel)
theorem nl_MD_6 : u_lay nc_RMD nc_TMD 6 ∈ lw_tbl := List.mem_of_getElem? (i := 894) (by decide +kernel)
theorem nl_MD_7 : u_lay nc_RMD nc_TMD 7 ∈ lw_tbl := List.mem_of_getElem? (i := 896) (by decide +kernel)
theorem nl_MD_8 : u_lay nc_RMD nc_TMD 8 ∈ lw_tbl := List.mem_of_getElem? (i := 898) (by decide +kernel)
theorem nl_MD_9 : u_lay nc_RMD nc_TMD 9 ∈ lw_tbl := List.mem_of_getElem? (i := 900) (by decide +kernel)
theorem nl_MD_10 : u_lay nc_RMD nc_TMD 10 ∈ lw_tbl := List.mem_of_getElem? (i := 902) (by decide +kernel)
theorem nl_MD_11 : u_lay nc_RMD nc_TMD 11 ∈ lw_tbl := List.mem_of_getElem? (i := 904) (by decide +kernel)
theorem nl_MD_12 : u_lay nc_RMD nc_TMD 12 ∈ lw_tbl := List.mem_of_getElem? (i := 906) (by decide +kernel)
theorem nl_MD_13 : u_lay nc_RMD nc_TMD 13 ∈ lw_tbl := List.mem_of_getElem? (i := 908) (by decide +kernel)
theorem nl_MD_14 : u_lay nc_RMD nc_TMD 14 ∈ lw_tbl := List.mem_of_getElem? (i := 910) (by decide +kernel)
theorem nl_MD_15 : u_lay nc_RMD nc_TMD 15 ∈ lw_tbl := List.mem_of_getElem? (i := 912) (by decide +kernel)
theorem nl_MD_16 : u_lay nc_RMD nc_TMD 16 ∈ lw_tbl := List.mem_of_getElem? (i := 914) (by decide +kernel)
theorem nl_MD_17 : u_lay nc_RMD nc_TMD 17 ∈ lw_tbl := List.mem_of_getElem? (i := 916) (by decide +kernel)
theorem nl_MD_18 : u_lay nc_RMD nc_TMD 18 ∈ lw_tbl := List.mem_of_getElem? (i := 918) (by decide +kernel)
theorem nl_MD_19 : u_lay nc_RMD nc_TMD 19 ∈ lw_tbl := List.mem_of_getElem? (i := 920) (by decide +kernel)
theorem nl_MD_20 : u_lay nc_RMD nc_TMD 20 ∈ lw_tbl := List.mem_of_getElem? (i := 922) (by decide +kernel)
theorem nl_MD_21 : u_lay nc_RMD nc_TMD 21 ∈ lw_tbl := List.mem_of_getElem? (i := 924) (by decide +kernel)
theorem nl_MD_22 : u_lay nc_RMD nc_TMD 22 ∈ lw_tbl := List.mem_of_getElem? (i := 926) (by decide +kernel)
theorem nl_MD_23 : u_lay nc_RMD nc_TMD 23 ∈ lw_tbl := List.mem_of_getElem? (i := 928) (by decide +kernel)
theorem nl_MD_24 : u_lay nc_RMD nc_TMD 24 ∈ lw_tbl := List.mem_of_getElem? (i := 930) (by decide +kernel)
theorem nl_MD_25 : u_lay nc_RMD nc_TMD 25 ∈ lw_tbl := List.mem_of_getElem? (i := 932) (by decide +kernel)
theorem nl_MD_26 : u_lay nc_RMD nc_TMD 26 ∈ lw_tbl := List.mem_of_getElem? (i := 934) (by decide +kernel)
theorem nl_MD_27 : u_lay nc_RMD nc_TMD 27 ∈ lw_tbl := List.mem_of_getElem? (i := 936) (by decide +kernel)
theorem nl_MD_28 : u_lay nc_RMD nc_TMD 28 ∈ lw_tbl := List.mem_of_getElem? (i := 938) (by decide +kernel)
theorem nl_MD_29 : u_lay nc_RMD nc_TMD 29 ∈ lw_tbl := List.mem_of_getElem? (i := 940) (by decide +kernel)
theorem nw_MD : ∀ w ∈ u_ws nc_RMD nc_TMD 30, w ∈ gx_tbl := by
  intro w hw
  obtain ⟨k, hk, rfl⟩ := List.mem_map.mp hw
  have hk := List.mem_range.mp hk
  match k, hk with
  | 0, _ => exact gx_gd nl_MD_0 rfl
  | 1, _ => exact gx_gd nl_MD_1 rfl
  | 2, _ => exact gx_gd nl_MD_2 rfl
  | 3, _ => exact gx_gd nl_MD_3 rfl
  | 4, _ => exact gx_gd nl_MD_4 rfl
  | 5, _ => exact gx_gd nl_MD_5 rfl
  | 6, _ => exact gx_gd nl_MD_6 rfl
  | 7, _ => exact gx_gd nl_MD_7 rfl
  | 8, _ => exact gx_gd nl_MD_8 rfl
  | 9, _ => exact gx_gd nl_MD_9 rfl
  | 10, _ => exact gx_gd nl_MD_10 rfl
  | 11, _ => exact gx_gd nl_MD_11 rfl
  | 12, _ => exact gx_gd nl_MD_12 rfl
  | 13, _ => exact gx_gd nl_MD_13 rfl
  | 14, _ => exact gx_gd nl_MD_14 rfl
  | 15, _ => exact gx_gd nl_MD_15 rfl
  | 16, _ => exact gx_gd nl_MD_16 rfl
  | 17, _ => exact gx_gd nl_MD_17 rfl
  | 18, _ => exact gx_gd nl_MD_18 rfl
  | 19, _ => exact gx_gd nl_MD_19 rfl
  | 20, _ => exact gx_gd nl_MD_20 rfl
  | 21, _ => exact gx_gd nl_MD_21 rfl
  | 22, _ => exact gx_gd nl_MD_22 rfl
  | 23, _ => exact gx_gd nl_MD_23 rfl
  | 24, _ => exact gx_gd nl_MD_24 rfl
  | 25, _ => exact gx_gd nl_MD_25 rfl
  | 26, _ => exact gx_gd nl_MD_26 rfl
  | 27, _ => exact gx_gd nl_MD_27 rfl
  | 28, _ => exact gx_gd nl_MD_28 rfl
  | 29, _ => exact gx_gd nl_MD_29 rfl
  | k + 30, hk => exact absurd hk (by omega)
theorem gk_MD : gx_CL 1 nc_RMD nc_TMD 30 nc_tMD := by
  refine ⟨rfl, nw_MD, by decide +kernel, by decide +kernel, ?_, by decide +kernel⟩
  intro k hk
  match k, hk with
  | 0, _ => exact Or.inr ⟨_, rfl⟩
  | 1, _ => exact rfl
  | 2, _ => exact rfl
  | 3, _ => exact rfl
  | 4, _ => exact rfl
  | 5, _ => exact Or.inr ⟨_, rfl⟩
  | 6, _ => exact Or.inr ⟨_, rfl⟩
  | 7, _ => exact rfl
  | 8, _ => exact rfl
  | 9, _ => exact Or.inr ⟨_, rfl⟩
  | 10, _ => exact Or.inr ⟨_, rfl⟩
  | 11, _ => exact rfl
  | 12, _ => exact Or.inr ⟨_, rfl⟩
  | 13, _ => exact rfl
  | 14, _ => exact rfl
  | 15, _ => exact rfl
  | 16, _ => exact Or.inr ⟨_, rfl⟩
  | 17, _ => exact Or.inr ⟨_, rfl⟩
  | 18, _ => exact Or.inr ⟨_, rfl⟩
  | 19, _ => exact Or.inr ⟨_, rfl⟩
  | 20, _ => exact Or.inr ⟨_, rfl⟩
  | 21, _ => exact Or.inr ⟨_, rfl⟩
  | 22, _ => exact rfl
  | 23, _ => exact Or.inr ⟨_, rfl⟩
  | 24, _ => exact rfl
  | 25, _ => exact rfl
  | 26, _ => exact rfl
  | 27, _ => exact rfl
  | 28, _ => exact Or.inr ⟨_, rfl⟩
  | 29, _ => exact Or.inr ⟨_, rfl⟩
  | k + 30, hk => exact absurd hk (by omega)
theorem nl_BK_0 : u_lay nc_RBK nc_TBK 0 ∈ lw_tbl := List.mem_of_getElem? (i := 269) (by decide +kernel)
theorem nl_BK_1 : u_lay nc_RBK nc_TBK 1 ∈ lw_tbl := List.mem_of_getElem? (i := 271) (by decide +kernel)
theorem nl_BK_2 : u_lay nc_RBK nc_TBK 2 ∈ lw_tbl := List.mem_of_getElem? (i := 273) (by decide +kernel)
theorem nw_BK : ∀ w ∈ u_ws nc_RBK nc_TBK 3, w ∈ gx_tbl := by
  intro w hw
  obtain ⟨k, hk, rfl⟩ := List.mem_map.mp hw
  have hk := List.mem_range.mp hk
  match k, hk with
  | 0, _ => exact gx_gd nl_BK_0 rfl
  | 1, _ => exact gx_gd nl_BK_1 rfl
  | 2, _ => exact gx_gd nl_BK_2 rfl
  | k + 3, hk => exact absurd hk (by omega)
theorem gk_BK : gx_CL 2 nc_RBK nc_TBK 3 nc_tBK := by
  refine ⟨rfl, nw_BK, by decide +kernel, by decide +kernel, ?_, by decide +kernel⟩
  intro k hk
  match k, hk with
  | 0, _ => exact Or.inr ⟨_, rfl⟩
  | 1, _ => exact Or.inr ⟨_, rfl⟩
  | 2, _ => exact rfl
  | k + 3, hk => exact absurd hk (by omega)
theorem nl_EX_0 : u_lay nc_REX nc_TEX 0 ∈ lw_tbl := List.mem_of_getElem? (i := 168) (by decide +kernel)
theorem nl_EX_1 : u_lay nc_REX nc_TEX 1 ∈ lw_tbl := List.mem_of_getElem? (i := 170) (by decide +kernel)
theorem nw_EX : ∀ w ∈ u_ws nc_REX nc_TEX 2, w ∈ gx_tbl := by
  intro w hw
  obtain ⟨k, hk, rfl⟩ := List.mem_map.mp hw
  have hk := List.mem_range.mp hk
  match k, hk with
  | 0, _ => exact gx_gd nl_EX_0 rfl
  | 1, _ => exact gx_gd nl_EX_1 rfl
  | k + 2, hk => exact absurd hk (by omega)
theorem gk_EX : gx_CL 3 nc_REX nc_TEX 2 nc_tEX := by
  refine ⟨rfl, nw_EX, by decide +kernel, by decide +kernel, ?_, by decide +kernel⟩
  intro k hk
  match k, hk with
  | 0, _ => exact Or.inl ⟨_, rfl⟩
  | 1, _ => exact Or.inl ⟨_, rfl⟩
  | k + 2, hk => exact absurd hk (by omega)
theorem nl_FR_0 : u_lay nc_RFR nc_TFR 0 ∈ lw_tbl := List.mem_of_getElem? (i := 161) (by decide +kernel)
theorem nl_FR_1 : u_lay nc_RFR nc_TFR 1 ∈ lw_tbl := List.mem_of_getElem? (i := 163) (by decide +kernel)
theorem nw_FR : ∀ w ∈ u_ws nc_RFR nc_TFR 2, w ∈ gx_tbl := by
  intro w hw
  obtain ⟨k, hk, rfl⟩ := List.mem_map.mp hw
  have hk := List.mem_range.mp hk
  match k, hk with
  | 0, _ => exact gx_gd nl_FR_0 rfl
  | 1, _ => exact gx_gd nl_FR_1 rfl
  | k + 2, hk => exact absurd hk (by omega)
theorem gk_FR : gx_CL 4 nc_RFR nc_TFR 2 nc_tFR := by
  refine ⟨rfl, nw_FR, by decide +kernel, by decide +kernel, ?_, by decide +kernel⟩
  intro k hk
  match k, hk with
  | 0, _ => exact rfl
  | 1, _ => exact rfl
  | k + 2, hk => exact absurd hk (by omega)
theorem nl_GR_0 : u_lay nc_RGR nc_TGR 0 ∈ lw_tbl := List.mem_of_getElem? (i := 302) (by decide +kernel)
theorem nl_GR_1 : u_lay nc_RGR nc_TGR 1 ∈ lw_tbl := List.mem_of_getElem? (i := 304) (by decide +kernel)
theorem nl_GR_2 : u_lay nc_RGR nc_TGR 2 ∈ lw_tbl := List.mem_of_getElem? (i := 306) (by decide +kernel)
theorem nl_GR_3 : u_lay nc_RGR nc_TGR 3 ∈ lw_tbl := List.mem_of_getElem? (i := 308) (by decide +kernel)
theorem nl_GR_4 : u_lay nc_RGR nc_TGR 4 ∈ lw_tbl := List.mem_of_getElem? (i := 310) (by decide +kernel)
theorem nl_GR_5 : u_lay nc_RGR nc_TGR 5 ∈ lw_tbl := List.mem_of_getElem? (i := 312) (by decide +kernel)
theorem nl_GR_6 : u_lay nc_RGR nc_TGR 6 ∈ lw_tbl := List.mem_of_getElem? (i := 314) (by decide +kernel)
theorem nl_GR_7 : u_lay nc_RGR nc_TGR 7 ∈ lw_tbl := List.mem_of_getElem? (i := 316) (by decide +kernel)
theorem nl_GR_8 : u_lay nc_RGR nc_TGR 8 ∈ lw_tbl := List.mem_of_getElem? (i := 318) (by decide +kernel)
theorem nl_GR_9 : u_lay nc_RGR nc_TGR 9 ∈ lw_tbl := List.mem_of_getElem? (i := 320) (by decide +kernel)
theorem nl_GR_10 : u_lay nc_RGR nc_TGR 10 ∈ lw_tbl := List.mem_of_getElem? (i := 322) (by decide +kernel)
theorem nl_GR_11 : u_lay nc_RGR nc_TGR 11 ∈ lw_tbl := List.mem_of_getElem? (i := 324) (by decide +kernel)
theorem nl_GR_12 : u_lay nc_RGR nc_TGR 12 ∈ lw_tbl := List.mem_of_getElem? (i := 326) (by decide +kernel)
theorem nw_GR : ∀ w ∈ u_ws nc_RGR nc_TGR 13, w ∈ gx_tbl := by
  intro w hw
  obtain ⟨k, hk, rfl⟩ := List.mem_map.mp hw
  have hk := List.mem_range.mp hk
  match k, hk with
  | 0, _ => exact gx_gd nl_GR_0 rfl
  | 1, _ => exact gx_gd nl_GR_1 rfl
  | 2, _ => exact gx_gd nl_GR_2 rfl
  | 3, _ => exact gx_gd nl_GR_3 rfl
  | 4, _ => exact gx_gd nl_GR_4 rfl
  | 5, _ => exact gx_gd nl_GR_5 rfl
  | 6, _ => exact gx_gd nl_GR_6 rfl
  | 7, _ => exact gx_gd nl_GR_7 rfl
  | 8, _ => exact gx_gd nl_GR_8 rfl
  | 9, _ => exact gx_gd nl_GR_9 rfl
  | 10, _ => exact gx_gd nl_GR_10 rfl
  | 11, _ => exact gx_gd nl_GR_11 rfl
  | 12, _ => exact gx_gd nl_GR_12 rfl
  | k + 13, hk => exact absurd hk (by omega)
theorem gk_GR : gx_CL 5 nc_RGR nc_TGR 13 nc_tGR := by
  refine ⟨rfl, nw_GR, by decide +kernel, by decide +kernel, ?_, by decide +kernel⟩
  intro k hk
  match k, hk with
  | 0, _ => exact rfl
  | 1, _ => exact rfl
  | 2, _ => exact rfl
  | 3, _ => exact rfl
  | 4, _ => exact Or.inr ⟨_, rfl⟩
  | 5, _ => exact Or.inr ⟨_, rfl⟩
  | 6, _ => exact Or.inr ⟨_, rfl⟩
  | 7, _ => exact Or.inr ⟨_, rfl⟩
  | 8, _ => exact Or.inr ⟨_, rfl⟩
  | 9, _ => exact Or.inr ⟨_, rfl⟩
  | 10, _ => exact Or.inr ⟨_, rfl⟩
  | 11, _ => exact Or.inl ⟨_, rfl⟩
  | 12, _ => exact Or.inl ⟨_, rfl⟩
  | k + 13, hk => exact absurd hk (by omega)
theorem nl_HI_0 : u_lay nc_RHI nc_THI 0 ∈ lw_tbl := List.mem_of_getElem? (i := 252) (by decide +kernel)
theorem nl_HI_1 : u_lay nc_RHI nc_THI 1 ∈ lw_tbl := List.mem_of_getElem? (i := 254) (by decide +kernel)
theorem nl_HI_2 : u_lay nc_RHI nc_THI 2 ∈ lw_tbl := List.mem_of_getElem? (i := 256) (by decide +kernel)
theorem nw_HI : ∀ w ∈ u_ws nc_RHI nc_THI 3, w ∈ gx_tbl := by
  intro w hw
  obtain ⟨k, hk, rfl⟩ := List.mem_map.mp hw
  have hk := List.mem_range.mp hk
  match k, hk with
  | 0, _ => exact gx_gd nl_HI_0 rfl
  | 1, _ => exact gx_gd nl_HI_1 rfl
  | 2, _ => exact gx_gd nl_HI_2 rfl
  | k + 3, hk => exact absurd hk (by omega)
theorem gk_HI : gx_CL 6 nc_RHI nc_THI 3 nc_tHI := by
  refine ⟨rfl, nw_HI, by decide +kernel, by decide +kernel, ?_, by decide +kernel⟩
  intro k hk
  match k, hk with
  | 0, _ => exact Or.inr ⟨_, rfl⟩
  | 1, _ => exact rfl
  | 2, _ => exact rfl
  | k + 3, hk => exact absurd hk (by omega)
theorem nl_SC_0 : u_lay nc_RSC nc_TSC 0 ∈ lw_tbl := List.mem_of_getElem? (i := 140) (by decide +kernel)
theorem nl_SC_1 : u_lay nc_RSC nc_TSC 1 ∈ lw_tbl := List.mem_of_getElem? (i := 142) (by decide +kernel)
theorem nw_SC : ∀ w ∈ u_ws nc_RSC nc_TSC 2, w ∈ gx_tbl := by
  intro w hw
  obtain ⟨k, hk, rfl⟩ := List.mem_map.mp hw
  have hk := List.mem_range.mp hk
  match k, hk with
  | 0, _ => exact gx_gd nl_SC_0 rfl
  | 1, _ => exact gx_gd nl_SC_1 rfl
  | k + 2, hk => exact absurd hk (by omega)
theorem gk_SC : gx_CL 7 nc_RSC nc_TSC 2 nc_tSC := by
  refine ⟨rfl, nw_SC, by decide +kernel, by decide +kernel, ?_, by decide +kernel⟩
  intro k hk
  match k, hk with
  | 0, _ => exact rfl
  | 1, _ => exact Or.inr ⟨_, rfl⟩
  | k + 2, hk => exact absurd hk (by omega)
theorem nl_SH_0 : u_lay nc_RSH nc_TSH 0 ∈ lw_tbl := List.mem_of_getElem? (i := 208) (by decide +kernel)
theorem nl_SH_1 : u_lay nc_RSH nc_TSH 1 ∈ lw_tbl := List.mem_of_getElem? (i := 210) (by decide +kernel)
theorem nl_SH_2 : u_lay nc_RSH nc_TSH 2 ∈ lw_tbl := List.mem_of_getElem? (i := 212) (by decide +kernel)
theorem nw_SH : ∀ w ∈ u_ws nc_RSH nc_TSH 3, w ∈ gx_tbl := by
  intro w hw
  obtain ⟨k, hk, rfl⟩ := List.mem_map.mp hw
  have hk := List.mem_range.mp hk
  match k, hk with
  | 0, _ => exact gx_gd nl_SH_0 rfl
  | 1, _ => exact gx_gd nl_SH_1 rfl
  | 2, _ => exact gx_gd nl_SH_2 rfl
  | k + 3, hk => exact absurd hk (by omega)
theorem gk_SH : gx_CL 8 nc_RSH nc_TSH 3 nc_tSH := by
  refine ⟨rfl, nw_SH, by decide +kernel, by decide +kernel, ?_, by decide +kernel⟩
  intro k hk
  match k, hk with
  | 0, _ => exact rfl
  | 1, _ => exact Or.inr ⟨_, rfl⟩
  | 2, _ => exact Or.inr ⟨_, rfl⟩
  | k + 3, hk => exact absurd hk (by omega)
theorem nl_ST_0 : u_lay nc_RST nc_TST 0 ∈ lw_tbl := List.mem_of_getElem? (i := 235) (by decide +kernel)
theorem nl_ST_1 : u_lay nc_RST nc_TST 1 ∈ lw_tbl := List.mem_of_getElem? (i := 237) (by decide +kernel)
theorem nl_ST_2 : u_lay nc_RST nc_TST 2 ∈ lw_tbl := List.mem_of_getElem? (i := 239) (by decide +kernel)
theorem nl_ST_3 : u_lay nc_RST nc_TST 3 ∈ lw_tbl := List.mem_of_getElem? (i := 241) (by decide +kernel)
theorem nl_ST_4 : u_lay nc_RST nc_TST 4 ∈ lw_tbl := List.mem_of_getElem? (i := 243) (by decide +kernel)
theorem nl_ST_5 : u_lay nc_RST nc_TST 5 ∈ lw_tbl := List.mem_of_getElem? (i := 245) (by decide +kernel)
theorem nw_ST : ∀ w ∈ u_ws nc_RST nc_TST 6, w ∈ gx_tbl := by
  intro w hw
  obtain ⟨k, hk, rfl⟩ := List.mem_map.mp hw
  have hk := List.mem_range.mp hk
  match k, hk with
  | 0, _ => exact gx_gd nl_ST_0 rfl
  | 1, _ => exact gx_gd nl_ST_1 rfl
  | 2, _ => exact gx_gd nl_ST_2 rfl
  | 3, _ => exact gx_gd nl_ST_3 rfl
  | 4, _ => exact gx_gd nl_ST_4 rfl
  | 5, _ => exact gx_gd nl_ST_5 rfl
  | k + 6, hk => exact absurd hk (by omega)
theorem gk_ST : gx_CL 9 nc_RST nc_TST 6 nc_tST := by
  refine ⟨rfl, nw_ST, by decide +kernel, by decide +kernel, ?_, by decide +kernel⟩
  intro k hk
  match k, hk with
  | 0, _ => exact Or.inl ⟨_, rfl⟩
  | 1, _ => exact Or.inr ⟨_, rfl⟩
  | 2, _ => exact Or.inr ⟨_, rfl⟩
  | 3, _ => exact Or.inr ⟨_, rfl⟩
  | 4, _ => exact Or.inr ⟨_, rfl⟩
  | 5, _ => exact rfl
  | k + 6, hk => exact absurd hk (by omega)
theorem nl_TX_0 : u_lay nc_RTX nc_TTX 0 ∈ lw_tbl := List.mem_of_getElem? (i := 116) (by decide +kernel)
theorem nl_TX_1 : u_lay nc_RTX nc_TTX 1 ∈ lw_tbl := List.mem_of_getElem? (i := 118) (by decide +kernel)
theorem nl_TX_2 : u_lay nc_RTX nc_TTX 2 ∈ lw_tbl := List.mem_of_getElem? (i := 120) (by decide +kernel)
theorem nl_TX_3 : u_lay nc_RTX nc_TTX 3 ∈ lw_tbl := List.mem_of_getElem? (i := 122) (by decide +kernel)
theorem nl_TX_4 : u_lay nc_RTX nc_TTX 4 ∈ lw_tbl := List.mem_of_getElem? (i := 124) (by decide +kernel)
theorem nl_TX_5 : u_lay nc_RTX nc_TTX 5 ∈ lw_tbl := List.mem_of_getElem? (i := 126) (by decide +kernel)
theorem nw_TX : ∀ w ∈ u_ws nc_RTX nc_TTX 6, w ∈ gx_tbl := by
  intro w hw
  obtain ⟨k, hk, rfl⟩ := List.mem_map.mp hw
  have hk := List.mem_range.mp hk
  match k, hk with
  | 0, _ => exact gx_gd nl_TX_0 rfl
  | 1, _ => exact gx_gd nl_TX_1 rfl
  | 2, _ => exact gx_gd nl_TX_2 rfl
  | 3, _ => exact gx_gd nl_TX_3 rfl
  | 4, _ => exact gx_gd nl_TX_4 rfl
  | 5, _ => exact gx_gd nl_TX_5 rfl
  | k + 6, hk => exact absurd hk (by omega)
theorem gk_TX : gx_CL 10 nc_RTX nc_TTX 6 nc_tTX := by
  refine ⟨rfl, nw_TX, by decide +kernel, by decide +kernel, ?_, by decide +kernel⟩
  intro k hk
  match k, hk with
  | 0, _ => exact Or.inr ⟨_, rfl⟩
  | 1, _ => exact rfl
  | 2, _ => exact rfl
  | 3, _ => exact rfl
  | 4, _ => exact rfl
  | 5, _ => exact rfl
  | k + 6, hk => exact absurd hk (by omega)
theorem nl_TU_0 : u_lay nc_RTU nc_TTU 0 ∈ lw_tbl := List.mem_of_getElem? (i := 371) (by decide +kernel)
theorem nl_TU_1 : u_lay nc_RTU nc_TTU 1 ∈ lw_tbl := List.mem_of_getElem? (i := 373) (by decide +kernel)
theorem nl_TU_2 : u_lay nc_RTU nc_TTU 2 ∈ lw_tbl := List.mem_of_getElem? (i := 375) (by decide +kernel)
theorem nl_TU_3 : u_lay nc_RTU nc_TTU 3 ∈ lw_tbl := List.mem_of_getElem? (i := 377) (by decide +kernel)
theorem nw_TU : ∀ w ∈ u_ws nc_RTU nc_TTU 4, w ∈ gx_tbl := by
  intro w hw
  obtain ⟨k, hk, rfl⟩ := List.mem_map.mp hw
  have hk := List.mem_range.mp hk
  match k, hk with
  | 0, _ => exact gx_gd nl_TU_0 rfl
  | 1, _ => exact gx_gd nl_TU_1 rfl
  | 2, _ => exact gx_gd nl_TU_2 rfl
  | 3, _ => exact gx_gd nl_TU_3 rfl
  | k + 4, hk => exact absurd hk (by omega)
theorem gk_TU : gx_CL 11 nc_RTU nc_TTU 4 nc_tTU := by
  refine ⟨rfl, nw_TU, by decide +kernel, by decide +kernel, ?_, by decide +kernel⟩
  intro k hk
  match k, hk with
  | 0, _ => exact Or.inl ⟨_, rfl⟩
  | 1, _ => exact Or.inl ⟨_, rfl⟩
  | 2, _ => exact Or.inr ⟨_, rfl⟩
  | 3, _ => exact Or.inr ⟨_, rfl⟩
  | k + 4, hk => exact absurd hk (by omega)
theorem nl_WA_0 : u_lay nc_RWA nc_TWA 0 ∈ lw_tbl := List.mem_of_getElem? (i := 346) (by decide +kernel)
theorem nl_WA_1 : u_lay nc_RWA nc_TWA 1 ∈ lw_tbl := List.mem_of_getElem? (i := 348) (by decide +kernel)
theorem nl_WA_2 : u_lay nc_RWA nc_TWA 2 ∈ lw_tbl := List.mem_of_getElem? (i := 350) (by decide +kernel)
theorem nl_WA_3 : u_lay nc_RWA nc_TWA 3 ∈ lw_tbl := List.mem_of_getElem? (i := 352) (by decide +kernel)
theorem nl_WA_4 : u_lay nc_RWA nc_TWA 4 ∈ lw_tbl := List.mem_of_getElem? (i := 354) (by decide +kernel)
theorem nl_WA_5 : u_lay nc_RWA nc_TWA 5 ∈ lw_tbl := List.mem_of_getElem? (i := 356) (by decide +kernel)
theorem nw_WA : ∀ w ∈ u_ws nc_RWA nc_TWA 6, w ∈ gx_tbl := by
  intro w hw
  obtain ⟨k, hk, rfl⟩ := List.mem_map.mp hw
  have hk := List.mem_range.mp hk
  match k, hk with
  | 0, _ => exact gx_gd nl_WA_0 rfl
  | 1, _ => exact gx_gd nl_WA_1 rfl
  | 2, _ => exact gx_gd nl_WA_2 rfl
  | 3, _ => exact gx_gd nl_WA_3 rfl
  | 4, _ => exact gx_gd nl_WA_4 rfl
  | 5, _ => exact gx_gd nl_WA_5 rfl
  | k + 6, hk => exact absurd hk (by omega)
theorem gk_WA : gx_CL 12 nc_RWA nc_TWA 6 nc_tWA := by
  refine ⟨rfl, nw_WA, by decide +kernel, by decide +kernel, ?_, by decide +kernel⟩
  intro k hk
  match k, hk with
  | 0, _ => exact rfl
  | 1, _ => exact Or.inr ⟨_, rfl⟩
  | 2, _ => exact Or.inr ⟨_, rfl⟩
  | 3, _ => exact Or.inr ⟨_, rfl⟩
  | 4, _ => exact Or.inr ⟨_, rfl⟩
  | 5, _ => exact Or.inr ⟨_, rfl⟩
  | k + 6, hk => exact absurd hk (by omega)
/-! field links -/
theorem fl_TX_11 : Cond.fieldLink "LetterExchange$Text" 11 nc_RTX (nc_TTX 0).2.1 (nc_TTX 0).2.2.1 ∈ lw_tbl := List.mem_of_getElem? (i := 107) (by decide +kernel)
theorem fl_TX_15 : Cond.fieldLink "LetterExchange$Text" 15 nc_RTX (nc_TTX 1).2.1 (nc_TTX 1).2.2.1 ∈ lw_tbl := List.mem_of_getElem? (i := 108) (by decide +kernel)
theorem fl_LE_126 : Cond.fieldLink "LetterExchange" 126 nc_RTX (nc_TTX 1).2.1 (nc_TTX 1).2.2.1 ∈ lw_tbl := List.mem_of_getElem? (i := 109) (by decide +kernel)
theorem fl_TX_19 : Cond.fieldLink "LetterExchange$Text" 19 nc_RTX (nc_TTX 2).2.1 (nc_TTX 2).2.2.1 ∈ lw_tbl := List.mem_of_getElem? (i := 110) (by decide +kernel)
theorem fl_LE_134 : Cond.fieldLink "LetterExchange" 134 nc_RTX (nc_TTX 2).2.1 (nc_TTX 2).2.2.1 ∈ lw_tbl := List.mem_of_getElem? (i := 111) (by decide +kernel)
theorem fl_TX_22 : Cond.fieldLink "LetterExchange$Text" 22 nc_RTX (nc_TTX 3).2.1 (nc_TTX 3).2.2.1 ∈ lw_tbl := List.mem_of_getElem? (i := 112) (by decide +kernel)
theorem fl_LE_140 : Cond.fieldLink "LetterExchange" 140 nc_RTX (nc_TTX 3).2.1 (nc_TTX 3).2.2.1 ∈ lw_tbl := List.mem_of_getElem? (i := 113) (by decide +kernel)
theorem fl_TX_25 : Cond.fieldLink "LetterExchange$Text" 25 nc_RTX (nc_TTX 4).2.1 (nc_TTX 4).2.2.1 ∈ lw_tbl := List.mem_of_getElem? (i := 114) (by decide +kernel)
theorem fl_TX_28 : Cond.fieldLink "LetterExchange$Text" 28 nc_RTX (nc_TTX 5).2.1 (nc_TTX 5).2.2.1 ∈ lw_tbl := List.mem_of_getElem? (i := 115) (by decide +kernel)
theorem fl_SC_9 : Cond.fieldLink "LetterExchange$Scales" 9 nc_RSC (nc_TSC 0).2.1 (nc_TSC 0).2.2.1 ∈ lw_tbl := List.mem_of_getElem? (i := 136) (by decide +kernel)
theorem fl_LE_143 : Cond.fieldLink "LetterExchange" 143 nc_RSC (nc_TSC 0).2.1 (nc_TSC 0).2.2.1 ∈ lw_tbl := List.mem_of_getElem? (i := 137) (by decide +kernel)
theorem fl_SC_15 : Cond.fieldLink "LetterExchange$Scales" 15 nc_RSC (nc_TSC 1).2.1 (nc_TSC 1).2.2.1 ∈ lw_tbl := List.mem_of_getElem? (i := 138) (by decide +kernel)
theorem fl_LE_186 : Cond.fieldLink "LetterExchange" 186 nc_RSC (nc_TSC 1).2.1 (nc_TSC 1).2.2.1 ∈ lw_tbl := List.mem_of_getElem? (i := 139) (by decide +kernel)
theorem fl_FR_7 : Cond.fieldLink "LetterExchange$Fraction" 7 nc_RFR (nc_TFR 0).2.1 (nc_TFR 0).2.2.1 ∈ lw_tbl := List.mem_of_getElem? (i := 157) (by decide +kernel)
theorem fl_EX_71 : Cond.fieldLink "LetterExchange$Exchanger" 71 nc_RFR (nc_TFR 0).2.1 (nc_TFR 0).2.2.1 ∈ lw_tbl := List.mem_of_getElem? (i := 158) (by decide +kernel)
theorem fl_FR_13 : Cond.fieldLink "LetterExchange$Fraction" 13 nc_RFR (nc_TFR 1).2.1 (nc_TFR 1).2.2.1 ∈ lw_tbl := List.mem_of_getElem? (i := 159) (by decide +kernel)
theorem fl_EX_74 : Cond.fieldLink "LetterExchange$Exchanger" 74 nc_RFR (nc_TFR 1).2.1 (nc_TFR 1).2.2.1 ∈ lw_tbl := List.mem_of_getElem? (i := 160) (by decide +kernel)
theorem fl_EX_12 : Cond.fieldLink "LetterExchange$Exchanger" 12 nc_REX (nc_TEX 0).2.1 (nc_TEX 0).2.2.1 ∈ lw_tbl := List.mem_of_getElem? (i := 166) (by decide +kernel)
theorem fl_EX_18 : Cond.fieldLink "LetterExchange$Exchanger" 18 nc_REX (nc_TEX 1).2.1 (nc_TEX 1).2.2.1 ∈ lw_tbl := List.mem_of_getElem? (i := 167) (by decide +kernel)
theorem fl_SH_9 : Cond.fieldLink "LetterExchange$Shape" 9 nc_RSH (nc_TSH 0).2.1 (nc_TSH 0).2.2.1 ∈ lw_tbl := List.mem_of_getElem? (i := 192) (by decide +kernel)
theorem fl_GR_57 : Cond.fieldLink "LetterExchange$Graph" 57 nc_RSH (nc_TSH 0).2.1 (nc_TSH 0).2.2.1 ∈ lw_tbl := List.mem_of_getElem? (i := 193) (by decide +kernel)
theorem fl_EX_37 : Cond.fieldLink "LetterExchange$Exchanger" 37 nc_RSH (nc_TSH 0).2.1 (nc_TSH 0).2.2.1 ∈ lw_tbl := List.mem_of_getElem? (i := 194) (by decide +kernel)
theorem fl_TU_40 : Cond.fieldLink "LetterExchange$Turns" 40 nc_RSH (nc_TSH 0).2.1 (nc_TSH 0).2.2.1 ∈ lw_tbl := List.mem_of_getElem? (i := 195) (by decide +kernel)
theorem fl_SC_23 : Cond.fieldLink "LetterExchange$Scales" 23 nc_RSH (nc_TSH 0).2.1 (nc_TSH 0).2.2.1 ∈ lw_tbl := List.mem_of_getElem? (i := 196) (by decide +kernel)
theorem fl_BK_22 : Cond.fieldLink "LetterExchange$Book" 22 nc_RSH (nc_TSH 0).2.1 (nc_TSH 0).2.2.1 ∈ lw_tbl := List.mem_of_getElem? (i := 197) (by decide +kernel)
theorem fl_LE_137 : Cond.fieldLink "LetterExchange" 137 nc_RSH (nc_TSH 0).2.1 (nc_TSH 0).2.2.1 ∈ lw_tbl := List.mem_of_getElem? (i := 198) (by decide +kernel)
theorem fl_TX_72 : Cond.fieldLink "LetterExchange$Text" 72 nc_RSH (nc_TSH 0).2.1 (nc_TSH 0).2.2.1 ∈ lw_tbl := List.mem_of_getElem? (i := 199) (by decide +kernel)
theorem fl_SH_15 : Cond.fieldLink "LetterExchange$Shape" 15 nc_RSH (nc_TSH 1).2.1 (nc_TSH 1).2.2.1 ∈ lw_tbl := List.mem_of_getElem? (i := 200) (by decide +kernel)
theorem fl_SC_32 : Cond.fieldLink "LetterExchange$Scales" 32 nc_RSH (nc_TSH 1).2.1 (nc_TSH 1).2.2.1 ∈ lw_tbl := List.mem_of_getElem? (i := 201) (by decide +kernel)
theorem fl_EX_101 : Cond.fieldLink "LetterExchange$Exchanger" 101 nc_RSH (nc_TSH 1).2.1 (nc_TSH 1).2.2.1 ∈ lw_tbl := List.mem_of_getElem? (i := 202) (by decide +kernel)
theorem fl_GR_98 : Cond.fieldLink "LetterExchange$Graph" 98 nc_RSH (nc_TSH 1).2.1 (nc_TSH 1).2.2.1 ∈ lw_tbl := List.mem_of_getElem? (i := 203) (by decide +kernel)
theorem fl_LE_173 : Cond.fieldLink "LetterExchange" 173 nc_RSH (nc_TSH 1).2.1 (nc_TSH 1).2.2.1 ∈ lw_tbl := List.mem_of_getElem? (i := 204) (by decide +kernel)
theorem fl_SH_19 : Cond.fieldLink "LetterExchange$Shape" 19 nc_RSH (nc_TSH 2).2.1 (nc_TSH 2).2.2.1 ∈ lw_tbl := List.mem_of_getElem? (i := 205) (by decide +kernel)
theorem fl_GR_88 : Cond.fieldLink "LetterExchange$Graph" 88 nc_RSH (nc_TSH 2).2.1 (nc_TSH 2).2.2.1 ∈ lw_tbl := List.mem_of_getElem? (i := 206) (by decide +kernel)
theorem fl_LE_199 : Cond.fieldLink "LetterExchange" 199 nc_RSH (nc_TSH 2).2.1 (nc_TSH 2).2.2.1 ∈ lw_tbl := List.mem_of_getElem? (i := 207) (by decide +kernel)
theorem fl_ST_12 : Cond.fieldLink "LetterExchange$State" 12 nc_RST (nc_TST 0).2.1 (nc_TST 0).2.2.1 ∈ lw_tbl := List.mem_of_getElem? (i := 215) (by decide +kernel)
theorem fl_LE_108 : Cond.fieldLink "LetterExchange" 108 nc_RST (nc_TST 0).2.1 (nc_TST 0).2.2.1 ∈ lw_tbl := List.mem_of_getElem? (i := 216) (by decide +kernel)
theorem fl_EX_25 : Cond.fieldLink "LetterExchange$Exchanger" 25 nc_RST (nc_TST 0).2.1 (nc_TST 0).2.2.1 ∈ lw_tbl := List.mem_of_getElem? (i := 217) (by decide +kernel)
theorem fl_TX_61 : Cond.fieldLink "LetterExchange$Text" 61 nc_RST (nc_TST 0).2.1 (nc_TST 0).2.2.1 ∈ lw_tbl := List.mem_of_getElem? (i := 218) (by decide +kernel)
theorem fl_ST_18 : Cond.fieldLink "LetterExchange$State" 18 nc_RST (nc_TST 1).2.1 (nc_TST 1).2.2.1 ∈ lw_tbl := List.mem_of_getElem? (i := 219) (by decide +kernel)
theorem fl_EX_59 : Cond.fieldLink "LetterExchange$Exchanger" 59 nc_RST (nc_TST 1).2.1 (nc_TST 1).2.2.1 ∈ lw_tbl := List.mem_of_getElem? (i := 220) (by decide +kernel)
theorem fl_TX_81 : Cond.fieldLink "LetterExchange$Text" 81 nc_RST (nc_TST 1).2.1 (nc_TST 1).2.2.1 ∈ lw_tbl := List.mem_of_getElem? (i := 221) (by decide +kernel)
theorem fl_LE_180 : Cond.fieldLink "LetterExchange" 180 nc_RST (nc_TST 1).2.1 (nc_TST 1).2.2.1 ∈ lw_tbl := List.mem_of_getElem? (i := 222) (by decide +kernel)
theorem fl_ST_22 : Cond.fieldLink "LetterExchange$State" 22 nc_RST (nc_TST 2).2.1 (nc_TST 2).2.2.1 ∈ lw_tbl := List.mem_of_getElem? (i := 223) (by decide +kernel)
theorem fl_EX_68 : Cond.fieldLink "LetterExchange$Exchanger" 68 nc_RST (nc_TST 2).2.1 (nc_TST 2).2.2.1 ∈ lw_tbl := List.mem_of_getElem? (i := 224) (by decide +kernel)
theorem fl_LE_183 : Cond.fieldLink "LetterExchange" 183 nc_RST (nc_TST 2).2.1 (nc_TST 2).2.2.1 ∈ lw_tbl := List.mem_of_getElem? (i := 225) (by decide +kernel)
theorem fl_ST_25 : Cond.fieldLink "LetterExchange$State" 25 nc_RST (nc_TST 3).2.1 (nc_TST 3).2.2.1 ∈ lw_tbl := List.mem_of_getElem? (i := 226) (by decide +kernel)
theorem fl_EX_48 : Cond.fieldLink "LetterExchange$Exchanger" 48 nc_RST (nc_TST 3).2.1 (nc_TST 3).2.2.1 ∈ lw_tbl := List.mem_of_getElem? (i := 227) (by decide +kernel)
theorem fl_LE_202 : Cond.fieldLink "LetterExchange" 202 nc_RST (nc_TST 3).2.1 (nc_TST 3).2.2.1 ∈ lw_tbl := List.mem_of_getElem? (i := 228) (by decide +kernel)
theorem fl_ST_28 : Cond.fieldLink "LetterExchange$State" 28 nc_RST (nc_TST 4).2.1 (nc_TST 4).2.2.1 ∈ lw_tbl := List.mem_of_getElem? (i := 229) (by decide +kernel)
theorem fl_EX_56 : Cond.fieldLink "LetterExchange$Exchanger" 56 nc_RST (nc_TST 4).2.1 (nc_TST 4).2.2.1 ∈ lw_tbl := List.mem_of_getElem? (i := 230) (by decide +kernel)
theorem fl_LE_205 : Cond.fieldLink "LetterExchange" 205 nc_RST (nc_TST 4).2.1 (nc_TST 4).2.2.1 ∈ lw_tbl := List.mem_of_getElem? (i := 231) (by decide +kernel)
theorem fl_ST_31 : Cond.fieldLink "LetterExchange$State" 31 nc_RST (nc_TST 5).2.1 (nc_TST 5).2.2.1 ∈ lw_tbl := List.mem_of_getElem? (i := 232) (by decide +kernel)
theorem fl_EX_76 : Cond.fieldLink "LetterExchange$Exchanger" 76 nc_RST (nc_TST 5).2.1 (nc_TST 5).2.2.1 ∈ lw_tbl := List.mem_of_getElem? (i := 233) (by decide +kernel)
theorem fl_LE_146 : Cond.fieldLink "LetterExchange" 146 nc_RST (nc_TST 5).2.1 (nc_TST 5).2.2.1 ∈ lw_tbl := List.mem_of_getElem? (i := 234) (by decide +kernel)
theorem fl_HI_11 : Cond.fieldLink "LetterExchange$History" 11 nc_RHI (nc_THI 0).2.1 (nc_THI 0).2.2.1 ∈ lw_tbl := List.mem_of_getElem? (i := 248) (by decide +kernel)
theorem fl_HI_17 : Cond.fieldLink "LetterExchange$History" 17 nc_RHI (nc_THI 1).2.1 (nc_THI 1).2.2.1 ∈ lw_tbl := List.mem_of_getElem? (i := 249) (by decide +kernel)
theorem fl_HI_21 : Cond.fieldLink "LetterExchange$History" 21 nc_RHI (nc_THI 2).2.1 (nc_THI 2).2.2.1 ∈ lw_tbl := List.mem_of_getElem? (i := 250) (by decide +kernel)
theorem fl_LE_168 : Cond.fieldLink "LetterExchange" 168 nc_RHI (nc_THI 2).2.1 (nc_THI 2).2.2.1 ∈ lw_tbl := List.mem_of_getElem? (i := 251) (by decide +kernel)
theorem fl_BK_11 : Cond.fieldLink "LetterExchange$Book" 11 nc_RBK (nc_TBK 0).2.1 (nc_TBK 0).2.2.1 ∈ lw_tbl := List.mem_of_getElem? (i := 265) (by decide +kernel)
theorem fl_BK_15 : Cond.fieldLink "LetterExchange$Book" 15 nc_RBK (nc_TBK 1).2.1 (nc_TBK 1).2.2.1 ∈ lw_tbl := List.mem_of_getElem? (i := 266) (by decide +kernel)
theorem fl_BK_18 : Cond.fieldLink "LetterExchange$Book" 18 nc_RBK (nc_TBK 2).2.1 (nc_TBK 2).2.2.1 ∈ lw_tbl := List.mem_of_getElem? (i := 267) (by decide +kernel)
theorem fl_LE_161 : Cond.fieldLink "LetterExchange" 161 nc_RBK (nc_TBK 2).2.1 (nc_TBK 2).2.2.1 ∈ lw_tbl := List.mem_of_getElem? (i := 268) (by decide +kernel)
theorem fl_GR_9 : Cond.fieldLink "LetterExchange$Graph" 9 nc_RGR (nc_TGR 0).2.1 (nc_TGR 0).2.2.1 ∈ lw_tbl := List.mem_of_getElem? (i := 284) (by decide +kernel)
theorem fl_WA_33 : Cond.fieldLink "LetterExchange$Walk" 33 nc_RGR (nc_TGR 0).2.1 (nc_TGR 0).2.2.1 ∈ lw_tbl := List.mem_of_getElem? (i := 285) (by decide +kernel)
theorem fl_GR_15 : Cond.fieldLink "LetterExchange$Graph" 15 nc_RGR (nc_TGR 1).2.1 (nc_TGR 1).2.2.1 ∈ lw_tbl := List.mem_of_getElem? (i := 286) (by decide +kernel)
theorem fl_WA_38 : Cond.fieldLink "LetterExchange$Walk" 38 nc_RGR (nc_TGR 1).2.1 (nc_TGR 1).2.2.1 ∈ lw_tbl := List.mem_of_getElem? (i := 287) (by decide +kernel)
theorem fl_GR_18 : Cond.fieldLink "LetterExchange$Graph" 18 nc_RGR (nc_TGR 2).2.1 (nc_TGR 2).2.2.1 ∈ lw_tbl := List.mem_of_getElem? (i := 288) (by decide +kernel)
theorem fl_LE_154 : Cond.fieldLink "LetterExchange" 154 nc_RGR (nc_TGR 2).2.1 (nc_TGR 2).2.2.1 ∈ lw_tbl := List.mem_of_getElem? (i := 289) (by decide +kernel)
theorem fl_GR_21 : Cond.fieldLink "LetterExchange$Graph" 21 nc_RGR (nc_TGR 3).2.1 (nc_TGR 3).2.2.1 ∈ lw_tbl := List.mem_of_getElem? (i := 290) (by decide +kernel)
theorem fl_LE_269 : Cond.fieldLink "LetterExchange" 269 nc_RGR (nc_TGR 3).2.1 (nc_TGR 3).2.2.1 ∈ lw_tbl := List.mem_of_getElem? (i := 291) (by decide +kernel)
theorem fl_GR_25 : Cond.fieldLink "LetterExchange$Graph" 25 nc_RGR (nc_TGR 4).2.1 (nc_TGR 4).2.2.1 ∈ lw_tbl := List.mem_of_getElem? (i := 292) (by decide +kernel)
theorem fl_WA_41 : Cond.fieldLink "LetterExchange$Walk" 41 nc_RGR (nc_TGR 4).2.1 (nc_TGR 4).2.2.1 ∈ lw_tbl := List.mem_of_getElem? (i := 293) (by decide +kernel)
theorem fl_GR_29 : Cond.fieldLink "LetterExchange$Graph" 29 nc_RGR (nc_TGR 5).2.1 (nc_TGR 5).2.2.1 ∈ lw_tbl := List.mem_of_getElem? (i := 294) (by decide +kernel)
theorem fl_GR_32 : Cond.fieldLink "LetterExchange$Graph" 32 nc_RGR (nc_TGR 6).2.1 (nc_TGR 6).2.2.1 ∈ lw_tbl := List.mem_of_getElem? (i := 295) (by decide +kernel)
theorem fl_GR_35 : Cond.fieldLink "LetterExchange$Graph" 35 nc_RGR (nc_TGR 7).2.1 (nc_TGR 7).2.2.1 ∈ lw_tbl := List.mem_of_getElem? (i := 296) (by decide +kernel)
theorem fl_GR_38 : Cond.fieldLink "LetterExchange$Graph" 38 nc_RGR (nc_TGR 8).2.1 (nc_TGR 8).2.2.1 ∈ lw_tbl := List.mem_of_getElem? (i := 297) (by decide +kernel)
theorem fl_GR_41 : Cond.fieldLink "LetterExchange$Graph" 41 nc_RGR (nc_TGR 9).2.1 (nc_TGR 9).2.2.1 ∈ lw_tbl := List.mem_of_getElem? (i := 298) (by decide +kernel)
theorem fl_GR_44 : Cond.fieldLink "LetterExchange$Graph" 44 nc_RGR (nc_TGR 10).2.1 (nc_TGR 10).2.2.1 ∈ lw_tbl := List.mem_of_getElem? (i := 299) (by decide +kernel)
theorem fl_GR_50 : Cond.fieldLink "LetterExchange$Graph" 50 nc_RGR (nc_TGR 11).2.1 (nc_TGR 11).2.2.1 ∈ lw_tbl := List.mem_of_getElem? (i := 300) (by decide +kernel)
theorem fl_GR_54 : Cond.fieldLink "LetterExchange$Graph" 54 nc_RGR (nc_TGR 12).2.1 (nc_TGR 12).2.2.1 ∈ lw_tbl := List.mem_of_getElem? (i := 301) (by decide +kernel)
theorem fl_WA_9 : Cond.fieldLink "LetterExchange$Walk" 9 nc_RWA (nc_TWA 0).2.1 (nc_TWA 0).2.2.1 ∈ lw_tbl := List.mem_of_getElem? (i := 335) (by decide +kernel)
theorem fl_LE_153 : Cond.fieldLink "LetterExchange" 153 nc_RWA (nc_TWA 0).2.1 (nc_TWA 0).2.2.1 ∈ lw_tbl := List.mem_of_getElem? (i := 336) (by decide +kernel)
theorem fl_WA_17 : Cond.fieldLink "LetterExchange$Walk" 17 nc_RWA (nc_TWA 1).2.1 (nc_TWA 1).2.2.1 ∈ lw_tbl := List.mem_of_getElem? (i := 337) (by decide +kernel)
theorem fl_LE_248 : Cond.fieldLink "LetterExchange" 248 nc_RWA (nc_TWA 1).2.1 (nc_TWA 1).2.2.1 ∈ lw_tbl := List.mem_of_getElem? (i := 338) (by decide +kernel)
theorem fl_WA_21 : Cond.fieldLink "LetterExchange$Walk" 21 nc_RWA (nc_TWA 2).2.1 (nc_TWA 2).2.2.1 ∈ lw_tbl := List.mem_of_getElem? (i := 339) (by decide +kernel)
theorem fl_WA_24 : Cond.fieldLink "LetterExchange$Walk" 24 nc_RWA (nc_TWA 3).2.1 (nc_TWA 3).2.2.1 ∈ lw_tbl := List.mem_of_getElem? (i := 340) (by decide +kernel)
theorem fl_LE_232 : Cond.fieldLink "LetterExchange" 232 nc_RWA (nc_TWA 3).2.1 (nc_TWA 3).2.2.1 ∈ lw_tbl := List.mem_of_getElem? (i := 341) (by decide +kernel)
theorem fl_WA_27 : Cond.fieldLink "LetterExchange$Walk" 27 nc_RWA (nc_TWA 4).2.1 (nc_TWA 4).2.2.1 ∈ lw_tbl := List.mem_of_getElem? (i := 342) (by decide +kernel)
theorem fl_LE_235 : Cond.fieldLink "LetterExchange" 235 nc_RWA (nc_TWA 4).2.1 (nc_TWA 4).2.2.1 ∈ lw_tbl := List.mem_of_getElem? (i := 343) (by decide +kernel)
theorem fl_WA_30 : Cond.fieldLink "LetterExchange$Walk" 30 nc_RWA (nc_TWA 5).2.1 (nc_TWA 5).2.2.1 ∈ lw_tbl := List.mem_of_getElem? (i := 344) (by decide +kernel)
theorem fl_LE_238 : Cond.fieldLink "LetterExchange" 238 nc_RWA (nc_TWA 5).2.1 (nc_TWA 5).2.2.1 ∈ lw_tbl := List.mem_of_getElem? (i := 345) (by decide +kernel)
theorem fl_TU_12 : Cond.fieldLink "LetterExchange$Turns" 12 nc_RTU (nc_TTU 0).2.1 (nc_TTU 0).2.2.1 ∈ lw_tbl := List.mem_of_getElem? (i := 367) (by decide +kernel)
theorem fl_TU_18 : Cond.fieldLink "LetterExchange$Turns" 18 nc_RTU (nc_TTU 1).2.1 (nc_TTU 1).2.2.1 ∈ lw_tbl := List.mem_of_getElem? (i := 368) (by decide +kernel)
theorem fl_TU_21 : Cond.fieldLink "LetterExchange$Turns" 21 nc_RTU (nc_TTU 2).2.1 (nc_TTU 2).2.2.1 ∈ lw_tbl := List.mem_of_getElem? (i := 369) (by decide +kernel)
theorem fl_TU_25 : Cond.fieldLink "LetterExchange$Turns" 25 nc_RTU (nc_TTU 3).2.1 (nc_TTU 3).2.2.1 ∈ lw_tbl := List.mem_of_getElem? (i := 370) (by decide +kernel)
theorem fl_LE_12 : Cond.fieldLink "LetterExchange" 12 nc_RLE (nc_TLE 0).2.1 (nc_TLE 0).2.2.1 ∈ lw_tbl := List.mem_of_getElem? (i := 433) (by decide +kernel)
theorem fl_LE_19 : Cond.fieldLink "LetterExchange" 19 nc_RLE (nc_TLE 1).2.1 (nc_TLE 1).2.2.1 ∈ lw_tbl := List.mem_of_getElem? (i := 434) (by decide +kernel)
theorem fl_LE_26 : Cond.fieldLink "LetterExchange" 26 nc_RLE (nc_TLE 2).2.1 (nc_TLE 2).2.2.1 ∈ lw_tbl := List.mem_of_getElem? (i := 435) (by decide +kernel)
theorem fl_LE_33 : Cond.fieldLink "LetterExchange" 33 nc_RLE (nc_TLE 3).2.1 (nc_TLE 3).2.2.1 ∈ lw_tbl := List.mem_of_getElem? (i := 436) (by decide +kernel)
theorem fl_LE_40 : Cond.fieldLink "LetterExchange" 40 nc_RLE (nc_TLE 4).2.1 (nc_TLE 4).2.2.1 ∈ lw_tbl := List.mem_of_getElem? (i := 437) (by decide +kernel)
theorem fl_LE_47 : Cond.fieldLink "LetterExchange" 47 nc_RLE (nc_TLE 5).2.1 (nc_TLE 5).2.2.1 ∈ lw_tbl := List.mem_of_getElem? (i := 438) (by decide +kernel)
theorem fl_LE_54 : Cond.fieldLink "LetterExchange" 54 nc_RLE (nc_TLE 6).2.1 (nc_TLE 6).2.2.1 ∈ lw_tbl := List.mem_of_getElem? (i := 439) (by decide +kernel)
theorem fl_LE_61 : Cond.fieldLink "LetterExchange" 61 nc_RLE (nc_TLE 7).2.1 (nc_TLE 7).2.2.1 ∈ lw_tbl := List.mem_of_getElem? (i := 440) (by decide +kernel)
theorem fl_LE_68 : Cond.fieldLink "LetterExchange" 68 nc_RLE (nc_TLE 8).2.1 (nc_TLE 8).2.2.1 ∈ lw_tbl := List.mem_of_getElem? (i := 441) (by decide +kernel)
theorem fl_LE_72 : Cond.fieldLink "LetterExchange" 72 nc_RLE (nc_TLE 9).2.1 (nc_TLE 9).2.2.1 ∈ lw_tbl := List.mem_of_getElem? (i := 442) (by decide +kernel)
theorem fl_LE_76 : Cond.fieldLink "LetterExchange" 76 nc_RLE (nc_TLE 10).2.1 (nc_TLE 10).2.2.1 ∈ lw_tbl := List.mem_of_getElem? (i := 443) (by decide +kernel)
theorem fl_LE_80 : Cond.fieldLink "LetterExchange" 80 nc_RLE (nc_TLE 11).2.1 (nc_TLE 11).2.2.1 ∈ lw_tbl := List.mem_of_getElem? (i := 444) (by decide +kernel)
theorem fl_LE_84 : Cond.fieldLink "LetterExchange" 84 nc_RLE (nc_TLE 12).2.1 (nc_TLE 12).2.2.1 ∈ lw_tbl := List.mem_of_getElem? (i := 445) (by decide +kernel)
theorem fl_LE_87 : Cond.fieldLink "LetterExchange" 87 nc_RLE (nc_TLE 13).2.1 (nc_TLE 13).2.2.1 ∈ lw_tbl := List.mem_of_getElem? (i := 446) (by decide +kernel)
theorem fl_LE_90 : Cond.fieldLink "LetterExchange" 90 nc_RLE (nc_TLE 14).2.1 (nc_TLE 14).2.2.1 ∈ lw_tbl := List.mem_of_getElem? (i := 447) (by decide +kernel)
theorem fl_LE_93 : Cond.fieldLink "LetterExchange" 93 nc_RLE (nc_TLE 15).2.1 (nc_TLE 15).2.2.1 ∈ lw_tbl := List.mem_of_getElem? (i := 448) (by decide +kernel)
theorem fl_LE_97 : Cond.fieldLink "LetterExchange" 97 nc_RLE (nc_TLE 16).2.1 (nc_TLE 16).2.2.1 ∈ lw_tbl := List.mem_of_getElem? (i := 449) (by decide +kernel)
theorem fl_LE_101 : Cond.fieldLink "LetterExchange" 101 nc_RLE (nc_TLE 17).2.1 (nc_TLE 17).2.2.1 ∈ lw_tbl := List.mem_of_getElem? (i := 450) (by decide +kernel)
theorem fl_MD_7 : Cond.fieldLink "LetterExchangeModel" 7 nc_RMD (nc_TMD 0).2.1 (nc_TMD 0).2.2.1 ∈ lw_tbl := List.mem_of_getElem? (i := 852) (by decide +kernel)
theorem fl_MD_13 : Cond.fieldLink "LetterExchangeModel" 13 nc_RMD (nc_TMD 1).2.1 (nc_TMD 1).2.2.1 ∈ lw_tbl := List.mem_of_getElem? (i := 853) (by decide +kernel)
theorem fl_MD_230 : Cond.fieldLink "LetterExchangeModel" 230 nc_RMD (nc_TMD 2).2.1 (nc_TMD 2).2.2.1 ∈ lw_tbl := List.mem_of_getElem? (i := 854) (by decide +kernel)
theorem fl_MD_233 : Cond.fieldLink "LetterExchangeModel" 233 nc_RMD (nc_TMD 3).2.1 (nc_TMD 3).2.2.1 ∈ lw_tbl := List.mem_of_getElem? (i := 855) (by decide +kernel)
theorem fl_MD_268 : Cond.fieldLink "LetterExchangeModel" 268 nc_RMD (nc_TMD 4).2.1 (nc_TMD 4).2.2.1 ∈ lw_tbl := List.mem_of_getElem? (i := 856) (by decide +kernel)
theorem fl_MD_17 : Cond.fieldLink "LetterExchangeModel" 17 nc_RMD (nc_TMD 5).2.1 (nc_TMD 5).2.2.1 ∈ lw_tbl := List.mem_of_getElem? (i := 857) (by decide +kernel)
theorem fl_MD_20 : Cond.fieldLink "LetterExchangeModel" 20 nc_RMD (nc_TMD 6).2.1 (nc_TMD 6).2.2.1 ∈ lw_tbl := List.mem_of_getElem? (i := 858) (by decide +kernel)
theorem fl_MD_195 : Cond.fieldLink "LetterExchangeModel" 195 nc_RMD (nc_TMD 7).2.1 (nc_TMD 7).2.2.1 ∈ lw_tbl := List.mem_of_getElem? (i := 859) (by decide +kernel)
theorem fl_MD_23 : Cond.fieldLink "LetterExchangeModel" 23 nc_RMD (nc_TMD 8).2.1 (nc_TMD 8).2.2.1 ∈ lw_tbl := List.mem_of_getElem? (i := 860) (by decide +kernel)
theorem fl_MD_26 : Cond.fieldLink "LetterExchangeModel" 26 nc_RMD (nc_TMD 9).2.1 (nc_TMD 9).2.2.1 ∈ lw_tbl := List.mem_of_getElem? (i := 861) (by decide +kernel)
theorem fl_MD_29 : Cond.fieldLink "LetterExchangeModel" 29 nc_RMD (nc_TMD 10).2.1 (nc_TMD 10).2.2.1 ∈ lw_tbl := List.mem_of_getElem? (i := 862) (by decide +kernel)
theorem fl_MD_236 : Cond.fieldLink "LetterExchangeModel" 236 nc_RMD (nc_TMD 11).2.1 (nc_TMD 11).2.2.1 ∈ lw_tbl := List.mem_of_getElem? (i := 863) (by decide +kernel)
theorem fl_MD_32 : Cond.fieldLink "LetterExchangeModel" 32 nc_RMD (nc_TMD 12).2.1 (nc_TMD 12).2.2.1 ∈ lw_tbl := List.mem_of_getElem? (i := 864) (by decide +kernel)
theorem fl_MD_80 : Cond.fieldLink "LetterExchangeModel" 80 nc_RMD (nc_TMD 13).2.1 (nc_TMD 13).2.2.1 ∈ lw_tbl := List.mem_of_getElem? (i := 865) (by decide +kernel)
theorem fl_MD_84 : Cond.fieldLink "LetterExchangeModel" 84 nc_RMD (nc_TMD 14).2.1 (nc_TMD 14).2.2.1 ∈ lw_tbl := List.mem_of_getElem? (i := 866) (by decide +kernel)
theorem fl_MD_87 : Cond.fieldLink "LetterExchangeModel" 87 nc_RMD (nc_TMD 15).2.1 (nc_TMD 15).2.2.1 ∈ lw_tbl := List.mem_of_getElem? (i := 867) (by decide +kernel)
theorem fl_MD_35 : Cond.fieldLink "LetterExchangeModel" 35 nc_RMD (nc_TMD 16).2.1 (nc_TMD 16).2.2.1 ∈ lw_tbl := List.mem_of_getElem? (i := 868) (by decide +kernel)
theorem fl_MD_38 : Cond.fieldLink "LetterExchangeModel" 38 nc_RMD (nc_TMD 17).2.1 (nc_TMD 17).2.2.1 ∈ lw_tbl := List.mem_of_getElem? (i := 869) (by decide +kernel)
theorem fl_MD_41 : Cond.fieldLink "LetterExchangeModel" 41 nc_RMD (nc_TMD 18).2.1 (nc_TMD 18).2.2.1 ∈ lw_tbl := List.mem_of_getElem? (i := 870) (by decide +kernel)
theorem fl_MD_44 : Cond.fieldLink "LetterExchangeModel" 44 nc_RMD (nc_TMD 19).2.1 (nc_TMD 19).2.2.1 ∈ lw_tbl := List.mem_of_getElem? (i := 871) (by decide +kernel)
theorem fl_MD_47 : Cond.fieldLink "LetterExchangeModel" 47 nc_RMD (nc_TMD 20).2.1 (nc_TMD 20).2.2.1 ∈ lw_tbl := List.mem_of_getElem? (i := 872) (by decide +kernel)
theorem fl_MD_50 : Cond.fieldLink "LetterExchangeModel" 50 nc_RMD (nc_TMD 21).2.1 (nc_TMD 21).2.2.1 ∈ lw_tbl := List.mem_of_getElem? (i := 873) (by decide +kernel)
theorem fl_MD_150 : Cond.fieldLink "LetterExchangeModel" 150 nc_RMD (nc_TMD 22).2.1 (nc_TMD 22).2.2.1 ∈ lw_tbl := List.mem_of_getElem? (i := 874) (by decide +kernel)
theorem fl_MD_53 : Cond.fieldLink "LetterExchangeModel" 53 nc_RMD (nc_TMD 23).2.1 (nc_TMD 23).2.2.1 ∈ lw_tbl := List.mem_of_getElem? (i := 875) (by decide +kernel)
theorem fl_MD_202 : Cond.fieldLink "LetterExchangeModel" 202 nc_RMD (nc_TMD 24).2.1 (nc_TMD 24).2.2.1 ∈ lw_tbl := List.mem_of_getElem? (i := 876) (by decide +kernel)
theorem fl_MD_199 : Cond.fieldLink "LetterExchangeModel" 199 nc_RMD (nc_TMD 25).2.1 (nc_TMD 25).2.2.1 ∈ lw_tbl := List.mem_of_getElem? (i := 877) (by decide +kernel)
theorem fl_MD_205 : Cond.fieldLink "LetterExchangeModel" 205 nc_RMD (nc_TMD 26).2.1 (nc_TMD 26).2.2.1 ∈ lw_tbl := List.mem_of_getElem? (i := 878) (by decide +kernel)
theorem fl_MD_62 : Cond.fieldLink "LetterExchangeModel" 62 nc_RMD (nc_TMD 27).2.1 (nc_TMD 27).2.2.1 ∈ lw_tbl := List.mem_of_getElem? (i := 879) (by decide +kernel)
theorem fl_MD_56 : Cond.fieldLink "LetterExchangeModel" 56 nc_RMD (nc_TMD 28).2.1 (nc_TMD 28).2.2.1 ∈ lw_tbl := List.mem_of_getElem? (i := 880) (by decide +kernel)
theorem fl_MD_59 : Cond.fieldLink "LetterExchangeModel" 59 nc_RMD (nc_TMD 29).2.1 (nc_TMD 29).2.2.1 ∈ lw_tbl := List.mem_of_getElem? (i := 881) (by decide +kernel)
/-! constants -/
theorem kc_LE_121 : Cond.constant "LetterExchange" 121 (Int32.ofInt (-1000000002)) ∈ lw_tbl := List.mem_of_getElem? (i := 493) (by decide +kernel)
theorem kc_LE_129 : Cond.constant "LetterExchange" 129 (Int32.ofInt (-1000000004)) ∈ lw_tbl := List.mem_of_getElem? (i := 498) (by decide +kernel)
theorem kc_LE_172 : Cond.constant "LetterExchange" 172 (Int32.ofInt (-1000000001)) ∈ lw_tbl := List.mem_of_getElem? (i := 657) (by decide +kernel)
theorem kc_FR_20 : Cond.constantLong "LetterExchange$Fraction" 20 (Int64.ofInt (1000000000)) ∈ lw_tbl := List.mem_of_getElem? (i := 700) (by decide +kernel)
theorem kc_EX_79 : Cond.constant "LetterExchange$Exchanger" 79 (Int32.ofInt (99999)) ∈ lw_tbl := List.mem_of_getElem? (i := 723) (by decide +kernel)
theorem kc_LE_211 : Cond.constant "LetterExchange" 211 (Int32.ofInt (-1000000003)) ∈ lw_tbl := List.mem_of_getElem? (i := 752) (by decide +kernel)
theorem kc_LE_290 : Cond.constantLong "LetterExchange" 290 (Int64.ofInt (1103515245)) ∈ lw_tbl := List.mem_of_getElem? (i := 770) (by decide +kernel)
theorem kc_LE_292 : Cond.constantLong "LetterExchange" 292 (Int64.ofInt (12345)) ∈ lw_tbl := List.mem_of_getElem? (i := 771) (by decide +kernel)
theorem kc_LE_294 : Cond.constantLong "LetterExchange" 294 (Int64.ofInt (2147483647)) ∈ lw_tbl := List.mem_of_getElem? (i := 772) (by decide +kernel)
theorem kc_LE_296 : Cond.constant "LetterExchange" 296 (Int32.ofInt (65536)) ∈ lw_tbl := List.mem_of_getElem? (i := 773) (by decide +kernel)
theorem kc_MD_187 : Cond.constant "LetterExchangeModel" 187 (Int32.ofInt (-1000000001)) ∈ lw_tbl := List.mem_of_getElem? (i := 1017) (by decide +kernel)
theorem kc_MD_188 : Cond.constant "LetterExchangeModel" 188 (Int32.ofInt (-1000000002)) ∈ lw_tbl := List.mem_of_getElem? (i := 1018) (by decide +kernel)
theorem kc_MD_198 : Cond.constant "LetterExchangeModel" 198 (Int32.ofInt (-1000000004)) ∈ lw_tbl := List.mem_of_getElem? (i := 1047) (by decide +kernel)
theorem kc_MD_91 : Cond.constantLong "LetterExchangeModel" 91 (Int64.ofInt (1000000000)) ∈ lw_tbl := List.mem_of_getElem? (i := 1152) (by decide +kernel)
theorem kc_MD_261 : Cond.constant "LetterExchangeModel" 261 (Int32.ofInt (-1000000003)) ∈ lw_tbl := List.mem_of_getElem? (i := 1177) (by decide +kernel)
theorem kc_MD_260 : Cond.constant "LetterExchangeModel" 260 (Int32.ofInt (99999)) ∈ lw_tbl := List.mem_of_getElem? (i := 1186) (by decide +kernel)
theorem kc_MD_271 : Cond.constantLong "LetterExchangeModel" 271 (Int64.ofInt (1103515245)) ∈ lw_tbl := List.mem_of_getElem? (i := 1199) (by decide +kernel)
theorem kc_MD_273 : Cond.constantLong "LetterExchangeModel" 273 (Int64.ofInt (12345)) ∈ lw_tbl := List.mem_of_getElem? (i := 1200) (by decide +kernel)
theorem kc_MD_275 : Cond.constantLong "LetterExchangeModel" 275 (Int64.ofInt (2147483648)) ∈ lw_tbl := List.mem_of_getElem? (i := 1201) (by decide +kernel)
theorem kc_MD_277 : Cond.constant "LetterExchangeModel" 277 (Int32.ofInt (65536)) ∈ lw_tbl := List.mem_of_getElem? (i := 1202) (by decide +kernel)
/-! methods -/
abbrev gx_M : Type := MethodName × ByteArray × Nat × Option FieldType × Room × Nat × Nat
def gm_LE_init : gx_M := (⟨"LetterExchange", "<init>", "()V"⟩, prog_1_method_1_code, 1, (Option.none : Option FieldType), { frames := 11, cells := 245, slots := 6610, locals := 405 }, 245, 6610)
def gm_LE_feed : gx_M := (⟨"LetterExchange", "feed", "(I)I"⟩, prog_1_method_2_code, 2, (Option.some FieldType.int), { frames := 1, cells := 0, slots := 0, locals := 21 }, 0, 0)
def gm_LE_letters : gx_M := (⟨"LetterExchange", "letters", "()I"⟩, prog_1_method_3_code, 2, (Option.some FieldType.int), { frames := 11, cells := 0, slots := 0, locals := 405 }, 0, 0)
def gm_LE_fault : gx_M := (⟨"LetterExchange", "fault", "()I"⟩, prog_1_method_4_code, 1, (Option.some FieldType.int), { frames := 0, cells := 0, slots := 0, locals := 0 }, 0, 0)
def gm_LE_told : gx_M := (⟨"LetterExchange", "told", "(I)I"⟩, prog_1_method_5_code, 2, (Option.some FieldType.int), { frames := 6, cells := 0, slots := 0, locals := 177 }, 0, 0)
def gm_LE_table : gx_M := (⟨"LetterExchange", "table", "(II)I"⟩, prog_1_method_6_code, 3, (Option.some FieldType.int), { frames := 1, cells := 0, slots := 0, locals := 21 }, 0, 0)
def gm_LE_letter : gx_M := (⟨"LetterExchange", "letter", "(II)I"⟩, prog_1_method_7_code, 3, (Option.some FieldType.int), { frames := 6, cells := 0, slots := 0, locals := 155 }, 0, 0)
def gm_LE_row : gx_M := (⟨"LetterExchange", "row", "(III)I"⟩, prog_1_method_8_code, 4, (Option.some FieldType.int), { frames := 1, cells := 0, slots := 0, locals := 21 }, 0, 0)
def gm_LE_byTurns : gx_M := (⟨"LetterExchange", "byTurns", "(II)I"⟩, prog_1_method_9_code, 3, (Option.some FieldType.int), { frames := 5, cells := 0, slots := 0, locals := 137 }, 0, 0)
def gm_LE_exchange : gx_M := (⟨"LetterExchange", "exchange", "(I)I"⟩, prog_1_method_10_code, 2, (Option.some FieldType.int), { frames := 6, cells := 0, slots := 0, locals := 155 }, 0, 0)
def gm_LE_start : gx_M := (⟨"LetterExchange", "start", "()I"⟩, prog_1_method_11_code, 2, (Option.some FieldType.int), { frames := 4, cells := 0, slots := 0, locals := 123 }, 0, 0)
def gm_LE_drift : gx_M := (⟨"LetterExchange", "drift", "(I)I"⟩, prog_1_method_12_code, 4, (Option.some FieldType.int), { frames := 6, cells := 0, slots := 0, locals := 155 }, 0, 0)
def gm_LE_undo : gx_M := (⟨"LetterExchange", "undo", "(I)I"⟩, prog_1_method_13_code, 2, (Option.some FieldType.int), { frames := 4, cells := 0, slots := 0, locals := 124 }, 0, 0)
def gm_LE_stand : gx_M := (⟨"LetterExchange", "stand", "(II)I"⟩, prog_1_method_14_code, 3, (Option.some FieldType.int), { frames := 6, cells := 0, slots := 0, locals := 177 }, 0, 0)
def gm_LE_next : gx_M := (⟨"LetterExchange", "next", "(II)I"⟩, prog_1_method_15_code, 3, (Option.some FieldType.int), { frames := 6, cells := 0, slots := 0, locals := 177 }, 0, 0)
def gm_LE_away : gx_M := (⟨"LetterExchange", "away", "(I)I"⟩, prog_1_method_16_code, 2, (Option.some FieldType.int), { frames := 6, cells := 0, slots := 0, locals := 177 }, 0, 0)
def gm_LE_standRow : gx_M := (⟨"LetterExchange", "standRow", "(III)I"⟩, prog_1_method_17_code, 4, (Option.some FieldType.int), { frames := 6, cells := 0, slots := 0, locals := 177 }, 0, 0)
def gm_LE_write : gx_M := (⟨"LetterExchange", "write", "(II)I"⟩, prog_1_method_18_code, 3, (Option.some FieldType.int), { frames := 1, cells := 0, slots := 0, locals := 22 }, 0, 0)
def gm_LE_tear : gx_M := (⟨"LetterExchange", "tear", "()I"⟩, prog_1_method_19_code, 2, (Option.some FieldType.int), { frames := 0, cells := 0, slots := 0, locals := 0 }, 0, 0)
def gm_LE_seed : gx_M := (⟨"LetterExchange", "seed", "(I)I"⟩, prog_1_method_20_code, 3, (Option.some FieldType.int), { frames := 0, cells := 0, slots := 0, locals := 0 }, 0, 0)
def gm_LE_keep : gx_M := (⟨"LetterExchange", "keep", "(I)I"⟩, prog_1_method_21_code, 2, (Option.some FieldType.int), { frames := 3, cells := 0, slots := 0, locals := 102 }, 0, 0)
def gm_LE_goBack : gx_M := (⟨"LetterExchange", "goBack", "(I)I"⟩, prog_1_method_22_code, 2, (Option.some FieldType.int), { frames := 3, cells := 0, slots := 0, locals := 102 }, 0, 0)
def gm_LE_beginAsSpare : gx_M := (⟨"LetterExchange", "beginAsSpare", "()V"⟩, prog_1_method_23_code, 2, (Option.none : Option FieldType), { frames := 10, cells := 0, slots := 0, locals := 384 }, 0, 0)
def gm_LE_isNoLetter : gx_M := (⟨"LetterExchange", "isNoLetter", "(I)Z"⟩, prog_1_method_24_code, 2, (Option.some FieldType.boolean), { frames := 0, cells := 0, slots := 0, locals := 0 }, 0, 0)
def gm_LE_isOpen : gx_M := (⟨"LetterExchange", "isOpen", "()Z"⟩, prog_1_method_25_code, 1, (Option.some FieldType.boolean), { frames := 5, cells := 0, slots := 0, locals := 157 }, 0, 0)
def gm_LE_exchangesIntoSpare : gx_M := (⟨"LetterExchange", "exchangesIntoSpare", "(I)Z"⟩, prog_1_method_26_code, 2, (Option.some FieldType.boolean), { frames := 5, cells := 0, slots := 0, locals := 134 }, 0, 0)
def gm_LE_takeSpare : gx_M := (⟨"LetterExchange", "takeSpare", "()V"⟩, prog_1_method_27_code, 2, (Option.none : Option FieldType), { frames := 0, cells := 0, slots := 0, locals := 0 }, 0, 0)
def gm_LE_placeNow : gx_M := (⟨"LetterExchange", "placeNow", "(I)I"⟩, prog_1_method_28_code, 4, (Option.some FieldType.int), { frames := 3, cells := 0, slots := 0, locals := 66 }, 0, 0)
def gm_LE_draw : gx_M := (⟨"LetterExchange", "draw", "(I)I"⟩, prog_1_method_29_code, 2, (Option.some FieldType.int), { frames := 0, cells := 0, slots := 0, locals := 0 }, 0, 0)
def gm_LE_cell : gx_M := (⟨"LetterExchange", "cell", "(II)I"⟩, prog_1_method_30_code, 2, (Option.some FieldType.int), { frames := 0, cells := 0, slots := 0, locals := 0 }, 0, 0)
def gm_LE_hasNumberBeyond : gx_M := (⟨"LetterExchange", "hasNumberBeyond", "([II)Z"⟩, prog_1_method_31_code, 5, (Option.some FieldType.boolean), { frames := 1, cells := 0, slots := 0, locals := 21 }, 0, 0)
def gm_LE_codeOf : gx_M := (⟨"LetterExchange", "codeOf", "([III)I"⟩, prog_1_method_32_code, 5, (Option.some FieldType.int), { frames := 1, cells := 0, slots := 0, locals := 21 }, 0, 0)
def gm_LE_placeAmong : gx_M := (⟨"LetterExchange", "placeAmong", "([III)I"⟩, prog_1_method_33_code, 5, (Option.some FieldType.int), { frames := 0, cells := 0, slots := 0, locals := 0 }, 0, 0)
def gm_MD_init : gx_M := (⟨"LetterExchangeModel", "<init>", "()V"⟩, prog_14_method_1_code, 1, (Option.none : Option FieldType), { frames := 2, cells := 15, slots := 10046, locals := 60 }, 15, 10046)
def gm_MD_in : gx_M := (⟨"LetterExchangeModel", "in", "(III)Z"⟩, prog_14_method_2_code, 3, (Option.some FieldType.boolean), { frames := 0, cells := 0, slots := 0, locals := 0 }, 0, 0)
def gm_MD_isLetter : gx_M := (⟨"LetterExchangeModel", "isLetter", "(I)Z"⟩, prog_14_method_3_code, 2, (Option.some FieldType.boolean), { frames := 1, cells := 0, slots := 0, locals := 22 }, 0, 0)
def gm_MD_copyRow : gx_M := (⟨"LetterExchangeModel", "copyRow", "(II)V"⟩, prog_14_method_4_code, 4, (Option.none : Option FieldType), { frames := 0, cells := 0, slots := 0, locals := 0 }, 0, 0)
def gm_MD_b : gx_M := (⟨"LetterExchangeModel", "b", "(III)I"⟩, prog_14_method_5_code, 4, (Option.some FieldType.int), { frames := 0, cells := 0, slots := 0, locals := 0 }, 0, 0)
def gm_MD_areWeights : gx_M := (⟨"LetterExchangeModel", "areWeights", "()Z"⟩, prog_14_method_6_code, 4, (Option.some FieldType.boolean), { frames := 1, cells := 0, slots := 0, locals := 23 }, 0, 0)
def gm_MD_isWell : gx_M := (⟨"LetterExchangeModel", "isWell", "()Z"⟩, prog_14_method_7_code, 5, (Option.some FieldType.boolean), { frames := 2, cells := 0, slots := 0, locals := 46 }, 0, 0)
def gm_MD_shorten : gx_M := (⟨"LetterExchangeModel", "shorten", "()V"⟩, prog_14_method_8_code, 7, (Option.none : Option FieldType), { frames := 0, cells := 0, slots := 0, locals := 0 }, 0, 0)
def gm_MD_times : gx_M := (⟨"LetterExchangeModel", "times", "(JJ)V"⟩, prog_14_method_9_code, 5, (Option.none : Option FieldType), { frames := 1, cells := 0, slots := 0, locals := 26 }, 0, 0)
def gm_MD_product : gx_M := (⟨"LetterExchangeModel", "product", "(III)V"⟩, prog_14_method_10_code, 6, (Option.none : Option FieldType), { frames := 2, cells := 0, slots := 0, locals := 50 }, 0, 0)
def gm_MD_worth : gx_M := (⟨"LetterExchangeModel", "worth", "(II)Z"⟩, prog_14_method_11_code, 7, (Option.some FieldType.boolean), { frames := 3, cells := 0, slots := 0, locals := 75 }, 0, 0)
def gm_MD_lay : gx_M := (⟨"LetterExchangeModel", "lay", "(II)Z"⟩, prog_14_method_12_code, 3, (Option.some FieldType.boolean), { frames := 1, cells := 0, slots := 0, locals := 22 }, 0, 0)
def gm_MD_both : gx_M := (⟨"LetterExchangeModel", "both", "(II)I"⟩, prog_14_method_13_code, 2, (Option.some FieldType.int), { frames := 0, cells := 0, slots := 0, locals := 0 }, 0, 0)
def gm_MD_turned : gx_M := (⟨"LetterExchangeModel", "turned", "(III)Z"⟩, prog_14_method_14_code, 8, (Option.some FieldType.boolean), { frames := 2, cells := 0, slots := 0, locals := 44 }, 0, 0)
def gm_MD_gathered : gx_M := (⟨"LetterExchangeModel", "gathered", "(IIIII)I"⟩, prog_14_method_15_code, 9, (Option.some FieldType.int), { frames := 1, cells := 0, slots := 0, locals := 23 }, 0, 0)
def gm_MD_denominators : gx_M := (⟨"LetterExchangeModel", "denominators", "(III)Z"⟩, prog_14_method_16_code, 9, (Option.some FieldType.boolean), { frames := 2, cells := 0, slots := 0, locals := 51 }, 0, 0)
def gm_MD_signs : gx_M := (⟨"LetterExchangeModel", "signs", "(III)Z"⟩, prog_14_method_17_code, 9, (Option.some FieldType.boolean), { frames := 2, cells := 0, slots := 0, locals := 44 }, 0, 0)
def gm_MD_degrees : gx_M := (⟨"LetterExchangeModel", "degrees", "(III)Z"⟩, prog_14_method_18_code, 8, (Option.some FieldType.boolean), { frames := 2, cells := 0, slots := 0, locals := 51 }, 0, 0)
def gm_MD_tries : gx_M := (⟨"LetterExchangeModel", "tries", "(I)Z"⟩, prog_14_method_19_code, 3, (Option.some FieldType.boolean), { frames := 4, cells := 0, slots := 0, locals := 101 }, 0, 0)
def gm_MD_isBefore : gx_M := (⟨"LetterExchangeModel", "isBefore", "(III)Z"⟩, prog_14_method_20_code, 7, (Option.some FieldType.boolean), { frames := 0, cells := 0, slots := 0, locals := 0 }, 0, 0)
def gm_MD_placeOf : gx_M := (⟨"LetterExchangeModel", "placeOf", "(II)I"⟩, prog_14_method_21_code, 5, (Option.some FieldType.int), { frames := 1, cells := 0, slots := 0, locals := 26 }, 0, 0)
def gm_MD_rankedAt : gx_M := (⟨"LetterExchangeModel", "rankedAt", "(II)I"⟩, prog_14_method_22_code, 5, (Option.some FieldType.int), { frames := 2, cells := 0, slots := 0, locals := 50 }, 0, 0)
def gm_MD_layStand : gx_M := (⟨"LetterExchangeModel", "layStand", "(II)Z"⟩, prog_14_method_23_code, 8, (Option.some FieldType.boolean), { frames := 3, cells := 0, slots := 0, locals := 74 }, 0, 0)
def gm_MD_isSame : gx_M := (⟨"LetterExchangeModel", "isSame", "(II)Z"⟩, prog_14_method_24_code, 6, (Option.some FieldType.boolean), { frames := 0, cells := 0, slots := 0, locals := 0 }, 0, 0)
def gm_MD_find : gx_M := (⟨"LetterExchangeModel", "find", "(I)I"⟩, prog_14_method_25_code, 3, (Option.some FieldType.int), { frames := 1, cells := 0, slots := 0, locals := 25 }, 0, 0)
def gm_MD_unlay : gx_M := (⟨"LetterExchangeModel", "unlay", "(I)V"⟩, prog_14_method_26_code, 4, (Option.none : Option FieldType), { frames := 0, cells := 0, slots := 0, locals := 0 }, 0, 0)
def gm_MD_steps : gx_M := (⟨"LetterExchangeModel", "steps", "(I)Z"⟩, prog_14_method_27_code, 6, (Option.some FieldType.boolean), { frames := 2, cells := 0, slots := 0, locals := 51 }, 0, 0)
def gm_MD_walk : gx_M := (⟨"LetterExchangeModel", "walk", "()Z"⟩, prog_14_method_28_code, 3, (Option.some FieldType.boolean), { frames := 5, cells := 0, slots := 0, locals := 125 }, 0, 0)
def gm_MD_leadOn : gx_M := (⟨"LetterExchangeModel", "leadOn", "(II)Z"⟩, prog_14_method_29_code, 4, (Option.some FieldType.boolean), { frames := 4, cells := 0, slots := 0, locals := 102 }, 0, 0)
def gm_MD_leadBack : gx_M := (⟨"LetterExchangeModel", "leadBack", "(II)Z"⟩, prog_14_method_30_code, 9, (Option.some FieldType.boolean), { frames := 3, cells := 0, slots := 0, locals := 74 }, 0, 0)
def gm_MD_isRowNew : gx_M := (⟨"LetterExchangeModel", "isRowNew", "(I)Z"⟩, prog_14_method_31_code, 5, (Option.some FieldType.boolean), { frames := 1, cells := 0, slots := 0, locals := 22 }, 0, 0)
def gm_MD_allLetters : gx_M := (⟨"LetterExchangeModel", "allLetters", "()I"⟩, prog_14_method_32_code, 3, (Option.some FieldType.int), { frames := 2, cells := 0, slots := 0, locals := 46 }, 0, 0)
def gm_MD_far : gx_M := (⟨"LetterExchangeModel", "far", "()I"⟩, prog_14_method_33_code, 3, (Option.some FieldType.int), { frames := 0, cells := 0, slots := 0, locals := 0 }, 0, 0)
def gm_MD_ofStands : gx_M := (⟨"LetterExchangeModel", "ofStands", "(I)I"⟩, prog_14_method_34_code, 2, (Option.some FieldType.int), { frames := 6, cells := 0, slots := 0, locals := 147 }, 0, 0)
def gm_MD_stand : gx_M := (⟨"LetterExchangeModel", "stand", "(II)I"⟩, prog_14_method_35_code, 3, (Option.some FieldType.int), { frames := 6, cells := 0, slots := 0, locals := 147 }, 0, 0)
def gm_MD_next : gx_M := (⟨"LetterExchangeModel", "next", "(II)I"⟩, prog_14_method_36_code, 3, (Option.some FieldType.int), { frames := 6, cells := 0, slots := 0, locals := 147 }, 0, 0)
def gm_MD_away : gx_M := (⟨"LetterExchangeModel", "away", "(I)I"⟩, prog_14_method_37_code, 4, (Option.some FieldType.int), { frames := 6, cells := 0, slots := 0, locals := 147 }, 0, 0)
def gm_MD_standRow : gx_M := (⟨"LetterExchangeModel", "standRow", "(III)I"⟩, prog_14_method_38_code, 4, (Option.some FieldType.int), { frames := 6, cells := 0, slots := 0, locals := 147 }, 0, 0)
def gm_MD_isHome : gx_M := (⟨"LetterExchangeModel", "isHome", "()Z"⟩, prog_14_method_39_code, 3, (Option.some FieldType.boolean), { frames := 3, cells := 0, slots := 0, locals := 74 }, 0, 0)
def gm_MD_byTurns : gx_M := (⟨"LetterExchangeModel", "byTurns", "(II)I"⟩, prog_14_method_40_code, 4, (Option.some FieldType.int), { frames := 4, cells := 0, slots := 0, locals := 96 }, 0, 0)
def gm_MD_feed : gx_M := (⟨"LetterExchangeModel", "feed", "(I)I"⟩, prog_14_method_41_code, 2, (Option.some FieldType.int), { frames := 1, cells := 0, slots := 0, locals := 22 }, 0, 0)
def gm_MD_fail : gx_M := (⟨"LetterExchangeModel", "fail", "(I)V"⟩, prog_14_method_42_code, 2, (Option.none : Option FieldType), { frames := 0, cells := 0, slots := 0, locals := 0 }, 0, 0)
def gm_MD_here : gx_M := (⟨"LetterExchangeModel", "here", "()I"⟩, prog_14_method_43_code, 1, (Option.some FieldType.int), { frames := 0, cells := 0, slots := 0, locals := 0 }, 0, 0)
def gm_MD_figure : gx_M := (⟨"LetterExchangeModel", "figure", "(II)I"⟩, prog_14_method_44_code, 4, (Option.some FieldType.int), { frames := 1, cells := 0, slots := 0, locals := 22 }, 0, 0)
def gm_MD_pass : gx_M := (⟨"LetterExchangeModel", "pass", "(Z)V"⟩, prog_14_method_45_code, 2, (Option.none : Option FieldType), { frames := 1, cells := 0, slots := 0, locals := 21 }, 0, 0)
def gm_MD_readMany : gx_M := (⟨"LetterExchangeModel", "readMany", "()V"⟩, prog_14_method_46_code, 2, (Option.none : Option FieldType), { frames := 2, cells := 0, slots := 0, locals := 45 }, 0, 0)
def gm_MD_readTable : gx_M := (⟨"LetterExchangeModel", "readTable", "()V"⟩, prog_14_method_47_code, 5, (Option.none : Option FieldType), { frames := 2, cells := 0, slots := 0, locals := 45 }, 0, 0)
def gm_MD_readWorth : gx_M := (⟨"LetterExchangeModel", "readWorth", "()V"⟩, prog_14_method_48_code, 3, (Option.none : Option FieldType), { frames := 2, cells := 0, slots := 0, locals := 45 }, 0, 0)
def gm_MD_readClause : gx_M := (⟨"LetterExchangeModel", "readClause", "(Z)V"⟩, prog_14_method_49_code, 3, (Option.none : Option FieldType), { frames := 3, cells := 0, slots := 0, locals := 69 }, 0, 0)
def gm_MD_begin : gx_M := (⟨"LetterExchangeModel", "begin", "()V"⟩, prog_14_method_50_code, 3, (Option.none : Option FieldType), { frames := 1, cells := 0, slots := 0, locals := 23 }, 0, 0)
def gm_MD_letters : gx_M := (⟨"LetterExchangeModel", "letters", "()I"⟩, prog_14_method_51_code, 1, (Option.some FieldType.int), { frames := 4, cells := 0, slots := 0, locals := 91 }, 0, 0)
def gm_MD_fault : gx_M := (⟨"LetterExchangeModel", "fault", "()I"⟩, prog_14_method_52_code, 1, (Option.some FieldType.int), { frames := 0, cells := 0, slots := 0, locals := 0 }, 0, 0)
def gm_MD_code : gx_M := (⟨"LetterExchangeModel", "code", "(I)I"⟩, prog_14_method_53_code, 4, (Option.some FieldType.int), { frames := 0, cells := 0, slots := 0, locals := 0 }, 0, 0)
def gm_MD_wrongEntry : gx_M := (⟨"LetterExchangeModel", "wrongEntry", "()I"⟩, prog_14_method_54_code, 2, (Option.some FieldType.int), { frames := 2, cells := 0, slots := 0, locals := 43 }, 0, 0)
def gm_MD_told : gx_M := (⟨"LetterExchangeModel", "told", "(I)I"⟩, prog_14_method_55_code, 2, (Option.some FieldType.int), { frames := 7, cells := 0, slots := 0, locals := 168 }, 0, 0)
def gm_MD_table : gx_M := (⟨"LetterExchangeModel", "table", "(II)I"⟩, prog_14_method_56_code, 3, (Option.some FieldType.int), { frames := 2, cells := 0, slots := 0, locals := 43 }, 0, 0)
def gm_MD_bound : gx_M := (⟨"LetterExchangeModel", "bound", "(I)I"⟩, prog_14_method_57_code, 4, (Option.some FieldType.int), { frames := 1, cells := 0, slots := 0, locals := 23 }, 0, 0)
def gm_MD_would : gx_M := (⟨"LetterExchangeModel", "would", "(II)I"⟩, prog_14_method_58_code, 3, (Option.some FieldType.int), { frames := 5, cells := 0, slots := 0, locals := 123 }, 0, 0)
def gm_MD_letter : gx_M := (⟨"LetterExchangeModel", "letter", "(II)I"⟩, prog_14_method_59_code, 3, (Option.some FieldType.int), { frames := 6, cells := 0, slots := 0, locals := 145 }, 0, 0)
def gm_MD_row : gx_M := (⟨"LetterExchangeModel", "row", "(III)I"⟩, prog_14_method_60_code, 4, (Option.some FieldType.int), { frames := 2, cells := 0, slots := 0, locals := 43 }, 0, 0)
def gm_MD_remember : gx_M := (⟨"LetterExchangeModel", "remember", "()V"⟩, prog_14_method_61_code, 2, (Option.none : Option FieldType), { frames := 1, cells := 0, slots := 0, locals := 23 }, 0, 0)
def gm_MD_take : gx_M := (⟨"LetterExchangeModel", "take", "()V"⟩, prog_14_method_62_code, 1, (Option.none : Option FieldType), { frames := 1, cells := 0, slots := 0, locals := 23 }, 0, 0)
def gm_MD_exchange : gx_M := (⟨"LetterExchangeModel", "exchange", "(I)I"⟩, prog_14_method_63_code, 2, (Option.some FieldType.int), { frames := 5, cells := 0, slots := 0, locals := 123 }, 0, 0)
def gm_MD_start : gx_M := (⟨"LetterExchangeModel", "start", "()I"⟩, prog_14_method_64_code, 2, (Option.some FieldType.int), { frames := 2, cells := 0, slots := 0, locals := 44 }, 0, 0)
def gm_MD_draw : gx_M := (⟨"LetterExchangeModel", "draw", "(I)I"⟩, prog_14_method_65_code, 4, (Option.some FieldType.int), { frames := 0, cells := 0, slots := 0, locals := 0 }, 0, 0)
def gm_MD_drift : gx_M := (⟨"LetterExchangeModel", "drift", "(I)I"⟩, prog_14_method_66_code, 4, (Option.some FieldType.int), { frames := 5, cells := 0, slots := 0, locals := 123 }, 0, 0)
def gm_MD_undo : gx_M := (⟨"LetterExchangeModel", "undo", "(I)I"⟩, prog_14_method_67_code, 2, (Option.some FieldType.int), { frames := 1, cells := 0, slots := 0, locals := 23 }, 0, 0)
def gm_MD_write : gx_M := (⟨"LetterExchangeModel", "write", "(II)I"⟩, prog_14_method_68_code, 3, (Option.some FieldType.int), { frames := 2, cells := 0, slots := 0, locals := 43 }, 0, 0)
def gm_MD_tear : gx_M := (⟨"LetterExchangeModel", "tear", "()I"⟩, prog_14_method_69_code, 2, (Option.some FieldType.int), { frames := 0, cells := 0, slots := 0, locals := 0 }, 0, 0)
def gm_MD_seed : gx_M := (⟨"LetterExchangeModel", "seed", "(I)I"⟩, prog_14_method_70_code, 3, (Option.some FieldType.int), { frames := 0, cells := 0, slots := 0, locals := 0 }, 0, 0)
def gm_MD_keep : gx_M := (⟨"LetterExchangeModel", "keep", "(I)I"⟩, prog_14_method_71_code, 2, (Option.some FieldType.int), { frames := 1, cells := 0, slots := 0, locals := 23 }, 0, 0)
def gm_MD_goBack : gx_M := (⟨"LetterExchangeModel", "goBack", "(I)I"⟩, prog_14_method_72_code, 2, (Option.some FieldType.int), { frames := 1, cells := 0, slots := 0, locals := 23 }, 0, 0)
def gm_BK_init : gx_M := (⟨"LetterExchange$Book", "<init>", "()V"⟩, prog_2_method_1_code, 1, (Option.none : Option FieldType), { frames := 1, cells := 2, slots := 40, locals := 60 }, 2, 40)
def gm_BK_append : gx_M := (⟨"LetterExchange$Book", "append", "(II)Z"⟩, prog_2_method_2_code, 3, (Option.some FieldType.boolean), { frames := 0, cells := 0, slots := 0, locals := 0 }, 0, 0)
def gm_BK_firstWrong : gx_M := (⟨"LetterExchange$Book", "firstWrong", "(LLetterExchange$Shape;)I"⟩, prog_2_method_3_code, 4, (Option.some FieldType.int), { frames := 3, cells := 0, slots := 0, locals := 66 }, 0, 0)
def gm_EX_init : gx_M := (⟨"LetterExchange$Exchanger", "<init>", "()V"⟩, prog_3_method_1_code, 1, (Option.none : Option FieldType), { frames := 2, cells := 2, slots := 4, locals := 80 }, 2, 4)
def gm_EX_fill : gx_M := (⟨"LetterExchange$Exchanger", "fill", "(LLetterExchange$State;LLetterExchange$State;I)Z"⟩, prog_3_method_2_code, 5, (Option.some FieldType.boolean), { frames := 4, cells := 0, slots := 0, locals := 110 }, 0, 0)
def gm_EX_findWorth : gx_M := (⟨"LetterExchange$Exchanger", "findWorth", "(LLetterExchange$State;I)Z"⟩, prog_3_method_3_code, 3, (Option.some FieldType.boolean), { frames := 3, cells := 0, slots := 0, locals := 77 }, 0, 0)
def gm_EX_multiplyAll : gx_M := (⟨"LetterExchange$Exchanger", "multiplyAll", "(LLetterExchange$Fraction;LLetterExchange$State;II)Z"⟩, prog_3_method_4_code, 7, (Option.some FieldType.boolean), { frames := 2, cells := 0, slots := 0, locals := 51 }, 0, 0)
def gm_EX_fillSigns : gx_M := (⟨"LetterExchange$Exchanger", "fillSigns", "(LLetterExchange$State;LLetterExchange$State;I)V"⟩, prog_3_method_5_code, 6, (Option.none : Option FieldType), { frames := 2, cells := 0, slots := 0, locals := 47 }, 0, 0)
def gm_EX_signAfter : gx_M := (⟨"LetterExchange$Exchanger", "signAfter", "(LLetterExchange$State;III)I"⟩, prog_3_method_6_code, 7, (Option.some FieldType.int), { frames := 1, cells := 0, slots := 0, locals := 21 }, 0, 0)
def gm_EX_fillDegrees : gx_M := (⟨"LetterExchange$Exchanger", "fillDegrees", "(LLetterExchange$State;LLetterExchange$State;I)V"⟩, prog_3_method_7_code, 7, (Option.none : Option FieldType), { frames := 2, cells := 0, slots := 0, locals := 47 }, 0, 0)
def gm_EX_hasPositiveSign : gx_M := (⟨"LetterExchange$Exchanger", "hasPositiveSign", "(LLetterExchange$State;I)Z"⟩, prog_3_method_8_code, 3, (Option.some FieldType.boolean), { frames := 1, cells := 0, slots := 0, locals := 21 }, 0, 0)
def gm_EX_degreeAfter : gx_M := (⟨"LetterExchange$Exchanger", "degreeAfter", "(LLetterExchange$State;III)I"⟩, prog_3_method_9_code, 7, (Option.some FieldType.int), { frames := 1, cells := 0, slots := 0, locals := 21 }, 0, 0)
def gm_FR_init : gx_M := (⟨"LetterExchange$Fraction", "<init>", "()V"⟩, prog_4_method_1_code, 1, (Option.none : Option FieldType), { frames := 1, cells := 0, slots := 0, locals := 60 }, 0, 0)
def gm_FR_becomeOne : gx_M := (⟨"LetterExchange$Fraction", "becomeOne", "()V"⟩, prog_4_method_2_code, 1, (Option.none : Option FieldType), { frames := 0, cells := 0, slots := 0, locals := 0 }, 0, 0)
def gm_FR_multiply : gx_M := (⟨"LetterExchange$Fraction", "multiply", "(JJ)Z"⟩, prog_4_method_3_code, 5, (Option.some FieldType.boolean), { frames := 1, cells := 0, slots := 0, locals := 27 }, 0, 0)
def gm_FR_add : gx_M := (⟨"LetterExchange$Fraction", "add", "(LLetterExchange$Fraction;)Z"⟩, prog_4_method_4_code, 2, (Option.some FieldType.boolean), { frames := 1, cells := 0, slots := 0, locals := 27 }, 0, 0)
def gm_FR_isSmallInLowestTerms : gx_M := (⟨"LetterExchange$Fraction", "isSmallInLowestTerms", "()Z"⟩, prog_4_method_5_code, 8, (Option.some FieldType.boolean), { frames := 0, cells := 0, slots := 0, locals := 0 }, 0, 0)
def gm_GR_init : gx_M := (⟨"LetterExchange$Graph", "<init>", "()V"⟩, prog_5_method_1_code, 1, (Option.none : Option FieldType), { frames := 2, cells := 13, slots := 3290, locals := 80 }, 13, 3290)
def gm_GR_find : gx_M := (⟨"LetterExchange$Graph", "find", "(LLetterExchange$Shape;Z)V"⟩, prog_5_method_2_code, 5, (Option.none : Option FieldType), { frames := 4, cells := 0, slots := 0, locals := 133 }, 0, 0)
def gm_GR_standOf : gx_M := (⟨"LetterExchange$Graph", "standOf", "(LLetterExchange$Shape;)I"⟩, prog_5_method_3_code, 2, (Option.some FieldType.int), { frames := 3, cells := 0, slots := 0, locals := 69 }, 0, 0)
def gm_GR_findLead : gx_M := (⟨"LetterExchange$Graph", "findLead", "(II)Z"⟩, prog_5_method_4_code, 4, (Option.some FieldType.boolean), { frames := 3, cells := 0, slots := 0, locals := 110 }, 0, 0)
def gm_GR_fillProbe : gx_M := (⟨"LetterExchange$Graph", "fillProbe", "(LLetterExchange$Shape;)V"⟩, prog_5_method_5_code, 5, (Option.none : Option FieldType), { frames := 2, cells := 0, slots := 0, locals := 45 }, 0, 0)
def gm_GR_standOfProbe : gx_M := (⟨"LetterExchange$Graph", "standOfProbe", "()I"⟩, prog_5_method_6_code, 2, (Option.some FieldType.int), { frames := 1, cells := 0, slots := 0, locals := 22 }, 0, 0)
def gm_GR_isProbe : gx_M := (⟨"LetterExchange$Graph", "isProbe", "(I)Z"⟩, prog_5_method_7_code, 3, (Option.some FieldType.boolean), { frames := 0, cells := 0, slots := 0, locals := 0 }, 0, 0)
def gm_GR_addProbe : gx_M := (⟨"LetterExchange$Graph", "addProbe", "()I"⟩, prog_5_method_8_code, 2, (Option.some FieldType.int), { frames := 1, cells := 0, slots := 0, locals := 60 }, 0, 0)
def gm_GR_load : gx_M := (⟨"LetterExchange$Graph", "load", "(I)V"⟩, prog_5_method_9_code, 3, (Option.none : Option FieldType), { frames := 2, cells := 0, slots := 0, locals := 46 }, 0, 0)
def gm_GR_spread : gx_M := (⟨"LetterExchange$Graph", "spread", "(I[II)V"⟩, prog_5_method_10_code, 6, (Option.none : Option FieldType), { frames := 1, cells := 0, slots := 0, locals := 21 }, 0, 0)
def gm_GR_countAllLetters : gx_M := (⟨"LetterExchange$Graph", "countAllLetters", "()I"⟩, prog_5_method_11_code, 5, (Option.some FieldType.int), { frames := 1, cells := 0, slots := 0, locals := 23 }, 0, 0)
def gm_GR_isSeen : gx_M := (⟨"LetterExchange$Graph", "isSeen", "(II)Z"⟩, prog_5_method_12_code, 4, (Option.some FieldType.boolean), { frames := 0, cells := 0, slots := 0, locals := 0 }, 0, 0)
def gm_GR_rowNumber : gx_M := (⟨"LetterExchange$Graph", "rowNumber", "(III)I"⟩, prog_5_method_13_code, 6, (Option.some FieldType.int), { frames := 0, cells := 0, slots := 0, locals := 0 }, 0, 0)
def gm_HI_init : gx_M := (⟨"LetterExchange$History", "<init>", "()V"⟩, prog_6_method_1_code, 2, (Option.none : Option FieldType), { frames := 3, cells := 161, slots := 1640, locals := 100 }, 161, 1640)
def gm_HI_forget : gx_M := (⟨"LetterExchange$History", "forget", "()V"⟩, prog_6_method_2_code, 1, (Option.none : Option FieldType), { frames := 0, cells := 0, slots := 0, locals := 0 }, 0, 0)
def gm_HI_remember : gx_M := (⟨"LetterExchange$History", "remember", "(LLetterExchange$State;)V"⟩, prog_6_method_3_code, 2, (Option.none : Option FieldType), { frames := 3, cells := 0, slots := 0, locals := 102 }, 0, 0)
def gm_HI_takeBack : gx_M := (⟨"LetterExchange$History", "takeBack", "(ILLetterExchange$State;)V"⟩, prog_6_method_4_code, 3, (Option.none : Option FieldType), { frames := 3, cells := 0, slots := 0, locals := 102 }, 0, 0)
def gm_SC_init : gx_M := (⟨"LetterExchange$Scales", "<init>", "()V"⟩, prog_7_method_1_code, 1, (Option.none : Option FieldType), { frames := 1, cells := 1, slots := 4, locals := 60 }, 1, 4)
def gm_SC_weigh : gx_M := (⟨"LetterExchange$Scales", "weigh", "(LLetterExchange$Shape;)V"⟩, prog_7_method_2_code, 2, (Option.none : Option FieldType), { frames := 9, cells := 0, slots := 0, locals := 363 }, 0, 0)
def gm_SC_weighFrom (d : Nat) : gx_M := (⟨"LetterExchange$Scales", "weighFrom", "(LLetterExchange$Shape;[II)Z"⟩, prog_7_method_3_code, 4, (Option.some FieldType.boolean), { frames := d + 2, cells := 0, slots := 0, locals := 100 + 40 * d }, 0, 0)
def gm_SC_fits : gx_M := (⟨"LetterExchange$Scales", "fits", "(LLetterExchange$Shape;[II)Z"⟩, prog_7_method_4_code, 6, (Option.some FieldType.boolean), { frames := 1, cells := 0, slots := 0, locals := 21 }, 0, 0)
def gm_SH_init : gx_M := (⟨"LetterExchange$Shape", "<init>", "()V"⟩, prog_8_method_1_code, 1, (Option.none : Option FieldType), { frames := 1, cells := 2, slots := 32, locals := 60 }, 2, 32)
def gm_SH_begin : gx_M := (⟨"LetterExchange$Shape", "begin", "(I)V"⟩, prog_8_method_2_code, 4, (Option.none : Option FieldType), { frames := 1, cells := 0, slots := 0, locals := 21 }, 0, 0)
def gm_SH_hang : gx_M := (⟨"LetterExchange$Shape", "hang", "(IIII)V"⟩, prog_8_method_3_code, 5, (Option.none : Option FieldType), { frames := 1, cells := 0, slots := 0, locals := 21 }, 0, 0)
def gm_SH_copyFrom : gx_M := (⟨"LetterExchange$Shape", "copyFrom", "(LLetterExchange$Shape;)V"⟩, prog_8_method_4_code, 2, (Option.none : Option FieldType), { frames := 1, cells := 0, slots := 0, locals := 60 }, 0, 0)
def gm_SH_becomeExchanged : gx_M := (⟨"LetterExchange$Shape", "becomeExchanged", "(LLetterExchange$Shape;I)Z"⟩, prog_8_method_5_code, 5, (Option.some FieldType.boolean), { frames := 2, cells := 0, slots := 0, locals := 86 }, 0, 0)
def gm_SH_tableAfter : gx_M := (⟨"LetterExchange$Shape", "tableAfter", "(III)I"⟩, prog_8_method_6_code, 7, (Option.some FieldType.int), { frames := 1, cells := 0, slots := 0, locals := 21 }, 0, 0)
def gm_SH_rowAfter : gx_M := (⟨"LetterExchange$Shape", "rowAfter", "(II)I"⟩, prog_8_method_7_code, 7, (Option.some FieldType.int), { frames := 1, cells := 0, slots := 0, locals := 60 }, 0, 0)
def gm_SH_boundTo : gx_M := (⟨"LetterExchange$Shape", "boundTo", "(I)I"⟩, prog_8_method_8_code, 4, (Option.some FieldType.int), { frames := 1, cells := 0, slots := 0, locals := 21 }, 0, 0)
def gm_SH_code : gx_M := (⟨"LetterExchange$Shape", "code", "(I)I"⟩, prog_8_method_9_code, 2, (Option.some FieldType.int), { frames := 2, cells := 0, slots := 0, locals := 45 }, 0, 0)
def gm_SH_isMild : gx_M := (⟨"LetterExchange$Shape", "isMild", "()Z"⟩, prog_8_method_10_code, 3, (Option.some FieldType.boolean), { frames := 1, cells := 0, slots := 0, locals := 21 }, 0, 0)
def gm_ST_init : gx_M := (⟨"LetterExchange$State", "<init>", "()V"⟩, prog_9_method_1_code, 1, (Option.none : Option FieldType), { frames := 2, cells := 7, slots := 75, locals := 80 }, 7, 75)
def gm_ST_begin : gx_M := (⟨"LetterExchange$State", "begin", "(I)V"⟩, prog_9_method_2_code, 4, (Option.none : Option FieldType), { frames := 2, cells := 0, slots := 0, locals := 44 }, 0, 0)
def gm_ST_copyFrom : gx_M := (⟨"LetterExchange$State", "copyFrom", "(LLetterExchange$State;)V"⟩, prog_9_method_3_code, 2, (Option.none : Option FieldType), { frames := 2, cells := 0, slots := 0, locals := 81 }, 0, 0)
def gm_TX_init : gx_M := (⟨"LetterExchange$Text", "<init>", "()V"⟩, prog_10_method_1_code, 1, (Option.none : Option FieldType), { frames := 1, cells := 1, slots := 100, locals := 60 }, 1, 100)
def gm_TX_append : gx_M := (⟨"LetterExchange$Text", "append", "(I)Z"⟩, prog_10_method_2_code, 2, (Option.some FieldType.boolean), { frames := 0, cells := 0, slots := 0, locals := 0 }, 0, 0)
def gm_TX_readInto : gx_M := (⟨"LetterExchange$Text", "readInto", "(LLetterExchange$State;)Z"⟩, prog_10_method_3_code, 4, (Option.some FieldType.boolean), { frames := 4, cells := 0, slots := 0, locals := 92 }, 0, 0)
def gm_TX_readCount : gx_M := (⟨"LetterExchange$Text", "readCount", "(LLetterExchange$State;)Z"⟩, prog_10_method_4_code, 3, (Option.some FieldType.boolean), { frames := 3, cells := 0, slots := 0, locals := 67 }, 0, 0)
def gm_TX_readClause : gx_M := (⟨"LetterExchange$Text", "readClause", "(ILLetterExchange$State;)Z"⟩, prog_10_method_5_code, 3, (Option.some FieldType.boolean), { frames := 3, cells := 0, slots := 0, locals := 70 }, 0, 0)
def gm_TX_readHang : gx_M := (⟨"LetterExchange$Text", "readHang", "(LLetterExchange$Shape;)Z"⟩, prog_10_method_6_code, 6, (Option.some FieldType.boolean), { frames := 2, cells := 0, slots := 0, locals := 45 }, 0, 0)
def gm_TX_readWorth : gx_M := (⟨"LetterExchange$Text", "readWorth", "(LLetterExchange$State;)Z"⟩, prog_10_method_7_code, 4, (Option.some FieldType.boolean), { frames := 2, cells := 0, slots := 0, locals := 45 }, 0, 0)
def gm_TX_readEnd : gx_M := (⟨"LetterExchange$Text", "readEnd", "()Z"⟩, prog_10_method_8_code, 1, (Option.some FieldType.boolean), { frames := 1, cells := 0, slots := 0, locals := 21 }, 0, 0)
def gm_TX_figure : gx_M := (⟨"LetterExchange$Text", "figure", "(II)I"⟩, prog_10_method_9_code, 5, (Option.some FieldType.int), { frames := 1, cells := 0, slots := 0, locals := 21 }, 0, 0)
def gm_TX_take : gx_M := (⟨"LetterExchange$Text", "take", "()I"⟩, prog_10_method_10_code, 1, (Option.some FieldType.int), { frames := 0, cells := 0, slots := 0, locals := 0 }, 0, 0)
def gm_TX_blame : gx_M := (⟨"LetterExchange$Text", "blame", "(I)Z"⟩, prog_10_method_11_code, 2, (Option.some FieldType.boolean), { frames := 0, cells := 0, slots := 0, locals := 0 }, 0, 0)
def gm_TU_init : gx_M := (⟨"LetterExchange$Turns", "<init>", "()V"⟩, prog_11_method_1_code, 1, (Option.none : Option FieldType), { frames := 2, cells := 8, slots := 78, locals := 80 }, 8, 78)
def gm_TU_count : gx_M := (⟨"LetterExchange$Turns", "count", "(LLetterExchange$Shape;II)I"⟩, prog_11_method_2_code, 8, (Option.some FieldType.int), { frames := 4, cells := 0, slots := 0, locals := 110 }, 0, 0)
def gm_TU_fillRanked : gx_M := (⟨"LetterExchange$Turns", "fillRanked", "([ILLetterExchange$Shape;)V"⟩, prog_11_method_3_code, 5, (Option.none : Option FieldType), { frames := 3, cells := 0, slots := 0, locals := 66 }, 0, 0)
def gm_TU_areAlike : gx_M := (⟨"LetterExchange$Turns", "areAlike", "([I[II)Z"⟩, prog_11_method_4_code, 4, (Option.some FieldType.boolean), { frames := 0, cells := 0, slots := 0, locals := 0 }, 0, 0)
def gm_WA_init : gx_M := (⟨"LetterExchange$Walk", "<init>", "()V"⟩, prog_12_method_1_code, 1, (Option.none : Option FieldType), { frames := 1, cells := 5, slots := 1000, locals := 60 }, 5, 1000)
def gm_WA_number : gx_M := (⟨"LetterExchange$Walk", "number", "(LLetterExchange$Graph;I)V"⟩, prog_12_method_2_code, 6, (Option.none : Option FieldType), { frames := 1, cells := 0, slots := 0, locals := 23 }, 0, 0)
def gm_WA_add : gx_M := (⟨"LetterExchange$Walk", "add", "(III)V"⟩, prog_12_method_3_code, 4, (Option.none : Option FieldType), { frames := 0, cells := 0, slots := 0, locals := 0 }, 0, 0)
def gm_WA_lacks : gx_M := (⟨"LetterExchange$Walk", "lacks", "(I)Z"⟩, prog_12_method_4_code, 2, (Option.some FieldType.boolean), { frames := 0, cells := 0, slots := 0, locals := 0 }, 0, 0)
def gm_WA_lead : gx_M := (⟨"LetterExchange$Walk", "lead", "(LLetterExchange$Graph;II)I"⟩, prog_12_method_5_code, 5, (Option.some FieldType.int), { frames := 0, cells := 0, slots := 0, locals := 0 }, 0, 0)
def gm_WA_far : gx_M := (⟨"LetterExchange$Walk", "far", "()I"⟩, prog_12_method_6_code, 1, (Option.some FieldType.int), { frames := 0, cells := 0, slots := 0, locals := 0 }, 0, 0)
def gm_WA_countAway : gx_M := (⟨"LetterExchange$Walk", "countAway", "(I)I"⟩, prog_12_method_7_code, 4, (Option.some FieldType.int), { frames := 0, cells := 0, slots := 0, locals := 0 }, 0, 0)
