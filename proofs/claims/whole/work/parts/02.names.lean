theorem mem_pl {big : List Cond} (ws : List Cond) (ps : List Nat) (hp : ws = ps.filterMap (fun i => big[i]?)) : ∀ w ∈ ws, w ∈ big := by
  intro w hw
  rw [hp] at hw
  obtain ⟨i, -, hi⟩ := List.mem_filterMap.mp hw
  exact List.mem_of_getElem? hi
def lw_g : List Cond := lw_tbl.filter goodWord
theorem lg_of {w : Cond} (i : Nat) (h : lw_tbl[i]? = some w) (g : goodWord w = true) : w ∈ lw_g := List.mem_filter.mpr ⟨List.mem_of_getElem? h, g⟩
theorem lg_good : GoodIn lw_g lw_g := fun w hw => ⟨hw, good_of_word (List.mem_filter.mp hw).2⟩
theorem lg_all {ws : List Cond} (h : ∀ w ∈ ws, w ∈ lw_tbl) (g : ws.all goodWord = true) : ∀ w ∈ ws, w ∈ lw_g := fun w hw => List.mem_filter.mpr ⟨h w hw, List.all_eq_true.mp g w hw⟩
def T_0 : u_T := fun k => match k with
  | _ => ("PutOffWicks$Almanac", "reckoner", "LPutOffWicks$Reckoner;", true)
def ty_0 : Nat → FieldType := fun k => match k with
  | _ => .object "PutOffWicks$Reckoner"
theorem nm_0 : ∀ a, a < 1 → ∀ b, b < 1 → a ≠ b → (T_0 a).2.1 ≠ (T_0 b).2.1 := by decide +kernel
theorem tk_0 : ∀ k, k < 1 → parseFieldDescriptor (T_0 k).2.2.1 = some (ty_0 k) := by decide +kernel
theorem iw_0 : ∀ w ∈ u_ws "PutOffWicks$Almanac" T_0 1, w ∈ lw_g := lg_all (mem_pl _ [323] (by decide +kernel)) (by decide +kernel)
def T_1 : u_T := fun k => match k with
  | 0 => ("PutOffWicks$Law", "reading", "LPutOffWicks$Reading;", true)
  | 1 => ("PutOffWicks$Law", "steps", "[I", true)
  | 2 => ("PutOffWicks$Law", "details", "[I", true)
  | 3 => ("PutOffWicks$Law", "letter", "[I", true)
  | 4 => ("PutOffWicks$Law", "valueAt", "[I", true)
  | 5 => ("PutOffWicks$Law", "holdsAt", "[I", true)
  | 6 => ("PutOffWicks$Law", "endAt", "[I", true)
  | 7 => ("PutOffWicks$Law", "size", "I", false)
  | _ => ("PutOffWicks$Law", "rules", "I", false)
def ty_1 : Nat → FieldType := fun k => match k with
  | 0 => .object "PutOffWicks$Reading"
  | 1 => .array .int
  | 2 => .array .int
  | 3 => .array .int
  | 4 => .array .int
  | 5 => .array .int
  | 6 => .array .int
  | 7 => .int
  | _ => .int
theorem nm_1 : ∀ a, a < 9 → ∀ b, b < 9 → a ≠ b → (T_1 a).2.1 ≠ (T_1 b).2.1 := by decide +kernel
theorem tk_1 : ∀ k, k < 9 → parseFieldDescriptor (T_1 k).2.2.1 = some (ty_1 k) := by decide +kernel
theorem iw_1 : ∀ w ∈ u_ws "PutOffWicks$Law" T_1 9, w ∈ lw_g := lg_all (mem_pl _ [269, 271, 273, 275, 277, 279, 281, 283, 285] (by decide +kernel)) (by decide +kernel)
def T_2 : u_T := fun k => match k with
  | 0 => ("PutOffWicks$Parish", "owner", "[I", true)
  | 1 => ("PutOffWicks$Parish", "waitsFor", "[I", true)
  | 2 => ("PutOffWicks$Parish", "length", "[I", true)
  | 3 => ("PutOffWicks$Parish", "putOff", "[I", true)
  | 4 => ("PutOffWicks$Parish", "litBits", "I", false)
  | 5 => ("PutOffWicks$Parish", "doneBits", "I", false)
  | 6 => ("PutOffWicks$Parish", "things", "I", false)
  | 7 => ("PutOffWicks$Parish", "guttered", "I", false)
  | 8 => ("PutOffWicks$Parish", "day", "I", false)
  | _ => ("PutOffWicks$Parish", "x", "I", false)
def ty_2 : Nat → FieldType := fun k => match k with
  | 0 => .array .int
  | 1 => .array .int
  | 2 => .array .int
  | 3 => .array .int
  | 4 => .int
  | 5 => .int
  | 6 => .int
  | 7 => .int
  | 8 => .int
  | _ => .int
theorem nm_2 : ∀ a, a < 10 → ∀ b, b < 10 → a ≠ b → (T_2 a).2.1 ≠ (T_2 b).2.1 := by decide +kernel
theorem tk_2 : ∀ k, k < 10 → parseFieldDescriptor (T_2 k).2.2.1 = some (ty_2 k) := by decide +kernel
theorem iw_2 : ∀ w ∈ u_ws "PutOffWicks$Parish" T_2 10, w ∈ lw_g := lg_all (mem_pl _ [209, 211, 213, 215, 217, 219, 221, 223, 225, 227] (by decide +kernel)) (by decide +kernel)
def T_3 : u_T := fun k => match k with
  | 0 => ("PutOffWicks$ParishReader", "reading", "LPutOffWicks$Reading;", true)
  | _ => ("PutOffWicks$ParishReader", "draft", "LPutOffWicks$Parish;", true)
def ty_3 : Nat → FieldType := fun k => match k with
  | 0 => .object "PutOffWicks$Reading"
  | _ => .object "PutOffWicks$Parish"
theorem nm_3 : ∀ a, a < 2 → ∀ b, b < 2 → a ≠ b → (T_3 a).2.1 ≠ (T_3 b).2.1 := by decide +kernel
theorem tk_3 : ∀ k, k < 2 → parseFieldDescriptor (T_3 k).2.2.1 = some (ty_3 k) := by decide +kernel
theorem iw_3 : ∀ w ∈ u_ws "PutOffWicks$ParishReader" T_3 2, w ∈ lw_g := lg_all (mem_pl _ [241, 243] (by decide +kernel)) (by decide +kernel)
def T_4 : u_T := fun k => match k with
  | 0 => ("PutOffWicks$Reading", "text", "LPutOffWicks$Tape;", true)
  | 1 => ("PutOffWicks$Reading", "at", "I", false)
  | _ => ("PutOffWicks$Reading", "fault", "I", false)
def ty_4 : Nat → FieldType := fun k => match k with
  | 0 => .object "PutOffWicks$Tape"
  | 1 => .int
  | _ => .int
theorem nm_4 : ∀ a, a < 3 → ∀ b, b < 3 → a ≠ b → (T_4 a).2.1 ≠ (T_4 b).2.1 := by decide +kernel
theorem tk_4 : ∀ k, k < 3 → parseFieldDescriptor (T_4 k).2.2.1 = some (ty_4 k) := by decide +kernel
theorem iw_4 : ∀ w ∈ u_ws "PutOffWicks$Reading" T_4 3, w ∈ lw_g := lg_all (mem_pl _ [163, 165, 167] (by decide +kernel)) (by decide +kernel)
def T_5 : u_T := fun k => match k with
  | 0 => ("PutOffWicks$Reckoner", "law", "LPutOffWicks$Law;", true)
  | 1 => ("PutOffWicks$Reckoner", "stack", "[I", true)
  | 2 => ("PutOffWicks$Reckoner", "top", "I", false)
  | 3 => ("PutOffWicks$Reckoner", "refused", "Z", false)
  | 4 => ("PutOffWicks$Reckoner", "parish", "LPutOffWicks$Parish;", false)
  | 5 => ("PutOffWicks$Reckoner", "thing", "I", false)
  | _ => ("PutOffWicks$Reckoner", "drawn", "I", false)
def ty_5 : Nat → FieldType := fun k => match k with
  | 0 => .object "PutOffWicks$Law"
  | 1 => .array .int
  | 2 => .int
  | 3 => .boolean
  | 4 => .object "PutOffWicks$Parish"
  | 5 => .int
  | _ => .int
theorem nm_5 : ∀ a, a < 7 → ∀ b, b < 7 → a ≠ b → (T_5 a).2.1 ≠ (T_5 b).2.1 := by decide +kernel
theorem tk_5 : ∀ k, k < 7 → parseFieldDescriptor (T_5 k).2.2.1 = some (ty_5 k) := by decide +kernel
theorem iw_5 : ∀ w ∈ u_ws "PutOffWicks$Reckoner" T_5 7, w ∈ lw_g := lg_all (mem_pl _ [303, 305, 307, 309, 311, 313, 315] (by decide +kernel)) (by decide +kernel)
def T_6 : u_T := fun k => match k with
  | _ => ("PutOffWicks$Rows", "tape", "LPutOffWicks$Tape;", true)
def ty_6 : Nat → FieldType := fun k => match k with
  | _ => .object "PutOffWicks$Tape"
theorem nm_6 : ∀ a, a < 1 → ∀ b, b < 1 → a ≠ b → (T_6 a).2.1 ≠ (T_6 b).2.1 := by decide +kernel
theorem tk_6 : ∀ k, k < 1 → parseFieldDescriptor (T_6 k).2.2.1 = some (ty_6 k) := by decide +kernel
theorem iw_6 : ∀ w ∈ u_ws "PutOffWicks$Rows" T_6 1, w ∈ lw_g := lg_all (mem_pl _ [404] (by decide +kernel)) (by decide +kernel)
def T_7 : u_T := fun k => match k with
  | 0 => ("PutOffWicks$Shore", "tape", "LPutOffWicks$Tape;", true)
  | _ => ("PutOffWicks$Shore", "view", "[J", true)
def ty_7 : Nat → FieldType := fun k => match k with
  | 0 => .object "PutOffWicks$Tape"
  | _ => .array .long
theorem nm_7 : ∀ a, a < 2 → ∀ b, b < 2 → a ≠ b → (T_7 a).2.1 ≠ (T_7 b).2.1 := by decide +kernel
theorem tk_7 : ∀ k, k < 2 → parseFieldDescriptor (T_7 k).2.2.1 = some (ty_7 k) := by decide +kernel
theorem iw_7 : ∀ w ∈ u_ws "PutOffWicks$Shore" T_7 2, w ∈ lw_g := lg_all (mem_pl _ [391, 393] (by decide +kernel)) (by decide +kernel)
def T_8 : u_T := fun k => match k with
  | 0 => ("PutOffWicks$Tape", "bytes", "[I", true)
  | 1 => ("PutOffWicks$Tape", "taken", "I", false)
  | _ => ("PutOffWicks$Tape", "size", "I", false)
def ty_8 : Nat → FieldType := fun k => match k with
  | 0 => .array .int
  | 1 => .int
  | _ => .int
theorem nm_8 : ∀ a, a < 3 → ∀ b, b < 3 → a ≠ b → (T_8 a).2.1 ≠ (T_8 b).2.1 := by decide +kernel
theorem tk_8 : ∀ k, k < 3 → parseFieldDescriptor (T_8 k).2.2.1 = some (ty_8 k) := by decide +kernel
theorem iw_8 : ∀ w ∈ u_ws "PutOffWicks$Tape" T_8 3, w ∈ lw_g := lg_all (mem_pl _ [140, 142, 144] (by decide +kernel)) (by decide +kernel)
def T_9 : u_T := fun k => match k with
  | 0 => ("PutOffWicks$Twist", "reading", "LPutOffWicks$Reading;", true)
  | 1 => ("PutOffWicks$Twist", "turn", "[I", true)
  | 2 => ("PutOffWicks$Twist", "left", "[I", true)
  | 3 => ("PutOffWicks$Twist", "groupPlace", "[I", true)
  | 4 => ("PutOffWicks$Twist", "groupTimes", "[I", true)
  | 5 => ("PutOffWicks$Twist", "groupTurns", "[I", true)
  | 6 => ("PutOffWicks$Twist", "goal", "[I", true)
  | 7 => ("PutOffWicks$Twist", "groups", "I", false)
  | _ => ("PutOffWicks$Twist", "turns", "I", false)
def ty_9 : Nat → FieldType := fun k => match k with
  | 0 => .object "PutOffWicks$Reading"
  | 1 => .array .int
  | 2 => .array .int
  | 3 => .array .int
  | 4 => .array .int
  | 5 => .array .int
  | 6 => .array .int
  | 7 => .int
  | _ => .int
theorem nm_9 : ∀ a, a < 9 → ∀ b, b < 9 → a ≠ b → (T_9 a).2.1 ≠ (T_9 b).2.1 := by decide +kernel
theorem tk_9 : ∀ k, k < 9 → parseFieldDescriptor (T_9 k).2.2.1 = some (ty_9 k) := by decide +kernel
theorem iw_9 : ∀ w ∈ u_ws "PutOffWicks$Twist" T_9 9, w ∈ lw_g := lg_all (mem_pl _ [342, 344, 346, 348, 350, 352, 354, 356, 358] (by decide +kernel)) (by decide +kernel)
def T_10 : u_T := fun k => match k with
  | 0 => ("PutOffWicks$Waits", "tape", "LPutOffWicks$Tape;", true)
  | 1 => ("PutOffWicks$Waits", "waitsFor", "[I", true)
  | 2 => ("PutOffWicks$Waits", "stays", "[I", true)
  | 3 => ("PutOffWicks$Waits", "from", "[I", true)
  | _ => ("PutOffWicks$Waits", "rings", "[I", true)
def ty_10 : Nat → FieldType := fun k => match k with
  | 0 => .object "PutOffWicks$Tape"
  | 1 => .array .int
  | 2 => .array .int
  | 3 => .array .int
  | _ => .array .int
theorem nm_10 : ∀ a, a < 5 → ∀ b, b < 5 → a ≠ b → (T_10 a).2.1 ≠ (T_10 b).2.1 := by decide +kernel
theorem tk_10 : ∀ k, k < 5 → parseFieldDescriptor (T_10 k).2.2.1 = some (ty_10 k) := by decide +kernel
theorem iw_10 : ∀ w ∈ u_ws "PutOffWicks$Waits" T_10 5, w ∈ lw_g := lg_all (mem_pl _ [372, 374, 376, 378, 380] (by decide +kernel)) (by decide +kernel)
def T_11 : u_T := fun k => match k with
  | 0 => ("PutOffWicks", "tape", "LPutOffWicks$Tape;", true)
  | 1 => ("PutOffWicks", "reading", "LPutOffWicks$Reading;", true)
  | 2 => ("PutOffWicks", "now", "LPutOffWicks$Parish;", true)
  | 3 => ("PutOffWicks", "kept", "LPutOffWicks$Parish;", true)
  | 4 => ("PutOffWicks", "trial", "LPutOffWicks$Parish;", true)
  | 5 => ("PutOffWicks", "parishReader", "LPutOffWicks$ParishReader;", true)
  | 6 => ("PutOffWicks", "ruling", "LPutOffWicks$Law;", true)
  | 7 => ("PutOffWicks", "lawDraft", "LPutOffWicks$Law;", true)
  | 8 => ("PutOffWicks", "almanac", "LPutOffWicks$Almanac;", true)
  | 9 => ("PutOffWicks", "twisting", "LPutOffWicks$Twist;", true)
  | 10 => ("PutOffWicks", "waits", "LPutOffWicks$Waits;", true)
  | 11 => ("PutOffWicks", "shore", "LPutOffWicks$Shore;", true)
  | 12 => ("PutOffWicks", "rows", "LPutOffWicks$Rows;", true)
  | _ => ("PutOffWicks", "wasKept", "Z", false)
def ty_11 : Nat → FieldType := fun k => match k with
  | 0 => .object "PutOffWicks$Tape"
  | 1 => .object "PutOffWicks$Reading"
  | 2 => .object "PutOffWicks$Parish"
  | 3 => .object "PutOffWicks$Parish"
  | 4 => .object "PutOffWicks$Parish"
  | 5 => .object "PutOffWicks$ParishReader"
  | 6 => .object "PutOffWicks$Law"
  | 7 => .object "PutOffWicks$Law"
  | 8 => .object "PutOffWicks$Almanac"
  | 9 => .object "PutOffWicks$Twist"
  | 10 => .object "PutOffWicks$Waits"
  | 11 => .object "PutOffWicks$Shore"
  | 12 => .object "PutOffWicks$Rows"
  | _ => .boolean
theorem nm_11 : ∀ a, a < 14 → ∀ b, b < 14 → a ≠ b → (T_11 a).2.1 ≠ (T_11 b).2.1 := by decide +kernel
theorem tk_11 : ∀ k, k < 14 → parseFieldDescriptor (T_11 k).2.2.1 = some (ty_11 k) := by decide +kernel
theorem iw_11 : ∀ w ∈ u_ws "PutOffWicks" T_11 14, w ∈ lw_g := lg_all (mem_pl _ [421, 423, 425, 427, 429, 431, 433, 435, 437, 439, 441, 443, 445, 447] (by decide +kernel)) (by decide +kernel)
def T_12 : u_T := fun k => match k with
  | 0 => ("PutOffWicksModel", "now", "[I", true)
  | 1 => ("PutOffWicksModel", "aside", "[I", true)
  | 2 => ("PutOffWicksModel", "kept", "[I", true)
  | 3 => ("PutOffWicksModel", "whoseOf", "[I", true)
  | 4 => ("PutOffWicksModel", "waitsFor", "[I", true)
  | 5 => ("PutOffWicksModel", "things", "I", false)
  | 6 => ("PutOffWicksModel", "tape", "[B", true)
  | 7 => ("PutOffWicksModel", "taped", "I", false)
  | 8 => ("PutOffWicksModel", "place0", "I", false)
  | 9 => ("PutOffWicksModel", "length0", "I", false)
  | 10 => ("PutOffWicksModel", "fault", "I", false)
  | 11 => ("PutOffWicksModel", "number0", "I", false)
  | 12 => ("PutOffWicksModel", "open", "I", false)
  | 13 => ("PutOffWicksModel", "codeMany", "I", false)
  | 14 => ("PutOffWicksModel", "waiting", "I", false)
  | 15 => ("PutOffWicksModel", "saidMany", "I", false)
  | 16 => ("PutOffWicksModel", "clauses", "I", false)
  | 17 => ("PutOffWicksModel", "said", "[I", true)
  | 18 => ("PutOffWicksModel", "waitsAt", "[I", true)
  | 19 => ("PutOffWicksModel", "saidLetter", "[I", true)
  | 20 => ("PutOffWicksModel", "saidFrom", "[I", true)
  | 21 => ("PutOffWicksModel", "saidHalf", "[I", true)
  | 22 => ("PutOffWicksModel", "saidTo", "[I", true)
  | 23 => ("PutOffWicksModel", "codes", "[I", true)
  | 24 => ("PutOffWicksModel", "clauseOf", "[I", true)
  | 25 => ("PutOffWicksModel", "codeFrom", "[I", true)
  | 26 => ("PutOffWicksModel", "codeHalf", "[I", true)
  | 27 => ("PutOffWicksModel", "codeTo", "[I", true)
  | 28 => ("PutOffWicksModel", "stack", "[I", true)
  | 29 => ("PutOffWicksModel", "facts", "[I", true)
  | 30 => ("PutOffWicksModel", "newWhose", "[I", true)
  | 31 => ("PutOffWicksModel", "newLength", "[I", true)
  | 32 => ("PutOffWicksModel", "newLit", "[I", true)
  | 33 => ("PutOffWicksModel", "newWaits", "[I", true)
  | 34 => ("PutOffWicksModel", "newThings", "I", false)
  | 35 => ("PutOffWicksModel", "doneNow", "I", false)
  | 36 => ("PutOffWicksModel", "leftNow", "[I", true)
  | 37 => ("PutOffWicksModel", "orderWays", "[I", true)
  | 38 => ("PutOffWicksModel", "turnNow", "[I", true)
  | 39 => ("PutOffWicksModel", "roundFrom", "[I", true)
  | 40 => ("PutOffWicksModel", "roundAt", "[I", true)
  | 41 => ("PutOffWicksModel", "roundTimes", "[I", true)
  | 42 => ("PutOffWicksModel", "strandAt", "[I", true)
  | 43 => ("PutOffWicksModel", "strandThen", "[I", true)
  | 44 => ("PutOffWicksModel", "turnLeft", "[I", true)
  | 45 => ("PutOffWicksModel", "turnMany", "I", false)
  | 46 => ("PutOffWicksModel", "rounds", "I", false)
  | 47 => ("PutOffWicksModel", "itFrom", "I", false)
  | 48 => ("PutOffWicksModel", "itTimes", "I", false)
  | 49 => ("PutOffWicksModel", "awaits", "[I", true)
  | 50 => ("PutOffWicksModel", "endsBy", "[I", true)
  | 51 => ("PutOffWicksModel", "rowNow", "[I", true)
  | 52 => ("PutOffWicksModel", "seesAt", "[I", true)
  | 53 => ("PutOffWicksModel", "isKept", "Z", false)
  | _ => ("PutOffWicksModel", "keptThings", "I", false)
def ty_12 : Nat → FieldType := fun k => match k with
  | 0 => .array .int
  | 1 => .array .int
  | 2 => .array .int
  | 3 => .array .int
  | 4 => .array .int
  | 5 => .int
  | 6 => .array .byte
  | 7 => .int
  | 8 => .int
  | 9 => .int
  | 10 => .int
  | 11 => .int
  | 12 => .int
  | 13 => .int
  | 14 => .int
  | 15 => .int
  | 16 => .int
  | 17 => .array .int
  | 18 => .array .int
  | 19 => .array .int
  | 20 => .array .int
  | 21 => .array .int
  | 22 => .array .int
  | 23 => .array .int
  | 24 => .array .int
  | 25 => .array .int
  | 26 => .array .int
  | 27 => .array .int
  | 28 => .array .int
  | 29 => .array .int
  | 30 => .array .int
  | 31 => .array .int
  | 32 => .array .int
  | 33 => .array .int
  | 34 => .int
  | 35 => .int
  | 36 => .array .int
  | 37 => .array .int
  | 38 => .array .int
  | 39 => .array .int
  | 40 => .array .int
  | 41 => .array .int
  | 42 => .array .int
  | 43 => .array .int
  | 44 => .array .int
  | 45 => .int
  | 46 => .int
  | 47 => .int
  | 48 => .int
  | 49 => .array .int
  | 50 => .array .int
  | 51 => .array .int
  | 52 => .array .int
  | 53 => .boolean
  | _ => .int
theorem nm_12 : ∀ a, a < 55 → ∀ b, b < 55 → a ≠ b → (T_12 a).2.1 ≠ (T_12 b).2.1 := by decide +kernel
theorem tk_12 : ∀ k, k < 55 → parseFieldDescriptor (T_12 k).2.2.1 = some (ty_12 k) := by decide +kernel
theorem iw_12 : ∀ w ∈ u_ws "PutOffWicksModel" T_12 55, w ∈ lw_g := lg_all (mem_pl _ [1116, 1118, 1120, 1122, 1124, 1126, 1128, 1130, 1132, 1134, 1136, 1138, 1140, 1142, 1144, 1146, 1148, 1150, 1152, 1154, 1156, 1158, 1160, 1162, 1164, 1166, 1168, 1170, 1172, 1174, 1176, 1178, 1180, 1182, 1184, 1186, 1188, 1190, 1192, 1194, 1196, 1198, 1200, 1202, 1204, 1206, 1208, 1210, 1212, 1214, 1216, 1218, 1220, 1222, 1224] (by decide +kernel)) (by decide +kernel)
def clA : List vw_C := [("PutOffWicks$Almanac", T_0, 1), ("PutOffWicks$Law", T_1, 9), ("PutOffWicks$Parish", T_2, 10), ("PutOffWicks$ParishReader", T_3, 2), ("PutOffWicks$Reading", T_4, 3), ("PutOffWicks$Reckoner", T_5, 7), ("PutOffWicks$Rows", T_6, 1), ("PutOffWicks$Shore", T_7, 2), ("PutOffWicks$Tape", T_8, 3), ("PutOffWicks$Twist", T_9, 9), ("PutOffWicks$Waits", T_10, 5), ("PutOffWicks", T_11, 14), ("PutOffWicksModel", T_12, 55)]
