/-! PART 02: the classes (rows of NAMES), the layout of the cells that the two constructors make, the good words of the tables -/
def RX0 : String := "AlikeSteps$Acts"
def TX0 : u_T := fun k => match k with
  | 0 => ("AlikeSteps$Acts", "log", "[I", true)
  | _ => ("AlikeSteps$Acts", "kept", "I", false)
def tyX0 : Nat → FieldType := fun k => match k with
  | 0 => .array .int
  | _ => .int
theorem nmX0 : ∀ a, a < 2 → ∀ b, b < 2 → a ≠ b → (TX0 a).2.1 ≠ (TX0 b).2.1 := by decide +kernel
theorem tyX0_ok : ∀ k, k < 2 → parseFieldDescriptor (TX0 k).2.2.1 = some (tyX0 k) := by decide +kernel
def RX1 : String := "AlikeSteps$Alike"
def TX1 : u_T := fun k => match k with
  | 0 => ("AlikeSteps$Alike", "steps", "LAlikeSteps$Steps;", true)
  | _ => ("AlikeSteps$Alike", "partings", "[LAlikeSteps$Parting;", true)
def tyX1 : Nat → FieldType := fun k => match k with
  | 0 => .object "AlikeSteps$Steps"
  | _ => .array (.object "AlikeSteps$Parting")
theorem nmX1 : ∀ a, a < 2 → ∀ b, b < 2 → a ≠ b → (TX1 a).2.1 ≠ (TX1 b).2.1 := by decide +kernel
theorem tyX1_ok : ∀ k, k < 2 → parseFieldDescriptor (TX1 k).2.2.1 = some (tyX1 k) := by decide +kernel
def RX2 : String := "AlikeSteps$Asker"
def TX2 : u_T := fun k => match k with
  | 0 => ("AlikeSteps$Asker", "trail", "[I", true)
  | 1 => ("AlikeSteps$Asker", "traced", "I", false)
  | 2 => ("AlikeSteps$Asker", "state", "I", false)
  | 3 => ("AlikeSteps$Asker", "kind", "I", false)
  | 4 => ("AlikeSteps$Asker", "pairs", "I", false)
  | _ => ("AlikeSteps$Asker", "block", "I", false)
def tyX2 : Nat → FieldType := fun k => match k with
  | 0 => .array .int
  | 1 => .int
  | 2 => .int
  | 3 => .int
  | 4 => .int
  | _ => .int
theorem nmX2 : ∀ a, a < 6 → ∀ b, b < 6 → a ≠ b → (TX2 a).2.1 ≠ (TX2 b).2.1 := by decide +kernel
theorem tyX2_ok : ∀ k, k < 6 → parseFieldDescriptor (TX2 k).2.2.1 = some (tyX2 k) := by decide +kernel
def RX3 : String := "AlikeSteps$Formula"
def TX3 : u_T := fun k => match k with
  | 0 => ("AlikeSteps$Formula", "sets", "[I", true)
  | 1 => ("AlikeSteps$Formula", "rule", "I", false)
  | 2 => ("AlikeSteps$Formula", "all", "I", false)
  | 3 => ("AlikeSteps$Formula", "marked", "I", false)
  | 4 => ("AlikeSteps$Formula", "height", "I", false)
  | 5 => ("AlikeSteps$Formula", "list", "I", false)
  | 6 => ("AlikeSteps$Formula", "listOpen", "Z", false)
  | _ => ("AlikeSteps$Formula", "wrong", "Z", false)
def tyX3 : Nat → FieldType := fun k => match k with
  | 0 => .array .int
  | 1 => .int
  | 2 => .int
  | 3 => .int
  | 4 => .int
  | 5 => .int
  | 6 => .boolean
  | _ => .boolean
theorem nmX3 : ∀ a, a < 8 → ∀ b, b < 8 → a ≠ b → (TX3 a).2.1 ≠ (TX3 b).2.1 := by decide +kernel
theorem tyX3_ok : ∀ k, k < 8 → parseFieldDescriptor (TX3 k).2.2.1 = some (tyX3 k) := by decide +kernel
def RX4 : String := "AlikeSteps$Net"
def TX4 : u_T := fun k => match k with
  | 0 => ("AlikeSteps$Net", "kinds", "[I", true)
  | 1 => ("AlikeSteps$Net", "arcParts", "[I", true)
  | 2 => ("AlikeSteps$Net", "states", "I", false)
  | 3 => ("AlikeSteps$Net", "arcs", "I", false)
  | _ => ("AlikeSteps$Net", "version", "I", false)
def tyX4 : Nat → FieldType := fun k => match k with
  | 0 => .array .int
  | 1 => .array .int
  | 2 => .int
  | 3 => .int
  | _ => .int
theorem nmX4 : ∀ a, a < 5 → ∀ b, b < 5 → a ≠ b → (TX4 a).2.1 ≠ (TX4 b).2.1 := by decide +kernel
theorem tyX4_ok : ∀ k, k < 5 → parseFieldDescriptor (TX4 k).2.2.1 = some (tyX4 k) := by decide +kernel
def RX5 : String := "AlikeSteps$Parting"
def TX5 : u_T := fun k => match k with
  | 0 => ("AlikeSteps$Parting", "rule", "I", true)
  | 1 => ("AlikeSteps$Parting", "blocks", "[I", true)
  | 2 => ("AlikeSteps$Parting", "signs", "[J", true)
  | 3 => ("AlikeSteps$Parting", "states", "I", false)
  | 4 => ("AlikeSteps$Parting", "rounds", "I", false)
  | 5 => ("AlikeSteps$Parting", "parts", "I", false)
  | _ => ("AlikeSteps$Parting", "seen", "I", false)
def tyX5 : Nat → FieldType := fun k => match k with
  | 0 => .int
  | 1 => .array .int
  | 2 => .array .long
  | 3 => .int
  | 4 => .int
  | 5 => .int
  | _ => .int
theorem nmX5 : ∀ a, a < 7 → ∀ b, b < 7 → a ≠ b → (TX5 a).2.1 ≠ (TX5 b).2.1 := by decide +kernel
theorem tyX5_ok : ∀ k, k < 7 → parseFieldDescriptor (TX5 k).2.2.1 = some (tyX5 k) := by decide +kernel
def RX6 : String := "AlikeSteps$Rows"
def TX6 : u_T := fun k => match k with
  | 0 => ("AlikeSteps$Rows", "lanes", "[I", true)
  | 1 => ("AlikeSteps$Rows", "lengths", "[I", true)
  | _ => ("AlikeSteps$Rows", "items", "[I", true)
def tyX6 : Nat → FieldType := fun k => match k with
  | 0 => .array .int
  | 1 => .array .int
  | _ => .array .int
theorem nmX6 : ∀ a, a < 3 → ∀ b, b < 3 → a ≠ b → (TX6 a).2.1 ≠ (TX6 b).2.1 := by decide +kernel
theorem tyX6_ok : ∀ k, k < 3 → parseFieldDescriptor (TX6 k).2.2.1 = some (tyX6 k) := by decide +kernel
def RX7 : String := "AlikeSteps$Steps"
def TX7 : u_T := fun k => match k with
  | 0 => ("AlikeSteps$Steps", "goes", "[I", true)
  | 1 => ("AlikeSteps$Steps", "closed", "[I", true)
  | _ => ("AlikeSteps$Steps", "seen", "I", false)
def tyX7 : Nat → FieldType := fun k => match k with
  | 0 => .array .int
  | 1 => .array .int
  | _ => .int
theorem nmX7 : ∀ a, a < 3 → ∀ b, b < 3 → a ≠ b → (TX7 a).2.1 ≠ (TX7 b).2.1 := by decide +kernel
theorem tyX7_ok : ∀ k, k < 3 → parseFieldDescriptor (TX7 k).2.2.1 = some (tyX7 k) := by decide +kernel
def RX8 : String := "AlikeSteps$Tape"
def TX8 : u_T := fun k => match k with
  | 0 => ("AlikeSteps$Tape", "bytes", "[I", true)
  | 1 => ("AlikeSteps$Tape", "length", "I", false)
  | _ => ("AlikeSteps$Tape", "at", "I", false)
def tyX8 : Nat → FieldType := fun k => match k with
  | 0 => .array .int
  | 1 => .int
  | _ => .int
theorem nmX8 : ∀ a, a < 3 → ∀ b, b < 3 → a ≠ b → (TX8 a).2.1 ≠ (TX8 b).2.1 := by decide +kernel
theorem tyX8_ok : ∀ k, k < 3 → parseFieldDescriptor (TX8 k).2.2.1 = some (tyX8 k) := by decide +kernel
def RX9 : String := "AlikeSteps$Teller"
def TX9 : u_T := fun k => match k with
  | 0 => ("AlikeSteps$Teller", "rule", "I", true)
  | 1 => ("AlikeSteps$Teller", "partedIn", "[I", true)
  | 2 => ("AlikeSteps$Teller", "leads", "[I", true)
  | 3 => ("AlikeSteps$Teller", "sizes", "[J", true)
  | _ => ("AlikeSteps$Teller", "seen", "I", false)
def tyX9 : Nat → FieldType := fun k => match k with
  | 0 => .int
  | 1 => .array .int
  | 2 => .array .int
  | 3 => .array .long
  | _ => .int
theorem nmX9 : ∀ a, a < 5 → ∀ b, b < 5 → a ≠ b → (TX9 a).2.1 ≠ (TX9 b).2.1 := by decide +kernel
theorem tyX9_ok : ∀ k, k < 5 → parseFieldDescriptor (TX9 k).2.2.1 = some (tyX9 k) := by decide +kernel
def RX10 : String := "AlikeSteps"
def TX10 : u_T := fun k => match k with
  | 0 => ("AlikeSteps", "rows", "LAlikeSteps$Rows;", true)
  | 1 => ("AlikeSteps", "tape", "LAlikeSteps$Tape;", true)
  | 2 => ("AlikeSteps", "net", "LAlikeSteps$Net;", true)
  | 3 => ("AlikeSteps", "draft", "LAlikeSteps$Net;", true)
  | 4 => ("AlikeSteps", "trial", "LAlikeSteps$Net;", true)
  | 5 => ("AlikeSteps", "images", "[LAlikeSteps$Net;", true)
  | 6 => ("AlikeSteps", "acts", "LAlikeSteps$Acts;", true)
  | 7 => ("AlikeSteps", "alike", "LAlikeSteps$Alike;", true)
  | 8 => ("AlikeSteps", "alikeInTrial", "LAlikeSteps$Alike;", true)
  | 9 => ("AlikeSteps", "tellers", "[LAlikeSteps$Teller;", true)
  | 10 => ("AlikeSteps", "formula", "LAlikeSteps$Formula;", true)
  | 11 => ("AlikeSteps", "asker", "LAlikeSteps$Asker;", true)
  | 12 => ("AlikeSteps", "latestFault", "I", false)
  | _ => ("AlikeSteps", "latestFinding", "I", false)
def tyX10 : Nat → FieldType := fun k => match k with
  | 0 => .object "AlikeSteps$Rows"
  | 1 => .object "AlikeSteps$Tape"
  | 2 => .object "AlikeSteps$Net"
  | 3 => .object "AlikeSteps$Net"
  | 4 => .object "AlikeSteps$Net"
  | 5 => .array (.object "AlikeSteps$Net")
  | 6 => .object "AlikeSteps$Acts"
  | 7 => .object "AlikeSteps$Alike"
  | 8 => .object "AlikeSteps$Alike"
  | 9 => .array (.object "AlikeSteps$Teller")
  | 10 => .object "AlikeSteps$Formula"
  | 11 => .object "AlikeSteps$Asker"
  | 12 => .int
  | _ => .int
theorem nmX10 : ∀ a, a < 14 → ∀ b, b < 14 → a ≠ b → (TX10 a).2.1 ≠ (TX10 b).2.1 := by decide +kernel
theorem tyX10_ok : ∀ k, k < 14 → parseFieldDescriptor (TX10 k).2.2.1 = some (tyX10 k) := by decide +kernel
def RX11 : String := "AlikeStepsModel"
def TX11 : u_T := fun k => match k with
  | 0 => ("AlikeStepsModel", "lane", "[I", true)
  | 1 => ("AlikeStepsModel", "many", "[I", true)
  | 2 => ("AlikeStepsModel", "items", "[I", true)
  | 3 => ("AlikeStepsModel", "spare", "[I", true)
  | 4 => ("AlikeStepsModel", "status", "I", false)
  | 5 => ("AlikeStepsModel", "tape", "[I", true)
  | 6 => ("AlikeStepsModel", "taped", "I", false)
  | 7 => ("AlikeStepsModel", "faultKind", "I", false)
  | 8 => ("AlikeStepsModel", "faultPlace", "I", false)
  | 9 => ("AlikeStepsModel", "at", "I", false)
  | 10 => ("AlikeStepsModel", "start", "I", false)
  | 11 => ("AlikeStepsModel", "token", "I", false)
  | 12 => ("AlikeStepsModel", "value", "I", false)
  | 13 => ("AlikeStepsModel", "now", "[I", true)
  | 14 => ("AlikeStepsModel", "draft", "[I", true)
  | 15 => ("AlikeStepsModel", "past", "[I", true)
  | 16 => ("AlikeStepsModel", "acts", "I", false)
  | 17 => ("AlikeStepsModel", "images", "[I", true)
  | 18 => ("AlikeStepsModel", "kept", "[Z", true)
  | 19 => ("AlikeStepsModel", "system", "[I", true)
  | 20 => ("AlikeStepsModel", "goes", "[I", true)
  | 21 => ("AlikeStepsModel", "silent", "[I", true)
  | 22 => ("AlikeStepsModel", "blocks", "[I", true)
  | 23 => ("AlikeStepsModel", "rounds", "I", false)
  | 24 => ("AlikeStepsModel", "signs", "[J", true)
  | 25 => ("AlikeStepsModel", "codes", "[I", true)
  | 26 => ("AlikeStepsModel", "depths", "[I", true)
  | 27 => ("AlikeStepsModel", "letters", "[I", true)
  | 28 => ("AlikeStepsModel", "ones", "[I", true)
  | 29 => ("AlikeStepsModel", "sets", "[I", true)
  | 30 => ("AlikeStepsModel", "isList", "[Z", true)
  | 31 => ("AlikeStepsModel", "trace", "[I", true)
  | _ => ("AlikeStepsModel", "traced", "I", false)
def tyX11 : Nat → FieldType := fun k => match k with
  | 0 => .array .int
  | 1 => .array .int
  | 2 => .array .int
  | 3 => .array .int
  | 4 => .int
  | 5 => .array .int
  | 6 => .int
  | 7 => .int
  | 8 => .int
  | 9 => .int
  | 10 => .int
  | 11 => .int
  | 12 => .int
  | 13 => .array .int
  | 14 => .array .int
  | 15 => .array .int
  | 16 => .int
  | 17 => .array .int
  | 18 => .array .boolean
  | 19 => .array .int
  | 20 => .array .int
  | 21 => .array .int
  | 22 => .array .int
  | 23 => .int
  | 24 => .array .long
  | 25 => .array .int
  | 26 => .array .int
  | 27 => .array .int
  | 28 => .array .int
  | 29 => .array .int
  | 30 => .array .boolean
  | 31 => .array .int
  | _ => .int
theorem nmX11 : ∀ a, a < 33 → ∀ b, b < 33 → a ≠ b → (TX11 a).2.1 ≠ (TX11 b).2.1 := by decide +kernel
theorem tyX11_ok : ∀ k, k < 33 → parseFieldDescriptor (TX11 k).2.2.1 = some (tyX11 k) := by decide +kernel
def RJ6 : String := "java/lang/Integer"
def RJ9 : String := "java/lang/Math"
def RJ10 : String := "java/lang/System"
def RL : String := "AlikeStepsLaw"
abbrev vwCl : List vw_C := [(RX0, TX0, 2), (RX1, TX1, 2), (RX2, TX2, 6), (RX3, TX3, 8), (RX4, TX4, 5), (RX5, TX5, 7), (RX6, TX6, 3), (RX7, TX7, 3), (RX8, TX8, 3), (RX9, TX9, 5), (RX10, TX10, 14), (RX11, TX11, 33)]
def pj_tb : List Cond := lw_tbl.filter goodWord
theorem pj_mem (i : Nat) {c : Cond} (h : lw_tbl[i]? = some c) (hg : goodWord c = true) : c ∈ pj_tb := List.mem_filter.mpr ⟨List.mem_of_getElem? h, hg⟩
theorem pj_memL {ws : List Cond} (is : List Nat) (h : ws = is.filterMap (fun i => lw_tbl[i]?)) (hg : ws.all goodWord = true) : ∀ c ∈ ws, c ∈ pj_tb := by
  intro c hc
  have h1 := List.all_eq_true.mp hg c hc
  rw [h] at hc
  obtain ⟨i, -, hi⟩ := List.mem_filterMap.mp hc
  exact pj_mem i hi h1
theorem pj_goodIn : GoodIn pj_tb pj_tb := fun c hc => ⟨hc, good_of_word (List.mem_filter.mp hc).2⟩
theorem wiX0 : ∀ c ∈ u_ws RX0 TX0 2, c ∈ pj_tb := pj_memL [168, 170] (by decide +kernel) (by decide +kernel)
theorem wiX1 : ∀ c ∈ u_ws RX1 TX1 2, c ∈ pj_tb := pj_memL [227, 229] (by decide +kernel) (by decide +kernel)
theorem wiX2 : ∀ c ∈ u_ws RX2 TX2 6, c ∈ pj_tb := pj_memL [277, 279, 281, 283, 285, 287] (by decide +kernel) (by decide +kernel)
theorem wiX3 : ∀ c ∈ u_ws RX3 TX3 8, c ∈ pj_tb := pj_memL [248, 250, 252, 254, 256, 258, 260, 262] (by decide +kernel) (by decide +kernel)
theorem wiX4 : ∀ c ∈ u_ws RX4 TX4 5, c ∈ pj_tb := pj_memL [148, 150, 152, 154, 156] (by decide +kernel) (by decide +kernel)
theorem wiX5 : ∀ c ∈ u_ws RX5 TX5 7, c ∈ pj_tb := pj_memL [209, 211, 213, 215, 217, 219, 221] (by decide +kernel) (by decide +kernel)
theorem wiX6 : ∀ c ∈ u_ws RX6 TX6 3, c ∈ pj_tb := pj_memL [113, 115, 117] (by decide +kernel) (by decide +kernel)
theorem wiX7 : ∀ c ∈ u_ws RX7 TX7 3, c ∈ pj_tb := pj_memL [188, 190, 192] (by decide +kernel) (by decide +kernel)
theorem wiX8 : ∀ c ∈ u_ws RX8 TX8 3, c ∈ pj_tb := pj_memL [130, 132, 134] (by decide +kernel) (by decide +kernel)
theorem wiX9 : ∀ c ∈ u_ws RX9 TX9 5, c ∈ pj_tb := pj_memL [300, 302, 304, 306, 308] (by decide +kernel) (by decide +kernel)
theorem wiX10 : ∀ c ∈ u_ws RX10 TX10 14, c ∈ pj_tb := pj_memL [325, 327, 329, 331, 333, 335, 337, 339, 341, 343, 345, 347, 349, 351] (by decide +kernel) (by decide +kernel)
theorem wiX11 : ∀ c ∈ u_ws RX11 TX11 33, c ∈ pj_tb := pj_memL [1051, 1053, 1055, 1057, 1059, 1061, 1063, 1065, 1067, 1069, 1071, 1073, 1075, 1077, 1079, 1081, 1083, 1085, 1087, 1089, 1091, 1093, 1095, 1097, 1099, 1101, 1103, 1105, 1107, 1109, 1111, 1113, 1115] (by decide +kernel) (by decide +kernel)
/-- of a class: a field that is a number, or (kind, what, how far away) of the cell that it holds -/
def pj_ct : Nat → List (Option (Nat × Nat × Nat)) := fun c => match c with
  | 0 => [some (1, 100, 1), none]
  | 1 => [some (0, 7, 1), some (4, 5, 4)]
  | 2 => [some (1, 16, 1), none, none, none, none, none]
  | 3 => [some (1, 30, 1), none, none, none, none, none, none, none]
  | 4 => [some (1, 10, 1), some (1, 60, 2), none, none, none]
  | 5 => [none, some (1, 110, 1), some (2, 10, 2), none, none, none, none]
  | 6 => [some (1, 8, 1), some (1, 8, 2), some (1, 320, 3)]
  | 7 => [some (1, 40, 1), some (1, 40, 2), none]
  | 8 => [some (1, 140, 1), none, none]
  | 9 => [none, some (1, 100, 1), some (1, 100, 2), some (2, 100, 3), none]
  | 10 => [some (0, 6, 1), some (0, 8, 5), some (0, 4, 7), some (0, 4, 10), some (0, 4, 13), some (4, 4, 16), some (0, 0, 17), some (0, 1, 19), some (0, 1, 36), some (4, 9, 53), some (0, 3, 54), some (0, 2, 56), none, none]
  | _ => [some (1, 8, 1), some (1, 8, 2), some (1, 320, 3), some (1, 40, 4), none, some (1, 140, 5), none, none, none, none, none, none, none, some (1, 72, 6), some (1, 72, 7), some (1, 1440, 8), none, some (1, 144, 9), some (3, 2, 10), some (1, 72, 11), some (1, 40, 12), some (1, 10, 13), some (1, 220, 14), none, some (2, 10, 15), some (1, 100, 16), some (1, 100, 17), some (1, 100, 18), some (1, 100, 19), some (1, 30, 20), some (3, 30, 21), some (1, 16, 22), none]
def pj_rlen : Nat → Nat := fun c => match c with
  | 4 => 2
  | 5 => 4
  | 9 => 2
  | _ => 0
def pj_roff : Nat → Nat := fun c => match c with
  | 4 => 42
  | 5 => 1
  | 9 => 11
  | _ => 0
def pj_rstr : Nat → Nat := fun c => match c with
  | 4 => 3
  | 5 => 3
  | 9 => 4
  | _ => 0
/-- the cells, in the order in which they are made: (0, class), (1, length) ints, (2, length) longs, (3, length) booleans, (4, class) references -/
def pj_lay : List (Nat × Nat) := [(0, 10), (0, 6), (1, 8), (1, 8), (1, 320), (0, 8), (1, 140), (0, 4), (1, 10), (1, 60), (0, 4), (1, 10), (1, 60), (0, 4), (1, 10), (1, 60), (4, 4), (0, 0), (1, 100), (0, 1), (0, 7), (1, 40), (1, 40), (4, 5), (0, 5), (1, 110), (2, 10), (0, 5), (1, 110), (2, 10), (0, 5), (1, 110), (2, 10), (0, 5), (1, 110), (2, 10), (0, 1), (0, 7), (1, 40), (1, 40), (4, 5), (0, 5), (1, 110), (2, 10), (0, 5), (1, 110), (2, 10), (0, 5), (1, 110), (2, 10), (0, 5), (1, 110), (2, 10), (4, 9), (0, 3), (1, 30), (0, 2), (1, 16), (0, 4), (1, 10), (1, 60), (0, 4), (1, 10), (1, 60), (0, 9), (1, 100), (1, 100), (2, 100), (0, 9), (1, 100), (1, 100), (2, 100), (0, 11), (1, 8), (1, 8), (1, 320), (1, 40), (1, 140), (1, 72), (1, 72), (1, 1440), (1, 144), (3, 2), (1, 72), (1, 40), (1, 10), (1, 220), (2, 10), (1, 100), (1, 100), (1, 100), (1, 100), (1, 30), (3, 30), (1, 16)]
theorem pj_lay_len : pj_lay.length = 95 := by decide +kernel
abbrev pj_nw : Cond := .methodLinkNest RX7 78 ⟨RX10, "isA", "(II)Z"⟩ "AlikeSteps"
