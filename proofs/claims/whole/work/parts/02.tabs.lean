theorem goodIn_r {big : List Cond} (ws : List Cond) (ps : List Nat) (hp : ws = ps.filterMap (fun i => big[i]?)) (h : ws.all goodWord = true) : GoodIn big ws := by
  intro w hw
  have h1 := List.all_eq_true.mp h w hw
  rw [hp] at hw
  obtain ⟨i, -, hi⟩ := List.mem_filterMap.mp hw
  have hm : w ∈ big := by first | exact List.mem_of_getElem? hi | exact List.getElem?_mem hi
  exact ⟨hm, good_of_word h1⟩
def RX0 : String := "ClockWires$History"
def TX0 : u_T := fun k => match k with
  | 0 => ("ClockWires$History", "saved", "[LClockWires$Tree;", true)
  | 1 => ("ClockWires$History", "next", "I", false)
  | _ => ("ClockWires$History", "count", "I", false)
def tyX0 : Nat → FieldType := fun k => match k with
  | 0 => .array (.object "ClockWires$Tree")
  | 1 => .int
  | _ => .int
abbrev wsX00 : List Cond := u_ws RX0 TX0 3
theorem nmX0 : ∀ a, a < 3 → ∀ b, b < 3 → a ≠ b → (TX0 a).2.1 ≠ (TX0 b).2.1 := by decide +kernel
theorem tyX0_ok : ∀ k, k < 3 → parseFieldDescriptor (TX0 k).2.2.1 = some (tyX0 k) := by decide +kernel
def RX1 : String := "ClockWires$Merge"
def TX1 : u_T := fun k => match k with
  | 0 => ("ClockWires$Merge", "gap", "I", false)
  | 1 => ("ClockWires$Merge", "span", "I", false)
  | 2 => ("ClockWires$Merge", "leftWire", "I", false)
  | _ => ("ClockWires$Merge", "rightWire", "I", false)
def tyX1 : Nat → FieldType := fun k => match k with
  | 0 => .int
  | 1 => .int
  | 2 => .int
  | _ => .int
abbrev wsX10 : List Cond := u_ws RX1 TX1 4
theorem nmX1 : ∀ a, a < 4 → ∀ b, b < 4 → a ≠ b → (TX1 a).2.1 ≠ (TX1 b).2.1 := by decide +kernel
theorem tyX1_ok : ∀ k, k < 4 → parseFieldDescriptor (TX1 k).2.2.1 = some (tyX1 k) := by decide +kernel
def RX2 : String := "ClockWires$Part"
def TX2 : u_T := fun k => match k with
  | 0 => ("ClockWires$Part", "u1", "I", false)
  | 1 => ("ClockWires$Part", "u2", "I", false)
  | 2 => ("ClockWires$Part", "v1", "I", false)
  | 3 => ("ClockWires$Part", "v2", "I", false)
  | 4 => ("ClockWires$Part", "early", "I", false)
  | 5 => ("ClockWires$Part", "late", "I", false)
  | 6 => ("ClockWires$Part", "wire", "I", false)
  | 7 => ("ClockWires$Part", "cost", "I", false)
  | 8 => ("ClockWires$Part", "sinks", "I", false)
  | _ => ("ClockWires$Part", "loads", "I", false)
def tyX2 : Nat → FieldType := fun k => match k with
  | 0 => .int
  | 1 => .int
  | 2 => .int
  | 3 => .int
  | 4 => .int
  | 5 => .int
  | 6 => .int
  | 7 => .int
  | 8 => .int
  | _ => .int
abbrev wsX20 : List Cond := u_ws RX2 TX2 10
theorem nmX2 : ∀ a, a < 10 → ∀ b, b < 10 → a ≠ b → (TX2 a).2.1 ≠ (TX2 b).2.1 := by decide +kernel
theorem tyX2_ok : ∀ k, k < 10 → parseFieldDescriptor (TX2 k).2.2.1 = some (tyX2 k) := by decide +kernel
def RX3 : String := "ClockWires$Places"
def TX3 : u_T := fun k => match k with
  | 0 => ("ClockWires$Places", "u", "[I", true)
  | 1 => ("ClockWires$Places", "v", "[I", true)
  | 2 => ("ClockWires$Places", "loop", "[I", true)
  | 3 => ("ClockWires$Places", "path", "[I", true)
  | 4 => ("ClockWires$Places", "delay", "[J", true)
  | 5 => ("ClockWires$Places", "whole", "Z", false)
  | 6 => ("ClockWires$Places", "trunk", "I", false)
  | 7 => ("ClockWires$Places", "loopSum", "I", false)
  | 8 => ("ClockWires$Places", "loopCount", "I", false)
  | _ => ("ClockWires$Places", "spread", "I", false)
def tyX3 : Nat → FieldType := fun k => match k with
  | 0 => .array .int
  | 1 => .array .int
  | 2 => .array .int
  | 3 => .array .int
  | 4 => .array .long
  | 5 => .boolean
  | 6 => .int
  | 7 => .int
  | 8 => .int
  | _ => .int
abbrev wsX30 : List Cond := u_ws RX3 TX3 10
theorem nmX3 : ∀ a, a < 10 → ∀ b, b < 10 → a ≠ b → (TX3 a).2.1 ≠ (TX3 b).2.1 := by decide +kernel
theorem tyX3_ok : ∀ k, k < 10 → parseFieldDescriptor (TX3 k).2.2.1 = some (tyX3 k) := by decide +kernel
def RX4 : String := "ClockWires$Search"
def TX4 : u_T := fun k => match k with
  | 0 => ("ClockWires$Search", "trial", "LClockWires$Tree;", true)
  | 1 => ("ClockWires$Search", "wires", "LClockWires$Wires;", true)
  | 2 => ("ClockWires$Search", "leastKnown", "Z", false)
  | 3 => ("ClockWires$Search", "leastCost", "I", false)
  | _ => ("ClockWires$Search", "leastTrees", "I", false)
def tyX4 : Nat → FieldType := fun k => match k with
  | 0 => .object "ClockWires$Tree"
  | 1 => .object "ClockWires$Wires"
  | 2 => .boolean
  | 3 => .int
  | _ => .int
abbrev wsX40 : List Cond := u_ws RX4 TX4 5
theorem nmX4 : ∀ a, a < 5 → ∀ b, b < 5 → a ≠ b → (TX4 a).2.1 ≠ (TX4 b).2.1 := by decide +kernel
theorem tyX4_ok : ∀ k, k < 5 → parseFieldDescriptor (TX4 k).2.2.1 = some (tyX4 k) := by decide +kernel
def RX5 : String := "ClockWires$Text"
def TX5 : u_T := fun k => match k with
  | 0 => ("ClockWires$Text", "bytes", "[I", true)
  | 1 => ("ClockWires$Text", "first", "[I", true)
  | 2 => ("ClockWires$Text", "second", "[I", true)
  | 3 => ("ClockWires$Text", "jointLeft", "[I", true)
  | 4 => ("ClockWires$Text", "jointRight", "[I", true)
  | 5 => ("ClockWires$Text", "length", "I", false)
  | 6 => ("ClockWires$Text", "jointCount", "I", false)
  | 7 => ("ClockWires$Text", "depth", "I", false)
  | _ => ("ClockWires$Text", "usedSinks", "I", false)
def tyX5 : Nat → FieldType := fun k => match k with
  | 0 => .array .int
  | 1 => .array .int
  | 2 => .array .int
  | 3 => .array .int
  | 4 => .array .int
  | 5 => .int
  | 6 => .int
  | 7 => .int
  | _ => .int
abbrev wsX50 : List Cond := u_ws RX5 TX5 9
theorem nmX5 : ∀ a, a < 9 → ∀ b, b < 9 → a ≠ b → (TX5 a).2.1 ≠ (TX5 b).2.1 := by decide +kernel
theorem tyX5_ok : ∀ k, k < 9 → parseFieldDescriptor (TX5 k).2.2.1 = some (tyX5 k) := by decide +kernel
def RX6 : String := "ClockWires$Tree"
def TX6 : u_T := fun k => match k with
  | 0 => ("ClockWires$Tree", "x", "[I", true)
  | 1 => ("ClockWires$Tree", "y", "[I", true)
  | 2 => ("ClockWires$Tree", "offset", "[I", true)
  | 3 => ("ClockWires$Tree", "load", "[I", true)
  | 4 => ("ClockWires$Tree", "lastTouched", "[I", true)
  | 5 => ("ClockWires$Tree", "left", "[I", true)
  | 6 => ("ClockWires$Tree", "right", "[I", true)
  | 7 => ("ClockWires$Tree", "parent", "[I", true)
  | 8 => ("ClockWires$Tree", "sinkCount", "I", false)
  | 9 => ("ClockWires$Tree", "skewLimit", "I", false)
  | 10 => ("ClockWires$Tree", "sourceX", "I", false)
  | _ => ("ClockWires$Tree", "sourceY", "I", false)
def tyX6 : Nat → FieldType := fun k => match k with
  | 0 => .array .int
  | 1 => .array .int
  | 2 => .array .int
  | 3 => .array .int
  | 4 => .array .int
  | 5 => .array .int
  | 6 => .array .int
  | 7 => .array .int
  | 8 => .int
  | 9 => .int
  | 10 => .int
  | _ => .int
abbrev wsX60 : List Cond := u_ws RX6 TX6 12
theorem nmX6 : ∀ a, a < 12 → ∀ b, b < 12 → a ≠ b → (TX6 a).2.1 ≠ (TX6 b).2.1 := by decide +kernel
theorem tyX6_ok : ∀ k, k < 12 → parseFieldDescriptor (TX6 k).2.2.1 = some (tyX6 k) := by decide +kernel
def RX7 : String := "ClockWires$Wires"
def TX7 : u_T := fun k => match k with
  | 0 => ("ClockWires$Wires", "parts", "[LClockWires$Part;", true)
  | 1 => ("ClockWires$Wires", "nowhere", "LClockWires$Part;", true)
  | 2 => ("ClockWires$Wires", "merge", "LClockWires$Merge;", true)
  | 3 => ("ClockWires$Wires", "downward", "[I", true)
  | 4 => ("ClockWires$Wires", "nodeCount", "I", false)
  | 5 => ("ClockWires$Wires", "topCount", "I", false)
  | _ => ("ClockWires$Wires", "totalCost", "I", false)
def tyX7 : Nat → FieldType := fun k => match k with
  | 0 => .array (.object "ClockWires$Part")
  | 1 => .object "ClockWires$Part"
  | 2 => .object "ClockWires$Merge"
  | 3 => .array .int
  | 4 => .int
  | 5 => .int
  | _ => .int
abbrev wsX70 : List Cond := u_ws RX7 TX7 7
theorem nmX7 : ∀ a, a < 7 → ∀ b, b < 7 → a ≠ b → (TX7 a).2.1 ≠ (TX7 b).2.1 := by decide +kernel
theorem tyX7_ok : ∀ k, k < 7 → parseFieldDescriptor (TX7 k).2.2.1 = some (tyX7 k) := by decide +kernel
def RX8 : String := "ClockWires"
def TX8 : u_T := fun k => match k with
  | 0 => ("ClockWires", "tree", "LClockWires$Tree;", true)
  | 1 => ("ClockWires", "wires", "LClockWires$Wires;", true)
  | 2 => ("ClockWires", "places", "LClockWires$Places;", true)
  | 3 => ("ClockWires", "search", "LClockWires$Search;", true)
  | 4 => ("ClockWires", "history", "LClockWires$History;", true)
  | 5 => ("ClockWires", "text", "LClockWires$Text;", true)
  | 6 => ("ClockWires", "badCount", "I", false)
  | 7 => ("ClockWires", "noCount", "I", false)
  | _ => ("ClockWires", "fullCount", "I", false)
def tyX8 : Nat → FieldType := fun k => match k with
  | 0 => .object "ClockWires$Tree"
  | 1 => .object "ClockWires$Wires"
  | 2 => .object "ClockWires$Places"
  | 3 => .object "ClockWires$Search"
  | 4 => .object "ClockWires$History"
  | 5 => .object "ClockWires$Text"
  | 6 => .int
  | 7 => .int
  | _ => .int
abbrev wsX80 : List Cond := u_ws RX8 TX8 9
theorem nmX8 : ∀ a, a < 9 → ∀ b, b < 9 → a ≠ b → (TX8 a).2.1 ≠ (TX8 b).2.1 := by decide +kernel
theorem tyX8_ok : ∀ k, k < 9 → parseFieldDescriptor (TX8 k).2.2.1 = some (tyX8 k) := by decide +kernel
def RX9 : String := "ClockWiresModel"
def TX9 : u_T := fun k => match k with
  | 0 => ("ClockWiresModel", "refused", "[I", true)
  | 1 => ("ClockWiresModel", "sinks", "I", false)
  | 2 => ("ClockWiresModel", "ends", "[I", true)
  | 3 => ("ClockWiresModel", "skew", "I", false)
  | 4 => ("ClockWiresModel", "sourceX", "I", false)
  | 5 => ("ClockWiresModel", "sourceY", "I", false)
  | 6 => ("ClockWiresModel", "latest", "I", false)
  | 7 => ("ClockWiresModel", "late", "[I", true)
  | 8 => ("ClockWiresModel", "isThere", "[I", true)
  | 9 => ("ClockWiresModel", "left", "[I", true)
  | 10 => ("ClockWiresModel", "right", "[I", true)
  | 11 => ("ClockWiresModel", "joint", "[I", true)
  | 12 => ("ClockWiresModel", "aside", "[I", true)
  | 13 => ("ClockWiresModel", "states", "I", false)
  | 14 => ("ClockWiresModel", "kept", "[I", true)
  | 15 => ("ClockWiresModel", "u1", "[I", true)
  | 16 => ("ClockWiresModel", "u2", "[I", true)
  | 17 => ("ClockWiresModel", "v1", "[I", true)
  | 18 => ("ClockWiresModel", "v2", "[I", true)
  | 19 => ("ClockWiresModel", "early", "[I", true)
  | 20 => ("ClockWiresModel", "last", "[I", true)
  | 21 => ("ClockWiresModel", "wire", "[I", true)
  | 22 => ("ClockWiresModel", "cost", "[I", true)
  | 23 => ("ClockWiresModel", "many", "[I", true)
  | 24 => ("ClockWiresModel", "isDone", "[I", true)
  | 25 => ("ClockWiresModel", "far", "I", false)
  | 26 => ("ClockWiresModel", "reach", "I", false)
  | 27 => ("ClockWiresModel", "first", "I", false)
  | 28 => ("ClockWiresModel", "second", "I", false)
  | 29 => ("ClockWiresModel", "placeU", "[I", true)
  | 30 => ("ClockWiresModel", "placeV", "[I", true)
  | 31 => ("ClockWiresModel", "isPlaced", "[I", true)
  | 32 => ("ClockWiresModel", "top", "I", false)
  | 33 => ("ClockWiresModel", "pair", "I", false)
  | 34 => ("ClockWiresModel", "row", "[I", true)
  | 35 => ("ClockWiresModel", "text", "[I", true)
  | 36 => ("ClockWiresModel", "length", "I", false)
  | 37 => ("ClockWiresModel", "readAt", "I", false)
  | 38 => ("ClockWiresModel", "open", "[I", true)
  | 39 => ("ClockWiresModel", "deep", "I", false)
  | 40 => ("ClockWiresModel", "faultAt", "I", false)
  | 41 => ("ClockWiresModel", "toldOf", "[I", true)
  | 42 => ("ClockWiresModel", "whole", "I", false)
  | 43 => ("ClockWiresModel", "stage", "[I", true)
  | _ => ("ClockWiresModel", "other", "[I", true)
def tyX9 : Nat → FieldType := fun k => match k with
  | 0 => .array .int
  | 1 => .int
  | 2 => .array .int
  | 3 => .int
  | 4 => .int
  | 5 => .int
  | 6 => .int
  | 7 => .array .int
  | 8 => .array .int
  | 9 => .array .int
  | 10 => .array .int
  | 11 => .array .int
  | 12 => .array .int
  | 13 => .int
  | 14 => .array .int
  | 15 => .array .int
  | 16 => .array .int
  | 17 => .array .int
  | 18 => .array .int
  | 19 => .array .int
  | 20 => .array .int
  | 21 => .array .int
  | 22 => .array .int
  | 23 => .array .int
  | 24 => .array .int
  | 25 => .int
  | 26 => .int
  | 27 => .int
  | 28 => .int
  | 29 => .array .int
  | 30 => .array .int
  | 31 => .array .int
  | 32 => .int
  | 33 => .int
  | 34 => .array .int
  | 35 => .array .int
  | 36 => .int
  | 37 => .int
  | 38 => .array .int
  | 39 => .int
  | 40 => .int
  | 41 => .array .int
  | 42 => .int
  | 43 => .array .int
  | _ => .array .int
abbrev wsX90 : List Cond := u_ws RX9 TX9 45
theorem nmX9 : ∀ a, a < 45 → ∀ b, b < 45 → a ≠ b → (TX9 a).2.1 ≠ (TX9 b).2.1 := by decide +kernel
theorem tyX9_ok : ∀ k, k < 45 → parseFieldDescriptor (TX9 k).2.2.1 = some (tyX9 k) := by decide +kernel
def cw_t : List Cond := lw_tbl.filter goodWord
theorem cw_t_in {w : Cond} (h : w ∈ lw_tbl) (g : goodWord w = true) : w ∈ cw_t := List.mem_filter.mpr ⟨h, g⟩
theorem cw_t_good : ∀ w ∈ cw_t, (w.onTables && w.keeps) = true ∨ ∃ ty, w = .arrayClass ty := fun w h => good_of_word (List.mem_filter.mp h).2
theorem iX0 : ∀ w ∈ wsX00, w ∈ cw_t := fun w hw => cw_t_in (goodIn_r wsX00 [367, 369, 371] (by decide +kernel) (by decide +kernel) w hw).1 (List.all_eq_true.mp (by decide +kernel : wsX00.all goodWord = true) w hw)
theorem iX1 : ∀ w ∈ wsX10, w ∈ cw_t := fun w hw => cw_t_in (goodIn_r wsX10 [240, 242, 244, 246] (by decide +kernel) (by decide +kernel) w hw).1 (List.all_eq_true.mp (by decide +kernel : wsX10.all goodWord = true) w hw)
theorem iX2 : ∀ w ∈ wsX20, w ∈ cw_t := fun w hw => cw_t_in (goodIn_r wsX20 [204, 206, 208, 210, 212, 214, 216, 218, 220, 222] (by decide +kernel) (by decide +kernel) w hw).1 (List.all_eq_true.mp (by decide +kernel : wsX20.all goodWord = true) w hw)
theorem iX3 : ∀ w ∈ wsX30, w ∈ cw_t := fun w hw => cw_t_in (goodIn_r wsX30 [303, 305, 307, 309, 311, 313, 315, 317, 319, 321] (by decide +kernel) (by decide +kernel) w hw).1 (List.all_eq_true.mp (by decide +kernel : wsX30.all goodWord = true) w hw)
theorem iX4 : ∀ w ∈ wsX40, w ∈ cw_t := fun w hw => cw_t_in (goodIn_r wsX40 [343, 345, 347, 349, 351] (by decide +kernel) (by decide +kernel) w hw).1 (List.all_eq_true.mp (by decide +kernel : wsX40.all goodWord = true) w hw)
theorem iX5 : ∀ w ∈ wsX50, w ∈ cw_t := fun w hw => cw_t_in (goodIn_r wsX50 [393, 395, 397, 399, 401, 403, 405, 407, 409] (by decide +kernel) (by decide +kernel) w hw).1 (List.all_eq_true.mp (by decide +kernel : wsX50.all goodWord = true) w hw)
theorem iX6 : ∀ w ∈ wsX60, w ∈ cw_t := fun w hw => cw_t_in (goodIn_r wsX60 [130, 132, 134, 136, 138, 140, 142, 144, 146, 148, 150, 152] (by decide +kernel) (by decide +kernel) w hw).1 (List.all_eq_true.mp (by decide +kernel : wsX60.all goodWord = true) w hw)
theorem iX7 : ∀ w ∈ wsX70, w ∈ cw_t := fun w hw => cw_t_in (goodIn_r wsX70 [263, 265, 267, 269, 271, 273, 275] (by decide +kernel) (by decide +kernel) w hw).1 (List.all_eq_true.mp (by decide +kernel : wsX70.all goodWord = true) w hw)
theorem iX8 : ∀ w ∈ wsX80, w ∈ cw_t := fun w hw => cw_t_in (goodIn_r wsX80 [544, 546, 548, 550, 552, 554, 556, 558, 560] (by decide +kernel) (by decide +kernel) w hw).1 (List.all_eq_true.mp (by decide +kernel : wsX80.all goodWord = true) w hw)
theorem iX9 : ∀ w ∈ wsX90, w ∈ cw_t := fun w hw => cw_t_in (goodIn_r wsX90 [940, 942, 944, 946, 948, 950, 952, 954, 956, 958, 960, 962, 964, 966, 968, 970, 972, 974, 976, 978, 980, 982, 984, 986, 988, 990, 992, 994, 996, 998, 1000, 1002, 1004, 1006, 1008, 1010, 1012, 1014, 1016, 1018, 1020, 1022, 1024, 1026, 1028] (by decide +kernel) (by decide +kernel) w hw).1 (List.all_eq_true.mp (by decide +kernel : wsX90.all goodWord = true) w hw)
def cw_cl : List vw_C := [(RX0, TX0, 3), (RX1, TX1, 4), (RX2, TX2, 10), (RX3, TX3, 10), (RX4, TX4, 5), (RX5, TX5, 9), (RX6, TX6, 12), (RX7, TX7, 7), (RX8, TX8, 9), (RX9, TX9, 45)]
abbrev cw_MT : Type := MethodName × ByteArray × Nat × Option FieldType × Nat
def cw_ml : List cw_MT := [
  (⟨RX0, "<init>", "()V"⟩, prog_2_method_1_code, 2, none, 0),
  (⟨RX0, "save", "(LClockWires$Tree;)V"⟩, prog_2_method_2_code, 2, none, 1),
  (⟨RX0, "restore", "(LClockWires$Tree;)V"⟩, prog_2_method_3_code, 2, none, 1),
  (⟨RX1, "<init>", "()V"⟩, prog_3_method_1_code, 1, none, 0),
  (⟨RX1, "weigh", "(LClockWires$Part;LClockWires$Part;I)V"⟩, prog_3_method_2_code, 5, none, 3),
  (⟨RX1, "gapBetween", "(LClockWires$Part;LClockWires$Part;)I"⟩, prog_3_method_3_code, 5, (some .int), 2),
  (⟨RX1, "leadOf", "(LClockWires$Part;LClockWires$Part;I)I"⟩, prog_3_method_4_code, 5, (some .int), 3),
  (⟨RX1, "join", "(LClockWires$Part;LClockWires$Part;LClockWires$Part;)V"⟩, prog_3_method_5_code, 4, none, 3),
  (⟨RX2, "<init>", "()V"⟩, prog_4_method_1_code, 1, none, 0),
  (⟨RX2, "setSink", "(LClockWires$Tree;I)V"⟩, prog_4_method_2_code, 3, none, 2),
  (⟨RX2, "capacity", "()J"⟩, prog_4_method_3_code, 1, (some .long), 0),
  (⟨RX3, "<init>", "()V"⟩, prog_5_method_1_code, 1, none, 0),
  (⟨RX3, "embed", "(LClockWires$Tree;LClockWires$Wires;)V"⟩, prog_5_method_2_code, 5, none, 2),
  (⟨RX3, "setTop", "(LClockWires$Tree;LClockWires$Wires;I)V"⟩, prog_5_method_3_code, 7, none, 3),
  (⟨RX3, "setChild", "(LClockWires$Part;II)V"⟩, prog_5_method_4_code, 4, none, 3),
  (⟨RX3, "setSpread", "(LClockWires$Tree;)V"⟩, prog_5_method_5_code, 5, none, 1),
  (⟨RX3, "arrivalOf", "(LClockWires$Tree;I)I"⟩, prog_5_method_6_code, 3, (some .int), 2),
  (⟨RX3, "delayOf", "(ILClockWires$Part;)J"⟩, prog_5_method_7_code, 2, (some .long), 2),
  (⟨RX3, "movedInto", "(III)I"⟩, prog_5_method_8_code, 3, (some .int), 3),
  (⟨RX4, "<init>", "()V"⟩, prog_6_method_1_code, 1, none, 0),
  (⟨RX4, "bestGraft", "(LClockWires$Tree;I)I"⟩, prog_6_method_2_code, 6, (some .int), 2),
  (⟨RX4, "bestExchange", "(LClockWires$Tree;I)I"⟩, prog_6_method_3_code, 7, (some .int), 2),
  (⟨RX4, "findLeast", "(LClockWires$Tree;)V"⟩, prog_6_method_4_code, 2, none, 1),
  (⟨RX4, "growTrees", "(I)V"⟩, prog_6_method_5_code, 3, none, 1),
  (⟨RX4, "countTree", "(I)V"⟩, prog_6_method_6_code, 2, none, 1),
  (⟨RX5, "<init>", "()V"⟩, prog_7_method_1_code, 1, none, 0),
  (⟨RX5, "append", "(I)V"⟩, prog_7_method_2_code, 2, none, 1),
  (⟨RX5, "parse", "(I)I"⟩, prog_7_method_3_code, 3, (some .int), 1),
  (⟨RX5, "accepts", "(II)Z"⟩, prog_7_method_4_code, 3, (some .boolean), 2),
  (⟨RX5, "opens", "()Z"⟩, prog_7_method_5_code, 1, (some .boolean), 0),
  (⟨RX5, "closes", "()Z"⟩, prog_7_method_6_code, 1, (some .boolean), 0),
  (⟨RX5, "takesSink", "(II)Z"⟩, prog_7_method_7_code, 3, (some .boolean), 2),
  (⟨RX5, "wantsPart", "()Z"⟩, prog_7_method_8_code, 1, (some .boolean), 0),
  (⟨RX5, "addPart", "(I)V"⟩, prog_7_method_9_code, 2, none, 1),
  (⟨RX6, "<init>", "()V"⟩, prog_8_method_1_code, 1, none, 0),
  (⟨RX6, "copyFrom", "(LClockWires$Tree;)V"⟩, prog_8_method_2_code, 2, none, 1),
  (⟨RX6, "hasSink", "(I)Z"⟩, prog_8_method_3_code, 2, (some .boolean), 1),
  (⟨RX6, "hasNode", "(I)Z"⟩, prog_8_method_4_code, 2, (some .boolean), 1),
  (⟨RX6, "isJoint", "(I)Z"⟩, prog_8_method_5_code, 2, (some .boolean), 1),
  (⟨RX6, "isTop", "(I)Z"⟩, prog_8_method_6_code, 2, (some .boolean), 1),
  (⟨RX6, "leftOf", "(I)I"⟩, prog_8_method_7_code, 2, (some .int), 1),
  (⟨RX6, "rightOf", "(I)I"⟩, prog_8_method_8_code, 2, (some .int), 1),
  (⟨RX6, "parentOf", "(I)I"⟩, prog_8_method_9_code, 2, (some .int), 1),
  (⟨RX6, "jointCount", "()I"⟩, prog_8_method_10_code, 3, (some .int), 0),
  (⟨RX6, "sinkAt", "(II)I"⟩, prog_8_method_11_code, 4, (some .int), 2),
  (⟨RX6, "sinkValue", "(II)I"⟩, prog_8_method_12_code, 3, (some .int), 2),
  (⟨RX6, "addSink", "(II)I"⟩, prog_8_method_13_code, 4, (some .int), 2),
  (⟨RX6, "moveSink", "(III)V"⟩, prog_8_method_14_code, 4, none, 3),
  (⟨RX6, "touch", "(I)V"⟩, prog_8_method_15_code, 4, none, 1),
  (⟨RX6, "touchedBefore", "(I)I"⟩, prog_8_method_16_code, 2, (some .int), 1),
  (⟨RX6, "removeJoints", "()V"⟩, prog_8_method_17_code, 2, none, 0),
  (⟨RX6, "freeJoint", "()I"⟩, prog_8_method_18_code, 2, (some .int), 0),
  (⟨RX6, "addJoint", "(II)I"⟩, prog_8_method_19_code, 4, (some .int), 2),
  (⟨RX6, "replaceChild", "(III)V"⟩, prog_8_method_20_code, 4, none, 3),
  (⟨RX6, "isWithin", "(II)Z"⟩, prog_8_method_21_code, 5, (some .boolean), 2),
  (⟨RX6, "canGraft", "(II)Z"⟩, prog_8_method_22_code, 3, (some .boolean), 2),
  (⟨RX6, "graft", "(II)I"⟩, prog_8_method_23_code, 5, (some .int), 2),
  (⟨RX6, "cut", "(I)I"⟩, prog_8_method_24_code, 4, (some .int), 1),
  (⟨RX6, "canExchange", "(II)Z"⟩, prog_8_method_25_code, 5, (some .boolean), 2),
  (⟨RX6, "exchange", "(II)V"⟩, prog_8_method_26_code, 5, none, 2),
  (⟨RX7, "<init>", "()V"⟩, prog_9_method_1_code, 2, none, 0),
  (⟨RX7, "part", "(I)LClockWires$Part;"⟩, prog_9_method_2_code, 2, (some (.object "ClockWires$Part")), 1),
  (⟨RX7, "measure", "(LClockWires$Tree;)V"⟩, prog_9_method_3_code, 7, none, 1),
  (⟨RX7, "listDownward", "(LClockWires$Tree;)V"⟩, prog_9_method_4_code, 4, none, 1),
  (⟨RX7, "list", "(I)V"⟩, prog_9_method_5_code, 2, none, 1),
  (⟨RX7, "nearestPair", "(LClockWires$Tree;)I"⟩, prog_9_method_6_code, 7, (some .int), 1),
  (⟨RX8, "<init>", "()V"⟩, prog_1_method_1_code, 1, none, 0),
  (⟨RX8, "sink", "(II)I"⟩, prog_1_method_2_code, 4, (some .int), 2),
  (⟨RX8, "moves", "(III)I"⟩, prog_1_method_3_code, 6, (some .int), 3),
  (⟨RX8, "sets", "(III)I"⟩, prog_1_method_4_code, 5, (some .int), 3),
  (⟨RX8, "skew", "(I)I"⟩, prog_1_method_5_code, 3, (some .int), 1),
  (⟨RX8, "source", "(II)I"⟩, prog_1_method_6_code, 4, (some .int), 2),
  (⟨RX8, "end", "(II)I"⟩, prog_1_method_7_code, 3, (some .int), 2),
  (⟨RX8, "touched", "(I)I"⟩, prog_1_method_8_code, 2, (some .int), 1),
  (⟨RX8, "at", "(II)I"⟩, prog_1_method_9_code, 3, (some .int), 2),
  (⟨RX8, "joins", "(II)I"⟩, prog_1_method_10_code, 4, (some .int), 2),
  (⟨RX8, "pairs", "()I"⟩, prog_1_method_11_code, 4, (some .int), 0),
  (⟨RX8, "frees", "()I"⟩, prog_1_method_12_code, 2, (some .int), 0),
  (⟨RX8, "cuts", "(I)I"⟩, prog_1_method_13_code, 3, (some .int), 1),
  (⟨RX8, "grafts", "(II)I"⟩, prog_1_method_14_code, 5, (some .int), 2),
  (⟨RX8, "exchanges", "(II)I"⟩, prog_1_method_15_code, 3, (some .int), 2),
  (⟨RX8, "betters", "()I"⟩, prog_1_method_16_code, 2, (some .int), 0),
  (⟨RX8, "node", "(II)I"⟩, prog_1_method_17_code, 3, (some .int), 2),
  (⟨RX8, "would", "(III)I"⟩, prog_1_method_18_code, 5, (some .int), 3),
  (⟨RX8, "nearest", "()I"⟩, prog_1_method_19_code, 1, (some .int), 0),
  (⟨RX8, "tops", "()I"⟩, prog_1_method_20_code, 1, (some .int), 0),
  (⟨RX8, "least", "(I)I"⟩, prog_1_method_21_code, 2, (some .int), 1),
  (⟨RX8, "place", "(II)I"⟩, prog_1_method_22_code, 3, (some .int), 2),
  (⟨RX8, "arrival", "(I)I"⟩, prog_1_method_23_code, 2, (some .int), 1),
  (⟨RX8, "slow", "(I)J"⟩, prog_1_method_24_code, 2, (some .long), 1),
  (⟨RX8, "total", "(I)I"⟩, prog_1_method_25_code, 2, (some .int), 1),
  (⟨RX8, "type", "(I)I"⟩, prog_1_method_26_code, 2, (some .int), 1),
  (⟨RX8, "clear", "()I"⟩, prog_1_method_27_code, 2, (some .int), 0),
  (⟨RX8, "builds", "()I"⟩, prog_1_method_28_code, 3, (some .int), 0),
  (⟨RX8, "shown", "(II)I"⟩, prog_1_method_29_code, 3, (some .int), 2),
  (⟨RX8, "back", "()I"⟩, prog_1_method_30_code, 1, (some .int), 0),
  (⟨RX8, "told", "(I)I"⟩, prog_1_method_31_code, 2, (some .int), 1),
  (⟨RX8, "digest", "()J"⟩, prog_1_method_32_code, 5, (some .long), 0),
  (⟨RX8, "refuse", "(I)I"⟩, prog_1_method_33_code, 2, (some .int), 1),
  (⟨RX8, "refresh", "()V"⟩, prog_1_method_34_code, 1, none, 0),
  (⟨RX8, "exchangeAndCompare", "(II)I"⟩, prog_1_method_35_code, 4, (some .int), 2),
  (⟨RX8, "nodeValue", "(II)I"⟩, prog_1_method_36_code, 4, (some .int), 2),
  (⟨RX8, "totalValue", "(I)I"⟩, prog_1_method_37_code, 2, (some .int), 1),
  (⟨RX8, "toldValue", "(I)I"⟩, prog_1_method_38_code, 2, (some .int), 1),
  (⟨RX8, "shownByte", "(II)I"⟩, prog_1_method_39_code, 8, (some .int), 2),
  (⟨RX8, "shownLength", "(I)I"⟩, prog_1_method_40_code, 2, (some .int), 1),
  (⟨RX8, "isOnGrid", "(II)Z"⟩, prog_1_method_41_code, 2, (some .boolean), 2),
  (⟨RX8, "isSetting", "(II)Z"⟩, prog_1_method_42_code, 2, (some .boolean), 2),
  (⟨RX8, "gridDistance", "(IIII)I"⟩, prog_1_method_43_code, 4, (some .int), 4),
  (⟨RX8, "distance", "(IIII)I"⟩, prog_1_method_44_code, 4, (some .int), 4),
  (⟨RX9, "<init>", "()V"⟩, prog_11_method_1_code, 1, none, 0),
  (⟨RX9, "bad", "()I"⟩, prog_11_method_2_code, 1, (some .int), 0),
  (⟨RX9, "no", "()I"⟩, prog_11_method_3_code, 1, (some .int), 0),
  (⟨RX9, "full", "()I"⟩, prog_11_method_4_code, 1, (some .int), 0),
  (⟨RX9, "in", "(III)Z"⟩, prog_11_method_5_code, 3, (some .boolean), 3),
  (⟨RX9, "greater", "(II)I"⟩, prog_11_method_6_code, 2, (some .int), 2),
  (⟨RX9, "lesser", "(II)I"⟩, prog_11_method_7_code, 2, (some .int), 2),
  (⟨RX9, "size", "(I)I"⟩, prog_11_method_8_code, 1, (some .int), 1),
  (⟨RX9, "isSink", "(I)Z"⟩, prog_11_method_9_code, 2, (some .boolean), 1),
  (⟨RX9, "isNode", "(I)Z"⟩, prog_11_method_10_code, 2, (some .boolean), 1),
  (⟨RX9, "isSpot", "(II)Z"⟩, prog_11_method_11_code, 2, (some .boolean), 2),
  (⟨RX9, "isTop", "(I)Z"⟩, prog_11_method_12_code, 2, (some .boolean), 1),
  (⟨RX9, "topMany", "()I"⟩, prog_11_method_13_code, 3, (some .int), 0),
  (⟨RX9, "isWithin", "(II)Z"⟩, prog_11_method_14_code, 4, (some .boolean), 2),
  (⟨RX9, "replaces", "(II)V"⟩, prog_11_method_15_code, 4, none, 2),
  (⟨RX9, "comes", "()I"⟩, prog_11_method_16_code, 2, (some .int), 0),
  (⟨RX9, "lays", "(II)I"⟩, prog_11_method_17_code, 4, (some .int), 2),
  (⟨RX9, "goes", "(I)V"⟩, prog_11_method_18_code, 2, none, 1),
  (⟨RX9, "takesOff", "(I)I"⟩, prog_11_method_19_code, 4, (some .int), 1),
  (⟨RX9, "canExchange", "(II)Z"⟩, prog_11_method_20_code, 3, (some .boolean), 2),
  (⟨RX9, "swaps", "(II)V"⟩, prog_11_method_21_code, 7, none, 2),
  (⟨RX9, "noJoints", "()I"⟩, prog_11_method_22_code, 3, (some .int), 0),
  (⟨RX9, "laysAside", "()V"⟩, prog_11_method_23_code, 2, none, 0),
  (⟨RX9, "takesBack", "()V"⟩, prog_11_method_24_code, 2, none, 0),
  (⟨RX9, "leavesState", "()V"⟩, prog_11_method_25_code, 3, none, 0),
  (⟨RX9, "back", "()I"⟩, prog_11_method_26_code, 4, (some .int), 0),
  (⟨RX9, "reckons", "(II)V"⟩, prog_11_method_27_code, 10, none, 2),
  (⟨RX9, "tellsSink", "(I)V"⟩, prog_11_method_28_code, 4, none, 1),
  (⟨RX9, "tellsJoint", "(I)V"⟩, prog_11_method_29_code, 4, none, 1),
  (⟨RX9, "tellsAll", "()V"⟩, prog_11_method_30_code, 3, none, 0),
  (⟨RX9, "costOfAll", "()I"⟩, prog_11_method_31_code, 3, (some .int), 0),
  (⟨RX9, "into", "(III)I"⟩, prog_11_method_32_code, 3, (some .int), 3),
  (⟨RX9, "settles", "(III)V"⟩, prog_11_method_33_code, 4, none, 3),
  (⟨RX9, "areLaid", "()Z"⟩, prog_11_method_34_code, 3, (some .boolean), 0),
  (⟨RX9, "trunk", "()I"⟩, prog_11_method_35_code, 3, (some .int), 0),
  (⟨RX9, "loop", "(I)I"⟩, prog_11_method_36_code, 5, (some .int), 1),
  (⟨RX9, "arrives", "(I)I"⟩, prog_11_method_37_code, 4, (some .int), 1),
  (⟨RX9, "isAt", "(II)I"⟩, prog_11_method_38_code, 4, (some .int), 2),
  (⟨RX9, "touches", "(I)V"⟩, prog_11_method_39_code, 4, none, 1),
  (⟨RX9, "apart", "(IIII)I"⟩, prog_11_method_40_code, 4, (some .int), 4),
  (⟨RX9, "sink", "(II)I"⟩, prog_11_method_41_code, 4, (some .int), 2),
  (⟨RX9, "moves", "(III)I"⟩, prog_11_method_42_code, 6, (some .int), 3),
  (⟨RX9, "sets", "(III)I"⟩, prog_11_method_43_code, 5, (some .int), 3),
  (⟨RX9, "skew", "(I)I"⟩, prog_11_method_44_code, 3, (some .int), 1),
  (⟨RX9, "source", "(II)I"⟩, prog_11_method_45_code, 4, (some .int), 2),
  (⟨RX9, "end", "(II)I"⟩, prog_11_method_46_code, 3, (some .int), 2),
  (⟨RX9, "touched", "(I)I"⟩, prog_11_method_47_code, 2, (some .int), 1),
  (⟨RX9, "at", "(II)I"⟩, prog_11_method_48_code, 3, (some .int), 2),
  (⟨RX9, "joins", "(II)I"⟩, prog_11_method_49_code, 3, (some .int), 2),
  (⟨RX9, "findsPair", "()I"⟩, prog_11_method_50_code, 4, (some .int), 0),
  (⟨RX9, "pairs", "()I"⟩, prog_11_method_51_code, 4, (some .int), 0),
  (⟨RX9, "frees", "()I"⟩, prog_11_method_52_code, 1, (some .int), 0),
  (⟨RX9, "cuts", "(I)I"⟩, prog_11_method_53_code, 2, (some .int), 1),
  (⟨RX9, "bestFor", "(I)I"⟩, prog_11_method_54_code, 7, (some .int), 1),
  (⟨RX9, "grafts", "(II)I"⟩, prog_11_method_55_code, 4, (some .int), 2),
  (⟨RX9, "exchanges", "(II)I"⟩, prog_11_method_56_code, 4, (some .int), 2),
  (⟨RX9, "betters", "()I"⟩, prog_11_method_57_code, 8, (some .int), 0),
  (⟨RX9, "about", "(II)I"⟩, prog_11_method_58_code, 3, (some .int), 2),
  (⟨RX9, "node", "(II)I"⟩, prog_11_method_59_code, 3, (some .int), 2),
  (⟨RX9, "would", "(III)I"⟩, prog_11_method_60_code, 4, (some .int), 3),
  (⟨RX9, "nearest", "()I"⟩, prog_11_method_61_code, 1, (some .int), 0),
  (⟨RX9, "tops", "()I"⟩, prog_11_method_62_code, 1, (some .int), 0),
  (⟨RX9, "growsBy", "(I)V"⟩, prog_11_method_63_code, 8, none, 1),
  (⟨RX9, "least", "(I)I"⟩, prog_11_method_64_code, 7, (some .int), 1),
  (⟨RX9, "place", "(II)I"⟩, prog_11_method_65_code, 3, (some .int), 2),
  (⟨RX9, "arrival", "(I)I"⟩, prog_11_method_66_code, 2, (some .int), 1),
  (⟨RX9, "below", "(I)J"⟩, prog_11_method_67_code, 5, (some .long), 1),
  (⟨RX9, "slow", "(I)J"⟩, prog_11_method_68_code, 7, (some .long), 1),
  (⟨RX9, "loops", "(Z)I"⟩, prog_11_method_69_code, 5, (some .int), 1),
  (⟨RX9, "spread", "()I"⟩, prog_11_method_70_code, 4, (some .int), 0),
  (⟨RX9, "totalBy", "(I)I"⟩, prog_11_method_71_code, 2, (some .int), 1),
  (⟨RX9, "total", "(I)I"⟩, prog_11_method_72_code, 2, (some .int), 1),
  (⟨RX9, "type", "(I)I"⟩, prog_11_method_73_code, 2, (some .int), 1),
  (⟨RX9, "clear", "()I"⟩, prog_11_method_74_code, 2, (some .int), 0),
  (⟨RX9, "here", "()I"⟩, prog_11_method_75_code, 1, (some .int), 0),
  (⟨RX9, "tells", "(I)V"⟩, prog_11_method_76_code, 2, none, 1),
  (⟨RX9, "reads", "(Z)Z"⟩, prog_11_method_77_code, 6, (some .boolean), 1),
  (⟨RX9, "readsAll", "(Z)Z"⟩, prog_11_method_78_code, 3, (some .boolean), 1),
  (⟨RX9, "builds", "()I"⟩, prog_11_method_79_code, 4, (some .int), 0),
  (⟨RX9, "byteOf", "(II)I"⟩, prog_11_method_80_code, 8, (some .int), 2),
  (⟨RX9, "shown", "(II)I"⟩, prog_11_method_81_code, 3, (some .int), 2),
  (⟨RX9, "toldBy", "(I)I"⟩, prog_11_method_82_code, 2, (some .int), 1),
  (⟨RX9, "jointMany", "()I"⟩, prog_11_method_83_code, 3, (some .int), 0),
  (⟨RX9, "told", "(I)I"⟩, prog_11_method_84_code, 2, (some .int), 1),
  (⟨RX9, "digest", "()J"⟩, prog_11_method_85_code, 5, (some .long), 0)]
def cw_md : cw_MT := (⟨"", "", ""⟩, ByteArray.empty, 0, none, 0)
def cw_m (M : Nat) : cw_MT := cw_ml.getD M cw_md
def cw_y (M : Nat) : MethodName := (cw_m M).1
def cw_b (M : Nat) : ByteArray := (cw_m M).2.1
def cw_mx (M : Nat) : Nat := (cw_m M).2.2.1
def cw_rt (M : Nat) : Option FieldType := (cw_m M).2.2.2.1
def cw_np (M : Nat) : Nat := (cw_m M).2.2.2.2
theorem cw_m_mem {M : Nat} (h : M < 195) : cw_m M ∈ cw_ml := by
  unfold cw_m
  have h2 : M < cw_ml.length := h
  rw [List.getD_eq_getElem?_getD, List.getElem?_eq_getElem h2]
  exact List.getElem_mem h2
set_option maxRecDepth 20000 in
theorem cw_cd0 : Cond.code ⟨RX0, "<init>", "()V"⟩ prog_2_method_1_code 2 none ∈ cw_t := cw_t_in (List.mem_of_getElem? (i := 358) rfl) rfl
set_option maxRecDepth 20000 in
theorem cw_cd1 : Cond.code ⟨RX0, "save", "(LClockWires$Tree;)V"⟩ prog_2_method_2_code 2 none ∈ cw_t := cw_t_in (List.mem_of_getElem? (i := 581) rfl) rfl
set_option maxRecDepth 20000 in
theorem cw_cd2 : Cond.code ⟨RX0, "restore", "(LClockWires$Tree;)V"⟩ prog_2_method_3_code 2 none ∈ cw_t := cw_t_in (List.mem_of_getElem? (i := 874) rfl) rfl
set_option maxRecDepth 20000 in
theorem cw_cd3 : Cond.code ⟨RX1, "<init>", "()V"⟩ prog_3_method_1_code 1 none ∈ cw_t := cw_t_in (List.mem_of_getElem? (i := 229) rfl) rfl
set_option maxRecDepth 20000 in
theorem cw_cd4 : Cond.code ⟨RX1, "weigh", "(LClockWires$Part;LClockWires$Part;I)V"⟩ prog_3_method_2_code 5 none ∈ cw_t := cw_t_in (List.mem_of_getElem? (i := 459) rfl) rfl
set_option maxRecDepth 20000 in
theorem cw_cd5 : Cond.code ⟨RX1, "gapBetween", "(LClockWires$Part;LClockWires$Part;)I"⟩ prog_3_method_3_code 5 (some .int) ∈ cw_t := cw_t_in (List.mem_of_getElem? (i := 463) rfl) rfl
set_option maxRecDepth 20000 in
theorem cw_cd6 : Cond.code ⟨RX1, "leadOf", "(LClockWires$Part;LClockWires$Part;I)I"⟩ prog_3_method_4_code 5 (some .int) ∈ cw_t := cw_t_in (List.mem_of_getElem? (i := 470) rfl) rfl
set_option maxRecDepth 20000 in
theorem cw_cd7 : Cond.code ⟨RX1, "join", "(LClockWires$Part;LClockWires$Part;LClockWires$Part;)V"⟩ prog_3_method_5_code 4 none ∈ cw_t := cw_t_in (List.mem_of_getElem? (i := 478) rfl) rfl
set_option maxRecDepth 20000 in
theorem cw_cd8 : Cond.code ⟨RX2, "<init>", "()V"⟩ prog_4_method_1_code 1 none ∈ cw_t := cw_t_in (List.mem_of_getElem? (i := 167) rfl) rfl
set_option maxRecDepth 20000 in
theorem cw_cd9 : Cond.code ⟨RX2, "setSink", "(LClockWires$Tree;I)V"⟩ prog_4_method_2_code 3 none ∈ cw_t := cw_t_in (List.mem_of_getElem? (i := 482) rfl) rfl
set_option maxRecDepth 20000 in
theorem cw_cd10 : Cond.code ⟨RX2, "capacity", "()J"⟩ prog_4_method_3_code 1 (some .long) ∈ cw_t := cw_t_in (List.mem_of_getElem? (i := 516) rfl) rfl
set_option maxRecDepth 20000 in
theorem cw_cd11 : Cond.code ⟨RX3, "<init>", "()V"⟩ prog_5_method_1_code 1 none ∈ cw_t := cw_t_in (List.mem_of_getElem? (i := 282) rfl) rfl
set_option maxRecDepth 20000 in
theorem cw_cd12 : Cond.code ⟨RX3, "embed", "(LClockWires$Tree;LClockWires$Wires;)V"⟩ prog_5_method_2_code 5 none ∈ cw_t := cw_t_in (List.mem_of_getElem? (i := 491) rfl) rfl
set_option maxRecDepth 20000 in
theorem cw_cd13 : Cond.code ⟨RX3, "setTop", "(LClockWires$Tree;LClockWires$Wires;I)V"⟩ prog_5_method_3_code 7 none ∈ cw_t := cw_t_in (List.mem_of_getElem? (i := 495) rfl) rfl
set_option maxRecDepth 20000 in
theorem cw_cd14 : Cond.code ⟨RX3, "setChild", "(LClockWires$Part;II)V"⟩ prog_5_method_4_code 4 none ∈ cw_t := cw_t_in (List.mem_of_getElem? (i := 525) rfl) rfl
set_option maxRecDepth 20000 in
theorem cw_cd15 : Cond.code ⟨RX3, "setSpread", "(LClockWires$Tree;)V"⟩ prog_5_method_5_code 5 none ∈ cw_t := cw_t_in (List.mem_of_getElem? (i := 529) rfl) rfl
set_option maxRecDepth 20000 in
theorem cw_cd16 : Cond.code ⟨RX3, "arrivalOf", "(LClockWires$Tree;I)I"⟩ prog_5_method_6_code 3 (some .int) ∈ cw_t := cw_t_in (List.mem_of_getElem? (i := 533) rfl) rfl
set_option maxRecDepth 20000 in
theorem cw_cd17 : Cond.code ⟨RX3, "delayOf", "(ILClockWires$Part;)J"⟩ prog_5_method_7_code 2 (some .long) ∈ cw_t := cw_t_in (List.mem_of_getElem? (i := 511) rfl) rfl
set_option maxRecDepth 20000 in
theorem cw_cd18 : Cond.code ⟨RX3, "movedInto", "(III)I"⟩ prog_5_method_8_code 3 (some .int) ∈ cw_t := cw_t_in (List.mem_of_getElem? (i := 501) rfl) rfl
set_option maxRecDepth 20000 in
theorem cw_cd19 : Cond.code ⟨RX4, "<init>", "()V"⟩ prog_6_method_1_code 1 none ∈ cw_t := cw_t_in (List.mem_of_getElem? (i := 329) rfl) rfl
set_option maxRecDepth 20000 in
theorem cw_cd20 : Cond.code ⟨RX4, "bestGraft", "(LClockWires$Tree;I)I"⟩ prog_6_method_2_code 6 (some .int) ∈ cw_t := cw_t_in (List.mem_of_getElem? (i := 701) rfl) rfl
set_option maxRecDepth 20000 in
theorem cw_cd21 : Cond.code ⟨RX4, "bestExchange", "(LClockWires$Tree;I)I"⟩ prog_6_method_3_code 7 (some .int) ∈ cw_t := cw_t_in (List.mem_of_getElem? (i := 744) rfl) rfl
set_option maxRecDepth 20000 in
theorem cw_cd22 : Cond.code ⟨RX4, "findLeast", "(LClockWires$Tree;)V"⟩ prog_6_method_4_code 2 none ∈ cw_t := cw_t_in (List.mem_of_getElem? (i := 779) rfl) rfl
set_option maxRecDepth 20000 in
theorem cw_cd23 : Cond.code ⟨RX4, "growTrees", "(I)V"⟩ prog_6_method_5_code 3 none ∈ cw_t := cw_t_in (List.mem_of_getElem? (i := 784) rfl) rfl
set_option maxRecDepth 20000 in
theorem cw_cd24 : Cond.code ⟨RX4, "countTree", "(I)V"⟩ prog_6_method_6_code 2 none ∈ cw_t := cw_t_in (List.mem_of_getElem? (i := 788) rfl) rfl
set_option maxRecDepth 20000 in
theorem cw_cd25 : Cond.code ⟨RX5, "<init>", "()V"⟩ prog_7_method_1_code 1 none ∈ cw_t := cw_t_in (List.mem_of_getElem? (i := 378) rfl) rfl
set_option maxRecDepth 20000 in
theorem cw_cd26 : Cond.code ⟨RX5, "append", "(I)V"⟩ prog_7_method_2_code 2 none ∈ cw_t := cw_t_in (List.mem_of_getElem? (i := 818) rfl) rfl
set_option maxRecDepth 20000 in
theorem cw_cd27 : Cond.code ⟨RX5, "parse", "(I)I"⟩ prog_7_method_3_code 3 (some .int) ∈ cw_t := cw_t_in (List.mem_of_getElem? (i := 830) rfl) rfl
set_option maxRecDepth 20000 in
theorem cw_cd28 : Cond.code ⟨RX5, "accepts", "(II)Z"⟩ prog_7_method_4_code 3 (some .boolean) ∈ cw_t := cw_t_in (List.mem_of_getElem? (i := 834) rfl) rfl
set_option maxRecDepth 20000 in
theorem cw_cd29 : Cond.code ⟨RX5, "opens", "()Z"⟩ prog_7_method_5_code 1 (some .boolean) ∈ cw_t := cw_t_in (List.mem_of_getElem? (i := 838) rfl) rfl
set_option maxRecDepth 20000 in
theorem cw_cd30 : Cond.code ⟨RX5, "closes", "()Z"⟩ prog_7_method_6_code 1 (some .boolean) ∈ cw_t := cw_t_in (List.mem_of_getElem? (i := 846) rfl) rfl
set_option maxRecDepth 20000 in
theorem cw_cd31 : Cond.code ⟨RX5, "takesSink", "(II)Z"⟩ prog_7_method_7_code 3 (some .boolean) ∈ cw_t := cw_t_in (List.mem_of_getElem? (i := 854) rfl) rfl
set_option maxRecDepth 20000 in
theorem cw_cd32 : Cond.code ⟨RX5, "wantsPart", "()Z"⟩ prog_7_method_8_code 1 (some .boolean) ∈ cw_t := cw_t_in (List.mem_of_getElem? (i := 842) rfl) rfl
set_option maxRecDepth 20000 in
theorem cw_cd33 : Cond.code ⟨RX5, "addPart", "(I)V"⟩ prog_7_method_9_code 2 none ∈ cw_t := cw_t_in (List.mem_of_getElem? (i := 850) rfl) rfl
set_option maxRecDepth 20000 in
theorem cw_cd34 : Cond.code ⟨RX6, "<init>", "()V"⟩ prog_8_method_1_code 1 none ∈ cw_t := cw_t_in (List.mem_of_getElem? (i := 94) rfl) rfl
set_option maxRecDepth 20000 in
theorem cw_cd35 : Cond.code ⟨RX6, "copyFrom", "(LClockWires$Tree;)V"⟩ prog_8_method_2_code 2 none ∈ cw_t := cw_t_in (List.mem_of_getElem? (i := 585) rfl) rfl
set_option maxRecDepth 20000 in
theorem cw_cd36 : Cond.code ⟨RX6, "hasSink", "(I)Z"⟩ prog_8_method_3_code 2 (some .boolean) ∈ cw_t := cw_t_in (List.mem_of_getElem? (i := 486) rfl) rfl
set_option maxRecDepth 20000 in
theorem cw_cd37 : Cond.code ⟨RX6, "hasNode", "(I)Z"⟩ prog_8_method_4_code 2 (some .boolean) ∈ cw_t := cw_t_in (List.mem_of_getElem? (i := 431) rfl) rfl
set_option maxRecDepth 20000 in
theorem cw_cd38 : Cond.code ⟨RX6, "isJoint", "(I)Z"⟩ prog_8_method_5_code 2 (some .boolean) ∈ cw_t := cw_t_in (List.mem_of_getElem? (i := 439) rfl) rfl
set_option maxRecDepth 20000 in
theorem cw_cd39 : Cond.code ⟨RX6, "isTop", "(I)Z"⟩ prog_8_method_6_code 2 (some .boolean) ∈ cw_t := cw_t_in (List.mem_of_getElem? (i := 427) rfl) rfl
set_option maxRecDepth 20000 in
theorem cw_cd40 : Cond.code ⟨RX6, "leftOf", "(I)I"⟩ prog_8_method_7_code 2 (some .int) ∈ cw_t := cw_t_in (List.mem_of_getElem? (i := 443) rfl) rfl
set_option maxRecDepth 20000 in
theorem cw_cd41 : Cond.code ⟨RX6, "rightOf", "(I)I"⟩ prog_8_method_8_code 2 (some .int) ∈ cw_t := cw_t_in (List.mem_of_getElem? (i := 447) rfl) rfl
set_option maxRecDepth 20000 in
theorem cw_cd42 : Cond.code ⟨RX6, "parentOf", "(I)I"⟩ prog_8_method_9_code 2 (some .int) ∈ cw_t := cw_t_in (List.mem_of_getElem? (i := 521) rfl) rfl
set_option maxRecDepth 20000 in
theorem cw_cd43 : Cond.code ⟨RX6, "jointCount", "()I"⟩ prog_8_method_10_code 3 (some .int) ∈ cw_t := cw_t_in (List.mem_of_getElem? (i := 679) rfl) rfl
set_option maxRecDepth 20000 in
theorem cw_cd44 : Cond.code ⟨RX6, "sinkAt", "(II)I"⟩ prog_8_method_11_code 4 (some .int) ∈ cw_t := cw_t_in (List.mem_of_getElem? (i := 577) rfl) rfl
set_option maxRecDepth 20000 in
theorem cw_cd45 : Cond.code ⟨RX6, "sinkValue", "(II)I"⟩ prog_8_method_12_code 3 (some .int) ∈ cw_t := cw_t_in (List.mem_of_getElem? (i := 636) rfl) rfl
set_option maxRecDepth 20000 in
theorem cw_cd46 : Cond.code ⟨RX6, "addSink", "(II)I"⟩ prog_8_method_13_code 4 (some .int) ∈ cw_t := cw_t_in (List.mem_of_getElem? (i := 593) rfl) rfl
set_option maxRecDepth 20000 in
theorem cw_cd47 : Cond.code ⟨RX6, "moveSink", "(III)V"⟩ prog_8_method_14_code 4 none ∈ cw_t := cw_t_in (List.mem_of_getElem? (i := 611) rfl) rfl
set_option maxRecDepth 20000 in
theorem cw_cd48 : Cond.code ⟨RX6, "touch", "(I)V"⟩ prog_8_method_15_code 4 none ∈ cw_t := cw_t_in (List.mem_of_getElem? (i := 597) rfl) rfl
set_option maxRecDepth 20000 in
theorem cw_cd49 : Cond.code ⟨RX6, "touchedBefore", "(I)I"⟩ prog_8_method_16_code 2 (some .int) ∈ cw_t := cw_t_in (List.mem_of_getElem? (i := 644) rfl) rfl
set_option maxRecDepth 20000 in
theorem cw_cd50 : Cond.code ⟨RX6, "removeJoints", "()V"⟩ prog_8_method_17_code 2 none ∈ cw_t := cw_t_in (List.mem_of_getElem? (i := 99) rfl) rfl
set_option maxRecDepth 20000 in
theorem cw_cd51 : Cond.code ⟨RX6, "freeJoint", "()I"⟩ prog_8_method_18_code 2 (some .int) ∈ cw_t := cw_t_in (List.mem_of_getElem? (i := 662) rfl) rfl
set_option maxRecDepth 20000 in
theorem cw_cd52 : Cond.code ⟨RX6, "addJoint", "(II)I"⟩ prog_8_method_19_code 4 (some .int) ∈ cw_t := cw_t_in (List.mem_of_getElem? (i := 658) rfl) rfl
set_option maxRecDepth 20000 in
theorem cw_cd53 : Cond.code ⟨RX6, "replaceChild", "(III)V"⟩ prog_8_method_20_code 4 none ∈ cw_t := cw_t_in (List.mem_of_getElem? (i := 693) rfl) rfl
set_option maxRecDepth 20000 in
theorem cw_cd54 : Cond.code ⟨RX6, "isWithin", "(II)Z"⟩ prog_8_method_21_code 5 (some .boolean) ∈ cw_t := cw_t_in (List.mem_of_getElem? (i := 711) rfl) rfl
set_option maxRecDepth 20000 in
theorem cw_cd55 : Cond.code ⟨RX6, "canGraft", "(II)Z"⟩ prog_8_method_22_code 3 (some .boolean) ∈ cw_t := cw_t_in (List.mem_of_getElem? (i := 706) rfl) rfl
set_option maxRecDepth 20000 in
theorem cw_cd56 : Cond.code ⟨RX6, "graft", "(II)I"⟩ prog_8_method_23_code 5 (some .int) ∈ cw_t := cw_t_in (List.mem_of_getElem? (i := 715) rfl) rfl
set_option maxRecDepth 20000 in
theorem cw_cd57 : Cond.code ⟨RX6, "cut", "(I)I"⟩ prog_8_method_24_code 4 (some .int) ∈ cw_t := cw_t_in (List.mem_of_getElem? (i := 688) rfl) rfl
set_option maxRecDepth 20000 in
theorem cw_cd58 : Cond.code ⟨RX6, "canExchange", "(II)Z"⟩ prog_8_method_25_code 5 (some .boolean) ∈ cw_t := cw_t_in (List.mem_of_getElem? (i := 728) rfl) rfl
set_option maxRecDepth 20000 in
theorem cw_cd59 : Cond.code ⟨RX6, "exchange", "(II)V"⟩ prog_8_method_26_code 5 none ∈ cw_t := cw_t_in (List.mem_of_getElem? (i := 736) rfl) rfl
set_option maxRecDepth 20000 in
theorem cw_cd60 : Cond.code ⟨RX7, "<init>", "()V"⟩ prog_9_method_1_code 2 none ∈ cw_t := cw_t_in (List.mem_of_getElem? (i := 160) rfl) rfl
set_option maxRecDepth 20000 in
theorem cw_cd61 : Cond.code ⟨RX7, "part", "(I)LClockWires$Part;"⟩ prog_9_method_2_code 2 (some (.object "ClockWires$Part")) ∈ cw_t := cw_t_in (List.mem_of_getElem? (i := 455) rfl) rfl
set_option maxRecDepth 20000 in
theorem cw_cd62 : Cond.code ⟨RX7, "measure", "(LClockWires$Tree;)V"⟩ prog_9_method_3_code 7 none ∈ cw_t := cw_t_in (List.mem_of_getElem? (i := 419) rfl) rfl
set_option maxRecDepth 20000 in
theorem cw_cd63 : Cond.code ⟨RX7, "listDownward", "(LClockWires$Tree;)V"⟩ prog_9_method_4_code 4 none ∈ cw_t := cw_t_in (List.mem_of_getElem? (i := 423) rfl) rfl
set_option maxRecDepth 20000 in
theorem cw_cd64 : Cond.code ⟨RX7, "list", "(I)V"⟩ prog_9_method_5_code 2 none ∈ cw_t := cw_t_in (List.mem_of_getElem? (i := 435) rfl) rfl
set_option maxRecDepth 20000 in
theorem cw_cd65 : Cond.code ⟨RX7, "nearestPair", "(LClockWires$Tree;)I"⟩ prog_9_method_6_code 7 (some .int) ∈ cw_t := cw_t_in (List.mem_of_getElem? (i := 671) rfl) rfl
set_option maxRecDepth 20000 in
theorem cw_cd66 : Cond.code ⟨RX8, "<init>", "()V"⟩ prog_1_method_1_code 1 none ∈ cw_t := cw_t_in (List.mem_of_getElem? (i := 86) rfl) rfl
set_option maxRecDepth 20000 in
theorem cw_cd67 : Cond.code ⟨RX8, "sink", "(II)I"⟩ prog_1_method_2_code 4 (some .int) ∈ cw_t := cw_t_in (List.mem_of_getElem? (i := 566) rfl) rfl
set_option maxRecDepth 20000 in
theorem cw_cd68 : Cond.code ⟨RX8, "moves", "(III)I"⟩ prog_1_method_3_code 6 (some .int) ∈ cw_t := cw_t_in (List.mem_of_getElem? (i := 601) rfl) rfl
set_option maxRecDepth 20000 in
theorem cw_cd69 : Cond.code ⟨RX8, "sets", "(III)I"⟩ prog_1_method_4_code 5 (some .int) ∈ cw_t := cw_t_in (List.mem_of_getElem? (i := 616) rfl) rfl
set_option maxRecDepth 20000 in
theorem cw_cd70 : Cond.code ⟨RX8, "skew", "(I)I"⟩ prog_1_method_5_code 3 (some .int) ∈ cw_t := cw_t_in (List.mem_of_getElem? (i := 624) rfl) rfl
set_option maxRecDepth 20000 in
theorem cw_cd71 : Cond.code ⟨RX8, "source", "(II)I"⟩ prog_1_method_6_code 4 (some .int) ∈ cw_t := cw_t_in (List.mem_of_getElem? (i := 628) rfl) rfl
set_option maxRecDepth 20000 in
theorem cw_cd72 : Cond.code ⟨RX8, "end", "(II)I"⟩ prog_1_method_7_code 3 (some .int) ∈ cw_t := cw_t_in (List.mem_of_getElem? (i := 632) rfl) rfl
set_option maxRecDepth 20000 in
theorem cw_cd73 : Cond.code ⟨RX8, "touched", "(I)I"⟩ prog_1_method_8_code 2 (some .int) ∈ cw_t := cw_t_in (List.mem_of_getElem? (i := 640) rfl) rfl
set_option maxRecDepth 20000 in
theorem cw_cd74 : Cond.code ⟨RX8, "at", "(II)I"⟩ prog_1_method_9_code 3 (some .int) ∈ cw_t := cw_t_in (List.mem_of_getElem? (i := 648) rfl) rfl
set_option maxRecDepth 20000 in
theorem cw_cd75 : Cond.code ⟨RX8, "joins", "(II)I"⟩ prog_1_method_10_code 4 (some .int) ∈ cw_t := cw_t_in (List.mem_of_getElem? (i := 652) rfl) rfl
set_option maxRecDepth 20000 in
theorem cw_cd76 : Cond.code ⟨RX8, "pairs", "()I"⟩ prog_1_method_11_code 4 (some .int) ∈ cw_t := cw_t_in (List.mem_of_getElem? (i := 667) rfl) rfl
set_option maxRecDepth 20000 in
theorem cw_cd77 : Cond.code ⟨RX8, "frees", "()I"⟩ prog_1_method_12_code 2 (some .int) ∈ cw_t := cw_t_in (List.mem_of_getElem? (i := 675) rfl) rfl
set_option maxRecDepth 20000 in
theorem cw_cd78 : Cond.code ⟨RX8, "cuts", "(I)I"⟩ prog_1_method_13_code 3 (some .int) ∈ cw_t := cw_t_in (List.mem_of_getElem? (i := 684) rfl) rfl
set_option maxRecDepth 20000 in
theorem cw_cd79 : Cond.code ⟨RX8, "grafts", "(II)I"⟩ prog_1_method_14_code 5 (some .int) ∈ cw_t := cw_t_in (List.mem_of_getElem? (i := 697) rfl) rfl
set_option maxRecDepth 20000 in
theorem cw_cd80 : Cond.code ⟨RX8, "exchanges", "(II)I"⟩ prog_1_method_15_code 3 (some .int) ∈ cw_t := cw_t_in (List.mem_of_getElem? (i := 724) rfl) rfl
set_option maxRecDepth 20000 in
theorem cw_cd81 : Cond.code ⟨RX8, "betters", "()I"⟩ prog_1_method_16_code 2 (some .int) ∈ cw_t := cw_t_in (List.mem_of_getElem? (i := 740) rfl) rfl
set_option maxRecDepth 20000 in
theorem cw_cd82 : Cond.code ⟨RX8, "node", "(II)I"⟩ prog_1_method_17_code 3 (some .int) ∈ cw_t := cw_t_in (List.mem_of_getElem? (i := 750) rfl) rfl
set_option maxRecDepth 20000 in
theorem cw_cd83 : Cond.code ⟨RX8, "would", "(III)I"⟩ prog_1_method_18_code 5 (some .int) ∈ cw_t := cw_t_in (List.mem_of_getElem? (i := 762) rfl) rfl
set_option maxRecDepth 20000 in
theorem cw_cd84 : Cond.code ⟨RX8, "nearest", "()I"⟩ prog_1_method_19_code 1 (some .int) ∈ cw_t := cw_t_in (List.mem_of_getElem? (i := 767) rfl) rfl
set_option maxRecDepth 20000 in
theorem cw_cd85 : Cond.code ⟨RX8, "tops", "()I"⟩ prog_1_method_20_code 1 (some .int) ∈ cw_t := cw_t_in (List.mem_of_getElem? (i := 771) rfl) rfl
set_option maxRecDepth 20000 in
theorem cw_cd86 : Cond.code ⟨RX8, "least", "(I)I"⟩ prog_1_method_21_code 2 (some .int) ∈ cw_t := cw_t_in (List.mem_of_getElem? (i := 775) rfl) rfl
set_option maxRecDepth 20000 in
theorem cw_cd87 : Cond.code ⟨RX8, "place", "(II)I"⟩ prog_1_method_22_code 3 (some .int) ∈ cw_t := cw_t_in (List.mem_of_getElem? (i := 793) rfl) rfl
set_option maxRecDepth 20000 in
theorem cw_cd88 : Cond.code ⟨RX8, "arrival", "(I)I"⟩ prog_1_method_23_code 2 (some .int) ∈ cw_t := cw_t_in (List.mem_of_getElem? (i := 797) rfl) rfl
set_option maxRecDepth 20000 in
theorem cw_cd89 : Cond.code ⟨RX8, "slow", "(I)J"⟩ prog_1_method_24_code 2 (some .long) ∈ cw_t := cw_t_in (List.mem_of_getElem? (i := 802) rfl) rfl
set_option maxRecDepth 20000 in
theorem cw_cd90 : Cond.code ⟨RX8, "total", "(I)I"⟩ prog_1_method_25_code 2 (some .int) ∈ cw_t := cw_t_in (List.mem_of_getElem? (i := 806) rfl) rfl
set_option maxRecDepth 20000 in
theorem cw_cd91 : Cond.code ⟨RX8, "type", "(I)I"⟩ prog_1_method_26_code 2 (some .int) ∈ cw_t := cw_t_in (List.mem_of_getElem? (i := 814) rfl) rfl
set_option maxRecDepth 20000 in
theorem cw_cd92 : Cond.code ⟨RX8, "clear", "()I"⟩ prog_1_method_27_code 2 (some .int) ∈ cw_t := cw_t_in (List.mem_of_getElem? (i := 822) rfl) rfl
set_option maxRecDepth 20000 in
theorem cw_cd93 : Cond.code ⟨RX8, "builds", "()I"⟩ prog_1_method_28_code 3 (some .int) ∈ cw_t := cw_t_in (List.mem_of_getElem? (i := 826) rfl) rfl
set_option maxRecDepth 20000 in
theorem cw_cd94 : Cond.code ⟨RX8, "shown", "(II)I"⟩ prog_1_method_29_code 3 (some .int) ∈ cw_t := cw_t_in (List.mem_of_getElem? (i := 858) rfl) rfl
set_option maxRecDepth 20000 in
theorem cw_cd95 : Cond.code ⟨RX8, "back", "()I"⟩ prog_1_method_30_code 1 (some .int) ∈ cw_t := cw_t_in (List.mem_of_getElem? (i := 870) rfl) rfl
set_option maxRecDepth 20000 in
theorem cw_cd96 : Cond.code ⟨RX8, "told", "(I)I"⟩ prog_1_method_31_code 2 (some .int) ∈ cw_t := cw_t_in (List.mem_of_getElem? (i := 878) rfl) rfl
set_option maxRecDepth 20000 in
theorem cw_cd97 : Cond.code ⟨RX8, "digest", "()J"⟩ prog_1_method_32_code 5 (some .long) ∈ cw_t := cw_t_in (List.mem_of_getElem? (i := 886) rfl) rfl
set_option maxRecDepth 20000 in
theorem cw_cd98 : Cond.code ⟨RX8, "refuse", "(I)I"⟩ prog_1_method_33_code 2 (some .int) ∈ cw_t := cw_t_in (List.mem_of_getElem? (i := 573) rfl) rfl
set_option maxRecDepth 20000 in
theorem cw_cd99 : Cond.code ⟨RX8, "refresh", "()V"⟩ prog_1_method_34_code 1 none ∈ cw_t := cw_t_in (List.mem_of_getElem? (i := 415) rfl) rfl
set_option maxRecDepth 20000 in
theorem cw_cd100 : Cond.code ⟨RX8, "exchangeAndCompare", "(II)I"⟩ prog_1_method_35_code 4 (some .int) ∈ cw_t := cw_t_in (List.mem_of_getElem? (i := 732) rfl) rfl
set_option maxRecDepth 20000 in
theorem cw_cd101 : Cond.code ⟨RX8, "nodeValue", "(II)I"⟩ prog_1_method_36_code 4 (some .int) ∈ cw_t := cw_t_in (List.mem_of_getElem? (i := 754) rfl) rfl
set_option maxRecDepth 20000 in
theorem cw_cd102 : Cond.code ⟨RX8, "totalValue", "(I)I"⟩ prog_1_method_37_code 2 (some .int) ∈ cw_t := cw_t_in (List.mem_of_getElem? (i := 810) rfl) rfl
set_option maxRecDepth 20000 in
theorem cw_cd103 : Cond.code ⟨RX8, "toldValue", "(I)I"⟩ prog_1_method_38_code 2 (some .int) ∈ cw_t := cw_t_in (List.mem_of_getElem? (i := 882) rfl) rfl
set_option maxRecDepth 20000 in
theorem cw_cd104 : Cond.code ⟨RX8, "shownByte", "(II)I"⟩ prog_1_method_39_code 8 (some .int) ∈ cw_t := cw_t_in (List.mem_of_getElem? (i := 862) rfl) rfl
set_option maxRecDepth 20000 in
theorem cw_cd105 : Cond.code ⟨RX8, "shownLength", "(I)I"⟩ prog_1_method_40_code 2 (some .int) ∈ cw_t := cw_t_in (List.mem_of_getElem? (i := 866) rfl) rfl
set_option maxRecDepth 20000 in
theorem cw_cd106 : Cond.code ⟨RX8, "isOnGrid", "(II)Z"⟩ prog_1_method_41_code 2 (some .boolean) ∈ cw_t := cw_t_in (List.mem_of_getElem? (i := 569) rfl) rfl
set_option maxRecDepth 20000 in
theorem cw_cd107 : Cond.code ⟨RX8, "isSetting", "(II)Z"⟩ prog_1_method_42_code 2 (some .boolean) ∈ cw_t := cw_t_in (List.mem_of_getElem? (i := 619) rfl) rfl
set_option maxRecDepth 20000 in
theorem cw_cd108 : Cond.code ⟨RX8, "gridDistance", "(IIII)I"⟩ prog_1_method_43_code 4 (some .int) ∈ cw_t := cw_t_in (List.mem_of_getElem? (i := 605) rfl) rfl
set_option maxRecDepth 20000 in
theorem cw_cd109 : Cond.code ⟨RX8, "distance", "(IIII)I"⟩ prog_1_method_44_code 4 (some .int) ∈ cw_t := cw_t_in (List.mem_of_getElem? (i := 506) rfl) rfl
set_option maxRecDepth 20000 in
theorem cw_cd110 : Cond.code ⟨RX9, "<init>", "()V"⟩ prog_11_method_1_code 1 none ∈ cw_t := cw_t_in (List.mem_of_getElem? (i := 893) rfl) rfl
set_option maxRecDepth 20000 in
theorem cw_cd111 : Cond.code ⟨RX9, "bad", "()I"⟩ prog_11_method_2_code 1 (some .int) ∈ cw_t := cw_t_in (List.mem_of_getElem? (i := 1052) rfl) rfl
set_option maxRecDepth 20000 in
theorem cw_cd112 : Cond.code ⟨RX9, "no", "()I"⟩ prog_11_method_3_code 1 (some .int) ∈ cw_t := cw_t_in (List.mem_of_getElem? (i := 1038) rfl) rfl
set_option maxRecDepth 20000 in
theorem cw_cd113 : Cond.code ⟨RX9, "full", "()I"⟩ prog_11_method_4_code 1 (some .int) ∈ cw_t := cw_t_in (List.mem_of_getElem? (i := 1060) rfl) rfl
set_option maxRecDepth 20000 in
theorem cw_cd114 : Cond.code ⟨RX9, "in", "(III)Z"⟩ prog_11_method_5_code 3 (some .boolean) ∈ cw_t := cw_t_in (List.mem_of_getElem? (i := 1048) rfl) rfl
set_option maxRecDepth 20000 in
theorem cw_cd115 : Cond.code ⟨RX9, "greater", "(II)I"⟩ prog_11_method_6_code 2 (some .int) ∈ cw_t := cw_t_in (List.mem_of_getElem? (i := 1085) rfl) rfl
set_option maxRecDepth 20000 in
theorem cw_cd116 : Cond.code ⟨RX9, "lesser", "(II)I"⟩ prog_11_method_7_code 2 (some .int) ∈ cw_t := cw_t_in (List.mem_of_getElem? (i := 1161) rfl) rfl
set_option maxRecDepth 20000 in
theorem cw_cd117 : Cond.code ⟨RX9, "size", "(I)I"⟩ prog_11_method_8_code 1 (some .int) ∈ cw_t := cw_t_in (List.mem_of_getElem? (i := 1082) rfl) rfl
set_option maxRecDepth 20000 in
theorem cw_cd118 : Cond.code ⟨RX9, "isSink", "(I)Z"⟩ prog_11_method_9_code 2 (some .boolean) ∈ cw_t := cw_t_in (List.mem_of_getElem? (i := 1076) rfl) rfl
set_option maxRecDepth 20000 in
theorem cw_cd119 : Cond.code ⟨RX9, "isNode", "(I)Z"⟩ prog_11_method_10_code 2 (some .boolean) ∈ cw_t := cw_t_in (List.mem_of_getElem? (i := 1118) rfl) rfl
set_option maxRecDepth 20000 in
theorem cw_cd120 : Cond.code ⟨RX9, "isSpot", "(II)Z"⟩ prog_11_method_11_code 2 (some .boolean) ∈ cw_t := cw_t_in (List.mem_of_getElem? (i := 1045) rfl) rfl
set_option maxRecDepth 20000 in
theorem cw_cd121 : Cond.code ⟨RX9, "isTop", "(I)Z"⟩ prog_11_method_12_code 2 (some .boolean) ∈ cw_t := cw_t_in (List.mem_of_getElem? (i := 1122) rfl) rfl
set_option maxRecDepth 20000 in
theorem cw_cd122 : Cond.code ⟨RX9, "topMany", "()I"⟩ prog_11_method_13_code 3 (some .int) ∈ cw_t := cw_t_in (List.mem_of_getElem? (i := 1245) rfl) rfl
set_option maxRecDepth 20000 in
theorem cw_cd123 : Cond.code ⟨RX9, "isWithin", "(II)Z"⟩ prog_11_method_14_code 4 (some .boolean) ∈ cw_t := cw_t_in (List.mem_of_getElem? (i := 1189) rfl) rfl
set_option maxRecDepth 20000 in
theorem cw_cd124 : Cond.code ⟨RX9, "replaces", "(II)V"⟩ prog_11_method_15_code 4 none ∈ cw_t := cw_t_in (List.mem_of_getElem? (i := 1134) rfl) rfl
set_option maxRecDepth 20000 in
theorem cw_cd125 : Cond.code ⟨RX9, "comes", "()I"⟩ prog_11_method_16_code 2 (some .int) ∈ cw_t := cw_t_in (List.mem_of_getElem? (i := 1130) rfl) rfl
set_option maxRecDepth 20000 in
theorem cw_cd126 : Cond.code ⟨RX9, "lays", "(II)I"⟩ prog_11_method_17_code 4 (some .int) ∈ cw_t := cw_t_in (List.mem_of_getElem? (i := 1126) rfl) rfl
set_option maxRecDepth 20000 in
theorem cw_cd127 : Cond.code ⟨RX9, "goes", "(I)V"⟩ prog_11_method_18_code 2 none ∈ cw_t := cw_t_in (List.mem_of_getElem? (i := 1173) rfl) rfl
set_option maxRecDepth 20000 in
theorem cw_cd128 : Cond.code ⟨RX9, "takesOff", "(I)I"⟩ prog_11_method_19_code 4 (some .int) ∈ cw_t := cw_t_in (List.mem_of_getElem? (i := 1181) rfl) rfl
set_option maxRecDepth 20000 in
theorem cw_cd129 : Cond.code ⟨RX9, "canExchange", "(II)Z"⟩ prog_11_method_20_code 3 (some .boolean) ∈ cw_t := cw_t_in (List.mem_of_getElem? (i := 1213) rfl) rfl
set_option maxRecDepth 20000 in
theorem cw_cd130 : Cond.code ⟨RX9, "swaps", "(II)V"⟩ prog_11_method_21_code 7 none ∈ cw_t := cw_t_in (List.mem_of_getElem? (i := 1217) rfl) rfl
set_option maxRecDepth 20000 in
theorem cw_cd131 : Cond.code ⟨RX9, "noJoints", "()I"⟩ prog_11_method_22_code 3 (some .int) ∈ cw_t := cw_t_in (List.mem_of_getElem? (i := 1169) rfl) rfl
set_option maxRecDepth 20000 in
theorem cw_cd132 : Cond.code ⟨RX9, "laysAside", "()V"⟩ prog_11_method_23_code 2 none ∈ cw_t := cw_t_in (List.mem_of_getElem? (i := 1197) rfl) rfl
set_option maxRecDepth 20000 in
theorem cw_cd133 : Cond.code ⟨RX9, "takesBack", "()V"⟩ prog_11_method_24_code 2 none ∈ cw_t := cw_t_in (List.mem_of_getElem? (i := 1205) rfl) rfl
set_option maxRecDepth 20000 in
theorem cw_cd134 : Cond.code ⟨RX9, "leavesState", "()V"⟩ prog_11_method_25_code 3 none ∈ cw_t := cw_t_in (List.mem_of_getElem? (i := 1064) rfl) rfl
set_option maxRecDepth 20000 in
theorem cw_cd135 : Cond.code ⟨RX9, "back", "()I"⟩ prog_11_method_26_code 4 (some .int) ∈ cw_t := cw_t_in (List.mem_of_getElem? (i := 1034) rfl) rfl
set_option maxRecDepth 20000 in
theorem cw_cd136 : Cond.code ⟨RX9, "reckons", "(II)V"⟩ prog_11_method_27_code 10 none ∈ cw_t := cw_t_in (List.mem_of_getElem? (i := 1158) rfl) rfl
set_option maxRecDepth 20000 in
theorem cw_cd137 : Cond.code ⟨RX9, "tellsSink", "(I)V"⟩ prog_11_method_28_code 4 none ∈ cw_t := cw_t_in (List.mem_of_getElem? (i := 1150) rfl) rfl
set_option maxRecDepth 20000 in
theorem cw_cd138 : Cond.code ⟨RX9, "tellsJoint", "(I)V"⟩ prog_11_method_29_code 4 none ∈ cw_t := cw_t_in (List.mem_of_getElem? (i := 1154) rfl) rfl
set_option maxRecDepth 20000 in
theorem cw_cd139 : Cond.code ⟨RX9, "tellsAll", "()V"⟩ prog_11_method_30_code 3 none ∈ cw_t := cw_t_in (List.mem_of_getElem? (i := 1146) rfl) rfl
set_option maxRecDepth 20000 in
theorem cw_cd140 : Cond.code ⟨RX9, "costOfAll", "()I"⟩ prog_11_method_31_code 3 (some .int) ∈ cw_t := cw_t_in (List.mem_of_getElem? (i := 1201) rfl) rfl
set_option maxRecDepth 20000 in
theorem cw_cd141 : Cond.code ⟨RX9, "into", "(III)I"⟩ prog_11_method_32_code 3 (some .int) ∈ cw_t := cw_t_in (List.mem_of_getElem? (i := 1268) rfl) rfl
set_option maxRecDepth 20000 in
theorem cw_cd142 : Cond.code ⟨RX9, "settles", "(III)V"⟩ prog_11_method_33_code 4 none ∈ cw_t := cw_t_in (List.mem_of_getElem? (i := 1265) rfl) rfl
set_option maxRecDepth 20000 in
theorem cw_cd143 : Cond.code ⟨RX9, "areLaid", "()Z"⟩ prog_11_method_34_code 3 (some .boolean) ∈ cw_t := cw_t_in (List.mem_of_getElem? (i := 1261) rfl) rfl
set_option maxRecDepth 20000 in
theorem cw_cd144 : Cond.code ⟨RX9, "trunk", "()I"⟩ prog_11_method_35_code 3 (some .int) ∈ cw_t := cw_t_in (List.mem_of_getElem? (i := 1284) rfl) rfl
set_option maxRecDepth 20000 in
theorem cw_cd145 : Cond.code ⟨RX9, "loop", "(I)I"⟩ prog_11_method_36_code 5 (some .int) ∈ cw_t := cw_t_in (List.mem_of_getElem? (i := 1272) rfl) rfl
set_option maxRecDepth 20000 in
theorem cw_cd146 : Cond.code ⟨RX9, "arrives", "(I)I"⟩ prog_11_method_37_code 4 (some .int) ∈ cw_t := cw_t_in (List.mem_of_getElem? (i := 1280) rfl) rfl
set_option maxRecDepth 20000 in
theorem cw_cd147 : Cond.code ⟨RX9, "isAt", "(II)I"⟩ prog_11_method_38_code 4 (some .int) ∈ cw_t := cw_t_in (List.mem_of_getElem? (i := 1056) rfl) rfl
set_option maxRecDepth 20000 in
theorem cw_cd148 : Cond.code ⟨RX9, "touches", "(I)V"⟩ prog_11_method_39_code 4 none ∈ cw_t := cw_t_in (List.mem_of_getElem? (i := 1068) rfl) rfl
set_option maxRecDepth 20000 in
theorem cw_cd149 : Cond.code ⟨RX9, "apart", "(IIII)I"⟩ prog_11_method_40_code 4 (some .int) ∈ cw_t := cw_t_in (List.mem_of_getElem? (i := 1079) rfl) rfl
set_option maxRecDepth 20000 in
theorem cw_cd150 : Cond.code ⟨RX9, "sink", "(II)I"⟩ prog_11_method_41_code 4 (some .int) ∈ cw_t := cw_t_in (List.mem_of_getElem? (i := 1042) rfl) rfl
set_option maxRecDepth 20000 in
theorem cw_cd151 : Cond.code ⟨RX9, "moves", "(III)I"⟩ prog_11_method_42_code 6 (some .int) ∈ cw_t := cw_t_in (List.mem_of_getElem? (i := 1072) rfl) rfl
set_option maxRecDepth 20000 in
theorem cw_cd152 : Cond.code ⟨RX9, "sets", "(III)I"⟩ prog_11_method_43_code 5 (some .int) ∈ cw_t := cw_t_in (List.mem_of_getElem? (i := 1090) rfl) rfl
set_option maxRecDepth 20000 in
theorem cw_cd153 : Cond.code ⟨RX9, "skew", "(I)I"⟩ prog_11_method_44_code 3 (some .int) ∈ cw_t := cw_t_in (List.mem_of_getElem? (i := 1094) rfl) rfl
set_option maxRecDepth 20000 in
theorem cw_cd154 : Cond.code ⟨RX9, "source", "(II)I"⟩ prog_11_method_45_code 4 (some .int) ∈ cw_t := cw_t_in (List.mem_of_getElem? (i := 1098) rfl) rfl
set_option maxRecDepth 20000 in
theorem cw_cd155 : Cond.code ⟨RX9, "end", "(II)I"⟩ prog_11_method_46_code 3 (some .int) ∈ cw_t := cw_t_in (List.mem_of_getElem? (i := 1102) rfl) rfl
set_option maxRecDepth 20000 in
theorem cw_cd156 : Cond.code ⟨RX9, "touched", "(I)I"⟩ prog_11_method_47_code 2 (some .int) ∈ cw_t := cw_t_in (List.mem_of_getElem? (i := 1106) rfl) rfl
set_option maxRecDepth 20000 in
theorem cw_cd157 : Cond.code ⟨RX9, "at", "(II)I"⟩ prog_11_method_48_code 3 (some .int) ∈ cw_t := cw_t_in (List.mem_of_getElem? (i := 1110) rfl) rfl
set_option maxRecDepth 20000 in
theorem cw_cd158 : Cond.code ⟨RX9, "joins", "(II)I"⟩ prog_11_method_49_code 3 (some .int) ∈ cw_t := cw_t_in (List.mem_of_getElem? (i := 1114) rfl) rfl
set_option maxRecDepth 20000 in
theorem cw_cd159 : Cond.code ⟨RX9, "findsPair", "()I"⟩ prog_11_method_50_code 4 (some .int) ∈ cw_t := cw_t_in (List.mem_of_getElem? (i := 1142) rfl) rfl
set_option maxRecDepth 20000 in
theorem cw_cd160 : Cond.code ⟨RX9, "pairs", "()I"⟩ prog_11_method_51_code 4 (some .int) ∈ cw_t := cw_t_in (List.mem_of_getElem? (i := 1138) rfl) rfl
set_option maxRecDepth 20000 in
theorem cw_cd161 : Cond.code ⟨RX9, "frees", "()I"⟩ prog_11_method_52_code 1 (some .int) ∈ cw_t := cw_t_in (List.mem_of_getElem? (i := 1165) rfl) rfl
set_option maxRecDepth 20000 in
theorem cw_cd162 : Cond.code ⟨RX9, "cuts", "(I)I"⟩ prog_11_method_53_code 2 (some .int) ∈ cw_t := cw_t_in (List.mem_of_getElem? (i := 1177) rfl) rfl
set_option maxRecDepth 20000 in
theorem cw_cd163 : Cond.code ⟨RX9, "bestFor", "(I)I"⟩ prog_11_method_54_code 7 (some .int) ∈ cw_t := cw_t_in (List.mem_of_getElem? (i := 1193) rfl) rfl
set_option maxRecDepth 20000 in
theorem cw_cd164 : Cond.code ⟨RX9, "grafts", "(II)I"⟩ prog_11_method_55_code 4 (some .int) ∈ cw_t := cw_t_in (List.mem_of_getElem? (i := 1185) rfl) rfl
set_option maxRecDepth 20000 in
theorem cw_cd165 : Cond.code ⟨RX9, "exchanges", "(II)I"⟩ prog_11_method_56_code 4 (some .int) ∈ cw_t := cw_t_in (List.mem_of_getElem? (i := 1209) rfl) rfl
set_option maxRecDepth 20000 in
theorem cw_cd166 : Cond.code ⟨RX9, "betters", "()I"⟩ prog_11_method_57_code 8 (some .int) ∈ cw_t := cw_t_in (List.mem_of_getElem? (i := 1221) rfl) rfl
set_option maxRecDepth 20000 in
theorem cw_cd167 : Cond.code ⟨RX9, "about", "(II)I"⟩ prog_11_method_58_code 3 (some .int) ∈ cw_t := cw_t_in (List.mem_of_getElem? (i := 1229) rfl) rfl
set_option maxRecDepth 20000 in
theorem cw_cd168 : Cond.code ⟨RX9, "node", "(II)I"⟩ prog_11_method_59_code 3 (some .int) ∈ cw_t := cw_t_in (List.mem_of_getElem? (i := 1225) rfl) rfl
set_option maxRecDepth 20000 in
theorem cw_cd169 : Cond.code ⟨RX9, "would", "(III)I"⟩ prog_11_method_60_code 4 (some .int) ∈ cw_t := cw_t_in (List.mem_of_getElem? (i := 1233) rfl) rfl
set_option maxRecDepth 20000 in
theorem cw_cd170 : Cond.code ⟨RX9, "nearest", "()I"⟩ prog_11_method_61_code 1 (some .int) ∈ cw_t := cw_t_in (List.mem_of_getElem? (i := 1237) rfl) rfl
set_option maxRecDepth 20000 in
theorem cw_cd171 : Cond.code ⟨RX9, "tops", "()I"⟩ prog_11_method_62_code 1 (some .int) ∈ cw_t := cw_t_in (List.mem_of_getElem? (i := 1241) rfl) rfl
set_option maxRecDepth 20000 in
theorem cw_cd172 : Cond.code ⟨RX9, "growsBy", "(I)V"⟩ prog_11_method_63_code 8 none ∈ cw_t := cw_t_in (List.mem_of_getElem? (i := 1253) rfl) rfl
set_option maxRecDepth 20000 in
theorem cw_cd173 : Cond.code ⟨RX9, "least", "(I)I"⟩ prog_11_method_64_code 7 (some .int) ∈ cw_t := cw_t_in (List.mem_of_getElem? (i := 1249) rfl) rfl
set_option maxRecDepth 20000 in
theorem cw_cd174 : Cond.code ⟨RX9, "place", "(II)I"⟩ prog_11_method_65_code 3 (some .int) ∈ cw_t := cw_t_in (List.mem_of_getElem? (i := 1257) rfl) rfl
set_option maxRecDepth 20000 in
theorem cw_cd175 : Cond.code ⟨RX9, "arrival", "(I)I"⟩ prog_11_method_66_code 2 (some .int) ∈ cw_t := cw_t_in (List.mem_of_getElem? (i := 1276) rfl) rfl
set_option maxRecDepth 20000 in
theorem cw_cd176 : Cond.code ⟨RX9, "below", "(I)J"⟩ prog_11_method_67_code 5 (some .long) ∈ cw_t := cw_t_in (List.mem_of_getElem? (i := 1293) rfl) rfl
set_option maxRecDepth 20000 in
theorem cw_cd177 : Cond.code ⟨RX9, "slow", "(I)J"⟩ prog_11_method_68_code 7 (some .long) ∈ cw_t := cw_t_in (List.mem_of_getElem? (i := 1288) rfl) rfl
set_option maxRecDepth 20000 in
theorem cw_cd178 : Cond.code ⟨RX9, "loops", "(Z)I"⟩ prog_11_method_69_code 5 (some .int) ∈ cw_t := cw_t_in (List.mem_of_getElem? (i := 1310) rfl) rfl
set_option maxRecDepth 20000 in
theorem cw_cd179 : Cond.code ⟨RX9, "spread", "()I"⟩ prog_11_method_70_code 4 (some .int) ∈ cw_t := cw_t_in (List.mem_of_getElem? (i := 1306) rfl) rfl
set_option maxRecDepth 20000 in
theorem cw_cd180 : Cond.code ⟨RX9, "totalBy", "(I)I"⟩ prog_11_method_71_code 2 (some .int) ∈ cw_t := cw_t_in (List.mem_of_getElem? (i := 1302) rfl) rfl
set_option maxRecDepth 20000 in
theorem cw_cd181 : Cond.code ⟨RX9, "total", "(I)I"⟩ prog_11_method_72_code 2 (some .int) ∈ cw_t := cw_t_in (List.mem_of_getElem? (i := 1298) rfl) rfl
set_option maxRecDepth 20000 in
theorem cw_cd182 : Cond.code ⟨RX9, "type", "(I)I"⟩ prog_11_method_73_code 2 (some .int) ∈ cw_t := cw_t_in (List.mem_of_getElem? (i := 1314) rfl) rfl
set_option maxRecDepth 20000 in
theorem cw_cd183 : Cond.code ⟨RX9, "clear", "()I"⟩ prog_11_method_74_code 2 (some .int) ∈ cw_t := cw_t_in (List.mem_of_getElem? (i := 1318) rfl) rfl
set_option maxRecDepth 20000 in
theorem cw_cd184 : Cond.code ⟨RX9, "here", "()I"⟩ prog_11_method_75_code 1 (some .int) ∈ cw_t := cw_t_in (List.mem_of_getElem? (i := 1334) rfl) rfl
set_option maxRecDepth 20000 in
theorem cw_cd185 : Cond.code ⟨RX9, "tells", "(I)V"⟩ prog_11_method_76_code 2 none ∈ cw_t := cw_t_in (List.mem_of_getElem? (i := 1338) rfl) rfl
set_option maxRecDepth 20000 in
theorem cw_cd186 : Cond.code ⟨RX9, "reads", "(Z)Z"⟩ prog_11_method_77_code 6 (some .boolean) ∈ cw_t := cw_t_in (List.mem_of_getElem? (i := 1330) rfl) rfl
set_option maxRecDepth 20000 in
theorem cw_cd187 : Cond.code ⟨RX9, "readsAll", "(Z)Z"⟩ prog_11_method_78_code 3 (some .boolean) ∈ cw_t := cw_t_in (List.mem_of_getElem? (i := 1326) rfl) rfl
set_option maxRecDepth 20000 in
theorem cw_cd188 : Cond.code ⟨RX9, "builds", "()I"⟩ prog_11_method_79_code 4 (some .int) ∈ cw_t := cw_t_in (List.mem_of_getElem? (i := 1322) rfl) rfl
set_option maxRecDepth 20000 in
theorem cw_cd189 : Cond.code ⟨RX9, "byteOf", "(II)I"⟩ prog_11_method_80_code 8 (some .int) ∈ cw_t := cw_t_in (List.mem_of_getElem? (i := 1346) rfl) rfl
set_option maxRecDepth 20000 in
theorem cw_cd190 : Cond.code ⟨RX9, "shown", "(II)I"⟩ prog_11_method_81_code 3 (some .int) ∈ cw_t := cw_t_in (List.mem_of_getElem? (i := 1342) rfl) rfl
set_option maxRecDepth 20000 in
theorem cw_cd191 : Cond.code ⟨RX9, "toldBy", "(I)I"⟩ prog_11_method_82_code 2 (some .int) ∈ cw_t := cw_t_in (List.mem_of_getElem? (i := 1354) rfl) rfl
set_option maxRecDepth 20000 in
theorem cw_cd192 : Cond.code ⟨RX9, "jointMany", "()I"⟩ prog_11_method_83_code 3 (some .int) ∈ cw_t := cw_t_in (List.mem_of_getElem? (i := 1358) rfl) rfl
set_option maxRecDepth 20000 in
theorem cw_cd193 : Cond.code ⟨RX9, "told", "(I)I"⟩ prog_11_method_84_code 2 (some .int) ∈ cw_t := cw_t_in (List.mem_of_getElem? (i := 1350) rfl) rfl
set_option maxRecDepth 20000 in
theorem cw_cd194 : Cond.code ⟨RX9, "digest", "()J"⟩ prog_11_method_85_code 5 (some .long) ∈ cw_t := cw_t_in (List.mem_of_getElem? (i := 1362) rfl) rfl
set_option maxRecDepth 100000 in
theorem cw_code_in : ∀ q ∈ cw_ml, Cond.code q.1 q.2.1 q.2.2.1 q.2.2.2.1 ∈ cw_t := List.forall_mem_cons.mpr ⟨cw_cd0, List.forall_mem_cons.mpr ⟨cw_cd1, List.forall_mem_cons.mpr ⟨cw_cd2, List.forall_mem_cons.mpr ⟨cw_cd3, List.forall_mem_cons.mpr ⟨cw_cd4, List.forall_mem_cons.mpr ⟨cw_cd5, List.forall_mem_cons.mpr ⟨cw_cd6, List.forall_mem_cons.mpr ⟨cw_cd7, List.forall_mem_cons.mpr ⟨cw_cd8, List.forall_mem_cons.mpr ⟨cw_cd9, List.forall_mem_cons.mpr ⟨cw_cd10, List.forall_mem_cons.mpr ⟨cw_cd11, List.forall_mem_cons.mpr ⟨cw_cd12, List.forall_mem_cons.mpr ⟨cw_cd13, List.forall_mem_cons.mpr ⟨cw_cd14, List.forall_mem_cons.mpr ⟨cw_cd15, List.forall_mem_cons.mpr ⟨cw_cd16, List.forall_mem_cons.mpr ⟨cw_cd17, List.forall_mem_cons.mpr ⟨cw_cd18, List.forall_mem_cons.mpr ⟨cw_cd19, List.forall_mem_cons.mpr ⟨cw_cd20, List.forall_mem_cons.mpr ⟨cw_cd21, List.forall_mem_cons.mpr ⟨cw_cd22, List.forall_mem_cons.mpr ⟨cw_cd23, List.forall_mem_cons.mpr ⟨cw_cd24, List.forall_mem_cons.mpr ⟨cw_cd25, List.forall_mem_cons.mpr ⟨cw_cd26, List.forall_mem_cons.mpr ⟨cw_cd27, List.forall_mem_cons.mpr ⟨cw_cd28, List.forall_mem_cons.mpr ⟨cw_cd29, List.forall_mem_cons.mpr ⟨cw_cd30, List.forall_mem_cons.mpr ⟨cw_cd31, List.forall_mem_cons.mpr ⟨cw_cd32, List.forall_mem_cons.mpr ⟨cw_cd33, List.forall_mem_cons.mpr ⟨cw_cd34, List.forall_mem_cons.mpr ⟨cw_cd35, List.forall_mem_cons.mpr ⟨cw_cd36, List.forall_mem_cons.mpr ⟨cw_cd37, List.forall_mem_cons.mpr ⟨cw_cd38, List.forall_mem_cons.mpr ⟨cw_cd39, List.forall_mem_cons.mpr ⟨cw_cd40, List.forall_mem_cons.mpr ⟨cw_cd41, List.forall_mem_cons.mpr ⟨cw_cd42, List.forall_mem_cons.mpr ⟨cw_cd43, List.forall_mem_cons.mpr ⟨cw_cd44, List.forall_mem_cons.mpr ⟨cw_cd45, List.forall_mem_cons.mpr ⟨cw_cd46, List.forall_mem_cons.mpr ⟨cw_cd47, List.forall_mem_cons.mpr ⟨cw_cd48, List.forall_mem_cons.mpr ⟨cw_cd49, List.forall_mem_cons.mpr ⟨cw_cd50, List.forall_mem_cons.mpr ⟨cw_cd51, List.forall_mem_cons.mpr ⟨cw_cd52, List.forall_mem_cons.mpr ⟨cw_cd53, List.forall_mem_cons.mpr ⟨cw_cd54, List.forall_mem_cons.mpr ⟨cw_cd55, List.forall_mem_cons.mpr ⟨cw_cd56, List.forall_mem_cons.mpr ⟨cw_cd57, List.forall_mem_cons.mpr ⟨cw_cd58, List.forall_mem_cons.mpr ⟨cw_cd59, List.forall_mem_cons.mpr ⟨cw_cd60, List.forall_mem_cons.mpr ⟨cw_cd61, List.forall_mem_cons.mpr ⟨cw_cd62, List.forall_mem_cons.mpr ⟨cw_cd63, List.forall_mem_cons.mpr ⟨cw_cd64, List.forall_mem_cons.mpr ⟨cw_cd65, List.forall_mem_cons.mpr ⟨cw_cd66, List.forall_mem_cons.mpr ⟨cw_cd67, List.forall_mem_cons.mpr ⟨cw_cd68, List.forall_mem_cons.mpr ⟨cw_cd69, List.forall_mem_cons.mpr ⟨cw_cd70, List.forall_mem_cons.mpr ⟨cw_cd71, List.forall_mem_cons.mpr ⟨cw_cd72, List.forall_mem_cons.mpr ⟨cw_cd73, List.forall_mem_cons.mpr ⟨cw_cd74, List.forall_mem_cons.mpr ⟨cw_cd75, List.forall_mem_cons.mpr ⟨cw_cd76, List.forall_mem_cons.mpr ⟨cw_cd77, List.forall_mem_cons.mpr ⟨cw_cd78, List.forall_mem_cons.mpr ⟨cw_cd79, List.forall_mem_cons.mpr ⟨cw_cd80, List.forall_mem_cons.mpr ⟨cw_cd81, List.forall_mem_cons.mpr ⟨cw_cd82, List.forall_mem_cons.mpr ⟨cw_cd83, List.forall_mem_cons.mpr ⟨cw_cd84, List.forall_mem_cons.mpr ⟨cw_cd85, List.forall_mem_cons.mpr ⟨cw_cd86, List.forall_mem_cons.mpr ⟨cw_cd87, List.forall_mem_cons.mpr ⟨cw_cd88, List.forall_mem_cons.mpr ⟨cw_cd89, List.forall_mem_cons.mpr ⟨cw_cd90, List.forall_mem_cons.mpr ⟨cw_cd91, List.forall_mem_cons.mpr ⟨cw_cd92, List.forall_mem_cons.mpr ⟨cw_cd93, List.forall_mem_cons.mpr ⟨cw_cd94, List.forall_mem_cons.mpr ⟨cw_cd95, List.forall_mem_cons.mpr ⟨cw_cd96, List.forall_mem_cons.mpr ⟨cw_cd97, List.forall_mem_cons.mpr ⟨cw_cd98, List.forall_mem_cons.mpr ⟨cw_cd99, List.forall_mem_cons.mpr ⟨cw_cd100, List.forall_mem_cons.mpr ⟨cw_cd101, List.forall_mem_cons.mpr ⟨cw_cd102, List.forall_mem_cons.mpr ⟨cw_cd103, List.forall_mem_cons.mpr ⟨cw_cd104, List.forall_mem_cons.mpr ⟨cw_cd105, List.forall_mem_cons.mpr ⟨cw_cd106, List.forall_mem_cons.mpr ⟨cw_cd107, List.forall_mem_cons.mpr ⟨cw_cd108, List.forall_mem_cons.mpr ⟨cw_cd109, List.forall_mem_cons.mpr ⟨cw_cd110, List.forall_mem_cons.mpr ⟨cw_cd111, List.forall_mem_cons.mpr ⟨cw_cd112, List.forall_mem_cons.mpr ⟨cw_cd113, List.forall_mem_cons.mpr ⟨cw_cd114, List.forall_mem_cons.mpr ⟨cw_cd115, List.forall_mem_cons.mpr ⟨cw_cd116, List.forall_mem_cons.mpr ⟨cw_cd117, List.forall_mem_cons.mpr ⟨cw_cd118, List.forall_mem_cons.mpr ⟨cw_cd119, List.forall_mem_cons.mpr ⟨cw_cd120, List.forall_mem_cons.mpr ⟨cw_cd121, List.forall_mem_cons.mpr ⟨cw_cd122, List.forall_mem_cons.mpr ⟨cw_cd123, List.forall_mem_cons.mpr ⟨cw_cd124, List.forall_mem_cons.mpr ⟨cw_cd125, List.forall_mem_cons.mpr ⟨cw_cd126, List.forall_mem_cons.mpr ⟨cw_cd127, List.forall_mem_cons.mpr ⟨cw_cd128, List.forall_mem_cons.mpr ⟨cw_cd129, List.forall_mem_cons.mpr ⟨cw_cd130, List.forall_mem_cons.mpr ⟨cw_cd131, List.forall_mem_cons.mpr ⟨cw_cd132, List.forall_mem_cons.mpr ⟨cw_cd133, List.forall_mem_cons.mpr ⟨cw_cd134, List.forall_mem_cons.mpr ⟨cw_cd135, List.forall_mem_cons.mpr ⟨cw_cd136, List.forall_mem_cons.mpr ⟨cw_cd137, List.forall_mem_cons.mpr ⟨cw_cd138, List.forall_mem_cons.mpr ⟨cw_cd139, List.forall_mem_cons.mpr ⟨cw_cd140, List.forall_mem_cons.mpr ⟨cw_cd141, List.forall_mem_cons.mpr ⟨cw_cd142, List.forall_mem_cons.mpr ⟨cw_cd143, List.forall_mem_cons.mpr ⟨cw_cd144, List.forall_mem_cons.mpr ⟨cw_cd145, List.forall_mem_cons.mpr ⟨cw_cd146, List.forall_mem_cons.mpr ⟨cw_cd147, List.forall_mem_cons.mpr ⟨cw_cd148, List.forall_mem_cons.mpr ⟨cw_cd149, List.forall_mem_cons.mpr ⟨cw_cd150, List.forall_mem_cons.mpr ⟨cw_cd151, List.forall_mem_cons.mpr ⟨cw_cd152, List.forall_mem_cons.mpr ⟨cw_cd153, List.forall_mem_cons.mpr ⟨cw_cd154, List.forall_mem_cons.mpr ⟨cw_cd155, List.forall_mem_cons.mpr ⟨cw_cd156, List.forall_mem_cons.mpr ⟨cw_cd157, List.forall_mem_cons.mpr ⟨cw_cd158, List.forall_mem_cons.mpr ⟨cw_cd159, List.forall_mem_cons.mpr ⟨cw_cd160, List.forall_mem_cons.mpr ⟨cw_cd161, List.forall_mem_cons.mpr ⟨cw_cd162, List.forall_mem_cons.mpr ⟨cw_cd163, List.forall_mem_cons.mpr ⟨cw_cd164, List.forall_mem_cons.mpr ⟨cw_cd165, List.forall_mem_cons.mpr ⟨cw_cd166, List.forall_mem_cons.mpr ⟨cw_cd167, List.forall_mem_cons.mpr ⟨cw_cd168, List.forall_mem_cons.mpr ⟨cw_cd169, List.forall_mem_cons.mpr ⟨cw_cd170, List.forall_mem_cons.mpr ⟨cw_cd171, List.forall_mem_cons.mpr ⟨cw_cd172, List.forall_mem_cons.mpr ⟨cw_cd173, List.forall_mem_cons.mpr ⟨cw_cd174, List.forall_mem_cons.mpr ⟨cw_cd175, List.forall_mem_cons.mpr ⟨cw_cd176, List.forall_mem_cons.mpr ⟨cw_cd177, List.forall_mem_cons.mpr ⟨cw_cd178, List.forall_mem_cons.mpr ⟨cw_cd179, List.forall_mem_cons.mpr ⟨cw_cd180, List.forall_mem_cons.mpr ⟨cw_cd181, List.forall_mem_cons.mpr ⟨cw_cd182, List.forall_mem_cons.mpr ⟨cw_cd183, List.forall_mem_cons.mpr ⟨cw_cd184, List.forall_mem_cons.mpr ⟨cw_cd185, List.forall_mem_cons.mpr ⟨cw_cd186, List.forall_mem_cons.mpr ⟨cw_cd187, List.forall_mem_cons.mpr ⟨cw_cd188, List.forall_mem_cons.mpr ⟨cw_cd189, List.forall_mem_cons.mpr ⟨cw_cd190, List.forall_mem_cons.mpr ⟨cw_cd191, List.forall_mem_cons.mpr ⟨cw_cd192, List.forall_mem_cons.mpr ⟨cw_cd193, List.forall_mem_cons.mpr ⟨cw_cd194, fun _ h => absurd h List.not_mem_nil⟩⟩⟩⟩⟩⟩⟩⟩⟩⟩⟩⟩⟩⟩⟩⟩⟩⟩⟩⟩⟩⟩⟩⟩⟩⟩⟩⟩⟩⟩⟩⟩⟩⟩⟩⟩⟩⟩⟩⟩⟩⟩⟩⟩⟩⟩⟩⟩⟩⟩⟩⟩⟩⟩⟩⟩⟩⟩⟩⟩⟩⟩⟩⟩⟩⟩⟩⟩⟩⟩⟩⟩⟩⟩⟩⟩⟩⟩⟩⟩⟩⟩⟩⟩⟩⟩⟩⟩⟩⟩⟩⟩⟩⟩⟩⟩⟩⟩⟩⟩⟩⟩⟩⟩⟩⟩⟩⟩⟩⟩⟩⟩⟩⟩⟩⟩⟩⟩⟩⟩⟩⟩⟩⟩⟩⟩⟩⟩⟩⟩⟩⟩⟩⟩⟩⟩⟩⟩⟩⟩⟩⟩⟩⟩⟩⟩⟩⟩⟩⟩⟩⟩⟩⟩⟩⟩⟩⟩⟩⟩⟩⟩⟩⟩⟩⟩⟩⟩⟩⟩⟩⟩⟩⟩⟩⟩⟩⟩⟩⟩⟩⟩⟩⟩⟩⟩⟩⟩⟩⟩⟩⟩⟩⟩⟩
theorem cw_init_in : ∀ q ∈ cw_ml, Cond.initialized q.1.cls ∈ cw_t := fun q hq => cw_t_in (goodIn_r (cw_ml.map fun q => Cond.initialized q.1.cls) [77, 77, 77, 74, 74, 74, 74, 74, 73, 73, 73, 75, 75, 75, 75, 75, 75, 75, 75, 76, 76, 76, 76, 76, 76, 78, 78, 78, 78, 78, 78, 78, 78, 78, 71, 71, 71, 71, 71, 71, 71, 71, 71, 71, 71, 71, 71, 71, 71, 71, 71, 71, 71, 71, 71, 71, 71, 71, 71, 71, 72, 72, 72, 72, 72, 72, 70, 70, 70, 70, 70, 70, 70, 70, 70, 70, 70, 70, 70, 70, 70, 70, 70, 70, 70, 70, 70, 70, 70, 70, 70, 70, 70, 70, 70, 70, 70, 70, 70, 70, 70, 70, 70, 70, 70, 70, 70, 70, 70, 70, 80, 80, 80, 80, 80, 80, 80, 80, 80, 80, 80, 80, 80, 80, 80, 80, 80, 80, 80, 80, 80, 80, 80, 80, 80, 80, 80, 80, 80, 80, 80, 80, 80, 80, 80, 80, 80, 80, 80, 80, 80, 80, 80, 80, 80, 80, 80, 80, 80, 80, 80, 80, 80, 80, 80, 80, 80, 80, 80, 80, 80, 80, 80, 80, 80, 80, 80, 80, 80, 80, 80, 80, 80, 80, 80, 80, 80, 80, 80, 80, 80, 80, 80, 80, 80] (by decide +kernel) (by decide +kernel) _ (List.mem_map.mpr ⟨q, hq, rfl⟩)).1 rfl
theorem cw_plain : cw_ml.all (fun q => plainName q.1.cls && (q.1.cls != "java/lang/invoke/MethodHandle") && (q.1.cls != "java/lang/invoke/VarHandle") && decide ((parseMethodDescriptor q.1.desc).map (fun d => d.parameters.length) = some q.2.2.2.2)) = true := by decide +kernel
abbrev m_History_init : Nat := 0
abbrev m_History_save : Nat := 1
abbrev m_History_restore : Nat := 2
abbrev m_Merge_init : Nat := 3
abbrev m_Merge_weigh : Nat := 4
abbrev m_Merge_gapBetween : Nat := 5
abbrev m_Merge_leadOf : Nat := 6
abbrev m_Merge_join : Nat := 7
abbrev m_Part_init : Nat := 8
abbrev m_Part_setSink : Nat := 9
abbrev m_Part_capacity : Nat := 10
abbrev m_Places_init : Nat := 11
abbrev m_Places_embed : Nat := 12
abbrev m_Places_setTop : Nat := 13
abbrev m_Places_setChild : Nat := 14
abbrev m_Places_setSpread : Nat := 15
abbrev m_Places_arrivalOf : Nat := 16
abbrev m_Places_delayOf : Nat := 17
abbrev m_Places_movedInto : Nat := 18
abbrev m_Search_init : Nat := 19
abbrev m_Search_bestGraft : Nat := 20
abbrev m_Search_bestExchange : Nat := 21
abbrev m_Search_findLeast : Nat := 22
abbrev m_Search_growTrees : Nat := 23
abbrev m_Search_countTree : Nat := 24
abbrev m_Text_init : Nat := 25
abbrev m_Text_append : Nat := 26
abbrev m_Text_parse : Nat := 27
abbrev m_Text_accepts : Nat := 28
abbrev m_Text_opens : Nat := 29
abbrev m_Text_closes : Nat := 30
abbrev m_Text_takesSink : Nat := 31
abbrev m_Text_wantsPart : Nat := 32
abbrev m_Text_addPart : Nat := 33
abbrev m_Tree_init : Nat := 34
abbrev m_Tree_copyFrom : Nat := 35
abbrev m_Tree_hasSink : Nat := 36
abbrev m_Tree_hasNode : Nat := 37
abbrev m_Tree_isJoint : Nat := 38
abbrev m_Tree_isTop : Nat := 39
abbrev m_Tree_leftOf : Nat := 40
abbrev m_Tree_rightOf : Nat := 41
abbrev m_Tree_parentOf : Nat := 42
abbrev m_Tree_jointCount : Nat := 43
abbrev m_Tree_sinkAt : Nat := 44
abbrev m_Tree_sinkValue : Nat := 45
abbrev m_Tree_addSink : Nat := 46
abbrev m_Tree_moveSink : Nat := 47
abbrev m_Tree_touch : Nat := 48
abbrev m_Tree_touchedBefore : Nat := 49
abbrev m_Tree_removeJoints : Nat := 50
abbrev m_Tree_freeJoint : Nat := 51
abbrev m_Tree_addJoint : Nat := 52
abbrev m_Tree_replaceChild : Nat := 53
abbrev m_Tree_isWithin : Nat := 54
abbrev m_Tree_canGraft : Nat := 55
abbrev m_Tree_graft : Nat := 56
abbrev m_Tree_cut : Nat := 57
abbrev m_Tree_canExchange : Nat := 58
abbrev m_Tree_exchange : Nat := 59
abbrev m_Wires_init : Nat := 60
abbrev m_Wires_part : Nat := 61
abbrev m_Wires_measure : Nat := 62
abbrev m_Wires_listDownward : Nat := 63
abbrev m_Wires_list : Nat := 64
abbrev m_Wires_nearestPair : Nat := 65
abbrev m_CW_init : Nat := 66
abbrev m_CW_sink : Nat := 67
abbrev m_CW_moves : Nat := 68
abbrev m_CW_sets : Nat := 69
abbrev m_CW_skew : Nat := 70
abbrev m_CW_source : Nat := 71
abbrev m_CW_end : Nat := 72
abbrev m_CW_touched : Nat := 73
abbrev m_CW_at : Nat := 74
abbrev m_CW_joins : Nat := 75
abbrev m_CW_pairs : Nat := 76
abbrev m_CW_frees : Nat := 77
abbrev m_CW_cuts : Nat := 78
abbrev m_CW_grafts : Nat := 79
abbrev m_CW_exchanges : Nat := 80
abbrev m_CW_betters : Nat := 81
abbrev m_CW_node : Nat := 82
abbrev m_CW_would : Nat := 83
abbrev m_CW_nearest : Nat := 84
abbrev m_CW_tops : Nat := 85
abbrev m_CW_least : Nat := 86
abbrev m_CW_place : Nat := 87
abbrev m_CW_arrival : Nat := 88
abbrev m_CW_slow : Nat := 89
abbrev m_CW_total : Nat := 90
abbrev m_CW_type : Nat := 91
abbrev m_CW_clear : Nat := 92
abbrev m_CW_builds : Nat := 93
abbrev m_CW_shown : Nat := 94
abbrev m_CW_back : Nat := 95
abbrev m_CW_told : Nat := 96
abbrev m_CW_digest : Nat := 97
abbrev m_CW_refuse : Nat := 98
abbrev m_CW_refresh : Nat := 99
abbrev m_CW_exchangeAndCompare : Nat := 100
abbrev m_CW_nodeValue : Nat := 101
abbrev m_CW_totalValue : Nat := 102
abbrev m_CW_toldValue : Nat := 103
abbrev m_CW_shownByte : Nat := 104
abbrev m_CW_shownLength : Nat := 105
abbrev m_CW_isOnGrid : Nat := 106
abbrev m_CW_isSetting : Nat := 107
abbrev m_CW_gridDistance : Nat := 108
abbrev m_CW_distance : Nat := 109
abbrev m_Mo_init : Nat := 110
abbrev m_Mo_bad : Nat := 111
abbrev m_Mo_no : Nat := 112
abbrev m_Mo_full : Nat := 113
abbrev m_Mo_in : Nat := 114
abbrev m_Mo_greater : Nat := 115
abbrev m_Mo_lesser : Nat := 116
abbrev m_Mo_size : Nat := 117
abbrev m_Mo_isSink : Nat := 118
abbrev m_Mo_isNode : Nat := 119
abbrev m_Mo_isSpot : Nat := 120
abbrev m_Mo_isTop : Nat := 121
abbrev m_Mo_topMany : Nat := 122
abbrev m_Mo_isWithin : Nat := 123
abbrev m_Mo_replaces : Nat := 124
abbrev m_Mo_comes : Nat := 125
abbrev m_Mo_lays : Nat := 126
abbrev m_Mo_goes : Nat := 127
abbrev m_Mo_takesOff : Nat := 128
abbrev m_Mo_canExchange : Nat := 129
abbrev m_Mo_swaps : Nat := 130
abbrev m_Mo_noJoints : Nat := 131
abbrev m_Mo_laysAside : Nat := 132
abbrev m_Mo_takesBack : Nat := 133
abbrev m_Mo_leavesState : Nat := 134
abbrev m_Mo_back : Nat := 135
abbrev m_Mo_reckons : Nat := 136
abbrev m_Mo_tellsSink : Nat := 137
abbrev m_Mo_tellsJoint : Nat := 138
abbrev m_Mo_tellsAll : Nat := 139
abbrev m_Mo_costOfAll : Nat := 140
abbrev m_Mo_into : Nat := 141
abbrev m_Mo_settles : Nat := 142
abbrev m_Mo_areLaid : Nat := 143
abbrev m_Mo_trunk : Nat := 144
abbrev m_Mo_loop : Nat := 145
abbrev m_Mo_arrives : Nat := 146
abbrev m_Mo_isAt : Nat := 147
abbrev m_Mo_touches : Nat := 148
abbrev m_Mo_apart : Nat := 149
abbrev m_Mo_sink : Nat := 150
abbrev m_Mo_moves : Nat := 151
abbrev m_Mo_sets : Nat := 152
abbrev m_Mo_skew : Nat := 153
abbrev m_Mo_source : Nat := 154
abbrev m_Mo_end : Nat := 155
abbrev m_Mo_touched : Nat := 156
abbrev m_Mo_at : Nat := 157
abbrev m_Mo_joins : Nat := 158
abbrev m_Mo_findsPair : Nat := 159
abbrev m_Mo_pairs : Nat := 160
abbrev m_Mo_frees : Nat := 161
abbrev m_Mo_cuts : Nat := 162
abbrev m_Mo_bestFor : Nat := 163
abbrev m_Mo_grafts : Nat := 164
abbrev m_Mo_exchanges : Nat := 165
abbrev m_Mo_betters : Nat := 166
abbrev m_Mo_about : Nat := 167
abbrev m_Mo_node : Nat := 168
abbrev m_Mo_would : Nat := 169
abbrev m_Mo_nearest : Nat := 170
abbrev m_Mo_tops : Nat := 171
abbrev m_Mo_growsBy : Nat := 172
abbrev m_Mo_least : Nat := 173
abbrev m_Mo_place : Nat := 174
abbrev m_Mo_arrival : Nat := 175
abbrev m_Mo_below : Nat := 176
abbrev m_Mo_slow : Nat := 177
abbrev m_Mo_loops : Nat := 178
abbrev m_Mo_spread : Nat := 179
abbrev m_Mo_totalBy : Nat := 180
abbrev m_Mo_total : Nat := 181
abbrev m_Mo_type : Nat := 182
abbrev m_Mo_clear : Nat := 183
abbrev m_Mo_here : Nat := 184
abbrev m_Mo_tells : Nat := 185
abbrev m_Mo_reads : Nat := 186
abbrev m_Mo_readsAll : Nat := 187
abbrev m_Mo_builds : Nat := 188
abbrev m_Mo_byteOf : Nat := 189
abbrev m_Mo_shown : Nat := 190
abbrev m_Mo_toldBy : Nat := 191
abbrev m_Mo_jointMany : Nat := 192
abbrev m_Mo_told : Nat := 193
abbrev m_Mo_digest : Nat := 194
