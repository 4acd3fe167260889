def RX0 : String := "Spurline$Contours"
def TX0 : u_T := fun k => match k with
  | 0 => ("Spurline$Contours", "terrain", "LSpurline$Terrain;", true)
  | 1 => ("Spurline$Contours", "leaders", "LSpurline$Row;", true)
  | 2 => ("Spurline$Contours", "sizes", "LSpurline$Row;", true)
  | 3 => ("Spurline$Contours", "openEnds", "LSpurline$Row;", true)
  | _ => ("Spurline$Contours", "level", "I", false)
def tyX0 : Nat → FieldType := fun k => match k with
  | 0 => .object "Spurline$Terrain"
  | 1 => .object "Spurline$Row"
  | 2 => .object "Spurline$Row"
  | 3 => .object "Spurline$Row"
  | _ => .int
abbrev wsX00 : List Cond := u_ws RX0 TX0 5
theorem nmX0 : ∀ a, a < 5 → ∀ b, b < 5 → a ≠ b → (TX0 a).2.1 ≠ (TX0 b).2.1 := by decide +kernel
theorem tyX0_ok : ∀ k, k < 5 → parseFieldDescriptor (TX0 k).2.2.1 = some (tyX0 k) := by decide +kernel
abbrev cX0_init : ByteArray := prog_2_method_1_code
def yX0_init : MethodName := ⟨RX0, "<init>", "(LSpurline$Terrain;)V"⟩
abbrev cX0_trace : ByteArray := prog_2_method_2_code
def yX0_trace : MethodName := ⟨RX0, "trace", "(I)V"⟩
abbrev cX0_lineCount : ByteArray := prog_2_method_3_code
def yX0_lineCount : MethodName := ⟨RX0, "lineCount", "()I"⟩
abbrev cX0_ringCount : ByteArray := prog_2_method_4_code
def yX0_ringCount : MethodName := ⟨RX0, "ringCount", "()I"⟩
abbrev cX0_mostGaps : ByteArray := prog_2_method_5_code
def yX0_mostGaps : MethodName := ⟨RX0, "mostGaps", "()I"⟩
abbrev cX0_gapToTheRight : ByteArray := prog_2_method_6_code
def yX0_gapToTheRight : MethodName := ⟨RX0, "gapToTheRight", "(II)I"⟩
abbrev cX0_gapBelow : ByteArray := prog_2_method_7_code
def yX0_gapBelow : MethodName := ⟨RX0, "gapBelow", "(II)I"⟩
abbrev cX0_isHigh : ByteArray := prog_2_method_8_code
def yX0_isHigh : MethodName := ⟨RX0, "isHigh", "(II)Z"⟩
abbrev cX0_isGap : ByteArray := prog_2_method_9_code
def yX0_isGap : MethodName := ⟨RX0, "isGap", "(I)Z"⟩
abbrev cX0_findGaps : ByteArray := prog_2_method_10_code
def yX0_findGaps : MethodName := ⟨RX0, "findGaps", "()V"⟩
abbrev cX0_joinGaps : ByteArray := prog_2_method_11_code
def yX0_joinGaps : MethodName := ⟨RX0, "joinGaps", "()V"⟩
abbrev cX0_joinInSquare : ByteArray := prog_2_method_12_code
def yX0_joinInSquare : MethodName := ⟨RX0, "joinInSquare", "(II)V"⟩
abbrev cX0_joinsLowCells : ByteArray := prog_2_method_13_code
def yX0_joinsLowCells : MethodName := ⟨RX0, "joinsLowCells", "(II)Z"⟩
abbrev cX0_join : ByteArray := prog_2_method_14_code
def yX0_join : MethodName := ⟨RX0, "join", "(II)V"⟩
abbrev cX0_leaderOf : ByteArray := prog_2_method_15_code
def yX0_leaderOf : MethodName := ⟨RX0, "leaderOf", "(I)I"⟩
abbrev cX0_measureLines : ByteArray := prog_2_method_16_code
def yX0_measureLines : MethodName := ⟨RX0, "measureLines", "()V"⟩
abbrev cX0_measureGap : ByteArray := prog_2_method_17_code
def yX0_measureGap : MethodName := ⟨RX0, "measureGap", "(IZ)V"⟩
def RX1 : String := "Spurline$Controls"
def TX1 : u_T := fun k => match k with
  | 0 => ("Spurline$Controls", "cells", "LSpurline$Row;", true)
  | 1 => ("Spurline$Controls", "failed", "LSpurline$Row;", true)
  | _ => ("Spurline$Controls", "count", "I", false)
def tyX1 : Nat → FieldType := fun k => match k with
  | 0 => .object "Spurline$Row"
  | 1 => .object "Spurline$Row"
  | _ => .int
abbrev wsX10 : List Cond := u_ws RX1 TX1 3
theorem nmX1 : ∀ a, a < 3 → ∀ b, b < 3 → a ≠ b → (TX1 a).2.1 ≠ (TX1 b).2.1 := by decide +kernel
theorem tyX1_ok : ∀ k, k < 3 → parseFieldDescriptor (TX1 k).2.2.1 = some (tyX1 k) := by decide +kernel
abbrev cX1_init : ByteArray := prog_3_method_1_code
def yX1_init : MethodName := ⟨RX1, "<init>", "()V"⟩
abbrev cX1_count : ByteArray := prog_3_method_2_code
def yX1_count : MethodName := ⟨RX1, "count", "()I"⟩
abbrev cX1_cellOf : ByteArray := prog_3_method_3_code
def yX1_cellOf : MethodName := ⟨RX1, "cellOf", "(I)I"⟩
abbrev cX1_hasFailed : ByteArray := prog_3_method_4_code
def yX1_hasFailed : MethodName := ⟨RX1, "hasFailed", "(I)Z"⟩
abbrev cX1_standsIn : ByteArray := prog_3_method_5_code
def yX1_standsIn : MethodName := ⟨RX1, "standsIn", "(I)Z"⟩
abbrev cX1_add : ByteArray := prog_3_method_6_code
def yX1_add : MethodName := ⟨RX1, "add", "(I)I"⟩
abbrev cX1_replaceFailed : ByteArray := prog_3_method_7_code
def yX1_replaceFailed : MethodName := ⟨RX1, "replaceFailed", "(IZ)Z"⟩
def RX2 : String := "Spurline$Courses"
def TX2 : u_T := fun k => match k with
  | 0 => ("Spurline$Courses", "controls", "LSpurline$Row;", true)
  | _ => ("Spurline$Courses", "lengths", "LSpurline$Row;", true)
def tyX2 : Nat → FieldType := fun k => match k with
  | 0 => .object "Spurline$Row"
  | _ => .object "Spurline$Row"
abbrev wsX20 : List Cond := u_ws RX2 TX2 2
theorem nmX2 : ∀ a, a < 2 → ∀ b, b < 2 → a ≠ b → (TX2 a).2.1 ≠ (TX2 b).2.1 := by decide +kernel
theorem tyX2_ok : ∀ k, k < 2 → parseFieldDescriptor (TX2 k).2.2.1 = some (tyX2 k) := by decide +kernel
abbrev cX2_init : ByteArray := prog_4_method_1_code
def yX2_init : MethodName := ⟨RX2, "<init>", "()V"⟩
abbrev cX2_length : ByteArray := prog_4_method_2_code
def yX2_length : MethodName := ⟨RX2, "length", "(I)I"⟩
abbrev cX2_legs : ByteArray := prog_4_method_3_code
def yX2_legs : MethodName := ⟨RX2, "legs", "(I)I"⟩
abbrev cX2_controlAt : ByteArray := prog_4_method_4_code
def yX2_controlAt : MethodName := ⟨RX2, "controlAt", "(II)I"⟩
abbrev cX2_finish : ByteArray := prog_4_method_5_code
def yX2_finish : MethodName := ⟨RX2, "finish", "(I)I"⟩
abbrev cX2_contains : ByteArray := prog_4_method_6_code
def yX2_contains : MethodName := ⟨RX2, "contains", "(II)Z"⟩
abbrev cX2_beginsOrEndsOne : ByteArray := prog_4_method_7_code
def yX2_beginsOrEndsOne : MethodName := ⟨RX2, "beginsOrEndsOne", "(I)Z"⟩
abbrev cX2_append : ByteArray := prog_4_method_8_code
def yX2_append : MethodName := ⟨RX2, "append", "(II)I"⟩
abbrev cX2_replaceControl : ByteArray := prog_4_method_9_code
def yX2_replaceControl : MethodName := ⟨RX2, "replaceControl", "(III)V"⟩
def RX3 : String := "Spurline$Entries"
def TX3 : u_T := fun k => match k with
  | 0 => ("Spurline$Entries", "klasses", "LSpurline$Row;", true)
  | 1 => ("Spurline$Entries", "clubs", "LSpurline$Row;", true)
  | 2 => ("Spurline$Entries", "lots", "LSpurline$Row;", true)
  | 3 => ("Spurline$Entries", "starts", "LSpurline$Row;", true)
  | 4 => ("Spurline$Entries", "punchCounts", "LSpurline$Row;", true)
  | 5 => ("Spurline$Entries", "punchedControls", "LSpurline$Row;", true)
  | 6 => ("Spurline$Entries", "punchedMinutes", "LSpurline$Row;", true)
  | 7 => ("Spurline$Entries", "count", "I", false)
  | _ => ("Spurline$Entries", "drawn", "Z", false)
def tyX3 : Nat → FieldType := fun k => match k with
  | 0 => .object "Spurline$Row"
  | 1 => .object "Spurline$Row"
  | 2 => .object "Spurline$Row"
  | 3 => .object "Spurline$Row"
  | 4 => .object "Spurline$Row"
  | 5 => .object "Spurline$Row"
  | 6 => .object "Spurline$Row"
  | 7 => .int
  | _ => .boolean
abbrev wsX30 : List Cond := u_ws RX3 TX3 9
theorem nmX3 : ∀ a, a < 9 → ∀ b, b < 9 → a ≠ b → (TX3 a).2.1 ≠ (TX3 b).2.1 := by decide +kernel
theorem tyX3_ok : ∀ k, k < 9 → parseFieldDescriptor (TX3 k).2.2.1 = some (tyX3 k) := by decide +kernel
abbrev cX3_init : ByteArray := prog_5_method_1_code
def yX3_init : MethodName := ⟨RX3, "<init>", "()V"⟩
abbrev cX3_count : ByteArray := prog_5_method_2_code
def yX3_count : MethodName := ⟨RX3, "count", "()I"⟩
abbrev cX3_areDrawn : ByteArray := prog_5_method_3_code
def yX3_areDrawn : MethodName := ⟨RX3, "areDrawn", "()Z"⟩
abbrev cX3_klassOf : ByteArray := prog_5_method_4_code
def yX3_klassOf : MethodName := ⟨RX3, "klassOf", "(I)I"⟩
abbrev cX3_startMinute : ByteArray := prog_5_method_5_code
def yX3_startMinute : MethodName := ⟨RX3, "startMinute", "(I)I"⟩
abbrev cX3_add : ByteArray := prog_5_method_6_code
def yX3_add : MethodName := ⟨RX3, "add", "(II)I"⟩
abbrev cX3_drawStarts : ByteArray := prog_5_method_7_code
def yX3_drawStarts : MethodName := ⟨RX3, "drawStarts", "(II)I"⟩
abbrev cX3_startKlass : ByteArray := prog_5_method_8_code
def yX3_startKlass : MethodName := ⟨RX3, "startKlass", "(II)I"⟩
abbrev cX3_leastLot : ByteArray := prog_5_method_9_code
def yX3_leastLot : MethodName := ⟨RX3, "leastLot", "(II)I"⟩
abbrev cX3_punchCount : ByteArray := prog_5_method_10_code
def yX3_punchCount : MethodName := ⟨RX3, "punchCount", "(I)I"⟩
abbrev cX3_punchedControl : ByteArray := prog_5_method_11_code
def yX3_punchedControl : MethodName := ⟨RX3, "punchedControl", "(II)I"⟩
abbrev cX3_punchedMinute : ByteArray := prog_5_method_12_code
def yX3_punchedMinute : MethodName := ⟨RX3, "punchedMinute", "(II)I"⟩
abbrev cX3_earliestPunch : ByteArray := prog_5_method_13_code
def yX3_earliestPunch : MethodName := ⟨RX3, "earliestPunch", "(I)I"⟩
abbrev cX3_addPunch : ByteArray := prog_5_method_14_code
def yX3_addPunch : MethodName := ⟨RX3, "addPunch", "(III)V"⟩
abbrev cX3_hasPunched : ByteArray := prog_5_method_15_code
def yX3_hasPunched : MethodName := ⟨RX3, "hasPunched", "(II)Z"⟩
def RX4 : String := "Spurline$Planner"
def TX4 : u_T := fun k => match k with
  | 0 => ("Spurline$Planner", "routes", "LSpurline$Routes;", true)
  | 1 => ("Spurline$Planner", "controls", "LSpurline$Controls;", true)
  | 2 => ("Spurline$Planner", "courses", "LSpurline$Courses;", true)
  | 3 => ("Spurline$Planner", "legCosts", "LSpurline$Row;", true)
  | 4 => ("Spurline$Planner", "legClimbs", "LSpurline$Row;", true)
  | 5 => ("Spurline$Planner", "order", "LSpurline$Row;", true)
  | 6 => ("Spurline$Planner", "bestOrder", "LSpurline$Row;", true)
  | 7 => ("Spurline$Planner", "length", "I", false)
  | 8 => ("Spurline$Planner", "bestOff", "I", false)
  | 9 => ("Spurline$Planner", "bestCost", "I", false)
  | 10 => ("Spurline$Planner", "measuredCost", "I", false)
  | _ => ("Spurline$Planner", "measuredClimb", "I", false)
def tyX4 : Nat → FieldType := fun k => match k with
  | 0 => .object "Spurline$Routes"
  | 1 => .object "Spurline$Controls"
  | 2 => .object "Spurline$Courses"
  | 3 => .object "Spurline$Row"
  | 4 => .object "Spurline$Row"
  | 5 => .object "Spurline$Row"
  | 6 => .object "Spurline$Row"
  | 7 => .int
  | 8 => .int
  | 9 => .int
  | 10 => .int
  | _ => .int
abbrev wsX40 : List Cond := u_ws RX4 TX4 12
theorem nmX4 : ∀ a, a < 12 → ∀ b, b < 12 → a ≠ b → (TX4 a).2.1 ≠ (TX4 b).2.1 := by decide +kernel
theorem tyX4_ok : ∀ k, k < 12 → parseFieldDescriptor (TX4 k).2.2.1 = some (tyX4 k) := by decide +kernel
abbrev cX4_init : ByteArray := prog_6_method_1_code
def yX4_init : MethodName := ⟨RX4, "<init>", "(LSpurline$Routes;LSpurline$Controls;LSpurline$Courses;)V"⟩
abbrev cX4_measuredCost : ByteArray := prog_6_method_2_code
def yX4_measuredCost : MethodName := ⟨RX4, "measuredCost", "()I"⟩
abbrev cX4_measuredClimb : ByteArray := prog_6_method_3_code
def yX4_measuredClimb : MethodName := ⟨RX4, "measuredClimb", "()I"⟩
abbrev cX4_measure : ByteArray := prog_6_method_4_code
def yX4_measure : MethodName := ⟨RX4, "measure", "(I)V"⟩
abbrev cX4_differenceOfClimbs : ByteArray := prog_6_method_5_code
def yX4_differenceOfClimbs : MethodName := ⟨RX4, "differenceOfClimbs", "()I"⟩
abbrev cX4_reorder : ByteArray := prog_6_method_6_code
def yX4_reorder : MethodName := ⟨RX4, "reorder", "(II)V"⟩
abbrev cX4_takeOrder : ByteArray := prog_6_method_7_code
def yX4_takeOrder : MethodName := ⟨RX4, "takeOrder", "(I)V"⟩
abbrev cX4_sortBetweenEnds : ByteArray := prog_6_method_8_code
def yX4_sortBetweenEnds : MethodName := ⟨RX4, "sortBetweenEnds", "()V"⟩
abbrev cX4_swap : ByteArray := prog_6_method_9_code
def yX4_swap : MethodName := ⟨RX4, "swap", "(II)V"⟩
abbrev cX4_measureLegs : ByteArray := prog_6_method_10_code
def yX4_measureLegs : MethodName := ⟨RX4, "measureLegs", "()V"⟩
abbrev cX4_legNumber : ByteArray := prog_6_method_11_code
def yX4_legNumber : MethodName := ⟨RX4, "legNumber", "(II)I"⟩
abbrev cX4_judgeOrder : ByteArray := prog_6_method_12_code
def yX4_judgeOrder : MethodName := ⟨RX4, "judgeOrder", "(I)V"⟩
abbrev cX4_keepOrder : ByteArray := prog_6_method_13_code
def yX4_keepOrder : MethodName := ⟨RX4, "keepOrder", "(II)V"⟩
abbrev cX4_goToNextOrder : ByteArray := prog_6_method_14_code
def yX4_goToNextOrder : MethodName := ⟨RX4, "goToNextOrder", "()Z"⟩
def RX5 : String := "Spurline$Results"
def TX5 : u_T := fun k => match k with
  | 0 => ("Spurline$Results", "controls", "LSpurline$Controls;", true)
  | 1 => ("Spurline$Results", "courses", "LSpurline$Courses;", true)
  | 2 => ("Spurline$Results", "entries", "LSpurline$Entries;", true)
  | 3 => ("Spurline$Results", "minutes", "LSpurline$Row;", true)
  | 4 => ("Spurline$Results", "splits", "LSpurline$Row;", true)
  | 5 => ("Spurline$Results", "counted", "LSpurline$Row;", true)
  | 6 => ("Spurline$Results", "states", "LSpurline$Row;", true)
  | _ => ("Spurline$Results", "totals", "LSpurline$Row;", true)
def tyX5 : Nat → FieldType := fun k => match k with
  | 0 => .object "Spurline$Controls"
  | 1 => .object "Spurline$Courses"
  | 2 => .object "Spurline$Entries"
  | 3 => .object "Spurline$Row"
  | 4 => .object "Spurline$Row"
  | 5 => .object "Spurline$Row"
  | 6 => .object "Spurline$Row"
  | _ => .object "Spurline$Row"
abbrev wsX50 : List Cond := u_ws RX5 TX5 8
theorem nmX5 : ∀ a, a < 8 → ∀ b, b < 8 → a ≠ b → (TX5 a).2.1 ≠ (TX5 b).2.1 := by decide +kernel
theorem tyX5_ok : ∀ k, k < 8 → parseFieldDescriptor (TX5 k).2.2.1 = some (tyX5 k) := by decide +kernel
abbrev cX5_init : ByteArray := prog_7_method_1_code
def yX5_init : MethodName := ⟨RX5, "<init>", "(LSpurline$Controls;LSpurline$Courses;LSpurline$Entries;)V"⟩
abbrev cX5_reckon : ByteArray := prog_7_method_2_code
def yX5_reckon : MethodName := ⟨RX5, "reckon", "()V"⟩
abbrev cX5_countedPunches : ByteArray := prog_7_method_3_code
def yX5_countedPunches : MethodName := ⟨RX5, "countedPunches", "(I)I"⟩
abbrev cX5_state : ByteArray := prog_7_method_4_code
def yX5_state : MethodName := ⟨RX5, "state", "(I)I"⟩
abbrev cX5_totalMinutes : ByteArray := prog_7_method_5_code
def yX5_totalMinutes : MethodName := ⟨RX5, "totalMinutes", "(I)I"⟩
abbrev cX5_splitMinutes : ByteArray := prog_7_method_6_code
def yX5_splitMinutes : MethodName := ⟨RX5, "splitMinutes", "(II)I"⟩
abbrev cX5_place : ByteArray := prog_7_method_7_code
def yX5_place : MethodName := ⟨RX5, "place", "(I)I"⟩
abbrev cX5_lostMinutes : ByteArray := prog_7_method_8_code
def yX5_lostMinutes : MethodName := ⟨RX5, "lostMinutes", "(II)I"⟩
abbrev cX5_followPunches : ByteArray := prog_7_method_9_code
def yX5_followPunches : MethodName := ⟨RX5, "followPunches", "(I)V"⟩
abbrev cX5_nextToCount : ByteArray := prog_7_method_10_code
def yX5_nextToCount : MethodName := ⟨RX5, "nextToCount", "(II)I"⟩
abbrev cX5_reckonSplits : ByteArray := prog_7_method_11_code
def yX5_reckonSplits : MethodName := ⟨RX5, "reckonSplits", "(I)V"⟩
abbrev cX5_isVoid : ByteArray := prog_7_method_12_code
def yX5_isVoid : MethodName := ⟨RX5, "isVoid", "(II)Z"⟩
abbrev cX5_pace : ByteArray := prog_7_method_13_code
def yX5_pace : MethodName := ⟨RX5, "pace", "(I)I"⟩
abbrev cX5_bestSplit : ByteArray := prog_7_method_14_code
def yX5_bestSplit : MethodName := ⟨RX5, "bestSplit", "(II)I"⟩
abbrev cX5_splitBetween : ByteArray := prog_7_method_15_code
def yX5_splitBetween : MethodName := ⟨RX5, "splitBetween", "(III)I"⟩
def RX6 : String := "Spurline$Routes"
def TX6 : u_T := fun k => match k with
  | 0 => ("Spurline$Routes", "terrain", "LSpurline$Terrain;", true)
  | 1 => ("Spurline$Routes", "costs", "LSpurline$Row;", true)
  | 2 => ("Spurline$Routes", "climbs", "LSpurline$Row;", true)
  | 3 => ("Spurline$Routes", "waiting", "LSpurline$Row;", true)
  | _ => ("Spurline$Routes", "waitingCount", "I", false)
def tyX6 : Nat → FieldType := fun k => match k with
  | 0 => .object "Spurline$Terrain"
  | 1 => .object "Spurline$Row"
  | 2 => .object "Spurline$Row"
  | 3 => .object "Spurline$Row"
  | _ => .int
abbrev wsX60 : List Cond := u_ws RX6 TX6 5
theorem nmX6 : ∀ a, a < 5 → ∀ b, b < 5 → a ≠ b → (TX6 a).2.1 ≠ (TX6 b).2.1 := by decide +kernel
theorem tyX6_ok : ∀ k, k < 5 → parseFieldDescriptor (TX6 k).2.2.1 = some (tyX6 k) := by decide +kernel
abbrev cX6_init : ByteArray := prog_8_method_1_code
def yX6_init : MethodName := ⟨RX6, "<init>", "(LSpurline$Terrain;)V"⟩
abbrev cX6_costTo : ByteArray := prog_8_method_2_code
def yX6_costTo : MethodName := ⟨RX6, "costTo", "(I)I"⟩
abbrev cX6_climbTo : ByteArray := prog_8_method_3_code
def yX6_climbTo : MethodName := ⟨RX6, "climbTo", "(I)I"⟩
abbrev cX6_search : ByteArray := prog_8_method_4_code
def yX6_search : MethodName := ⟨RX6, "search", "(IZ)V"⟩
abbrev cX6_searchByCells : ByteArray := prog_8_method_5_code
def yX6_searchByCells : MethodName := ⟨RX6, "searchByCells", "(I)V"⟩
abbrev cX6_begin : ByteArray := prog_8_method_6_code
def yX6_begin : MethodName := ⟨RX6, "begin", "(I)V"⟩
abbrev cX6_takeNearest : ByteArray := prog_8_method_7_code
def yX6_takeNearest : MethodName := ⟨RX6, "takeNearest", "()I"⟩
abbrev cX6_goOn : ByteArray := prog_8_method_8_code
def yX6_goOn : MethodName := ⟨RX6, "goOn", "(IZ)V"⟩
abbrev cX6_offer : ByteArray := prog_8_method_9_code
def yX6_offer : MethodName := ⟨RX6, "offer", "(III)V"⟩
abbrev cX6_cheapen : ByteArray := prog_8_method_10_code
def yX6_cheapen : MethodName := ⟨RX6, "cheapen", "(I)Z"⟩
def RX7 : String := "Spurline$Row"
def TX7 : u_T := fun k => match k with
  | _ => ("Spurline$Row", "numbers", "[I", true)
def tyX7 : Nat → FieldType := fun k => match k with
  | _ => .array .int
abbrev wsX70 : List Cond := u_ws RX7 TX7 1
theorem nmX7 : ∀ a, a < 1 → ∀ b, b < 1 → a ≠ b → (TX7 a).2.1 ≠ (TX7 b).2.1 := by decide +kernel
theorem tyX7_ok : ∀ k, k < 1 → parseFieldDescriptor (TX7 k).2.2.1 = some (tyX7 k) := by decide +kernel
abbrev cX7_init : ByteArray := prog_9_method_1_code
def yX7_init : MethodName := ⟨RX7, "<init>", "(I)V"⟩
abbrev cX7_get : ByteArray := prog_9_method_2_code
def yX7_get : MethodName := ⟨RX7, "get", "(I)I"⟩
abbrev cX7_put : ByteArray := prog_9_method_3_code
def yX7_put : MethodName := ⟨RX7, "put", "(II)V"⟩
abbrev cX7_fill : ByteArray := prog_9_method_4_code
def yX7_fill : MethodName := ⟨RX7, "fill", "(I)V"⟩
abbrev cX7_increase : ByteArray := prog_9_method_5_code
def yX7_increase : MethodName := ⟨RX7, "increase", "(II)V"⟩
def RX8 : String := "Spurline$Terrain"
def TX8 : u_T := fun k => match k with
  | 0 => ("Spurline$Terrain", "width", "I", true)
  | 1 => ("Spurline$Terrain", "height", "I", true)
  | 2 => ("Spurline$Terrain", "heights", "LSpurline$Row;", true)
  | _ => ("Spurline$Terrain", "grounds", "LSpurline$Row;", true)
def tyX8 : Nat → FieldType := fun k => match k with
  | 0 => .int
  | 1 => .int
  | 2 => .object "Spurline$Row"
  | _ => .object "Spurline$Row"
abbrev wsX80 : List Cond := u_ws RX8 TX8 4
theorem nmX8 : ∀ a, a < 4 → ∀ b, b < 4 → a ≠ b → (TX8 a).2.1 ≠ (TX8 b).2.1 := by decide +kernel
theorem tyX8_ok : ∀ k, k < 4 → parseFieldDescriptor (TX8 k).2.2.1 = some (tyX8 k) := by decide +kernel
abbrev cX8_init : ByteArray := prog_10_method_1_code
def yX8_init : MethodName := ⟨RX8, "<init>", "(II)V"⟩
abbrev cX8_number : ByteArray := prog_10_method_2_code
def yX8_number : MethodName := ⟨RX8, "number", "(II)I"⟩
abbrev cX8_has : ByteArray := prog_10_method_3_code
def yX8_has : MethodName := ⟨RX8, "has", "(II)Z"⟩
abbrev cX8_columns : ByteArray := prog_10_method_4_code
def yX8_columns : MethodName := ⟨RX8, "columns", "()I"⟩
abbrev cX8_rows : ByteArray := prog_10_method_5_code
def yX8_rows : MethodName := ⟨RX8, "rows", "()I"⟩
abbrev cX8_heightOf : ByteArray := prog_10_method_6_code
def yX8_heightOf : MethodName := ⟨RX8, "heightOf", "(I)I"⟩
abbrev cX8_groundOf : ByteArray := prog_10_method_7_code
def yX8_groundOf : MethodName := ⟨RX8, "groundOf", "(I)I"⟩
abbrev cX8_isForbidden : ByteArray := prog_10_method_8_code
def yX8_isForbidden : MethodName := ⟨RX8, "isForbidden", "(I)Z"⟩
abbrev cX8_replaceHeight : ByteArray := prog_10_method_9_code
def yX8_replaceHeight : MethodName := ⟨RX8, "replaceHeight", "(II)I"⟩
abbrev cX8_raiseAround : ByteArray := prog_10_method_10_code
def yX8_raiseAround : MethodName := ⟨RX8, "raiseAround", "(IIII)I"⟩
abbrev cX8_cover : ByteArray := prog_10_method_11_code
def yX8_cover : MethodName := ⟨RX8, "cover", "(IIIII)I"⟩
abbrev cX8_beyond : ByteArray := prog_10_method_12_code
def yX8_beyond : MethodName := ⟨RX8, "beyond", "(II)I"⟩
abbrev cX8_climbBetween : ByteArray := prog_10_method_13_code
def yX8_climbBetween : MethodName := ⟨RX8, "climbBetween", "(II)I"⟩
abbrev cX8_paceCost : ByteArray := prog_10_method_14_code
def yX8_paceCost : MethodName := ⟨RX8, "paceCost", "(I)I"⟩
def RX9 : String := "Spurline"
def TX9 : u_T := fun k => match k with
  | 0 => ("Spurline", "terrain", "LSpurline$Terrain;", true)
  | 1 => ("Spurline", "contours", "LSpurline$Contours;", true)
  | 2 => ("Spurline", "routes", "LSpurline$Routes;", true)
  | 3 => ("Spurline", "controls", "LSpurline$Controls;", true)
  | 4 => ("Spurline", "courses", "LSpurline$Courses;", true)
  | 5 => ("Spurline", "planner", "LSpurline$Planner;", true)
  | 6 => ("Spurline", "entries", "LSpurline$Entries;", true)
  | _ => ("Spurline", "results", "LSpurline$Results;", true)
def tyX9 : Nat → FieldType := fun k => match k with
  | 0 => .object "Spurline$Terrain"
  | 1 => .object "Spurline$Contours"
  | 2 => .object "Spurline$Routes"
  | 3 => .object "Spurline$Controls"
  | 4 => .object "Spurline$Courses"
  | 5 => .object "Spurline$Planner"
  | 6 => .object "Spurline$Entries"
  | _ => .object "Spurline$Results"
abbrev wsX90 : List Cond := u_ws RX9 TX9 8
theorem nmX9 : ∀ a, a < 8 → ∀ b, b < 8 → a ≠ b → (TX9 a).2.1 ≠ (TX9 b).2.1 := by decide +kernel
theorem tyX9_ok : ∀ k, k < 8 → parseFieldDescriptor (TX9 k).2.2.1 = some (tyX9 k) := by decide +kernel
abbrev cX9_init : ByteArray := prog_1_method_1_code
def yX9_init : MethodName := ⟨RX9, "<init>", "(II)V"⟩
abbrev cX9_sideWithinLimits : ByteArray := prog_1_method_2_code
def yX9_sideWithinLimits : MethodName := ⟨RX9, "sideWithinLimits", "(I)I"⟩
abbrev cX9_setHeight : ByteArray := prog_1_method_3_code
def yX9_setHeight : MethodName := ⟨RX9, "setHeight", "(III)I"⟩
abbrev cX9_hill : ByteArray := prog_1_method_4_code
def yX9_hill : MethodName := ⟨RX9, "hill", "(IIII)I"⟩
abbrev cX9_setGround : ByteArray := prog_1_method_5_code
def yX9_setGround : MethodName := ⟨RX9, "setGround", "(IIIII)I"⟩
abbrev cX9_control : ByteArray := prog_1_method_6_code
def yX9_control : MethodName := ⟨RX9, "control", "(II)I"⟩
abbrev cX9_visit : ByteArray := prog_1_method_7_code
def yX9_visit : MethodName := ⟨RX9, "visit", "(II)I"⟩
abbrev cX9_arrange : ByteArray := prog_1_method_8_code
def yX9_arrange : MethodName := ⟨RX9, "arrange", "(II)I"⟩
abbrev cX9_enter : ByteArray := prog_1_method_9_code
def yX9_enter : MethodName := ⟨RX9, "enter", "(II)I"⟩
abbrev cX9_draw : ByteArray := prog_1_method_10_code
def yX9_draw : MethodName := ⟨RX9, "draw", "(II)I"⟩
abbrev cX9_punch : ByteArray := prog_1_method_11_code
def yX9_punch : MethodName := ⟨RX9, "punch", "(III)I"⟩
abbrev cX9_fail : ByteArray := prog_1_method_12_code
def yX9_fail : MethodName := ⟨RX9, "fail", "(IZ)Z"⟩
abbrev cX9_cell : ByteArray := prog_1_method_13_code
def yX9_cell : MethodName := ⟨RX9, "cell", "(II)I"⟩
abbrev cX9_lines : ByteArray := prog_1_method_14_code
def yX9_lines : MethodName := ⟨RX9, "lines", "(I)I"⟩
abbrev cX9_rings : ByteArray := prog_1_method_15_code
def yX9_rings : MethodName := ⟨RX9, "rings", "(I)I"⟩
abbrev cX9_longest : ByteArray := prog_1_method_16_code
def yX9_longest : MethodName := ⟨RX9, "longest", "(I)I"⟩
abbrev cX9_cost : ByteArray := prog_1_method_17_code
def yX9_cost : MethodName := ⟨RX9, "cost", "(II)I"⟩
abbrev cX9_costByCells : ByteArray := prog_1_method_18_code
def yX9_costByCells : MethodName := ⟨RX9, "costByCells", "(II)I"⟩
abbrev cX9_climb : ByteArray := prog_1_method_19_code
def yX9_climb : MethodName := ⟨RX9, "climb", "(II)I"⟩
abbrev cX9_tempts : ByteArray := prog_1_method_20_code
def yX9_tempts : MethodName := ⟨RX9, "tempts", "(II)Z"⟩
abbrev cX9_courseAt : ByteArray := prog_1_method_21_code
def yX9_courseAt : MethodName := ⟨RX9, "courseAt", "(II)I"⟩
abbrev cX9_courseClimb : ByteArray := prog_1_method_22_code
def yX9_courseClimb : MethodName := ⟨RX9, "courseClimb", "(I)I"⟩
abbrev cX9_courseCost : ByteArray := prog_1_method_23_code
def yX9_courseCost : MethodName := ⟨RX9, "courseCost", "(I)I"⟩
abbrev cX9_spread : ByteArray := prog_1_method_24_code
def yX9_spread : MethodName := ⟨RX9, "spread", "()I"⟩
abbrev cX9_runners : ByteArray := prog_1_method_25_code
def yX9_runners : MethodName := ⟨RX9, "runners", "()I"⟩
abbrev cX9_startOf : ByteArray := prog_1_method_26_code
def yX9_startOf : MethodName := ⟨RX9, "startOf", "(I)I"⟩
abbrev cX9_stateOf : ByteArray := prog_1_method_27_code
def yX9_stateOf : MethodName := ⟨RX9, "stateOf", "(I)I"⟩
abbrev cX9_split : ByteArray := prog_1_method_28_code
def yX9_split : MethodName := ⟨RX9, "split", "(II)I"⟩
abbrev cX9_total : ByteArray := prog_1_method_29_code
def yX9_total : MethodName := ⟨RX9, "total", "(I)I"⟩
abbrev cX9_rank : ByteArray := prog_1_method_30_code
def yX9_rank : MethodName := ⟨RX9, "rank", "(I)I"⟩
abbrev cX9_lost : ByteArray := prog_1_method_31_code
def yX9_lost : MethodName := ⟨RX9, "lost", "(II)I"⟩
abbrev cX9_needCell : ByteArray := prog_1_method_32_code
def yX9_needCell : MethodName := ⟨RX9, "needCell", "(II)V"⟩
abbrev cX9_needControl : ByteArray := prog_1_method_33_code
def yX9_needControl : MethodName := ⟨RX9, "needControl", "(I)V"⟩
abbrev cX9_needRunner : ByteArray := prog_1_method_34_code
def yX9_needRunner : MethodName := ⟨RX9, "needRunner", "(I)V"⟩
abbrev cX9_needLeg : ByteArray := prog_1_method_35_code
def yX9_needLeg : MethodName := ⟨RX9, "needLeg", "(II)V"⟩
abbrev cX9_needKlass : ByteArray := prog_1_method_36_code
def yX9_needKlass : MethodName := ⟨RX9, "needKlass", "(I)V"⟩
abbrev cX9_needIndex : ByteArray := prog_1_method_37_code
def yX9_needIndex : MethodName := ⟨RX9, "needIndex", "(II)V"⟩
abbrev cX9_needRange : ByteArray := prog_1_method_38_code
def yX9_needRange : MethodName := ⟨RX9, "needRange", "(III)V"⟩
abbrev cX9_needState : ByteArray := prog_1_method_39_code
def yX9_needState : MethodName := ⟨RX9, "needState", "(Z)V"⟩
def RX10 : String := "SpurlineModel"
def TX10 : u_T := fun k => match k with
  | _ => ("", "", "", false)
def tyX10 : Nat → FieldType := fun k => match k with
  | _ => .int
abbrev wsX100 : List Cond := u_ws RX10 TX10 0
theorem nmX10 : ∀ a, a < 0 → ∀ b, b < 0 → a ≠ b → (TX10 a).2.1 ≠ (TX10 b).2.1 := by decide +kernel
theorem tyX10_ok : ∀ k, k < 0 → parseFieldDescriptor (TX10 k).2.2.1 = some (tyX10 k) := by decide +kernel
def RJ9 : String := "java/lang/Math"
def TJ9 : u_T := fun k => match k with
  | _ => ("", "", "", false)
def tyJ9 : Nat → FieldType := fun k => match k with
  | _ => .int
abbrev wsJ90 : List Cond := u_ws RJ9 TJ9 0
theorem nmJ9 : ∀ a, a < 0 → ∀ b, b < 0 → a ≠ b → (TJ9 a).2.1 ≠ (TJ9 b).2.1 := by decide +kernel
theorem tyJ9_ok : ∀ k, k < 0 → parseFieldDescriptor (TJ9 k).2.2.1 = some (tyJ9 k) := by decide +kernel
abbrev cJ9_abs_0f7a4 : ByteArray := prog_17_method_59_code
def yJ9_abs_0f7a4 : MethodName := ⟨RJ9, "abs", "(I)I"⟩
abbrev cJ9_max_7cf53 : ByteArray := prog_17_method_65_code
def yJ9_max_7cf53 : MethodName := ⟨RJ9, "max", "(II)I"⟩
abbrev cJ9_min_7cf53 : ByteArray := prog_17_method_69_code
def yJ9_min_7cf53 : MethodName := ⟨RJ9, "min", "(II)I"⟩
def RJ0 : String := "java/lang/String"
def TJ0 : u_T := fun k => match k with
  | _ => ("", "", "", false)
def tyJ0 : Nat → FieldType := fun k => match k with
  | _ => .int
abbrev wsJ00 : List Cond := u_ws RJ0 TJ0 0
theorem nmJ0 : ∀ a, a < 0 → ∀ b, b < 0 → a ≠ b → (TJ0 a).2.1 ≠ (TJ0 b).2.1 := by decide +kernel
theorem tyJ0_ok : ∀ k, k < 0 → parseFieldDescriptor (TJ0 k).2.2.1 = some (tyJ0 k) := by decide +kernel
def RL : String := "SpurlineLaw"
abbrev cL_drawn : ByteArray := method_2_code
def yL_drawn : MethodName := ⟨RL, "drawn", "([II)I"⟩
abbrev cL_does : ByteArray := method_3_code
def yL_does : MethodName := ⟨RL, "does", "(LSpurline;IIII)I"⟩
abbrev cL_lay : ByteArray := method_4_code
def yL_lay : MethodName := ⟨RL, "lay", "(LSpurline;IIIIII)I"⟩
abbrev cL_fail : ByteArray := method_5_code
def yL_fail : MethodName := ⟨RL, "fail", "(LSpurline;IZ)I"⟩
abbrev cL_of : ByteArray := method_6_code
def yL_of : MethodName := ⟨RL, "of", "(LSpurline;II)I"⟩
abbrev cL_at : ByteArray := method_7_code
def yL_at : MethodName := ⟨RL, "at", "(LSpurline;III)I"⟩
abbrev cL_same : ByteArray := method_8_code
def yL_same : MethodName := ⟨RL, "same", "(LSpurline;LSpurline;[II)Z"⟩
abbrev cL_law : ByteArray := code
def yL_law : MethodName := ⟨RL, "law", "([I)Z"⟩
abbrev vwCl : List vw_C := [(RX0, TX0, 5), (RX1, TX1, 3), (RX2, TX2, 2), (RX3, TX3, 9), (RX4, TX4, 12), (RX5, TX5, 8), (RX6, TX6, 5), (RX7, TX7, 1), (RX8, TX8, 4), (RX9, TX9, 8)]
/-- the words that every contract is stated over: the tables' words that stay, the same for all methods -/
def gW : List Cond := lw_tbl.filter goodWord
theorem gW_t {w : Cond} (h : w ∈ tables_1) (hg : goodWord w = true) : w ∈ gW := List.mem_filter.mpr ⟨List.mem_append_right _ h, hg⟩
theorem gW_p {w : Cond} (h : w ∈ k2_sels lw_privs) (hg : goodWord w = true) : w ∈ gW := List.mem_filter.mpr ⟨List.mem_append_left _ h, hg⟩
theorem kn_L : Cond.initialized RL ∈ gW := gW_t (List.mem_append_left _ (show _ ∈ tables_1_1 from List.mem_of_getElem? (i := 0) (by decide +kernel))) (by decide +kernel)
theorem kn_X9 : Cond.initialized RX9 ∈ gW := gW_t (List.mem_append_left _ (show _ ∈ tables_1_1 from List.mem_of_getElem? (i := 1) (by decide +kernel))) (by decide +kernel)
theorem kn_X8 : Cond.initialized RX8 ∈ gW := gW_t (List.mem_append_left _ (show _ ∈ tables_1_1 from List.mem_of_getElem? (i := 2) (by decide +kernel))) (by decide +kernel)
theorem kn_J9 : Cond.initialized RJ9 ∈ gW := gW_t (List.mem_append_left _ (show _ ∈ tables_1_1 from List.mem_of_getElem? (i := 3) (by decide +kernel))) (by decide +kernel)
theorem kn_X7 : Cond.initialized RX7 ∈ gW := gW_t (List.mem_append_left _ (show _ ∈ tables_1_1 from List.mem_of_getElem? (i := 4) (by decide +kernel))) (by decide +kernel)
theorem kn_X0 : Cond.initialized RX0 ∈ gW := gW_t (List.mem_append_left _ (show _ ∈ tables_1_1 from List.mem_of_getElem? (i := 5) (by decide +kernel))) (by decide +kernel)
theorem kn_X6 : Cond.initialized RX6 ∈ gW := gW_t (List.mem_append_left _ (show _ ∈ tables_1_1 from List.mem_of_getElem? (i := 6) (by decide +kernel))) (by decide +kernel)
theorem kn_X1 : Cond.initialized RX1 ∈ gW := gW_t (List.mem_append_left _ (show _ ∈ tables_1_1 from List.mem_of_getElem? (i := 7) (by decide +kernel))) (by decide +kernel)
theorem kn_X2 : Cond.initialized RX2 ∈ gW := gW_t (List.mem_append_left _ (show _ ∈ tables_1_1 from List.mem_of_getElem? (i := 8) (by decide +kernel))) (by decide +kernel)
theorem kn_X4 : Cond.initialized RX4 ∈ gW := gW_t (List.mem_append_left _ (show _ ∈ tables_1_1 from List.mem_of_getElem? (i := 9) (by decide +kernel))) (by decide +kernel)
theorem kn_X3 : Cond.initialized RX3 ∈ gW := gW_t (List.mem_append_left _ (show _ ∈ tables_1_1 from List.mem_of_getElem? (i := 10) (by decide +kernel))) (by decide +kernel)
theorem kn_X5 : Cond.initialized RX5 ∈ gW := gW_t (List.mem_append_left _ (show _ ∈ tables_1_1 from List.mem_of_getElem? (i := 11) (by decide +kernel))) (by decide +kernel)
theorem kl_L_9 : Cond.classLink RL 9 RX9 ∈ gW := gW_t (List.mem_append_left _ (show _ ∈ tables_1_1 from List.mem_of_getElem? (i := 18) (by decide +kernel))) (by decide +kernel)
theorem kz_X9 : Cond.instantiable RX9 8 ∈ gW := gW_t (List.mem_append_left _ (show _ ∈ tables_1_1 from List.mem_of_getElem? (i := 19) (by decide +kernel))) (by decide +kernel)
theorem km_L_125 : Cond.methodLink RL 125 yX9_init ∈ gW := gW_t (List.mem_append_left _ (show _ ∈ tables_1_1 from List.mem_of_getElem? (i := 20) (by decide +kernel))) (by decide +kernel)
theorem ki_X9_init : Cond.instanceMethod yX9_init ∈ gW := gW_t (List.mem_append_left _ (show _ ∈ tables_1_1 from List.mem_of_getElem? (i := 21) (by decide +kernel))) (by decide +kernel)
theorem kc_X9_init : Cond.code yX9_init cX9_init 3 none ∈ gW := gW_t (List.mem_append_left _ (show _ ∈ tables_1_1 from List.mem_of_getElem? (i := 22) (by decide +kernel))) (by decide +kernel)
theorem km_X9_3 : Cond.methodLink RX9 3 ⟨"java/lang/Object", "<init>", "()V"⟩ ∈ gW := gW_t (List.mem_append_left _ (show _ ∈ tables_1_1 from List.mem_of_getElem? (i := 23) (by decide +kernel))) (by decide +kernel)
theorem kl_X9_9 : Cond.classLink RX9 9 RX8 ∈ gW := gW_t (List.mem_append_left _ (show _ ∈ tables_1_1 from List.mem_of_getElem? (i := 26) (by decide +kernel))) (by decide +kernel)
theorem kz_X8 : Cond.instantiable RX8 4 ∈ gW := gW_t (List.mem_append_left _ (show _ ∈ tables_1_1 from List.mem_of_getElem? (i := 27) (by decide +kernel))) (by decide +kernel)
theorem km_X9_11 : Cond.methodLink RX9 11 yX9_sideWithinLimits ∈ gW := gW_t (List.mem_append_left _ (show _ ∈ tables_1_1 from List.mem_of_getElem? (i := 28) (by decide +kernel))) (by decide +kernel)
theorem kt_X9_sideWithinLimits : Cond.static yX9_sideWithinLimits ∈ gW := gW_t (List.mem_append_left _ (show _ ∈ tables_1_1 from List.mem_of_getElem? (i := 29) (by decide +kernel))) (by decide +kernel)
theorem kc_X9_sideWithinLimits : Cond.code yX9_sideWithinLimits cX9_sideWithinLimits 1 (some .int) ∈ gW := gW_t (List.mem_append_left _ (show _ ∈ tables_1_1 from List.mem_of_getElem? (i := 30) (by decide +kernel))) (by decide +kernel)
theorem km_X9_77 : Cond.methodLink RX9 77 yJ9_min_7cf53 ∈ gW := gW_t (List.mem_append_left _ (show _ ∈ tables_1_1 from List.mem_of_getElem? (i := 31) (by decide +kernel))) (by decide +kernel)
theorem kt_J9_min_7cf53 : Cond.static yJ9_min_7cf53 ∈ gW := gW_t (List.mem_append_left _ (show _ ∈ tables_1_1 from List.mem_of_getElem? (i := 32) (by decide +kernel))) (by decide +kernel)
theorem kc_J9_min_7cf53 : Cond.code yJ9_min_7cf53 cJ9_min_7cf53 2 (some .int) ∈ gW := gW_t (List.mem_append_left _ (show _ ∈ tables_1_1 from List.mem_of_getElem? (i := 33) (by decide +kernel))) (by decide +kernel)
theorem km_X9_83 : Cond.methodLink RX9 83 yJ9_max_7cf53 ∈ gW := gW_t (List.mem_append_left _ (show _ ∈ tables_1_1 from List.mem_of_getElem? (i := 34) (by decide +kernel))) (by decide +kernel)
theorem kt_J9_max_7cf53 : Cond.static yJ9_max_7cf53 ∈ gW := gW_t (List.mem_append_left _ (show _ ∈ tables_1_1 from List.mem_of_getElem? (i := 35) (by decide +kernel))) (by decide +kernel)
theorem kc_J9_max_7cf53 : Cond.code yJ9_max_7cf53 cJ9_max_7cf53 2 (some .int) ∈ gW := gW_t (List.mem_append_left _ (show _ ∈ tables_1_1 from List.mem_of_getElem? (i := 36) (by decide +kernel))) (by decide +kernel)
theorem km_X9_15 : Cond.methodLink RX9 15 yX8_init ∈ gW := gW_t (List.mem_append_left _ (show _ ∈ tables_1_1 from List.mem_of_getElem? (i := 37) (by decide +kernel))) (by decide +kernel)
theorem ki_X8_init : Cond.instanceMethod yX8_init ∈ gW := gW_t (List.mem_append_left _ (show _ ∈ tables_1_1 from List.mem_of_getElem? (i := 38) (by decide +kernel))) (by decide +kernel)
theorem kc_X8_init : Cond.code yX8_init cX8_init 3 none ∈ gW := gW_t (List.mem_append_left _ (show _ ∈ tables_1_1 from List.mem_of_getElem? (i := 39) (by decide +kernel))) (by decide +kernel)
theorem km_X8_3 : Cond.methodLink RX8 3 ⟨"java/lang/Object", "<init>", "()V"⟩ ∈ gW := gW_t (List.mem_append_left _ (show _ ∈ tables_1_1 from List.mem_of_getElem? (i := 40) (by decide +kernel))) (by decide +kernel)
theorem kl_X8_9 : Cond.classLink RX8 9 RX7 ∈ gW := gW_t (List.mem_append_left _ (show _ ∈ tables_1_1 from List.mem_of_getElem? (i := 41) (by decide +kernel))) (by decide +kernel)
theorem kz_X7 : Cond.instantiable RX7 1 ∈ gW := gW_t (List.mem_append_left _ (show _ ∈ tables_1_1 from List.mem_of_getElem? (i := 42) (by decide +kernel))) (by decide +kernel)
theorem km_X8_11 : Cond.methodLink RX8 11 yX7_init ∈ gW := gW_t (List.mem_append_left _ (show _ ∈ tables_1_1 from List.mem_of_getElem? (i := 43) (by decide +kernel))) (by decide +kernel)
theorem ki_X7_init : Cond.instanceMethod yX7_init ∈ gW := gW_t (List.mem_append_left _ (show _ ∈ tables_1_1 from List.mem_of_getElem? (i := 44) (by decide +kernel))) (by decide +kernel)
theorem kc_X7_init : Cond.code yX7_init cX7_init 2 none ∈ gW := gW_t (List.mem_append_left _ (show _ ∈ tables_1_1 from List.mem_of_getElem? (i := 45) (by decide +kernel))) (by decide +kernel)
theorem km_X7_3 : Cond.methodLink RX7 3 ⟨"java/lang/Object", "<init>", "()V"⟩ ∈ gW := gW_t (List.mem_append_left _ (show _ ∈ tables_1_1 from List.mem_of_getElem? (i := 46) (by decide +kernel))) (by decide +kernel)
theorem km_X7_9 : Cond.methodLink RX7 9 yJ9_max_7cf53 ∈ gW := gW_t (List.mem_append_left _ (show _ ∈ tables_1_1 from List.mem_of_getElem? (i := 47) (by decide +kernel))) (by decide +kernel)
theorem kf_X7_15 : Cond.fieldLink RX7 15 RX7 "numbers" "[I" ∈ gW := gW_t (List.mem_append_left _ (show _ ∈ tables_1_1 from List.mem_of_getElem? (i := 48) (by decide +kernel))) (by decide +kernel)
theorem kf_X8_23 : Cond.fieldLink RX8 23 RX8 "width" "I" ∈ gW := gW_t (List.mem_append_left _ (show _ ∈ tables_1_1 from List.mem_of_getElem? (i := 53) (by decide +kernel))) (by decide +kernel)
theorem kf_X8_27 : Cond.fieldLink RX8 27 RX8 "height" "I" ∈ gW := gW_t (List.mem_append_left _ (show _ ∈ tables_1_1 from List.mem_of_getElem? (i := 54) (by decide +kernel))) (by decide +kernel)
theorem kf_X8_14 : Cond.fieldLink RX8 14 RX8 "heights" "LSpurline$Row;" ∈ gW := gW_t (List.mem_append_left _ (show _ ∈ tables_1_1 from List.mem_of_getElem? (i := 55) (by decide +kernel))) (by decide +kernel)
theorem kf_X8_20 : Cond.fieldLink RX8 20 RX8 "grounds" "LSpurline$Row;" ∈ gW := gW_t (List.mem_append_left _ (show _ ∈ tables_1_1 from List.mem_of_getElem? (i := 56) (by decide +kernel))) (by decide +kernel)
theorem kl_X9_22 : Cond.classLink RX9 22 RX0 ∈ gW := gW_t (List.mem_append_left _ (show _ ∈ tables_1_1 from List.mem_of_getElem? (i := 66) (by decide +kernel))) (by decide +kernel)
theorem kz_X0 : Cond.instantiable RX0 5 ∈ gW := gW_t (List.mem_append_left _ (show _ ∈ tables_1_1 from List.mem_of_getElem? (i := 67) (by decide +kernel))) (by decide +kernel)
theorem km_X9_24 : Cond.methodLink RX9 24 yX0_init ∈ gW := gW_t (List.mem_append_left _ (show _ ∈ tables_1_1 from List.mem_of_getElem? (i := 68) (by decide +kernel))) (by decide +kernel)
theorem ki_X0_init : Cond.instanceMethod yX0_init ∈ gW := gW_t (List.mem_append_left _ (show _ ∈ tables_1_1 from List.mem_of_getElem? (i := 69) (by decide +kernel))) (by decide +kernel)
theorem kc_X0_init : Cond.code yX0_init cX0_init 2 none ∈ gW := gW_t (List.mem_append_left _ (show _ ∈ tables_1_1 from List.mem_of_getElem? (i := 70) (by decide +kernel))) (by decide +kernel)
theorem km_X0_3 : Cond.methodLink RX0 3 ⟨"java/lang/Object", "<init>", "()V"⟩ ∈ gW := gW_t (List.mem_append_left _ (show _ ∈ tables_1_1 from List.mem_of_getElem? (i := 71) (by decide +kernel))) (by decide +kernel)
theorem kl_X0_9 : Cond.classLink RX0 9 RX7 ∈ gW := gW_t (List.mem_append_left _ (show _ ∈ tables_1_1 from List.mem_of_getElem? (i := 72) (by decide +kernel))) (by decide +kernel)
theorem km_X0_13 : Cond.methodLink RX0 13 yX7_init ∈ gW := gW_t (List.mem_append_left _ (show _ ∈ tables_1_1 from List.mem_of_getElem? (i := 73) (by decide +kernel))) (by decide +kernel)
theorem kf_X0_26 : Cond.fieldLink RX0 26 RX0 "terrain" "LSpurline$Terrain;" ∈ gW := gW_t (List.mem_append_left _ (show _ ∈ tables_1_1 from List.mem_of_getElem? (i := 74) (by decide +kernel))) (by decide +kernel)
theorem kf_X0_16 : Cond.fieldLink RX0 16 RX0 "leaders" "LSpurline$Row;" ∈ gW := gW_t (List.mem_append_left _ (show _ ∈ tables_1_1 from List.mem_of_getElem? (i := 75) (by decide +kernel))) (by decide +kernel)
theorem kf_X0_20 : Cond.fieldLink RX0 20 RX0 "sizes" "LSpurline$Row;" ∈ gW := gW_t (List.mem_append_left _ (show _ ∈ tables_1_1 from List.mem_of_getElem? (i := 76) (by decide +kernel))) (by decide +kernel)
theorem kf_X0_23 : Cond.fieldLink RX0 23 RX0 "openEnds" "LSpurline$Row;" ∈ gW := gW_t (List.mem_append_left _ (show _ ∈ tables_1_1 from List.mem_of_getElem? (i := 77) (by decide +kernel))) (by decide +kernel)
theorem kf_X0_30 : Cond.fieldLink RX0 30 RX0 "level" "I" ∈ gW := gW_t (List.mem_append_left _ (show _ ∈ tables_1_1 from List.mem_of_getElem? (i := 78) (by decide +kernel))) (by decide +kernel)
theorem kl_X9_31 : Cond.classLink RX9 31 RX6 ∈ gW := gW_t (List.mem_append_left _ (show _ ∈ tables_1_1 from List.mem_of_getElem? (i := 90) (by decide +kernel))) (by decide +kernel)
theorem kz_X6 : Cond.instantiable RX6 5 ∈ gW := gW_t (List.mem_append_left _ (show _ ∈ tables_1_1 from List.mem_of_getElem? (i := 91) (by decide +kernel))) (by decide +kernel)
theorem km_X9_33 : Cond.methodLink RX9 33 yX6_init ∈ gW := gW_t (List.mem_append_left _ (show _ ∈ tables_1_1 from List.mem_of_getElem? (i := 92) (by decide +kernel))) (by decide +kernel)
theorem ki_X6_init : Cond.instanceMethod yX6_init ∈ gW := gW_t (List.mem_append_left _ (show _ ∈ tables_1_1 from List.mem_of_getElem? (i := 93) (by decide +kernel))) (by decide +kernel)
theorem kc_X6_init : Cond.code yX6_init cX6_init 2 none ∈ gW := gW_t (List.mem_append_left _ (show _ ∈ tables_1_1 from List.mem_of_getElem? (i := 94) (by decide +kernel))) (by decide +kernel)
theorem km_X6_3 : Cond.methodLink RX6 3 ⟨"java/lang/Object", "<init>", "()V"⟩ ∈ gW := gW_t (List.mem_append_left _ (show _ ∈ tables_1_1 from List.mem_of_getElem? (i := 95) (by decide +kernel))) (by decide +kernel)
theorem kl_X6_9 : Cond.classLink RX6 9 RX7 ∈ gW := gW_t (List.mem_append_left _ (show _ ∈ tables_1_1 from List.mem_of_getElem? (i := 96) (by decide +kernel))) (by decide +kernel)
theorem km_X6_11 : Cond.methodLink RX6 11 yX7_init ∈ gW := gW_t (List.mem_append_left _ (show _ ∈ tables_1_1 from List.mem_of_getElem? (i := 97) (by decide +kernel))) (by decide +kernel)
theorem kf_X6_26 : Cond.fieldLink RX6 26 RX6 "terrain" "LSpurline$Terrain;" ∈ gW := gW_t (List.mem_append_left _ (show _ ∈ tables_1_1 from List.mem_of_getElem? (i := 98) (by decide +kernel))) (by decide +kernel)
theorem kf_X6_14 : Cond.fieldLink RX6 14 RX6 "costs" "LSpurline$Row;" ∈ gW := gW_t (List.mem_append_left _ (show _ ∈ tables_1_1 from List.mem_of_getElem? (i := 99) (by decide +kernel))) (by decide +kernel)
theorem kf_X6_20 : Cond.fieldLink RX6 20 RX6 "climbs" "LSpurline$Row;" ∈ gW := gW_t (List.mem_append_left _ (show _ ∈ tables_1_1 from List.mem_of_getElem? (i := 100) (by decide +kernel))) (by decide +kernel)
theorem kf_X6_23 : Cond.fieldLink RX6 23 RX6 "waiting" "LSpurline$Row;" ∈ gW := gW_t (List.mem_append_left _ (show _ ∈ tables_1_1 from List.mem_of_getElem? (i := 101) (by decide +kernel))) (by decide +kernel)
theorem kf_X6_41 : Cond.fieldLink RX6 41 RX6 "waitingCount" "I" ∈ gW := gW_t (List.mem_append_left _ (show _ ∈ tables_1_1 from List.mem_of_getElem? (i := 102) (by decide +kernel))) (by decide +kernel)
theorem kl_X9_38 : Cond.classLink RX9 38 RX1 ∈ gW := gW_t (List.mem_append_left _ (show _ ∈ tables_1_1 from List.mem_of_getElem? (i := 114) (by decide +kernel))) (by decide +kernel)
theorem kz_X1 : Cond.instantiable RX1 3 ∈ gW := gW_t (List.mem_append_left _ (show _ ∈ tables_1_1 from List.mem_of_getElem? (i := 115) (by decide +kernel))) (by decide +kernel)
theorem ki_X1_init : Cond.instanceMethod yX1_init ∈ gW := gW_t (List.mem_append_left _ (show _ ∈ tables_1_1 from List.mem_of_getElem? (i := 117) (by decide +kernel))) (by decide +kernel)
theorem kc_X1_init : Cond.code yX1_init cX1_init 1 none ∈ gW := gW_t (List.mem_append_left _ (show _ ∈ tables_1_1 from List.mem_of_getElem? (i := 118) (by decide +kernel))) (by decide +kernel)
theorem km_X1_3 : Cond.methodLink RX1 3 ⟨"java/lang/Object", "<init>", "()V"⟩ ∈ gW := gW_t (List.mem_append_left _ (show _ ∈ tables_1_1 from List.mem_of_getElem? (i := 119) (by decide +kernel))) (by decide +kernel)
theorem kl_X1_9 : Cond.classLink RX1 9 RX7 ∈ gW := gW_t (List.mem_append_left _ (show _ ∈ tables_1_1 from List.mem_of_getElem? (i := 120) (by decide +kernel))) (by decide +kernel)
theorem km_X1_11 : Cond.methodLink RX1 11 yX7_init ∈ gW := gW_t (List.mem_append_left _ (show _ ∈ tables_1_1 from List.mem_of_getElem? (i := 121) (by decide +kernel))) (by decide +kernel)
theorem kf_X1_14 : Cond.fieldLink RX1 14 RX1 "cells" "LSpurline$Row;" ∈ gW := gW_t (List.mem_append_left _ (show _ ∈ tables_1_1 from List.mem_of_getElem? (i := 122) (by decide +kernel))) (by decide +kernel)
theorem kf_X1_20 : Cond.fieldLink RX1 20 RX1 "failed" "LSpurline$Row;" ∈ gW := gW_t (List.mem_append_left _ (show _ ∈ tables_1_1 from List.mem_of_getElem? (i := 123) (by decide +kernel))) (by decide +kernel)
theorem kf_X1_23 : Cond.fieldLink RX1 23 RX1 "count" "I" ∈ gW := gW_t (List.mem_append_left _ (show _ ∈ tables_1_1 from List.mem_of_getElem? (i := 124) (by decide +kernel))) (by decide +kernel)
theorem kl_X9_45 : Cond.classLink RX9 45 RX2 ∈ gW := gW_t (List.mem_append_left _ (show _ ∈ tables_1_1 from List.mem_of_getElem? (i := 132) (by decide +kernel))) (by decide +kernel)
theorem kz_X2 : Cond.instantiable RX2 2 ∈ gW := gW_t (List.mem_append_left _ (show _ ∈ tables_1_1 from List.mem_of_getElem? (i := 133) (by decide +kernel))) (by decide +kernel)
theorem ki_X2_init : Cond.instanceMethod yX2_init ∈ gW := gW_t (List.mem_append_left _ (show _ ∈ tables_1_1 from List.mem_of_getElem? (i := 135) (by decide +kernel))) (by decide +kernel)
theorem kc_X2_init : Cond.code yX2_init cX2_init 1 none ∈ gW := gW_t (List.mem_append_left _ (show _ ∈ tables_1_1 from List.mem_of_getElem? (i := 136) (by decide +kernel))) (by decide +kernel)
theorem km_X2_3 : Cond.methodLink RX2 3 ⟨"java/lang/Object", "<init>", "()V"⟩ ∈ gW := gW_t (List.mem_append_left _ (show _ ∈ tables_1_1 from List.mem_of_getElem? (i := 137) (by decide +kernel))) (by decide +kernel)
theorem kl_X2_9 : Cond.classLink RX2 9 RX7 ∈ gW := gW_t (List.mem_append_left _ (show _ ∈ tables_1_1 from List.mem_of_getElem? (i := 138) (by decide +kernel))) (by decide +kernel)
theorem km_X2_11 : Cond.methodLink RX2 11 yX7_init ∈ gW := gW_t (List.mem_append_left _ (show _ ∈ tables_1_1 from List.mem_of_getElem? (i := 139) (by decide +kernel))) (by decide +kernel)
theorem kf_X2_14 : Cond.fieldLink RX2 14 RX2 "controls" "LSpurline$Row;" ∈ gW := gW_t (List.mem_append_left _ (show _ ∈ tables_1_1 from List.mem_of_getElem? (i := 140) (by decide +kernel))) (by decide +kernel)
theorem kf_X2_20 : Cond.fieldLink RX2 20 RX2 "lengths" "LSpurline$Row;" ∈ gW := gW_t (List.mem_append_left _ (show _ ∈ tables_1_1 from List.mem_of_getElem? (i := 141) (by decide +kernel))) (by decide +kernel)
theorem kl_X9_52 : Cond.classLink RX9 52 RX4 ∈ gW := gW_t (List.mem_append_left _ (show _ ∈ tables_1_1 from List.mem_of_getElem? (i := 147) (by decide +kernel))) (by decide +kernel)
theorem kz_X4 : Cond.instantiable RX4 12 ∈ gW := gW_t (List.mem_append_left _ (show _ ∈ tables_1_1 from List.mem_of_getElem? (i := 148) (by decide +kernel))) (by decide +kernel)
theorem km_X9_54 : Cond.methodLink RX9 54 yX4_init ∈ gW := gW_t (List.mem_append_left _ (show _ ∈ tables_1_1 from List.mem_of_getElem? (i := 149) (by decide +kernel))) (by decide +kernel)
theorem ki_X4_init : Cond.instanceMethod yX4_init ∈ gW := gW_t (List.mem_append_left _ (show _ ∈ tables_1_1 from List.mem_of_getElem? (i := 150) (by decide +kernel))) (by decide +kernel)
theorem kc_X4_init : Cond.code yX4_init cX4_init 4 none ∈ gW := gW_t (List.mem_append_left _ (show _ ∈ tables_1_1 from List.mem_of_getElem? (i := 151) (by decide +kernel))) (by decide +kernel)
theorem km_X4_3 : Cond.methodLink RX4 3 ⟨"java/lang/Object", "<init>", "()V"⟩ ∈ gW := gW_t (List.mem_append_left _ (show _ ∈ tables_1_1 from List.mem_of_getElem? (i := 152) (by decide +kernel))) (by decide +kernel)
theorem kl_X4_9 : Cond.classLink RX4 9 RX7 ∈ gW := gW_t (List.mem_append_left _ (show _ ∈ tables_1_1 from List.mem_of_getElem? (i := 153) (by decide +kernel))) (by decide +kernel)
theorem km_X4_11 : Cond.methodLink RX4 11 yX7_init ∈ gW := gW_t (List.mem_append_left _ (show _ ∈ tables_1_1 from List.mem_of_getElem? (i := 154) (by decide +kernel))) (by decide +kernel)
theorem kf_X4_29 : Cond.fieldLink RX4 29 RX4 "routes" "LSpurline$Routes;" ∈ gW := gW_t (List.mem_append_left _ (show _ ∈ tables_1_1 from List.mem_of_getElem? (i := 155) (by decide +kernel))) (by decide +kernel)
theorem kf_X4_33 : Cond.fieldLink RX4 33 RX4 "controls" "LSpurline$Controls;" ∈ gW := gW_t (List.mem_append_left _ (show _ ∈ tables_1_1 from List.mem_of_getElem? (i := 156) (by decide +kernel))) (by decide +kernel)
theorem kf_X4_37 : Cond.fieldLink RX4 37 RX4 "courses" "LSpurline$Courses;" ∈ gW := gW_t (List.mem_append_left _ (show _ ∈ tables_1_1 from List.mem_of_getElem? (i := 157) (by decide +kernel))) (by decide +kernel)
theorem kf_X4_14 : Cond.fieldLink RX4 14 RX4 "legCosts" "LSpurline$Row;" ∈ gW := gW_t (List.mem_append_left _ (show _ ∈ tables_1_1 from List.mem_of_getElem? (i := 158) (by decide +kernel))) (by decide +kernel)
theorem kf_X4_20 : Cond.fieldLink RX4 20 RX4 "legClimbs" "LSpurline$Row;" ∈ gW := gW_t (List.mem_append_left _ (show _ ∈ tables_1_1 from List.mem_of_getElem? (i := 159) (by decide +kernel))) (by decide +kernel)
theorem kf_X4_23 : Cond.fieldLink RX4 23 RX4 "order" "LSpurline$Row;" ∈ gW := gW_t (List.mem_append_left _ (show _ ∈ tables_1_1 from List.mem_of_getElem? (i := 160) (by decide +kernel))) (by decide +kernel)
theorem kf_X4_26 : Cond.fieldLink RX4 26 RX4 "bestOrder" "LSpurline$Row;" ∈ gW := gW_t (List.mem_append_left _ (show _ ∈ tables_1_1 from List.mem_of_getElem? (i := 161) (by decide +kernel))) (by decide +kernel)
theorem kf_X4_98 : Cond.fieldLink RX4 98 RX4 "length" "I" ∈ gW := gW_t (List.mem_append_left _ (show _ ∈ tables_1_1 from List.mem_of_getElem? (i := 162) (by decide +kernel))) (by decide +kernel)
theorem kf_X4_130 : Cond.fieldLink RX4 130 RX4 "bestOff" "I" ∈ gW := gW_t (List.mem_append_left _ (show _ ∈ tables_1_1 from List.mem_of_getElem? (i := 163) (by decide +kernel))) (by decide +kernel)
theorem kf_X4_95 : Cond.fieldLink RX4 95 RX4 "bestCost" "I" ∈ gW := gW_t (List.mem_append_left _ (show _ ∈ tables_1_1 from List.mem_of_getElem? (i := 164) (by decide +kernel))) (by decide +kernel)
theorem kf_X4_41 : Cond.fieldLink RX4 41 RX4 "measuredCost" "I" ∈ gW := gW_t (List.mem_append_left _ (show _ ∈ tables_1_1 from List.mem_of_getElem? (i := 165) (by decide +kernel))) (by decide +kernel)
theorem kf_X4_45 : Cond.fieldLink RX4 45 RX4 "measuredClimb" "I" ∈ gW := gW_t (List.mem_append_left _ (show _ ∈ tables_1_1 from List.mem_of_getElem? (i := 166) (by decide +kernel))) (by decide +kernel)
theorem kl_X9_61 : Cond.classLink RX9 61 RX3 ∈ gW := gW_t (List.mem_append_left _ (show _ ∈ tables_1_1 from List.mem_of_getElem? (i := 192) (by decide +kernel))) (by decide +kernel)
theorem kz_X3 : Cond.instantiable RX3 9 ∈ gW := gW_t (List.mem_append_left _ (show _ ∈ tables_1_1 from List.mem_of_getElem? (i := 193) (by decide +kernel))) (by decide +kernel)
theorem ki_X3_init : Cond.instanceMethod yX3_init ∈ gW := gW_t (List.mem_append_left _ (show _ ∈ tables_1_1 from List.mem_of_getElem? (i := 195) (by decide +kernel))) (by decide +kernel)
theorem kc_X3_init : Cond.code yX3_init cX3_init 1 none ∈ gW := gW_t (List.mem_append_left _ (show _ ∈ tables_1_1 from List.mem_of_getElem? (i := 196) (by decide +kernel))) (by decide +kernel)
theorem km_X3_3 : Cond.methodLink RX3 3 ⟨"java/lang/Object", "<init>", "()V"⟩ ∈ gW := gW_t (List.mem_append_left _ (show _ ∈ tables_1_1 from List.mem_of_getElem? (i := 197) (by decide +kernel))) (by decide +kernel)
theorem kl_X3_9 : Cond.classLink RX3 9 RX7 ∈ gW := gW_t (List.mem_append_left _ (show _ ∈ tables_1_1 from List.mem_of_getElem? (i := 198) (by decide +kernel))) (by decide +kernel)
theorem km_X3_11 : Cond.methodLink RX3 11 yX7_init ∈ gW := gW_t (List.mem_append_left _ (show _ ∈ tables_1_1 from List.mem_of_getElem? (i := 199) (by decide +kernel))) (by decide +kernel)
theorem kf_X3_14 : Cond.fieldLink RX3 14 RX3 "klasses" "LSpurline$Row;" ∈ gW := gW_t (List.mem_append_left _ (show _ ∈ tables_1_1 from List.mem_of_getElem? (i := 200) (by decide +kernel))) (by decide +kernel)
theorem kf_X3_20 : Cond.fieldLink RX3 20 RX3 "clubs" "LSpurline$Row;" ∈ gW := gW_t (List.mem_append_left _ (show _ ∈ tables_1_1 from List.mem_of_getElem? (i := 201) (by decide +kernel))) (by decide +kernel)
theorem kf_X3_23 : Cond.fieldLink RX3 23 RX3 "lots" "LSpurline$Row;" ∈ gW := gW_t (List.mem_append_left _ (show _ ∈ tables_1_1 from List.mem_of_getElem? (i := 202) (by decide +kernel))) (by decide +kernel)
theorem kf_X3_26 : Cond.fieldLink RX3 26 RX3 "starts" "LSpurline$Row;" ∈ gW := gW_t (List.mem_append_left _ (show _ ∈ tables_1_1 from List.mem_of_getElem? (i := 203) (by decide +kernel))) (by decide +kernel)
theorem kf_X3_29 : Cond.fieldLink RX3 29 RX3 "punchCounts" "LSpurline$Row;" ∈ gW := gW_t (List.mem_append_left _ (show _ ∈ tables_1_1 from List.mem_of_getElem? (i := 204) (by decide +kernel))) (by decide +kernel)
theorem kf_X3_32 : Cond.fieldLink RX3 32 RX3 "punchedControls" "LSpurline$Row;" ∈ gW := gW_t (List.mem_append_left _ (show _ ∈ tables_1_1 from List.mem_of_getElem? (i := 205) (by decide +kernel))) (by decide +kernel)
theorem kf_X3_35 : Cond.fieldLink RX3 35 RX3 "punchedMinutes" "LSpurline$Row;" ∈ gW := gW_t (List.mem_append_left _ (show _ ∈ tables_1_1 from List.mem_of_getElem? (i := 206) (by decide +kernel))) (by decide +kernel)
theorem kf_X3_38 : Cond.fieldLink RX3 38 RX3 "count" "I" ∈ gW := gW_t (List.mem_append_left _ (show _ ∈ tables_1_1 from List.mem_of_getElem? (i := 207) (by decide +kernel))) (by decide +kernel)
theorem kf_X3_42 : Cond.fieldLink RX3 42 RX3 "drawn" "Z" ∈ gW := gW_t (List.mem_append_left _ (show _ ∈ tables_1_1 from List.mem_of_getElem? (i := 208) (by decide +kernel))) (by decide +kernel)
theorem kl_X9_68 : Cond.classLink RX9 68 RX5 ∈ gW := gW_t (List.mem_append_left _ (show _ ∈ tables_1_1 from List.mem_of_getElem? (i := 228) (by decide +kernel))) (by decide +kernel)
theorem kz_X5 : Cond.instantiable RX5 8 ∈ gW := gW_t (List.mem_append_left _ (show _ ∈ tables_1_1 from List.mem_of_getElem? (i := 229) (by decide +kernel))) (by decide +kernel)
theorem km_X9_70 : Cond.methodLink RX9 70 yX5_init ∈ gW := gW_t (List.mem_append_left _ (show _ ∈ tables_1_1 from List.mem_of_getElem? (i := 230) (by decide +kernel))) (by decide +kernel)
theorem ki_X5_init : Cond.instanceMethod yX5_init ∈ gW := gW_t (List.mem_append_left _ (show _ ∈ tables_1_1 from List.mem_of_getElem? (i := 231) (by decide +kernel))) (by decide +kernel)
theorem kc_X5_init : Cond.code yX5_init cX5_init 4 none ∈ gW := gW_t (List.mem_append_left _ (show _ ∈ tables_1_1 from List.mem_of_getElem? (i := 232) (by decide +kernel))) (by decide +kernel)
theorem km_X5_3 : Cond.methodLink RX5 3 ⟨"java/lang/Object", "<init>", "()V"⟩ ∈ gW := gW_t (List.mem_append_left _ (show _ ∈ tables_1_1 from List.mem_of_getElem? (i := 233) (by decide +kernel))) (by decide +kernel)
theorem kl_X5_9 : Cond.classLink RX5 9 RX7 ∈ gW := gW_t (List.mem_append_left _ (show _ ∈ tables_1_1 from List.mem_of_getElem? (i := 234) (by decide +kernel))) (by decide +kernel)
theorem km_X5_11 : Cond.methodLink RX5 11 yX7_init ∈ gW := gW_t (List.mem_append_left _ (show _ ∈ tables_1_1 from List.mem_of_getElem? (i := 235) (by decide +kernel))) (by decide +kernel)
theorem kf_X5_32 : Cond.fieldLink RX5 32 RX5 "controls" "LSpurline$Controls;" ∈ gW := gW_t (List.mem_append_left _ (show _ ∈ tables_1_1 from List.mem_of_getElem? (i := 236) (by decide +kernel))) (by decide +kernel)
theorem kf_X5_36 : Cond.fieldLink RX5 36 RX5 "courses" "LSpurline$Courses;" ∈ gW := gW_t (List.mem_append_left _ (show _ ∈ tables_1_1 from List.mem_of_getElem? (i := 237) (by decide +kernel))) (by decide +kernel)
theorem kf_X5_40 : Cond.fieldLink RX5 40 RX5 "entries" "LSpurline$Entries;" ∈ gW := gW_t (List.mem_append_left _ (show _ ∈ tables_1_1 from List.mem_of_getElem? (i := 238) (by decide +kernel))) (by decide +kernel)
theorem kf_X5_14 : Cond.fieldLink RX5 14 RX5 "minutes" "LSpurline$Row;" ∈ gW := gW_t (List.mem_append_left _ (show _ ∈ tables_1_1 from List.mem_of_getElem? (i := 239) (by decide +kernel))) (by decide +kernel)
theorem kf_X5_20 : Cond.fieldLink RX5 20 RX5 "splits" "LSpurline$Row;" ∈ gW := gW_t (List.mem_append_right _ (List.mem_append_left _ (show _ ∈ tables_1_2 from List.mem_of_getElem? (i := 0) (by decide +kernel)))) (by decide +kernel)
theorem kf_X5_23 : Cond.fieldLink RX5 23 RX5 "counted" "LSpurline$Row;" ∈ gW := gW_t (List.mem_append_right _ (List.mem_append_left _ (show _ ∈ tables_1_2 from List.mem_of_getElem? (i := 1) (by decide +kernel)))) (by decide +kernel)
theorem kf_X5_26 : Cond.fieldLink RX5 26 RX5 "states" "LSpurline$Row;" ∈ gW := gW_t (List.mem_append_right _ (List.mem_append_left _ (show _ ∈ tables_1_2 from List.mem_of_getElem? (i := 2) (by decide +kernel)))) (by decide +kernel)
theorem kf_X5_29 : Cond.fieldLink RX5 29 RX5 "totals" "LSpurline$Row;" ∈ gW := gW_t (List.mem_append_right _ (List.mem_append_left _ (show _ ∈ tables_1_2 from List.mem_of_getElem? (i := 3) (by decide +kernel)))) (by decide +kernel)
theorem kf_X9_18 : Cond.fieldLink RX9 18 RX9 "terrain" "LSpurline$Terrain;" ∈ gW := gW_t (List.mem_append_right _ (List.mem_append_left _ (show _ ∈ tables_1_2 from List.mem_of_getElem? (i := 21) (by decide +kernel)))) (by decide +kernel)
theorem kf_X9_27 : Cond.fieldLink RX9 27 RX9 "contours" "LSpurline$Contours;" ∈ gW := gW_t (List.mem_append_right _ (List.mem_append_left _ (show _ ∈ tables_1_2 from List.mem_of_getElem? (i := 22) (by decide +kernel)))) (by decide +kernel)
theorem kf_X9_34 : Cond.fieldLink RX9 34 RX9 "routes" "LSpurline$Routes;" ∈ gW := gW_t (List.mem_append_right _ (List.mem_append_left _ (show _ ∈ tables_1_2 from List.mem_of_getElem? (i := 23) (by decide +kernel)))) (by decide +kernel)
theorem kf_X9_41 : Cond.fieldLink RX9 41 RX9 "controls" "LSpurline$Controls;" ∈ gW := gW_t (List.mem_append_right _ (List.mem_append_left _ (show _ ∈ tables_1_2 from List.mem_of_getElem? (i := 24) (by decide +kernel)))) (by decide +kernel)
theorem kf_X9_48 : Cond.fieldLink RX9 48 RX9 "courses" "LSpurline$Courses;" ∈ gW := gW_t (List.mem_append_right _ (List.mem_append_left _ (show _ ∈ tables_1_2 from List.mem_of_getElem? (i := 25) (by decide +kernel)))) (by decide +kernel)
theorem kf_X9_57 : Cond.fieldLink RX9 57 RX9 "planner" "LSpurline$Planner;" ∈ gW := gW_t (List.mem_append_right _ (List.mem_append_left _ (show _ ∈ tables_1_2 from List.mem_of_getElem? (i := 26) (by decide +kernel)))) (by decide +kernel)
theorem kf_X9_64 : Cond.fieldLink RX9 64 RX9 "entries" "LSpurline$Entries;" ∈ gW := gW_t (List.mem_append_right _ (List.mem_append_left _ (show _ ∈ tables_1_2 from List.mem_of_getElem? (i := 27) (by decide +kernel)))) (by decide +kernel)
theorem kf_X9_73 : Cond.fieldLink RX9 73 RX9 "results" "LSpurline$Results;" ∈ gW := gW_t (List.mem_append_right _ (List.mem_append_left _ (show _ ∈ tables_1_2 from List.mem_of_getElem? (i := 28) (by decide +kernel)))) (by decide +kernel)
theorem km_L_121 : Cond.methodLink RL 121 yL_drawn ∈ gW := gW_t (List.mem_append_right _ (List.mem_append_left _ (show _ ∈ tables_1_2 from List.mem_of_getElem? (i := 46) (by decide +kernel)))) (by decide +kernel)
theorem kt_L_drawn : Cond.static yL_drawn ∈ gW := gW_t (List.mem_append_right _ (List.mem_append_left _ (show _ ∈ tables_1_2 from List.mem_of_getElem? (i := 47) (by decide +kernel)))) (by decide +kernel)
theorem kc_L_drawn : Cond.code yL_drawn cL_drawn 3 (some .int) ∈ gW := gW_t (List.mem_append_right _ (List.mem_append_left _ (show _ ∈ tables_1_2 from List.mem_of_getElem? (i := 48) (by decide +kernel)))) (by decide +kernel)
theorem km_L_128 : Cond.methodLink RL 128 yL_does ∈ gW := gW_t (List.mem_append_right _ (List.mem_append_left _ (show _ ∈ tables_1_2 from List.mem_of_getElem? (i := 50) (by decide +kernel)))) (by decide +kernel)
theorem kt_L_does : Cond.static yL_does ∈ gW := gW_t (List.mem_append_right _ (List.mem_append_left _ (show _ ∈ tables_1_2 from List.mem_of_getElem? (i := 51) (by decide +kernel)))) (by decide +kernel)
theorem kh_L_does : Cond.codeWith yL_does cL_does 6 (some .int) [(0, 93, 94, 33), (0, 93, 99, 35), (0, 93, 104, 37)] ∈ gW := gW_t (List.mem_append_right _ (List.mem_append_left _ (show _ ∈ tables_1_2 from List.mem_of_getElem? (i := 52) (by decide +kernel)))) (by decide +kernel)
theorem kl_L_33 : Cond.classLink RL 33 "java/lang/IndexOutOfBoundsException" ∈ gW := gW_t (List.mem_append_right _ (List.mem_append_left _ (show _ ∈ tables_1_2 from List.mem_of_getElem? (i := 53) (by decide +kernel)))) (by decide +kernel)
theorem kl_L_35 : Cond.classLink RL 35 "java/lang/IllegalArgumentException" ∈ gW := gW_t (List.mem_append_right _ (List.mem_append_left _ (show _ ∈ tables_1_2 from List.mem_of_getElem? (i := 54) (by decide +kernel)))) (by decide +kernel)
theorem kl_L_37 : Cond.classLink RL 37 "java/lang/IllegalStateException" ∈ gW := gW_t (List.mem_append_right _ (List.mem_append_left _ (show _ ∈ tables_1_2 from List.mem_of_getElem? (i := 55) (by decide +kernel)))) (by decide +kernel)
theorem km_L_8 : Cond.methodLink RL 8 yX9_setHeight ∈ gW := gW_t (List.mem_append_right _ (List.mem_append_left _ (show _ ∈ tables_1_2 from List.mem_of_getElem? (i := 56) (by decide +kernel)))) (by decide +kernel)
theorem ki_X9_setHeight : Cond.instanceMethod yX9_setHeight ∈ gW := gW_t (List.mem_append_right _ (List.mem_append_left _ (show _ ∈ tables_1_2 from List.mem_of_getElem? (i := 57) (by decide +kernel)))) (by decide +kernel)
theorem ks_X9_setHeight : Cond.selects RX9 yX9_setHeight yX9_setHeight ∈ gW := gW_t (List.mem_append_right _ (List.mem_append_left _ (show _ ∈ tables_1_2 from List.mem_of_getElem? (i := 58) (by decide +kernel)))) (by decide +kernel)
theorem kc_X9_setHeight : Cond.code yX9_setHeight cX9_setHeight 4 (some .int) ∈ gW := gW_t (List.mem_append_right _ (List.mem_append_left _ (show _ ∈ tables_1_2 from List.mem_of_getElem? (i := 59) (by decide +kernel)))) (by decide +kernel)
theorem km_X9_86 : Cond.methodLink RX9 86 yX9_needCell ∈ gW := gW_t (List.mem_append_right _ (List.mem_append_left _ (show _ ∈ tables_1_2 from List.mem_of_getElem? (i := 60) (by decide +kernel)))) (by decide +kernel)
theorem ki_X9_needCell : Cond.instanceMethod yX9_needCell ∈ gW := gW_t (List.mem_append_right _ (List.mem_append_left _ (show _ ∈ tables_1_2 from List.mem_of_getElem? (i := 62) (by decide +kernel)))) (by decide +kernel)
theorem kc_X9_needCell : Cond.code yX9_needCell cX9_needCell 3 none ∈ gW := gW_t (List.mem_append_right _ (List.mem_append_left _ (show _ ∈ tables_1_2 from List.mem_of_getElem? (i := 63) (by decide +kernel)))) (by decide +kernel)
theorem km_X9_253 : Cond.methodLink RX9 253 yX8_has ∈ gW := gW_t (List.mem_append_right _ (List.mem_append_left _ (show _ ∈ tables_1_2 from List.mem_of_getElem? (i := 64) (by decide +kernel)))) (by decide +kernel)
theorem ki_X8_has : Cond.instanceMethod yX8_has ∈ gW := gW_t (List.mem_append_right _ (List.mem_append_left _ (show _ ∈ tables_1_2 from List.mem_of_getElem? (i := 65) (by decide +kernel)))) (by decide +kernel)
theorem ks_X8_has : Cond.selects RX8 yX8_has yX8_has ∈ gW := gW_t (List.mem_append_right _ (List.mem_append_left _ (show _ ∈ tables_1_2 from List.mem_of_getElem? (i := 66) (by decide +kernel)))) (by decide +kernel)
theorem kc_X8_has : Cond.code yX8_has cX8_has 3 (some .boolean) ∈ gW := gW_t (List.mem_append_right _ (List.mem_append_left _ (show _ ∈ tables_1_2 from List.mem_of_getElem? (i := 67) (by decide +kernel)))) (by decide +kernel)
theorem kl_X9_256 : Cond.classLink RX9 256 "java/lang/IndexOutOfBoundsException" ∈ gW := gW_t (List.mem_append_right _ (List.mem_append_left _ (show _ ∈ tables_1_2 from List.mem_of_getElem? (i := 68) (by decide +kernel)))) (by decide +kernel)
theorem km_X9_260 : Cond.methodLink RX9 260 ⟨"java/lang/IndexOutOfBoundsException", "<init>", "(Ljava/lang/String;)V"⟩ ∈ gW := gW_t (List.mem_append_right _ (List.mem_append_left _ (show _ ∈ tables_1_2 from List.mem_of_getElem? (i := 110) (by decide +kernel)))) (by decide +kernel)
theorem km_X9_89 : Cond.methodLink RX9 89 yX9_needRange ∈ gW := gW_t (List.mem_append_right _ (List.mem_append_left _ (show _ ∈ tables_1_2 from List.mem_of_getElem? (i := 136) (by decide +kernel)))) (by decide +kernel)
theorem kt_X9_needRange : Cond.static yX9_needRange ∈ gW := gW_t (List.mem_append_right _ (List.mem_append_left _ (show _ ∈ tables_1_2 from List.mem_of_getElem? (i := 137) (by decide +kernel)))) (by decide +kernel)
theorem kc_X9_needRange : Cond.code yX9_needRange cX9_needRange 3 none ∈ gW := gW_t (List.mem_append_right _ (List.mem_append_left _ (show _ ∈ tables_1_2 from List.mem_of_getElem? (i := 138) (by decide +kernel)))) (by decide +kernel)
theorem kl_X9_271 : Cond.classLink RX9 271 "java/lang/IllegalArgumentException" ∈ gW := gW_t (List.mem_append_right _ (List.mem_append_left _ (show _ ∈ tables_1_2 from List.mem_of_getElem? (i := 139) (by decide +kernel)))) (by decide +kernel)
theorem km_X9_275 : Cond.methodLink RX9 275 ⟨"java/lang/IllegalArgumentException", "<init>", "(Ljava/lang/String;)V"⟩ ∈ gW := gW_t (List.mem_append_right _ (List.mem_append_left _ (show _ ∈ tables_1_2 from List.mem_of_getElem? (i := 149) (by decide +kernel)))) (by decide +kernel)
theorem km_X9_93 : Cond.methodLink RX9 93 yX8_number ∈ gW := gW_t (List.mem_append_right _ (List.mem_append_left _ (show _ ∈ tables_1_2 from List.mem_of_getElem? (i := 155) (by decide +kernel)))) (by decide +kernel)
theorem kt_X8_number : Cond.static yX8_number ∈ gW := gW_t (List.mem_append_right _ (List.mem_append_left _ (show _ ∈ tables_1_2 from List.mem_of_getElem? (i := 156) (by decide +kernel)))) (by decide +kernel)
theorem kc_X8_number : Cond.code yX8_number cX8_number 2 (some .int) ∈ gW := gW_t (List.mem_append_right _ (List.mem_append_left _ (show _ ∈ tables_1_2 from List.mem_of_getElem? (i := 157) (by decide +kernel)))) (by decide +kernel)
theorem km_X9_96 : Cond.methodLink RX9 96 yX8_replaceHeight ∈ gW := gW_t (List.mem_append_right _ (List.mem_append_left _ (show _ ∈ tables_1_2 from List.mem_of_getElem? (i := 158) (by decide +kernel)))) (by decide +kernel)
theorem ki_X8_replaceHeight : Cond.instanceMethod yX8_replaceHeight ∈ gW := gW_t (List.mem_append_right _ (List.mem_append_left _ (show _ ∈ tables_1_2 from List.mem_of_getElem? (i := 159) (by decide +kernel)))) (by decide +kernel)
theorem ks_X8_replaceHeight : Cond.selects RX8 yX8_replaceHeight yX8_replaceHeight ∈ gW := gW_t (List.mem_append_right _ (List.mem_append_left _ (show _ ∈ tables_1_2 from List.mem_of_getElem? (i := 160) (by decide +kernel)))) (by decide +kernel)
theorem kc_X8_replaceHeight : Cond.code yX8_replaceHeight cX8_replaceHeight 4 (some .int) ∈ gW := gW_t (List.mem_append_right _ (List.mem_append_left _ (show _ ∈ tables_1_2 from List.mem_of_getElem? (i := 161) (by decide +kernel)))) (by decide +kernel)
theorem km_X8_30 : Cond.methodLink RX8 30 yX7_get ∈ gW := gW_t (List.mem_append_right _ (List.mem_append_left _ (show _ ∈ tables_1_2 from List.mem_of_getElem? (i := 162) (by decide +kernel)))) (by decide +kernel)
theorem ki_X7_get : Cond.instanceMethod yX7_get ∈ gW := gW_t (List.mem_append_right _ (List.mem_append_left _ (show _ ∈ tables_1_2 from List.mem_of_getElem? (i := 163) (by decide +kernel)))) (by decide +kernel)
theorem ks_X7_get : Cond.selects RX7 yX7_get yX7_get ∈ gW := gW_t (List.mem_append_right _ (List.mem_append_left _ (show _ ∈ tables_1_2 from List.mem_of_getElem? (i := 164) (by decide +kernel)))) (by decide +kernel)
theorem kc_X7_get : Cond.code yX7_get cX7_get 2 (some .int) ∈ gW := gW_t (List.mem_append_right _ (List.mem_append_left _ (show _ ∈ tables_1_2 from List.mem_of_getElem? (i := 165) (by decide +kernel)))) (by decide +kernel)
theorem km_X8_34 : Cond.methodLink RX8 34 yX7_put ∈ gW := gW_t (List.mem_append_right _ (List.mem_append_left _ (show _ ∈ tables_1_2 from List.mem_of_getElem? (i := 166) (by decide +kernel)))) (by decide +kernel)
theorem ki_X7_put : Cond.instanceMethod yX7_put ∈ gW := gW_t (List.mem_append_right _ (List.mem_append_left _ (show _ ∈ tables_1_2 from List.mem_of_getElem? (i := 167) (by decide +kernel)))) (by decide +kernel)
theorem ks_X7_put : Cond.selects RX7 yX7_put yX7_put ∈ gW := gW_t (List.mem_append_right _ (List.mem_append_left _ (show _ ∈ tables_1_2 from List.mem_of_getElem? (i := 168) (by decide +kernel)))) (by decide +kernel)
theorem kc_X7_put : Cond.code yX7_put cX7_put 3 none ∈ gW := gW_t (List.mem_append_right _ (List.mem_append_left _ (show _ ∈ tables_1_2 from List.mem_of_getElem? (i := 169) (by decide +kernel)))) (by decide +kernel)
theorem km_L_14 : Cond.methodLink RL 14 yX9_visit ∈ gW := gW_t (List.mem_append_right _ (List.mem_append_left _ (show _ ∈ tables_1_2 from List.mem_of_getElem? (i := 170) (by decide +kernel)))) (by decide +kernel)
theorem ki_X9_visit : Cond.instanceMethod yX9_visit ∈ gW := gW_t (List.mem_append_right _ (List.mem_append_left _ (show _ ∈ tables_1_2 from List.mem_of_getElem? (i := 171) (by decide +kernel)))) (by decide +kernel)
theorem ks_X9_visit : Cond.selects RX9 yX9_visit yX9_visit ∈ gW := gW_t (List.mem_append_right _ (List.mem_append_left _ (show _ ∈ tables_1_2 from List.mem_of_getElem? (i := 172) (by decide +kernel)))) (by decide +kernel)
theorem kc_X9_visit : Cond.code yX9_visit cX9_visit 3 (some .int) ∈ gW := gW_t (List.mem_append_right _ (List.mem_append_left _ (show _ ∈ tables_1_2 from List.mem_of_getElem? (i := 173) (by decide +kernel)))) (by decide +kernel)
theorem km_X9_125 : Cond.methodLink RX9 125 yX9_needKlass ∈ gW := gW_t (List.mem_append_right _ (List.mem_append_left _ (show _ ∈ tables_1_2 from List.mem_of_getElem? (i := 174) (by decide +kernel)))) (by decide +kernel)
theorem kt_X9_needKlass : Cond.static yX9_needKlass ∈ gW := gW_t (List.mem_append_right _ (List.mem_append_left _ (show _ ∈ tables_1_2 from List.mem_of_getElem? (i := 175) (by decide +kernel)))) (by decide +kernel)
theorem kc_X9_needKlass : Cond.code yX9_needKlass cX9_needKlass 1 none ∈ gW := gW_t (List.mem_append_right _ (List.mem_append_left _ (show _ ∈ tables_1_2 from List.mem_of_getElem? (i := 176) (by decide +kernel)))) (by decide +kernel)
theorem km_X9_220 : Cond.methodLink RX9 220 yX9_needIndex ∈ gW := gW_t (List.mem_append_right _ (List.mem_append_left _ (show _ ∈ tables_1_2 from List.mem_of_getElem? (i := 177) (by decide +kernel)))) (by decide +kernel)
theorem kt_X9_needIndex : Cond.static yX9_needIndex ∈ gW := gW_t (List.mem_append_right _ (List.mem_append_left _ (show _ ∈ tables_1_2 from List.mem_of_getElem? (i := 178) (by decide +kernel)))) (by decide +kernel)
theorem kc_X9_needIndex : Cond.code yX9_needIndex cX9_needIndex 2 none ∈ gW := gW_t (List.mem_append_right _ (List.mem_append_left _ (show _ ∈ tables_1_2 from List.mem_of_getElem? (i := 179) (by decide +kernel)))) (by decide +kernel)
theorem km_X9_129 : Cond.methodLink RX9 129 yX9_needControl ∈ gW := gW_t (List.mem_append_right _ (List.mem_append_left _ (show _ ∈ tables_1_2 from List.mem_of_getElem? (i := 181) (by decide +kernel)))) (by decide +kernel)
theorem ki_X9_needControl : Cond.instanceMethod yX9_needControl ∈ gW := gW_t (List.mem_append_right _ (List.mem_append_left _ (show _ ∈ tables_1_2 from List.mem_of_getElem? (i := 183) (by decide +kernel)))) (by decide +kernel)
theorem kc_X9_needControl : Cond.code yX9_needControl cX9_needControl 2 none ∈ gW := gW_t (List.mem_append_right _ (List.mem_append_left _ (show _ ∈ tables_1_2 from List.mem_of_getElem? (i := 184) (by decide +kernel)))) (by decide +kernel)
theorem km_X9_107 : Cond.methodLink RX9 107 yX1_count ∈ gW := gW_t (List.mem_append_right _ (List.mem_append_left _ (show _ ∈ tables_1_2 from List.mem_of_getElem? (i := 185) (by decide +kernel)))) (by decide +kernel)
theorem ki_X1_count : Cond.instanceMethod yX1_count ∈ gW := gW_t (List.mem_append_right _ (List.mem_append_left _ (show _ ∈ tables_1_2 from List.mem_of_getElem? (i := 186) (by decide +kernel)))) (by decide +kernel)
theorem ks_X1_count : Cond.selects RX1 yX1_count yX1_count ∈ gW := gW_t (List.mem_append_right _ (List.mem_append_left _ (show _ ∈ tables_1_2 from List.mem_of_getElem? (i := 187) (by decide +kernel)))) (by decide +kernel)
theorem kc_X1_count : Cond.code yX1_count cX1_count 1 (some .int) ∈ gW := gW_t (List.mem_append_right _ (List.mem_append_left _ (show _ ∈ tables_1_2 from List.mem_of_getElem? (i := 188) (by decide +kernel)))) (by decide +kernel)
theorem km_X9_132 : Cond.methodLink RX9 132 yX2_length ∈ gW := gW_t (List.mem_append_right _ (List.mem_append_left _ (show _ ∈ tables_1_2 from List.mem_of_getElem? (i := 189) (by decide +kernel)))) (by decide +kernel)
theorem ki_X2_length : Cond.instanceMethod yX2_length ∈ gW := gW_t (List.mem_append_right _ (List.mem_append_left _ (show _ ∈ tables_1_2 from List.mem_of_getElem? (i := 190) (by decide +kernel)))) (by decide +kernel)
theorem ks_X2_length : Cond.selects RX2 yX2_length yX2_length ∈ gW := gW_t (List.mem_append_right _ (List.mem_append_left _ (show _ ∈ tables_1_2 from List.mem_of_getElem? (i := 191) (by decide +kernel)))) (by decide +kernel)
theorem kc_X2_length : Cond.code yX2_length cX2_length 2 (some .int) ∈ gW := gW_t (List.mem_append_right _ (List.mem_append_left _ (show _ ∈ tables_1_2 from List.mem_of_getElem? (i := 192) (by decide +kernel)))) (by decide +kernel)
theorem km_X2_23 : Cond.methodLink RX2 23 yX7_get ∈ gW := gW_t (List.mem_append_right _ (List.mem_append_left _ (show _ ∈ tables_1_2 from List.mem_of_getElem? (i := 193) (by decide +kernel)))) (by decide +kernel)
theorem km_X9_135 : Cond.methodLink RX9 135 yX2_contains ∈ gW := gW_t (List.mem_append_right _ (List.mem_append_left _ (show _ ∈ tables_1_2 from List.mem_of_getElem? (i := 194) (by decide +kernel)))) (by decide +kernel)
theorem ki_X2_contains : Cond.instanceMethod yX2_contains ∈ gW := gW_t (List.mem_append_right _ (List.mem_append_left _ (show _ ∈ tables_1_2 from List.mem_of_getElem? (i := 195) (by decide +kernel)))) (by decide +kernel)
theorem ks_X2_contains : Cond.selects RX2 yX2_contains yX2_contains ∈ gW := gW_t (List.mem_append_right _ (List.mem_append_left _ (show _ ∈ tables_1_2 from List.mem_of_getElem? (i := 196) (by decide +kernel)))) (by decide +kernel)
theorem kc_X2_contains : Cond.code yX2_contains cX2_contains 4 (some .boolean) ∈ gW := gW_t (List.mem_append_right _ (List.mem_append_left _ (show _ ∈ tables_1_2 from List.mem_of_getElem? (i := 197) (by decide +kernel)))) (by decide +kernel)
theorem km_X2_33 : Cond.methodLink RX2 33 yX2_controlAt ∈ gW := gW_t (List.mem_append_right _ (List.mem_append_left _ (show _ ∈ tables_1_2 from List.mem_of_getElem? (i := 198) (by decide +kernel)))) (by decide +kernel)
theorem ki_X2_controlAt : Cond.instanceMethod yX2_controlAt ∈ gW := gW_t (List.mem_append_right _ (List.mem_append_left _ (show _ ∈ tables_1_2 from List.mem_of_getElem? (i := 199) (by decide +kernel)))) (by decide +kernel)
theorem ks_X2_controlAt : Cond.selects RX2 yX2_controlAt yX2_controlAt ∈ gW := gW_t (List.mem_append_right _ (List.mem_append_left _ (show _ ∈ tables_1_2 from List.mem_of_getElem? (i := 200) (by decide +kernel)))) (by decide +kernel)
theorem kc_X2_controlAt : Cond.code yX2_controlAt cX2_controlAt 3 (some .int) ∈ gW := gW_t (List.mem_append_right _ (List.mem_append_left _ (show _ ∈ tables_1_2 from List.mem_of_getElem? (i := 201) (by decide +kernel)))) (by decide +kernel)
theorem km_X9_111 : Cond.methodLink RX9 111 yX9_needState ∈ gW := gW_t (List.mem_append_right _ (List.mem_append_left _ (show _ ∈ tables_1_2 from List.mem_of_getElem? (i := 202) (by decide +kernel)))) (by decide +kernel)
theorem kt_X9_needState : Cond.static yX9_needState ∈ gW := gW_t (List.mem_append_right _ (List.mem_append_left _ (show _ ∈ tables_1_2 from List.mem_of_getElem? (i := 203) (by decide +kernel)))) (by decide +kernel)
theorem kc_X9_needState : Cond.code yX9_needState cX9_needState 1 none ∈ gW := gW_t (List.mem_append_right _ (List.mem_append_left _ (show _ ∈ tables_1_2 from List.mem_of_getElem? (i := 204) (by decide +kernel)))) (by decide +kernel)
theorem kl_X9_276 : Cond.classLink RX9 276 "java/lang/IllegalStateException" ∈ gW := gW_t (List.mem_append_right _ (List.mem_append_left _ (show _ ∈ tables_1_2 from List.mem_of_getElem? (i := 205) (by decide +kernel)))) (by decide +kernel)
theorem km_X9_280 : Cond.methodLink RX9 280 ⟨"java/lang/IllegalStateException", "<init>", "(Ljava/lang/String;)V"⟩ ∈ gW := gW_t (List.mem_append_right _ (List.mem_append_left _ (show _ ∈ tables_1_2 from List.mem_of_getElem? (i := 215) (by decide +kernel)))) (by decide +kernel)
theorem km_X9_139 : Cond.methodLink RX9 139 yX3_areDrawn ∈ gW := gW_t (List.mem_append_right _ (List.mem_append_left _ (show _ ∈ tables_1_2 from List.mem_of_getElem? (i := 221) (by decide +kernel)))) (by decide +kernel)
theorem ki_X3_areDrawn : Cond.instanceMethod yX3_areDrawn ∈ gW := gW_t (List.mem_append_right _ (List.mem_append_left _ (show _ ∈ tables_1_2 from List.mem_of_getElem? (i := 222) (by decide +kernel)))) (by decide +kernel)
theorem ks_X3_areDrawn : Cond.selects RX3 yX3_areDrawn yX3_areDrawn ∈ gW := gW_t (List.mem_append_right _ (List.mem_append_left _ (show _ ∈ tables_1_2 from List.mem_of_getElem? (i := 223) (by decide +kernel)))) (by decide +kernel)
theorem kc_X3_areDrawn : Cond.code yX3_areDrawn cX3_areDrawn 1 (some .boolean) ∈ gW := gW_t (List.mem_append_right _ (List.mem_append_left _ (show _ ∈ tables_1_2 from List.mem_of_getElem? (i := 224) (by decide +kernel)))) (by decide +kernel)
theorem km_X9_143 : Cond.methodLink RX9 143 yX2_append ∈ gW := gW_t (List.mem_append_right _ (List.mem_append_left _ (show _ ∈ tables_1_2 from List.mem_of_getElem? (i := 225) (by decide +kernel)))) (by decide +kernel)
theorem ki_X2_append : Cond.instanceMethod yX2_append ∈ gW := gW_t (List.mem_append_right _ (List.mem_append_left _ (show _ ∈ tables_1_2 from List.mem_of_getElem? (i := 226) (by decide +kernel)))) (by decide +kernel)
theorem ks_X2_append : Cond.selects RX2 yX2_append yX2_append ∈ gW := gW_t (List.mem_append_right _ (List.mem_append_left _ (show _ ∈ tables_1_2 from List.mem_of_getElem? (i := 227) (by decide +kernel)))) (by decide +kernel)
theorem kc_X2_append : Cond.code yX2_append cX2_append 3 (some .int) ∈ gW := gW_t (List.mem_append_right _ (List.mem_append_left _ (show _ ∈ tables_1_2 from List.mem_of_getElem? (i := 228) (by decide +kernel)))) (by decide +kernel)
theorem km_X2_39 : Cond.methodLink RX2 39 yX2_replaceControl ∈ gW := gW_t (List.mem_append_right _ (List.mem_append_left _ (show _ ∈ tables_1_2 from List.mem_of_getElem? (i := 229) (by decide +kernel)))) (by decide +kernel)
theorem ki_X2_replaceControl : Cond.instanceMethod yX2_replaceControl ∈ gW := gW_t (List.mem_append_right _ (List.mem_append_left _ (show _ ∈ tables_1_2 from List.mem_of_getElem? (i := 230) (by decide +kernel)))) (by decide +kernel)
theorem ks_X2_replaceControl : Cond.selects RX2 yX2_replaceControl yX2_replaceControl ∈ gW := gW_t (List.mem_append_right _ (List.mem_append_left _ (show _ ∈ tables_1_2 from List.mem_of_getElem? (i := 231) (by decide +kernel)))) (by decide +kernel)
theorem kc_X2_replaceControl : Cond.code yX2_replaceControl cX2_replaceControl 4 none ∈ gW := gW_t (List.mem_append_right _ (List.mem_append_left _ (show _ ∈ tables_1_2 from List.mem_of_getElem? (i := 232) (by decide +kernel)))) (by decide +kernel)
theorem km_X2_47 : Cond.methodLink RX2 47 yX7_put ∈ gW := gW_t (List.mem_append_right _ (List.mem_append_left _ (show _ ∈ tables_1_2 from List.mem_of_getElem? (i := 233) (by decide +kernel)))) (by decide +kernel)
theorem km_X2_43 : Cond.methodLink RX2 43 yX7_increase ∈ gW := gW_t (List.mem_append_right _ (List.mem_append_left _ (show _ ∈ tables_1_2 from List.mem_of_getElem? (i := 234) (by decide +kernel)))) (by decide +kernel)
theorem ki_X7_increase : Cond.instanceMethod yX7_increase ∈ gW := gW_t (List.mem_append_right _ (List.mem_append_left _ (show _ ∈ tables_1_2 from List.mem_of_getElem? (i := 235) (by decide +kernel)))) (by decide +kernel)
theorem ks_X7_increase : Cond.selects RX7 yX7_increase yX7_increase ∈ gW := gW_t (List.mem_append_right _ (List.mem_append_left _ (show _ ∈ tables_1_2 from List.mem_of_getElem? (i := 236) (by decide +kernel)))) (by decide +kernel)
theorem kc_X7_increase : Cond.code yX7_increase cX7_increase 3 none ∈ gW := gW_t (List.mem_append_right _ (List.mem_append_left _ (show _ ∈ tables_1_2 from List.mem_of_getElem? (i := 237) (by decide +kernel)))) (by decide +kernel)
theorem km_X7_21 : Cond.methodLink RX7 21 yX7_get ∈ gW := gW_t (List.mem_append_right _ (List.mem_append_left _ (show _ ∈ tables_1_2 from List.mem_of_getElem? (i := 238) (by decide +kernel)))) (by decide +kernel)
theorem km_X7_25 : Cond.methodLink RX7 25 yX7_put ∈ gW := gW_t (List.mem_append_right _ (List.mem_append_left _ (show _ ∈ tables_1_2 from List.mem_of_getElem? (i := 239) (by decide +kernel)))) (by decide +kernel)
theorem km_L_18 : Cond.methodLink RL 18 yX9_arrange ∈ gW := gW_t (List.mem_append_right _ (List.mem_append_right _ (List.mem_append_left _ (show _ ∈ tables_1_3 from List.mem_of_getElem? (i := 0) (by decide +kernel))))) (by decide +kernel)
theorem ki_X9_arrange : Cond.instanceMethod yX9_arrange ∈ gW := gW_t (List.mem_append_right _ (List.mem_append_right _ (List.mem_append_left _ (show _ ∈ tables_1_3 from List.mem_of_getElem? (i := 1) (by decide +kernel))))) (by decide +kernel)
theorem ks_X9_arrange : Cond.selects RX9 yX9_arrange yX9_arrange ∈ gW := gW_t (List.mem_append_right _ (List.mem_append_right _ (List.mem_append_left _ (show _ ∈ tables_1_3 from List.mem_of_getElem? (i := 2) (by decide +kernel))))) (by decide +kernel)
theorem kc_X9_arrange : Cond.code yX9_arrange cX9_arrange 3 (some .int) ∈ gW := gW_t (List.mem_append_right _ (List.mem_append_right _ (List.mem_append_left _ (show _ ∈ tables_1_3 from List.mem_of_getElem? (i := 3) (by decide +kernel))))) (by decide +kernel)
theorem km_X9_146 : Cond.methodLink RX9 146 yX4_reorder ∈ gW := gW_t (List.mem_append_right _ (List.mem_append_right _ (List.mem_append_left _ (show _ ∈ tables_1_3 from List.mem_of_getElem? (i := 4) (by decide +kernel))))) (by decide +kernel)
theorem ki_X4_reorder : Cond.instanceMethod yX4_reorder ∈ gW := gW_t (List.mem_append_right _ (List.mem_append_right _ (List.mem_append_left _ (show _ ∈ tables_1_3 from List.mem_of_getElem? (i := 5) (by decide +kernel))))) (by decide +kernel)
theorem ks_X4_reorder : Cond.selects RX4 yX4_reorder yX4_reorder ∈ gW := gW_t (List.mem_append_right _ (List.mem_append_right _ (List.mem_append_left _ (show _ ∈ tables_1_3 from List.mem_of_getElem? (i := 6) (by decide +kernel))))) (by decide +kernel)
theorem kc_X4_reorder : Cond.code yX4_reorder cX4_reorder 5 none ∈ gW := gW_t (List.mem_append_right _ (List.mem_append_right _ (List.mem_append_left _ (show _ ∈ tables_1_3 from List.mem_of_getElem? (i := 7) (by decide +kernel))))) (by decide +kernel)
theorem km_X4_86 : Cond.methodLink RX4 86 yX4_takeOrder ∈ gW := gW_t (List.mem_append_right _ (List.mem_append_right _ (List.mem_append_left _ (show _ ∈ tables_1_3 from List.mem_of_getElem? (i := 8) (by decide +kernel))))) (by decide +kernel)
theorem ki_X4_takeOrder : Cond.instanceMethod yX4_takeOrder ∈ gW := gW_t (List.mem_append_right _ (List.mem_append_right _ (List.mem_append_left _ (show _ ∈ tables_1_3 from List.mem_of_getElem? (i := 10) (by decide +kernel))))) (by decide +kernel)
theorem kc_X4_takeOrder : Cond.code yX4_takeOrder cX4_takeOrder 3 none ∈ gW := gW_t (List.mem_append_right _ (List.mem_append_right _ (List.mem_append_left _ (show _ ∈ tables_1_3 from List.mem_of_getElem? (i := 11) (by decide +kernel))))) (by decide +kernel)
theorem km_X4_115 : Cond.methodLink RX4 115 yX2_length ∈ gW := gW_t (List.mem_append_right _ (List.mem_append_right _ (List.mem_append_left _ (show _ ∈ tables_1_3 from List.mem_of_getElem? (i := 12) (by decide +kernel))))) (by decide +kernel)
theorem km_X4_54 : Cond.methodLink RX4 54 yX2_controlAt ∈ gW := gW_t (List.mem_append_right _ (List.mem_append_right _ (List.mem_append_left _ (show _ ∈ tables_1_3 from List.mem_of_getElem? (i := 13) (by decide +kernel))))) (by decide +kernel)
theorem km_X4_117 : Cond.methodLink RX4 117 yX7_put ∈ gW := gW_t (List.mem_append_right _ (List.mem_append_right _ (List.mem_append_left _ (show _ ∈ tables_1_3 from List.mem_of_getElem? (i := 14) (by decide +kernel))))) (by decide +kernel)
theorem km_X4_89 : Cond.methodLink RX4 89 yX4_sortBetweenEnds ∈ gW := gW_t (List.mem_append_right _ (List.mem_append_right _ (List.mem_append_left _ (show _ ∈ tables_1_3 from List.mem_of_getElem? (i := 15) (by decide +kernel))))) (by decide +kernel)
theorem ki_X4_sortBetweenEnds : Cond.instanceMethod yX4_sortBetweenEnds ∈ gW := gW_t (List.mem_append_right _ (List.mem_append_right _ (List.mem_append_left _ (show _ ∈ tables_1_3 from List.mem_of_getElem? (i := 17) (by decide +kernel))))) (by decide +kernel)
theorem kc_X4_sortBetweenEnds : Cond.code yX4_sortBetweenEnds cX4_sortBetweenEnds 3 none ∈ gW := gW_t (List.mem_append_right _ (List.mem_append_right _ (List.mem_append_left _ (show _ ∈ tables_1_3 from List.mem_of_getElem? (i := 18) (by decide +kernel))))) (by decide +kernel)
theorem km_X4_108 : Cond.methodLink RX4 108 yX7_get ∈ gW := gW_t (List.mem_append_right _ (List.mem_append_right _ (List.mem_append_left _ (show _ ∈ tables_1_3 from List.mem_of_getElem? (i := 19) (by decide +kernel))))) (by decide +kernel)
theorem km_X4_121 : Cond.methodLink RX4 121 yX4_swap ∈ gW := gW_t (List.mem_append_right _ (List.mem_append_right _ (List.mem_append_left _ (show _ ∈ tables_1_3 from List.mem_of_getElem? (i := 20) (by decide +kernel))))) (by decide +kernel)
theorem ki_X4_swap : Cond.instanceMethod yX4_swap ∈ gW := gW_t (List.mem_append_right _ (List.mem_append_right _ (List.mem_append_left _ (show _ ∈ tables_1_3 from List.mem_of_getElem? (i := 22) (by decide +kernel))))) (by decide +kernel)
theorem kc_X4_swap : Cond.code yX4_swap cX4_swap 4 none ∈ gW := gW_t (List.mem_append_right _ (List.mem_append_right _ (List.mem_append_left _ (show _ ∈ tables_1_3 from List.mem_of_getElem? (i := 23) (by decide +kernel))))) (by decide +kernel)
theorem km_X4_92 : Cond.methodLink RX4 92 yX4_measureLegs ∈ gW := gW_t (List.mem_append_right _ (List.mem_append_right _ (List.mem_append_left _ (show _ ∈ tables_1_3 from List.mem_of_getElem? (i := 24) (by decide +kernel))))) (by decide +kernel)
theorem ki_X4_measureLegs : Cond.instanceMethod yX4_measureLegs ∈ gW := gW_t (List.mem_append_right _ (List.mem_append_right _ (List.mem_append_left _ (show _ ∈ tables_1_3 from List.mem_of_getElem? (i := 26) (by decide +kernel))))) (by decide +kernel)
theorem kc_X4_measureLegs : Cond.code yX4_measureLegs cX4_measureLegs 5 none ∈ gW := gW_t (List.mem_append_right _ (List.mem_append_right _ (List.mem_append_left _ (show _ ∈ tables_1_3 from List.mem_of_getElem? (i := 27) (by decide +kernel))))) (by decide +kernel)
theorem km_X4_58 : Cond.methodLink RX4 58 yX1_cellOf ∈ gW := gW_t (List.mem_append_right _ (List.mem_append_right _ (List.mem_append_left _ (show _ ∈ tables_1_3 from List.mem_of_getElem? (i := 28) (by decide +kernel))))) (by decide +kernel)
theorem ki_X1_cellOf : Cond.instanceMethod yX1_cellOf ∈ gW := gW_t (List.mem_append_right _ (List.mem_append_right _ (List.mem_append_left _ (show _ ∈ tables_1_3 from List.mem_of_getElem? (i := 29) (by decide +kernel))))) (by decide +kernel)
theorem ks_X1_cellOf : Cond.selects RX1 yX1_cellOf yX1_cellOf ∈ gW := gW_t (List.mem_append_right _ (List.mem_append_right _ (List.mem_append_left _ (show _ ∈ tables_1_3 from List.mem_of_getElem? (i := 30) (by decide +kernel))))) (by decide +kernel)
theorem kc_X1_cellOf : Cond.code yX1_cellOf cX1_cellOf 2 (some .int) ∈ gW := gW_t (List.mem_append_right _ (List.mem_append_right _ (List.mem_append_left _ (show _ ∈ tables_1_3 from List.mem_of_getElem? (i := 31) (by decide +kernel))))) (by decide +kernel)
theorem km_X1_27 : Cond.methodLink RX1 27 yX7_get ∈ gW := gW_t (List.mem_append_right _ (List.mem_append_right _ (List.mem_append_left _ (show _ ∈ tables_1_3 from List.mem_of_getElem? (i := 32) (by decide +kernel))))) (by decide +kernel)
theorem km_X4_63 : Cond.methodLink RX4 63 yX6_search ∈ gW := gW_t (List.mem_append_right _ (List.mem_append_right _ (List.mem_append_left _ (show _ ∈ tables_1_3 from List.mem_of_getElem? (i := 33) (by decide +kernel))))) (by decide +kernel)
theorem ki_X6_search : Cond.instanceMethod yX6_search ∈ gW := gW_t (List.mem_append_right _ (List.mem_append_right _ (List.mem_append_left _ (show _ ∈ tables_1_3 from List.mem_of_getElem? (i := 34) (by decide +kernel))))) (by decide +kernel)
theorem ks_X6_search : Cond.selects RX6 yX6_search yX6_search ∈ gW := gW_t (List.mem_append_right _ (List.mem_append_right _ (List.mem_append_left _ (show _ ∈ tables_1_3 from List.mem_of_getElem? (i := 35) (by decide +kernel))))) (by decide +kernel)
theorem kc_X6_search : Cond.code yX6_search cX6_search 4 none ∈ gW := gW_t (List.mem_append_right _ (List.mem_append_right _ (List.mem_append_left _ (show _ ∈ tables_1_3 from List.mem_of_getElem? (i := 36) (by decide +kernel))))) (by decide +kernel)
theorem km_X6_34 : Cond.methodLink RX6 34 yX6_begin ∈ gW := gW_t (List.mem_append_right _ (List.mem_append_right _ (List.mem_append_left _ (show _ ∈ tables_1_3 from List.mem_of_getElem? (i := 37) (by decide +kernel))))) (by decide +kernel)
theorem ki_X6_begin : Cond.instanceMethod yX6_begin ∈ gW := gW_t (List.mem_append_right _ (List.mem_append_right _ (List.mem_append_left _ (show _ ∈ tables_1_3 from List.mem_of_getElem? (i := 39) (by decide +kernel))))) (by decide +kernel)
theorem kc_X6_begin : Cond.code yX6_begin cX6_begin 2 none ∈ gW := gW_t (List.mem_append_right _ (List.mem_append_right _ (List.mem_append_left _ (show _ ∈ tables_1_3 from List.mem_of_getElem? (i := 40) (by decide +kernel))))) (by decide +kernel)
theorem km_X6_57 : Cond.methodLink RX6 57 yX7_fill ∈ gW := gW_t (List.mem_append_right _ (List.mem_append_right _ (List.mem_append_left _ (show _ ∈ tables_1_3 from List.mem_of_getElem? (i := 41) (by decide +kernel))))) (by decide +kernel)
theorem ki_X7_fill : Cond.instanceMethod yX7_fill ∈ gW := gW_t (List.mem_append_right _ (List.mem_append_right _ (List.mem_append_left _ (show _ ∈ tables_1_3 from List.mem_of_getElem? (i := 42) (by decide +kernel))))) (by decide +kernel)
theorem ks_X7_fill : Cond.selects RX7 yX7_fill yX7_fill ∈ gW := gW_t (List.mem_append_right _ (List.mem_append_right _ (List.mem_append_left _ (show _ ∈ tables_1_3 from List.mem_of_getElem? (i := 43) (by decide +kernel))))) (by decide +kernel)
theorem kc_X7_fill : Cond.code yX7_fill cX7_fill 3 none ∈ gW := gW_t (List.mem_append_right _ (List.mem_append_right _ (List.mem_append_left _ (show _ ∈ tables_1_3 from List.mem_of_getElem? (i := 44) (by decide +kernel))))) (by decide +kernel)
theorem km_X6_37 : Cond.methodLink RX6 37 yX7_put ∈ gW := gW_t (List.mem_append_right _ (List.mem_append_right _ (List.mem_append_left _ (show _ ∈ tables_1_3 from List.mem_of_getElem? (i := 45) (by decide +kernel))))) (by decide +kernel)
theorem km_X6_45 : Cond.methodLink RX6 45 yX6_takeNearest ∈ gW := gW_t (List.mem_append_right _ (List.mem_append_right _ (List.mem_append_left _ (show _ ∈ tables_1_3 from List.mem_of_getElem? (i := 46) (by decide +kernel))))) (by decide +kernel)
theorem ki_X6_takeNearest : Cond.instanceMethod yX6_takeNearest ∈ gW := gW_t (List.mem_append_right _ (List.mem_append_right _ (List.mem_append_left _ (show _ ∈ tables_1_3 from List.mem_of_getElem? (i := 48) (by decide +kernel))))) (by decide +kernel)
theorem kc_X6_takeNearest : Cond.code yX6_takeNearest cX6_takeNearest 3 (some .int) ∈ gW := gW_t (List.mem_append_right _ (List.mem_append_right _ (List.mem_append_left _ (show _ ∈ tables_1_3 from List.mem_of_getElem? (i := 49) (by decide +kernel))))) (by decide +kernel)
theorem km_X6_30 : Cond.methodLink RX6 30 yX7_get ∈ gW := gW_t (List.mem_append_right _ (List.mem_append_right _ (List.mem_append_left _ (show _ ∈ tables_1_3 from List.mem_of_getElem? (i := 50) (by decide +kernel))))) (by decide +kernel)
theorem km_X6_49 : Cond.methodLink RX6 49 yX6_goOn ∈ gW := gW_t (List.mem_append_right _ (List.mem_append_right _ (List.mem_append_left _ (show _ ∈ tables_1_3 from List.mem_of_getElem? (i := 51) (by decide +kernel))))) (by decide +kernel)
theorem ki_X6_goOn : Cond.instanceMethod yX6_goOn ∈ gW := gW_t (List.mem_append_right _ (List.mem_append_right _ (List.mem_append_left _ (show _ ∈ tables_1_3 from List.mem_of_getElem? (i := 53) (by decide +kernel))))) (by decide +kernel)
theorem kc_X6_goOn : Cond.code yX6_goOn cX6_goOn 6 none ∈ gW := gW_t (List.mem_append_right _ (List.mem_append_right _ (List.mem_append_left _ (show _ ∈ tables_1_3 from List.mem_of_getElem? (i := 54) (by decide +kernel))))) (by decide +kernel)
theorem km_X6_60 : Cond.methodLink RX6 60 yX8_beyond ∈ gW := gW_t (List.mem_append_right _ (List.mem_append_right _ (List.mem_append_left _ (show _ ∈ tables_1_3 from List.mem_of_getElem? (i := 55) (by decide +kernel))))) (by decide +kernel)
theorem ki_X8_beyond : Cond.instanceMethod yX8_beyond ∈ gW := gW_t (List.mem_append_right _ (List.mem_append_right _ (List.mem_append_left _ (show _ ∈ tables_1_3 from List.mem_of_getElem? (i := 56) (by decide +kernel))))) (by decide +kernel)
theorem ks_X8_beyond : Cond.selects RX8 yX8_beyond yX8_beyond ∈ gW := gW_t (List.mem_append_right _ (List.mem_append_right _ (List.mem_append_left _ (show _ ∈ tables_1_3 from List.mem_of_getElem? (i := 57) (by decide +kernel))))) (by decide +kernel)
theorem kc_X8_beyond : Cond.code yX8_beyond cX8_beyond 5 (some .int) ∈ gW := gW_t (List.mem_append_right _ (List.mem_append_right _ (List.mem_append_left _ (show _ ∈ tables_1_3 from List.mem_of_getElem? (i := 58) (by decide +kernel))))) (by decide +kernel)
theorem km_X8_50 : Cond.methodLink RX8 50 yX8_has ∈ gW := gW_t (List.mem_append_right _ (List.mem_append_right _ (List.mem_append_left _ (show _ ∈ tables_1_3 from List.mem_of_getElem? (i := 59) (by decide +kernel))))) (by decide +kernel)
theorem km_X8_47 : Cond.methodLink RX8 47 yX8_number ∈ gW := gW_t (List.mem_append_right _ (List.mem_append_right _ (List.mem_append_left _ (show _ ∈ tables_1_3 from List.mem_of_getElem? (i := 60) (by decide +kernel))))) (by decide +kernel)
theorem km_X6_66 : Cond.methodLink RX6 66 yX8_isForbidden ∈ gW := gW_t (List.mem_append_right _ (List.mem_append_right _ (List.mem_append_left _ (show _ ∈ tables_1_3 from List.mem_of_getElem? (i := 61) (by decide +kernel))))) (by decide +kernel)
theorem ki_X8_isForbidden : Cond.instanceMethod yX8_isForbidden ∈ gW := gW_t (List.mem_append_right _ (List.mem_append_right _ (List.mem_append_left _ (show _ ∈ tables_1_3 from List.mem_of_getElem? (i := 62) (by decide +kernel))))) (by decide +kernel)
theorem ks_X8_isForbidden : Cond.selects RX8 yX8_isForbidden yX8_isForbidden ∈ gW := gW_t (List.mem_append_right _ (List.mem_append_right _ (List.mem_append_left _ (show _ ∈ tables_1_3 from List.mem_of_getElem? (i := 63) (by decide +kernel))))) (by decide +kernel)
theorem kc_X8_isForbidden : Cond.code yX8_isForbidden cX8_isForbidden 2 (some .boolean) ∈ gW := gW_t (List.mem_append_right _ (List.mem_append_right _ (List.mem_append_left _ (show _ ∈ tables_1_3 from List.mem_of_getElem? (i := 64) (by decide +kernel))))) (by decide +kernel)
theorem km_X6_69 : Cond.methodLink RX6 69 yX8_climbBetween ∈ gW := gW_t (List.mem_append_right _ (List.mem_append_right _ (List.mem_append_left _ (show _ ∈ tables_1_3 from List.mem_of_getElem? (i := 65) (by decide +kernel))))) (by decide +kernel)
theorem ki_X8_climbBetween : Cond.instanceMethod yX8_climbBetween ∈ gW := gW_t (List.mem_append_right _ (List.mem_append_right _ (List.mem_append_left _ (show _ ∈ tables_1_3 from List.mem_of_getElem? (i := 66) (by decide +kernel))))) (by decide +kernel)
theorem ks_X8_climbBetween : Cond.selects RX8 yX8_climbBetween yX8_climbBetween ∈ gW := gW_t (List.mem_append_right _ (List.mem_append_right _ (List.mem_append_left _ (show _ ∈ tables_1_3 from List.mem_of_getElem? (i := 67) (by decide +kernel))))) (by decide +kernel)
theorem kc_X8_climbBetween : Cond.code yX8_climbBetween cX8_climbBetween 3 (some .int) ∈ gW := gW_t (List.mem_append_right _ (List.mem_append_right _ (List.mem_append_left _ (show _ ∈ tables_1_3 from List.mem_of_getElem? (i := 68) (by decide +kernel))))) (by decide +kernel)
theorem km_X8_43 : Cond.methodLink RX8 43 yJ9_max_7cf53 ∈ gW := gW_t (List.mem_append_right _ (List.mem_append_right _ (List.mem_append_left _ (show _ ∈ tables_1_3 from List.mem_of_getElem? (i := 69) (by decide +kernel))))) (by decide +kernel)
theorem km_X6_72 : Cond.methodLink RX6 72 yX8_paceCost ∈ gW := gW_t (List.mem_append_right _ (List.mem_append_right _ (List.mem_append_left _ (show _ ∈ tables_1_3 from List.mem_of_getElem? (i := 70) (by decide +kernel))))) (by decide +kernel)
theorem ki_X8_paceCost : Cond.instanceMethod yX8_paceCost ∈ gW := gW_t (List.mem_append_right _ (List.mem_append_right _ (List.mem_append_left _ (show _ ∈ tables_1_3 from List.mem_of_getElem? (i := 71) (by decide +kernel))))) (by decide +kernel)
theorem ks_X8_paceCost : Cond.selects RX8 yX8_paceCost yX8_paceCost ∈ gW := gW_t (List.mem_append_right _ (List.mem_append_right _ (List.mem_append_left _ (show _ ∈ tables_1_3 from List.mem_of_getElem? (i := 72) (by decide +kernel))))) (by decide +kernel)
theorem kc_X8_paceCost : Cond.code yX8_paceCost cX8_paceCost 2 (some .int) ∈ gW := gW_t (List.mem_append_right _ (List.mem_append_right _ (List.mem_append_left _ (show _ ∈ tables_1_3 from List.mem_of_getElem? (i := 73) (by decide +kernel))))) (by decide +kernel)
theorem km_X6_75 : Cond.methodLink RX6 75 yX6_offer ∈ gW := gW_t (List.mem_append_right _ (List.mem_append_right _ (List.mem_append_left _ (show _ ∈ tables_1_3 from List.mem_of_getElem? (i := 74) (by decide +kernel))))) (by decide +kernel)
theorem ki_X6_offer : Cond.instanceMethod yX6_offer ∈ gW := gW_t (List.mem_append_right _ (List.mem_append_right _ (List.mem_append_left _ (show _ ∈ tables_1_3 from List.mem_of_getElem? (i := 76) (by decide +kernel))))) (by decide +kernel)
theorem kc_X6_offer : Cond.code yX6_offer cX6_offer 5 none ∈ gW := gW_t (List.mem_append_right _ (List.mem_append_right _ (List.mem_append_left _ (show _ ∈ tables_1_3 from List.mem_of_getElem? (i := 77) (by decide +kernel))))) (by decide +kernel)
theorem km_X4_124 : Cond.methodLink RX4 124 yX4_legNumber ∈ gW := gW_t (List.mem_append_right _ (List.mem_append_right _ (List.mem_append_left _ (show _ ∈ tables_1_3 from List.mem_of_getElem? (i := 78) (by decide +kernel))))) (by decide +kernel)
theorem kt_X4_legNumber : Cond.static yX4_legNumber ∈ gW := gW_t (List.mem_append_right _ (List.mem_append_right _ (List.mem_append_left _ (show _ ∈ tables_1_3 from List.mem_of_getElem? (i := 79) (by decide +kernel))))) (by decide +kernel)
theorem kc_X4_legNumber : Cond.code yX4_legNumber cX4_legNumber 2 (some .int) ∈ gW := gW_t (List.mem_append_right _ (List.mem_append_right _ (List.mem_append_left _ (show _ ∈ tables_1_3 from List.mem_of_getElem? (i := 80) (by decide +kernel))))) (by decide +kernel)
theorem km_X4_69 : Cond.methodLink RX4 69 yX6_costTo ∈ gW := gW_t (List.mem_append_right _ (List.mem_append_right _ (List.mem_append_left _ (show _ ∈ tables_1_3 from List.mem_of_getElem? (i := 81) (by decide +kernel))))) (by decide +kernel)
theorem ki_X6_costTo : Cond.instanceMethod yX6_costTo ∈ gW := gW_t (List.mem_append_right _ (List.mem_append_right _ (List.mem_append_left _ (show _ ∈ tables_1_3 from List.mem_of_getElem? (i := 82) (by decide +kernel))))) (by decide +kernel)
theorem ks_X6_costTo : Cond.selects RX6 yX6_costTo yX6_costTo ∈ gW := gW_t (List.mem_append_right _ (List.mem_append_right _ (List.mem_append_left _ (show _ ∈ tables_1_3 from List.mem_of_getElem? (i := 83) (by decide +kernel))))) (by decide +kernel)
theorem kc_X6_costTo : Cond.code yX6_costTo cX6_costTo 2 (some .int) ∈ gW := gW_t (List.mem_append_right _ (List.mem_append_right _ (List.mem_append_left _ (show _ ∈ tables_1_3 from List.mem_of_getElem? (i := 84) (by decide +kernel))))) (by decide +kernel)
theorem km_X4_72 : Cond.methodLink RX4 72 yX6_climbTo ∈ gW := gW_t (List.mem_append_right _ (List.mem_append_right _ (List.mem_append_left _ (show _ ∈ tables_1_3 from List.mem_of_getElem? (i := 85) (by decide +kernel))))) (by decide +kernel)
theorem ki_X6_climbTo : Cond.instanceMethod yX6_climbTo ∈ gW := gW_t (List.mem_append_right _ (List.mem_append_right _ (List.mem_append_left _ (show _ ∈ tables_1_3 from List.mem_of_getElem? (i := 86) (by decide +kernel))))) (by decide +kernel)
theorem ks_X6_climbTo : Cond.selects RX6 yX6_climbTo yX6_climbTo ∈ gW := gW_t (List.mem_append_right _ (List.mem_append_right _ (List.mem_append_left _ (show _ ∈ tables_1_3 from List.mem_of_getElem? (i := 87) (by decide +kernel))))) (by decide +kernel)
theorem kc_X6_climbTo : Cond.code yX6_climbTo cX6_climbTo 2 (some .int) ∈ gW := gW_t (List.mem_append_right _ (List.mem_append_right _ (List.mem_append_left _ (show _ ∈ tables_1_3 from List.mem_of_getElem? (i := 88) (by decide +kernel))))) (by decide +kernel)
theorem km_X4_101 : Cond.methodLink RX4 101 yX4_judgeOrder ∈ gW := gW_t (List.mem_append_right _ (List.mem_append_right _ (List.mem_append_left _ (show _ ∈ tables_1_3 from List.mem_of_getElem? (i := 89) (by decide +kernel))))) (by decide +kernel)
theorem ki_X4_judgeOrder : Cond.instanceMethod yX4_judgeOrder ∈ gW := gW_t (List.mem_append_right _ (List.mem_append_right _ (List.mem_append_left _ (show _ ∈ tables_1_3 from List.mem_of_getElem? (i := 91) (by decide +kernel))))) (by decide +kernel)
theorem kc_X4_judgeOrder : Cond.code yX4_judgeOrder cX4_judgeOrder 6 none ∈ gW := gW_t (List.mem_append_right _ (List.mem_append_right _ (List.mem_append_left _ (show _ ∈ tables_1_3 from List.mem_of_getElem? (i := 92) (by decide +kernel))))) (by decide +kernel)
theorem km_X4_127 : Cond.methodLink RX4 127 yJ9_abs_0f7a4 ∈ gW := gW_t (List.mem_append_right _ (List.mem_append_right _ (List.mem_append_left _ (show _ ∈ tables_1_3 from List.mem_of_getElem? (i := 93) (by decide +kernel))))) (by decide +kernel)
theorem kt_J9_abs_0f7a4 : Cond.static yJ9_abs_0f7a4 ∈ gW := gW_t (List.mem_append_right _ (List.mem_append_right _ (List.mem_append_left _ (show _ ∈ tables_1_3 from List.mem_of_getElem? (i := 94) (by decide +kernel))))) (by decide +kernel)
theorem kc_J9_abs_0f7a4 : Cond.code yJ9_abs_0f7a4 cJ9_abs_0f7a4 1 (some .int) ∈ gW := gW_t (List.mem_append_right _ (List.mem_append_right _ (List.mem_append_left _ (show _ ∈ tables_1_3 from List.mem_of_getElem? (i := 95) (by decide +kernel))))) (by decide +kernel)
theorem km_X4_133 : Cond.methodLink RX4 133 yX4_keepOrder ∈ gW := gW_t (List.mem_append_right _ (List.mem_append_right _ (List.mem_append_left _ (show _ ∈ tables_1_3 from List.mem_of_getElem? (i := 96) (by decide +kernel))))) (by decide +kernel)
theorem ki_X4_keepOrder : Cond.instanceMethod yX4_keepOrder ∈ gW := gW_t (List.mem_append_right _ (List.mem_append_right _ (List.mem_append_left _ (show _ ∈ tables_1_3 from List.mem_of_getElem? (i := 98) (by decide +kernel))))) (by decide +kernel)
theorem kc_X4_keepOrder : Cond.code yX4_keepOrder cX4_keepOrder 4 none ∈ gW := gW_t (List.mem_append_right _ (List.mem_append_right _ (List.mem_append_left _ (show _ ∈ tables_1_3 from List.mem_of_getElem? (i := 99) (by decide +kernel))))) (by decide +kernel)
theorem km_X4_104 : Cond.methodLink RX4 104 yX4_goToNextOrder ∈ gW := gW_t (List.mem_append_right _ (List.mem_append_right _ (List.mem_append_left _ (show _ ∈ tables_1_3 from List.mem_of_getElem? (i := 100) (by decide +kernel))))) (by decide +kernel)
theorem ki_X4_goToNextOrder : Cond.instanceMethod yX4_goToNextOrder ∈ gW := gW_t (List.mem_append_right _ (List.mem_append_right _ (List.mem_append_left _ (show _ ∈ tables_1_3 from List.mem_of_getElem? (i := 102) (by decide +kernel))))) (by decide +kernel)
theorem kc_X4_goToNextOrder : Cond.code yX4_goToNextOrder cX4_goToNextOrder 5 (some .boolean) ∈ gW := gW_t (List.mem_append_right _ (List.mem_append_right _ (List.mem_append_left _ (show _ ∈ tables_1_3 from List.mem_of_getElem? (i := 103) (by decide +kernel))))) (by decide +kernel)
theorem km_X4_111 : Cond.methodLink RX4 111 yX2_replaceControl ∈ gW := gW_t (List.mem_append_right _ (List.mem_append_right _ (List.mem_append_left _ (show _ ∈ tables_1_3 from List.mem_of_getElem? (i := 104) (by decide +kernel))))) (by decide +kernel)
theorem km_X9_149 : Cond.methodLink RX9 149 yX4_measure ∈ gW := gW_t (List.mem_append_right _ (List.mem_append_right _ (List.mem_append_left _ (show _ ∈ tables_1_3 from List.mem_of_getElem? (i := 105) (by decide +kernel))))) (by decide +kernel)
theorem ki_X4_measure : Cond.instanceMethod yX4_measure ∈ gW := gW_t (List.mem_append_right _ (List.mem_append_right _ (List.mem_append_left _ (show _ ∈ tables_1_3 from List.mem_of_getElem? (i := 106) (by decide +kernel))))) (by decide +kernel)
theorem ks_X4_measure : Cond.selects RX4 yX4_measure yX4_measure ∈ gW := gW_t (List.mem_append_right _ (List.mem_append_right _ (List.mem_append_left _ (show _ ∈ tables_1_3 from List.mem_of_getElem? (i := 107) (by decide +kernel))))) (by decide +kernel)
theorem kc_X4_measure : Cond.code yX4_measure cX4_measure 5 none ∈ gW := gW_t (List.mem_append_right _ (List.mem_append_right _ (List.mem_append_left _ (show _ ∈ tables_1_3 from List.mem_of_getElem? (i := 108) (by decide +kernel))))) (by decide +kernel)
theorem km_X4_48 : Cond.methodLink RX4 48 yX2_legs ∈ gW := gW_t (List.mem_append_right _ (List.mem_append_right _ (List.mem_append_left _ (show _ ∈ tables_1_3 from List.mem_of_getElem? (i := 109) (by decide +kernel))))) (by decide +kernel)
theorem ki_X2_legs : Cond.instanceMethod yX2_legs ∈ gW := gW_t (List.mem_append_right _ (List.mem_append_right _ (List.mem_append_left _ (show _ ∈ tables_1_3 from List.mem_of_getElem? (i := 110) (by decide +kernel))))) (by decide +kernel)
theorem ks_X2_legs : Cond.selects RX2 yX2_legs yX2_legs ∈ gW := gW_t (List.mem_append_right _ (List.mem_append_right _ (List.mem_append_left _ (show _ ∈ tables_1_3 from List.mem_of_getElem? (i := 111) (by decide +kernel))))) (by decide +kernel)
theorem kc_X2_legs : Cond.code yX2_legs cX2_legs 2 (some .int) ∈ gW := gW_t (List.mem_append_right _ (List.mem_append_right _ (List.mem_append_left _ (show _ ∈ tables_1_3 from List.mem_of_getElem? (i := 112) (by decide +kernel))))) (by decide +kernel)
theorem km_X2_27 : Cond.methodLink RX2 27 yJ9_max_7cf53 ∈ gW := gW_t (List.mem_append_right _ (List.mem_append_right _ (List.mem_append_left _ (show _ ∈ tables_1_3 from List.mem_of_getElem? (i := 113) (by decide +kernel))))) (by decide +kernel)
theorem km_X9_152 : Cond.methodLink RX9 152 yX4_measuredClimb ∈ gW := gW_t (List.mem_append_right _ (List.mem_append_right _ (List.mem_append_left _ (show _ ∈ tables_1_3 from List.mem_of_getElem? (i := 114) (by decide +kernel))))) (by decide +kernel)
theorem ki_X4_measuredClimb : Cond.instanceMethod yX4_measuredClimb ∈ gW := gW_t (List.mem_append_right _ (List.mem_append_right _ (List.mem_append_left _ (show _ ∈ tables_1_3 from List.mem_of_getElem? (i := 115) (by decide +kernel))))) (by decide +kernel)
theorem ks_X4_measuredClimb : Cond.selects RX4 yX4_measuredClimb yX4_measuredClimb ∈ gW := gW_t (List.mem_append_right _ (List.mem_append_right _ (List.mem_append_left _ (show _ ∈ tables_1_3 from List.mem_of_getElem? (i := 116) (by decide +kernel))))) (by decide +kernel)
theorem kc_X4_measuredClimb : Cond.code yX4_measuredClimb cX4_measuredClimb 1 (some .int) ∈ gW := gW_t (List.mem_append_right _ (List.mem_append_right _ (List.mem_append_left _ (show _ ∈ tables_1_3 from List.mem_of_getElem? (i := 117) (by decide +kernel))))) (by decide +kernel)
theorem km_L_21 : Cond.methodLink RL 21 yX9_enter ∈ gW := gW_t (List.mem_append_right _ (List.mem_append_right _ (List.mem_append_left _ (show _ ∈ tables_1_3 from List.mem_of_getElem? (i := 118) (by decide +kernel))))) (by decide +kernel)
theorem ki_X9_enter : Cond.instanceMethod yX9_enter ∈ gW := gW_t (List.mem_append_right _ (List.mem_append_right _ (List.mem_append_left _ (show _ ∈ tables_1_3 from List.mem_of_getElem? (i := 119) (by decide +kernel))))) (by decide +kernel)
theorem ks_X9_enter : Cond.selects RX9 yX9_enter yX9_enter ∈ gW := gW_t (List.mem_append_right _ (List.mem_append_right _ (List.mem_append_left _ (show _ ∈ tables_1_3 from List.mem_of_getElem? (i := 120) (by decide +kernel))))) (by decide +kernel)
theorem kc_X9_enter : Cond.code yX9_enter cX9_enter 3 (some .int) ∈ gW := gW_t (List.mem_append_right _ (List.mem_append_right _ (List.mem_append_left _ (show _ ∈ tables_1_3 from List.mem_of_getElem? (i := 121) (by decide +kernel))))) (by decide +kernel)
theorem km_X9_155 : Cond.methodLink RX9 155 yX3_count ∈ gW := gW_t (List.mem_append_right _ (List.mem_append_right _ (List.mem_append_left _ (show _ ∈ tables_1_3 from List.mem_of_getElem? (i := 122) (by decide +kernel))))) (by decide +kernel)
theorem ki_X3_count : Cond.instanceMethod yX3_count ∈ gW := gW_t (List.mem_append_right _ (List.mem_append_right _ (List.mem_append_left _ (show _ ∈ tables_1_3 from List.mem_of_getElem? (i := 123) (by decide +kernel))))) (by decide +kernel)
theorem ks_X3_count : Cond.selects RX3 yX3_count yX3_count ∈ gW := gW_t (List.mem_append_right _ (List.mem_append_right _ (List.mem_append_left _ (show _ ∈ tables_1_3 from List.mem_of_getElem? (i := 124) (by decide +kernel))))) (by decide +kernel)
theorem kc_X3_count : Cond.code yX3_count cX3_count 1 (some .int) ∈ gW := gW_t (List.mem_append_right _ (List.mem_append_right _ (List.mem_append_left _ (show _ ∈ tables_1_3 from List.mem_of_getElem? (i := 125) (by decide +kernel))))) (by decide +kernel)
theorem km_X9_156 : Cond.methodLink RX9 156 yX3_add ∈ gW := gW_t (List.mem_append_right _ (List.mem_append_right _ (List.mem_append_left _ (show _ ∈ tables_1_3 from List.mem_of_getElem? (i := 126) (by decide +kernel))))) (by decide +kernel)
theorem ki_X3_add : Cond.instanceMethod yX3_add ∈ gW := gW_t (List.mem_append_right _ (List.mem_append_right _ (List.mem_append_left _ (show _ ∈ tables_1_3 from List.mem_of_getElem? (i := 127) (by decide +kernel))))) (by decide +kernel)
theorem ks_X3_add : Cond.selects RX3 yX3_add yX3_add ∈ gW := gW_t (List.mem_append_right _ (List.mem_append_right _ (List.mem_append_left _ (show _ ∈ tables_1_3 from List.mem_of_getElem? (i := 128) (by decide +kernel))))) (by decide +kernel)
theorem kc_X3_add : Cond.code yX3_add cX3_add 3 (some .int) ∈ gW := gW_t (List.mem_append_right _ (List.mem_append_right _ (List.mem_append_left _ (show _ ∈ tables_1_3 from List.mem_of_getElem? (i := 129) (by decide +kernel))))) (by decide +kernel)
theorem km_X3_50 : Cond.methodLink RX3 50 yX7_put ∈ gW := gW_t (List.mem_append_right _ (List.mem_append_right _ (List.mem_append_left _ (show _ ∈ tables_1_3 from List.mem_of_getElem? (i := 130) (by decide +kernel))))) (by decide +kernel)
theorem km_L_24 : Cond.methodLink RL 24 yX9_draw ∈ gW := gW_t (List.mem_append_right _ (List.mem_append_right _ (List.mem_append_left _ (show _ ∈ tables_1_3 from List.mem_of_getElem? (i := 131) (by decide +kernel))))) (by decide +kernel)
theorem ki_X9_draw : Cond.instanceMethod yX9_draw ∈ gW := gW_t (List.mem_append_right _ (List.mem_append_right _ (List.mem_append_left _ (show _ ∈ tables_1_3 from List.mem_of_getElem? (i := 132) (by decide +kernel))))) (by decide +kernel)
theorem ks_X9_draw : Cond.selects RX9 yX9_draw yX9_draw ∈ gW := gW_t (List.mem_append_right _ (List.mem_append_right _ (List.mem_append_left _ (show _ ∈ tables_1_3 from List.mem_of_getElem? (i := 133) (by decide +kernel))))) (by decide +kernel)
theorem kc_X9_draw : Cond.code yX9_draw cX9_draw 3 (some .int) ∈ gW := gW_t (List.mem_append_right _ (List.mem_append_right _ (List.mem_append_left _ (show _ ∈ tables_1_3 from List.mem_of_getElem? (i := 134) (by decide +kernel))))) (by decide +kernel)
theorem km_X9_158 : Cond.methodLink RX9 158 yX3_drawStarts ∈ gW := gW_t (List.mem_append_right _ (List.mem_append_right _ (List.mem_append_left _ (show _ ∈ tables_1_3 from List.mem_of_getElem? (i := 135) (by decide +kernel))))) (by decide +kernel)
theorem ki_X3_drawStarts : Cond.instanceMethod yX3_drawStarts ∈ gW := gW_t (List.mem_append_right _ (List.mem_append_right _ (List.mem_append_left _ (show _ ∈ tables_1_3 from List.mem_of_getElem? (i := 136) (by decide +kernel))))) (by decide +kernel)
theorem ks_X3_drawStarts : Cond.selects RX3 yX3_drawStarts yX3_drawStarts ∈ gW := gW_t (List.mem_append_right _ (List.mem_append_right _ (List.mem_append_left _ (show _ ∈ tables_1_3 from List.mem_of_getElem? (i := 137) (by decide +kernel))))) (by decide +kernel)
theorem kc_X3_drawStarts : Cond.code yX3_drawStarts cX3_drawStarts 6 (some .int) ∈ gW := gW_t (List.mem_append_right _ (List.mem_append_right _ (List.mem_append_left _ (show _ ∈ tables_1_3 from List.mem_of_getElem? (i := 138) (by decide +kernel))))) (by decide +kernel)
theorem km_X3_54 : Cond.methodLink RX3 54 yX3_startKlass ∈ gW := gW_t (List.mem_append_right _ (List.mem_append_right _ (List.mem_append_left _ (show _ ∈ tables_1_3 from List.mem_of_getElem? (i := 139) (by decide +kernel))))) (by decide +kernel)
theorem ki_X3_startKlass : Cond.instanceMethod yX3_startKlass ∈ gW := gW_t (List.mem_append_right _ (List.mem_append_right _ (List.mem_append_left _ (show _ ∈ tables_1_3 from List.mem_of_getElem? (i := 141) (by decide +kernel))))) (by decide +kernel)
theorem kc_X3_startKlass : Cond.code yX3_startKlass cX3_startKlass 7 (some .int) ∈ gW := gW_t (List.mem_append_right _ (List.mem_append_right _ (List.mem_append_left _ (show _ ∈ tables_1_3 from List.mem_of_getElem? (i := 142) (by decide +kernel))))) (by decide +kernel)
theorem km_X3_63 : Cond.methodLink RX3 63 yX3_leastLot ∈ gW := gW_t (List.mem_append_right _ (List.mem_append_right _ (List.mem_append_left _ (show _ ∈ tables_1_3 from List.mem_of_getElem? (i := 143) (by decide +kernel))))) (by decide +kernel)
theorem ki_X3_leastLot : Cond.instanceMethod yX3_leastLot ∈ gW := gW_t (List.mem_append_right _ (List.mem_append_right _ (List.mem_append_left _ (show _ ∈ tables_1_3 from List.mem_of_getElem? (i := 145) (by decide +kernel))))) (by decide +kernel)
theorem kc_X3_leastLot : Cond.code yX3_leastLot cX3_leastLot 6 (some .int) ∈ gW := gW_t (List.mem_append_right _ (List.mem_append_right _ (List.mem_append_left _ (show _ ∈ tables_1_3 from List.mem_of_getElem? (i := 146) (by decide +kernel))))) (by decide +kernel)
theorem km_X3_46 : Cond.methodLink RX3 46 yX7_get ∈ gW := gW_t (List.mem_append_right _ (List.mem_append_right _ (List.mem_append_left _ (show _ ∈ tables_1_3 from List.mem_of_getElem? (i := 147) (by decide +kernel))))) (by decide +kernel)
theorem km_X3_58 : Cond.methodLink RX3 58 yJ9_max_7cf53 ∈ gW := gW_t (List.mem_append_right _ (List.mem_append_right _ (List.mem_append_left _ (show _ ∈ tables_1_3 from List.mem_of_getElem? (i := 148) (by decide +kernel))))) (by decide +kernel)
theorem km_L_27 : Cond.methodLink RL 27 yX9_control ∈ gW := gW_t (List.mem_append_right _ (List.mem_append_right _ (List.mem_append_left _ (show _ ∈ tables_1_3 from List.mem_of_getElem? (i := 149) (by decide +kernel))))) (by decide +kernel)
theorem ki_X9_control : Cond.instanceMethod yX9_control ∈ gW := gW_t (List.mem_append_right _ (List.mem_append_right _ (List.mem_append_left _ (show _ ∈ tables_1_3 from List.mem_of_getElem? (i := 150) (by decide +kernel))))) (by decide +kernel)
theorem ks_X9_control : Cond.selects RX9 yX9_control yX9_control ∈ gW := gW_t (List.mem_append_right _ (List.mem_append_right _ (List.mem_append_left _ (show _ ∈ tables_1_3 from List.mem_of_getElem? (i := 151) (by decide +kernel))))) (by decide +kernel)
theorem kc_X9_control : Cond.code yX9_control cX9_control 4 (some .int) ∈ gW := gW_t (List.mem_append_right _ (List.mem_append_right _ (List.mem_append_left _ (show _ ∈ tables_1_3 from List.mem_of_getElem? (i := 152) (by decide +kernel))))) (by decide +kernel)
theorem km_X9_115 : Cond.methodLink RX9 115 yX1_standsIn ∈ gW := gW_t (List.mem_append_right _ (List.mem_append_right _ (List.mem_append_left _ (show _ ∈ tables_1_3 from List.mem_of_getElem? (i := 153) (by decide +kernel))))) (by decide +kernel)
theorem ki_X1_standsIn : Cond.instanceMethod yX1_standsIn ∈ gW := gW_t (List.mem_append_right _ (List.mem_append_right _ (List.mem_append_left _ (show _ ∈ tables_1_3 from List.mem_of_getElem? (i := 154) (by decide +kernel))))) (by decide +kernel)
theorem ks_X1_standsIn : Cond.selects RX1 yX1_standsIn yX1_standsIn ∈ gW := gW_t (List.mem_append_right _ (List.mem_append_right _ (List.mem_append_left _ (show _ ∈ tables_1_3 from List.mem_of_getElem? (i := 155) (by decide +kernel))))) (by decide +kernel)
theorem kc_X1_standsIn : Cond.code yX1_standsIn cX1_standsIn 3 (some .boolean) ∈ gW := gW_t (List.mem_append_right _ (List.mem_append_right _ (List.mem_append_left _ (show _ ∈ tables_1_3 from List.mem_of_getElem? (i := 156) (by decide +kernel))))) (by decide +kernel)
theorem km_X9_119 : Cond.methodLink RX9 119 yX8_isForbidden ∈ gW := gW_t (List.mem_append_right _ (List.mem_append_right _ (List.mem_append_left _ (show _ ∈ tables_1_3 from List.mem_of_getElem? (i := 157) (by decide +kernel))))) (by decide +kernel)
theorem km_X9_122 : Cond.methodLink RX9 122 yX1_add ∈ gW := gW_t (List.mem_append_right _ (List.mem_append_right _ (List.mem_append_left _ (show _ ∈ tables_1_3 from List.mem_of_getElem? (i := 158) (by decide +kernel))))) (by decide +kernel)
theorem ki_X1_add : Cond.instanceMethod yX1_add ∈ gW := gW_t (List.mem_append_right _ (List.mem_append_right _ (List.mem_append_left _ (show _ ∈ tables_1_3 from List.mem_of_getElem? (i := 159) (by decide +kernel))))) (by decide +kernel)
theorem ks_X1_add : Cond.selects RX1 yX1_add yX1_add ∈ gW := gW_t (List.mem_append_right _ (List.mem_append_right _ (List.mem_append_left _ (show _ ∈ tables_1_3 from List.mem_of_getElem? (i := 160) (by decide +kernel))))) (by decide +kernel)
theorem kc_X1_add : Cond.code yX1_add cX1_add 2 (some .int) ∈ gW := gW_t (List.mem_append_right _ (List.mem_append_right _ (List.mem_append_left _ (show _ ∈ tables_1_3 from List.mem_of_getElem? (i := 161) (by decide +kernel))))) (by decide +kernel)
theorem km_X1_31 : Cond.methodLink RX1 31 yX7_put ∈ gW := gW_t (List.mem_append_right _ (List.mem_append_right _ (List.mem_append_left _ (show _ ∈ tables_1_3 from List.mem_of_getElem? (i := 162) (by decide +kernel))))) (by decide +kernel)
theorem km_L_30 : Cond.methodLink RL 30 yX9_punch ∈ gW := gW_t (List.mem_append_right _ (List.mem_append_right _ (List.mem_append_left _ (show _ ∈ tables_1_3 from List.mem_of_getElem? (i := 163) (by decide +kernel))))) (by decide +kernel)
theorem ki_X9_punch : Cond.instanceMethod yX9_punch ∈ gW := gW_t (List.mem_append_right _ (List.mem_append_right _ (List.mem_append_left _ (show _ ∈ tables_1_3 from List.mem_of_getElem? (i := 164) (by decide +kernel))))) (by decide +kernel)
theorem ks_X9_punch : Cond.selects RX9 yX9_punch yX9_punch ∈ gW := gW_t (List.mem_append_right _ (List.mem_append_right _ (List.mem_append_left _ (show _ ∈ tables_1_3 from List.mem_of_getElem? (i := 165) (by decide +kernel))))) (by decide +kernel)
theorem kc_X9_punch : Cond.code yX9_punch cX9_punch 4 (some .int) ∈ gW := gW_t (List.mem_append_right _ (List.mem_append_right _ (List.mem_append_left _ (show _ ∈ tables_1_3 from List.mem_of_getElem? (i := 166) (by decide +kernel))))) (by decide +kernel)
theorem km_X9_161 : Cond.methodLink RX9 161 yX9_needRunner ∈ gW := gW_t (List.mem_append_right _ (List.mem_append_right _ (List.mem_append_left _ (show _ ∈ tables_1_3 from List.mem_of_getElem? (i := 167) (by decide +kernel))))) (by decide +kernel)
theorem ki_X9_needRunner : Cond.instanceMethod yX9_needRunner ∈ gW := gW_t (List.mem_append_right _ (List.mem_append_right _ (List.mem_append_left _ (show _ ∈ tables_1_3 from List.mem_of_getElem? (i := 169) (by decide +kernel))))) (by decide +kernel)
theorem kc_X9_needRunner : Cond.code yX9_needRunner cX9_needRunner 2 none ∈ gW := gW_t (List.mem_append_right _ (List.mem_append_right _ (List.mem_append_left _ (show _ ∈ tables_1_3 from List.mem_of_getElem? (i := 170) (by decide +kernel))))) (by decide +kernel)
theorem km_X9_164 : Cond.methodLink RX9 164 yX3_punchCount ∈ gW := gW_t (List.mem_append_right _ (List.mem_append_right _ (List.mem_append_left _ (show _ ∈ tables_1_3 from List.mem_of_getElem? (i := 171) (by decide +kernel))))) (by decide +kernel)
theorem ki_X3_punchCount : Cond.instanceMethod yX3_punchCount ∈ gW := gW_t (List.mem_append_right _ (List.mem_append_right _ (List.mem_append_left _ (show _ ∈ tables_1_3 from List.mem_of_getElem? (i := 172) (by decide +kernel))))) (by decide +kernel)
theorem ks_X3_punchCount : Cond.selects RX3 yX3_punchCount yX3_punchCount ∈ gW := gW_t (List.mem_append_right _ (List.mem_append_right _ (List.mem_append_left _ (show _ ∈ tables_1_3 from List.mem_of_getElem? (i := 173) (by decide +kernel))))) (by decide +kernel)
theorem kc_X3_punchCount : Cond.code yX3_punchCount cX3_punchCount 2 (some .int) ∈ gW := gW_t (List.mem_append_right _ (List.mem_append_right _ (List.mem_append_left _ (show _ ∈ tables_1_3 from List.mem_of_getElem? (i := 174) (by decide +kernel))))) (by decide +kernel)
theorem km_X9_167 : Cond.methodLink RX9 167 yX3_earliestPunch ∈ gW := gW_t (List.mem_append_right _ (List.mem_append_right _ (List.mem_append_left _ (show _ ∈ tables_1_3 from List.mem_of_getElem? (i := 175) (by decide +kernel))))) (by decide +kernel)
theorem ki_X3_earliestPunch : Cond.instanceMethod yX3_earliestPunch ∈ gW := gW_t (List.mem_append_right _ (List.mem_append_right _ (List.mem_append_left _ (show _ ∈ tables_1_3 from List.mem_of_getElem? (i := 176) (by decide +kernel))))) (by decide +kernel)
theorem ks_X3_earliestPunch : Cond.selects RX3 yX3_earliestPunch yX3_earliestPunch ∈ gW := gW_t (List.mem_append_right _ (List.mem_append_right _ (List.mem_append_left _ (show _ ∈ tables_1_3 from List.mem_of_getElem? (i := 177) (by decide +kernel))))) (by decide +kernel)
theorem kc_X3_earliestPunch : Cond.code yX3_earliestPunch cX3_earliestPunch 3 (some .int) ∈ gW := gW_t (List.mem_append_right _ (List.mem_append_right _ (List.mem_append_left _ (show _ ∈ tables_1_3 from List.mem_of_getElem? (i := 178) (by decide +kernel))))) (by decide +kernel)
theorem km_X3_66 : Cond.methodLink RX3 66 yX3_punchedMinute ∈ gW := gW_t (List.mem_append_right _ (List.mem_append_right _ (List.mem_append_left _ (show _ ∈ tables_1_3 from List.mem_of_getElem? (i := 179) (by decide +kernel))))) (by decide +kernel)
theorem ki_X3_punchedMinute : Cond.instanceMethod yX3_punchedMinute ∈ gW := gW_t (List.mem_append_right _ (List.mem_append_right _ (List.mem_append_left _ (show _ ∈ tables_1_3 from List.mem_of_getElem? (i := 180) (by decide +kernel))))) (by decide +kernel)
theorem ks_X3_punchedMinute : Cond.selects RX3 yX3_punchedMinute yX3_punchedMinute ∈ gW := gW_t (List.mem_append_right _ (List.mem_append_right _ (List.mem_append_left _ (show _ ∈ tables_1_3 from List.mem_of_getElem? (i := 181) (by decide +kernel))))) (by decide +kernel)
theorem kc_X3_punchedMinute : Cond.code yX3_punchedMinute cX3_punchedMinute 3 (some .int) ∈ gW := gW_t (List.mem_append_right _ (List.mem_append_right _ (List.mem_append_left _ (show _ ∈ tables_1_3 from List.mem_of_getElem? (i := 182) (by decide +kernel))))) (by decide +kernel)
theorem km_X9_170 : Cond.methodLink RX9 170 yX3_addPunch ∈ gW := gW_t (List.mem_append_right _ (List.mem_append_right _ (List.mem_append_left _ (show _ ∈ tables_1_3 from List.mem_of_getElem? (i := 183) (by decide +kernel))))) (by decide +kernel)
theorem ki_X3_addPunch : Cond.instanceMethod yX3_addPunch ∈ gW := gW_t (List.mem_append_right _ (List.mem_append_right _ (List.mem_append_left _ (show _ ∈ tables_1_3 from List.mem_of_getElem? (i := 184) (by decide +kernel))))) (by decide +kernel)
theorem ks_X3_addPunch : Cond.selects RX3 yX3_addPunch yX3_addPunch ∈ gW := gW_t (List.mem_append_right _ (List.mem_append_right _ (List.mem_append_left _ (show _ ∈ tables_1_3 from List.mem_of_getElem? (i := 185) (by decide +kernel))))) (by decide +kernel)
theorem kc_X3_addPunch : Cond.code yX3_addPunch cX3_addPunch 5 none ∈ gW := gW_t (List.mem_append_right _ (List.mem_append_right _ (List.mem_append_left _ (show _ ∈ tables_1_3 from List.mem_of_getElem? (i := 186) (by decide +kernel))))) (by decide +kernel)
theorem km_X3_69 : Cond.methodLink RX3 69 yX7_increase ∈ gW := gW_t (List.mem_append_right _ (List.mem_append_right _ (List.mem_append_left _ (show _ ∈ tables_1_3 from List.mem_of_getElem? (i := 187) (by decide +kernel))))) (by decide +kernel)
theorem km_X9_173 : Cond.methodLink RX9 173 yX5_reckon ∈ gW := gW_t (List.mem_append_right _ (List.mem_append_right _ (List.mem_append_left _ (show _ ∈ tables_1_3 from List.mem_of_getElem? (i := 188) (by decide +kernel))))) (by decide +kernel)
theorem ki_X5_reckon : Cond.instanceMethod yX5_reckon ∈ gW := gW_t (List.mem_append_right _ (List.mem_append_right _ (List.mem_append_left _ (show _ ∈ tables_1_3 from List.mem_of_getElem? (i := 189) (by decide +kernel))))) (by decide +kernel)
theorem ks_X5_reckon : Cond.selects RX5 yX5_reckon yX5_reckon ∈ gW := gW_t (List.mem_append_right _ (List.mem_append_right _ (List.mem_append_left _ (show _ ∈ tables_1_3 from List.mem_of_getElem? (i := 190) (by decide +kernel))))) (by decide +kernel)
theorem kc_X5_reckon : Cond.code yX5_reckon cX5_reckon 2 none ∈ gW := gW_t (List.mem_append_right _ (List.mem_append_right _ (List.mem_append_left _ (show _ ∈ tables_1_3 from List.mem_of_getElem? (i := 191) (by decide +kernel))))) (by decide +kernel)
theorem km_X5_44 : Cond.methodLink RX5 44 yX7_fill ∈ gW := gW_t (List.mem_append_right _ (List.mem_append_right _ (List.mem_append_left _ (show _ ∈ tables_1_3 from List.mem_of_getElem? (i := 192) (by decide +kernel))))) (by decide +kernel)
theorem km_X5_47 : Cond.methodLink RX5 47 yX3_count ∈ gW := gW_t (List.mem_append_right _ (List.mem_append_right _ (List.mem_append_left _ (show _ ∈ tables_1_3 from List.mem_of_getElem? (i := 193) (by decide +kernel))))) (by decide +kernel)
theorem km_X5_53 : Cond.methodLink RX5 53 yX5_followPunches ∈ gW := gW_t (List.mem_append_right _ (List.mem_append_right _ (List.mem_append_left _ (show _ ∈ tables_1_3 from List.mem_of_getElem? (i := 194) (by decide +kernel))))) (by decide +kernel)
theorem ki_X5_followPunches : Cond.instanceMethod yX5_followPunches ∈ gW := gW_t (List.mem_append_right _ (List.mem_append_right _ (List.mem_append_left _ (show _ ∈ tables_1_3 from List.mem_of_getElem? (i := 196) (by decide +kernel))))) (by decide +kernel)
theorem kc_X5_followPunches : Cond.code yX5_followPunches cX5_followPunches 6 none ∈ gW := gW_t (List.mem_append_right _ (List.mem_append_right _ (List.mem_append_left _ (show _ ∈ tables_1_3 from List.mem_of_getElem? (i := 197) (by decide +kernel))))) (by decide +kernel)
theorem km_X5_63 : Cond.methodLink RX5 63 yX3_klassOf ∈ gW := gW_t (List.mem_append_right _ (List.mem_append_right _ (List.mem_append_left _ (show _ ∈ tables_1_3 from List.mem_of_getElem? (i := 198) (by decide +kernel))))) (by decide +kernel)
theorem ki_X3_klassOf : Cond.instanceMethod yX3_klassOf ∈ gW := gW_t (List.mem_append_right _ (List.mem_append_right _ (List.mem_append_left _ (show _ ∈ tables_1_3 from List.mem_of_getElem? (i := 199) (by decide +kernel))))) (by decide +kernel)
theorem ks_X3_klassOf : Cond.selects RX3 yX3_klassOf yX3_klassOf ∈ gW := gW_t (List.mem_append_right _ (List.mem_append_right _ (List.mem_append_left _ (show _ ∈ tables_1_3 from List.mem_of_getElem? (i := 200) (by decide +kernel))))) (by decide +kernel)
theorem kc_X3_klassOf : Cond.code yX3_klassOf cX3_klassOf 2 (some .int) ∈ gW := gW_t (List.mem_append_right _ (List.mem_append_right _ (List.mem_append_left _ (show _ ∈ tables_1_3 from List.mem_of_getElem? (i := 201) (by decide +kernel))))) (by decide +kernel)
theorem km_X5_85 : Cond.methodLink RX5 85 yX3_startMinute ∈ gW := gW_t (List.mem_append_right _ (List.mem_append_right _ (List.mem_append_left _ (show _ ∈ tables_1_3 from List.mem_of_getElem? (i := 202) (by decide +kernel))))) (by decide +kernel)
theorem ki_X3_startMinute : Cond.instanceMethod yX3_startMinute ∈ gW := gW_t (List.mem_append_right _ (List.mem_append_right _ (List.mem_append_left _ (show _ ∈ tables_1_3 from List.mem_of_getElem? (i := 203) (by decide +kernel))))) (by decide +kernel)
theorem ks_X3_startMinute : Cond.selects RX3 yX3_startMinute yX3_startMinute ∈ gW := gW_t (List.mem_append_right _ (List.mem_append_right _ (List.mem_append_left _ (show _ ∈ tables_1_3 from List.mem_of_getElem? (i := 204) (by decide +kernel))))) (by decide +kernel)
theorem kc_X3_startMinute : Cond.code yX3_startMinute cX3_startMinute 2 (some .int) ∈ gW := gW_t (List.mem_append_right _ (List.mem_append_right _ (List.mem_append_left _ (show _ ∈ tables_1_3 from List.mem_of_getElem? (i := 205) (by decide +kernel))))) (by decide +kernel)
theorem km_X5_88 : Cond.methodLink RX5 88 yX7_put ∈ gW := gW_t (List.mem_append_right _ (List.mem_append_right _ (List.mem_append_left _ (show _ ∈ tables_1_3 from List.mem_of_getElem? (i := 206) (by decide +kernel))))) (by decide +kernel)
theorem km_X5_92 : Cond.methodLink RX5 92 yX5_nextToCount ∈ gW := gW_t (List.mem_append_right _ (List.mem_append_right _ (List.mem_append_left _ (show _ ∈ tables_1_3 from List.mem_of_getElem? (i := 207) (by decide +kernel))))) (by decide +kernel)
theorem ki_X5_nextToCount : Cond.instanceMethod yX5_nextToCount ∈ gW := gW_t (List.mem_append_right _ (List.mem_append_right _ (List.mem_append_left _ (show _ ∈ tables_1_3 from List.mem_of_getElem? (i := 209) (by decide +kernel))))) (by decide +kernel)
theorem kc_X5_nextToCount : Cond.code yX5_nextToCount cX5_nextToCount 4 (some .int) ∈ gW := gW_t (List.mem_append_right _ (List.mem_append_right _ (List.mem_append_left _ (show _ ∈ tables_1_3 from List.mem_of_getElem? (i := 210) (by decide +kernel))))) (by decide +kernel)
theorem km_X5_112 : Cond.methodLink RX5 112 yX2_length ∈ gW := gW_t (List.mem_append_right _ (List.mem_append_right _ (List.mem_append_left _ (show _ ∈ tables_1_3 from List.mem_of_getElem? (i := 211) (by decide +kernel))))) (by decide +kernel)
theorem km_X5_101 : Cond.methodLink RX5 101 yX2_controlAt ∈ gW := gW_t (List.mem_append_right _ (List.mem_append_right _ (List.mem_append_left _ (show _ ∈ tables_1_3 from List.mem_of_getElem? (i := 212) (by decide +kernel))))) (by decide +kernel)
theorem km_X5_121 : Cond.methodLink RX5 121 yX1_hasFailed ∈ gW := gW_t (List.mem_append_right _ (List.mem_append_right _ (List.mem_append_left _ (show _ ∈ tables_1_3 from List.mem_of_getElem? (i := 213) (by decide +kernel))))) (by decide +kernel)
theorem ki_X1_hasFailed : Cond.instanceMethod yX1_hasFailed ∈ gW := gW_t (List.mem_append_right _ (List.mem_append_right _ (List.mem_append_left _ (show _ ∈ tables_1_3 from List.mem_of_getElem? (i := 214) (by decide +kernel))))) (by decide +kernel)
theorem ks_X1_hasFailed : Cond.selects RX1 yX1_hasFailed yX1_hasFailed ∈ gW := gW_t (List.mem_append_right _ (List.mem_append_right _ (List.mem_append_left _ (show _ ∈ tables_1_3 from List.mem_of_getElem? (i := 215) (by decide +kernel))))) (by decide +kernel)
theorem kc_X1_hasFailed : Cond.code yX1_hasFailed cX1_hasFailed 2 (some .boolean) ∈ gW := gW_t (List.mem_append_right _ (List.mem_append_right _ (List.mem_append_left _ (show _ ∈ tables_1_3 from List.mem_of_getElem? (i := 216) (by decide +kernel))))) (by decide +kernel)
theorem km_X5_95 : Cond.methodLink RX5 95 yX3_punchCount ∈ gW := gW_t (List.mem_append_right _ (List.mem_append_right _ (List.mem_append_left _ (show _ ∈ tables_1_3 from List.mem_of_getElem? (i := 217) (by decide +kernel))))) (by decide +kernel)
theorem km_X5_98 : Cond.methodLink RX5 98 yX3_punchedControl ∈ gW := gW_t (List.mem_append_right _ (List.mem_append_right _ (List.mem_append_left _ (show _ ∈ tables_1_3 from List.mem_of_getElem? (i := 218) (by decide +kernel))))) (by decide +kernel)
theorem ki_X3_punchedControl : Cond.instanceMethod yX3_punchedControl ∈ gW := gW_t (List.mem_append_right _ (List.mem_append_right _ (List.mem_append_left _ (show _ ∈ tables_1_3 from List.mem_of_getElem? (i := 219) (by decide +kernel))))) (by decide +kernel)
theorem ks_X3_punchedControl : Cond.selects RX3 yX3_punchedControl yX3_punchedControl ∈ gW := gW_t (List.mem_append_right _ (List.mem_append_right _ (List.mem_append_left _ (show _ ∈ tables_1_3 from List.mem_of_getElem? (i := 220) (by decide +kernel))))) (by decide +kernel)
theorem kc_X3_punchedControl : Cond.code yX3_punchedControl cX3_punchedControl 3 (some .int) ∈ gW := gW_t (List.mem_append_right _ (List.mem_append_right _ (List.mem_append_left _ (show _ ∈ tables_1_3 from List.mem_of_getElem? (i := 221) (by decide +kernel))))) (by decide +kernel)
theorem km_X5_106 : Cond.methodLink RX5 106 yX3_punchedMinute ∈ gW := gW_t (List.mem_append_right _ (List.mem_append_right _ (List.mem_append_left _ (show _ ∈ tables_1_3 from List.mem_of_getElem? (i := 222) (by decide +kernel))))) (by decide +kernel)
theorem km_X5_109 : Cond.methodLink RX5 109 yX7_increase ∈ gW := gW_t (List.mem_append_right _ (List.mem_append_right _ (List.mem_append_left _ (show _ ∈ tables_1_3 from List.mem_of_getElem? (i := 223) (by decide +kernel))))) (by decide +kernel)
theorem km_X5_115 : Cond.methodLink RX5 115 yX2_finish ∈ gW := gW_t (List.mem_append_right _ (List.mem_append_right _ (List.mem_append_left _ (show _ ∈ tables_1_3 from List.mem_of_getElem? (i := 224) (by decide +kernel))))) (by decide +kernel)
theorem ki_X2_finish : Cond.instanceMethod yX2_finish ∈ gW := gW_t (List.mem_append_right _ (List.mem_append_right _ (List.mem_append_left _ (show _ ∈ tables_1_3 from List.mem_of_getElem? (i := 225) (by decide +kernel))))) (by decide +kernel)
theorem ks_X2_finish : Cond.selects RX2 yX2_finish yX2_finish ∈ gW := gW_t (List.mem_append_right _ (List.mem_append_right _ (List.mem_append_left _ (show _ ∈ tables_1_3 from List.mem_of_getElem? (i := 226) (by decide +kernel))))) (by decide +kernel)
theorem kc_X2_finish : Cond.code yX2_finish cX2_finish 2 (some .int) ∈ gW := gW_t (List.mem_append_right _ (List.mem_append_right _ (List.mem_append_left _ (show _ ∈ tables_1_3 from List.mem_of_getElem? (i := 227) (by decide +kernel))))) (by decide +kernel)
theorem km_X5_118 : Cond.methodLink RX5 118 yX3_hasPunched ∈ gW := gW_t (List.mem_append_right _ (List.mem_append_right _ (List.mem_append_left _ (show _ ∈ tables_1_3 from List.mem_of_getElem? (i := 228) (by decide +kernel))))) (by decide +kernel)
theorem ki_X3_hasPunched : Cond.instanceMethod yX3_hasPunched ∈ gW := gW_t (List.mem_append_right _ (List.mem_append_right _ (List.mem_append_left _ (show _ ∈ tables_1_3 from List.mem_of_getElem? (i := 229) (by decide +kernel))))) (by decide +kernel)
theorem ks_X3_hasPunched : Cond.selects RX3 yX3_hasPunched yX3_hasPunched ∈ gW := gW_t (List.mem_append_right _ (List.mem_append_right _ (List.mem_append_left _ (show _ ∈ tables_1_3 from List.mem_of_getElem? (i := 230) (by decide +kernel))))) (by decide +kernel)
theorem kc_X3_hasPunched : Cond.code yX3_hasPunched cX3_hasPunched 4 (some .boolean) ∈ gW := gW_t (List.mem_append_right _ (List.mem_append_right _ (List.mem_append_left _ (show _ ∈ tables_1_3 from List.mem_of_getElem? (i := 231) (by decide +kernel))))) (by decide +kernel)
theorem km_X3_72 : Cond.methodLink RX3 72 yX3_punchedControl ∈ gW := gW_t (List.mem_append_right _ (List.mem_append_right _ (List.mem_append_left _ (show _ ∈ tables_1_3 from List.mem_of_getElem? (i := 232) (by decide +kernel))))) (by decide +kernel)
theorem km_X5_56 : Cond.methodLink RX5 56 yX5_reckonSplits ∈ gW := gW_t (List.mem_append_right _ (List.mem_append_right _ (List.mem_append_left _ (show _ ∈ tables_1_3 from List.mem_of_getElem? (i := 233) (by decide +kernel))))) (by decide +kernel)
theorem ki_X5_reckonSplits : Cond.instanceMethod yX5_reckonSplits ∈ gW := gW_t (List.mem_append_right _ (List.mem_append_right _ (List.mem_append_left _ (show _ ∈ tables_1_3 from List.mem_of_getElem? (i := 235) (by decide +kernel))))) (by decide +kernel)
theorem kc_X5_reckonSplits : Cond.code yX5_reckonSplits cX5_reckonSplits 9 none ∈ gW := gW_t (List.mem_append_right _ (List.mem_append_right _ (List.mem_append_left _ (show _ ∈ tables_1_3 from List.mem_of_getElem? (i := 236) (by decide +kernel))))) (by decide +kernel)
theorem km_X5_127 : Cond.methodLink RX5 127 yX2_legs ∈ gW := gW_t (List.mem_append_right _ (List.mem_append_right _ (List.mem_append_left _ (show _ ∈ tables_1_3 from List.mem_of_getElem? (i := 237) (by decide +kernel))))) (by decide +kernel)
theorem km_X5_59 : Cond.methodLink RX5 59 yX7_get ∈ gW := gW_t (List.mem_append_right _ (List.mem_append_right _ (List.mem_append_left _ (show _ ∈ tables_1_3 from List.mem_of_getElem? (i := 238) (by decide +kernel))))) (by decide +kernel)
theorem km_X5_66 : Cond.methodLink RX5 66 yX5_isVoid ∈ gW := gW_t (List.mem_append_right _ (List.mem_append_right _ (List.mem_append_left _ (show _ ∈ tables_1_3 from List.mem_of_getElem? (i := 239) (by decide +kernel))))) (by decide +kernel)
theorem ki_X5_isVoid : Cond.instanceMethod yX5_isVoid ∈ gW := gW_t (List.mem_append_right _ (List.mem_append_right _ (List.mem_append_right _ (List.mem_append_left _ (show _ ∈ tables_1_4 from List.mem_of_getElem? (i := 1) (by decide +kernel)))))) (by decide +kernel)
theorem kc_X5_isVoid : Cond.code yX5_isVoid cX5_isVoid 3 (some .boolean) ∈ gW := gW_t (List.mem_append_right _ (List.mem_append_right _ (List.mem_append_right _ (List.mem_append_left _ (show _ ∈ tables_1_4 from List.mem_of_getElem? (i := 2) (by decide +kernel)))))) (by decide +kernel)
theorem km_X9_176 : Cond.methodLink RX9 176 yX5_countedPunches ∈ gW := gW_t (List.mem_append_right _ (List.mem_append_right _ (List.mem_append_right _ (List.mem_append_left _ (show _ ∈ tables_1_4 from List.mem_of_getElem? (i := 3) (by decide +kernel)))))) (by decide +kernel)
theorem ki_X5_countedPunches : Cond.instanceMethod yX5_countedPunches ∈ gW := gW_t (List.mem_append_right _ (List.mem_append_right _ (List.mem_append_right _ (List.mem_append_left _ (show _ ∈ tables_1_4 from List.mem_of_getElem? (i := 4) (by decide +kernel)))))) (by decide +kernel)
theorem ks_X5_countedPunches : Cond.selects RX5 yX5_countedPunches yX5_countedPunches ∈ gW := gW_t (List.mem_append_right _ (List.mem_append_right _ (List.mem_append_right _ (List.mem_append_left _ (show _ ∈ tables_1_4 from List.mem_of_getElem? (i := 5) (by decide +kernel)))))) (by decide +kernel)
theorem kc_X5_countedPunches : Cond.code yX5_countedPunches cX5_countedPunches 2 (some .int) ∈ gW := gW_t (List.mem_append_right _ (List.mem_append_right _ (List.mem_append_right _ (List.mem_append_left _ (show _ ∈ tables_1_4 from List.mem_of_getElem? (i := 6) (by decide +kernel)))))) (by decide +kernel)
theorem km_L_132 : Cond.methodLink RL 132 yL_lay ∈ gW := gW_t (List.mem_append_right _ (List.mem_append_right _ (List.mem_append_right _ (List.mem_append_left _ (show _ ∈ tables_1_4 from List.mem_of_getElem? (i := 7) (by decide +kernel)))))) (by decide +kernel)
theorem kt_L_lay : Cond.static yL_lay ∈ gW := gW_t (List.mem_append_right _ (List.mem_append_right _ (List.mem_append_right _ (List.mem_append_left _ (show _ ∈ tables_1_4 from List.mem_of_getElem? (i := 8) (by decide +kernel)))))) (by decide +kernel)
theorem kh_L_lay : Cond.codeWith yL_lay cL_lay 8 (some .int) [(0, 29, 30, 33), (0, 29, 35, 35)] ∈ gW := gW_t (List.mem_append_right _ (List.mem_append_right _ (List.mem_append_right _ (List.mem_append_left _ (show _ ∈ tables_1_4 from List.mem_of_getElem? (i := 9) (by decide +kernel)))))) (by decide +kernel)
theorem km_L_39 : Cond.methodLink RL 39 yX9_hill ∈ gW := gW_t (List.mem_append_right _ (List.mem_append_right _ (List.mem_append_right _ (List.mem_append_left _ (show _ ∈ tables_1_4 from List.mem_of_getElem? (i := 10) (by decide +kernel)))))) (by decide +kernel)
theorem ki_X9_hill : Cond.instanceMethod yX9_hill ∈ gW := gW_t (List.mem_append_right _ (List.mem_append_right _ (List.mem_append_right _ (List.mem_append_left _ (show _ ∈ tables_1_4 from List.mem_of_getElem? (i := 11) (by decide +kernel)))))) (by decide +kernel)
theorem ks_X9_hill : Cond.selects RX9 yX9_hill yX9_hill ∈ gW := gW_t (List.mem_append_right _ (List.mem_append_right _ (List.mem_append_right _ (List.mem_append_left _ (show _ ∈ tables_1_4 from List.mem_of_getElem? (i := 12) (by decide +kernel)))))) (by decide +kernel)
theorem kc_X9_hill : Cond.code yX9_hill cX9_hill 5 (some .int) ∈ gW := gW_t (List.mem_append_right _ (List.mem_append_right _ (List.mem_append_right _ (List.mem_append_left _ (show _ ∈ tables_1_4 from List.mem_of_getElem? (i := 13) (by decide +kernel)))))) (by decide +kernel)
theorem km_X9_99 : Cond.methodLink RX9 99 yX8_raiseAround ∈ gW := gW_t (List.mem_append_right _ (List.mem_append_right _ (List.mem_append_right _ (List.mem_append_left _ (show _ ∈ tables_1_4 from List.mem_of_getElem? (i := 14) (by decide +kernel)))))) (by decide +kernel)
theorem ki_X8_raiseAround : Cond.instanceMethod yX8_raiseAround ∈ gW := gW_t (List.mem_append_right _ (List.mem_append_right _ (List.mem_append_right _ (List.mem_append_left _ (show _ ∈ tables_1_4 from List.mem_of_getElem? (i := 15) (by decide +kernel)))))) (by decide +kernel)
theorem ks_X8_raiseAround : Cond.selects RX8 yX8_raiseAround yX8_raiseAround ∈ gW := gW_t (List.mem_append_right _ (List.mem_append_right _ (List.mem_append_right _ (List.mem_append_left _ (show _ ∈ tables_1_4 from List.mem_of_getElem? (i := 16) (by decide +kernel)))))) (by decide +kernel)
theorem kc_X8_raiseAround : Cond.code yX8_raiseAround cX8_raiseAround 10 (some .int) ∈ gW := gW_t (List.mem_append_right _ (List.mem_append_right _ (List.mem_append_right _ (List.mem_append_left _ (show _ ∈ tables_1_4 from List.mem_of_getElem? (i := 17) (by decide +kernel)))))) (by decide +kernel)
theorem km_X8_38 : Cond.methodLink RX8 38 yJ9_abs_0f7a4 ∈ gW := gW_t (List.mem_append_right _ (List.mem_append_right _ (List.mem_append_right _ (List.mem_append_left _ (show _ ∈ tables_1_4 from List.mem_of_getElem? (i := 18) (by decide +kernel)))))) (by decide +kernel)
theorem km_L_43 : Cond.methodLink RL 43 yX9_setGround ∈ gW := gW_t (List.mem_append_right _ (List.mem_append_right _ (List.mem_append_right _ (List.mem_append_left _ (show _ ∈ tables_1_4 from List.mem_of_getElem? (i := 19) (by decide +kernel)))))) (by decide +kernel)
theorem ki_X9_setGround : Cond.instanceMethod yX9_setGround ∈ gW := gW_t (List.mem_append_right _ (List.mem_append_right _ (List.mem_append_right _ (List.mem_append_left _ (show _ ∈ tables_1_4 from List.mem_of_getElem? (i := 20) (by decide +kernel)))))) (by decide +kernel)
theorem ks_X9_setGround : Cond.selects RX9 yX9_setGround yX9_setGround ∈ gW := gW_t (List.mem_append_right _ (List.mem_append_right _ (List.mem_append_right _ (List.mem_append_left _ (show _ ∈ tables_1_4 from List.mem_of_getElem? (i := 21) (by decide +kernel)))))) (by decide +kernel)
theorem kc_X9_setGround : Cond.code yX9_setGround cX9_setGround 6 (some .int) ∈ gW := gW_t (List.mem_append_right _ (List.mem_append_right _ (List.mem_append_right _ (List.mem_append_left _ (show _ ∈ tables_1_4 from List.mem_of_getElem? (i := 22) (by decide +kernel)))))) (by decide +kernel)
theorem km_X9_103 : Cond.methodLink RX9 103 yX8_cover ∈ gW := gW_t (List.mem_append_right _ (List.mem_append_right _ (List.mem_append_right _ (List.mem_append_left _ (show _ ∈ tables_1_4 from List.mem_of_getElem? (i := 23) (by decide +kernel)))))) (by decide +kernel)
theorem ki_X8_cover : Cond.instanceMethod yX8_cover ∈ gW := gW_t (List.mem_append_right _ (List.mem_append_right _ (List.mem_append_right _ (List.mem_append_left _ (show _ ∈ tables_1_4 from List.mem_of_getElem? (i := 24) (by decide +kernel)))))) (by decide +kernel)
theorem ks_X8_cover : Cond.selects RX8 yX8_cover yX8_cover ∈ gW := gW_t (List.mem_append_right _ (List.mem_append_right _ (List.mem_append_right _ (List.mem_append_left _ (show _ ∈ tables_1_4 from List.mem_of_getElem? (i := 25) (by decide +kernel)))))) (by decide +kernel)
theorem kc_X8_cover : Cond.code yX8_cover cX8_cover 9 (some .int) ∈ gW := gW_t (List.mem_append_right _ (List.mem_append_right _ (List.mem_append_right _ (List.mem_append_left _ (show _ ∈ tables_1_4 from List.mem_of_getElem? (i := 26) (by decide +kernel)))))) (by decide +kernel)
theorem km_L_136 : Cond.methodLink RL 136 yL_fail ∈ gW := gW_t (List.mem_append_right _ (List.mem_append_right _ (List.mem_append_right _ (List.mem_append_left _ (show _ ∈ tables_1_4 from List.mem_of_getElem? (i := 27) (by decide +kernel)))))) (by decide +kernel)
theorem kt_L_fail : Cond.static yL_fail ∈ gW := gW_t (List.mem_append_right _ (List.mem_append_right _ (List.mem_append_right _ (List.mem_append_left _ (show _ ∈ tables_1_4 from List.mem_of_getElem? (i := 28) (by decide +kernel)))))) (by decide +kernel)
theorem kh_L_fail : Cond.codeWith yL_fail cL_fail 4 (some .int) [(0, 14, 15, 33), (0, 14, 19, 37)] ∈ gW := gW_t (List.mem_append_right _ (List.mem_append_right _ (List.mem_append_right _ (List.mem_append_left _ (show _ ∈ tables_1_4 from List.mem_of_getElem? (i := 29) (by decide +kernel)))))) (by decide +kernel)
theorem km_L_47 : Cond.methodLink RL 47 yX9_fail ∈ gW := gW_t (List.mem_append_right _ (List.mem_append_right _ (List.mem_append_right _ (List.mem_append_left _ (show _ ∈ tables_1_4 from List.mem_of_getElem? (i := 30) (by decide +kernel)))))) (by decide +kernel)
theorem ki_X9_fail : Cond.instanceMethod yX9_fail ∈ gW := gW_t (List.mem_append_right _ (List.mem_append_right _ (List.mem_append_right _ (List.mem_append_left _ (show _ ∈ tables_1_4 from List.mem_of_getElem? (i := 31) (by decide +kernel)))))) (by decide +kernel)
theorem ks_X9_fail : Cond.selects RX9 yX9_fail yX9_fail ∈ gW := gW_t (List.mem_append_right _ (List.mem_append_right _ (List.mem_append_right _ (List.mem_append_left _ (show _ ∈ tables_1_4 from List.mem_of_getElem? (i := 32) (by decide +kernel)))))) (by decide +kernel)
theorem kc_X9_fail : Cond.code yX9_fail cX9_fail 3 (some .boolean) ∈ gW := gW_t (List.mem_append_right _ (List.mem_append_right _ (List.mem_append_right _ (List.mem_append_left _ (show _ ∈ tables_1_4 from List.mem_of_getElem? (i := 33) (by decide +kernel)))))) (by decide +kernel)
theorem km_X9_179 : Cond.methodLink RX9 179 yX2_beginsOrEndsOne ∈ gW := gW_t (List.mem_append_right _ (List.mem_append_right _ (List.mem_append_right _ (List.mem_append_left _ (show _ ∈ tables_1_4 from List.mem_of_getElem? (i := 34) (by decide +kernel)))))) (by decide +kernel)
theorem ki_X2_beginsOrEndsOne : Cond.instanceMethod yX2_beginsOrEndsOne ∈ gW := gW_t (List.mem_append_right _ (List.mem_append_right _ (List.mem_append_right _ (List.mem_append_left _ (show _ ∈ tables_1_4 from List.mem_of_getElem? (i := 35) (by decide +kernel)))))) (by decide +kernel)
theorem ks_X2_beginsOrEndsOne : Cond.selects RX2 yX2_beginsOrEndsOne yX2_beginsOrEndsOne ∈ gW := gW_t (List.mem_append_right _ (List.mem_append_right _ (List.mem_append_right _ (List.mem_append_left _ (show _ ∈ tables_1_4 from List.mem_of_getElem? (i := 36) (by decide +kernel)))))) (by decide +kernel)
theorem kc_X2_beginsOrEndsOne : Cond.code yX2_beginsOrEndsOne cX2_beginsOrEndsOne 3 (some .boolean) ∈ gW := gW_t (List.mem_append_right _ (List.mem_append_right _ (List.mem_append_right _ (List.mem_append_left _ (show _ ∈ tables_1_4 from List.mem_of_getElem? (i := 37) (by decide +kernel)))))) (by decide +kernel)
theorem km_X2_36 : Cond.methodLink RX2 36 yX2_finish ∈ gW := gW_t (List.mem_append_right _ (List.mem_append_right _ (List.mem_append_right _ (List.mem_append_left _ (show _ ∈ tables_1_4 from List.mem_of_getElem? (i := 38) (by decide +kernel)))))) (by decide +kernel)
theorem km_X9_182 : Cond.methodLink RX9 182 yX1_replaceFailed ∈ gW := gW_t (List.mem_append_right _ (List.mem_append_right _ (List.mem_append_right _ (List.mem_append_left _ (show _ ∈ tables_1_4 from List.mem_of_getElem? (i := 39) (by decide +kernel)))))) (by decide +kernel)
theorem ki_X1_replaceFailed : Cond.instanceMethod yX1_replaceFailed ∈ gW := gW_t (List.mem_append_right _ (List.mem_append_right _ (List.mem_append_right _ (List.mem_append_left _ (show _ ∈ tables_1_4 from List.mem_of_getElem? (i := 40) (by decide +kernel)))))) (by decide +kernel)
theorem ks_X1_replaceFailed : Cond.selects RX1 yX1_replaceFailed yX1_replaceFailed ∈ gW := gW_t (List.mem_append_right _ (List.mem_append_right _ (List.mem_append_right _ (List.mem_append_left _ (show _ ∈ tables_1_4 from List.mem_of_getElem? (i := 41) (by decide +kernel)))))) (by decide +kernel)
theorem kc_X1_replaceFailed : Cond.code yX1_replaceFailed cX1_replaceFailed 4 (some .boolean) ∈ gW := gW_t (List.mem_append_right _ (List.mem_append_right _ (List.mem_append_right _ (List.mem_append_left _ (show _ ∈ tables_1_4 from List.mem_of_getElem? (i := 42) (by decide +kernel)))))) (by decide +kernel)
theorem km_X1_35 : Cond.methodLink RX1 35 yX1_hasFailed ∈ gW := gW_t (List.mem_append_right _ (List.mem_append_right _ (List.mem_append_right _ (List.mem_append_left _ (show _ ∈ tables_1_4 from List.mem_of_getElem? (i := 43) (by decide +kernel)))))) (by decide +kernel)
theorem km_L_139 : Cond.methodLink RL 139 yL_same ∈ gW := gW_t (List.mem_append_right _ (List.mem_append_right _ (List.mem_append_right _ (List.mem_append_left _ (show _ ∈ tables_1_4 from List.mem_of_getElem? (i := 44) (by decide +kernel)))))) (by decide +kernel)
theorem kt_L_same : Cond.static yL_same ∈ gW := gW_t (List.mem_append_right _ (List.mem_append_right _ (List.mem_append_right _ (List.mem_append_left _ (show _ ∈ tables_1_4 from List.mem_of_getElem? (i := 45) (by decide +kernel)))))) (by decide +kernel)
theorem kc_L_same : Cond.code yL_same cL_same 8 (some .boolean) ∈ gW := gW_t (List.mem_append_right _ (List.mem_append_right _ (List.mem_append_right _ (List.mem_append_left _ (show _ ∈ tables_1_4 from List.mem_of_getElem? (i := 46) (by decide +kernel)))))) (by decide +kernel)
theorem km_L_104 : Cond.methodLink RL 104 yX9_runners ∈ gW := gW_t (List.mem_append_right _ (List.mem_append_right _ (List.mem_append_right _ (List.mem_append_left _ (show _ ∈ tables_1_4 from List.mem_of_getElem? (i := 47) (by decide +kernel)))))) (by decide +kernel)
theorem ki_X9_runners : Cond.instanceMethod yX9_runners ∈ gW := gW_t (List.mem_append_right _ (List.mem_append_right _ (List.mem_append_right _ (List.mem_append_left _ (show _ ∈ tables_1_4 from List.mem_of_getElem? (i := 48) (by decide +kernel)))))) (by decide +kernel)
theorem ks_X9_runners : Cond.selects RX9 yX9_runners yX9_runners ∈ gW := gW_t (List.mem_append_right _ (List.mem_append_right _ (List.mem_append_right _ (List.mem_append_left _ (show _ ∈ tables_1_4 from List.mem_of_getElem? (i := 49) (by decide +kernel)))))) (by decide +kernel)
theorem kc_X9_runners : Cond.code yX9_runners cX9_runners 1 (some .int) ∈ gW := gW_t (List.mem_append_right _ (List.mem_append_right _ (List.mem_append_right _ (List.mem_append_left _ (show _ ∈ tables_1_4 from List.mem_of_getElem? (i := 50) (by decide +kernel)))))) (by decide +kernel)
theorem km_L_108 : Cond.methodLink RL 108 yX9_spread ∈ gW := gW_t (List.mem_append_right _ (List.mem_append_right _ (List.mem_append_right _ (List.mem_append_left _ (show _ ∈ tables_1_4 from List.mem_of_getElem? (i := 51) (by decide +kernel)))))) (by decide +kernel)
theorem ki_X9_spread : Cond.instanceMethod yX9_spread ∈ gW := gW_t (List.mem_append_right _ (List.mem_append_right _ (List.mem_append_right _ (List.mem_append_left _ (show _ ∈ tables_1_4 from List.mem_of_getElem? (i := 52) (by decide +kernel)))))) (by decide +kernel)
theorem ks_X9_spread : Cond.selects RX9 yX9_spread yX9_spread ∈ gW := gW_t (List.mem_append_right _ (List.mem_append_right _ (List.mem_append_right _ (List.mem_append_left _ (show _ ∈ tables_1_4 from List.mem_of_getElem? (i := 53) (by decide +kernel)))))) (by decide +kernel)
theorem kc_X9_spread : Cond.code yX9_spread cX9_spread 1 (some .int) ∈ gW := gW_t (List.mem_append_right _ (List.mem_append_right _ (List.mem_append_right _ (List.mem_append_left _ (show _ ∈ tables_1_4 from List.mem_of_getElem? (i := 54) (by decide +kernel)))))) (by decide +kernel)
theorem km_X9_229 : Cond.methodLink RX9 229 yX4_differenceOfClimbs ∈ gW := gW_t (List.mem_append_right _ (List.mem_append_right _ (List.mem_append_right _ (List.mem_append_left _ (show _ ∈ tables_1_4 from List.mem_of_getElem? (i := 55) (by decide +kernel)))))) (by decide +kernel)
theorem ki_X4_differenceOfClimbs : Cond.instanceMethod yX4_differenceOfClimbs ∈ gW := gW_t (List.mem_append_right _ (List.mem_append_right _ (List.mem_append_right _ (List.mem_append_left _ (show _ ∈ tables_1_4 from List.mem_of_getElem? (i := 56) (by decide +kernel)))))) (by decide +kernel)
theorem ks_X4_differenceOfClimbs : Cond.selects RX4 yX4_differenceOfClimbs yX4_differenceOfClimbs ∈ gW := gW_t (List.mem_append_right _ (List.mem_append_right _ (List.mem_append_right _ (List.mem_append_left _ (show _ ∈ tables_1_4 from List.mem_of_getElem? (i := 57) (by decide +kernel)))))) (by decide +kernel)
theorem kc_X4_differenceOfClimbs : Cond.code yX4_differenceOfClimbs cX4_differenceOfClimbs 4 (some .int) ∈ gW := gW_t (List.mem_append_right _ (List.mem_append_right _ (List.mem_append_right _ (List.mem_append_left _ (show _ ∈ tables_1_4 from List.mem_of_getElem? (i := 58) (by decide +kernel)))))) (by decide +kernel)
theorem km_X4_75 : Cond.methodLink RX4 75 yX4_measure ∈ gW := gW_t (List.mem_append_right _ (List.mem_append_right _ (List.mem_append_right _ (List.mem_append_left _ (show _ ∈ tables_1_4 from List.mem_of_getElem? (i := 59) (by decide +kernel)))))) (by decide +kernel)
theorem km_X4_78 : Cond.methodLink RX4 78 yJ9_max_7cf53 ∈ gW := gW_t (List.mem_append_right _ (List.mem_append_right _ (List.mem_append_right _ (List.mem_append_left _ (show _ ∈ tables_1_4 from List.mem_of_getElem? (i := 60) (by decide +kernel)))))) (by decide +kernel)
theorem km_X4_83 : Cond.methodLink RX4 83 yJ9_min_7cf53 ∈ gW := gW_t (List.mem_append_right _ (List.mem_append_right _ (List.mem_append_right _ (List.mem_append_left _ (show _ ∈ tables_1_4 from List.mem_of_getElem? (i := 61) (by decide +kernel)))))) (by decide +kernel)
theorem km_L_111 : Cond.methodLink RL 111 yL_at ∈ gW := gW_t (List.mem_append_right _ (List.mem_append_right _ (List.mem_append_right _ (List.mem_append_left _ (show _ ∈ tables_1_4 from List.mem_of_getElem? (i := 62) (by decide +kernel)))))) (by decide +kernel)
theorem kt_L_at : Cond.static yL_at ∈ gW := gW_t (List.mem_append_right _ (List.mem_append_right _ (List.mem_append_right _ (List.mem_append_left _ (show _ ∈ tables_1_4 from List.mem_of_getElem? (i := 63) (by decide +kernel)))))) (by decide +kernel)
theorem kh_L_at : Cond.codeWith yL_at cL_at 5 (some .int) [(0, 112, 113, 33)] ∈ gW := gW_t (List.mem_append_right _ (List.mem_append_right _ (List.mem_append_right _ (List.mem_append_left _ (show _ ∈ tables_1_4 from List.mem_of_getElem? (i := 64) (by decide +kernel)))))) (by decide +kernel)
theorem km_L_79 : Cond.methodLink RL 79 yX9_cell ∈ gW := gW_t (List.mem_append_right _ (List.mem_append_right _ (List.mem_append_right _ (List.mem_append_left _ (show _ ∈ tables_1_4 from List.mem_of_getElem? (i := 65) (by decide +kernel)))))) (by decide +kernel)
theorem ki_X9_cell : Cond.instanceMethod yX9_cell ∈ gW := gW_t (List.mem_append_right _ (List.mem_append_right _ (List.mem_append_right _ (List.mem_append_left _ (show _ ∈ tables_1_4 from List.mem_of_getElem? (i := 66) (by decide +kernel)))))) (by decide +kernel)
theorem ks_X9_cell : Cond.selects RX9 yX9_cell yX9_cell ∈ gW := gW_t (List.mem_append_right _ (List.mem_append_right _ (List.mem_append_right _ (List.mem_append_left _ (show _ ∈ tables_1_4 from List.mem_of_getElem? (i := 67) (by decide +kernel)))))) (by decide +kernel)
theorem kc_X9_cell : Cond.code yX9_cell cX9_cell 4 (some .int) ∈ gW := gW_t (List.mem_append_right _ (List.mem_append_right _ (List.mem_append_right _ (List.mem_append_left _ (show _ ∈ tables_1_4 from List.mem_of_getElem? (i := 68) (by decide +kernel)))))) (by decide +kernel)
theorem km_X9_186 : Cond.methodLink RX9 186 yX8_heightOf ∈ gW := gW_t (List.mem_append_right _ (List.mem_append_right _ (List.mem_append_right _ (List.mem_append_left _ (show _ ∈ tables_1_4 from List.mem_of_getElem? (i := 69) (by decide +kernel)))))) (by decide +kernel)
theorem ki_X8_heightOf : Cond.instanceMethod yX8_heightOf ∈ gW := gW_t (List.mem_append_right _ (List.mem_append_right _ (List.mem_append_right _ (List.mem_append_left _ (show _ ∈ tables_1_4 from List.mem_of_getElem? (i := 70) (by decide +kernel)))))) (by decide +kernel)
theorem ks_X8_heightOf : Cond.selects RX8 yX8_heightOf yX8_heightOf ∈ gW := gW_t (List.mem_append_right _ (List.mem_append_right _ (List.mem_append_right _ (List.mem_append_left _ (show _ ∈ tables_1_4 from List.mem_of_getElem? (i := 71) (by decide +kernel)))))) (by decide +kernel)
theorem kc_X8_heightOf : Cond.code yX8_heightOf cX8_heightOf 2 (some .int) ∈ gW := gW_t (List.mem_append_right _ (List.mem_append_right _ (List.mem_append_right _ (List.mem_append_left _ (show _ ∈ tables_1_4 from List.mem_of_getElem? (i := 72) (by decide +kernel)))))) (by decide +kernel)
theorem km_X9_189 : Cond.methodLink RX9 189 yX8_groundOf ∈ gW := gW_t (List.mem_append_right _ (List.mem_append_right _ (List.mem_append_right _ (List.mem_append_left _ (show _ ∈ tables_1_4 from List.mem_of_getElem? (i := 73) (by decide +kernel)))))) (by decide +kernel)
theorem ki_X8_groundOf : Cond.instanceMethod yX8_groundOf ∈ gW := gW_t (List.mem_append_right _ (List.mem_append_right _ (List.mem_append_right _ (List.mem_append_left _ (show _ ∈ tables_1_4 from List.mem_of_getElem? (i := 74) (by decide +kernel)))))) (by decide +kernel)
theorem ks_X8_groundOf : Cond.selects RX8 yX8_groundOf yX8_groundOf ∈ gW := gW_t (List.mem_append_right _ (List.mem_append_right _ (List.mem_append_right _ (List.mem_append_left _ (show _ ∈ tables_1_4 from List.mem_of_getElem? (i := 75) (by decide +kernel)))))) (by decide +kernel)
theorem kc_X8_groundOf : Cond.code yX8_groundOf cX8_groundOf 2 (some .int) ∈ gW := gW_t (List.mem_append_right _ (List.mem_append_right _ (List.mem_append_right _ (List.mem_append_left _ (show _ ∈ tables_1_4 from List.mem_of_getElem? (i := 76) (by decide +kernel)))))) (by decide +kernel)
theorem km_L_82 : Cond.methodLink RL 82 yX9_cost ∈ gW := gW_t (List.mem_append_right _ (List.mem_append_right _ (List.mem_append_right _ (List.mem_append_left _ (show _ ∈ tables_1_4 from List.mem_of_getElem? (i := 77) (by decide +kernel)))))) (by decide +kernel)
theorem ki_X9_cost : Cond.instanceMethod yX9_cost ∈ gW := gW_t (List.mem_append_right _ (List.mem_append_right _ (List.mem_append_right _ (List.mem_append_left _ (show _ ∈ tables_1_4 from List.mem_of_getElem? (i := 78) (by decide +kernel)))))) (by decide +kernel)
theorem ks_X9_cost : Cond.selects RX9 yX9_cost yX9_cost ∈ gW := gW_t (List.mem_append_right _ (List.mem_append_right _ (List.mem_append_right _ (List.mem_append_left _ (show _ ∈ tables_1_4 from List.mem_of_getElem? (i := 79) (by decide +kernel)))))) (by decide +kernel)
theorem kc_X9_cost : Cond.code yX9_cost cX9_cost 3 (some .int) ∈ gW := gW_t (List.mem_append_right _ (List.mem_append_right _ (List.mem_append_right _ (List.mem_append_left _ (show _ ∈ tables_1_4 from List.mem_of_getElem? (i := 80) (by decide +kernel)))))) (by decide +kernel)
theorem km_X9_204 : Cond.methodLink RX9 204 yX1_cellOf ∈ gW := gW_t (List.mem_append_right _ (List.mem_append_right _ (List.mem_append_right _ (List.mem_append_left _ (show _ ∈ tables_1_4 from List.mem_of_getElem? (i := 81) (by decide +kernel)))))) (by decide +kernel)
theorem km_X9_207 : Cond.methodLink RX9 207 yX6_search ∈ gW := gW_t (List.mem_append_right _ (List.mem_append_right _ (List.mem_append_right _ (List.mem_append_left _ (show _ ∈ tables_1_4 from List.mem_of_getElem? (i := 82) (by decide +kernel)))))) (by decide +kernel)
theorem km_X9_211 : Cond.methodLink RX9 211 yX6_costTo ∈ gW := gW_t (List.mem_append_right _ (List.mem_append_right _ (List.mem_append_right _ (List.mem_append_left _ (show _ ∈ tables_1_4 from List.mem_of_getElem? (i := 83) (by decide +kernel)))))) (by decide +kernel)
theorem km_L_85 : Cond.methodLink RL 85 yX9_costByCells ∈ gW := gW_t (List.mem_append_right _ (List.mem_append_right _ (List.mem_append_right _ (List.mem_append_left _ (show _ ∈ tables_1_4 from List.mem_of_getElem? (i := 84) (by decide +kernel)))))) (by decide +kernel)
theorem ki_X9_costByCells : Cond.instanceMethod yX9_costByCells ∈ gW := gW_t (List.mem_append_right _ (List.mem_append_right _ (List.mem_append_right _ (List.mem_append_left _ (show _ ∈ tables_1_4 from List.mem_of_getElem? (i := 85) (by decide +kernel)))))) (by decide +kernel)
theorem ks_X9_costByCells : Cond.selects RX9 yX9_costByCells yX9_costByCells ∈ gW := gW_t (List.mem_append_right _ (List.mem_append_right _ (List.mem_append_right _ (List.mem_append_left _ (show _ ∈ tables_1_4 from List.mem_of_getElem? (i := 86) (by decide +kernel)))))) (by decide +kernel)
theorem kc_X9_costByCells : Cond.code yX9_costByCells cX9_costByCells 3 (some .int) ∈ gW := gW_t (List.mem_append_right _ (List.mem_append_right _ (List.mem_append_right _ (List.mem_append_left _ (show _ ∈ tables_1_4 from List.mem_of_getElem? (i := 87) (by decide +kernel)))))) (by decide +kernel)
theorem km_X9_214 : Cond.methodLink RX9 214 yX6_searchByCells ∈ gW := gW_t (List.mem_append_right _ (List.mem_append_right _ (List.mem_append_right _ (List.mem_append_left _ (show _ ∈ tables_1_4 from List.mem_of_getElem? (i := 88) (by decide +kernel)))))) (by decide +kernel)
theorem ki_X6_searchByCells : Cond.instanceMethod yX6_searchByCells ∈ gW := gW_t (List.mem_append_right _ (List.mem_append_right _ (List.mem_append_right _ (List.mem_append_left _ (show _ ∈ tables_1_4 from List.mem_of_getElem? (i := 89) (by decide +kernel)))))) (by decide +kernel)
theorem ks_X6_searchByCells : Cond.selects RX6 yX6_searchByCells yX6_searchByCells ∈ gW := gW_t (List.mem_append_right _ (List.mem_append_right _ (List.mem_append_right _ (List.mem_append_left _ (show _ ∈ tables_1_4 from List.mem_of_getElem? (i := 90) (by decide +kernel)))))) (by decide +kernel)
theorem kc_X6_searchByCells : Cond.code yX6_searchByCells cX6_searchByCells 5 none ∈ gW := gW_t (List.mem_append_right _ (List.mem_append_right _ (List.mem_append_right _ (List.mem_append_left _ (show _ ∈ tables_1_4 from List.mem_of_getElem? (i := 91) (by decide +kernel)))))) (by decide +kernel)
theorem km_X6_53 : Cond.methodLink RX6 53 yX6_cheapen ∈ gW := gW_t (List.mem_append_right _ (List.mem_append_right _ (List.mem_append_right _ (List.mem_append_left _ (show _ ∈ tables_1_4 from List.mem_of_getElem? (i := 92) (by decide +kernel)))))) (by decide +kernel)
theorem ki_X6_cheapen : Cond.instanceMethod yX6_cheapen ∈ gW := gW_t (List.mem_append_right _ (List.mem_append_right _ (List.mem_append_right _ (List.mem_append_left _ (show _ ∈ tables_1_4 from List.mem_of_getElem? (i := 94) (by decide +kernel)))))) (by decide +kernel)
theorem kc_X6_cheapen : Cond.code yX6_cheapen cX6_cheapen 6 (some .boolean) ∈ gW := gW_t (List.mem_append_right _ (List.mem_append_right _ (List.mem_append_right _ (List.mem_append_left _ (show _ ∈ tables_1_4 from List.mem_of_getElem? (i := 95) (by decide +kernel)))))) (by decide +kernel)
theorem km_L_88 : Cond.methodLink RL 88 yX9_climb ∈ gW := gW_t (List.mem_append_right _ (List.mem_append_right _ (List.mem_append_right _ (List.mem_append_left _ (show _ ∈ tables_1_4 from List.mem_of_getElem? (i := 96) (by decide +kernel)))))) (by decide +kernel)
theorem ki_X9_climb : Cond.instanceMethod yX9_climb ∈ gW := gW_t (List.mem_append_right _ (List.mem_append_right _ (List.mem_append_right _ (List.mem_append_left _ (show _ ∈ tables_1_4 from List.mem_of_getElem? (i := 97) (by decide +kernel)))))) (by decide +kernel)
theorem ks_X9_climb : Cond.selects RX9 yX9_climb yX9_climb ∈ gW := gW_t (List.mem_append_right _ (List.mem_append_right _ (List.mem_append_right _ (List.mem_append_left _ (show _ ∈ tables_1_4 from List.mem_of_getElem? (i := 98) (by decide +kernel)))))) (by decide +kernel)
theorem kc_X9_climb : Cond.code yX9_climb cX9_climb 3 (some .int) ∈ gW := gW_t (List.mem_append_right _ (List.mem_append_right _ (List.mem_append_right _ (List.mem_append_left _ (show _ ∈ tables_1_4 from List.mem_of_getElem? (i := 99) (by decide +kernel)))))) (by decide +kernel)
theorem km_X9_217 : Cond.methodLink RX9 217 yX6_climbTo ∈ gW := gW_t (List.mem_append_right _ (List.mem_append_right _ (List.mem_append_right _ (List.mem_append_left _ (show _ ∈ tables_1_4 from List.mem_of_getElem? (i := 100) (by decide +kernel)))))) (by decide +kernel)
theorem km_L_91 : Cond.methodLink RL 91 yX9_tempts ∈ gW := gW_t (List.mem_append_right _ (List.mem_append_right _ (List.mem_append_right _ (List.mem_append_left _ (show _ ∈ tables_1_4 from List.mem_of_getElem? (i := 101) (by decide +kernel)))))) (by decide +kernel)
theorem ki_X9_tempts : Cond.instanceMethod yX9_tempts ∈ gW := gW_t (List.mem_append_right _ (List.mem_append_right _ (List.mem_append_right _ (List.mem_append_left _ (show _ ∈ tables_1_4 from List.mem_of_getElem? (i := 102) (by decide +kernel)))))) (by decide +kernel)
theorem ks_X9_tempts : Cond.selects RX9 yX9_tempts yX9_tempts ∈ gW := gW_t (List.mem_append_right _ (List.mem_append_right _ (List.mem_append_right _ (List.mem_append_left _ (show _ ∈ tables_1_4 from List.mem_of_getElem? (i := 103) (by decide +kernel)))))) (by decide +kernel)
theorem kc_X9_tempts : Cond.code yX9_tempts cX9_tempts 5 (some .boolean) ∈ gW := gW_t (List.mem_append_right _ (List.mem_append_right _ (List.mem_append_right _ (List.mem_append_left _ (show _ ∈ tables_1_4 from List.mem_of_getElem? (i := 104) (by decide +kernel)))))) (by decide +kernel)
theorem km_L_95 : Cond.methodLink RL 95 yX9_courseAt ∈ gW := gW_t (List.mem_append_right _ (List.mem_append_right _ (List.mem_append_right _ (List.mem_append_left _ (show _ ∈ tables_1_4 from List.mem_of_getElem? (i := 105) (by decide +kernel)))))) (by decide +kernel)
theorem ki_X9_courseAt : Cond.instanceMethod yX9_courseAt ∈ gW := gW_t (List.mem_append_right _ (List.mem_append_right _ (List.mem_append_right _ (List.mem_append_left _ (show _ ∈ tables_1_4 from List.mem_of_getElem? (i := 106) (by decide +kernel)))))) (by decide +kernel)
theorem ks_X9_courseAt : Cond.selects RX9 yX9_courseAt yX9_courseAt ∈ gW := gW_t (List.mem_append_right _ (List.mem_append_right _ (List.mem_append_right _ (List.mem_append_left _ (show _ ∈ tables_1_4 from List.mem_of_getElem? (i := 107) (by decide +kernel)))))) (by decide +kernel)
theorem kc_X9_courseAt : Cond.code yX9_courseAt cX9_courseAt 3 (some .int) ∈ gW := gW_t (List.mem_append_right _ (List.mem_append_right _ (List.mem_append_right _ (List.mem_append_left _ (show _ ∈ tables_1_4 from List.mem_of_getElem? (i := 108) (by decide +kernel)))))) (by decide +kernel)
theorem km_X9_223 : Cond.methodLink RX9 223 yX2_controlAt ∈ gW := gW_t (List.mem_append_right _ (List.mem_append_right _ (List.mem_append_right _ (List.mem_append_left _ (show _ ∈ tables_1_4 from List.mem_of_getElem? (i := 109) (by decide +kernel)))))) (by decide +kernel)
theorem km_L_98 : Cond.methodLink RL 98 yX9_split ∈ gW := gW_t (List.mem_append_right _ (List.mem_append_right _ (List.mem_append_right _ (List.mem_append_left _ (show _ ∈ tables_1_4 from List.mem_of_getElem? (i := 110) (by decide +kernel)))))) (by decide +kernel)
theorem ki_X9_split : Cond.instanceMethod yX9_split ∈ gW := gW_t (List.mem_append_right _ (List.mem_append_right _ (List.mem_append_right _ (List.mem_append_left _ (show _ ∈ tables_1_4 from List.mem_of_getElem? (i := 111) (by decide +kernel)))))) (by decide +kernel)
theorem ks_X9_split : Cond.selects RX9 yX9_split yX9_split ∈ gW := gW_t (List.mem_append_right _ (List.mem_append_right _ (List.mem_append_right _ (List.mem_append_left _ (show _ ∈ tables_1_4 from List.mem_of_getElem? (i := 112) (by decide +kernel)))))) (by decide +kernel)
theorem kc_X9_split : Cond.code yX9_split cX9_split 3 (some .int) ∈ gW := gW_t (List.mem_append_right _ (List.mem_append_right _ (List.mem_append_right _ (List.mem_append_left _ (show _ ∈ tables_1_4 from List.mem_of_getElem? (i := 113) (by decide +kernel)))))) (by decide +kernel)
theorem km_X9_238 : Cond.methodLink RX9 238 yX9_needLeg ∈ gW := gW_t (List.mem_append_right _ (List.mem_append_right _ (List.mem_append_right _ (List.mem_append_left _ (show _ ∈ tables_1_4 from List.mem_of_getElem? (i := 114) (by decide +kernel)))))) (by decide +kernel)
theorem ki_X9_needLeg : Cond.instanceMethod yX9_needLeg ∈ gW := gW_t (List.mem_append_right _ (List.mem_append_right _ (List.mem_append_right _ (List.mem_append_left _ (show _ ∈ tables_1_4 from List.mem_of_getElem? (i := 116) (by decide +kernel)))))) (by decide +kernel)
theorem kc_X9_needLeg : Cond.code yX9_needLeg cX9_needLeg 3 none ∈ gW := gW_t (List.mem_append_right _ (List.mem_append_right _ (List.mem_append_right _ (List.mem_append_left _ (show _ ∈ tables_1_4 from List.mem_of_getElem? (i := 117) (by decide +kernel)))))) (by decide +kernel)
theorem km_X9_263 : Cond.methodLink RX9 263 yX3_klassOf ∈ gW := gW_t (List.mem_append_right _ (List.mem_append_right _ (List.mem_append_right _ (List.mem_append_left _ (show _ ∈ tables_1_4 from List.mem_of_getElem? (i := 118) (by decide +kernel)))))) (by decide +kernel)
theorem km_X9_266 : Cond.methodLink RX9 266 yX2_legs ∈ gW := gW_t (List.mem_append_right _ (List.mem_append_right _ (List.mem_append_right _ (List.mem_append_left _ (show _ ∈ tables_1_4 from List.mem_of_getElem? (i := 119) (by decide +kernel)))))) (by decide +kernel)
theorem km_X9_241 : Cond.methodLink RX9 241 yX5_splitMinutes ∈ gW := gW_t (List.mem_append_right _ (List.mem_append_right _ (List.mem_append_right _ (List.mem_append_left _ (show _ ∈ tables_1_4 from List.mem_of_getElem? (i := 120) (by decide +kernel)))))) (by decide +kernel)
theorem ki_X5_splitMinutes : Cond.instanceMethod yX5_splitMinutes ∈ gW := gW_t (List.mem_append_right _ (List.mem_append_right _ (List.mem_append_right _ (List.mem_append_left _ (show _ ∈ tables_1_4 from List.mem_of_getElem? (i := 121) (by decide +kernel)))))) (by decide +kernel)
theorem ks_X5_splitMinutes : Cond.selects RX5 yX5_splitMinutes yX5_splitMinutes ∈ gW := gW_t (List.mem_append_right _ (List.mem_append_right _ (List.mem_append_right _ (List.mem_append_left _ (show _ ∈ tables_1_4 from List.mem_of_getElem? (i := 122) (by decide +kernel)))))) (by decide +kernel)
theorem kc_X5_splitMinutes : Cond.code yX5_splitMinutes cX5_splitMinutes 3 (some .int) ∈ gW := gW_t (List.mem_append_right _ (List.mem_append_right _ (List.mem_append_right _ (List.mem_append_left _ (show _ ∈ tables_1_4 from List.mem_of_getElem? (i := 123) (by decide +kernel)))))) (by decide +kernel)
theorem km_L_101 : Cond.methodLink RL 101 yX9_lost ∈ gW := gW_t (List.mem_append_right _ (List.mem_append_right _ (List.mem_append_right _ (List.mem_append_left _ (show _ ∈ tables_1_4 from List.mem_of_getElem? (i := 124) (by decide +kernel)))))) (by decide +kernel)
theorem ki_X9_lost : Cond.instanceMethod yX9_lost ∈ gW := gW_t (List.mem_append_right _ (List.mem_append_right _ (List.mem_append_right _ (List.mem_append_left _ (show _ ∈ tables_1_4 from List.mem_of_getElem? (i := 125) (by decide +kernel)))))) (by decide +kernel)
theorem ks_X9_lost : Cond.selects RX9 yX9_lost yX9_lost ∈ gW := gW_t (List.mem_append_right _ (List.mem_append_right _ (List.mem_append_right _ (List.mem_append_left _ (show _ ∈ tables_1_4 from List.mem_of_getElem? (i := 126) (by decide +kernel)))))) (by decide +kernel)
theorem kc_X9_lost : Cond.code yX9_lost cX9_lost 3 (some .int) ∈ gW := gW_t (List.mem_append_right _ (List.mem_append_right _ (List.mem_append_right _ (List.mem_append_left _ (show _ ∈ tables_1_4 from List.mem_of_getElem? (i := 127) (by decide +kernel)))))) (by decide +kernel)
theorem km_X9_250 : Cond.methodLink RX9 250 yX5_lostMinutes ∈ gW := gW_t (List.mem_append_right _ (List.mem_append_right _ (List.mem_append_right _ (List.mem_append_left _ (show _ ∈ tables_1_4 from List.mem_of_getElem? (i := 128) (by decide +kernel)))))) (by decide +kernel)
theorem ki_X5_lostMinutes : Cond.instanceMethod yX5_lostMinutes ∈ gW := gW_t (List.mem_append_right _ (List.mem_append_right _ (List.mem_append_right _ (List.mem_append_left _ (show _ ∈ tables_1_4 from List.mem_of_getElem? (i := 129) (by decide +kernel)))))) (by decide +kernel)
theorem ks_X5_lostMinutes : Cond.selects RX5 yX5_lostMinutes yX5_lostMinutes ∈ gW := gW_t (List.mem_append_right _ (List.mem_append_right _ (List.mem_append_right _ (List.mem_append_left _ (show _ ∈ tables_1_4 from List.mem_of_getElem? (i := 130) (by decide +kernel)))))) (by decide +kernel)
theorem kc_X5_lostMinutes : Cond.code yX5_lostMinutes cX5_lostMinutes 5 (some .int) ∈ gW := gW_t (List.mem_append_right _ (List.mem_append_right _ (List.mem_append_right _ (List.mem_append_left _ (show _ ∈ tables_1_4 from List.mem_of_getElem? (i := 131) (by decide +kernel)))))) (by decide +kernel)
theorem km_X5_70 : Cond.methodLink RX5 70 yX5_bestSplit ∈ gW := gW_t (List.mem_append_right _ (List.mem_append_right _ (List.mem_append_right _ (List.mem_append_left _ (show _ ∈ tables_1_4 from List.mem_of_getElem? (i := 132) (by decide +kernel)))))) (by decide +kernel)
theorem ki_X5_bestSplit : Cond.instanceMethod yX5_bestSplit ∈ gW := gW_t (List.mem_append_right _ (List.mem_append_right _ (List.mem_append_right _ (List.mem_append_left _ (show _ ∈ tables_1_4 from List.mem_of_getElem? (i := 134) (by decide +kernel)))))) (by decide +kernel)
theorem kc_X5_bestSplit : Cond.code yX5_bestSplit cX5_bestSplit 8 (some .int) ∈ gW := gW_t (List.mem_append_right _ (List.mem_append_right _ (List.mem_append_right _ (List.mem_append_left _ (show _ ∈ tables_1_4 from List.mem_of_getElem? (i := 135) (by decide +kernel)))))) (by decide +kernel)
theorem km_X5_130 : Cond.methodLink RX5 130 yX5_splitBetween ∈ gW := gW_t (List.mem_append_right _ (List.mem_append_right _ (List.mem_append_right _ (List.mem_append_left _ (show _ ∈ tables_1_4 from List.mem_of_getElem? (i := 136) (by decide +kernel)))))) (by decide +kernel)
theorem ki_X5_splitBetween : Cond.instanceMethod yX5_splitBetween ∈ gW := gW_t (List.mem_append_right _ (List.mem_append_right _ (List.mem_append_right _ (List.mem_append_left _ (show _ ∈ tables_1_4 from List.mem_of_getElem? (i := 138) (by decide +kernel)))))) (by decide +kernel)
theorem kc_X5_splitBetween : Cond.code yX5_splitBetween cX5_splitBetween 6 (some .int) ∈ gW := gW_t (List.mem_append_right _ (List.mem_append_right _ (List.mem_append_right _ (List.mem_append_left _ (show _ ∈ tables_1_4 from List.mem_of_getElem? (i := 139) (by decide +kernel)))))) (by decide +kernel)
theorem km_X5_77 : Cond.methodLink RX5 77 yX5_splitMinutes ∈ gW := gW_t (List.mem_append_right _ (List.mem_append_right _ (List.mem_append_right _ (List.mem_append_left _ (show _ ∈ tables_1_4 from List.mem_of_getElem? (i := 140) (by decide +kernel)))))) (by decide +kernel)
theorem km_X5_74 : Cond.methodLink RX5 74 yX5_pace ∈ gW := gW_t (List.mem_append_right _ (List.mem_append_right _ (List.mem_append_right _ (List.mem_append_left _ (show _ ∈ tables_1_4 from List.mem_of_getElem? (i := 141) (by decide +kernel)))))) (by decide +kernel)
theorem ki_X5_pace : Cond.instanceMethod yX5_pace ∈ gW := gW_t (List.mem_append_right _ (List.mem_append_right _ (List.mem_append_right _ (List.mem_append_left _ (show _ ∈ tables_1_4 from List.mem_of_getElem? (i := 143) (by decide +kernel)))))) (by decide +kernel)
theorem kc_X5_pace : Cond.code yX5_pace cX5_pace 5 (some .int) ∈ gW := gW_t (List.mem_append_right _ (List.mem_append_right _ (List.mem_append_right _ (List.mem_append_left _ (show _ ∈ tables_1_4 from List.mem_of_getElem? (i := 144) (by decide +kernel)))))) (by decide +kernel)
theorem km_X5_80 : Cond.methodLink RX5 80 yJ9_max_7cf53 ∈ gW := gW_t (List.mem_append_right _ (List.mem_append_right _ (List.mem_append_right _ (List.mem_append_left _ (show _ ∈ tables_1_4 from List.mem_of_getElem? (i := 145) (by decide +kernel)))))) (by decide +kernel)
theorem km_L_117 : Cond.methodLink RL 117 yL_of ∈ gW := gW_t (List.mem_append_right _ (List.mem_append_right _ (List.mem_append_right _ (List.mem_append_left _ (show _ ∈ tables_1_4 from List.mem_of_getElem? (i := 146) (by decide +kernel)))))) (by decide +kernel)
theorem kt_L_of : Cond.static yL_of ∈ gW := gW_t (List.mem_append_right _ (List.mem_append_right _ (List.mem_append_right _ (List.mem_append_left _ (show _ ∈ tables_1_4 from List.mem_of_getElem? (i := 147) (by decide +kernel)))))) (by decide +kernel)
theorem kh_L_of : Cond.codeWith yL_of cL_of 4 (some .int) [(0, 110, 111, 33), (0, 110, 115, 35)] ∈ gW := gW_t (List.mem_append_right _ (List.mem_append_right _ (List.mem_append_right _ (List.mem_append_left _ (show _ ∈ tables_1_4 from List.mem_of_getElem? (i := 148) (by decide +kernel)))))) (by decide +kernel)
theorem km_L_51 : Cond.methodLink RL 51 yX9_lines ∈ gW := gW_t (List.mem_append_right _ (List.mem_append_right _ (List.mem_append_right _ (List.mem_append_left _ (show _ ∈ tables_1_4 from List.mem_of_getElem? (i := 149) (by decide +kernel)))))) (by decide +kernel)
theorem ki_X9_lines : Cond.instanceMethod yX9_lines ∈ gW := gW_t (List.mem_append_right _ (List.mem_append_right _ (List.mem_append_right _ (List.mem_append_left _ (show _ ∈ tables_1_4 from List.mem_of_getElem? (i := 150) (by decide +kernel)))))) (by decide +kernel)
theorem ks_X9_lines : Cond.selects RX9 yX9_lines yX9_lines ∈ gW := gW_t (List.mem_append_right _ (List.mem_append_right _ (List.mem_append_right _ (List.mem_append_left _ (show _ ∈ tables_1_4 from List.mem_of_getElem? (i := 151) (by decide +kernel)))))) (by decide +kernel)
theorem kc_X9_lines : Cond.code yX9_lines cX9_lines 2 (some .int) ∈ gW := gW_t (List.mem_append_right _ (List.mem_append_right _ (List.mem_append_right _ (List.mem_append_left _ (show _ ∈ tables_1_4 from List.mem_of_getElem? (i := 152) (by decide +kernel)))))) (by decide +kernel)
theorem km_X9_192 : Cond.methodLink RX9 192 yX0_trace ∈ gW := gW_t (List.mem_append_right _ (List.mem_append_right _ (List.mem_append_right _ (List.mem_append_left _ (show _ ∈ tables_1_4 from List.mem_of_getElem? (i := 153) (by decide +kernel)))))) (by decide +kernel)
theorem ki_X0_trace : Cond.instanceMethod yX0_trace ∈ gW := gW_t (List.mem_append_right _ (List.mem_append_right _ (List.mem_append_right _ (List.mem_append_left _ (show _ ∈ tables_1_4 from List.mem_of_getElem? (i := 154) (by decide +kernel)))))) (by decide +kernel)
theorem ks_X0_trace : Cond.selects RX0 yX0_trace yX0_trace ∈ gW := gW_t (List.mem_append_right _ (List.mem_append_right _ (List.mem_append_right _ (List.mem_append_left _ (show _ ∈ tables_1_4 from List.mem_of_getElem? (i := 155) (by decide +kernel)))))) (by decide +kernel)
theorem kc_X0_trace : Cond.code yX0_trace cX0_trace 2 none ∈ gW := gW_t (List.mem_append_right _ (List.mem_append_right _ (List.mem_append_right _ (List.mem_append_left _ (show _ ∈ tables_1_4 from List.mem_of_getElem? (i := 156) (by decide +kernel)))))) (by decide +kernel)
theorem km_X0_34 : Cond.methodLink RX0 34 yX7_fill ∈ gW := gW_t (List.mem_append_right _ (List.mem_append_right _ (List.mem_append_right _ (List.mem_append_left _ (show _ ∈ tables_1_4 from List.mem_of_getElem? (i := 157) (by decide +kernel)))))) (by decide +kernel)
theorem km_X0_37 : Cond.methodLink RX0 37 yX0_findGaps ∈ gW := gW_t (List.mem_append_right _ (List.mem_append_right _ (List.mem_append_right _ (List.mem_append_left _ (show _ ∈ tables_1_4 from List.mem_of_getElem? (i := 158) (by decide +kernel)))))) (by decide +kernel)
theorem ki_X0_findGaps : Cond.instanceMethod yX0_findGaps ∈ gW := gW_t (List.mem_append_right _ (List.mem_append_right _ (List.mem_append_right _ (List.mem_append_left _ (show _ ∈ tables_1_4 from List.mem_of_getElem? (i := 160) (by decide +kernel)))))) (by decide +kernel)
theorem kc_X0_findGaps : Cond.code yX0_findGaps cX0_findGaps 4 none ∈ gW := gW_t (List.mem_append_right _ (List.mem_append_right _ (List.mem_append_right _ (List.mem_append_left _ (show _ ∈ tables_1_4 from List.mem_of_getElem? (i := 161) (by decide +kernel)))))) (by decide +kernel)
theorem km_X0_64 : Cond.methodLink RX0 64 yX8_rows ∈ gW := gW_t (List.mem_append_right _ (List.mem_append_right _ (List.mem_append_right _ (List.mem_append_left _ (show _ ∈ tables_1_4 from List.mem_of_getElem? (i := 162) (by decide +kernel)))))) (by decide +kernel)
theorem ki_X8_rows : Cond.instanceMethod yX8_rows ∈ gW := gW_t (List.mem_append_right _ (List.mem_append_right _ (List.mem_append_right _ (List.mem_append_left _ (show _ ∈ tables_1_4 from List.mem_of_getElem? (i := 163) (by decide +kernel)))))) (by decide +kernel)
theorem ks_X8_rows : Cond.selects RX8 yX8_rows yX8_rows ∈ gW := gW_t (List.mem_append_right _ (List.mem_append_right _ (List.mem_append_right _ (List.mem_append_left _ (show _ ∈ tables_1_4 from List.mem_of_getElem? (i := 164) (by decide +kernel)))))) (by decide +kernel)
theorem kc_X8_rows : Cond.code yX8_rows cX8_rows 1 (some .int) ∈ gW := gW_t (List.mem_append_right _ (List.mem_append_right _ (List.mem_append_right _ (List.mem_append_left _ (show _ ∈ tables_1_4 from List.mem_of_getElem? (i := 165) (by decide +kernel)))))) (by decide +kernel)
theorem km_X0_68 : Cond.methodLink RX0 68 yX8_columns ∈ gW := gW_t (List.mem_append_right _ (List.mem_append_right _ (List.mem_append_right _ (List.mem_append_left _ (show _ ∈ tables_1_4 from List.mem_of_getElem? (i := 166) (by decide +kernel)))))) (by decide +kernel)
theorem ki_X8_columns : Cond.instanceMethod yX8_columns ∈ gW := gW_t (List.mem_append_right _ (List.mem_append_right _ (List.mem_append_right _ (List.mem_append_left _ (show _ ∈ tables_1_4 from List.mem_of_getElem? (i := 167) (by decide +kernel)))))) (by decide +kernel)
theorem ks_X8_columns : Cond.selects RX8 yX8_columns yX8_columns ∈ gW := gW_t (List.mem_append_right _ (List.mem_append_right _ (List.mem_append_right _ (List.mem_append_left _ (show _ ∈ tables_1_4 from List.mem_of_getElem? (i := 168) (by decide +kernel)))))) (by decide +kernel)
theorem kc_X8_columns : Cond.code yX8_columns cX8_columns 1 (some .int) ∈ gW := gW_t (List.mem_append_right _ (List.mem_append_right _ (List.mem_append_right _ (List.mem_append_left _ (show _ ∈ tables_1_4 from List.mem_of_getElem? (i := 169) (by decide +kernel)))))) (by decide +kernel)
theorem km_X0_71 : Cond.methodLink RX0 71 yX0_isHigh ∈ gW := gW_t (List.mem_append_right _ (List.mem_append_right _ (List.mem_append_right _ (List.mem_append_left _ (show _ ∈ tables_1_4 from List.mem_of_getElem? (i := 170) (by decide +kernel)))))) (by decide +kernel)
theorem ki_X0_isHigh : Cond.instanceMethod yX0_isHigh ∈ gW := gW_t (List.mem_append_right _ (List.mem_append_right _ (List.mem_append_right _ (List.mem_append_left _ (show _ ∈ tables_1_4 from List.mem_of_getElem? (i := 172) (by decide +kernel)))))) (by decide +kernel)
theorem kc_X0_isHigh : Cond.code yX0_isHigh cX0_isHigh 3 (some .boolean) ∈ gW := gW_t (List.mem_append_right _ (List.mem_append_right _ (List.mem_append_right _ (List.mem_append_left _ (show _ ∈ tables_1_4 from List.mem_of_getElem? (i := 173) (by decide +kernel)))))) (by decide +kernel)
theorem km_X0_56 : Cond.methodLink RX0 56 yX8_number ∈ gW := gW_t (List.mem_append_right _ (List.mem_append_right _ (List.mem_append_right _ (List.mem_append_left _ (show _ ∈ tables_1_4 from List.mem_of_getElem? (i := 174) (by decide +kernel)))))) (by decide +kernel)
theorem km_X0_61 : Cond.methodLink RX0 61 yX8_heightOf ∈ gW := gW_t (List.mem_append_right _ (List.mem_append_right _ (List.mem_append_right _ (List.mem_append_left _ (show _ ∈ tables_1_4 from List.mem_of_getElem? (i := 175) (by decide +kernel)))))) (by decide +kernel)
theorem km_X0_75 : Cond.methodLink RX0 75 yX8_has ∈ gW := gW_t (List.mem_append_right _ (List.mem_append_right _ (List.mem_append_right _ (List.mem_append_left _ (show _ ∈ tables_1_4 from List.mem_of_getElem? (i := 176) (by decide +kernel)))))) (by decide +kernel)
theorem km_X0_78 : Cond.methodLink RX0 78 yX0_gapToTheRight ∈ gW := gW_t (List.mem_append_right _ (List.mem_append_right _ (List.mem_append_right _ (List.mem_append_left _ (show _ ∈ tables_1_4 from List.mem_of_getElem? (i := 177) (by decide +kernel)))))) (by decide +kernel)
theorem kt_X0_gapToTheRight : Cond.static yX0_gapToTheRight ∈ gW := gW_t (List.mem_append_right _ (List.mem_append_right _ (List.mem_append_right _ (List.mem_append_left _ (show _ ∈ tables_1_4 from List.mem_of_getElem? (i := 178) (by decide +kernel)))))) (by decide +kernel)
theorem kc_X0_gapToTheRight : Cond.code yX0_gapToTheRight cX0_gapToTheRight 2 (some .int) ∈ gW := gW_t (List.mem_append_right _ (List.mem_append_right _ (List.mem_append_right _ (List.mem_append_left _ (show _ ∈ tables_1_4 from List.mem_of_getElem? (i := 179) (by decide +kernel)))))) (by decide +kernel)
theorem km_X0_81 : Cond.methodLink RX0 81 yX7_put ∈ gW := gW_t (List.mem_append_right _ (List.mem_append_right _ (List.mem_append_right _ (List.mem_append_left _ (show _ ∈ tables_1_4 from List.mem_of_getElem? (i := 180) (by decide +kernel)))))) (by decide +kernel)
theorem km_X0_85 : Cond.methodLink RX0 85 yX0_gapBelow ∈ gW := gW_t (List.mem_append_right _ (List.mem_append_right _ (List.mem_append_right _ (List.mem_append_left _ (show _ ∈ tables_1_4 from List.mem_of_getElem? (i := 181) (by decide +kernel)))))) (by decide +kernel)
theorem kt_X0_gapBelow : Cond.static yX0_gapBelow ∈ gW := gW_t (List.mem_append_right _ (List.mem_append_right _ (List.mem_append_right _ (List.mem_append_left _ (show _ ∈ tables_1_4 from List.mem_of_getElem? (i := 182) (by decide +kernel)))))) (by decide +kernel)
theorem kc_X0_gapBelow : Cond.code yX0_gapBelow cX0_gapBelow 2 (some .int) ∈ gW := gW_t (List.mem_append_right _ (List.mem_append_right _ (List.mem_append_right _ (List.mem_append_left _ (show _ ∈ tables_1_4 from List.mem_of_getElem? (i := 183) (by decide +kernel)))))) (by decide +kernel)
theorem km_X0_40 : Cond.methodLink RX0 40 yX0_joinGaps ∈ gW := gW_t (List.mem_append_right _ (List.mem_append_right _ (List.mem_append_right _ (List.mem_append_left _ (show _ ∈ tables_1_4 from List.mem_of_getElem? (i := 184) (by decide +kernel)))))) (by decide +kernel)
theorem ki_X0_joinGaps : Cond.instanceMethod yX0_joinGaps ∈ gW := gW_t (List.mem_append_right _ (List.mem_append_right _ (List.mem_append_right _ (List.mem_append_left _ (show _ ∈ tables_1_4 from List.mem_of_getElem? (i := 186) (by decide +kernel)))))) (by decide +kernel)
theorem kc_X0_joinGaps : Cond.code yX0_joinGaps cX0_joinGaps 3 none ∈ gW := gW_t (List.mem_append_right _ (List.mem_append_right _ (List.mem_append_right _ (List.mem_append_left _ (show _ ∈ tables_1_4 from List.mem_of_getElem? (i := 187) (by decide +kernel)))))) (by decide +kernel)
theorem km_X0_88 : Cond.methodLink RX0 88 yX0_joinInSquare ∈ gW := gW_t (List.mem_append_right _ (List.mem_append_right _ (List.mem_append_right _ (List.mem_append_left _ (show _ ∈ tables_1_4 from List.mem_of_getElem? (i := 188) (by decide +kernel)))))) (by decide +kernel)
theorem ki_X0_joinInSquare : Cond.instanceMethod yX0_joinInSquare ∈ gW := gW_t (List.mem_append_right _ (List.mem_append_right _ (List.mem_append_right _ (List.mem_append_left _ (show _ ∈ tables_1_4 from List.mem_of_getElem? (i := 190) (by decide +kernel)))))) (by decide +kernel)
theorem kc_X0_joinInSquare : Cond.code yX0_joinInSquare cX0_joinInSquare 7 none ∈ gW := gW_t (List.mem_append_right _ (List.mem_append_right _ (List.mem_append_right _ (List.mem_append_left _ (show _ ∈ tables_1_4 from List.mem_of_getElem? (i := 191) (by decide +kernel)))))) (by decide +kernel)
theorem km_X0_91 : Cond.methodLink RX0 91 yX0_isGap ∈ gW := gW_t (List.mem_append_right _ (List.mem_append_right _ (List.mem_append_right _ (List.mem_append_left _ (show _ ∈ tables_1_4 from List.mem_of_getElem? (i := 192) (by decide +kernel)))))) (by decide +kernel)
theorem ki_X0_isGap : Cond.instanceMethod yX0_isGap ∈ gW := gW_t (List.mem_append_right _ (List.mem_append_right _ (List.mem_append_right _ (List.mem_append_left _ (show _ ∈ tables_1_4 from List.mem_of_getElem? (i := 194) (by decide +kernel)))))) (by decide +kernel)
theorem kc_X0_isGap : Cond.code yX0_isGap cX0_isGap 2 (some .boolean) ∈ gW := gW_t (List.mem_append_right _ (List.mem_append_right _ (List.mem_append_right _ (List.mem_append_left _ (show _ ∈ tables_1_4 from List.mem_of_getElem? (i := 195) (by decide +kernel)))))) (by decide +kernel)
theorem km_X0_46 : Cond.methodLink RX0 46 yX7_get ∈ gW := gW_t (List.mem_append_right _ (List.mem_append_right _ (List.mem_append_right _ (List.mem_append_left _ (show _ ∈ tables_1_4 from List.mem_of_getElem? (i := 196) (by decide +kernel)))))) (by decide +kernel)
theorem km_X0_95 : Cond.methodLink RX0 95 yX0_joinsLowCells ∈ gW := gW_t (List.mem_append_right _ (List.mem_append_right _ (List.mem_append_right _ (List.mem_append_left _ (show _ ∈ tables_1_4 from List.mem_of_getElem? (i := 197) (by decide +kernel)))))) (by decide +kernel)
theorem ki_X0_joinsLowCells : Cond.instanceMethod yX0_joinsLowCells ∈ gW := gW_t (List.mem_append_right _ (List.mem_append_right _ (List.mem_append_right _ (List.mem_append_left _ (show _ ∈ tables_1_4 from List.mem_of_getElem? (i := 199) (by decide +kernel)))))) (by decide +kernel)
theorem kc_X0_joinsLowCells : Cond.code yX0_joinsLowCells cX0_joinsLowCells 6 (some .boolean) ∈ gW := gW_t (List.mem_append_right _ (List.mem_append_right _ (List.mem_append_right _ (List.mem_append_left _ (show _ ∈ tables_1_4 from List.mem_of_getElem? (i := 200) (by decide +kernel)))))) (by decide +kernel)
theorem km_X0_98 : Cond.methodLink RX0 98 yX0_join ∈ gW := gW_t (List.mem_append_right _ (List.mem_append_right _ (List.mem_append_right _ (List.mem_append_left _ (show _ ∈ tables_1_4 from List.mem_of_getElem? (i := 201) (by decide +kernel)))))) (by decide +kernel)
theorem ki_X0_join : Cond.instanceMethod yX0_join ∈ gW := gW_t (List.mem_append_right _ (List.mem_append_right _ (List.mem_append_right _ (List.mem_append_left _ (show _ ∈ tables_1_4 from List.mem_of_getElem? (i := 203) (by decide +kernel)))))) (by decide +kernel)
theorem kc_X0_join : Cond.code yX0_join cX0_join 3 none ∈ gW := gW_t (List.mem_append_right _ (List.mem_append_right _ (List.mem_append_right _ (List.mem_append_left _ (show _ ∈ tables_1_4 from List.mem_of_getElem? (i := 204) (by decide +kernel)))))) (by decide +kernel)
theorem km_X0_101 : Cond.methodLink RX0 101 yX0_leaderOf ∈ gW := gW_t (List.mem_append_right _ (List.mem_append_right _ (List.mem_append_right _ (List.mem_append_left _ (show _ ∈ tables_1_4 from List.mem_of_getElem? (i := 205) (by decide +kernel)))))) (by decide +kernel)
theorem ki_X0_leaderOf : Cond.instanceMethod yX0_leaderOf ∈ gW := gW_t (List.mem_append_right _ (List.mem_append_right _ (List.mem_append_right _ (List.mem_append_left _ (show _ ∈ tables_1_4 from List.mem_of_getElem? (i := 207) (by decide +kernel)))))) (by decide +kernel)
theorem kc_X0_leaderOf : Cond.code yX0_leaderOf cX0_leaderOf 4 (some .int) ∈ gW := gW_t (List.mem_append_right _ (List.mem_append_right _ (List.mem_append_right _ (List.mem_append_left _ (show _ ∈ tables_1_4 from List.mem_of_getElem? (i := 208) (by decide +kernel)))))) (by decide +kernel)
theorem km_X0_43 : Cond.methodLink RX0 43 yX0_measureLines ∈ gW := gW_t (List.mem_append_right _ (List.mem_append_right _ (List.mem_append_right _ (List.mem_append_left _ (show _ ∈ tables_1_4 from List.mem_of_getElem? (i := 209) (by decide +kernel)))))) (by decide +kernel)
theorem ki_X0_measureLines : Cond.instanceMethod yX0_measureLines ∈ gW := gW_t (List.mem_append_right _ (List.mem_append_right _ (List.mem_append_right _ (List.mem_append_left _ (show _ ∈ tables_1_4 from List.mem_of_getElem? (i := 211) (by decide +kernel)))))) (by decide +kernel)
theorem kc_X0_measureLines : Cond.code yX0_measureLines cX0_measureLines 4 none ∈ gW := gW_t (List.mem_append_right _ (List.mem_append_right _ (List.mem_append_right _ (List.mem_append_left _ (show _ ∈ tables_1_4 from List.mem_of_getElem? (i := 212) (by decide +kernel)))))) (by decide +kernel)
theorem km_X0_104 : Cond.methodLink RX0 104 yX0_measureGap ∈ gW := gW_t (List.mem_append_right _ (List.mem_append_right _ (List.mem_append_right _ (List.mem_append_left _ (show _ ∈ tables_1_4 from List.mem_of_getElem? (i := 213) (by decide +kernel)))))) (by decide +kernel)
theorem ki_X0_measureGap : Cond.instanceMethod yX0_measureGap ∈ gW := gW_t (List.mem_append_right _ (List.mem_append_right _ (List.mem_append_right _ (List.mem_append_left _ (show _ ∈ tables_1_4 from List.mem_of_getElem? (i := 215) (by decide +kernel)))))) (by decide +kernel)
theorem kc_X0_measureGap : Cond.code yX0_measureGap cX0_measureGap 3 none ∈ gW := gW_t (List.mem_append_right _ (List.mem_append_right _ (List.mem_append_right _ (List.mem_append_left _ (show _ ∈ tables_1_4 from List.mem_of_getElem? (i := 216) (by decide +kernel)))))) (by decide +kernel)
theorem km_X0_108 : Cond.methodLink RX0 108 yX7_increase ∈ gW := gW_t (List.mem_append_right _ (List.mem_append_right _ (List.mem_append_right _ (List.mem_append_left _ (show _ ∈ tables_1_4 from List.mem_of_getElem? (i := 217) (by decide +kernel)))))) (by decide +kernel)
theorem km_X9_195 : Cond.methodLink RX9 195 yX0_lineCount ∈ gW := gW_t (List.mem_append_right _ (List.mem_append_right _ (List.mem_append_right _ (List.mem_append_left _ (show _ ∈ tables_1_4 from List.mem_of_getElem? (i := 218) (by decide +kernel)))))) (by decide +kernel)
theorem ki_X0_lineCount : Cond.instanceMethod yX0_lineCount ∈ gW := gW_t (List.mem_append_right _ (List.mem_append_right _ (List.mem_append_right _ (List.mem_append_left _ (show _ ∈ tables_1_4 from List.mem_of_getElem? (i := 219) (by decide +kernel)))))) (by decide +kernel)
theorem ks_X0_lineCount : Cond.selects RX0 yX0_lineCount yX0_lineCount ∈ gW := gW_t (List.mem_append_right _ (List.mem_append_right _ (List.mem_append_right _ (List.mem_append_left _ (show _ ∈ tables_1_4 from List.mem_of_getElem? (i := 220) (by decide +kernel)))))) (by decide +kernel)
theorem kc_X0_lineCount : Cond.code yX0_lineCount cX0_lineCount 3 (some .int) ∈ gW := gW_t (List.mem_append_right _ (List.mem_append_right _ (List.mem_append_right _ (List.mem_append_left _ (show _ ∈ tables_1_4 from List.mem_of_getElem? (i := 221) (by decide +kernel)))))) (by decide +kernel)
theorem km_L_55 : Cond.methodLink RL 55 yX9_rings ∈ gW := gW_t (List.mem_append_right _ (List.mem_append_right _ (List.mem_append_right _ (List.mem_append_left _ (show _ ∈ tables_1_4 from List.mem_of_getElem? (i := 222) (by decide +kernel)))))) (by decide +kernel)
theorem ki_X9_rings : Cond.instanceMethod yX9_rings ∈ gW := gW_t (List.mem_append_right _ (List.mem_append_right _ (List.mem_append_right _ (List.mem_append_left _ (show _ ∈ tables_1_4 from List.mem_of_getElem? (i := 223) (by decide +kernel)))))) (by decide +kernel)
theorem ks_X9_rings : Cond.selects RX9 yX9_rings yX9_rings ∈ gW := gW_t (List.mem_append_right _ (List.mem_append_right _ (List.mem_append_right _ (List.mem_append_left _ (show _ ∈ tables_1_4 from List.mem_of_getElem? (i := 224) (by decide +kernel)))))) (by decide +kernel)
theorem kc_X9_rings : Cond.code yX9_rings cX9_rings 2 (some .int) ∈ gW := gW_t (List.mem_append_right _ (List.mem_append_right _ (List.mem_append_right _ (List.mem_append_left _ (show _ ∈ tables_1_4 from List.mem_of_getElem? (i := 225) (by decide +kernel)))))) (by decide +kernel)
theorem km_X9_198 : Cond.methodLink RX9 198 yX0_ringCount ∈ gW := gW_t (List.mem_append_right _ (List.mem_append_right _ (List.mem_append_right _ (List.mem_append_left _ (show _ ∈ tables_1_4 from List.mem_of_getElem? (i := 226) (by decide +kernel)))))) (by decide +kernel)
theorem ki_X0_ringCount : Cond.instanceMethod yX0_ringCount ∈ gW := gW_t (List.mem_append_right _ (List.mem_append_right _ (List.mem_append_right _ (List.mem_append_left _ (show _ ∈ tables_1_4 from List.mem_of_getElem? (i := 227) (by decide +kernel)))))) (by decide +kernel)
theorem ks_X0_ringCount : Cond.selects RX0 yX0_ringCount yX0_ringCount ∈ gW := gW_t (List.mem_append_right _ (List.mem_append_right _ (List.mem_append_right _ (List.mem_append_left _ (show _ ∈ tables_1_4 from List.mem_of_getElem? (i := 228) (by decide +kernel)))))) (by decide +kernel)
theorem kc_X0_ringCount : Cond.code yX0_ringCount cX0_ringCount 3 (some .int) ∈ gW := gW_t (List.mem_append_right _ (List.mem_append_right _ (List.mem_append_right _ (List.mem_append_left _ (show _ ∈ tables_1_4 from List.mem_of_getElem? (i := 229) (by decide +kernel)))))) (by decide +kernel)
theorem km_L_58 : Cond.methodLink RL 58 yX9_longest ∈ gW := gW_t (List.mem_append_right _ (List.mem_append_right _ (List.mem_append_right _ (List.mem_append_left _ (show _ ∈ tables_1_4 from List.mem_of_getElem? (i := 230) (by decide +kernel)))))) (by decide +kernel)
theorem ki_X9_longest : Cond.instanceMethod yX9_longest ∈ gW := gW_t (List.mem_append_right _ (List.mem_append_right _ (List.mem_append_right _ (List.mem_append_left _ (show _ ∈ tables_1_4 from List.mem_of_getElem? (i := 231) (by decide +kernel)))))) (by decide +kernel)
theorem ks_X9_longest : Cond.selects RX9 yX9_longest yX9_longest ∈ gW := gW_t (List.mem_append_right _ (List.mem_append_right _ (List.mem_append_right _ (List.mem_append_left _ (show _ ∈ tables_1_4 from List.mem_of_getElem? (i := 232) (by decide +kernel)))))) (by decide +kernel)
theorem kc_X9_longest : Cond.code yX9_longest cX9_longest 2 (some .int) ∈ gW := gW_t (List.mem_append_right _ (List.mem_append_right _ (List.mem_append_right _ (List.mem_append_left _ (show _ ∈ tables_1_4 from List.mem_of_getElem? (i := 233) (by decide +kernel)))))) (by decide +kernel)
theorem km_X9_201 : Cond.methodLink RX9 201 yX0_mostGaps ∈ gW := gW_t (List.mem_append_right _ (List.mem_append_right _ (List.mem_append_right _ (List.mem_append_left _ (show _ ∈ tables_1_4 from List.mem_of_getElem? (i := 234) (by decide +kernel)))))) (by decide +kernel)
theorem ki_X0_mostGaps : Cond.instanceMethod yX0_mostGaps ∈ gW := gW_t (List.mem_append_right _ (List.mem_append_right _ (List.mem_append_right _ (List.mem_append_left _ (show _ ∈ tables_1_4 from List.mem_of_getElem? (i := 235) (by decide +kernel)))))) (by decide +kernel)
theorem ks_X0_mostGaps : Cond.selects RX0 yX0_mostGaps yX0_mostGaps ∈ gW := gW_t (List.mem_append_right _ (List.mem_append_right _ (List.mem_append_right _ (List.mem_append_left _ (show _ ∈ tables_1_4 from List.mem_of_getElem? (i := 236) (by decide +kernel)))))) (by decide +kernel)
theorem kc_X0_mostGaps : Cond.code yX0_mostGaps cX0_mostGaps 3 (some .int) ∈ gW := gW_t (List.mem_append_right _ (List.mem_append_right _ (List.mem_append_right _ (List.mem_append_left _ (show _ ∈ tables_1_4 from List.mem_of_getElem? (i := 237) (by decide +kernel)))))) (by decide +kernel)
theorem km_X0_50 : Cond.methodLink RX0 50 yJ9_max_7cf53 ∈ gW := gW_t (List.mem_append_right _ (List.mem_append_right _ (List.mem_append_right _ (List.mem_append_left _ (show _ ∈ tables_1_4 from List.mem_of_getElem? (i := 238) (by decide +kernel)))))) (by decide +kernel)
theorem km_L_61 : Cond.methodLink RL 61 yX9_courseClimb ∈ gW := gW_t (List.mem_append_right _ (List.mem_append_right _ (List.mem_append_right _ (List.mem_append_left _ (show _ ∈ tables_1_4 from List.mem_of_getElem? (i := 239) (by decide +kernel)))))) (by decide +kernel)
theorem ki_X9_courseClimb : Cond.instanceMethod yX9_courseClimb ∈ gW := gW_t (List.mem_append_right _ (List.mem_append_right _ (List.mem_append_right _ (List.mem_append_right _ ((show _ ∈ tables_1_5 from List.mem_of_getElem? (i := 0) (by decide +kernel))))))) (by decide +kernel)
theorem ks_X9_courseClimb : Cond.selects RX9 yX9_courseClimb yX9_courseClimb ∈ gW := gW_t (List.mem_append_right _ (List.mem_append_right _ (List.mem_append_right _ (List.mem_append_right _ ((show _ ∈ tables_1_5 from List.mem_of_getElem? (i := 1) (by decide +kernel))))))) (by decide +kernel)
theorem kc_X9_courseClimb : Cond.code yX9_courseClimb cX9_courseClimb 2 (some .int) ∈ gW := gW_t (List.mem_append_right _ (List.mem_append_right _ (List.mem_append_right _ (List.mem_append_right _ ((show _ ∈ tables_1_5 from List.mem_of_getElem? (i := 2) (by decide +kernel))))))) (by decide +kernel)
theorem km_L_64 : Cond.methodLink RL 64 yX9_courseCost ∈ gW := gW_t (List.mem_append_right _ (List.mem_append_right _ (List.mem_append_right _ (List.mem_append_right _ ((show _ ∈ tables_1_5 from List.mem_of_getElem? (i := 3) (by decide +kernel))))))) (by decide +kernel)
theorem ki_X9_courseCost : Cond.instanceMethod yX9_courseCost ∈ gW := gW_t (List.mem_append_right _ (List.mem_append_right _ (List.mem_append_right _ (List.mem_append_right _ ((show _ ∈ tables_1_5 from List.mem_of_getElem? (i := 4) (by decide +kernel))))))) (by decide +kernel)
theorem ks_X9_courseCost : Cond.selects RX9 yX9_courseCost yX9_courseCost ∈ gW := gW_t (List.mem_append_right _ (List.mem_append_right _ (List.mem_append_right _ (List.mem_append_right _ ((show _ ∈ tables_1_5 from List.mem_of_getElem? (i := 5) (by decide +kernel))))))) (by decide +kernel)
theorem kc_X9_courseCost : Cond.code yX9_courseCost cX9_courseCost 2 (some .int) ∈ gW := gW_t (List.mem_append_right _ (List.mem_append_right _ (List.mem_append_right _ (List.mem_append_right _ ((show _ ∈ tables_1_5 from List.mem_of_getElem? (i := 6) (by decide +kernel))))))) (by decide +kernel)
theorem km_X9_226 : Cond.methodLink RX9 226 yX4_measuredCost ∈ gW := gW_t (List.mem_append_right _ (List.mem_append_right _ (List.mem_append_right _ (List.mem_append_right _ ((show _ ∈ tables_1_5 from List.mem_of_getElem? (i := 7) (by decide +kernel))))))) (by decide +kernel)
theorem ki_X4_measuredCost : Cond.instanceMethod yX4_measuredCost ∈ gW := gW_t (List.mem_append_right _ (List.mem_append_right _ (List.mem_append_right _ (List.mem_append_right _ ((show _ ∈ tables_1_5 from List.mem_of_getElem? (i := 8) (by decide +kernel))))))) (by decide +kernel)
theorem ks_X4_measuredCost : Cond.selects RX4 yX4_measuredCost yX4_measuredCost ∈ gW := gW_t (List.mem_append_right _ (List.mem_append_right _ (List.mem_append_right _ (List.mem_append_right _ ((show _ ∈ tables_1_5 from List.mem_of_getElem? (i := 9) (by decide +kernel))))))) (by decide +kernel)
theorem kc_X4_measuredCost : Cond.code yX4_measuredCost cX4_measuredCost 1 (some .int) ∈ gW := gW_t (List.mem_append_right _ (List.mem_append_right _ (List.mem_append_right _ (List.mem_append_right _ ((show _ ∈ tables_1_5 from List.mem_of_getElem? (i := 10) (by decide +kernel))))))) (by decide +kernel)
theorem km_L_67 : Cond.methodLink RL 67 yX9_startOf ∈ gW := gW_t (List.mem_append_right _ (List.mem_append_right _ (List.mem_append_right _ (List.mem_append_right _ ((show _ ∈ tables_1_5 from List.mem_of_getElem? (i := 11) (by decide +kernel))))))) (by decide +kernel)
theorem ki_X9_startOf : Cond.instanceMethod yX9_startOf ∈ gW := gW_t (List.mem_append_right _ (List.mem_append_right _ (List.mem_append_right _ (List.mem_append_right _ ((show _ ∈ tables_1_5 from List.mem_of_getElem? (i := 12) (by decide +kernel))))))) (by decide +kernel)
theorem ks_X9_startOf : Cond.selects RX9 yX9_startOf yX9_startOf ∈ gW := gW_t (List.mem_append_right _ (List.mem_append_right _ (List.mem_append_right _ (List.mem_append_right _ ((show _ ∈ tables_1_5 from List.mem_of_getElem? (i := 13) (by decide +kernel))))))) (by decide +kernel)
theorem kc_X9_startOf : Cond.code yX9_startOf cX9_startOf 2 (some .int) ∈ gW := gW_t (List.mem_append_right _ (List.mem_append_right _ (List.mem_append_right _ (List.mem_append_right _ ((show _ ∈ tables_1_5 from List.mem_of_getElem? (i := 14) (by decide +kernel))))))) (by decide +kernel)
theorem km_X9_232 : Cond.methodLink RX9 232 yX3_startMinute ∈ gW := gW_t (List.mem_append_right _ (List.mem_append_right _ (List.mem_append_right _ (List.mem_append_right _ ((show _ ∈ tables_1_5 from List.mem_of_getElem? (i := 15) (by decide +kernel))))))) (by decide +kernel)
theorem km_L_70 : Cond.methodLink RL 70 yX9_stateOf ∈ gW := gW_t (List.mem_append_right _ (List.mem_append_right _ (List.mem_append_right _ (List.mem_append_right _ ((show _ ∈ tables_1_5 from List.mem_of_getElem? (i := 16) (by decide +kernel))))))) (by decide +kernel)
theorem ki_X9_stateOf : Cond.instanceMethod yX9_stateOf ∈ gW := gW_t (List.mem_append_right _ (List.mem_append_right _ (List.mem_append_right _ (List.mem_append_right _ ((show _ ∈ tables_1_5 from List.mem_of_getElem? (i := 17) (by decide +kernel))))))) (by decide +kernel)
theorem ks_X9_stateOf : Cond.selects RX9 yX9_stateOf yX9_stateOf ∈ gW := gW_t (List.mem_append_right _ (List.mem_append_right _ (List.mem_append_right _ (List.mem_append_right _ ((show _ ∈ tables_1_5 from List.mem_of_getElem? (i := 18) (by decide +kernel))))))) (by decide +kernel)
theorem kc_X9_stateOf : Cond.code yX9_stateOf cX9_stateOf 2 (some .int) ∈ gW := gW_t (List.mem_append_right _ (List.mem_append_right _ (List.mem_append_right _ (List.mem_append_right _ ((show _ ∈ tables_1_5 from List.mem_of_getElem? (i := 19) (by decide +kernel))))))) (by decide +kernel)
theorem km_X9_235 : Cond.methodLink RX9 235 yX5_state ∈ gW := gW_t (List.mem_append_right _ (List.mem_append_right _ (List.mem_append_right _ (List.mem_append_right _ ((show _ ∈ tables_1_5 from List.mem_of_getElem? (i := 20) (by decide +kernel))))))) (by decide +kernel)
theorem ki_X5_state : Cond.instanceMethod yX5_state ∈ gW := gW_t (List.mem_append_right _ (List.mem_append_right _ (List.mem_append_right _ (List.mem_append_right _ ((show _ ∈ tables_1_5 from List.mem_of_getElem? (i := 21) (by decide +kernel))))))) (by decide +kernel)
theorem ks_X5_state : Cond.selects RX5 yX5_state yX5_state ∈ gW := gW_t (List.mem_append_right _ (List.mem_append_right _ (List.mem_append_right _ (List.mem_append_right _ ((show _ ∈ tables_1_5 from List.mem_of_getElem? (i := 22) (by decide +kernel))))))) (by decide +kernel)
theorem kc_X5_state : Cond.code yX5_state cX5_state 2 (some .int) ∈ gW := gW_t (List.mem_append_right _ (List.mem_append_right _ (List.mem_append_right _ (List.mem_append_right _ ((show _ ∈ tables_1_5 from List.mem_of_getElem? (i := 23) (by decide +kernel))))))) (by decide +kernel)
theorem km_L_73 : Cond.methodLink RL 73 yX9_total ∈ gW := gW_t (List.mem_append_right _ (List.mem_append_right _ (List.mem_append_right _ (List.mem_append_right _ ((show _ ∈ tables_1_5 from List.mem_of_getElem? (i := 24) (by decide +kernel))))))) (by decide +kernel)
theorem ki_X9_total : Cond.instanceMethod yX9_total ∈ gW := gW_t (List.mem_append_right _ (List.mem_append_right _ (List.mem_append_right _ (List.mem_append_right _ ((show _ ∈ tables_1_5 from List.mem_of_getElem? (i := 25) (by decide +kernel))))))) (by decide +kernel)
theorem ks_X9_total : Cond.selects RX9 yX9_total yX9_total ∈ gW := gW_t (List.mem_append_right _ (List.mem_append_right _ (List.mem_append_right _ (List.mem_append_right _ ((show _ ∈ tables_1_5 from List.mem_of_getElem? (i := 26) (by decide +kernel))))))) (by decide +kernel)
theorem kc_X9_total : Cond.code yX9_total cX9_total 2 (some .int) ∈ gW := gW_t (List.mem_append_right _ (List.mem_append_right _ (List.mem_append_right _ (List.mem_append_right _ ((show _ ∈ tables_1_5 from List.mem_of_getElem? (i := 27) (by decide +kernel))))))) (by decide +kernel)
theorem km_X9_244 : Cond.methodLink RX9 244 yX5_totalMinutes ∈ gW := gW_t (List.mem_append_right _ (List.mem_append_right _ (List.mem_append_right _ (List.mem_append_right _ ((show _ ∈ tables_1_5 from List.mem_of_getElem? (i := 28) (by decide +kernel))))))) (by decide +kernel)
theorem ki_X5_totalMinutes : Cond.instanceMethod yX5_totalMinutes ∈ gW := gW_t (List.mem_append_right _ (List.mem_append_right _ (List.mem_append_right _ (List.mem_append_right _ ((show _ ∈ tables_1_5 from List.mem_of_getElem? (i := 29) (by decide +kernel))))))) (by decide +kernel)
theorem ks_X5_totalMinutes : Cond.selects RX5 yX5_totalMinutes yX5_totalMinutes ∈ gW := gW_t (List.mem_append_right _ (List.mem_append_right _ (List.mem_append_right _ (List.mem_append_right _ ((show _ ∈ tables_1_5 from List.mem_of_getElem? (i := 30) (by decide +kernel))))))) (by decide +kernel)
theorem kc_X5_totalMinutes : Cond.code yX5_totalMinutes cX5_totalMinutes 2 (some .int) ∈ gW := gW_t (List.mem_append_right _ (List.mem_append_right _ (List.mem_append_right _ (List.mem_append_right _ ((show _ ∈ tables_1_5 from List.mem_of_getElem? (i := 31) (by decide +kernel))))))) (by decide +kernel)
theorem km_L_76 : Cond.methodLink RL 76 yX9_rank ∈ gW := gW_t (List.mem_append_right _ (List.mem_append_right _ (List.mem_append_right _ (List.mem_append_right _ ((show _ ∈ tables_1_5 from List.mem_of_getElem? (i := 32) (by decide +kernel))))))) (by decide +kernel)
theorem ki_X9_rank : Cond.instanceMethod yX9_rank ∈ gW := gW_t (List.mem_append_right _ (List.mem_append_right _ (List.mem_append_right _ (List.mem_append_right _ ((show _ ∈ tables_1_5 from List.mem_of_getElem? (i := 33) (by decide +kernel))))))) (by decide +kernel)
theorem ks_X9_rank : Cond.selects RX9 yX9_rank yX9_rank ∈ gW := gW_t (List.mem_append_right _ (List.mem_append_right _ (List.mem_append_right _ (List.mem_append_right _ ((show _ ∈ tables_1_5 from List.mem_of_getElem? (i := 34) (by decide +kernel))))))) (by decide +kernel)
theorem kc_X9_rank : Cond.code yX9_rank cX9_rank 2 (some .int) ∈ gW := gW_t (List.mem_append_right _ (List.mem_append_right _ (List.mem_append_right _ (List.mem_append_right _ ((show _ ∈ tables_1_5 from List.mem_of_getElem? (i := 35) (by decide +kernel))))))) (by decide +kernel)
theorem km_X9_247 : Cond.methodLink RX9 247 yX5_place ∈ gW := gW_t (List.mem_append_right _ (List.mem_append_right _ (List.mem_append_right _ (List.mem_append_right _ ((show _ ∈ tables_1_5 from List.mem_of_getElem? (i := 36) (by decide +kernel))))))) (by decide +kernel)
theorem ki_X5_place : Cond.instanceMethod yX5_place ∈ gW := gW_t (List.mem_append_right _ (List.mem_append_right _ (List.mem_append_right _ (List.mem_append_right _ ((show _ ∈ tables_1_5 from List.mem_of_getElem? (i := 37) (by decide +kernel))))))) (by decide +kernel)
theorem ks_X5_place : Cond.selects RX5 yX5_place yX5_place ∈ gW := gW_t (List.mem_append_right _ (List.mem_append_right _ (List.mem_append_right _ (List.mem_append_right _ ((show _ ∈ tables_1_5 from List.mem_of_getElem? (i := 38) (by decide +kernel))))))) (by decide +kernel)
theorem kc_X5_place : Cond.code yX5_place cX5_place 5 (some .int) ∈ gW := gW_t (List.mem_append_right _ (List.mem_append_right _ (List.mem_append_right _ (List.mem_append_right _ ((show _ ∈ tables_1_5 from List.mem_of_getElem? (i := 39) (by decide +kernel))))))) (by decide +kernel)
theorem ks_X9_needCell : Cond.selects RX9 yX9_needCell yX9_needCell ∈ gW := gW_p (List.mem_of_getElem? (i := 0) (by decide +kernel)) (by decide +kernel)
theorem ks_X9_needControl : Cond.selects RX9 yX9_needControl yX9_needControl ∈ gW := gW_p (List.mem_of_getElem? (i := 2) (by decide +kernel)) (by decide +kernel)
theorem ks_X4_takeOrder : Cond.selects RX4 yX4_takeOrder yX4_takeOrder ∈ gW := gW_p (List.mem_of_getElem? (i := 3) (by decide +kernel)) (by decide +kernel)
theorem ks_X4_sortBetweenEnds : Cond.selects RX4 yX4_sortBetweenEnds yX4_sortBetweenEnds ∈ gW := gW_p (List.mem_of_getElem? (i := 4) (by decide +kernel)) (by decide +kernel)
theorem ks_X4_swap : Cond.selects RX4 yX4_swap yX4_swap ∈ gW := gW_p (List.mem_of_getElem? (i := 5) (by decide +kernel)) (by decide +kernel)
theorem ks_X4_measureLegs : Cond.selects RX4 yX4_measureLegs yX4_measureLegs ∈ gW := gW_p (List.mem_of_getElem? (i := 6) (by decide +kernel)) (by decide +kernel)
theorem ks_X6_begin : Cond.selects RX6 yX6_begin yX6_begin ∈ gW := gW_p (List.mem_of_getElem? (i := 7) (by decide +kernel)) (by decide +kernel)
theorem ks_X6_takeNearest : Cond.selects RX6 yX6_takeNearest yX6_takeNearest ∈ gW := gW_p (List.mem_of_getElem? (i := 8) (by decide +kernel)) (by decide +kernel)
theorem ks_X6_goOn : Cond.selects RX6 yX6_goOn yX6_goOn ∈ gW := gW_p (List.mem_of_getElem? (i := 9) (by decide +kernel)) (by decide +kernel)
theorem ks_X6_offer : Cond.selects RX6 yX6_offer yX6_offer ∈ gW := gW_p (List.mem_of_getElem? (i := 10) (by decide +kernel)) (by decide +kernel)
theorem ks_X4_judgeOrder : Cond.selects RX4 yX4_judgeOrder yX4_judgeOrder ∈ gW := gW_p (List.mem_of_getElem? (i := 11) (by decide +kernel)) (by decide +kernel)
theorem ks_X4_keepOrder : Cond.selects RX4 yX4_keepOrder yX4_keepOrder ∈ gW := gW_p (List.mem_of_getElem? (i := 12) (by decide +kernel)) (by decide +kernel)
theorem ks_X4_goToNextOrder : Cond.selects RX4 yX4_goToNextOrder yX4_goToNextOrder ∈ gW := gW_p (List.mem_of_getElem? (i := 13) (by decide +kernel)) (by decide +kernel)
theorem ks_X3_startKlass : Cond.selects RX3 yX3_startKlass yX3_startKlass ∈ gW := gW_p (List.mem_of_getElem? (i := 14) (by decide +kernel)) (by decide +kernel)
theorem ks_X3_leastLot : Cond.selects RX3 yX3_leastLot yX3_leastLot ∈ gW := gW_p (List.mem_of_getElem? (i := 15) (by decide +kernel)) (by decide +kernel)
theorem ks_X9_needRunner : Cond.selects RX9 yX9_needRunner yX9_needRunner ∈ gW := gW_p (List.mem_of_getElem? (i := 16) (by decide +kernel)) (by decide +kernel)
theorem ks_X5_followPunches : Cond.selects RX5 yX5_followPunches yX5_followPunches ∈ gW := gW_p (List.mem_of_getElem? (i := 17) (by decide +kernel)) (by decide +kernel)
theorem ks_X5_nextToCount : Cond.selects RX5 yX5_nextToCount yX5_nextToCount ∈ gW := gW_p (List.mem_of_getElem? (i := 18) (by decide +kernel)) (by decide +kernel)
theorem ks_X5_reckonSplits : Cond.selects RX5 yX5_reckonSplits yX5_reckonSplits ∈ gW := gW_p (List.mem_of_getElem? (i := 19) (by decide +kernel)) (by decide +kernel)
theorem ks_X5_isVoid : Cond.selects RX5 yX5_isVoid yX5_isVoid ∈ gW := gW_p (List.mem_of_getElem? (i := 20) (by decide +kernel)) (by decide +kernel)
theorem ks_X6_cheapen : Cond.selects RX6 yX6_cheapen yX6_cheapen ∈ gW := gW_p (List.mem_of_getElem? (i := 21) (by decide +kernel)) (by decide +kernel)
theorem ks_X9_needLeg : Cond.selects RX9 yX9_needLeg yX9_needLeg ∈ gW := gW_p (List.mem_of_getElem? (i := 22) (by decide +kernel)) (by decide +kernel)
theorem ks_X5_bestSplit : Cond.selects RX5 yX5_bestSplit yX5_bestSplit ∈ gW := gW_p (List.mem_of_getElem? (i := 23) (by decide +kernel)) (by decide +kernel)
theorem ks_X5_splitBetween : Cond.selects RX5 yX5_splitBetween yX5_splitBetween ∈ gW := gW_p (List.mem_of_getElem? (i := 24) (by decide +kernel)) (by decide +kernel)
theorem ks_X5_pace : Cond.selects RX5 yX5_pace yX5_pace ∈ gW := gW_p (List.mem_of_getElem? (i := 25) (by decide +kernel)) (by decide +kernel)
theorem ks_X0_findGaps : Cond.selects RX0 yX0_findGaps yX0_findGaps ∈ gW := gW_p (List.mem_of_getElem? (i := 26) (by decide +kernel)) (by decide +kernel)
theorem ks_X0_isHigh : Cond.selects RX0 yX0_isHigh yX0_isHigh ∈ gW := gW_p (List.mem_of_getElem? (i := 27) (by decide +kernel)) (by decide +kernel)
theorem ks_X0_joinGaps : Cond.selects RX0 yX0_joinGaps yX0_joinGaps ∈ gW := gW_p (List.mem_of_getElem? (i := 28) (by decide +kernel)) (by decide +kernel)
theorem ks_X0_joinInSquare : Cond.selects RX0 yX0_joinInSquare yX0_joinInSquare ∈ gW := gW_p (List.mem_of_getElem? (i := 29) (by decide +kernel)) (by decide +kernel)
theorem ks_X0_isGap : Cond.selects RX0 yX0_isGap yX0_isGap ∈ gW := gW_p (List.mem_of_getElem? (i := 30) (by decide +kernel)) (by decide +kernel)
theorem ks_X0_joinsLowCells : Cond.selects RX0 yX0_joinsLowCells yX0_joinsLowCells ∈ gW := gW_p (List.mem_of_getElem? (i := 31) (by decide +kernel)) (by decide +kernel)
theorem ks_X0_join : Cond.selects RX0 yX0_join yX0_join ∈ gW := gW_p (List.mem_of_getElem? (i := 32) (by decide +kernel)) (by decide +kernel)
theorem ks_X0_leaderOf : Cond.selects RX0 yX0_leaderOf yX0_leaderOf ∈ gW := gW_p (List.mem_of_getElem? (i := 33) (by decide +kernel)) (by decide +kernel)
theorem ks_X0_measureLines : Cond.selects RX0 yX0_measureLines yX0_measureLines ∈ gW := gW_p (List.mem_of_getElem? (i := 34) (by decide +kernel)) (by decide +kernel)
theorem ks_X0_measureGap : Cond.selects RX0 yX0_measureGap yX0_measureGap ∈ gW := gW_p (List.mem_of_getElem? (i := 35) (by decide +kernel)) (by decide +kernel)
theorem ku_X0 : ∀ w ∈ u_ws RX0 TX0 5, w ∈ gW := fun w h => List.mem_filter.mpr ⟨List.mem_append_right _ ((by decide +kernel : ∀ w ∈ u_ws RX0 TX0 5, w ∈ tables_1) w h), (by decide +kernel : ∀ w ∈ u_ws RX0 TX0 5, goodWord w = true) w h⟩
theorem ku_X1 : ∀ w ∈ u_ws RX1 TX1 3, w ∈ gW := fun w h => List.mem_filter.mpr ⟨List.mem_append_right _ ((by decide +kernel : ∀ w ∈ u_ws RX1 TX1 3, w ∈ tables_1) w h), (by decide +kernel : ∀ w ∈ u_ws RX1 TX1 3, goodWord w = true) w h⟩
theorem ku_X2 : ∀ w ∈ u_ws RX2 TX2 2, w ∈ gW := fun w h => List.mem_filter.mpr ⟨List.mem_append_right _ ((by decide +kernel : ∀ w ∈ u_ws RX2 TX2 2, w ∈ tables_1) w h), (by decide +kernel : ∀ w ∈ u_ws RX2 TX2 2, goodWord w = true) w h⟩
theorem ku_X3 : ∀ w ∈ u_ws RX3 TX3 9, w ∈ gW := fun w h => List.mem_filter.mpr ⟨List.mem_append_right _ ((by decide +kernel : ∀ w ∈ u_ws RX3 TX3 9, w ∈ tables_1) w h), (by decide +kernel : ∀ w ∈ u_ws RX3 TX3 9, goodWord w = true) w h⟩
theorem ku_X4 : ∀ w ∈ u_ws RX4 TX4 12, w ∈ gW := fun w h => List.mem_filter.mpr ⟨List.mem_append_right _ ((by decide +kernel : ∀ w ∈ u_ws RX4 TX4 12, w ∈ tables_1) w h), (by decide +kernel : ∀ w ∈ u_ws RX4 TX4 12, goodWord w = true) w h⟩
theorem ku_X5 : ∀ w ∈ u_ws RX5 TX5 8, w ∈ gW := fun w h => List.mem_filter.mpr ⟨List.mem_append_right _ ((by decide +kernel : ∀ w ∈ u_ws RX5 TX5 8, w ∈ tables_1) w h), (by decide +kernel : ∀ w ∈ u_ws RX5 TX5 8, goodWord w = true) w h⟩
theorem ku_X6 : ∀ w ∈ u_ws RX6 TX6 5, w ∈ gW := fun w h => List.mem_filter.mpr ⟨List.mem_append_right _ ((by decide +kernel : ∀ w ∈ u_ws RX6 TX6 5, w ∈ tables_1) w h), (by decide +kernel : ∀ w ∈ u_ws RX6 TX6 5, goodWord w = true) w h⟩
theorem ku_X7 : ∀ w ∈ u_ws RX7 TX7 1, w ∈ gW := fun w h => List.mem_filter.mpr ⟨List.mem_append_right _ ((by decide +kernel : ∀ w ∈ u_ws RX7 TX7 1, w ∈ tables_1) w h), (by decide +kernel : ∀ w ∈ u_ws RX7 TX7 1, goodWord w = true) w h⟩
theorem ku_X8 : ∀ w ∈ u_ws RX8 TX8 4, w ∈ gW := fun w h => List.mem_filter.mpr ⟨List.mem_append_right _ ((by decide +kernel : ∀ w ∈ u_ws RX8 TX8 4, w ∈ tables_1) w h), (by decide +kernel : ∀ w ∈ u_ws RX8 TX8 4, goodWord w = true) w h⟩
theorem ku_X9 : ∀ w ∈ u_ws RX9 TX9 8, w ∈ gW := fun w h => List.mem_filter.mpr ⟨List.mem_append_right _ ((by decide +kernel : ∀ w ∈ u_ws RX9 TX9 8, w ∈ tables_1) w h), (by decide +kernel : ∀ w ∈ u_ws RX9 TX9 8, goodWord w = true) w h⟩
theorem ku_X10 : ∀ w ∈ u_ws RX10 TX10 0, w ∈ gW := fun w h => List.mem_filter.mpr ⟨List.mem_append_right _ ((by decide +kernel : ∀ w ∈ u_ws RX10 TX10 0, w ∈ tables_1) w h), (by decide +kernel : ∀ w ∈ u_ws RX10 TX10 0, goodWord w = true) w h⟩
