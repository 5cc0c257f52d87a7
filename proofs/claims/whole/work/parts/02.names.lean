/-! ===== BEGIN words of one list among another's, by their places ===== -/
theorem goodIn_r {big : List Cond} (ws : List Cond) (ps : List Nat) (hp : ws = ps.filterMap (fun i => big[i]?)) (h : ws.all goodWord = true) : GoodIn big ws := by
  intro w hw
  have h1 := List.all_eq_true.mp h w hw
  rw [hp] at hw
  obtain ⟨i, -, hi⟩ := List.mem_filterMap.mp hw
  have hm : w ∈ big := by first | exact List.mem_of_getElem? hi | exact List.getElem?_mem hi
  exact ⟨hm, good_of_word h1⟩
theorem goodIn_app {big a b : List Cond} (ha : GoodIn big a) (hb : GoodIn big b) : GoodIn big (a ++ b) := fun w h => (List.mem_append.mp h).elim (ha w) (hb w)
theorem goodIn_ca {big a b : List Cond} {c : Cond} (ha : GoodIn big (c :: a)) (hb : GoodIn big b) : GoodIn big (c :: (a ++ b)) := fun w h => (List.mem_cons.mp h).elim (fun e => ha w (List.mem_cons.mpr (Or.inl e))) (fun h => (List.mem_append.mp h).elim (fun h => ha w (List.mem_cons.mpr (Or.inr h))) (hb w))
theorem goodIn_sub {big ws : List Cond} (hm : ∀ w ∈ ws, w ∈ big) (h : ws.all goodWord = true) : GoodIn big ws := fun w hw => ⟨hm w hw, good_of_word (List.all_eq_true.mp h w hw)⟩
/-! ===== END ===== -/

/-! ===== BEGIN printed: names, fields, word lists, decode rows ===== -/
def RX0 : String := "ExitFlows$Flow"
def TX0 : u_T := fun k => match k with
  | 0 => ("ExitFlows$Flow", "lanes", "I", false)
  | 1 => ("ExitFlows$Flow", "from", "[I", true)
  | 2 => ("ExitFlows$Flow", "to", "[I", true)
  | 3 => ("ExitFlows$Flow", "width", "[I", true)
  | 4 => ("ExitFlows$Flow", "length", "[I", true)
  | 5 => ("ExitFlows$Flow", "shut", "[I", true)
  | 6 => ("ExitFlows$Flow", "safeRooms", "I", false)
  | 7 => ("ExitFlows$Flow", "people", "I", false)
  | 8 => ("ExitFlows$Flow", "led", "I", false)
  | 9 => ("ExitFlows$Flow", "notLed", "[I", true)
  | 10 => ("ExitFlows$Flow", "entering", "[I", true)
  | 11 => ("ExitFlows$Flow", "latest", "[I", true)
  | 12 => ("ExitFlows$Flow", "step", "[I", true)
  | 13 => ("ExitFlows$Flow", "wayEntry", "[I", true)
  | 14 => ("ExitFlows$Flow", "wayAhead", "[Z", true)
  | 15 => ("ExitFlows$Flow", "waySteps", "I", false)
  | _ => ("ExitFlows$Flow", "wayWidth", "I", false)
def tyX0 : Nat → FieldType := fun k => match k with
  | 0 => .int
  | 1 => .array .int
  | 2 => .array .int
  | 3 => .array .int
  | 4 => .array .int
  | 5 => .array .int
  | 6 => .int
  | 7 => .int
  | 8 => .int
  | 9 => .array .int
  | 10 => .array .int
  | 11 => .array .int
  | 12 => .array .int
  | 13 => .array .int
  | 14 => .array .boolean
  | 15 => .int
  | _ => .int
abbrev wsX00 : List Cond := u_ws RX0 TX0 17
theorem nmX0 : ∀ a, a < 17 → ∀ b, b < 17 → a ≠ b → (TX0 a).2.1 ≠ (TX0 b).2.1 := by decide +kernel
theorem tyX0_ok : ∀ k, k < 17 → parseFieldDescriptor (TX0 k).2.2.1 = some (tyX0 k) := by decide +kernel
abbrev cX0_init : ByteArray := prog_2_method_1_code
def yX0_init : MethodName := ⟨RX0, "<init>", "()V"⟩
abbrev cX0_begin : ByteArray := prog_2_method_2_code
def yX0_begin : MethodName := ⟨RX0, "begin", "(LExitFlows$Plan;)V"⟩
abbrev cX0_copy : ByteArray := prog_2_method_3_code
def yX0_copy : MethodName := ⟨RX0, "copy", "(LExitFlows$Flow;)V"⟩
abbrev cX0_setWidth : ByteArray := prog_2_method_4_code
def yX0_setWidth : MethodName := ⟨RX0, "setWidth", "(II)V"⟩
abbrev cX0_setShut : ByteArray := prog_2_method_5_code
def yX0_setShut : MethodName := ⟨RX0, "setShut", "(II)V"⟩
abbrev cX0_lastUse : ByteArray := prog_2_method_6_code
def yX0_lastUse : MethodName := ⟨RX0, "lastUse", "(I)I"⟩
abbrev cX0_leadsAllBy : ByteArray := prog_2_method_7_code
def yX0_leadsAllBy : MethodName := ⟨RX0, "leadsAllBy", "(I)Z"⟩
abbrev cX0_leadBy : ByteArray := prog_2_method_8_code
def yX0_leadBy : MethodName := ⟨RX0, "leadBy", "(I)I"⟩
abbrev cX0_findWayOut : ByteArray := prog_2_method_9_code
def yX0_findWayOut : MethodName := ⟨RX0, "findWayOut", "(I)I"⟩
abbrev cX0_reachedRoomNotLed : ByteArray := prog_2_method_10_code
def yX0_reachedRoomNotLed : MethodName := ⟨RX0, "reachedRoomNotLed", "()I"⟩
abbrev cX0_reachByNotWaiting : ByteArray := prog_2_method_11_code
def yX0_reachByNotWaiting : MethodName := ⟨RX0, "reachByNotWaiting", "(II)Z"⟩
abbrev cX0_reachByEntering : ByteArray := prog_2_method_12_code
def yX0_reachByEntering : MethodName := ⟨RX0, "reachByEntering", "(I)Z"⟩
abbrev cX0_reachByTakingBack : ByteArray := prog_2_method_13_code
def yX0_reachByTakingBack : MethodName := ⟨RX0, "reachByTakingBack", "(II)Z"⟩
abbrev cX0_reach : ByteArray := prog_2_method_14_code
def yX0_reach : MethodName := ⟨RX0, "reach", "(III)V"⟩
abbrev cX0_traceWay : ByteArray := prog_2_method_15_code
def yX0_traceWay : MethodName := ⟨RX0, "traceWay", "(I)V"⟩
abbrev cX0_leadAlongWay : ByteArray := prog_2_method_16_code
def yX0_leadAlongWay : MethodName := ⟨RX0, "leadAlongWay", "(I)V"⟩
def RX1 : String := "ExitFlows$Pad"
def TX1 : u_T := fun k => match k with
  | 0 => ("ExitFlows$Pad", "signs", "[I", true)
  | _ => ("ExitFlows$Pad", "size", "I", false)
def tyX1 : Nat → FieldType := fun k => match k with
  | 0 => .array .int
  | _ => .int
abbrev wsX10 : List Cond := u_ws RX1 TX1 2
theorem nmX1 : ∀ a, a < 2 → ∀ b, b < 2 → a ≠ b → (TX1 a).2.1 ≠ (TX1 b).2.1 := by decide +kernel
theorem tyX1_ok : ∀ k, k < 2 → parseFieldDescriptor (TX1 k).2.2.1 = some (tyX1 k) := by decide +kernel
abbrev cX1_init : ByteArray := prog_3_method_1_code
def yX1_init : MethodName := ⟨RX1, "<init>", "()V"⟩
abbrev cX1_add : ByteArray := prog_3_method_2_code
def yX1_add : MethodName := ⟨RX1, "add", "(I)V"⟩
abbrev cX1_faultPlace : ByteArray := prog_3_method_3_code
def yX1_faultPlace : MethodName := ⟨RX1, "faultPlace", "()I"⟩
abbrev cX1_canStand : ByteArray := prog_3_method_4_code
def yX1_canStand : MethodName := ⟨RX1, "canStand", "(I)Z"⟩
abbrev cX1_moveInto : ByteArray := prog_3_method_5_code
def yX1_moveInto : MethodName := ⟨RX1, "moveInto", "(LExitFlows$Plan;)V"⟩
def RX2 : String := "ExitFlows$Plan"
def TX2 : u_T := fun k => match k with
  | 0 => ("ExitFlows$Plan", "people", "[I", true)
  | 1 => ("ExitFlows$Plan", "area", "[I", true)
  | 2 => ("ExitFlows$Plan", "safeRooms", "I", false)
  | 3 => ("ExitFlows$Plan", "passages", "I", false)
  | 4 => ("ExitFlows$Plan", "from", "[I", true)
  | 5 => ("ExitFlows$Plan", "to", "[I", true)
  | 6 => ("ExitFlows$Plan", "width", "[I", true)
  | 7 => ("ExitFlows$Plan", "length", "[I", true)
  | _ => ("ExitFlows$Plan", "shut", "[I", true)
def tyX2 : Nat → FieldType := fun k => match k with
  | 0 => .array .int
  | 1 => .array .int
  | 2 => .int
  | 3 => .int
  | 4 => .array .int
  | 5 => .array .int
  | 6 => .array .int
  | 7 => .array .int
  | _ => .array .int
abbrev wsX20 : List Cond := u_ws RX2 TX2 9
theorem nmX2 : ∀ a, a < 9 → ∀ b, b < 9 → a ≠ b → (TX2 a).2.1 ≠ (TX2 b).2.1 := by decide +kernel
theorem tyX2_ok : ∀ k, k < 9 → parseFieldDescriptor (TX2 k).2.2.1 = some (tyX2 k) := by decide +kernel
abbrev cX2_init : ByteArray := prog_4_method_1_code
def yX2_init : MethodName := ⟨RX2, "<init>", "()V"⟩
abbrev cX2_copy : ByteArray := prog_4_method_2_code
def yX2_copy : MethodName := ⟨RX2, "copy", "(LExitFlows$Plan;)V"⟩
abbrev cX2_addPassage : ByteArray := prog_4_method_3_code
def yX2_addPassage : MethodName := ⟨RX2, "addPassage", "(IIII)V"⟩
abbrev cX2_shutTickOrNone : ByteArray := prog_4_method_4_code
def yX2_shutTickOrNone : MethodName := ⟨RX2, "shutTickOrNone", "(I)I"⟩
abbrev cX2_passagesEverShut : ByteArray := prog_4_method_5_code
def yX2_passagesEverShut : MethodName := ⟨RX2, "passagesEverShut", "()I"⟩
abbrev cX2_anyShutsAt : ByteArray := prog_4_method_6_code
def yX2_anyShutsAt : MethodName := ⟨RX2, "anyShutsAt", "(I)Z"⟩
abbrev cX2_allPeople : ByteArray := prog_4_method_7_code
def yX2_allPeople : MethodName := ⟨RX2, "allPeople", "()I"⟩
abbrev cX2_crowd : ByteArray := prog_4_method_8_code
def yX2_crowd : MethodName := ⟨RX2, "crowd", "(I)F"⟩
abbrev cX2_pace : ByteArray := prog_4_method_9_code
def yX2_pace : MethodName := ⟨RX2, "pace", "(I)F"⟩
def RX3 : String := "ExitFlows$Stampede"
def TX3 : u_T := fun k => match k with
  | 0 => ("ExitFlows$Stampede", "here", "[I", true)
  | 1 => ("ExitFlows$Stampede", "arriving", "[I", true)
  | 2 => ("ExitFlows$Stampede", "distance", "[I", true)
  | _ => ("ExitFlows$Stampede", "firstPassage", "[I", true)
def tyX3 : Nat → FieldType := fun k => match k with
  | 0 => .array .int
  | 1 => .array .int
  | 2 => .array .int
  | _ => .array .int
abbrev wsX30 : List Cond := u_ws RX3 TX3 4
theorem nmX3 : ∀ a, a < 4 → ∀ b, b < 4 → a ≠ b → (TX3 a).2.1 ≠ (TX3 b).2.1 := by decide +kernel
theorem tyX3_ok : ∀ k, k < 4 → parseFieldDescriptor (TX3 k).2.2.1 = some (tyX3 k) := by decide +kernel
abbrev cX3_init : ByteArray := prog_5_method_1_code
def yX3_init : MethodName := ⟨RX3, "<init>", "()V"⟩
abbrev cX3_begin : ByteArray := prog_5_method_2_code
def yX3_begin : MethodName := ⟨RX3, "begin", "(LExitFlows$Plan;)V"⟩
abbrev cX3_arrive : ByteArray := prog_5_method_3_code
def yX3_arrive : MethodName := ⟨RX3, "arrive", "(I)V"⟩
abbrev cX3_peopleIn : ByteArray := prog_5_method_4_code
def yX3_peopleIn : MethodName := ⟨RX3, "peopleIn", "(I)I"⟩
abbrev cX3_leave : ByteArray := prog_5_method_5_code
def yX3_leave : MethodName := ⟨RX3, "leave", "(LExitFlows$Plan;I)V"⟩
abbrev cX3_findDistances : ByteArray := prog_5_method_6_code
def yX3_findDistances : MethodName := ⟨RX3, "findDistances", "(LExitFlows$Plan;I)V"⟩
abbrev cX3_distanceThrough : ByteArray := prog_5_method_7_code
def yX3_distanceThrough : MethodName := ⟨RX3, "distanceThrough", "(LExitFlows$Plan;II)I"⟩
abbrev cX3_findFirstPassages : ByteArray := prog_5_method_8_code
def yX3_findFirstPassages : MethodName := ⟨RX3, "findFirstPassages", "(LExitFlows$Plan;I)V"⟩
def RX4 : String := "ExitFlows"
def TX4 : u_T := fun k => match k with
  | 0 => ("ExitFlows", "plan", "LExitFlows$Plan;", true)
  | 1 => ("ExitFlows", "firstImage", "LExitFlows$Plan;", true)
  | 2 => ("ExitFlows", "secondImage", "LExitFlows$Plan;", true)
  | 3 => ("ExitFlows", "imagesKept", "I", false)
  | 4 => ("ExitFlows", "pad", "LExitFlows$Pad;", true)
  | 5 => ("ExitFlows", "flow", "LExitFlows$Flow;", true)
  | 6 => ("ExitFlows", "trial", "LExitFlows$Flow;", true)
  | _ => ("ExitFlows", "stampede", "LExitFlows$Stampede;", true)
def tyX4 : Nat → FieldType := fun k => match k with
  | 0 => .object "ExitFlows$Plan"
  | 1 => .object "ExitFlows$Plan"
  | 2 => .object "ExitFlows$Plan"
  | 3 => .int
  | 4 => .object "ExitFlows$Pad"
  | 5 => .object "ExitFlows$Flow"
  | 6 => .object "ExitFlows$Flow"
  | _ => .object "ExitFlows$Stampede"
abbrev wsX40 : List Cond := u_ws RX4 TX4 8
theorem nmX4 : ∀ a, a < 8 → ∀ b, b < 8 → a ≠ b → (TX4 a).2.1 ≠ (TX4 b).2.1 := by decide +kernel
theorem tyX4_ok : ∀ k, k < 8 → parseFieldDescriptor (TX4 k).2.2.1 = some (tyX4 k) := by decide +kernel
abbrev cX4_init : ByteArray := prog_1_method_1_code
def yX4_init : MethodName := ⟨RX4, "<init>", "()V"⟩
abbrev cX4_room : ByteArray := prog_1_method_2_code
def yX4_room : MethodName := ⟨RX4, "room", "(III)I"⟩
abbrev cX4_safe : ByteArray := prog_1_method_3_code
def yX4_safe : MethodName := ⟨RX4, "safe", "(II)I"⟩
abbrev cX4_passage : ByteArray := prog_1_method_4_code
def yX4_passage : MethodName := ⟨RX4, "passage", "(IIII)I"⟩
abbrev cX4_widen : ByteArray := prog_1_method_5_code
def yX4_widen : MethodName := ⟨RX4, "widen", "(II)I"⟩
abbrev cX4_shut : ByteArray := prog_1_method_6_code
def yX4_shut : MethodName := ⟨RX4, "shut", "(II)I"⟩
abbrev cX4_say : ByteArray := prog_1_method_7_code
def yX4_say : MethodName := ⟨RX4, "say", "(I)I"⟩
abbrev cX4_wipe : ByteArray := prog_1_method_8_code
def yX4_wipe : MethodName := ⟨RX4, "wipe", "()I"⟩
abbrev cX4_fault : ByteArray := prog_1_method_9_code
def yX4_fault : MethodName := ⟨RX4, "fault", "()I"⟩
abbrev cX4_read : ByteArray := prog_1_method_10_code
def yX4_read : MethodName := ⟨RX4, "read", "()I"⟩
abbrev cX4_told : ByteArray := prog_1_method_11_code
def yX4_told : MethodName := ⟨RX4, "told", "(II)I"⟩
abbrev cX4_of : ByteArray := prog_1_method_12_code
def yX4_of : MethodName := ⟨RX4, "of", "(II)I"⟩
abbrev cX4_out : ByteArray := prog_1_method_13_code
def yX4_out : MethodName := ⟨RX4, "out", "(I)I"⟩
abbrev cX4_last : ByteArray := prog_1_method_14_code
def yX4_last : MethodName := ⟨RX4, "last", "()I"⟩
abbrev cX4_helps : ByteArray := prog_1_method_15_code
def yX4_helps : MethodName := ⟨RX4, "helps", "()I"⟩
abbrev cX4_needed : ByteArray := prog_1_method_16_code
def yX4_needed : MethodName := ⟨RX4, "needed", "()I"⟩
abbrev cX4_door : ByteArray := prog_1_method_17_code
def yX4_door : MethodName := ⟨RX4, "door", "(I)I"⟩
abbrev cX4_rush : ByteArray := prog_1_method_18_code
def yX4_rush : MethodName := ⟨RX4, "rush", "(I)I"⟩
abbrev cX4_rushed : ByteArray := prog_1_method_19_code
def yX4_rushed : MethodName := ⟨RX4, "rushed", "()I"⟩
abbrev cX4_image : ByteArray := prog_1_method_20_code
def yX4_image : MethodName := ⟨RX4, "image", "(I)I"⟩
abbrev cX4_restore : ByteArray := prog_1_method_21_code
def yX4_restore : MethodName := ⟨RX4, "restore", "(I)I"⟩
abbrev cX4_count : ByteArray := prog_1_method_22_code
def yX4_count : MethodName := ⟨RX4, "count", "(I)I"⟩
abbrev cX4_isWithin : ByteArray := prog_1_method_23_code
def yX4_isWithin : MethodName := ⟨RX4, "isWithin", "(III)Z"⟩
abbrev cX4_isRoom : ByteArray := prog_1_method_24_code
def yX4_isRoom : MethodName := ⟨RX4, "isRoom", "(I)Z"⟩
abbrev cX4_isIn : ByteArray := prog_1_method_25_code
def yX4_isIn : MethodName := ⟨RX4, "isIn", "(II)Z"⟩
abbrev cX4_isPassage : ByteArray := prog_1_method_26_code
def yX4_isPassage : MethodName := ⟨RX4, "isPassage", "(I)Z"⟩
abbrev cX4_imageAt : ByteArray := prog_1_method_27_code
def yX4_imageAt : MethodName := ⟨RX4, "imageAt", "(I)LExitFlows$Plan;"⟩
abbrev cX4_leadAll : ByteArray := prog_1_method_28_code
def yX4_leadAll : MethodName := ⟨RX4, "leadAll", "()I"⟩
abbrev cX4_canDoShut : ByteArray := prog_1_method_29_code
def yX4_canDoShut : MethodName := ⟨RX4, "canDoShut", "(III)Z"⟩
abbrev cX4_bitsOf : ByteArray := prog_1_method_30_code
def yX4_bitsOf : MethodName := ⟨RX4, "bitsOf", "(F)I"⟩
def RX5 : String := "ExitFlowsModel"
def TX5 : u_T := fun k => match k with
  | 0 => ("ExitFlowsModel", "state", "[I", true)
  | 1 => ("ExitFlowsModel", "images", "[I", true)
  | 2 => ("ExitFlowsModel", "isKept", "[Z", true)
  | 3 => ("ExitFlowsModel", "pad", "[I", true)
  | 4 => ("ExitFlowsModel", "said", "I", false)
  | 5 => ("ExitFlowsModel", "goes", "[I", true)
  | 6 => ("ExitFlowsModel", "waits", "[I", true)
  | 7 => ("ExitFlowsModel", "still", "[I", true)
  | 8 => ("ExitFlowsModel", "cameFrom", "[I", true)
  | 9 => ("ExitFlowsModel", "cameBy", "[I", true)
  | 10 => ("ExitFlowsModel", "wave", "[I", true)
  | 11 => ("ExitFlowsModel", "waved", "I", false)
  | 12 => ("ExitFlowsModel", "goal", "I", false)
  | 13 => ("ExitFlowsModel", "goalBy", "I", false)
  | 14 => ("ExitFlowsModel", "until", "I", false)
  | 15 => ("ExitFlowsModel", "here", "[I", true)
  | 16 => ("ExitFlowsModel", "coming", "[I", true)
  | _ => ("ExitFlowsModel", "far", "[I", true)
def tyX5 : Nat → FieldType := fun k => match k with
  | 0 => .array .int
  | 1 => .array .int
  | 2 => .array .boolean
  | 3 => .array .int
  | 4 => .int
  | 5 => .array .int
  | 6 => .array .int
  | 7 => .array .int
  | 8 => .array .int
  | 9 => .array .int
  | 10 => .array .int
  | 11 => .int
  | 12 => .int
  | 13 => .int
  | 14 => .int
  | 15 => .array .int
  | 16 => .array .int
  | _ => .array .int
abbrev wsX50 : List Cond := u_ws RX5 TX5 18
theorem nmX5 : ∀ a, a < 18 → ∀ b, b < 18 → a ≠ b → (TX5 a).2.1 ≠ (TX5 b).2.1 := by decide +kernel
theorem tyX5_ok : ∀ k, k < 18 → parseFieldDescriptor (TX5 k).2.2.1 = some (tyX5 k) := by decide +kernel
abbrev cX5_init : ByteArray := prog_7_method_1_code
def yX5_init : MethodName := ⟨RX5, "<init>", "()V"⟩
abbrev cX5_in : ByteArray := prog_7_method_2_code
def yX5_in : MethodName := ⟨RX5, "in", "(III)Z"⟩
abbrev cX5_isRoom : ByteArray := prog_7_method_3_code
def yX5_isRoom : MethodName := ⟨RX5, "isRoom", "(I)Z"⟩
abbrev cX5_many : ByteArray := prog_7_method_4_code
def yX5_many : MethodName := ⟨RX5, "many", "()I"⟩
abbrev cX5_isPassage : ByteArray := prog_7_method_5_code
def yX5_isPassage : MethodName := ⟨RX5, "isPassage", "(I)Z"⟩
abbrev cX5_isSafe : ByteArray := prog_7_method_6_code
def yX5_isSafe : MethodName := ⟨RX5, "isSafe", "(I)Z"⟩
abbrev cX5_people : ByteArray := prog_7_method_7_code
def yX5_people : MethodName := ⟨RX5, "people", "()I"⟩
abbrev cX5_room : ByteArray := prog_7_method_8_code
def yX5_room : MethodName := ⟨RX5, "room", "(III)I"⟩
abbrev cX5_safe : ByteArray := prog_7_method_9_code
def yX5_safe : MethodName := ⟨RX5, "safe", "(II)I"⟩
abbrev cX5_add : ByteArray := prog_7_method_10_code
def yX5_add : MethodName := ⟨RX5, "add", "(IIII)I"⟩
abbrev cX5_passage : ByteArray := prog_7_method_11_code
def yX5_passage : MethodName := ⟨RX5, "passage", "(IIII)I"⟩
abbrev cX5_widen : ByteArray := prog_7_method_12_code
def yX5_widen : MethodName := ⟨RX5, "widen", "(II)I"⟩
abbrev cX5_shutFrom : ByteArray := prog_7_method_13_code
def yX5_shutFrom : MethodName := ⟨RX5, "shutFrom", "(I)I"⟩
abbrev cX5_shut : ByteArray := prog_7_method_14_code
def yX5_shut : MethodName := ⟨RX5, "shut", "(II)I"⟩
abbrev cX5_say : ByteArray := prog_7_method_15_code
def yX5_say : MethodName := ⟨RX5, "say", "(I)I"⟩
abbrev cX5_wipe : ByteArray := prog_7_method_16_code
def yX5_wipe : MethodName := ⟨RX5, "wipe", "()I"⟩
abbrev cX5_canStand : ByteArray := prog_7_method_17_code
def yX5_canStand : MethodName := ⟨RX5, "canStand", "(I)Z"⟩
abbrev cX5_fault : ByteArray := prog_7_method_18_code
def yX5_fault : MethodName := ⟨RX5, "fault", "()I"⟩
abbrev cX5_read : ByteArray := prog_7_method_19_code
def yX5_read : MethodName := ⟨RX5, "read", "()I"⟩
abbrev cX5_crowd : ByteArray := prog_7_method_20_code
def yX5_crowd : MethodName := ⟨RX5, "crowd", "(I)F"⟩
abbrev cX5_pace : ByteArray := prog_7_method_21_code
def yX5_pace : MethodName := ⟨RX5, "pace", "(I)F"⟩
abbrev cX5_told : ByteArray := prog_7_method_22_code
def yX5_told : MethodName := ⟨RX5, "told", "(II)I"⟩
abbrev cX5_of : ByteArray := prog_7_method_23_code
def yX5_of : MethodName := ⟨RX5, "of", "(II)I"⟩
abbrev cX5_clearNet : ByteArray := prog_7_method_24_code
def yX5_clearNet : MethodName := ⟨RX5, "clearNet", "(I)V"⟩
abbrev cX5_come : ByteArray := prog_7_method_25_code
def yX5_come : MethodName := ⟨RX5, "come", "(III)V"⟩
abbrev cX5_beginWave : ByteArray := prog_7_method_26_code
def yX5_beginWave : MethodName := ⟨RX5, "beginWave", "()V"⟩
abbrev cX5_canGo : ByteArray := prog_7_method_27_code
def yX5_canGo : MethodName := ⟨RX5, "canGo", "(II)Z"⟩
abbrev cX5_byPassage : ByteArray := prog_7_method_28_code
def yX5_byPassage : MethodName := ⟨RX5, "byPassage", "(II)V"⟩
abbrev cX5_findWay : ByteArray := prog_7_method_29_code
def yX5_findWay : MethodName := ⟨RX5, "findWay", "()Z"⟩
abbrev cX5_roomIn : ByteArray := prog_7_method_30_code
def yX5_roomIn : MethodName := ⟨RX5, "roomIn", "(I)I"⟩
abbrev cX5_fill : ByteArray := prog_7_method_31_code
def yX5_fill : MethodName := ⟨RX5, "fill", "(II)V"⟩
abbrev cX5_fillWay : ByteArray := prog_7_method_32_code
def yX5_fillWay : MethodName := ⟨RX5, "fillWay", "()I"⟩
abbrev cX5_outBy : ByteArray := prog_7_method_33_code
def yX5_outBy : MethodName := ⟨RX5, "outBy", "(I)I"⟩
abbrev cX5_out : ByteArray := prog_7_method_34_code
def yX5_out : MethodName := ⟨RX5, "out", "(I)I"⟩
abbrev cX5_lastOne : ByteArray := prog_7_method_35_code
def yX5_lastOne : MethodName := ⟨RX5, "lastOne", "()I"⟩
abbrev cX5_last : ByteArray := prog_7_method_36_code
def yX5_last : MethodName := ⟨RX5, "last", "()I"⟩
abbrev cX5_helps : ByteArray := prog_7_method_37_code
def yX5_helps : MethodName := ⟨RX5, "helps", "()I"⟩
abbrev cX5_lastShut : ByteArray := prog_7_method_38_code
def yX5_lastShut : MethodName := ⟨RX5, "lastShut", "(II)I"⟩
abbrev cX5_needed : ByteArray := prog_7_method_39_code
def yX5_needed : MethodName := ⟨RX5, "needed", "()I"⟩
abbrev cX5_door : ByteArray := prog_7_method_40_code
def yX5_door : MethodName := ⟨RX5, "door", "(I)I"⟩
abbrev cX5_isOpen : ByteArray := prog_7_method_41_code
def yX5_isOpen : MethodName := ⟨RX5, "isOpen", "(II)Z"⟩
abbrev cX5_layFar : ByteArray := prog_7_method_42_code
def yX5_layFar : MethodName := ⟨RX5, "layFar", "(I)V"⟩
abbrev cX5_rushBy : ByteArray := prog_7_method_43_code
def yX5_rushBy : MethodName := ⟨RX5, "rushBy", "(II)I"⟩
abbrev cX5_rushTick : ByteArray := prog_7_method_44_code
def yX5_rushTick : MethodName := ⟨RX5, "rushTick", "(I)V"⟩
abbrev cX5_safeHere : ByteArray := prog_7_method_45_code
def yX5_safeHere : MethodName := ⟨RX5, "safeHere", "()I"⟩
abbrev cX5_beginRush : ByteArray := prog_7_method_46_code
def yX5_beginRush : MethodName := ⟨RX5, "beginRush", "()V"⟩
abbrev cX5_rush : ByteArray := prog_7_method_47_code
def yX5_rush : MethodName := ⟨RX5, "rush", "(I)I"⟩
abbrev cX5_rushed : ByteArray := prog_7_method_48_code
def yX5_rushed : MethodName := ⟨RX5, "rushed", "()I"⟩
abbrev cX5_image : ByteArray := prog_7_method_49_code
def yX5_image : MethodName := ⟨RX5, "image", "(I)I"⟩
abbrev cX5_restore : ByteArray := prog_7_method_50_code
def yX5_restore : MethodName := ⟨RX5, "restore", "(I)I"⟩
abbrev cX5_shutOnes : ByteArray := prog_7_method_51_code
def yX5_shutOnes : MethodName := ⟨RX5, "shutOnes", "()I"⟩
abbrev cX5_safeSet : ByteArray := prog_7_method_52_code
def yX5_safeSet : MethodName := ⟨RX5, "safeSet", "()I"⟩
abbrev cX5_count : ByteArray := prog_7_method_53_code
def yX5_count : MethodName := ⟨RX5, "count", "(I)I"⟩
def RJx145de : String := "java/io/Serializable"
def TJx145de : u_T := fun k => match k with
  | _ => ("", "", "", false)
def tyJx145de : Nat → FieldType := fun k => match k with
  | _ => .int
abbrev wsJx145de0 : List Cond := u_ws RJx145de TJx145de 0
theorem nmJx145de : ∀ a, a < 0 → ∀ b, b < 0 → a ≠ b → (TJx145de a).2.1 ≠ (TJx145de b).2.1 := by decide +kernel
theorem tyJx145de_ok : ∀ k, k < 0 → parseFieldDescriptor (TJx145de k).2.2.1 = some (tyJx145de k) := by decide +kernel
def RJxb160c : String := "java/lang/Comparable"
def TJxb160c : u_T := fun k => match k with
  | _ => ("", "", "", false)
def tyJxb160c : Nat → FieldType := fun k => match k with
  | _ => .int
abbrev wsJxb160c0 : List Cond := u_ws RJxb160c TJxb160c 0
theorem nmJxb160c : ∀ a, a < 0 → ∀ b, b < 0 → a ≠ b → (TJxb160c a).2.1 ≠ (TJxb160c b).2.1 := by decide +kernel
theorem tyJxb160c_ok : ∀ k, k < 0 → parseFieldDescriptor (TJxb160c k).2.2.1 = some (tyJxb160c k) := by decide +kernel
def RJxf58ca : String := "java/lang/Float"
def TJxf58ca : u_T := fun k => match k with
  | _ => ("", "", "", false)
def tyJxf58ca : Nat → FieldType := fun k => match k with
  | _ => .int
abbrev wsJxf58ca0 : List Cond := u_ws RJxf58ca TJxf58ca 0
theorem nmJxf58ca : ∀ a, a < 0 → ∀ b, b < 0 → a ≠ b → (TJxf58ca a).2.1 ≠ (TJxf58ca b).2.1 := by decide +kernel
theorem tyJxf58ca_ok : ∀ k, k < 0 → parseFieldDescriptor (TJxf58ca k).2.2.1 = some (tyJxf58ca k) := by decide +kernel
abbrev cJxf58ca_isNaN_12338 : ByteArray := prog_8_method_6_code
def yJxf58ca_isNaN_12338 : MethodName := ⟨RJxf58ca, "isNaN", "(F)Z"⟩
abbrev cJxf58ca_floatToIntBits_5c35a : ByteArray := prog_8_method_24_code
def yJxf58ca_floatToIntBits_5c35a : MethodName := ⟨RJxf58ca, "floatToIntBits", "(F)I"⟩
def RJ6 : String := "java/lang/Integer"
def TJ6 : u_T := fun k => match k with
  | _ => ("", "", "", false)
def tyJ6 : Nat → FieldType := fun k => match k with
  | _ => .int
abbrev wsJ60 : List Cond := u_ws RJ6 TJ6 0
theorem nmJ6 : ∀ a, a < 0 → ∀ b, b < 0 → a ≠ b → (TJ6 a).2.1 ≠ (TJ6 b).2.1 := by decide +kernel
theorem tyJ6_ok : ∀ k, k < 0 → parseFieldDescriptor (TJ6 k).2.2.1 = some (tyJ6 k) := by decide +kernel
abbrev cJ6_bitCount_0f7a4 : ByteArray := prog_9_method_49_code
def yJ6_bitCount_0f7a4 : MethodName := ⟨RJ6, "bitCount", "(I)I"⟩
def RJ9 : String := "java/lang/Math"
def TJ9 : u_T := fun k => match k with
  | _ => ("", "", "", false)
def tyJ9 : Nat → FieldType := fun k => match k with
  | _ => .int
abbrev wsJ90 : List Cond := u_ws RJ9 TJ9 0
theorem nmJ9 : ∀ a, a < 0 → ∀ b, b < 0 → a ≠ b → (TJ9 a).2.1 ≠ (TJ9 b).2.1 := by decide +kernel
theorem tyJ9_ok : ∀ k, k < 0 → parseFieldDescriptor (TJ9 k).2.2.1 = some (tyJ9 k) := by decide +kernel
abbrev cJ9_min_7cf53 : ByteArray := prog_10_method_69_code
def yJ9_min_7cf53 : MethodName := ⟨RJ9, "min", "(II)I"⟩
def RJxd2413 : String := "java/lang/Number"
def TJxd2413 : u_T := fun k => match k with
  | _ => ("", "", "", false)
def tyJxd2413 : Nat → FieldType := fun k => match k with
  | _ => .int
abbrev wsJxd24130 : List Cond := u_ws RJxd2413 TJxd2413 0
theorem nmJxd2413 : ∀ a, a < 0 → ∀ b, b < 0 → a ≠ b → (TJxd2413 a).2.1 ≠ (TJxd2413 b).2.1 := by decide +kernel
theorem tyJxd2413_ok : ∀ k, k < 0 → parseFieldDescriptor (TJxd2413 k).2.2.1 = some (tyJxd2413 k) := by decide +kernel
def RJ10 : String := "java/lang/System"
def TJ10 : u_T := fun k => match k with
  | _ => ("", "", "", false)
def tyJ10 : Nat → FieldType := fun k => match k with
  | _ => .int
abbrev wsJ100 : List Cond := u_ws RJ10 TJ10 0
theorem nmJ10 : ∀ a, a < 0 → ∀ b, b < 0 → a ≠ b → (TJ10 a).2.1 ≠ (TJ10 b).2.1 := by decide +kernel
theorem tyJ10_ok : ∀ k, k < 0 → parseFieldDescriptor (TJ10 k).2.2.1 = some (tyJ10 k) := by decide +kernel
def RJxfd54e : String := "java/lang/constant/Constable"
def TJxfd54e : u_T := fun k => match k with
  | _ => ("", "", "", false)
def tyJxfd54e : Nat → FieldType := fun k => match k with
  | _ => .int
abbrev wsJxfd54e0 : List Cond := u_ws RJxfd54e TJxfd54e 0
theorem nmJxfd54e : ∀ a, a < 0 → ∀ b, b < 0 → a ≠ b → (TJxfd54e a).2.1 ≠ (TJxfd54e b).2.1 := by decide +kernel
theorem tyJxfd54e_ok : ∀ k, k < 0 → parseFieldDescriptor (TJxfd54e k).2.2.1 = some (tyJxfd54e k) := by decide +kernel
def RJx3cf43 : String := "java/lang/constant/ConstantDesc"
def TJx3cf43 : u_T := fun k => match k with
  | _ => ("", "", "", false)
def tyJx3cf43 : Nat → FieldType := fun k => match k with
  | _ => .int
abbrev wsJx3cf430 : List Cond := u_ws RJx3cf43 TJx3cf43 0
theorem nmJx3cf43 : ∀ a, a < 0 → ∀ b, b < 0 → a ≠ b → (TJx3cf43 a).2.1 ≠ (TJx3cf43 b).2.1 := by decide +kernel
theorem tyJx3cf43_ok : ∀ k, k < 0 → parseFieldDescriptor (TJx3cf43 k).2.2.1 = some (tyJx3cf43 k) := by decide +kernel
def RJ7 : String := "java/util/Arrays"
def TJ7 : u_T := fun k => match k with
  | _ => ("", "", "", false)
def tyJ7 : Nat → FieldType := fun k => match k with
  | _ => .int
abbrev wsJ70 : List Cond := u_ws RJ7 TJ7 0
theorem nmJ7 : ∀ a, a < 0 → ∀ b, b < 0 → a ≠ b → (TJ7 a).2.1 ≠ (TJ7 b).2.1 := by decide +kernel
theorem tyJ7_ok : ∀ k, k < 0 → parseFieldDescriptor (TJ7 k).2.2.1 = some (tyJ7 k) := by decide +kernel
abbrev cJ7_fill_53178 : ByteArray := prog_13_method_103_code
def yJ7_fill_53178 : MethodName := ⟨RJ7, "fill", "([II)V"⟩
def RL : String := "ExitFlowsLaw"
abbrev cL_law : ByteArray := code
def yL_law : MethodName := ⟨RL, "law", "([I)Z"⟩
abbrev vwCl : List vw_C := [(RX0, TX0, 17), (RX1, TX1, 2), (RX2, TX2, 9), (RX3, TX3, 4), (RX4, TX4, 8), (RX5, TX5, 18)]
