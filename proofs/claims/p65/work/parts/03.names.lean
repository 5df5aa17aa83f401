def RX0 : String := "NoodleCanal$1"
def TX0 : u_T := fun k => match k with
  | _ => ("", "", "", false)
def tyX0 : Nat → FieldType := fun k => match k with
  | _ => .int
abbrev wsX00 : List Cond := u_ws RX0 TX0 0
theorem nmX0 : ∀ a, a < 0 → ∀ b, b < 0 → a ≠ b → (TX0 a).2.1 ≠ (TX0 b).2.1 := by decide +kernel
theorem tyX0_ok : ∀ k, k < 0 → parseFieldDescriptor (TX0 k).2.2.1 = some (tyX0 k) := by decide +kernel
def RX1 : String := "NoodleCanal$Barge"
def TX1 : u_T := fun k => match k with
  | 0 => ("NoodleCanal$Barge", "place", "I", false)
  | 1 => ("NoodleCanal$Barge", "target", "I", false)
  | 2 => ("NoodleCanal$Barge", "height", "I", false)
  | 3 => ("NoodleCanal$Barge", "timeLeft", "I", false)
  | 4 => ("NoodleCanal$Barge", "flour", "I", false)
  | 5 => ("NoodleCanal$Barge", "clean", "I", false)
  | 6 => ("NoodleCanal$Barge", "dirty", "I", false)
  | 7 => ("NoodleCanal$Barge", "queue", "[I", true)
  | _ => ("NoodleCanal$Barge", "queued", "I", false)
def tyX1 : Nat → FieldType := fun k => match k with
  | 0 => .int
  | 1 => .int
  | 2 => .int
  | 3 => .int
  | 4 => .int
  | 5 => .int
  | 6 => .int
  | 7 => .array .int
  | _ => .int
abbrev wsX10 : List Cond := u_ws RX1 TX1 9
theorem nmX1 : ∀ a, a < 9 → ∀ b, b < 9 → a ≠ b → (TX1 a).2.1 ≠ (TX1 b).2.1 := by decide +kernel
theorem tyX1_ok : ∀ k, k < 9 → parseFieldDescriptor (TX1 k).2.2.1 = some (tyX1 k) := by decide +kernel
abbrev cX1_init : ByteArray := prog_3_method_1_code
def yX1_init : MethodName := ⟨RX1, "<init>", "()V"⟩
abbrev cX1_reset : ByteArray := prog_3_method_2_code
def yX1_reset : MethodName := ⟨RX1, "reset", "(IIII)V"⟩
abbrev cX1_copyFrom : ByteArray := prog_3_method_3_code
def yX1_copyFrom : MethodName := ⟨RX1, "copyFrom", "(LNoodleCanal$Barge;)V"⟩
abbrev cX1_isInLock : ByteArray := prog_3_method_4_code
def yX1_isInLock : MethodName := ⟨RX1, "isInLock", "()Z"⟩
abbrev cX1_isUnderWay : ByteArray := prog_3_method_5_code
def yX1_isUnderWay : MethodName := ⟨RX1, "isUnderWay", "()Z"⟩
abbrev cX1_queuedAt : ByteArray := prog_3_method_6_code
def yX1_queuedAt : MethodName := ⟨RX1, "queuedAt", "(I)I"⟩
abbrev cX1_enqueue : ByteArray := prog_3_method_7_code
def yX1_enqueue : MethodName := ⟨RX1, "enqueue", "(I)V"⟩
abbrev cX1_unqueue : ByteArray := prog_3_method_8_code
def yX1_unqueue : MethodName := ⟨RX1, "unqueue", "(I)V"⟩
def RX2 : String := "NoodleCanal$Canal"
def TX2 : u_T := fun k => match k with
  | 0 => ("NoodleCanal$Canal", "placeCount", "I", false)
  | 1 => ("NoodleCanal$Canal", "sections", "[LNoodleCanal$Section;", true)
  | 2 => ("NoodleCanal$Canal", "used", "[I", true)
  | 3 => ("NoodleCanal$Canal", "eatenBowlsAt", "[I", true)
  | 4 => ("NoodleCanal$Canal", "bargeCount", "I", false)
  | 5 => ("NoodleCanal$Canal", "barges", "[LNoodleCanal$Barge;", true)
  | 6 => ("NoodleCanal$Canal", "orderCount", "I", false)
  | 7 => ("NoodleCanal$Canal", "orders", "[LNoodleCanal$Order;", true)
  | 8 => ("NoodleCanal$Canal", "minute", "I", false)
  | 9 => ("NoodleCanal$Canal", "coins", "I", false)
  | 10 => ("NoodleCanal$Canal", "loadedPairs", "I", false)
  | 11 => ("NoodleCanal$Canal", "eatenBowls", "I", false)
  | 12 => ("NoodleCanal$Canal", "eaten", "I", false)
  | _ => ("NoodleCanal$Canal", "expired", "I", false)
def tyX2 : Nat → FieldType := fun k => match k with
  | 0 => .int
  | 1 => .array (.object "NoodleCanal$Section")
  | 2 => .array .int
  | 3 => .array .int
  | 4 => .int
  | 5 => .array (.object "NoodleCanal$Barge")
  | 6 => .int
  | 7 => .array (.object "NoodleCanal$Order")
  | 8 => .int
  | 9 => .int
  | 10 => .int
  | 11 => .int
  | 12 => .int
  | _ => .int
abbrev wsX20 : List Cond := u_ws RX2 TX2 14
theorem nmX2 : ∀ a, a < 14 → ∀ b, b < 14 → a ≠ b → (TX2 a).2.1 ≠ (TX2 b).2.1 := by decide +kernel
theorem tyX2_ok : ∀ k, k < 14 → parseFieldDescriptor (TX2 k).2.2.1 = some (tyX2 k) := by decide +kernel
abbrev cX2_init : ByteArray := prog_4_method_1_code
def yX2_init : MethodName := ⟨RX2, "<init>", "()V"⟩
abbrev cX2_clear : ByteArray := prog_4_method_2_code
def yX2_clear : MethodName := ⟨RX2, "clear", "(I)V"⟩
abbrev cX2_copyFrom : ByteArray := prog_4_method_3_code
def yX2_copyFrom : MethodName := ⟨RX2, "copyFrom", "(LNoodleCanal$Canal;)V"⟩
abbrev cX2_hasPlace : ByteArray := prog_4_method_4_code
def yX2_hasPlace : MethodName := ⟨RX2, "hasPlace", "(I)Z"⟩
abbrev cX2_hasSection : ByteArray := prog_4_method_5_code
def yX2_hasSection : MethodName := ⟨RX2, "hasSection", "(I)Z"⟩
abbrev cX2_hasBarge : ByteArray := prog_4_method_6_code
def yX2_hasBarge : MethodName := ⟨RX2, "hasBarge", "(I)Z"⟩
abbrev cX2_hasOrder : ByteArray := prog_4_method_7_code
def yX2_hasOrder : MethodName := ⟨RX2, "hasOrder", "(I)Z"⟩
abbrev cX2_addBarge : ByteArray := prog_4_method_8_code
def yX2_addBarge : MethodName := ⟨RX2, "addBarge", "(IIII)V"⟩
abbrev cX2_canAddOrder : ByteArray := prog_4_method_9_code
def yX2_canAddOrder : MethodName := ⟨RX2, "canAddOrder", "(I)Z"⟩
abbrev cX2_addOrder : ByteArray := prog_4_method_10_code
def yX2_addOrder : MethodName := ⟨RX2, "addOrder", "(IIII)V"⟩
abbrev cX2_countBargesAt : ByteArray := prog_4_method_11_code
def yX2_countBargesAt : MethodName := ⟨RX2, "countBargesAt", "(I)I"⟩
abbrev cX2_countOrdersAt : ByteArray := prog_4_method_12_code
def yX2_countOrdersAt : MethodName := ⟨RX2, "countOrdersAt", "(I)I"⟩
abbrev cX2_countHeldBy : ByteArray := prog_4_method_13_code
def yX2_countHeldBy : MethodName := ⟨RX2, "countHeldBy", "(I)I"⟩
abbrev cX2_bowlsNotBegun : ByteArray := prog_4_method_14_code
def yX2_bowlsNotBegun : MethodName := ⟨RX2, "bowlsNotBegun", "(LNoodleCanal$Barge;)I"⟩
abbrev cX2_firstOpenByDeadline : ByteArray := prog_4_method_15_code
def yX2_firstOpenByDeadline : MethodName := ⟨RX2, "firstOpenByDeadline", "()I"⟩
abbrev cX2_sumOfCleanPairs : ByteArray := prog_4_method_16_code
def yX2_sumOfCleanPairs : MethodName := ⟨RX2, "sumOfCleanPairs", "()I"⟩
abbrev cX2_pairsGap : ByteArray := prog_4_method_17_code
def yX2_pairsGap : MethodName := ⟨RX2, "pairsGap", "()I"⟩
abbrev cX2_bowlsGap : ByteArray := prog_4_method_18_code
def yX2_bowlsGap : MethodName := ⟨RX2, "bowlsGap", "()I"⟩
abbrev cX2_wasEaten : ByteArray := prog_4_method_19_code
def yX2_wasEaten : MethodName := ⟨RX2, "wasEaten", "(I)Z"⟩
abbrev cX2_isSailing : ByteArray := prog_4_method_20_code
def yX2_isSailing : MethodName := ⟨RX2, "isSailing", "(I)Z"⟩
abbrev cX2_obstacleFor : ByteArray := prog_4_method_21_code
def yX2_obstacleFor : MethodName := ⟨RX2, "obstacleFor", "(II)I"⟩
abbrev cX2_fitsUnderBridges : ByteArray := prog_4_method_22_code
def yX2_fitsUnderBridges : MethodName := ⟨RX2, "fitsUnderBridges", "(LNoodleCanal$Barge;I)Z"⟩
abbrev cX2_timeBetween : ByteArray := prog_4_method_23_code
def yX2_timeBetween : MethodName := ⟨RX2, "timeBetween", "(II)I"⟩
abbrev cX2_bargeNearestTo : ByteArray := prog_4_method_24_code
def yX2_bargeNearestTo : MethodName := ⟨RX2, "bargeNearestTo", "(I)I"⟩
abbrev cX2_canSail : ByteArray := prog_4_method_25_code
def yX2_canSail : MethodName := ⟨RX2, "canSail", "(II)Z"⟩
abbrev cX2_setTarget : ByteArray := prog_4_method_26_code
def yX2_setTarget : MethodName := ⟨RX2, "setTarget", "(II)V"⟩
abbrev cX2_canGive : ByteArray := prog_4_method_27_code
def yX2_canGive : MethodName := ⟨RX2, "canGive", "(II)Z"⟩
abbrev cX2_give : ByteArray := prog_4_method_28_code
def yX2_give : MethodName := ⟨RX2, "give", "(II)V"⟩
abbrev cX2_canReopen : ByteArray := prog_4_method_29_code
def yX2_canReopen : MethodName := ⟨RX2, "canReopen", "(I)Z"⟩
abbrev cX2_reopen : ByteArray := prog_4_method_30_code
def yX2_reopen : MethodName := ⟨RX2, "reopen", "(I)V"⟩
abbrev cX2_removeFromQueue : ByteArray := prog_4_method_31_code
def yX2_removeFromQueue : MethodName := ⟨RX2, "removeFromQueue", "(I)V"⟩
abbrev cX2_isInHarbor : ByteArray := prog_4_method_32_code
def yX2_isInHarbor : MethodName := ⟨RX2, "isInHarbor", "(I)Z"⟩
abbrev cX2_canLoadFlour : ByteArray := prog_4_method_33_code
def yX2_canLoadFlour : MethodName := ⟨RX2, "canLoadFlour", "(II)Z"⟩
abbrev cX2_loadFlour : ByteArray := prog_4_method_34_code
def yX2_loadFlour : MethodName := ⟨RX2, "loadFlour", "(II)V"⟩
abbrev cX2_canGather : ByteArray := prog_4_method_35_code
def yX2_canGather : MethodName := ⟨RX2, "canGather", "(I)Z"⟩
abbrev cX2_gather : ByteArray := prog_4_method_36_code
def yX2_gather : MethodName := ⟨RX2, "gather", "(I)V"⟩
abbrev cX2_clean : ByteArray := prog_4_method_37_code
def yX2_clean : MethodName := ⟨RX2, "clean", "(I)V"⟩
abbrev cX2_canPass : ByteArray := prog_4_method_38_code
def yX2_canPass : MethodName := ⟨RX2, "canPass", "(I)Z"⟩
abbrev cX2_passAtMost : ByteArray := prog_4_method_39_code
def yX2_passAtMost : MethodName := ⟨RX2, "passAtMost", "(I)V"⟩
abbrev cX2_moveBarges : ByteArray := prog_4_method_40_code
def yX2_moveBarges : MethodName := ⟨RX2, "moveBarges", "()V"⟩
abbrev cX2_move : ByteArray := prog_4_method_41_code
def yX2_move : MethodName := ⟨RX2, "move", "(ILNoodleCanal$Barge;)V"⟩
abbrev cX2_pullNoodles : ByteArray := prog_4_method_42_code
def yX2_pullNoodles : MethodName := ⟨RX2, "pullNoodles", "()V"⟩
abbrev cX2_pull : ByteArray := prog_4_method_43_code
def yX2_pull : MethodName := ⟨RX2, "pull", "(LNoodleCanal$Barge;LNoodleCanal$Order;I)V"⟩
abbrev cX2_serveOrders : ByteArray := prog_4_method_44_code
def yX2_serveOrders : MethodName := ⟨RX2, "serveOrders", "()V"⟩
abbrev cX2_serve : ByteArray := prog_4_method_45_code
def yX2_serve : MethodName := ⟨RX2, "serve", "(LNoodleCanal$Barge;LNoodleCanal$Order;)V"⟩
abbrev cX2_expireOrders : ByteArray := prog_4_method_46_code
def yX2_expireOrders : MethodName := ⟨RX2, "expireOrders", "()V"⟩
abbrev cX2_signOfPlace : ByteArray := prog_4_method_47_code
def yX2_signOfPlace : MethodName := ⟨RX2, "signOfPlace", "(I)C"⟩
abbrev cX2_signOfSection : ByteArray := prog_4_method_48_code
def yX2_signOfSection : MethodName := ⟨RX2, "signOfSection", "(I)C"⟩
def RX3 : String := "NoodleCanal$CanalParser"
def TX3 : u_T := fun k => match k with
  | _ => ("", "", "", false)
def tyX3 : Nat → FieldType := fun k => match k with
  | _ => .int
abbrev wsX30 : List Cond := u_ws RX3 TX3 0
theorem nmX3 : ∀ a, a < 0 → ∀ b, b < 0 → a ≠ b → (TX3 a).2.1 ≠ (TX3 b).2.1 := by decide +kernel
theorem tyX3_ok : ∀ k, k < 0 → parseFieldDescriptor (TX3 k).2.2.1 = some (tyX3 k) := by decide +kernel
abbrev cX3_parse : ByteArray := prog_5_method_2_code
def yX3_parse : MethodName := ⟨RX3, "parse", "(LNoodleCanal$TextInput;LNoodleCanal$Canal;)V"⟩
abbrev cX3_parseSections : ByteArray := prog_5_method_3_code
def yX3_parseSections : MethodName := ⟨RX3, "parseSections", "(LNoodleCanal$TextInput;LNoodleCanal$Canal;)V"⟩
abbrev cX3_parseLock : ByteArray := prog_5_method_4_code
def yX3_parseLock : MethodName := ⟨RX3, "parseLock", "(LNoodleCanal$TextInput;LNoodleCanal$Canal;)V"⟩
abbrev cX3_parseBridge : ByteArray := prog_5_method_5_code
def yX3_parseBridge : MethodName := ⟨RX3, "parseBridge", "(LNoodleCanal$TextInput;LNoodleCanal$Canal;)V"⟩
abbrev cX3_parseBarges : ByteArray := prog_5_method_6_code
def yX3_parseBarges : MethodName := ⟨RX3, "parseBarges", "(LNoodleCanal$TextInput;LNoodleCanal$Canal;)V"⟩
abbrev cX3_parseBarge : ByteArray := prog_5_method_7_code
def yX3_parseBarge : MethodName := ⟨RX3, "parseBarge", "(LNoodleCanal$TextInput;LNoodleCanal$Canal;)V"⟩
abbrev cX3_parseOrders : ByteArray := prog_5_method_8_code
def yX3_parseOrders : MethodName := ⟨RX3, "parseOrders", "(LNoodleCanal$TextInput;LNoodleCanal$Canal;)V"⟩
abbrev cX3_parseOrder : ByteArray := prog_5_method_9_code
def yX3_parseOrder : MethodName := ⟨RX3, "parseOrder", "(LNoodleCanal$TextInput;LNoodleCanal$Canal;)V"⟩
def RX4 : String := "NoodleCanal$Command"
def TX4 : u_T := fun k => match k with
  | 0 => ("NoodleCanal$Command", "verb", "LNoodleCanal$Verb;", false)
  | 1 => ("NoodleCanal$Command", "first", "I", false)
  | 2 => ("NoodleCanal$Command", "second", "I", false)
  | 3 => ("NoodleCanal$Command", "third", "I", false)
  | 4 => ("NoodleCanal$Command", "fourth", "I", false)
  | _ => ("NoodleCanal$Command", "following", "I", false)
def tyX4 : Nat → FieldType := fun k => match k with
  | 0 => .object "NoodleCanal$Verb"
  | 1 => .int
  | 2 => .int
  | 3 => .int
  | 4 => .int
  | _ => .int
abbrev wsX40 : List Cond := u_ws RX4 TX4 6
theorem nmX4 : ∀ a, a < 6 → ∀ b, b < 6 → a ≠ b → (TX4 a).2.1 ≠ (TX4 b).2.1 := by decide +kernel
theorem tyX4_ok : ∀ k, k < 6 → parseFieldDescriptor (TX4 k).2.2.1 = some (tyX4 k) := by decide +kernel
abbrev cX4_init : ByteArray := prog_6_method_1_code
def yX4_init : MethodName := ⟨RX4, "<init>", "()V"⟩
def RX5 : String := "NoodleCanal$History"
def TX5 : u_T := fun k => match k with
  | 0 => ("NoodleCanal$History", "ring", "[LNoodleCanal$Canal;", true)
  | 1 => ("NoodleCanal$History", "next", "I", false)
  | _ => ("NoodleCanal$History", "count", "I", false)
def tyX5 : Nat → FieldType := fun k => match k with
  | 0 => .array (.object "NoodleCanal$Canal")
  | 1 => .int
  | _ => .int
abbrev wsX50 : List Cond := u_ws RX5 TX5 3
theorem nmX5 : ∀ a, a < 3 → ∀ b, b < 3 → a ≠ b → (TX5 a).2.1 ≠ (TX5 b).2.1 := by decide +kernel
theorem tyX5_ok : ∀ k, k < 3 → parseFieldDescriptor (TX5 k).2.2.1 = some (tyX5 k) := by decide +kernel
abbrev cX5_init : ByteArray := prog_7_method_1_code
def yX5_init : MethodName := ⟨RX5, "<init>", "()V"⟩
abbrev cX5_remember : ByteArray := prog_7_method_2_code
def yX5_remember : MethodName := ⟨RX5, "remember", "(LNoodleCanal$Canal;)V"⟩
abbrev cX5_takeBack : ByteArray := prog_7_method_3_code
def yX5_takeBack : MethodName := ⟨RX5, "takeBack", "(LNoodleCanal$Canal;)V"⟩
abbrev cX5_clear : ByteArray := prog_7_method_4_code
def yX5_clear : MethodName := ⟨RX5, "clear", "()V"⟩
def RX6 : String := "NoodleCanal$Order"
def TX6 : u_T := fun k => match k with
  | 0 => ("NoodleCanal$Order", "place", "I", false)
  | 1 => ("NoodleCanal$Order", "bowls", "I", false)
  | 2 => ("NoodleCanal$Order", "pulls", "I", false)
  | 3 => ("NoodleCanal$Order", "pullsLeft", "I", false)
  | 4 => ("NoodleCanal$Order", "deadline", "I", false)
  | 5 => ("NoodleCanal$Order", "begun", "Z", false)
  | 6 => ("NoodleCanal$Order", "state", "LNoodleCanal$OrderState;", false)
  | _ => ("NoodleCanal$Order", "barge", "I", false)
def tyX6 : Nat → FieldType := fun k => match k with
  | 0 => .int
  | 1 => .int
  | 2 => .int
  | 3 => .int
  | 4 => .int
  | 5 => .boolean
  | 6 => .object "NoodleCanal$OrderState"
  | _ => .int
abbrev wsX60 : List Cond := u_ws RX6 TX6 8
theorem nmX6 : ∀ a, a < 8 → ∀ b, b < 8 → a ≠ b → (TX6 a).2.1 ≠ (TX6 b).2.1 := by decide +kernel
theorem tyX6_ok : ∀ k, k < 8 → parseFieldDescriptor (TX6 k).2.2.1 = some (tyX6 k) := by decide +kernel
abbrev cX6_init : ByteArray := prog_8_method_1_code
def yX6_init : MethodName := ⟨RX6, "<init>", "()V"⟩
abbrev cX6_reset : ByteArray := prog_8_method_2_code
def yX6_reset : MethodName := ⟨RX6, "reset", "(IIII)V"⟩
abbrev cX6_copyFrom : ByteArray := prog_8_method_3_code
def yX6_copyFrom : MethodName := ⟨RX6, "copyFrom", "(LNoodleCanal$Order;)V"⟩
abbrev cX6_open : ByteArray := prog_8_method_4_code
def yX6_open : MethodName := ⟨RX6, "open", "()V"⟩
abbrev cX6_finish : ByteArray := prog_8_method_5_code
def yX6_finish : MethodName := ⟨RX6, "finish", "(LNoodleCanal$OrderState;)V"⟩
abbrev cX6_isHeld : ByteArray := prog_8_method_6_code
def yX6_isHeld : MethodName := ⟨RX6, "isHeld", "()Z"⟩
abbrev cX6_canStillBeEaten : ByteArray := prog_8_method_7_code
def yX6_canStillBeEaten : MethodName := ⟨RX6, "canStillBeEaten", "()Z"⟩
abbrev cX6_worth : ByteArray := prog_8_method_8_code
def yX6_worth : MethodName := ⟨RX6, "worth", "()I"⟩
def RX7 : String := "NoodleCanal$OrderState"
def TX7 : u_T := fun k => match k with
  | _ => ("", "", "", false)
def tyX7 : Nat → FieldType := fun k => match k with
  | _ => .int
abbrev wsX70 : List Cond := u_ws RX7 TX7 0
theorem nmX7 : ∀ a, a < 0 → ∀ b, b < 0 → a ≠ b → (TX7 a).2.1 ≠ (TX7 b).2.1 := by decide +kernel
theorem tyX7_ok : ∀ k, k < 0 → parseFieldDescriptor (TX7 k).2.2.1 = some (tyX7 k) := by decide +kernel
def RX8 : String := "NoodleCanal$Script"
def TX8 : u_T := fun k => match k with
  | 0 => ("NoodleCanal$Script", "commands", "[LNoodleCanal$Command;", true)
  | 1 => ("NoodleCanal$Script", "count", "I", false)
  | _ => ("NoodleCanal$Script", "executed", "I", false)
def tyX8 : Nat → FieldType := fun k => match k with
  | 0 => .array (.object "NoodleCanal$Command")
  | 1 => .int
  | _ => .int
abbrev wsX80 : List Cond := u_ws RX8 TX8 3
theorem nmX8 : ∀ a, a < 3 → ∀ b, b < 3 → a ≠ b → (TX8 a).2.1 ≠ (TX8 b).2.1 := by decide +kernel
theorem tyX8_ok : ∀ k, k < 3 → parseFieldDescriptor (TX8 k).2.2.1 = some (tyX8 k) := by decide +kernel
abbrev cX8_init : ByteArray := prog_10_method_1_code
def yX8_init : MethodName := ⟨RX8, "<init>", "()V"⟩
def RX9 : String := "NoodleCanal$Section"
def TX9 : u_T := fun k => match k with
  | 0 => ("NoodleCanal$Section", "waitingTime", "I", false)
  | 1 => ("NoodleCanal$Section", "clearance", "I", false)
  | _ => ("NoodleCanal$Section", "bargeInside", "I", false)
def tyX9 : Nat → FieldType := fun k => match k with
  | 0 => .int
  | 1 => .int
  | _ => .int
abbrev wsX90 : List Cond := u_ws RX9 TX9 3
theorem nmX9 : ∀ a, a < 3 → ∀ b, b < 3 → a ≠ b → (TX9 a).2.1 ≠ (TX9 b).2.1 := by decide +kernel
theorem tyX9_ok : ∀ k, k < 3 → parseFieldDescriptor (TX9 k).2.2.1 = some (tyX9 k) := by decide +kernel
abbrev cX9_init : ByteArray := prog_11_method_1_code
def yX9_init : MethodName := ⟨RX9, "<init>", "()V"⟩
abbrev cX9_clear : ByteArray := prog_11_method_2_code
def yX9_clear : MethodName := ⟨RX9, "clear", "()V"⟩
abbrev cX9_copyFrom : ByteArray := prog_11_method_3_code
def yX9_copyFrom : MethodName := ⟨RX9, "copyFrom", "(LNoodleCanal$Section;)V"⟩
def RX10 : String := "NoodleCanal$TextInput"
def TX10 : u_T := fun k => match k with
  | 0 => ("NoodleCanal$TextInput", "bytes", "[B", true)
  | 1 => ("NoodleCanal$TextInput", "filled", "I", false)
  | 2 => ("NoodleCanal$TextInput", "length", "I", false)
  | 3 => ("NoodleCanal$TextInput", "kind", "I", false)
  | 4 => ("NoodleCanal$TextInput", "start", "I", false)
  | 5 => ("NoodleCanal$TextInput", "end", "I", false)
  | 6 => ("NoodleCanal$TextInput", "failure", "I", false)
  | _ => ("NoodleCanal$TextInput", "failureOffset", "I", false)
def tyX10 : Nat → FieldType := fun k => match k with
  | 0 => .array .byte
  | 1 => .int
  | 2 => .int
  | 3 => .int
  | 4 => .int
  | 5 => .int
  | 6 => .int
  | _ => .int
abbrev wsX100 : List Cond := u_ws RX10 TX10 8
theorem nmX10 : ∀ a, a < 8 → ∀ b, b < 8 → a ≠ b → (TX10 a).2.1 ≠ (TX10 b).2.1 := by decide +kernel
theorem tyX10_ok : ∀ k, k < 8 → parseFieldDescriptor (TX10 k).2.2.1 = some (tyX10 k) := by decide +kernel
abbrev cX10_init : ByteArray := prog_12_method_1_code
def yX10_init : MethodName := ⟨RX10, "<init>", "()V"⟩
abbrev cX10_hasRoomFor : ByteArray := prog_12_method_2_code
def yX10_hasRoomFor : MethodName := ⟨RX10, "hasRoomFor", "(I)Z"⟩
abbrev cX10_appendInt : ByteArray := prog_12_method_3_code
def yX10_appendInt : MethodName := ⟨RX10, "appendInt", "(I)V"⟩
abbrev cX10_appendSigns : ByteArray := prog_12_method_4_code
def yX10_appendSigns : MethodName := ⟨RX10, "appendSigns", "(Ljava/lang/String;)V"⟩
abbrev cX10_appendByte : ByteArray := prog_12_method_5_code
def yX10_appendByte : MethodName := ⟨RX10, "appendByte", "(I)V"⟩
abbrev cX10_empty : ByteArray := prog_12_method_6_code
def yX10_empty : MethodName := ⟨RX10, "empty", "()V"⟩
abbrev cX10_begin : ByteArray := prog_12_method_7_code
def yX10_begin : MethodName := ⟨RX10, "begin", "(I)V"⟩
abbrev cX10_failed : ByteArray := prog_12_method_8_code
def yX10_failed : MethodName := ⟨RX10, "failed", "()Z"⟩
abbrev cX10_fail : ByteArray := prog_12_method_9_code
def yX10_fail : MethodName := ⟨RX10, "fail", "(I)V"⟩
abbrev cX10_failAt : ByteArray := prog_12_method_10_code
def yX10_failAt : MethodName := ⟨RX10, "failAt", "(II)V"⟩
abbrev cX10_advance : ByteArray := prog_12_method_11_code
def yX10_advance : MethodName := ⟨RX10, "advance", "()V"⟩
abbrev cX10_kindOf : ByteArray := prog_12_method_12_code
def yX10_kindOf : MethodName := ⟨RX10, "kindOf", "(I)I"⟩
abbrev cX10_isAt : ByteArray := prog_12_method_13_code
def yX10_isAt : MethodName := ⟨RX10, "isAt", "(I)Z"⟩
abbrev cX10_isAtWord : ByteArray := prog_12_method_14_code
def yX10_isAtWord : MethodName := ⟨RX10, "isAtWord", "(Ljava/lang/String;)Z"⟩
abbrev cX10_readWord : ByteArray := prog_12_method_15_code
def yX10_readWord : MethodName := ⟨RX10, "readWord", "(Ljava/lang/String;)V"⟩
abbrev cX10_readToken : ByteArray := prog_12_method_16_code
def yX10_readToken : MethodName := ⟨RX10, "readToken", "(I)V"⟩
abbrev cX10_readNumber : ByteArray := prog_12_method_17_code
def yX10_readNumber : MethodName := ⟨RX10, "readNumber", "(II)I"⟩
def RX11 : String := "NoodleCanal$Verb"
def TX11 : u_T := fun k => match k with
  | _ => ("", "", "", false)
def tyX11 : Nat → FieldType := fun k => match k with
  | _ => .int
abbrev wsX110 : List Cond := u_ws RX11 TX11 0
theorem nmX11 : ∀ a, a < 0 → ∀ b, b < 0 → a ≠ b → (TX11 a).2.1 ≠ (TX11 b).2.1 := by decide +kernel
theorem tyX11_ok : ∀ k, k < 0 → parseFieldDescriptor (TX11 k).2.2.1 = some (tyX11 k) := by decide +kernel
def RX12 : String := "NoodleCanal"
def TX12 : u_T := fun k => match k with
  | 0 => ("NoodleCanal", "input", "LNoodleCanal$TextInput;", true)
  | 1 => ("NoodleCanal", "script", "LNoodleCanal$Script;", true)
  | 2 => ("NoodleCanal", "history", "LNoodleCanal$History;", true)
  | 3 => ("NoodleCanal", "snapshot", "LNoodleCanal$Canal;", true)
  | 4 => ("NoodleCanal", "hasSnapshot", "Z", false)
  | 5 => ("NoodleCanal", "canal", "LNoodleCanal$Canal;", false)
  | 6 => ("NoodleCanal", "draft", "LNoodleCanal$Canal;", false)
  | 7 => ("NoodleCanal", "output", "[B", true)
  | _ => ("NoodleCanal", "outputLength", "I", false)
def tyX12 : Nat → FieldType := fun k => match k with
  | 0 => .object "NoodleCanal$TextInput"
  | 1 => .object "NoodleCanal$Script"
  | 2 => .object "NoodleCanal$History"
  | 3 => .object "NoodleCanal$Canal"
  | 4 => .boolean
  | 5 => .object "NoodleCanal$Canal"
  | 6 => .object "NoodleCanal$Canal"
  | 7 => .array .byte
  | _ => .int
abbrev wsX120 : List Cond := u_ws RX12 TX12 9
theorem nmX12 : ∀ a, a < 9 → ∀ b, b < 9 → a ≠ b → (TX12 a).2.1 ≠ (TX12 b).2.1 := by decide +kernel
theorem tyX12_ok : ∀ k, k < 9 → parseFieldDescriptor (TX12 k).2.2.1 = some (tyX12 k) := by decide +kernel
abbrev cX12_init : ByteArray := prog_1_method_1_code
def yX12_init : MethodName := ⟨RX12, "<init>", "()V"⟩
abbrev cX12_appendText : ByteArray := prog_1_method_2_code
def yX12_appendText : MethodName := ⟨RX12, "appendText", "(IIIII)I"⟩
abbrev cX12_loadCanal : ByteArray := prog_1_method_3_code
def yX12_loadCanal : MethodName := ⟨RX12, "loadCanal", "(I)I"⟩
abbrev cX12_minute : ByteArray := prog_1_method_6_code
def yX12_minute : MethodName := ⟨RX12, "minute", "()I"⟩
abbrev cX12_placeCount : ByteArray := prog_1_method_7_code
def yX12_placeCount : MethodName := ⟨RX12, "placeCount", "()I"⟩
abbrev cX12_lockWait : ByteArray := prog_1_method_8_code
def yX12_lockWait : MethodName := ⟨RX12, "lockWait", "(I)I"⟩
abbrev cX12_bargeInLock : ByteArray := prog_1_method_10_code
def yX12_bargeInLock : MethodName := ⟨RX12, "bargeInLock", "(I)I"⟩
abbrev cX12_usedPairs : ByteArray := prog_1_method_11_code
def yX12_usedPairs : MethodName := ⟨RX12, "usedPairs", "(I)I"⟩
abbrev cX12_bargesAt : ByteArray := prog_1_method_12_code
def yX12_bargesAt : MethodName := ⟨RX12, "bargesAt", "(I)I"⟩
abbrev cX12_ordersAt : ByteArray := prog_1_method_13_code
def yX12_ordersAt : MethodName := ⟨RX12, "ordersAt", "(I)I"⟩
abbrev cX12_bargeCount : ByteArray := prog_1_method_14_code
def yX12_bargeCount : MethodName := ⟨RX12, "bargeCount", "()I"⟩
abbrev cX12_placeOf : ByteArray := prog_1_method_15_code
def yX12_placeOf : MethodName := ⟨RX12, "placeOf", "(I)I"⟩
abbrev cX12_targetOf : ByteArray := prog_1_method_16_code
def yX12_targetOf : MethodName := ⟨RX12, "targetOf", "(I)I"⟩
abbrev cX12_timeInLock : ByteArray := prog_1_method_18_code
def yX12_timeInLock : MethodName := ⟨RX12, "timeInLock", "(I)I"⟩
abbrev cX12_flour : ByteArray := prog_1_method_19_code
def yX12_flour : MethodName := ⟨RX12, "flour", "(I)I"⟩
abbrev cX12_cleanPairs : ByteArray := prog_1_method_20_code
def yX12_cleanPairs : MethodName := ⟨RX12, "cleanPairs", "(I)I"⟩
abbrev cX12_dirtyPairs : ByteArray := prog_1_method_21_code
def yX12_dirtyPairs : MethodName := ⟨RX12, "dirtyPairs", "(I)I"⟩
abbrev cX12_queueLength : ByteArray := prog_1_method_22_code
def yX12_queueLength : MethodName := ⟨RX12, "queueLength", "(I)I"⟩
abbrev cX12_queuedOrder : ByteArray := prog_1_method_23_code
def yX12_queuedOrder : MethodName := ⟨RX12, "queuedOrder", "(II)I"⟩
abbrev cX12_readyCount : ByteArray := prog_1_method_24_code
def yX12_readyCount : MethodName := ⟨RX12, "readyCount", "(I)I"⟩
abbrev cX12_flourNeeded : ByteArray := prog_1_method_25_code
def yX12_flourNeeded : MethodName := ⟨RX12, "flourNeeded", "(I)I"⟩
abbrev cX12_orderCount : ByteArray := prog_1_method_26_code
def yX12_orderCount : MethodName := ⟨RX12, "orderCount", "()I"⟩
abbrev cX12_orderPlace : ByteArray := prog_1_method_27_code
def yX12_orderPlace : MethodName := ⟨RX12, "orderPlace", "(I)I"⟩
abbrev cX12_bowls : ByteArray := prog_1_method_28_code
def yX12_bowls : MethodName := ⟨RX12, "bowls", "(I)I"⟩
abbrev cX12_pullsLeft : ByteArray := prog_1_method_29_code
def yX12_pullsLeft : MethodName := ⟨RX12, "pullsLeft", "(I)I"⟩
abbrev cX12_deadline : ByteArray := prog_1_method_30_code
def yX12_deadline : MethodName := ⟨RX12, "deadline", "(I)I"⟩
abbrev cX12_price : ByteArray := prog_1_method_31_code
def yX12_price : MethodName := ⟨RX12, "price", "(I)I"⟩
abbrev cX12_bargeOf : ByteArray := prog_1_method_32_code
def yX12_bargeOf : MethodName := ⟨RX12, "bargeOf", "(I)I"⟩
abbrev cX12_isOpen : ByteArray := prog_1_method_33_code
def yX12_isOpen : MethodName := ⟨RX12, "isOpen", "(I)Z"⟩
abbrev cX12_isReady : ByteArray := prog_1_method_34_code
def yX12_isReady : MethodName := ⟨RX12, "isReady", "(I)Z"⟩
abbrev cX12_isEaten : ByteArray := prog_1_method_35_code
def yX12_isEaten : MethodName := ⟨RX12, "isEaten", "(I)Z"⟩
abbrev cX12_mostUrgentOrder : ByteArray := prog_1_method_36_code
def yX12_mostUrgentOrder : MethodName := ⟨RX12, "mostUrgentOrder", "()I"⟩
abbrev cX12_coins : ByteArray := prog_1_method_37_code
def yX12_coins : MethodName := ⟨RX12, "coins", "()I"⟩
abbrev cX12_eatenBowls : ByteArray := prog_1_method_38_code
def yX12_eatenBowls : MethodName := ⟨RX12, "eatenBowls", "()I"⟩
abbrev cX12_expiredOrders : ByteArray := prog_1_method_39_code
def yX12_expiredOrders : MethodName := ⟨RX12, "expiredOrders", "()I"⟩
abbrev cX12_eatenShare : ByteArray := prog_1_method_41_code
def yX12_eatenShare : MethodName := ⟨RX12, "eatenShare", "()F"⟩
abbrev cX12_gap : ByteArray := prog_1_method_42_code
def yX12_gap : MethodName := ⟨RX12, "gap", "()I"⟩
abbrev cX12_sailObstacle : ByteArray := prog_1_method_43_code
def yX12_sailObstacle : MethodName := ⟨RX12, "sailObstacle", "(II)I"⟩
abbrev cX12_journeyTime : ByteArray := prog_1_method_44_code
def yX12_journeyTime : MethodName := ⟨RX12, "journeyTime", "(II)I"⟩
abbrev cX12_minutesToTarget : ByteArray := prog_1_method_45_code
def yX12_minutesToTarget : MethodName := ⟨RX12, "minutesToTarget", "(I)I"⟩
abbrev cX12_willBeEaten : ByteArray := prog_1_method_46_code
def yX12_willBeEaten : MethodName := ⟨RX12, "willBeEaten", "(I)Z"⟩
abbrev cX12_coinsAfter : ByteArray := prog_1_method_47_code
def yX12_coinsAfter : MethodName := ⟨RX12, "coinsAfter", "(I)I"⟩
abbrev cX12_nearestBarge : ByteArray := prog_1_method_48_code
def yX12_nearestBarge : MethodName := ⟨RX12, "nearestBarge", "(I)I"⟩
abbrev cX12_sail : ByteArray := prog_1_method_49_code
def yX12_sail : MethodName := ⟨RX12, "sail", "(II)I"⟩
abbrev cX12_makeOrder : ByteArray := prog_1_method_50_code
def yX12_makeOrder : MethodName := ⟨RX12, "makeOrder", "(IIII)I"⟩
abbrev cX12_take : ByteArray := prog_1_method_51_code
def yX12_take : MethodName := ⟨RX12, "take", "(II)I"⟩
abbrev cX12_drop : ByteArray := prog_1_method_52_code
def yX12_drop : MethodName := ⟨RX12, "drop", "(I)I"⟩
abbrev cX12_buyFlour : ByteArray := prog_1_method_53_code
def yX12_buyFlour : MethodName := ⟨RX12, "buyFlour", "(II)I"⟩
abbrev cX12_collect : ByteArray := prog_1_method_54_code
def yX12_collect : MethodName := ⟨RX12, "collect", "(I)I"⟩
abbrev cX12_wash : ByteArray := prog_1_method_55_code
def yX12_wash : MethodName := ⟨RX12, "wash", "(I)I"⟩
abbrev cX12_passMinutes : ByteArray := prog_1_method_56_code
def yX12_passMinutes : MethodName := ⟨RX12, "passMinutes", "(I)I"⟩
abbrev cX12_writeCanal : ByteArray := prog_1_method_58_code
def yX12_writeCanal : MethodName := ⟨RX12, "writeCanal", "()I"⟩
abbrev cX12_undoableCount : ByteArray := prog_1_method_60_code
def yX12_undoableCount : MethodName := ⟨RX12, "undoableCount", "()I"⟩
abbrev cX12_undo : ByteArray := prog_1_method_61_code
def yX12_undo : MethodName := ⟨RX12, "undo", "()I"⟩
abbrev cX12_saveSnapshot : ByteArray := prog_1_method_62_code
def yX12_saveSnapshot : MethodName := ⟨RX12, "saveSnapshot", "()V"⟩
abbrev cX12_restoreSnapshot : ByteArray := prog_1_method_63_code
def yX12_restoreSnapshot : MethodName := ⟨RX12, "restoreSnapshot", "()I"⟩
abbrev cX12_writeSign : ByteArray := prog_1_method_64_code
def yX12_writeSign : MethodName := ⟨RX12, "writeSign", "(C)V"⟩
abbrev cX12_sectionAt : ByteArray := prog_1_method_65_code
def yX12_sectionAt : MethodName := ⟨RX12, "sectionAt", "(I)LNoodleCanal$Section;"⟩
abbrev cX12_bargeAt : ByteArray := prog_1_method_66_code
def yX12_bargeAt : MethodName := ⟨RX12, "bargeAt", "(I)LNoodleCanal$Barge;"⟩
abbrev cX12_orderAt : ByteArray := prog_1_method_67_code
def yX12_orderAt : MethodName := ⟨RX12, "orderAt", "(I)LNoodleCanal$Order;"⟩
abbrev cX12_requirePlace : ByteArray := prog_1_method_68_code
def yX12_requirePlace : MethodName := ⟨RX12, "requirePlace", "(I)V"⟩
abbrev cX12_requireBarge : ByteArray := prog_1_method_69_code
def yX12_requireBarge : MethodName := ⟨RX12, "requireBarge", "(I)V"⟩
abbrev cX12_requireOrder : ByteArray := prog_1_method_70_code
def yX12_requireOrder : MethodName := ⟨RX12, "requireOrder", "(I)V"⟩
abbrev cX12_requireText : ByteArray := prog_1_method_71_code
def yX12_requireText : MethodName := ⟨RX12, "requireText", "(I)V"⟩
abbrev cX12_requireRange : ByteArray := prog_1_method_72_code
def yX12_requireRange : MethodName := ⟨RX12, "requireRange", "(III)V"⟩
abbrev cX12_requireState : ByteArray := prog_1_method_73_code
def yX12_requireState : MethodName := ⟨RX12, "requireState", "(Z)V"⟩
def RX13 : String := "NoodleCanalModel"
def TX13 : u_T := fun k => match k with
  | _ => ("", "", "", false)
def tyX13 : Nat → FieldType := fun k => match k with
  | _ => .int
abbrev wsX130 : List Cond := u_ws RX13 TX13 0
theorem nmX13 : ∀ a, a < 0 → ∀ b, b < 0 → a ≠ b → (TX13 a).2.1 ≠ (TX13 b).2.1 := by decide +kernel
theorem tyX13_ok : ∀ k, k < 0 → parseFieldDescriptor (TX13 k).2.2.1 = some (tyX13 k) := by decide +kernel
def RJ5 : String := "java/lang/AbstractStringBuilder"
def TJ5 : u_T := fun k => match k with
  | _ => ("", "", "", false)
def tyJ5 : Nat → FieldType := fun k => match k with
  | _ => .int
abbrev wsJ50 : List Cond := u_ws RJ5 TJ5 0
theorem nmJ5 : ∀ a, a < 0 → ∀ b, b < 0 → a ≠ b → (TJ5 a).2.1 ≠ (TJ5 b).2.1 := by decide +kernel
theorem tyJ5_ok : ∀ k, k < 0 → parseFieldDescriptor (TJ5 k).2.2.1 = some (tyJ5 k) := by decide +kernel
abbrev cJ5_init_a7421 : ByteArray := prog_16_method_3_code
def yJ5_init_a7421 : MethodName := ⟨RJ5, "<init>", "(Ljava/lang/String;)V"⟩
abbrev cJ5_length_8abf5 : ByteArray := prog_16_method_6_code
def yJ5_length_8abf5 : MethodName := ⟨RJ5, "length", "()I"⟩
abbrev cJ5_ensureCapacityInternal_d00df : ByteArray := prog_16_method_9_code
def yJ5_ensureCapacityInternal_d00df : MethodName := ⟨RJ5, "ensureCapacityInternal", "(I)V"⟩
abbrev cJ5_newCapacity_0f7a4 : ByteArray := prog_16_method_10_code
def yJ5_newCapacity_0f7a4 : MethodName := ⟨RJ5, "newCapacity", "(I)I"⟩
abbrev cJ5_inflate_da8c8 : ByteArray := prog_16_method_11_code
def yJ5_inflate_da8c8 : MethodName := ⟨RJ5, "inflate", "()V"⟩
abbrev cJ5_append_cf1ce : ByteArray := prog_16_method_22_code
def yJ5_append_cf1ce : MethodName := ⟨RJ5, "append", "(Ljava/lang/String;)Ljava/lang/AbstractStringBuilder;"⟩
abbrev cJ5_appendNull_278bc : ByteArray := prog_16_method_26_code
def yJ5_appendNull_278bc : MethodName := ⟨RJ5, "appendNull", "()Ljava/lang/AbstractStringBuilder;"⟩
abbrev cJ5_append_3fe6f : ByteArray := prog_16_method_31_code
def yJ5_append_3fe6f : MethodName := ⟨RJ5, "append", "(C)Ljava/lang/AbstractStringBuilder;"⟩
abbrev cJ5_append_c97b9 : ByteArray := prog_16_method_32_code
def yJ5_append_c97b9 : MethodName := ⟨RJ5, "append", "(I)Ljava/lang/AbstractStringBuilder;"⟩
abbrev cJ5_getValue_6d5f1 : ByteArray := prog_16_method_64_code
def yJ5_getValue_6d5f1 : MethodName := ⟨RJ5, "getValue", "()[B"⟩
abbrev cJ5_isLatin1_aae02 : ByteArray := prog_16_method_68_code
def yJ5_isLatin1_aae02 : MethodName := ⟨RJ5, "isLatin1", "()Z"⟩
abbrev cJ5_inflateIfNeededFor_a7421 : ByteArray := prog_16_method_71_code
def yJ5_inflateIfNeededFor_a7421 : MethodName := ⟨RJ5, "inflateIfNeededFor", "(Ljava/lang/String;)V"⟩
abbrev cJ5_putStringAt_47b60 : ByteArray := prog_16_method_73_code
def yJ5_putStringAt_47b60 : MethodName := ⟨RJ5, "putStringAt", "(ILjava/lang/String;)V"⟩
def RJx8e188 : String := "java/lang/Cloneable"
def TJx8e188 : u_T := fun k => match k with
  | _ => ("", "", "", false)
def tyJx8e188 : Nat → FieldType := fun k => match k with
  | _ => .int
abbrev wsJx8e1880 : List Cond := u_ws RJx8e188 TJx8e188 0
theorem nmJx8e188 : ∀ a, a < 0 → ∀ b, b < 0 → a ≠ b → (TJx8e188 a).2.1 ≠ (TJx8e188 b).2.1 := by decide +kernel
theorem tyJx8e188_ok : ∀ k, k < 0 → parseFieldDescriptor (TJx8e188 k).2.2.1 = some (tyJx8e188 k) := by decide +kernel
def RJx29ce0 : String := "java/lang/Enum"
def TJx29ce0 : u_T := fun k => match k with
  | _ => ("", "", "", false)
def tyJx29ce0 : Nat → FieldType := fun k => match k with
  | _ => .int
abbrev wsJx29ce00 : List Cond := u_ws RJx29ce0 TJx29ce0 0
theorem nmJx29ce0 : ∀ a, a < 0 → ∀ b, b < 0 → a ≠ b → (TJx29ce0 a).2.1 ≠ (TJx29ce0 b).2.1 := by decide +kernel
theorem tyJx29ce0_ok : ∀ k, k < 0 → parseFieldDescriptor (TJx29ce0 k).2.2.1 = some (tyJx29ce0 k) := by decide +kernel
def RJ6 : String := "java/lang/Integer"
def TJ6 : u_T := fun k => match k with
  | _ => ("", "", "", false)
def tyJ6 : Nat → FieldType := fun k => match k with
  | _ => .int
abbrev wsJ60 : List Cond := u_ws RJ6 TJ6 0
theorem nmJ6 : ∀ a, a < 0 → ∀ b, b < 0 → a ≠ b → (TJ6 a).2.1 ≠ (TJ6 b).2.1 := by decide +kernel
theorem tyJ6_ok : ∀ k, k < 0 → parseFieldDescriptor (TJ6 k).2.2.1 = some (tyJ6 k) := by decide +kernel
abbrev cJ6_getChars_ba4f3 : ByteArray := prog_23_method_12_code
def yJ6_getChars_ba4f3 : MethodName := ⟨RJ6, "getChars", "(II[B)I"⟩
abbrev cJ6_stringSize_0f7a4 : ByteArray := prog_23_method_13_code
def yJ6_stringSize_0f7a4 : MethodName := ⟨RJ6, "stringSize", "(I)I"⟩
def RJ9 : String := "java/lang/Math"
def TJ9 : u_T := fun k => match k with
  | _ => ("", "", "", false)
def tyJ9 : Nat → FieldType := fun k => match k with
  | _ => .int
abbrev wsJ90 : List Cond := u_ws RJ9 TJ9 0
theorem nmJ9 : ∀ a, a < 0 → ∀ b, b < 0 → a ≠ b → (TJ9 a).2.1 ≠ (TJ9 b).2.1 := by decide +kernel
theorem tyJ9_ok : ∀ k, k < 0 → parseFieldDescriptor (TJ9 k).2.2.1 = some (tyJ9 k) := by decide +kernel
abbrev cJ9_abs_0f7a4 : ByteArray := prog_24_method_59_code
def yJ9_abs_0f7a4 : MethodName := ⟨RJ9, "abs", "(I)I"⟩
abbrev cJ9_max_7cf53 : ByteArray := prog_24_method_65_code
def yJ9_max_7cf53 : MethodName := ⟨RJ9, "max", "(II)I"⟩
abbrev cJ9_min_7cf53 : ByteArray := prog_24_method_69_code
def yJ9_min_7cf53 : MethodName := ⟨RJ9, "min", "(II)I"⟩
def RJ0 : String := "java/lang/String"
def TJ0 : u_T := fun k => match k with
  | 0 => ("java/lang/String", "value", "[B", true)
  | 1 => ("java/lang/String", "coder", "B", true)
  | 2 => ("java/lang/String", "hash", "I", false)
  | _ => ("java/lang/String", "hashIsZero", "Z", false)
def tyJ0 : Nat → FieldType := fun k => match k with
  | 0 => .array .byte
  | 1 => .byte
  | 2 => .int
  | _ => .boolean
abbrev wsJ00 : List Cond := u_ws RJ0 TJ0 4
theorem nmJ0 : ∀ a, a < 4 → ∀ b, b < 4 → a ≠ b → (TJ0 a).2.1 ≠ (TJ0 b).2.1 := by decide +kernel
theorem tyJ0_ok : ∀ k, k < 4 → parseFieldDescriptor (TJ0 k).2.2.1 = some (tyJ0 k) := by decide +kernel
abbrev cJ0_init_81219 : ByteArray := prog_26_method_53_code
def yJ0_init_81219 : MethodName := ⟨RJ0, "<init>", "(Ljava/lang/StringBuilder;)V"⟩
abbrev cJ0_length_8abf5 : ByteArray := prog_26_method_54_code
def yJ0_length_8abf5 : MethodName := ⟨RJ0, "length", "()I"⟩
abbrev cJ0_charAt_5068e : ByteArray := prog_26_method_56_code
def yJ0_charAt_5068e : MethodName := ⟨RJ0, "charAt", "(I)C"⟩
abbrev cJ0_getBytes_840e7 : ByteArray := prog_26_method_147_code
def yJ0_getBytes_840e7 : MethodName := ⟨RJ0, "getBytes", "([BIB)V"⟩
abbrev cJ0_init_db425 : ByteArray := prog_26_method_150_code
def yJ0_init_db425 : MethodName := ⟨RJ0, "<init>", "(Ljava/lang/AbstractStringBuilder;Ljava/lang/Void;)V"⟩
abbrev cJ0_coder_7d493 : ByteArray := prog_26_method_152_code
def yJ0_coder_7d493 : MethodName := ⟨RJ0, "coder", "()B"⟩
abbrev cJ0_isLatin1_aae02 : ByteArray := prog_26_method_154_code
def yJ0_isLatin1_aae02 : MethodName := ⟨RJ0, "isLatin1", "()Z"⟩
abbrev cJ0_checkIndex_df160 : ByteArray := prog_26_method_155_code
def yJ0_checkIndex_df160 : MethodName := ⟨RJ0, "checkIndex", "(II)V"⟩
abbrev cJ0_checkBoundsOffCount_cabcc : ByteArray := prog_26_method_157_code
def yJ0_checkBoundsOffCount_cabcc : MethodName := ⟨RJ0, "checkBoundsOffCount", "(III)I"⟩
abbrev cJ0_checkBoundsBeginEnd_23922 : ByteArray := prog_26_method_158_code
def yJ0_checkBoundsBeginEnd_23922 : MethodName := ⟨RJ0, "checkBoundsBeginEnd", "(III)V"⟩
def RJ4 : String := "java/lang/StringBuilder"
def TJ4 : u_T := fun k => match k with
  | 0 => ("java/lang/AbstractStringBuilder", "value", "[B", false)
  | 1 => ("java/lang/AbstractStringBuilder", "coder", "B", false)
  | 2 => ("java/lang/AbstractStringBuilder", "maybeLatin1", "Z", false)
  | _ => ("java/lang/AbstractStringBuilder", "count", "I", false)
def tyJ4 : Nat → FieldType := fun k => match k with
  | 0 => .array .byte
  | 1 => .byte
  | 2 => .boolean
  | _ => .int
abbrev wsJ40 : List Cond := u_ws RJ4 TJ4 4
theorem nmJ4 : ∀ a, a < 4 → ∀ b, b < 4 → a ≠ b → (TJ4 a).2.1 ≠ (TJ4 b).2.1 := by decide +kernel
theorem tyJ4_ok : ∀ k, k < 4 → parseFieldDescriptor (TJ4 k).2.2.1 = some (tyJ4 k) := by decide +kernel
abbrev cJ4_init_a7421 : ByteArray := prog_27_method_3_code
def yJ4_init_a7421 : MethodName := ⟨RJ4, "<init>", "(Ljava/lang/String;)V"⟩
abbrev cJ4_append_15ec4 : ByteArray := prog_27_method_7_code
def yJ4_append_15ec4 : MethodName := ⟨RJ4, "append", "(Ljava/lang/String;)Ljava/lang/StringBuilder;"⟩
abbrev cJ4_append_cf468 : ByteArray := prog_27_method_14_code
def yJ4_append_cf468 : MethodName := ⟨RJ4, "append", "(C)Ljava/lang/StringBuilder;"⟩
abbrev cJ4_append_bf812 : ByteArray := prog_27_method_15_code
def yJ4_append_bf812 : MethodName := ⟨RJ4, "append", "(I)Ljava/lang/StringBuilder;"⟩
abbrev cJ4_toString_0e30d : ByteArray := prog_27_method_42_code
def yJ4_toString_0e30d : MethodName := ⟨RJ4, "toString", "()Ljava/lang/String;"⟩
abbrev cJ4_append_cf1ce : ByteArray := prog_27_method_80_code
def yJ4_append_cf1ce : MethodName := ⟨RJ4, "append", "(Ljava/lang/String;)Ljava/lang/AbstractStringBuilder;"⟩
abbrev cJ4_length_8abf5 : ByteArray := prog_27_method_93_code
def yJ4_length_8abf5 : MethodName := ⟨RJ4, "length", "()I"⟩
def RJ1 : String := "java/lang/StringLatin1"
def TJ1 : u_T := fun k => match k with
  | _ => ("", "", "", false)
def tyJ1 : Nat → FieldType := fun k => match k with
  | _ => .int
abbrev wsJ10 : List Cond := u_ws RJ1 TJ1 0
theorem nmJ1 : ∀ a, a < 0 → ∀ b, b < 0 → a ≠ b → (TJ1 a).2.1 ≠ (TJ1 b).2.1 := by decide +kernel
theorem tyJ1_ok : ∀ k, k < 0 → parseFieldDescriptor (TJ1 k).2.2.1 = some (tyJ1 k) := by decide +kernel
abbrev cJ1_charAt_3b067 : ByteArray := prog_28_method_2_code
def yJ1_charAt_3b067 : MethodName := ⟨RJ1, "charAt", "([BI)C"⟩
abbrev cJ1_canEncode_fc78d : ByteArray := prog_28_method_3_code
def yJ1_canEncode_fc78d : MethodName := ⟨RJ1, "canEncode", "(C)Z"⟩
abbrev cJ1_inflate_0e8fd : ByteArray := prog_28_method_50_code
def yJ1_inflate_0e8fd : MethodName := ⟨RJ1, "inflate", "([BI[BII)V"⟩
def RJ2 : String := "java/lang/StringUTF16"
def TJ2 : u_T := fun k => match k with
  | _ => ("", "", "", false)
def tyJ2 : Nat → FieldType := fun k => match k with
  | _ => .int
abbrev wsJ20 : List Cond := u_ws RJ2 TJ2 0
theorem nmJ2 : ∀ a, a < 0 → ∀ b, b < 0 → a ≠ b → (TJ2 a).2.1 ≠ (TJ2 b).2.1 := by decide +kernel
theorem tyJ2_ok : ∀ k, k < 0 → parseFieldDescriptor (TJ2 k).2.2.1 = some (tyJ2 k) := by decide +kernel
abbrev cJ2_newBytesFor_77867 : ByteArray := prog_29_method_2_code
def yJ2_newBytesFor_77867 : MethodName := ⟨RJ2, "newBytesFor", "(I)[B"⟩
abbrev cJ2_newBytesLength_0f7a4 : ByteArray := prog_29_method_3_code
def yJ2_newBytesLength_0f7a4 : MethodName := ⟨RJ2, "newBytesLength", "(I)I"⟩
abbrev cJ2_putChar_b72d1 : ByteArray := prog_29_method_4_code
def yJ2_putChar_b72d1 : MethodName := ⟨RJ2, "putChar", "([BII)V"⟩
abbrev cJ2_getChar_3b067 : ByteArray := prog_29_method_5_code
def yJ2_getChar_3b067 : MethodName := ⟨RJ2, "getChar", "([BI)C"⟩
abbrev cJ2_length_9d52b : ByteArray := prog_29_method_6_code
def yJ2_length_9d52b : MethodName := ⟨RJ2, "length", "([B)I"⟩
abbrev cJ2_coderFromArrayLen_85cad : ByteArray := prog_29_method_15_code
def yJ2_coderFromArrayLen_85cad : MethodName := ⟨RJ2, "coderFromArrayLen", "([BI)B"⟩
abbrev cJ2_compress_39247 : ByteArray := prog_29_method_17_code
def yJ2_compress_39247 : MethodName := ⟨RJ2, "compress", "([BII)[B"⟩
abbrev cJ2_compress_5af95 : ByteArray := prog_29_method_22_code
def yJ2_compress_5af95 : MethodName := ⟨RJ2, "compress", "([BI[BII)I"⟩
abbrev cJ2_putCharSB_b72d1 : ByteArray := prog_29_method_71_code
def yJ2_putCharSB_b72d1 : MethodName := ⟨RJ2, "putCharSB", "([BII)V"⟩
abbrev cJ2_getChars_46870 : ByteArray := prog_29_method_77_code
def yJ2_getChars_46870 : MethodName := ⟨RJ2, "getChars", "(III[B)I"⟩
abbrev cJ2_putCharsAt_cd4e5 : ByteArray := prog_29_method_81_code
def yJ2_putCharsAt_cd4e5 : MethodName := ⟨RJ2, "putCharsAt", "([BICCCC)I"⟩
abbrev cJ2_charAt_3b067 : ByteArray := prog_29_method_83_code
def yJ2_charAt_3b067 : MethodName := ⟨RJ2, "charAt", "([BI)C"⟩
abbrev cJ2_inflate_0e8fd : ByteArray := prog_29_method_86_code
def yJ2_inflate_0e8fd : MethodName := ⟨RJ2, "inflate", "([BI[BII)V"⟩
abbrev cJ2_getChars_ba4f3 : ByteArray := prog_29_method_89_code
def yJ2_getChars_ba4f3 : MethodName := ⟨RJ2, "getChars", "(II[B)I"⟩
abbrev cJ2_checkIndex_2214a : ByteArray := prog_29_method_91_code
def yJ2_checkIndex_2214a : MethodName := ⟨RJ2, "checkIndex", "(I[B)V"⟩
abbrev cJ2_checkBoundsBeginEnd_d044e : ByteArray := prog_29_method_93_code
def yJ2_checkBoundsBeginEnd_d044e : MethodName := ⟨RJ2, "checkBoundsBeginEnd", "(II[B)V"⟩
abbrev cJ2_checkBoundsOffCount_d044e : ByteArray := prog_29_method_94_code
def yJ2_checkBoundsOffCount_d044e : MethodName := ⟨RJ2, "checkBoundsOffCount", "(II[B)V"⟩
def RJ10 : String := "java/lang/System"
def TJ10 : u_T := fun k => match k with
  | _ => ("", "", "", false)
def tyJ10 : Nat → FieldType := fun k => match k with
  | _ => .int
abbrev wsJ100 : List Cond := u_ws RJ10 TJ10 0
theorem nmJ10 : ∀ a, a < 0 → ∀ b, b < 0 → a ≠ b → (TJ10 a).2.1 ≠ (TJ10 b).2.1 := by decide +kernel
theorem tyJ10_ok : ∀ k, k < 0 → parseFieldDescriptor (TJ10 k).2.2.1 = some (tyJ10 k) := by decide +kernel
def RJ7 : String := "java/util/Arrays"
def TJ7 : u_T := fun k => match k with
  | _ => ("", "", "", false)
def tyJ7 : Nat → FieldType := fun k => match k with
  | _ => .int
abbrev wsJ70 : List Cond := u_ws RJ7 TJ7 0
theorem nmJ7 : ∀ a, a < 0 → ∀ b, b < 0 → a ≠ b → (TJ7 a).2.1 ≠ (TJ7 b).2.1 := by decide +kernel
theorem tyJ7_ok : ∀ k, k < 0 → parseFieldDescriptor (TJ7 k).2.2.1 = some (tyJ7 k) := by decide +kernel
abbrev cJ7_copyOf_9075b : ByteArray := prog_32_method_121_code
def yJ7_copyOf_9075b : MethodName := ⟨RJ7, "copyOf", "([BI)[B"⟩
abbrev cJ7_checkLength_df160 : ByteArray := prog_32_method_131_code
def yJ7_checkLength_df160 : MethodName := ⟨RJ7, "checkLength", "(II)V"⟩
abbrev cJ7_copyOfRange_39247 : ByteArray := prog_32_method_132_code
def yJ7_copyOfRange_39247 : MethodName := ⟨RJ7, "copyOfRange", "([BII)[B"⟩
abbrev cJ7_copyOfRangeByte_39247 : ByteArray := prog_32_method_133_code
def yJ7_copyOfRangeByte_39247 : MethodName := ⟨RJ7, "copyOfRangeByte", "([BII)[B"⟩
def RJ8 : String := "jdk/internal/util/ArraysSupport"
def TJ8 : u_T := fun k => match k with
  | _ => ("", "", "", false)
def tyJ8 : Nat → FieldType := fun k => match k with
  | _ => .int
abbrev wsJ80 : List Cond := u_ws RJ8 TJ8 0
theorem nmJ8 : ∀ a, a < 0 → ∀ b, b < 0 → a ≠ b → (TJ8 a).2.1 ≠ (TJ8 b).2.1 := by decide +kernel
theorem tyJ8_ok : ∀ k, k < 0 → parseFieldDescriptor (TJ8 k).2.2.1 = some (tyJ8 k) := by decide +kernel
abbrev cJ8_newLength_cabcc : ByteArray := prog_33_method_27_code
def yJ8_newLength_cabcc : MethodName := ⟨RJ8, "newLength", "(III)I"⟩
abbrev cJ8_hugeLength_7cf53 : ByteArray := prog_33_method_28_code
def yJ8_hugeLength_7cf53 : MethodName := ⟨RJ8, "hugeLength", "(II)I"⟩
def RJ3 : String := "jdk/internal/util/Preconditions"
def TJ3 : u_T := fun k => match k with
  | _ => ("", "", "", false)
def tyJ3 : Nat → FieldType := fun k => match k with
  | _ => .int
abbrev wsJ30 : List Cond := u_ws RJ3 TJ3 0
theorem nmJ3 : ∀ a, a < 0 → ∀ b, b < 0 → a ≠ b → (TJ3 a).2.1 ≠ (TJ3 b).2.1 := by decide +kernel
theorem tyJ3_ok : ∀ k, k < 0 → parseFieldDescriptor (TJ3 k).2.2.1 = some (tyJ3 k) := by decide +kernel
abbrev cJ3_checkIndex_8e157 : ByteArray := prog_34_method_11_code
def yJ3_checkIndex_8e157 : MethodName := ⟨RJ3, "checkIndex", "(IILjava/util/function/BiFunction;)I"⟩
abbrev cJ3_checkFromToIndex_8c36e : ByteArray := prog_34_method_12_code
def yJ3_checkFromToIndex_8c36e : MethodName := ⟨RJ3, "checkFromToIndex", "(IIILjava/util/function/BiFunction;)I"⟩
abbrev cJ3_checkFromIndexSize_8c36e : ByteArray := prog_34_method_13_code
def yJ3_checkFromIndexSize_8c36e : MethodName := ⟨RJ3, "checkFromIndexSize", "(IIILjava/util/function/BiFunction;)I"⟩
def RL : String := "NoodleCanalLaw"
abbrev cL_most : ByteArray := method_2_code
def yL_most : MethodName := ⟨RL, "most", "(II)I"⟩
abbrev cL_cell : ByteArray := method_3_code
def yL_cell : MethodName := ⟨RL, "cell", "([II)I"⟩
abbrev cL_add : ByteArray := method_4_code
def yL_add : MethodName := ⟨RL, "add", "(LNoodleCanal;[II)V"⟩
abbrev cL_say : ByteArray := method_5_code
def yL_say : MethodName := ⟨RL, "say", "(LNoodleCanal;[ILjava/lang/String;)V"⟩
abbrev cL_end : ByteArray := method_6_code
def yL_end : MethodName := ⟨RL, "end", "(LNoodleCanal;[I)I"⟩
abbrev cL_all : ByteArray := method_7_code
def yL_all : MethodName := ⟨RL, "all", "(LNoodleCanal;)[I"⟩
abbrev cL_alike : ByteArray := method_8_code
def yL_alike : MethodName := ⟨RL, "alike", "([I[I)Z"⟩
abbrev cL_pairs : ByteArray := method_9_code
def yL_pairs : MethodName := ⟨RL, "pairs", "(LNoodleCanal;)I"⟩
abbrev cL_isCanal : ByteArray := method_10_code
def yL_isCanal : MethodName := ⟨RL, "isCanal", "(LNoodleCanal;)Z"⟩
abbrev cL_act : ByteArray := method_11_code
def yL_act : MethodName := ⟨RL, "act", "(LNoodleCanal;I)Z"⟩
abbrev cL_law : ByteArray := code
def yL_law : MethodName := ⟨RL, "law", "([I)Z"⟩
abbrev vwCl : List vw_C := [(RX1, TX1, 9), (RX2, TX2, 14), (RX4, TX4, 6), (RX5, TX5, 3), (RX6, TX6, 8), (RX8, TX8, 3), (RX9, TX9, 3), (RX10, TX10, 8), (RX12, TX12, 9), (RJ0, TJ0, 4)]
