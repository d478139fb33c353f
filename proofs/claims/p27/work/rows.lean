section
-- ===== PART A: goes FIRST, ahead of the names: the tables' words, and 'selects' of the private methods out of them =====
/-- a private method of a class that the tables say can be made, by its rows of tables_1 -/
def lw_okq (q : MethodName × Nat) : Prop := (q.1.cls ≠ "java/lang/invoke/MethodHandle" ∧ q.1.cls ≠ "java/lang/invoke/VarHandle") ∧ Cond.instantiable q.1.cls q.2 ∈ tables_1 ∧ Cond.privateMethod q.1 ∈ tables_1 ∧ Cond.instanceMethod q.1 ∈ tables_1
def lw_privs : List (MethodName × Nat) := []
def lw_tbl : List Cond := k2_sels lw_privs ++ tables_1
theorem lw_privs_ok : ∀ q ∈ lw_privs, lw_okq q := fun _ h => absurd h List.not_mem_nil
-- ===== end of PART A; then your names; then what follows =====
end
section
/-! ===== BEGIN printed: names, fields, word lists, decode rows ===== -/
def RX0 : String := "TrophyPlates$Forecast"
def TX0 : u_T := fun k => match k with
  | 0 => ("TrophyPlates$Forecast", "copy", "LTrophyPlates$Shop;", true)
  | _ => ("TrophyPlates$Forecast", "doneIn", "[I", true)
def tyX0 : Nat → FieldType := fun k => match k with
  | 0 => .object "TrophyPlates$Shop"
  | _ => .array .int
abbrev wsX00 : List Cond := u_ws RX0 TX0 2
theorem nmX0 : ∀ a, a < 2 → ∀ b, b < 2 → a ≠ b → (TX0 a).2.1 ≠ (TX0 b).2.1 := by decide +kernel
theorem tyX0_ok : ∀ k, k < 2 → parseFieldDescriptor (TX0 k).2.2.1 = some (tyX0 k) := by decide +kernel
abbrev cX0_init : ByteArray := prog_2_method_1_code
def yX0_init : MethodName := ⟨RX0, "<init>", "(LTrophyPlates$Shop;)V"⟩
abbrev cX0_foresee : ByteArray := prog_2_method_2_code
def yX0_foresee : MethodName := ⟨RX0, "foresee", "(LTrophyPlates$Shop;I)V"⟩
def RX1 : String := "TrophyPlates$History"
def TX1 : u_T := fun k => match k with
  | 0 => ("TrophyPlates$History", "states", "[LTrophyPlates$Shop;", true)
  | _ => ("TrophyPlates$History", "stateCount", "I", false)
def tyX1 : Nat → FieldType := fun k => match k with
  | 0 => .array (.object "TrophyPlates$Shop")
  | _ => .int
abbrev wsX10 : List Cond := u_ws RX1 TX1 2
theorem nmX1 : ∀ a, a < 2 → ∀ b, b < 2 → a ≠ b → (TX1 a).2.1 ≠ (TX1 b).2.1 := by decide +kernel
theorem tyX1_ok : ∀ k, k < 2 → parseFieldDescriptor (TX1 k).2.2.1 = some (tyX1 k) := by decide +kernel
abbrev cX1_init : ByteArray := prog_3_method_1_code
def yX1_init : MethodName := ⟨RX1, "<init>", "()V"⟩
abbrev cX1_record : ByteArray := prog_3_method_2_code
def yX1_record : MethodName := ⟨RX1, "record", "(LTrophyPlates$Shop;)V"⟩
abbrev cX1_dropOldest : ByteArray := prog_3_method_3_code
def yX1_dropOldest : MethodName := ⟨RX1, "dropOldest", "()V"⟩
abbrev cX1_restoreLatest : ByteArray := prog_3_method_4_code
def yX1_restoreLatest : MethodName := ⟨RX1, "restoreLatest", "(LTrophyPlates$Shop;)V"⟩
def RX2 : String := "TrophyPlates$Name"
def TX2 : u_T := fun k => match k with
  | 0 => ("TrophyPlates$Name", "letters", "[I", true)
  | _ => ("TrophyPlates$Name", "letterCount", "I", false)
def tyX2 : Nat → FieldType := fun k => match k with
  | 0 => .array .int
  | _ => .int
abbrev wsX20 : List Cond := u_ws RX2 TX2 2
theorem nmX2 : ∀ a, a < 2 → ∀ b, b < 2 → a ≠ b → (TX2 a).2.1 ≠ (TX2 b).2.1 := by decide +kernel
theorem tyX2_ok : ∀ k, k < 2 → parseFieldDescriptor (TX2 k).2.2.1 = some (tyX2 k) := by decide +kernel
abbrev cX2_init : ByteArray := prog_4_method_1_code
def yX2_init : MethodName := ⟨RX2, "<init>", "()V"⟩
abbrev cX2_add : ByteArray := prog_4_method_2_code
def yX2_add : MethodName := ⟨RX2, "add", "(I)V"⟩
abbrev cX2_copyFrom : ByteArray := prog_4_method_3_code
def yX2_copyFrom : MethodName := ⟨RX2, "copyFrom", "(LTrophyPlates$Name;)V"⟩
abbrev cX2_lengthIn : ByteArray := prog_4_method_4_code
def yX2_lengthIn : MethodName := ⟨RX2, "lengthIn", "(I)I"⟩
abbrev cX2_widthOf : ByteArray := prog_4_method_5_code
def yX2_widthOf : MethodName := ⟨RX2, "widthOf", "(I)I"⟩
def RX3 : String := "TrophyPlates$Order"
def TX3 : u_T := fun k => match k with
  | 0 => ("TrophyPlates$Order", "name", "LTrophyPlates$Name;", true)
  | 1 => ("TrophyPlates$Order", "shield", "I", false)
  | 2 => ("TrophyPlates$Order", "year", "I", false)
  | 3 => ("TrophyPlates$Order", "size", "I", false)
  | 4 => ("TrophyPlates$Order", "depth", "I", false)
  | 5 => ("TrophyPlates$Order", "rush", "Z", false)
  | _ => ("TrophyPlates$Order", "numberBefore", "I", false)
def tyX3 : Nat → FieldType := fun k => match k with
  | 0 => .object "TrophyPlates$Name"
  | 1 => .int
  | 2 => .int
  | 3 => .int
  | 4 => .int
  | 5 => .boolean
  | _ => .int
abbrev wsX30 : List Cond := u_ws RX3 TX3 7
theorem nmX3 : ∀ a, a < 7 → ∀ b, b < 7 → a ≠ b → (TX3 a).2.1 ≠ (TX3 b).2.1 := by decide +kernel
theorem tyX3_ok : ∀ k, k < 7 → parseFieldDescriptor (TX3 k).2.2.1 = some (tyX3 k) := by decide +kernel
abbrev cX3_init : ByteArray := prog_5_method_1_code
def yX3_init : MethodName := ⟨RX3, "<init>", "()V"⟩
abbrev cX3_copyFrom : ByteArray := prog_5_method_2_code
def yX3_copyFrom : MethodName := ⟨RX3, "copyFrom", "(LTrophyPlates$Order;)V"⟩
abbrev cX3_nameLength : ByteArray := prog_5_method_3_code
def yX3_nameLength : MethodName := ⟨RX3, "nameLength", "()I"⟩
abbrev cX3_effort : ByteArray := prog_5_method_4_code
def yX3_effort : MethodName := ⟨RX3, "effort", "()I"⟩
def RX4 : String := "TrophyPlates$Plate"
def TX4 : u_T := fun k => match k with
  | 0 => ("TrophyPlates$Plate", "width", "I", false)
  | 1 => ("TrophyPlates$Plate", "thickness", "I", false)
  | 2 => ("TrophyPlates$Plate", "state", "I", false)
  | 3 => ("TrophyPlates$Plate", "front", "I", false)
  | 4 => ("TrophyPlates$Plate", "back", "I", false)
  | 5 => ("TrophyPlates$Plate", "shield", "I", false)
  | _ => ("TrophyPlates$Plate", "year", "I", false)
def tyX4 : Nat → FieldType := fun k => match k with
  | 0 => .int
  | 1 => .int
  | 2 => .int
  | 3 => .int
  | 4 => .int
  | 5 => .int
  | _ => .int
abbrev wsX40 : List Cond := u_ws RX4 TX4 7
theorem nmX4 : ∀ a, a < 7 → ∀ b, b < 7 → a ≠ b → (TX4 a).2.1 ≠ (TX4 b).2.1 := by decide +kernel
theorem tyX4_ok : ∀ k, k < 7 → parseFieldDescriptor (TX4 k).2.2.1 = some (tyX4 k) := by decide +kernel
abbrev cX4_init : ByteArray := prog_6_method_1_code
def yX4_init : MethodName := ⟨RX4, "<init>", "()V"⟩
abbrev cX4_makeNew : ByteArray := prog_6_method_2_code
def yX4_makeNew : MethodName := ⟨RX4, "makeNew", "(II)V"⟩
abbrev cX4_copyFrom : ByteArray := prog_6_method_3_code
def yX4_copyFrom : MethodName := ⟨RX4, "copyFrom", "(LTrophyPlates$Plate;)V"⟩
abbrev cX4_putIntoDrawer : ByteArray := prog_6_method_4_code
def yX4_putIntoDrawer : MethodName := ⟨RX4, "putIntoDrawer", "()V"⟩
abbrev cX4_fixOn : ByteArray := prog_6_method_5_code
def yX4_fixOn : MethodName := ⟨RX4, "fixOn", "(II)V"⟩
abbrev cX4_depthOf : ByteArray := prog_6_method_6_code
def yX4_depthOf : MethodName := ⟨RX4, "depthOf", "(I)I"⟩
abbrev cX4_isBlank : ByteArray := prog_6_method_7_code
def yX4_isBlank : MethodName := ⟨RX4, "isBlank", "(I)Z"⟩
abbrev cX4_engrave : ByteArray := prog_6_method_8_code
def yX4_engrave : MethodName := ⟨RX4, "engrave", "(II)V"⟩
abbrev cX4_grindOff : ByteArray := prog_6_method_9_code
def yX4_grindOff : MethodName := ⟨RX4, "grindOff", "(I)V"⟩
abbrev cX4_bears : ByteArray := prog_6_method_10_code
def yX4_bears : MethodName := ⟨RX4, "bears", "(I)Z"⟩
abbrev cX4_bearsOnceGround : ByteArray := prog_6_method_11_code
def yX4_bearsOnceGround : MethodName := ⟨RX4, "bearsOnceGround", "(I)Z"⟩
abbrev cX4_isReady : ByteArray := prog_6_method_12_code
def yX4_isReady : MethodName := ⟨RX4, "isReady", "(II)Z"⟩
abbrev cX4_canBeGround : ByteArray := prog_6_method_13_code
def yX4_canBeGround : MethodName := ⟨RX4, "canBeGround", "(II)Z"⟩
abbrev cX4_readySide : ByteArray := prog_6_method_14_code
def yX4_readySide : MethodName := ⟨RX4, "readySide", "(I)I"⟩
abbrev cX4_sideToGrind : ByteArray := prog_6_method_15_code
def yX4_sideToGrind : MethodName := ⟨RX4, "sideToGrind", "(I)I"⟩
abbrev cX4_sideFor : ByteArray := prog_6_method_16_code
def yX4_sideFor : MethodName := ⟨RX4, "sideFor", "(I)I"⟩
abbrev cX4_isBetterThan : ByteArray := prog_6_method_17_code
def yX4_isBetterThan : MethodName := ⟨RX4, "isBetterThan", "(LTrophyPlates$Plate;)Z"⟩
def RX5 : String := "TrophyPlates$Shop"
def TX5 : u_T := fun k => match k with
  | 0 => ("TrophyPlates$Shop", "plates", "[LTrophyPlates$Plate;", true)
  | 1 => ("TrophyPlates$Shop", "places", "[I", true)
  | 2 => ("TrophyPlates$Shop", "row", "[LTrophyPlates$Order;", true)
  | 3 => ("TrophyPlates$Shop", "plateCount", "I", false)
  | 4 => ("TrophyPlates$Shop", "shieldCount", "I", false)
  | 5 => ("TrophyPlates$Shop", "orderCount", "I", false)
  | 6 => ("TrophyPlates$Shop", "orderAtWork", "I", false)
  | 7 => ("TrophyPlates$Shop", "plateAtWork", "I", false)
  | 8 => ("TrophyPlates$Shop", "sideAtWork", "I", false)
  | 9 => ("TrophyPlates$Shop", "minutesLeft", "I", false)
  | 10 => ("TrophyPlates$Shop", "ordersDone", "I", false)
  | 11 => ("TrophyPlates$Shop", "slips", "I", false)
  | _ => ("TrophyPlates$Shop", "sidesGround", "I", false)
def tyX5 : Nat → FieldType := fun k => match k with
  | 0 => .array (.object "TrophyPlates$Plate")
  | 1 => .array .int
  | 2 => .array (.object "TrophyPlates$Order")
  | 3 => .int
  | 4 => .int
  | 5 => .int
  | 6 => .int
  | 7 => .int
  | 8 => .int
  | 9 => .int
  | 10 => .int
  | 11 => .int
  | _ => .int
abbrev wsX50 : List Cond := u_ws RX5 TX5 13
theorem nmX5 : ∀ a, a < 13 → ∀ b, b < 13 → a ≠ b → (TX5 a).2.1 ≠ (TX5 b).2.1 := by decide +kernel
theorem tyX5_ok : ∀ k, k < 13 → parseFieldDescriptor (TX5 k).2.2.1 = some (tyX5 k) := by decide +kernel
abbrev cX5_init : ByteArray := prog_7_method_1_code
def yX5_init : MethodName := ⟨RX5, "<init>", "()V"⟩
abbrev cX5_copyFrom : ByteArray := prog_7_method_2_code
def yX5_copyFrom : MethodName := ⟨RX5, "copyFrom", "(LTrophyPlates$Shop;)V"⟩
abbrev cX5_hasPlate : ByteArray := prog_7_method_3_code
def yX5_hasPlate : MethodName := ⟨RX5, "hasPlate", "(I)Z"⟩
abbrev cX5_hasShield : ByteArray := prog_7_method_4_code
def yX5_hasShield : MethodName := ⟨RX5, "hasShield", "(I)Z"⟩
abbrev cX5_hasOrder : ByteArray := prog_7_method_5_code
def yX5_hasOrder : MethodName := ⟨RX5, "hasOrder", "(I)Z"⟩
abbrev cX5_isWorking : ByteArray := prog_7_method_6_code
def yX5_isWorking : MethodName := ⟨RX5, "isWorking", "()Z"⟩
abbrev cX5_addPlate : ByteArray := prog_7_method_7_code
def yX5_addPlate : MethodName := ⟨RX5, "addPlate", "(II)I"⟩
abbrev cX5_hangShield : ByteArray := prog_7_method_8_code
def yX5_hangShield : MethodName := ⟨RX5, "hangShield", "(I)I"⟩
abbrev cX5_grindSide : ByteArray := prog_7_method_9_code
def yX5_grindSide : MethodName := ⟨RX5, "grindSide", "(LTrophyPlates$Plate;I)V"⟩
abbrev cX5_platesIn : ByteArray := prog_7_method_10_code
def yX5_platesIn : MethodName := ⟨RX5, "platesIn", "(I)I"⟩
abbrev cX5_platesOn : ByteArray := prog_7_method_11_code
def yX5_platesOn : MethodName := ⟨RX5, "platesOn", "(I)I"⟩
abbrev cX5_plateOfYear : ByteArray := prog_7_method_12_code
def yX5_plateOfYear : MethodName := ⟨RX5, "plateOfYear", "(II)I"⟩
abbrev cX5_earliestYear : ByteArray := prog_7_method_13_code
def yX5_earliestYear : MethodName := ⟨RX5, "earliestYear", "(I)I"⟩
abbrev cX5_latestYear : ByteArray := prog_7_method_14_code
def yX5_latestYear : MethodName := ⟨RX5, "latestYear", "(I)I"⟩
abbrev cX5_yearsLeftOut : ByteArray := prog_7_method_15_code
def yX5_yearsLeftOut : MethodName := ⟨RX5, "yearsLeftOut", "(I)I"⟩
abbrev cX5_fixPlate : ByteArray := prog_7_method_16_code
def yX5_fixPlate : MethodName := ⟨RX5, "fixPlate", "(LTrophyPlates$Plate;II)V"⟩
abbrev cX5_findPlate : ByteArray := prog_7_method_17_code
def yX5_findPlate : MethodName := ⟨RX5, "findPlate", "(II)I"⟩
abbrev cX5_bestPlate : ByteArray := prog_7_method_18_code
def yX5_bestPlate : MethodName := ⟨RX5, "bestPlate", "(IIZ)I"⟩
abbrev cX5_rushes : ByteArray := prog_7_method_19_code
def yX5_rushes : MethodName := ⟨RX5, "rushes", "()I"⟩
abbrev cX5_isOrdered : ByteArray := prog_7_method_20_code
def yX5_isOrdered : MethodName := ⟨RX5, "isOrdered", "(II)Z"⟩
abbrev cX5_takeInOrder : ByteArray := prog_7_method_21_code
def yX5_takeInOrder : MethodName := ⟨RX5, "takeInOrder", "()I"⟩
abbrev cX5_makeRush : ByteArray := prog_7_method_22_code
def yX5_makeRush : MethodName := ⟨RX5, "makeRush", "(I)I"⟩
abbrev cX5_moveAhead : ByteArray := prog_7_method_23_code
def yX5_moveAhead : MethodName := ⟨RX5, "moveAhead", "(II)V"⟩
abbrev cX5_dropOrder : ByteArray := prog_7_method_24_code
def yX5_dropOrder : MethodName := ⟨RX5, "dropOrder", "(I)V"⟩
abbrev cX5_removeOrder : ByteArray := prog_7_method_25_code
def yX5_removeOrder : MethodName := ⟨RX5, "removeOrder", "(I)V"⟩
abbrev cX5_stopWork : ByteArray := prog_7_method_26_code
def yX5_stopWork : MethodName := ⟨RX5, "stopWork", "()V"⟩
abbrev cX5_spendMinutes : ByteArray := prog_7_method_27_code
def yX5_spendMinutes : MethodName := ⟨RX5, "spendMinutes", "(I)I"⟩
abbrev cX5_takesUpWork : ByteArray := prog_7_method_28_code
def yX5_takesUpWork : MethodName := ⟨RX5, "takesUpWork", "()Z"⟩
abbrev cX5_beginOrder : ByteArray := prog_7_method_29_code
def yX5_beginOrder : MethodName := ⟨RX5, "beginOrder", "(II)V"⟩
abbrev cX5_finishOrder : ByteArray := prog_7_method_30_code
def yX5_finishOrder : MethodName := ⟨RX5, "finishOrder", "()V"⟩
abbrev cX5_misspell : ByteArray := prog_7_method_31_code
def yX5_misspell : MethodName := ⟨RX5, "misspell", "()I"⟩
def RX6 : String := "TrophyPlates"
def TX6 : u_T := fun k => match k with
  | 0 => ("TrophyPlates", "shop", "LTrophyPlates$Shop;", true)
  | 1 => ("TrophyPlates", "history", "LTrophyPlates$History;", true)
  | 2 => ("TrophyPlates", "text", "LTrophyPlates$Name;", true)
  | 3 => ("TrophyPlates", "now", "LTrophyPlates$Forecast;", true)
  | _ => ("TrophyPlates", "then", "LTrophyPlates$Forecast;", true)
def tyX6 : Nat → FieldType := fun k => match k with
  | 0 => .object "TrophyPlates$Shop"
  | 1 => .object "TrophyPlates$History"
  | 2 => .object "TrophyPlates$Name"
  | 3 => .object "TrophyPlates$Forecast"
  | _ => .object "TrophyPlates$Forecast"
abbrev wsX60 : List Cond := u_ws RX6 TX6 5
theorem nmX6 : ∀ a, a < 5 → ∀ b, b < 5 → a ≠ b → (TX6 a).2.1 ≠ (TX6 b).2.1 := by decide +kernel
theorem tyX6_ok : ∀ k, k < 5 → parseFieldDescriptor (TX6 k).2.2.1 = some (tyX6 k) := by decide +kernel
abbrev cX6_init : ByteArray := prog_1_method_1_code
def yX6_init : MethodName := ⟨RX6, "<init>", "()V"⟩
abbrev cX6_cut : ByteArray := prog_1_method_2_code
def yX6_cut : MethodName := ⟨RX6, "cut", "(II)I"⟩
abbrev cX6_spoil : ByteArray := prog_1_method_3_code
def yX6_spoil : MethodName := ⟨RX6, "spoil", "(I)I"⟩
abbrev cX6_grind : ByteArray := prog_1_method_4_code
def yX6_grind : MethodName := ⟨RX6, "grind", "(II)I"⟩
abbrev cX6_addShield : ByteArray := prog_1_method_5_code
def yX6_addShield : MethodName := ⟨RX6, "addShield", "(I)I"⟩
abbrev cX6_takeOff : ByteArray := prog_1_method_6_code
def yX6_takeOff : MethodName := ⟨RX6, "takeOff", "(II)I"⟩
abbrev cX6_append : ByteArray := prog_1_method_7_code
def yX6_append : MethodName := ⟨RX6, "append", "(I)I"⟩
abbrev cX6_clearText : ByteArray := prog_1_method_8_code
def yX6_clearText : MethodName := ⟨RX6, "clearText", "()I"⟩
abbrev cX6_order : ByteArray := prog_1_method_9_code
def yX6_order : MethodName := ⟨RX6, "order", "(IIIII)I"⟩
abbrev cX6_hurry : ByteArray := prog_1_method_10_code
def yX6_hurry : MethodName := ⟨RX6, "hurry", "(I)I"⟩
abbrev cX6_cancel : ByteArray := prog_1_method_11_code
def yX6_cancel : MethodName := ⟨RX6, "cancel", "(I)I"⟩
abbrev cX6_work : ByteArray := prog_1_method_12_code
def yX6_work : MethodName := ⟨RX6, "work", "(I)I"⟩
abbrev cX6_slip : ByteArray := prog_1_method_13_code
def yX6_slip : MethodName := ⟨RX6, "slip", "()I"⟩
abbrev cX6_undo : ByteArray := prog_1_method_14_code
def yX6_undo : MethodName := ⟨RX6, "undo", "()I"⟩
abbrev cX6_count : ByteArray := prog_1_method_15_code
def yX6_count : MethodName := ⟨RX6, "count", "(I)I"⟩
abbrev cX6_plate : ByteArray := prog_1_method_16_code
def yX6_plate : MethodName := ⟨RX6, "plate", "(II)I"⟩
abbrev cX6_shield : ByteArray := prog_1_method_17_code
def yX6_shield : MethodName := ⟨RX6, "shield", "(II)I"⟩
abbrev cX6_plateFor : ByteArray := prog_1_method_18_code
def yX6_plateFor : MethodName := ⟨RX6, "plateFor", "(II)I"⟩
abbrev cX6_orderOf : ByteArray := prog_1_method_19_code
def yX6_orderOf : MethodName := ⟨RX6, "orderOf", "(II)I"⟩
abbrev cX6_letter : ByteArray := prog_1_method_20_code
def yX6_letter : MethodName := ⟨RX6, "letter", "(II)I"⟩
abbrev cX6_lengthOf : ByteArray := prog_1_method_21_code
def yX6_lengthOf : MethodName := ⟨RX6, "lengthOf", "(I)I"⟩
abbrev cX6_doneIn : ByteArray := prog_1_method_23_code
def yX6_doneIn : MethodName := ⟨RX6, "doneIn", "(I)I"⟩
abbrev cX6_isWithin : ByteArray := prog_1_method_26_code
def yX6_isWithin : MethodName := ⟨RX6, "isWithin", "(III)Z"⟩
abbrev cX6_isYear : ByteArray := prog_1_method_27_code
def yX6_isYear : MethodName := ⟨RX6, "isYear", "(I)Z"⟩
abbrev cX6_isSize : ByteArray := prog_1_method_28_code
def yX6_isSize : MethodName := ⟨RX6, "isSize", "(I)Z"⟩
abbrev cX6_isDepth : ByteArray := prog_1_method_29_code
def yX6_isDepth : MethodName := ⟨RX6, "isDepth", "(I)Z"⟩
def RX7 : String := "TrophyPlatesModel"
def TX7 : u_T := fun k => match k with
  | _ => ("", "", "", false)
def tyX7 : Nat → FieldType := fun k => match k with
  | _ => .int
abbrev wsX70 : List Cond := u_ws RX7 TX7 0
theorem nmX7 : ∀ a, a < 0 → ∀ b, b < 0 → a ≠ b → (TX7 a).2.1 ≠ (TX7 b).2.1 := by decide +kernel
theorem tyX7_ok : ∀ k, k < 0 → parseFieldDescriptor (TX7 k).2.2.1 = some (tyX7 k) := by decide +kernel
def RJ9 : String := "java/lang/Math"
def TJ9 : u_T := fun k => match k with
  | _ => ("", "", "", false)
def tyJ9 : Nat → FieldType := fun k => match k with
  | _ => .int
abbrev wsJ90 : List Cond := u_ws RJ9 TJ9 0
theorem nmJ9 : ∀ a, a < 0 → ∀ b, b < 0 → a ≠ b → (TJ9 a).2.1 ≠ (TJ9 b).2.1 := by decide +kernel
theorem tyJ9_ok : ∀ k, k < 0 → parseFieldDescriptor (TJ9 k).2.2.1 = some (tyJ9 k) := by decide +kernel
abbrev cJ9_min_7cf53 : ByteArray := prog_10_method_69_code
def yJ9_min_7cf53 : MethodName := ⟨RJ9, "min", "(II)I"⟩
def RL : String := "TrophyPlatesLaw"
abbrev cL_cell : ByteArray := method_2_code
def yL_cell : MethodName := ⟨RL, "cell", "([II)I"⟩
abbrev cL_low : ByteArray := method_3_code
def yL_low : MethodName := ⟨RL, "low", "(II)I"⟩
abbrev cL_digest : ByteArray := method_4_code
def yL_digest : MethodName := ⟨RL, "digest", "(LTrophyPlates;)J"⟩
abbrev cL_act : ByteArray := method_5_code
def yL_act : MethodName := ⟨RL, "act", "(LTrophyPlates;I)I"⟩
abbrev cL_isRight : ByteArray := method_6_code
def yL_isRight : MethodName := ⟨RL, "isRight", "(LTrophyPlates;)Z"⟩
abbrev cL_isDone : ByteArray := method_7_code
def yL_isDone : MethodName := ⟨RL, "isDone", "(LTrophyPlates;IIIII)Z"⟩
abbrev cL_isForecast : ByteArray := method_8_code
def yL_isForecast : MethodName := ⟨RL, "isForecast", "(LTrophyPlates;)Z"⟩
abbrev cL_law : ByteArray := code
def yL_law : MethodName := ⟨RL, "law", "([I)Z"⟩
abbrev vwCl : List vw_C := [(RX0, TX0, 2), (RX1, TX1, 2), (RX2, TX2, 2), (RX3, TX3, 7), (RX4, TX4, 7), (RX5, TX5, 13), (RX6, TX6, 5)]
end
section
theorem dX0_init_0 : decode cX0_init 0 = .ok (.aload_n 0, 1) := by decide +kernel
theorem dX0_init_1 : decode cX0_init 1 = .ok (.invokespecial 3, 3) := by decide +kernel
theorem dX0_init_4 : decode cX0_init 4 = .ok (.aload_n 0, 1) := by decide +kernel
theorem dX0_init_5 : decode cX0_init 5 = .ok (.bipush 10, 2) := by decide +kernel
theorem dX0_init_7 : decode cX0_init 7 = .ok (.newarray .int, 2) := by decide +kernel
theorem dX0_init_9 : decode cX0_init 9 = .ok (.putfield 9, 3) := by decide +kernel
theorem dX0_init_12 : decode cX0_init 12 = .ok (.aload_n 0, 1) := by decide +kernel
theorem dX0_init_13 : decode cX0_init 13 = .ok (.aload_n 1, 1) := by decide +kernel
theorem dX0_init_14 : decode cX0_init 14 = .ok (.putfield 15, 3) := by decide +kernel
theorem dX0_init_17 : decode cX0_init 17 = .ok (.return_, 1) := by decide +kernel
theorem dX0_foresee_0 : decode cX0_foresee 0 = .ok (.aload_n 0, 1) := by decide +kernel
theorem dX0_foresee_1 : decode cX0_foresee 1 = .ok (.getfield 15, 3) := by decide +kernel
theorem dX0_foresee_4 : decode cX0_foresee 4 = .ok (.aload_n 1, 1) := by decide +kernel
theorem dX0_foresee_5 : decode cX0_foresee 5 = .ok (.invokevirtual 19, 3) := by decide +kernel
theorem dX0_foresee_8 : decode cX0_foresee 8 = .ok (.iconst 0, 1) := by decide +kernel
theorem dX0_foresee_9 : decode cX0_foresee 9 = .ok (.istore_n 3, 1) := by decide +kernel
theorem dX0_foresee_10 : decode cX0_foresee 10 = .ok (.iload_n 3, 1) := by decide +kernel
theorem dX0_foresee_11 : decode cX0_foresee 11 = .ok (.bipush 10, 2) := by decide +kernel
theorem dX0_foresee_13 : decode cX0_foresee 13 = .ok (.if_icmp .ge 30, 3) := by decide +kernel
theorem dX0_foresee_16 : decode cX0_foresee 16 = .ok (.aload_n 0, 1) := by decide +kernel
theorem dX0_foresee_17 : decode cX0_foresee 17 = .ok (.getfield 15, 3) := by decide +kernel
theorem dX0_foresee_20 : decode cX0_foresee 20 = .ok (.getfield 25, 3) := by decide +kernel
theorem dX0_foresee_23 : decode cX0_foresee 23 = .ok (.iload_n 3, 1) := by decide +kernel
theorem dX0_foresee_24 : decode cX0_foresee 24 = .ok (.aaload, 1) := by decide +kernel
theorem dX0_foresee_25 : decode cX0_foresee 25 = .ok (.iload_n 3, 1) := by decide +kernel
theorem dX0_foresee_26 : decode cX0_foresee 26 = .ok (.putfield 29, 3) := by decide +kernel
theorem dX0_foresee_29 : decode cX0_foresee 29 = .ok (.aload_n 0, 1) := by decide +kernel
theorem dX0_foresee_30 : decode cX0_foresee 30 = .ok (.getfield 9, 3) := by decide +kernel
theorem dX0_foresee_33 : decode cX0_foresee 33 = .ok (.iload_n 3, 1) := by decide +kernel
theorem dX0_foresee_34 : decode cX0_foresee 34 = .ok (.bipush (-9), 2) := by decide +kernel
theorem dX0_foresee_36 : decode cX0_foresee 36 = .ok (.iastore, 1) := by decide +kernel
theorem dX0_foresee_37 : decode cX0_foresee 37 = .ok (.iinc 3 1, 3) := by decide +kernel
theorem dX0_foresee_40 : decode cX0_foresee 40 = .ok (.goto (-30), 3) := by decide +kernel
theorem dX0_foresee_43 : decode cX0_foresee 43 = .ok (.aload_n 0, 1) := by decide +kernel
theorem dX0_foresee_44 : decode cX0_foresee 44 = .ok (.getfield 15, 3) := by decide +kernel
theorem dX0_foresee_47 : decode cX0_foresee 47 = .ok (.iload_n 2, 1) := by decide +kernel
theorem dX0_foresee_48 : decode cX0_foresee 48 = .ok (.invokevirtual 35, 3) := by decide +kernel
theorem dX0_foresee_51 : decode cX0_foresee 51 = .ok (.ifCond .eq 12, 3) := by decide +kernel
theorem dX0_foresee_54 : decode cX0_foresee 54 = .ok (.aload_n 0, 1) := by decide +kernel
theorem dX0_foresee_55 : decode cX0_foresee 55 = .ok (.getfield 15, 3) := by decide +kernel
theorem dX0_foresee_58 : decode cX0_foresee 58 = .ok (.iload_n 2, 1) := by decide +kernel
theorem dX0_foresee_59 : decode cX0_foresee 59 = .ok (.invokevirtual 39, 3) := by decide +kernel
theorem dX0_foresee_62 : decode cX0_foresee 62 = .ok (.pop, 1) := by decide +kernel
theorem dX0_foresee_63 : decode cX0_foresee 63 = .ok (.iconst 0, 1) := by decide +kernel
theorem dX0_foresee_64 : decode cX0_foresee 64 = .ok (.istore_n 3, 1) := by decide +kernel
theorem dX0_foresee_65 : decode cX0_foresee 65 = .ok (.iconst 0, 1) := by decide +kernel
theorem dX0_foresee_66 : decode cX0_foresee 66 = .ok (.istore 4, 2) := by decide +kernel
theorem dX0_foresee_68 : decode cX0_foresee 68 = .ok (.iload 4, 2) := by decide +kernel
theorem dX0_foresee_70 : decode cX0_foresee 70 = .ok (.bipush 10, 2) := by decide +kernel
theorem dX0_foresee_72 : decode cX0_foresee 72 = .ok (.if_icmp .ge 60, 3) := by decide +kernel
theorem dX0_foresee_75 : decode cX0_foresee 75 = .ok (.aload_n 0, 1) := by decide +kernel
theorem dX0_foresee_76 : decode cX0_foresee 76 = .ok (.getfield 15, 3) := by decide +kernel
theorem dX0_foresee_79 : decode cX0_foresee 79 = .ok (.invokevirtual 43, 3) := by decide +kernel
theorem dX0_foresee_82 : decode cX0_foresee 82 = .ok (.ifCond .eq 50, 3) := by decide +kernel
theorem dX0_foresee_85 : decode cX0_foresee 85 = .ok (.iload_n 3, 1) := by decide +kernel
theorem dX0_foresee_86 : decode cX0_foresee 86 = .ok (.aload_n 0, 1) := by decide +kernel
theorem dX0_foresee_87 : decode cX0_foresee 87 = .ok (.getfield 15, 3) := by decide +kernel
theorem dX0_foresee_90 : decode cX0_foresee 90 = .ok (.getfield 47, 3) := by decide +kernel
theorem dX0_foresee_93 : decode cX0_foresee 93 = .ok (.iadd, 1) := by decide +kernel
theorem dX0_foresee_94 : decode cX0_foresee 94 = .ok (.istore_n 3, 1) := by decide +kernel
theorem dX0_foresee_95 : decode cX0_foresee 95 = .ok (.aload_n 0, 1) := by decide +kernel
theorem dX0_foresee_96 : decode cX0_foresee 96 = .ok (.getfield 9, 3) := by decide +kernel
theorem dX0_foresee_99 : decode cX0_foresee 99 = .ok (.aload_n 0, 1) := by decide +kernel
theorem dX0_foresee_100 : decode cX0_foresee 100 = .ok (.getfield 15, 3) := by decide +kernel
theorem dX0_foresee_103 : decode cX0_foresee 103 = .ok (.getfield 25, 3) := by decide +kernel
theorem dX0_foresee_106 : decode cX0_foresee 106 = .ok (.aload_n 0, 1) := by decide +kernel
theorem dX0_foresee_107 : decode cX0_foresee 107 = .ok (.getfield 15, 3) := by decide +kernel
theorem dX0_foresee_110 : decode cX0_foresee 110 = .ok (.getfield 50, 3) := by decide +kernel
theorem dX0_foresee_113 : decode cX0_foresee 113 = .ok (.aaload, 1) := by decide +kernel
theorem dX0_foresee_114 : decode cX0_foresee 114 = .ok (.getfield 29, 3) := by decide +kernel
theorem dX0_foresee_117 : decode cX0_foresee 117 = .ok (.iload_n 3, 1) := by decide +kernel
theorem dX0_foresee_118 : decode cX0_foresee 118 = .ok (.iastore, 1) := by decide +kernel
theorem dX0_foresee_119 : decode cX0_foresee 119 = .ok (.aload_n 0, 1) := by decide +kernel
theorem dX0_foresee_120 : decode cX0_foresee 120 = .ok (.getfield 15, 3) := by decide +kernel
theorem dX0_foresee_123 : decode cX0_foresee 123 = .ok (.invokevirtual 53, 3) := by decide +kernel
theorem dX0_foresee_126 : decode cX0_foresee 126 = .ok (.iinc 4 1, 3) := by decide +kernel
theorem dX0_foresee_129 : decode cX0_foresee 129 = .ok (.goto (-61), 3) := by decide +kernel
theorem dX0_foresee_132 : decode cX0_foresee 132 = .ok (.return_, 1) := by decide +kernel
theorem dX1_init_0 : decode cX1_init 0 = .ok (.aload_n 0, 1) := by decide +kernel
theorem dX1_init_1 : decode cX1_init 1 = .ok (.invokespecial 3, 3) := by decide +kernel
theorem dX1_init_4 : decode cX1_init 4 = .ok (.aload_n 0, 1) := by decide +kernel
theorem dX1_init_5 : decode cX1_init 5 = .ok (.iconst 5, 1) := by decide +kernel
theorem dX1_init_6 : decode cX1_init 6 = .ok (.anewarray 9, 3) := by decide +kernel
theorem dX1_init_9 : decode cX1_init 9 = .ok (.putfield 11, 3) := by decide +kernel
theorem dX1_init_12 : decode cX1_init 12 = .ok (.iconst 0, 1) := by decide +kernel
theorem dX1_init_13 : decode cX1_init 13 = .ok (.istore_n 1, 1) := by decide +kernel
theorem dX1_init_14 : decode cX1_init 14 = .ok (.iload_n 1, 1) := by decide +kernel
theorem dX1_init_15 : decode cX1_init 15 = .ok (.iconst 5, 1) := by decide +kernel
theorem dX1_init_16 : decode cX1_init 16 = .ok (.if_icmp .ge 22, 3) := by decide +kernel
theorem dX1_init_19 : decode cX1_init 19 = .ok (.aload_n 0, 1) := by decide +kernel
theorem dX1_init_20 : decode cX1_init 20 = .ok (.getfield 11, 3) := by decide +kernel
theorem dX1_init_23 : decode cX1_init 23 = .ok (.iload_n 1, 1) := by decide +kernel
theorem dX1_init_24 : decode cX1_init 24 = .ok (.new 9, 3) := by decide +kernel
theorem dX1_init_27 : decode cX1_init 27 = .ok (.dup, 1) := by decide +kernel
theorem dX1_init_28 : decode cX1_init 28 = .ok (.invokespecial 17, 3) := by decide +kernel
theorem dX1_init_31 : decode cX1_init 31 = .ok (.aastore, 1) := by decide +kernel
theorem dX1_init_32 : decode cX1_init 32 = .ok (.iinc 1 1, 3) := by decide +kernel
theorem dX1_init_35 : decode cX1_init 35 = .ok (.goto (-21), 3) := by decide +kernel
theorem dX1_init_38 : decode cX1_init 38 = .ok (.return_, 1) := by decide +kernel
theorem dX1_record_0 : decode cX1_record 0 = .ok (.aload_n 0, 1) := by decide +kernel
theorem dX1_record_1 : decode cX1_record 1 = .ok (.getfield 18, 3) := by decide +kernel
theorem dX1_record_4 : decode cX1_record 4 = .ok (.iconst 5, 1) := by decide +kernel
theorem dX1_record_5 : decode cX1_record 5 = .ok (.if_icmp .lt 7, 3) := by decide +kernel
theorem dX1_record_8 : decode cX1_record 8 = .ok (.aload_n 0, 1) := by decide +kernel
theorem dX1_record_9 : decode cX1_record 9 = .ok (.invokevirtual 22, 3) := by decide +kernel
theorem dX1_record_12 : decode cX1_record 12 = .ok (.aload_n 0, 1) := by decide +kernel
theorem dX1_record_13 : decode cX1_record 13 = .ok (.getfield 11, 3) := by decide +kernel
theorem dX1_record_16 : decode cX1_record 16 = .ok (.aload_n 0, 1) := by decide +kernel
theorem dX1_record_17 : decode cX1_record 17 = .ok (.getfield 18, 3) := by decide +kernel
theorem dX1_record_20 : decode cX1_record 20 = .ok (.aaload, 1) := by decide +kernel
theorem dX1_record_21 : decode cX1_record 21 = .ok (.aload_n 1, 1) := by decide +kernel
theorem dX1_record_22 : decode cX1_record 22 = .ok (.invokevirtual 25, 3) := by decide +kernel
theorem dX1_record_25 : decode cX1_record 25 = .ok (.aload_n 0, 1) := by decide +kernel
theorem dX1_record_26 : decode cX1_record 26 = .ok (.dup, 1) := by decide +kernel
theorem dX1_record_27 : decode cX1_record 27 = .ok (.getfield 18, 3) := by decide +kernel
theorem dX1_record_30 : decode cX1_record 30 = .ok (.iconst 1, 1) := by decide +kernel
theorem dX1_record_31 : decode cX1_record 31 = .ok (.iadd, 1) := by decide +kernel
theorem dX1_record_32 : decode cX1_record 32 = .ok (.putfield 18, 3) := by decide +kernel
theorem dX1_record_35 : decode cX1_record 35 = .ok (.return_, 1) := by decide +kernel
theorem dX1_dropOldest_0 : decode cX1_dropOldest 0 = .ok (.aload_n 0, 1) := by decide +kernel
theorem dX1_dropOldest_1 : decode cX1_dropOldest 1 = .ok (.getfield 11, 3) := by decide +kernel
theorem dX1_dropOldest_4 : decode cX1_dropOldest 4 = .ok (.iconst 0, 1) := by decide +kernel
theorem dX1_dropOldest_5 : decode cX1_dropOldest 5 = .ok (.aaload, 1) := by decide +kernel
theorem dX1_dropOldest_6 : decode cX1_dropOldest 6 = .ok (.astore_n 1, 1) := by decide +kernel
theorem dX1_dropOldest_7 : decode cX1_dropOldest 7 = .ok (.iconst 1, 1) := by decide +kernel
theorem dX1_dropOldest_8 : decode cX1_dropOldest 8 = .ok (.istore_n 2, 1) := by decide +kernel
theorem dX1_dropOldest_9 : decode cX1_dropOldest 9 = .ok (.iload_n 2, 1) := by decide +kernel
theorem dX1_dropOldest_10 : decode cX1_dropOldest 10 = .ok (.iconst 5, 1) := by decide +kernel
theorem dX1_dropOldest_11 : decode cX1_dropOldest 11 = .ok (.if_icmp .ge 23, 3) := by decide +kernel
theorem dX1_dropOldest_14 : decode cX1_dropOldest 14 = .ok (.aload_n 0, 1) := by decide +kernel
theorem dX1_dropOldest_15 : decode cX1_dropOldest 15 = .ok (.getfield 11, 3) := by decide +kernel
theorem dX1_dropOldest_18 : decode cX1_dropOldest 18 = .ok (.iload_n 2, 1) := by decide +kernel
theorem dX1_dropOldest_19 : decode cX1_dropOldest 19 = .ok (.iconst 1, 1) := by decide +kernel
theorem dX1_dropOldest_20 : decode cX1_dropOldest 20 = .ok (.isub, 1) := by decide +kernel
theorem dX1_dropOldest_21 : decode cX1_dropOldest 21 = .ok (.aload_n 0, 1) := by decide +kernel
theorem dX1_dropOldest_22 : decode cX1_dropOldest 22 = .ok (.getfield 11, 3) := by decide +kernel
theorem dX1_dropOldest_25 : decode cX1_dropOldest 25 = .ok (.iload_n 2, 1) := by decide +kernel
theorem dX1_dropOldest_26 : decode cX1_dropOldest 26 = .ok (.aaload, 1) := by decide +kernel
theorem dX1_dropOldest_27 : decode cX1_dropOldest 27 = .ok (.aastore, 1) := by decide +kernel
theorem dX1_dropOldest_28 : decode cX1_dropOldest 28 = .ok (.iinc 2 1, 3) := by decide +kernel
theorem dX1_dropOldest_31 : decode cX1_dropOldest 31 = .ok (.goto (-22), 3) := by decide +kernel
theorem dX1_dropOldest_34 : decode cX1_dropOldest 34 = .ok (.aload_n 0, 1) := by decide +kernel
theorem dX1_dropOldest_35 : decode cX1_dropOldest 35 = .ok (.getfield 11, 3) := by decide +kernel
theorem dX1_dropOldest_38 : decode cX1_dropOldest 38 = .ok (.iconst 4, 1) := by decide +kernel
theorem dX1_dropOldest_39 : decode cX1_dropOldest 39 = .ok (.aload_n 1, 1) := by decide +kernel
theorem dX1_dropOldest_40 : decode cX1_dropOldest 40 = .ok (.aastore, 1) := by decide +kernel
theorem dX1_dropOldest_41 : decode cX1_dropOldest 41 = .ok (.aload_n 0, 1) := by decide +kernel
theorem dX1_dropOldest_42 : decode cX1_dropOldest 42 = .ok (.dup, 1) := by decide +kernel
theorem dX1_dropOldest_43 : decode cX1_dropOldest 43 = .ok (.getfield 18, 3) := by decide +kernel
theorem dX1_dropOldest_46 : decode cX1_dropOldest 46 = .ok (.iconst 1, 1) := by decide +kernel
theorem dX1_dropOldest_47 : decode cX1_dropOldest 47 = .ok (.isub, 1) := by decide +kernel
theorem dX1_dropOldest_48 : decode cX1_dropOldest 48 = .ok (.putfield 18, 3) := by decide +kernel
theorem dX1_dropOldest_51 : decode cX1_dropOldest 51 = .ok (.return_, 1) := by decide +kernel
theorem dX1_restoreLatest_0 : decode cX1_restoreLatest 0 = .ok (.aload_n 0, 1) := by decide +kernel
theorem dX1_restoreLatest_1 : decode cX1_restoreLatest 1 = .ok (.getfield 18, 3) := by decide +kernel
theorem dX1_restoreLatest_4 : decode cX1_restoreLatest 4 = .ok (.ifCond .le 26, 3) := by decide +kernel
theorem dX1_restoreLatest_7 : decode cX1_restoreLatest 7 = .ok (.aload_n 0, 1) := by decide +kernel
theorem dX1_restoreLatest_8 : decode cX1_restoreLatest 8 = .ok (.dup, 1) := by decide +kernel
theorem dX1_restoreLatest_9 : decode cX1_restoreLatest 9 = .ok (.getfield 18, 3) := by decide +kernel
theorem dX1_restoreLatest_12 : decode cX1_restoreLatest 12 = .ok (.iconst 1, 1) := by decide +kernel
theorem dX1_restoreLatest_13 : decode cX1_restoreLatest 13 = .ok (.isub, 1) := by decide +kernel
theorem dX1_restoreLatest_14 : decode cX1_restoreLatest 14 = .ok (.putfield 18, 3) := by decide +kernel
theorem dX1_restoreLatest_17 : decode cX1_restoreLatest 17 = .ok (.aload_n 1, 1) := by decide +kernel
theorem dX1_restoreLatest_18 : decode cX1_restoreLatest 18 = .ok (.aload_n 0, 1) := by decide +kernel
theorem dX1_restoreLatest_19 : decode cX1_restoreLatest 19 = .ok (.getfield 11, 3) := by decide +kernel
theorem dX1_restoreLatest_22 : decode cX1_restoreLatest 22 = .ok (.aload_n 0, 1) := by decide +kernel
theorem dX1_restoreLatest_23 : decode cX1_restoreLatest 23 = .ok (.getfield 18, 3) := by decide +kernel
theorem dX1_restoreLatest_26 : decode cX1_restoreLatest 26 = .ok (.aaload, 1) := by decide +kernel
theorem dX1_restoreLatest_27 : decode cX1_restoreLatest 27 = .ok (.invokevirtual 25, 3) := by decide +kernel
theorem dX1_restoreLatest_30 : decode cX1_restoreLatest 30 = .ok (.return_, 1) := by decide +kernel
theorem dX2_init_0 : decode cX2_init 0 = .ok (.aload_n 0, 1) := by decide +kernel
theorem dX2_init_1 : decode cX2_init 1 = .ok (.invokespecial 3, 3) := by decide +kernel
theorem dX2_init_4 : decode cX2_init 4 = .ok (.aload_n 0, 1) := by decide +kernel
theorem dX2_init_5 : decode cX2_init 5 = .ok (.bipush 12, 2) := by decide +kernel
theorem dX2_init_7 : decode cX2_init 7 = .ok (.newarray .int, 2) := by decide +kernel
theorem dX2_init_9 : decode cX2_init 9 = .ok (.putfield 9, 3) := by decide +kernel
theorem dX2_init_12 : decode cX2_init 12 = .ok (.return_, 1) := by decide +kernel
theorem dX2_add_0 : decode cX2_add 0 = .ok (.aload_n 0, 1) := by decide +kernel
theorem dX2_add_1 : decode cX2_add 1 = .ok (.getfield 15, 3) := by decide +kernel
theorem dX2_add_4 : decode cX2_add 4 = .ok (.bipush 12, 2) := by decide +kernel
theorem dX2_add_6 : decode cX2_add 6 = .ok (.if_icmp .ge 23, 3) := by decide +kernel
theorem dX2_add_9 : decode cX2_add 9 = .ok (.aload_n 0, 1) := by decide +kernel
theorem dX2_add_10 : decode cX2_add 10 = .ok (.getfield 9, 3) := by decide +kernel
theorem dX2_add_13 : decode cX2_add 13 = .ok (.aload_n 0, 1) := by decide +kernel
theorem dX2_add_14 : decode cX2_add 14 = .ok (.getfield 15, 3) := by decide +kernel
theorem dX2_add_17 : decode cX2_add 17 = .ok (.iload_n 1, 1) := by decide +kernel
theorem dX2_add_18 : decode cX2_add 18 = .ok (.iastore, 1) := by decide +kernel
theorem dX2_add_19 : decode cX2_add 19 = .ok (.aload_n 0, 1) := by decide +kernel
theorem dX2_add_20 : decode cX2_add 20 = .ok (.dup, 1) := by decide +kernel
theorem dX2_add_21 : decode cX2_add 21 = .ok (.getfield 15, 3) := by decide +kernel
theorem dX2_add_24 : decode cX2_add 24 = .ok (.iconst 1, 1) := by decide +kernel
theorem dX2_add_25 : decode cX2_add 25 = .ok (.iadd, 1) := by decide +kernel
theorem dX2_add_26 : decode cX2_add 26 = .ok (.putfield 15, 3) := by decide +kernel
theorem dX2_add_29 : decode cX2_add 29 = .ok (.return_, 1) := by decide +kernel
theorem dX2_copyFrom_0 : decode cX2_copyFrom 0 = .ok (.aload_n 0, 1) := by decide +kernel
theorem dX2_copyFrom_1 : decode cX2_copyFrom 1 = .ok (.aload_n 1, 1) := by decide +kernel
theorem dX2_copyFrom_2 : decode cX2_copyFrom 2 = .ok (.getfield 15, 3) := by decide +kernel
theorem dX2_copyFrom_5 : decode cX2_copyFrom 5 = .ok (.putfield 15, 3) := by decide +kernel
theorem dX2_copyFrom_8 : decode cX2_copyFrom 8 = .ok (.iconst 0, 1) := by decide +kernel
theorem dX2_copyFrom_9 : decode cX2_copyFrom 9 = .ok (.istore_n 2, 1) := by decide +kernel
theorem dX2_copyFrom_10 : decode cX2_copyFrom 10 = .ok (.iload_n 2, 1) := by decide +kernel
theorem dX2_copyFrom_11 : decode cX2_copyFrom 11 = .ok (.bipush 12, 2) := by decide +kernel
theorem dX2_copyFrom_13 : decode cX2_copyFrom 13 = .ok (.if_icmp .ge 21, 3) := by decide +kernel
theorem dX2_copyFrom_16 : decode cX2_copyFrom 16 = .ok (.aload_n 0, 1) := by decide +kernel
theorem dX2_copyFrom_17 : decode cX2_copyFrom 17 = .ok (.getfield 9, 3) := by decide +kernel
theorem dX2_copyFrom_20 : decode cX2_copyFrom 20 = .ok (.iload_n 2, 1) := by decide +kernel
theorem dX2_copyFrom_21 : decode cX2_copyFrom 21 = .ok (.aload_n 1, 1) := by decide +kernel
theorem dX2_copyFrom_22 : decode cX2_copyFrom 22 = .ok (.getfield 9, 3) := by decide +kernel
theorem dX2_copyFrom_25 : decode cX2_copyFrom 25 = .ok (.iload_n 2, 1) := by decide +kernel
theorem dX2_copyFrom_26 : decode cX2_copyFrom 26 = .ok (.iaload, 1) := by decide +kernel
theorem dX2_copyFrom_27 : decode cX2_copyFrom 27 = .ok (.iastore, 1) := by decide +kernel
theorem dX2_copyFrom_28 : decode cX2_copyFrom 28 = .ok (.iinc 2 1, 3) := by decide +kernel
theorem dX2_copyFrom_31 : decode cX2_copyFrom 31 = .ok (.goto (-21), 3) := by decide +kernel
theorem dX2_copyFrom_34 : decode cX2_copyFrom 34 = .ok (.return_, 1) := by decide +kernel
theorem dX2_lengthIn_0 : decode cX2_lengthIn 0 = .ok (.aload_n 0, 1) := by decide +kernel
theorem dX2_lengthIn_1 : decode cX2_lengthIn 1 = .ok (.getfield 15, 3) := by decide +kernel
theorem dX2_lengthIn_4 : decode cX2_lengthIn 4 = .ok (.ifCond .ne 5, 3) := by decide +kernel
theorem dX2_lengthIn_7 : decode cX2_lengthIn 7 = .ok (.iconst 0, 1) := by decide +kernel
theorem dX2_lengthIn_8 : decode cX2_lengthIn 8 = .ok (.ireturn, 1) := by decide +kernel
theorem dX2_lengthIn_9 : decode cX2_lengthIn 9 = .ok (.aload_n 0, 1) := by decide +kernel
theorem dX2_lengthIn_10 : decode cX2_lengthIn 10 = .ok (.getfield 15, 3) := by decide +kernel
theorem dX2_lengthIn_13 : decode cX2_lengthIn 13 = .ok (.iconst 1, 1) := by decide +kernel
theorem dX2_lengthIn_14 : decode cX2_lengthIn 14 = .ok (.isub, 1) := by decide +kernel
theorem dX2_lengthIn_15 : decode cX2_lengthIn 15 = .ok (.istore_n 2, 1) := by decide +kernel
theorem dX2_lengthIn_16 : decode cX2_lengthIn 16 = .ok (.iload_n 2, 1) := by decide +kernel
theorem dX2_lengthIn_17 : decode cX2_lengthIn 17 = .ok (.istore_n 3, 1) := by decide +kernel
theorem dX2_lengthIn_18 : decode cX2_lengthIn 18 = .ok (.iconst 0, 1) := by decide +kernel
theorem dX2_lengthIn_19 : decode cX2_lengthIn 19 = .ok (.istore 4, 2) := by decide +kernel
theorem dX2_lengthIn_21 : decode cX2_lengthIn 21 = .ok (.iload 4, 2) := by decide +kernel
theorem dX2_lengthIn_23 : decode cX2_lengthIn 23 = .ok (.aload_n 0, 1) := by decide +kernel
theorem dX2_lengthIn_24 : decode cX2_lengthIn 24 = .ok (.getfield 15, 3) := by decide +kernel
theorem dX2_lengthIn_27 : decode cX2_lengthIn 27 = .ok (.if_icmp .ge 22, 3) := by decide +kernel
theorem dX2_lengthIn_30 : decode cX2_lengthIn 30 = .ok (.iload_n 3, 1) := by decide +kernel
theorem dX2_lengthIn_31 : decode cX2_lengthIn 31 = .ok (.aload_n 0, 1) := by decide +kernel
theorem dX2_lengthIn_32 : decode cX2_lengthIn 32 = .ok (.getfield 9, 3) := by decide +kernel
theorem dX2_lengthIn_35 : decode cX2_lengthIn 35 = .ok (.iload 4, 2) := by decide +kernel
theorem dX2_lengthIn_37 : decode cX2_lengthIn 37 = .ok (.iaload, 1) := by decide +kernel
theorem dX2_lengthIn_38 : decode cX2_lengthIn 38 = .ok (.invokestatic 19, 3) := by decide +kernel
theorem dX2_lengthIn_41 : decode cX2_lengthIn 41 = .ok (.iadd, 1) := by decide +kernel
theorem dX2_lengthIn_42 : decode cX2_lengthIn 42 = .ok (.istore_n 3, 1) := by decide +kernel
theorem dX2_lengthIn_43 : decode cX2_lengthIn 43 = .ok (.iinc 4 1, 3) := by decide +kernel
theorem dX2_lengthIn_46 : decode cX2_lengthIn 46 = .ok (.goto (-25), 3) := by decide +kernel
theorem dX2_lengthIn_49 : decode cX2_lengthIn 49 = .ok (.iload_n 3, 1) := by decide +kernel
theorem dX2_lengthIn_50 : decode cX2_lengthIn 50 = .ok (.iload_n 1, 1) := by decide +kernel
theorem dX2_lengthIn_51 : decode cX2_lengthIn 51 = .ok (.imul, 1) := by decide +kernel
theorem dX2_lengthIn_52 : decode cX2_lengthIn 52 = .ok (.ireturn, 1) := by decide +kernel
theorem dX2_widthOf_0 : decode cX2_widthOf 0 = .ok (.iload_n 0, 1) := by decide +kernel
theorem dX2_widthOf_1 : decode cX2_widthOf 1 = .ok (.tableswitch 91 102 119 #[87, 91, 91, 87, 87, 91, 87, 89, 91, 91, 91, 91, 87, 91, 87, 91, 91, 89], 87) := by decide +kernel
theorem dX2_widthOf_88 : decode cX2_widthOf 88 = .ok (.iconst 2, 1) := by decide +kernel
theorem dX2_widthOf_89 : decode cX2_widthOf 89 = .ok (.ireturn, 1) := by decide +kernel
theorem dX2_widthOf_90 : decode cX2_widthOf 90 = .ok (.iconst 5, 1) := by decide +kernel
theorem dX2_widthOf_91 : decode cX2_widthOf 91 = .ok (.ireturn, 1) := by decide +kernel
theorem dX2_widthOf_92 : decode cX2_widthOf 92 = .ok (.iconst 4, 1) := by decide +kernel
theorem dX2_widthOf_93 : decode cX2_widthOf 93 = .ok (.ireturn, 1) := by decide +kernel
theorem dX3_init_0 : decode cX3_init 0 = .ok (.aload_n 0, 1) := by decide +kernel
theorem dX3_init_1 : decode cX3_init 1 = .ok (.invokespecial 1, 3) := by decide +kernel
theorem dX3_init_4 : decode cX3_init 4 = .ok (.aload_n 0, 1) := by decide +kernel
theorem dX3_init_5 : decode cX3_init 5 = .ok (.new 7, 3) := by decide +kernel
theorem dX3_init_8 : decode cX3_init 8 = .ok (.dup, 1) := by decide +kernel
theorem dX3_init_9 : decode cX3_init 9 = .ok (.invokespecial 9, 3) := by decide +kernel
theorem dX3_init_12 : decode cX3_init 12 = .ok (.putfield 10, 3) := by decide +kernel
theorem dX3_init_15 : decode cX3_init 15 = .ok (.return_, 1) := by decide +kernel
theorem dX3_copyFrom_0 : decode cX3_copyFrom 0 = .ok (.aload_n 0, 1) := by decide +kernel
theorem dX3_copyFrom_1 : decode cX3_copyFrom 1 = .ok (.getfield 10, 3) := by decide +kernel
theorem dX3_copyFrom_4 : decode cX3_copyFrom 4 = .ok (.aload_n 1, 1) := by decide +kernel
theorem dX3_copyFrom_5 : decode cX3_copyFrom 5 = .ok (.getfield 10, 3) := by decide +kernel
theorem dX3_copyFrom_8 : decode cX3_copyFrom 8 = .ok (.invokevirtual 16, 3) := by decide +kernel
theorem dX3_copyFrom_11 : decode cX3_copyFrom 11 = .ok (.aload_n 0, 1) := by decide +kernel
theorem dX3_copyFrom_12 : decode cX3_copyFrom 12 = .ok (.aload_n 1, 1) := by decide +kernel
theorem dX3_copyFrom_13 : decode cX3_copyFrom 13 = .ok (.getfield 20, 3) := by decide +kernel
theorem dX3_copyFrom_16 : decode cX3_copyFrom 16 = .ok (.putfield 20, 3) := by decide +kernel
theorem dX3_copyFrom_19 : decode cX3_copyFrom 19 = .ok (.aload_n 0, 1) := by decide +kernel
theorem dX3_copyFrom_20 : decode cX3_copyFrom 20 = .ok (.aload_n 1, 1) := by decide +kernel
theorem dX3_copyFrom_21 : decode cX3_copyFrom 21 = .ok (.getfield 24, 3) := by decide +kernel
theorem dX3_copyFrom_24 : decode cX3_copyFrom 24 = .ok (.putfield 24, 3) := by decide +kernel
theorem dX3_copyFrom_27 : decode cX3_copyFrom 27 = .ok (.aload_n 0, 1) := by decide +kernel
theorem dX3_copyFrom_28 : decode cX3_copyFrom 28 = .ok (.aload_n 1, 1) := by decide +kernel
theorem dX3_copyFrom_29 : decode cX3_copyFrom 29 = .ok (.getfield 27, 3) := by decide +kernel
theorem dX3_copyFrom_32 : decode cX3_copyFrom 32 = .ok (.putfield 27, 3) := by decide +kernel
theorem dX3_copyFrom_35 : decode cX3_copyFrom 35 = .ok (.aload_n 0, 1) := by decide +kernel
theorem dX3_copyFrom_36 : decode cX3_copyFrom 36 = .ok (.aload_n 1, 1) := by decide +kernel
theorem dX3_copyFrom_37 : decode cX3_copyFrom 37 = .ok (.getfield 30, 3) := by decide +kernel
theorem dX3_copyFrom_40 : decode cX3_copyFrom 40 = .ok (.putfield 30, 3) := by decide +kernel
theorem dX3_copyFrom_43 : decode cX3_copyFrom 43 = .ok (.aload_n 0, 1) := by decide +kernel
theorem dX3_copyFrom_44 : decode cX3_copyFrom 44 = .ok (.aload_n 1, 1) := by decide +kernel
theorem dX3_copyFrom_45 : decode cX3_copyFrom 45 = .ok (.getfield 33, 3) := by decide +kernel
theorem dX3_copyFrom_48 : decode cX3_copyFrom 48 = .ok (.putfield 33, 3) := by decide +kernel
theorem dX3_copyFrom_51 : decode cX3_copyFrom 51 = .ok (.return_, 1) := by decide +kernel
theorem dX3_nameLength_0 : decode cX3_nameLength 0 = .ok (.aload_n 0, 1) := by decide +kernel
theorem dX3_nameLength_1 : decode cX3_nameLength 1 = .ok (.getfield 10, 3) := by decide +kernel
theorem dX3_nameLength_4 : decode cX3_nameLength 4 = .ok (.aload_n 0, 1) := by decide +kernel
theorem dX3_nameLength_5 : decode cX3_nameLength 5 = .ok (.getfield 27, 3) := by decide +kernel
theorem dX3_nameLength_8 : decode cX3_nameLength 8 = .ok (.invokevirtual 37, 3) := by decide +kernel
theorem dX3_nameLength_11 : decode cX3_nameLength 11 = .ok (.ireturn, 1) := by decide +kernel
theorem dX3_effort_0 : decode cX3_effort 0 = .ok (.aload_n 0, 1) := by decide +kernel
theorem dX3_effort_1 : decode cX3_effort 1 = .ok (.getfield 10, 3) := by decide +kernel
theorem dX3_effort_4 : decode cX3_effort 4 = .ok (.getfield 41, 3) := by decide +kernel
theorem dX3_effort_7 : decode cX3_effort 7 = .ok (.aload_n 0, 1) := by decide +kernel
theorem dX3_effort_8 : decode cX3_effort 8 = .ok (.getfield 27, 3) := by decide +kernel
theorem dX3_effort_11 : decode cX3_effort 11 = .ok (.aload_n 0, 1) := by decide +kernel
theorem dX3_effort_12 : decode cX3_effort 12 = .ok (.getfield 30, 3) := by decide +kernel
theorem dX3_effort_15 : decode cX3_effort 15 = .ok (.iadd, 1) := by decide +kernel
theorem dX3_effort_16 : decode cX3_effort 16 = .ok (.imul, 1) := by decide +kernel
theorem dX3_effort_17 : decode cX3_effort 17 = .ok (.ireturn, 1) := by decide +kernel
theorem dX4_init_0 : decode cX4_init 0 = .ok (.aload_n 0, 1) := by decide +kernel
theorem dX4_init_1 : decode cX4_init 1 = .ok (.invokespecial 3, 3) := by decide +kernel
theorem dX4_init_4 : decode cX4_init 4 = .ok (.return_, 1) := by decide +kernel
theorem dX4_makeNew_0 : decode cX4_makeNew 0 = .ok (.aload_n 0, 1) := by decide +kernel
theorem dX4_makeNew_1 : decode cX4_makeNew 1 = .ok (.iload_n 1, 1) := by decide +kernel
theorem dX4_makeNew_2 : decode cX4_makeNew 2 = .ok (.putfield 9, 3) := by decide +kernel
theorem dX4_makeNew_5 : decode cX4_makeNew 5 = .ok (.aload_n 0, 1) := by decide +kernel
theorem dX4_makeNew_6 : decode cX4_makeNew 6 = .ok (.iload_n 2, 1) := by decide +kernel
theorem dX4_makeNew_7 : decode cX4_makeNew 7 = .ok (.putfield 15, 3) := by decide +kernel
theorem dX4_makeNew_10 : decode cX4_makeNew 10 = .ok (.aload_n 0, 1) := by decide +kernel
theorem dX4_makeNew_11 : decode cX4_makeNew 11 = .ok (.iconst 0, 1) := by decide +kernel
theorem dX4_makeNew_12 : decode cX4_makeNew 12 = .ok (.putfield 18, 3) := by decide +kernel
theorem dX4_makeNew_15 : decode cX4_makeNew 15 = .ok (.aload_n 0, 1) := by decide +kernel
theorem dX4_makeNew_16 : decode cX4_makeNew 16 = .ok (.iconst 0, 1) := by decide +kernel
theorem dX4_makeNew_17 : decode cX4_makeNew 17 = .ok (.putfield 21, 3) := by decide +kernel
theorem dX4_makeNew_20 : decode cX4_makeNew 20 = .ok (.aload_n 0, 1) := by decide +kernel
theorem dX4_makeNew_21 : decode cX4_makeNew 21 = .ok (.invokevirtual 24, 3) := by decide +kernel
theorem dX4_makeNew_24 : decode cX4_makeNew 24 = .ok (.return_, 1) := by decide +kernel
theorem dX4_copyFrom_0 : decode cX4_copyFrom 0 = .ok (.aload_n 0, 1) := by decide +kernel
theorem dX4_copyFrom_1 : decode cX4_copyFrom 1 = .ok (.aload_n 1, 1) := by decide +kernel
theorem dX4_copyFrom_2 : decode cX4_copyFrom 2 = .ok (.getfield 9, 3) := by decide +kernel
theorem dX4_copyFrom_5 : decode cX4_copyFrom 5 = .ok (.putfield 9, 3) := by decide +kernel
theorem dX4_copyFrom_8 : decode cX4_copyFrom 8 = .ok (.aload_n 0, 1) := by decide +kernel
theorem dX4_copyFrom_9 : decode cX4_copyFrom 9 = .ok (.aload_n 1, 1) := by decide +kernel
theorem dX4_copyFrom_10 : decode cX4_copyFrom 10 = .ok (.getfield 15, 3) := by decide +kernel
theorem dX4_copyFrom_13 : decode cX4_copyFrom 13 = .ok (.putfield 15, 3) := by decide +kernel
theorem dX4_copyFrom_16 : decode cX4_copyFrom 16 = .ok (.aload_n 0, 1) := by decide +kernel
theorem dX4_copyFrom_17 : decode cX4_copyFrom 17 = .ok (.aload_n 1, 1) := by decide +kernel
theorem dX4_copyFrom_18 : decode cX4_copyFrom 18 = .ok (.getfield 27, 3) := by decide +kernel
theorem dX4_copyFrom_21 : decode cX4_copyFrom 21 = .ok (.putfield 27, 3) := by decide +kernel
theorem dX4_copyFrom_24 : decode cX4_copyFrom 24 = .ok (.aload_n 0, 1) := by decide +kernel
theorem dX4_copyFrom_25 : decode cX4_copyFrom 25 = .ok (.aload_n 1, 1) := by decide +kernel
theorem dX4_copyFrom_26 : decode cX4_copyFrom 26 = .ok (.getfield 18, 3) := by decide +kernel
theorem dX4_copyFrom_29 : decode cX4_copyFrom 29 = .ok (.putfield 18, 3) := by decide +kernel
theorem dX4_copyFrom_32 : decode cX4_copyFrom 32 = .ok (.aload_n 0, 1) := by decide +kernel
theorem dX4_copyFrom_33 : decode cX4_copyFrom 33 = .ok (.aload_n 1, 1) := by decide +kernel
theorem dX4_copyFrom_34 : decode cX4_copyFrom 34 = .ok (.getfield 21, 3) := by decide +kernel
theorem dX4_copyFrom_37 : decode cX4_copyFrom 37 = .ok (.putfield 21, 3) := by decide +kernel
theorem dX4_copyFrom_40 : decode cX4_copyFrom 40 = .ok (.aload_n 0, 1) := by decide +kernel
theorem dX4_copyFrom_41 : decode cX4_copyFrom 41 = .ok (.aload_n 1, 1) := by decide +kernel
theorem dX4_copyFrom_42 : decode cX4_copyFrom 42 = .ok (.getfield 30, 3) := by decide +kernel
theorem dX4_copyFrom_45 : decode cX4_copyFrom 45 = .ok (.putfield 30, 3) := by decide +kernel
theorem dX4_copyFrom_48 : decode cX4_copyFrom 48 = .ok (.aload_n 0, 1) := by decide +kernel
theorem dX4_copyFrom_49 : decode cX4_copyFrom 49 = .ok (.aload_n 1, 1) := by decide +kernel
theorem dX4_copyFrom_50 : decode cX4_copyFrom 50 = .ok (.getfield 33, 3) := by decide +kernel
theorem dX4_copyFrom_53 : decode cX4_copyFrom 53 = .ok (.putfield 33, 3) := by decide +kernel
theorem dX4_copyFrom_56 : decode cX4_copyFrom 56 = .ok (.return_, 1) := by decide +kernel
theorem dX4_putIntoDrawer_0 : decode cX4_putIntoDrawer 0 = .ok (.aload_n 0, 1) := by decide +kernel
theorem dX4_putIntoDrawer_1 : decode cX4_putIntoDrawer 1 = .ok (.iconst 0, 1) := by decide +kernel
theorem dX4_putIntoDrawer_2 : decode cX4_putIntoDrawer 2 = .ok (.putfield 27, 3) := by decide +kernel
theorem dX4_putIntoDrawer_5 : decode cX4_putIntoDrawer 5 = .ok (.aload_n 0, 1) := by decide +kernel
theorem dX4_putIntoDrawer_6 : decode cX4_putIntoDrawer 6 = .ok (.bipush (-9), 2) := by decide +kernel
theorem dX4_putIntoDrawer_8 : decode cX4_putIntoDrawer 8 = .ok (.putfield 30, 3) := by decide +kernel
theorem dX4_putIntoDrawer_11 : decode cX4_putIntoDrawer 11 = .ok (.aload_n 0, 1) := by decide +kernel
theorem dX4_putIntoDrawer_12 : decode cX4_putIntoDrawer 12 = .ok (.bipush (-9), 2) := by decide +kernel
theorem dX4_putIntoDrawer_14 : decode cX4_putIntoDrawer 14 = .ok (.putfield 33, 3) := by decide +kernel
theorem dX4_putIntoDrawer_17 : decode cX4_putIntoDrawer 17 = .ok (.return_, 1) := by decide +kernel
theorem dX4_fixOn_0 : decode cX4_fixOn 0 = .ok (.aload_n 0, 1) := by decide +kernel
theorem dX4_fixOn_1 : decode cX4_fixOn 1 = .ok (.iconst 2, 1) := by decide +kernel
theorem dX4_fixOn_2 : decode cX4_fixOn 2 = .ok (.putfield 27, 3) := by decide +kernel
theorem dX4_fixOn_5 : decode cX4_fixOn 5 = .ok (.aload_n 0, 1) := by decide +kernel
theorem dX4_fixOn_6 : decode cX4_fixOn 6 = .ok (.iload_n 1, 1) := by decide +kernel
theorem dX4_fixOn_7 : decode cX4_fixOn 7 = .ok (.putfield 30, 3) := by decide +kernel
theorem dX4_fixOn_10 : decode cX4_fixOn 10 = .ok (.aload_n 0, 1) := by decide +kernel
theorem dX4_fixOn_11 : decode cX4_fixOn 11 = .ok (.iload_n 2, 1) := by decide +kernel
theorem dX4_fixOn_12 : decode cX4_fixOn 12 = .ok (.putfield 33, 3) := by decide +kernel
theorem dX4_fixOn_15 : decode cX4_fixOn 15 = .ok (.return_, 1) := by decide +kernel
theorem dX4_depthOf_0 : decode cX4_depthOf 0 = .ok (.iload_n 1, 1) := by decide +kernel
theorem dX4_depthOf_1 : decode cX4_depthOf 1 = .ok (.ifCond .ne 10, 3) := by decide +kernel
theorem dX4_depthOf_4 : decode cX4_depthOf 4 = .ok (.aload_n 0, 1) := by decide +kernel
theorem dX4_depthOf_5 : decode cX4_depthOf 5 = .ok (.getfield 18, 3) := by decide +kernel
theorem dX4_depthOf_8 : decode cX4_depthOf 8 = .ok (.goto 7, 3) := by decide +kernel
theorem dX4_depthOf_11 : decode cX4_depthOf 11 = .ok (.aload_n 0, 1) := by decide +kernel
theorem dX4_depthOf_12 : decode cX4_depthOf 12 = .ok (.getfield 21, 3) := by decide +kernel
theorem dX4_depthOf_15 : decode cX4_depthOf 15 = .ok (.ireturn, 1) := by decide +kernel
theorem dX4_isBlank_0 : decode cX4_isBlank 0 = .ok (.aload_n 0, 1) := by decide +kernel
theorem dX4_isBlank_1 : decode cX4_isBlank 1 = .ok (.iload_n 1, 1) := by decide +kernel
theorem dX4_isBlank_2 : decode cX4_isBlank 2 = .ok (.invokevirtual 36, 3) := by decide +kernel
theorem dX4_isBlank_5 : decode cX4_isBlank 5 = .ok (.ifCond .ne 7, 3) := by decide +kernel
theorem dX4_isBlank_8 : decode cX4_isBlank 8 = .ok (.iconst 1, 1) := by decide +kernel
theorem dX4_isBlank_9 : decode cX4_isBlank 9 = .ok (.goto 4, 3) := by decide +kernel
theorem dX4_isBlank_12 : decode cX4_isBlank 12 = .ok (.iconst 0, 1) := by decide +kernel
theorem dX4_isBlank_13 : decode cX4_isBlank 13 = .ok (.ireturn, 1) := by decide +kernel
theorem dX4_engrave_0 : decode cX4_engrave 0 = .ok (.iload_n 1, 1) := by decide +kernel
theorem dX4_engrave_1 : decode cX4_engrave 1 = .ok (.ifCond .ne 11, 3) := by decide +kernel
theorem dX4_engrave_4 : decode cX4_engrave 4 = .ok (.aload_n 0, 1) := by decide +kernel
theorem dX4_engrave_5 : decode cX4_engrave 5 = .ok (.iload_n 2, 1) := by decide +kernel
theorem dX4_engrave_6 : decode cX4_engrave 6 = .ok (.putfield 18, 3) := by decide +kernel
theorem dX4_engrave_9 : decode cX4_engrave 9 = .ok (.goto 8, 3) := by decide +kernel
theorem dX4_engrave_12 : decode cX4_engrave 12 = .ok (.aload_n 0, 1) := by decide +kernel
theorem dX4_engrave_13 : decode cX4_engrave 13 = .ok (.iload_n 2, 1) := by decide +kernel
theorem dX4_engrave_14 : decode cX4_engrave 14 = .ok (.putfield 21, 3) := by decide +kernel
theorem dX4_engrave_17 : decode cX4_engrave 17 = .ok (.return_, 1) := by decide +kernel
theorem dX4_grindOff_0 : decode cX4_grindOff 0 = .ok (.aload_n 0, 1) := by decide +kernel
theorem dX4_grindOff_1 : decode cX4_grindOff 1 = .ok (.dup, 1) := by decide +kernel
theorem dX4_grindOff_2 : decode cX4_grindOff 2 = .ok (.getfield 15, 3) := by decide +kernel
theorem dX4_grindOff_5 : decode cX4_grindOff 5 = .ok (.aload_n 0, 1) := by decide +kernel
theorem dX4_grindOff_6 : decode cX4_grindOff 6 = .ok (.iload_n 1, 1) := by decide +kernel
theorem dX4_grindOff_7 : decode cX4_grindOff 7 = .ok (.invokevirtual 36, 3) := by decide +kernel
theorem dX4_grindOff_10 : decode cX4_grindOff 10 = .ok (.iconst 1, 1) := by decide +kernel
theorem dX4_grindOff_11 : decode cX4_grindOff 11 = .ok (.iadd, 1) := by decide +kernel
theorem dX4_grindOff_12 : decode cX4_grindOff 12 = .ok (.isub, 1) := by decide +kernel
theorem dX4_grindOff_13 : decode cX4_grindOff 13 = .ok (.putfield 15, 3) := by decide +kernel
theorem dX4_grindOff_16 : decode cX4_grindOff 16 = .ok (.aload_n 0, 1) := by decide +kernel
theorem dX4_grindOff_17 : decode cX4_grindOff 17 = .ok (.iload_n 1, 1) := by decide +kernel
theorem dX4_grindOff_18 : decode cX4_grindOff 18 = .ok (.iconst 0, 1) := by decide +kernel
theorem dX4_grindOff_19 : decode cX4_grindOff 19 = .ok (.invokevirtual 40, 3) := by decide +kernel
theorem dX4_grindOff_22 : decode cX4_grindOff 22 = .ok (.return_, 1) := by decide +kernel
theorem dX4_bears_0 : decode cX4_bears 0 = .ok (.aload_n 0, 1) := by decide +kernel
theorem dX4_bears_1 : decode cX4_bears 1 = .ok (.getfield 15, 3) := by decide +kernel
theorem dX4_bears_4 : decode cX4_bears 4 = .ok (.aload_n 0, 1) := by decide +kernel
theorem dX4_bears_5 : decode cX4_bears 5 = .ok (.getfield 18, 3) := by decide +kernel
theorem dX4_bears_8 : decode cX4_bears 8 = .ok (.isub, 1) := by decide +kernel
theorem dX4_bears_9 : decode cX4_bears 9 = .ok (.aload_n 0, 1) := by decide +kernel
theorem dX4_bears_10 : decode cX4_bears 10 = .ok (.getfield 21, 3) := by decide +kernel
theorem dX4_bears_13 : decode cX4_bears 13 = .ok (.isub, 1) := by decide +kernel
theorem dX4_bears_14 : decode cX4_bears 14 = .ok (.iload_n 1, 1) := by decide +kernel
theorem dX4_bears_15 : decode cX4_bears 15 = .ok (.isub, 1) := by decide +kernel
theorem dX4_bears_16 : decode cX4_bears 16 = .ok (.iconst 2, 1) := by decide +kernel
theorem dX4_bears_17 : decode cX4_bears 17 = .ok (.if_icmp .lt 7, 3) := by decide +kernel
theorem dX4_bears_20 : decode cX4_bears 20 = .ok (.iconst 1, 1) := by decide +kernel
theorem dX4_bears_21 : decode cX4_bears 21 = .ok (.goto 4, 3) := by decide +kernel
theorem dX4_bears_24 : decode cX4_bears 24 = .ok (.iconst 0, 1) := by decide +kernel
theorem dX4_bears_25 : decode cX4_bears 25 = .ok (.ireturn, 1) := by decide +kernel
theorem dX4_bearsOnceGround_0 : decode cX4_bearsOnceGround 0 = .ok (.aload_n 0, 1) := by decide +kernel
theorem dX4_bearsOnceGround_1 : decode cX4_bearsOnceGround 1 = .ok (.iload_n 1, 1) := by decide +kernel
theorem dX4_bearsOnceGround_2 : decode cX4_bearsOnceGround 2 = .ok (.iconst 1, 1) := by decide +kernel
theorem dX4_bearsOnceGround_3 : decode cX4_bearsOnceGround 3 = .ok (.iadd, 1) := by decide +kernel
theorem dX4_bearsOnceGround_4 : decode cX4_bearsOnceGround 4 = .ok (.invokevirtual 44, 3) := by decide +kernel
theorem dX4_bearsOnceGround_7 : decode cX4_bearsOnceGround 7 = .ok (.ireturn, 1) := by decide +kernel
theorem dX4_isReady_0 : decode cX4_isReady 0 = .ok (.aload_n 0, 1) := by decide +kernel
theorem dX4_isReady_1 : decode cX4_isReady 1 = .ok (.iload_n 1, 1) := by decide +kernel
theorem dX4_isReady_2 : decode cX4_isReady 2 = .ok (.invokevirtual 48, 3) := by decide +kernel
theorem dX4_isReady_5 : decode cX4_isReady 5 = .ok (.ifCond .eq 15, 3) := by decide +kernel
theorem dX4_isReady_8 : decode cX4_isReady 8 = .ok (.aload_n 0, 1) := by decide +kernel
theorem dX4_isReady_9 : decode cX4_isReady 9 = .ok (.iload_n 2, 1) := by decide +kernel
theorem dX4_isReady_10 : decode cX4_isReady 10 = .ok (.invokevirtual 44, 3) := by decide +kernel
theorem dX4_isReady_13 : decode cX4_isReady 13 = .ok (.ifCond .eq 7, 3) := by decide +kernel
theorem dX4_isReady_16 : decode cX4_isReady 16 = .ok (.iconst 1, 1) := by decide +kernel
theorem dX4_isReady_17 : decode cX4_isReady 17 = .ok (.goto 4, 3) := by decide +kernel
theorem dX4_isReady_20 : decode cX4_isReady 20 = .ok (.iconst 0, 1) := by decide +kernel
theorem dX4_isReady_21 : decode cX4_isReady 21 = .ok (.ireturn, 1) := by decide +kernel
theorem dX4_canBeGround_0 : decode cX4_canBeGround 0 = .ok (.aload_n 0, 1) := by decide +kernel
theorem dX4_canBeGround_1 : decode cX4_canBeGround 1 = .ok (.iload_n 1, 1) := by decide +kernel
theorem dX4_canBeGround_2 : decode cX4_canBeGround 2 = .ok (.invokevirtual 48, 3) := by decide +kernel
theorem dX4_canBeGround_5 : decode cX4_canBeGround 5 = .ok (.ifCond .ne 15, 3) := by decide +kernel
theorem dX4_canBeGround_8 : decode cX4_canBeGround 8 = .ok (.aload_n 0, 1) := by decide +kernel
theorem dX4_canBeGround_9 : decode cX4_canBeGround 9 = .ok (.iload_n 2, 1) := by decide +kernel
theorem dX4_canBeGround_10 : decode cX4_canBeGround 10 = .ok (.invokevirtual 51, 3) := by decide +kernel
theorem dX4_canBeGround_13 : decode cX4_canBeGround 13 = .ok (.ifCond .eq 7, 3) := by decide +kernel
theorem dX4_canBeGround_16 : decode cX4_canBeGround 16 = .ok (.iconst 1, 1) := by decide +kernel
theorem dX4_canBeGround_17 : decode cX4_canBeGround 17 = .ok (.goto 4, 3) := by decide +kernel
theorem dX4_canBeGround_20 : decode cX4_canBeGround 20 = .ok (.iconst 0, 1) := by decide +kernel
theorem dX4_canBeGround_21 : decode cX4_canBeGround 21 = .ok (.ireturn, 1) := by decide +kernel
theorem dX4_readySide_0 : decode cX4_readySide 0 = .ok (.aload_n 0, 1) := by decide +kernel
theorem dX4_readySide_1 : decode cX4_readySide 1 = .ok (.iload_n 1, 1) := by decide +kernel
theorem dX4_readySide_2 : decode cX4_readySide 2 = .ok (.invokevirtual 44, 3) := by decide +kernel
theorem dX4_readySide_5 : decode cX4_readySide 5 = .ok (.ifCond .ne 6, 3) := by decide +kernel
theorem dX4_readySide_8 : decode cX4_readySide 8 = .ok (.bipush (-9), 2) := by decide +kernel
theorem dX4_readySide_10 : decode cX4_readySide 10 = .ok (.ireturn, 1) := by decide +kernel
theorem dX4_readySide_11 : decode cX4_readySide 11 = .ok (.aload_n 0, 1) := by decide +kernel
theorem dX4_readySide_12 : decode cX4_readySide 12 = .ok (.getfield 18, 3) := by decide +kernel
theorem dX4_readySide_15 : decode cX4_readySide 15 = .ok (.ifCond .ne 5, 3) := by decide +kernel
theorem dX4_readySide_18 : decode cX4_readySide 18 = .ok (.iconst 0, 1) := by decide +kernel
theorem dX4_readySide_19 : decode cX4_readySide 19 = .ok (.ireturn, 1) := by decide +kernel
theorem dX4_readySide_20 : decode cX4_readySide 20 = .ok (.aload_n 0, 1) := by decide +kernel
theorem dX4_readySide_21 : decode cX4_readySide 21 = .ok (.getfield 21, 3) := by decide +kernel
theorem dX4_readySide_24 : decode cX4_readySide 24 = .ok (.ifCond .ne 7, 3) := by decide +kernel
theorem dX4_readySide_27 : decode cX4_readySide 27 = .ok (.iconst 1, 1) := by decide +kernel
theorem dX4_readySide_28 : decode cX4_readySide 28 = .ok (.goto 5, 3) := by decide +kernel
theorem dX4_readySide_31 : decode cX4_readySide 31 = .ok (.bipush (-9), 2) := by decide +kernel
theorem dX4_readySide_33 : decode cX4_readySide 33 = .ok (.ireturn, 1) := by decide +kernel
theorem dX4_sideToGrind_0 : decode cX4_sideToGrind 0 = .ok (.aload_n 0, 1) := by decide +kernel
theorem dX4_sideToGrind_1 : decode cX4_sideToGrind 1 = .ok (.iload_n 1, 1) := by decide +kernel
theorem dX4_sideToGrind_2 : decode cX4_sideToGrind 2 = .ok (.invokevirtual 51, 3) := by decide +kernel
theorem dX4_sideToGrind_5 : decode cX4_sideToGrind 5 = .ok (.ifCond .ne 6, 3) := by decide +kernel
theorem dX4_sideToGrind_8 : decode cX4_sideToGrind 8 = .ok (.bipush (-9), 2) := by decide +kernel
theorem dX4_sideToGrind_10 : decode cX4_sideToGrind 10 = .ok (.ireturn, 1) := by decide +kernel
theorem dX4_sideToGrind_11 : decode cX4_sideToGrind 11 = .ok (.aload_n 0, 1) := by decide +kernel
theorem dX4_sideToGrind_12 : decode cX4_sideToGrind 12 = .ok (.getfield 18, 3) := by decide +kernel
theorem dX4_sideToGrind_15 : decode cX4_sideToGrind 15 = .ok (.ifCond .eq 5, 3) := by decide +kernel
theorem dX4_sideToGrind_18 : decode cX4_sideToGrind 18 = .ok (.iconst 0, 1) := by decide +kernel
theorem dX4_sideToGrind_19 : decode cX4_sideToGrind 19 = .ok (.ireturn, 1) := by decide +kernel
theorem dX4_sideToGrind_20 : decode cX4_sideToGrind 20 = .ok (.aload_n 0, 1) := by decide +kernel
theorem dX4_sideToGrind_21 : decode cX4_sideToGrind 21 = .ok (.getfield 21, 3) := by decide +kernel
theorem dX4_sideToGrind_24 : decode cX4_sideToGrind 24 = .ok (.ifCond .eq 7, 3) := by decide +kernel
theorem dX4_sideToGrind_27 : decode cX4_sideToGrind 27 = .ok (.iconst 1, 1) := by decide +kernel
theorem dX4_sideToGrind_28 : decode cX4_sideToGrind 28 = .ok (.goto 5, 3) := by decide +kernel
theorem dX4_sideToGrind_31 : decode cX4_sideToGrind 31 = .ok (.bipush (-9), 2) := by decide +kernel
theorem dX4_sideToGrind_33 : decode cX4_sideToGrind 33 = .ok (.ireturn, 1) := by decide +kernel
theorem dX4_sideFor_0 : decode cX4_sideFor 0 = .ok (.aload_n 0, 1) := by decide +kernel
theorem dX4_sideFor_1 : decode cX4_sideFor 1 = .ok (.iload_n 1, 1) := by decide +kernel
theorem dX4_sideFor_2 : decode cX4_sideFor 2 = .ok (.invokevirtual 54, 3) := by decide +kernel
theorem dX4_sideFor_5 : decode cX4_sideFor 5 = .ok (.istore_n 2, 1) := by decide +kernel
theorem dX4_sideFor_6 : decode cX4_sideFor 6 = .ok (.iload_n 2, 1) := by decide +kernel
theorem dX4_sideFor_7 : decode cX4_sideFor 7 = .ok (.bipush (-9), 2) := by decide +kernel
theorem dX4_sideFor_9 : decode cX4_sideFor 9 = .ok (.if_icmp .ne 11, 3) := by decide +kernel
theorem dX4_sideFor_12 : decode cX4_sideFor 12 = .ok (.aload_n 0, 1) := by decide +kernel
theorem dX4_sideFor_13 : decode cX4_sideFor 13 = .ok (.iload_n 1, 1) := by decide +kernel
theorem dX4_sideFor_14 : decode cX4_sideFor 14 = .ok (.invokevirtual 57, 3) := by decide +kernel
theorem dX4_sideFor_17 : decode cX4_sideFor 17 = .ok (.goto 4, 3) := by decide +kernel
theorem dX4_sideFor_20 : decode cX4_sideFor 20 = .ok (.iload_n 2, 1) := by decide +kernel
theorem dX4_sideFor_21 : decode cX4_sideFor 21 = .ok (.ireturn, 1) := by decide +kernel
theorem dX4_isBetterThan_0 : decode cX4_isBetterThan 0 = .ok (.aload_n 0, 1) := by decide +kernel
theorem dX4_isBetterThan_1 : decode cX4_isBetterThan 1 = .ok (.getfield 9, 3) := by decide +kernel
theorem dX4_isBetterThan_4 : decode cX4_isBetterThan 4 = .ok (.aload_n 1, 1) := by decide +kernel
theorem dX4_isBetterThan_5 : decode cX4_isBetterThan 5 = .ok (.getfield 9, 3) := by decide +kernel
theorem dX4_isBetterThan_8 : decode cX4_isBetterThan 8 = .ok (.if_icmp .lt 25, 3) := by decide +kernel
theorem dX4_isBetterThan_11 : decode cX4_isBetterThan 11 = .ok (.aload_n 0, 1) := by decide +kernel
theorem dX4_isBetterThan_12 : decode cX4_isBetterThan 12 = .ok (.getfield 9, 3) := by decide +kernel
theorem dX4_isBetterThan_15 : decode cX4_isBetterThan 15 = .ok (.aload_n 1, 1) := by decide +kernel
theorem dX4_isBetterThan_16 : decode cX4_isBetterThan 16 = .ok (.getfield 9, 3) := by decide +kernel
theorem dX4_isBetterThan_19 : decode cX4_isBetterThan 19 = .ok (.if_icmp .ne 18, 3) := by decide +kernel
theorem dX4_isBetterThan_22 : decode cX4_isBetterThan 22 = .ok (.aload_n 0, 1) := by decide +kernel
theorem dX4_isBetterThan_23 : decode cX4_isBetterThan 23 = .ok (.getfield 15, 3) := by decide +kernel
theorem dX4_isBetterThan_26 : decode cX4_isBetterThan 26 = .ok (.aload_n 1, 1) := by decide +kernel
theorem dX4_isBetterThan_27 : decode cX4_isBetterThan 27 = .ok (.getfield 15, 3) := by decide +kernel
theorem dX4_isBetterThan_30 : decode cX4_isBetterThan 30 = .ok (.if_icmp .ge 7, 3) := by decide +kernel
theorem dX4_isBetterThan_33 : decode cX4_isBetterThan 33 = .ok (.iconst 1, 1) := by decide +kernel
theorem dX4_isBetterThan_34 : decode cX4_isBetterThan 34 = .ok (.goto 4, 3) := by decide +kernel
theorem dX4_isBetterThan_37 : decode cX4_isBetterThan 37 = .ok (.iconst 0, 1) := by decide +kernel
theorem dX4_isBetterThan_38 : decode cX4_isBetterThan 38 = .ok (.ireturn, 1) := by decide +kernel
theorem dX5_init_0 : decode cX5_init 0 = .ok (.aload_n 0, 1) := by decide +kernel
theorem dX5_init_1 : decode cX5_init 1 = .ok (.invokespecial 3, 3) := by decide +kernel
theorem dX5_init_4 : decode cX5_init 4 = .ok (.aload_n 0, 1) := by decide +kernel
theorem dX5_init_5 : decode cX5_init 5 = .ok (.bipush 20, 2) := by decide +kernel
theorem dX5_init_7 : decode cX5_init 7 = .ok (.anewarray 9, 3) := by decide +kernel
theorem dX5_init_10 : decode cX5_init 10 = .ok (.putfield 11, 3) := by decide +kernel
theorem dX5_init_13 : decode cX5_init 13 = .ok (.aload_n 0, 1) := by decide +kernel
theorem dX5_init_14 : decode cX5_init 14 = .ok (.iconst 3, 1) := by decide +kernel
theorem dX5_init_15 : decode cX5_init 15 = .ok (.newarray .int, 2) := by decide +kernel
theorem dX5_init_17 : decode cX5_init 17 = .ok (.putfield 17, 3) := by decide +kernel
theorem dX5_init_20 : decode cX5_init 20 = .ok (.aload_n 0, 1) := by decide +kernel
theorem dX5_init_21 : decode cX5_init 21 = .ok (.bipush 10, 2) := by decide +kernel
theorem dX5_init_23 : decode cX5_init 23 = .ok (.anewarray 21, 3) := by decide +kernel
theorem dX5_init_26 : decode cX5_init 26 = .ok (.putfield 23, 3) := by decide +kernel
theorem dX5_init_29 : decode cX5_init 29 = .ok (.aload_n 0, 1) := by decide +kernel
theorem dX5_init_30 : decode cX5_init 30 = .ok (.bipush (-9), 2) := by decide +kernel
theorem dX5_init_32 : decode cX5_init 32 = .ok (.putfield 27, 3) := by decide +kernel
theorem dX5_init_35 : decode cX5_init 35 = .ok (.aload_n 0, 1) := by decide +kernel
theorem dX5_init_36 : decode cX5_init 36 = .ok (.bipush (-9), 2) := by decide +kernel
theorem dX5_init_38 : decode cX5_init 38 = .ok (.putfield 31, 3) := by decide +kernel
theorem dX5_init_41 : decode cX5_init 41 = .ok (.aload_n 0, 1) := by decide +kernel
theorem dX5_init_42 : decode cX5_init 42 = .ok (.bipush (-9), 2) := by decide +kernel
theorem dX5_init_44 : decode cX5_init 44 = .ok (.putfield 34, 3) := by decide +kernel
theorem dX5_init_47 : decode cX5_init 47 = .ok (.aload_n 0, 1) := by decide +kernel
theorem dX5_init_48 : decode cX5_init 48 = .ok (.bipush (-9), 2) := by decide +kernel
theorem dX5_init_50 : decode cX5_init 50 = .ok (.putfield 37, 3) := by decide +kernel
theorem dX5_init_53 : decode cX5_init 53 = .ok (.iconst 0, 1) := by decide +kernel
theorem dX5_init_54 : decode cX5_init 54 = .ok (.istore_n 1, 1) := by decide +kernel
theorem dX5_init_55 : decode cX5_init 55 = .ok (.iload_n 1, 1) := by decide +kernel
theorem dX5_init_56 : decode cX5_init 56 = .ok (.bipush 20, 2) := by decide +kernel
theorem dX5_init_58 : decode cX5_init 58 = .ok (.if_icmp .ge 22, 3) := by decide +kernel
theorem dX5_init_61 : decode cX5_init 61 = .ok (.aload_n 0, 1) := by decide +kernel
theorem dX5_init_62 : decode cX5_init 62 = .ok (.getfield 11, 3) := by decide +kernel
theorem dX5_init_65 : decode cX5_init 65 = .ok (.iload_n 1, 1) := by decide +kernel
theorem dX5_init_66 : decode cX5_init 66 = .ok (.new 9, 3) := by decide +kernel
theorem dX5_init_69 : decode cX5_init 69 = .ok (.dup, 1) := by decide +kernel
theorem dX5_init_70 : decode cX5_init 70 = .ok (.invokespecial 40, 3) := by decide +kernel
theorem dX5_init_73 : decode cX5_init 73 = .ok (.aastore, 1) := by decide +kernel
theorem dX5_init_74 : decode cX5_init 74 = .ok (.iinc 1 1, 3) := by decide +kernel
theorem dX5_init_77 : decode cX5_init 77 = .ok (.goto (-22), 3) := by decide +kernel
theorem dX5_init_80 : decode cX5_init 80 = .ok (.iconst 0, 1) := by decide +kernel
theorem dX5_init_81 : decode cX5_init 81 = .ok (.istore_n 1, 1) := by decide +kernel
theorem dX5_init_82 : decode cX5_init 82 = .ok (.iload_n 1, 1) := by decide +kernel
theorem dX5_init_83 : decode cX5_init 83 = .ok (.bipush 10, 2) := by decide +kernel
theorem dX5_init_85 : decode cX5_init 85 = .ok (.if_icmp .ge 22, 3) := by decide +kernel
theorem dX5_init_88 : decode cX5_init 88 = .ok (.aload_n 0, 1) := by decide +kernel
theorem dX5_init_89 : decode cX5_init 89 = .ok (.getfield 23, 3) := by decide +kernel
theorem dX5_init_92 : decode cX5_init 92 = .ok (.iload_n 1, 1) := by decide +kernel
theorem dX5_init_93 : decode cX5_init 93 = .ok (.new 21, 3) := by decide +kernel
theorem dX5_init_96 : decode cX5_init 96 = .ok (.dup, 1) := by decide +kernel
theorem dX5_init_97 : decode cX5_init 97 = .ok (.invokespecial 41, 3) := by decide +kernel
theorem dX5_init_100 : decode cX5_init 100 = .ok (.aastore, 1) := by decide +kernel
theorem dX5_init_101 : decode cX5_init 101 = .ok (.iinc 1 1, 3) := by decide +kernel
theorem dX5_init_104 : decode cX5_init 104 = .ok (.goto (-22), 3) := by decide +kernel
theorem dX5_init_107 : decode cX5_init 107 = .ok (.return_, 1) := by decide +kernel
theorem dX5_copyFrom_0 : decode cX5_copyFrom 0 = .ok (.aload_n 0, 1) := by decide +kernel
theorem dX5_copyFrom_1 : decode cX5_copyFrom 1 = .ok (.aload_n 1, 1) := by decide +kernel
theorem dX5_copyFrom_2 : decode cX5_copyFrom 2 = .ok (.getfield 42, 3) := by decide +kernel
theorem dX5_copyFrom_5 : decode cX5_copyFrom 5 = .ok (.putfield 42, 3) := by decide +kernel
theorem dX5_copyFrom_8 : decode cX5_copyFrom 8 = .ok (.iconst 0, 1) := by decide +kernel
theorem dX5_copyFrom_9 : decode cX5_copyFrom 9 = .ok (.istore_n 2, 1) := by decide +kernel
theorem dX5_copyFrom_10 : decode cX5_copyFrom 10 = .ok (.iload_n 2, 1) := by decide +kernel
theorem dX5_copyFrom_11 : decode cX5_copyFrom 11 = .ok (.aload_n 0, 1) := by decide +kernel
theorem dX5_copyFrom_12 : decode cX5_copyFrom 12 = .ok (.getfield 42, 3) := by decide +kernel
theorem dX5_copyFrom_15 : decode cX5_copyFrom 15 = .ok (.if_icmp .ge 24, 3) := by decide +kernel
theorem dX5_copyFrom_18 : decode cX5_copyFrom 18 = .ok (.aload_n 0, 1) := by decide +kernel
theorem dX5_copyFrom_19 : decode cX5_copyFrom 19 = .ok (.getfield 11, 3) := by decide +kernel
theorem dX5_copyFrom_22 : decode cX5_copyFrom 22 = .ok (.iload_n 2, 1) := by decide +kernel
theorem dX5_copyFrom_23 : decode cX5_copyFrom 23 = .ok (.aaload, 1) := by decide +kernel
theorem dX5_copyFrom_24 : decode cX5_copyFrom 24 = .ok (.aload_n 1, 1) := by decide +kernel
theorem dX5_copyFrom_25 : decode cX5_copyFrom 25 = .ok (.getfield 11, 3) := by decide +kernel
theorem dX5_copyFrom_28 : decode cX5_copyFrom 28 = .ok (.iload_n 2, 1) := by decide +kernel
theorem dX5_copyFrom_29 : decode cX5_copyFrom 29 = .ok (.aaload, 1) := by decide +kernel
theorem dX5_copyFrom_30 : decode cX5_copyFrom 30 = .ok (.invokevirtual 45, 3) := by decide +kernel
theorem dX5_copyFrom_33 : decode cX5_copyFrom 33 = .ok (.iinc 2 1, 3) := by decide +kernel
theorem dX5_copyFrom_36 : decode cX5_copyFrom 36 = .ok (.goto (-26), 3) := by decide +kernel
theorem dX5_copyFrom_39 : decode cX5_copyFrom 39 = .ok (.aload_n 0, 1) := by decide +kernel
theorem dX5_copyFrom_40 : decode cX5_copyFrom 40 = .ok (.aload_n 1, 1) := by decide +kernel
theorem dX5_copyFrom_41 : decode cX5_copyFrom 41 = .ok (.getfield 49, 3) := by decide +kernel
theorem dX5_copyFrom_44 : decode cX5_copyFrom 44 = .ok (.putfield 49, 3) := by decide +kernel
theorem dX5_copyFrom_47 : decode cX5_copyFrom 47 = .ok (.iconst 0, 1) := by decide +kernel
theorem dX5_copyFrom_48 : decode cX5_copyFrom 48 = .ok (.istore_n 2, 1) := by decide +kernel
theorem dX5_copyFrom_49 : decode cX5_copyFrom 49 = .ok (.iload_n 2, 1) := by decide +kernel
theorem dX5_copyFrom_50 : decode cX5_copyFrom 50 = .ok (.aload_n 0, 1) := by decide +kernel
theorem dX5_copyFrom_51 : decode cX5_copyFrom 51 = .ok (.getfield 49, 3) := by decide +kernel
theorem dX5_copyFrom_54 : decode cX5_copyFrom 54 = .ok (.if_icmp .ge 21, 3) := by decide +kernel
theorem dX5_copyFrom_57 : decode cX5_copyFrom 57 = .ok (.aload_n 0, 1) := by decide +kernel
theorem dX5_copyFrom_58 : decode cX5_copyFrom 58 = .ok (.getfield 17, 3) := by decide +kernel
theorem dX5_copyFrom_61 : decode cX5_copyFrom 61 = .ok (.iload_n 2, 1) := by decide +kernel
theorem dX5_copyFrom_62 : decode cX5_copyFrom 62 = .ok (.aload_n 1, 1) := by decide +kernel
theorem dX5_copyFrom_63 : decode cX5_copyFrom 63 = .ok (.getfield 17, 3) := by decide +kernel
theorem dX5_copyFrom_66 : decode cX5_copyFrom 66 = .ok (.iload_n 2, 1) := by decide +kernel
theorem dX5_copyFrom_67 : decode cX5_copyFrom 67 = .ok (.iaload, 1) := by decide +kernel
theorem dX5_copyFrom_68 : decode cX5_copyFrom 68 = .ok (.iastore, 1) := by decide +kernel
theorem dX5_copyFrom_69 : decode cX5_copyFrom 69 = .ok (.iinc 2 1, 3) := by decide +kernel
theorem dX5_copyFrom_72 : decode cX5_copyFrom 72 = .ok (.goto (-23), 3) := by decide +kernel
theorem dX5_copyFrom_75 : decode cX5_copyFrom 75 = .ok (.aload_n 0, 1) := by decide +kernel
theorem dX5_copyFrom_76 : decode cX5_copyFrom 76 = .ok (.aload_n 1, 1) := by decide +kernel
theorem dX5_copyFrom_77 : decode cX5_copyFrom 77 = .ok (.getfield 52, 3) := by decide +kernel
theorem dX5_copyFrom_80 : decode cX5_copyFrom 80 = .ok (.putfield 52, 3) := by decide +kernel
theorem dX5_copyFrom_83 : decode cX5_copyFrom 83 = .ok (.iconst 0, 1) := by decide +kernel
theorem dX5_copyFrom_84 : decode cX5_copyFrom 84 = .ok (.istore_n 2, 1) := by decide +kernel
theorem dX5_copyFrom_85 : decode cX5_copyFrom 85 = .ok (.iload_n 2, 1) := by decide +kernel
theorem dX5_copyFrom_86 : decode cX5_copyFrom 86 = .ok (.aload_n 0, 1) := by decide +kernel
theorem dX5_copyFrom_87 : decode cX5_copyFrom 87 = .ok (.getfield 52, 3) := by decide +kernel
theorem dX5_copyFrom_90 : decode cX5_copyFrom 90 = .ok (.if_icmp .ge 24, 3) := by decide +kernel
theorem dX5_copyFrom_93 : decode cX5_copyFrom 93 = .ok (.aload_n 0, 1) := by decide +kernel
theorem dX5_copyFrom_94 : decode cX5_copyFrom 94 = .ok (.getfield 23, 3) := by decide +kernel
theorem dX5_copyFrom_97 : decode cX5_copyFrom 97 = .ok (.iload_n 2, 1) := by decide +kernel
theorem dX5_copyFrom_98 : decode cX5_copyFrom 98 = .ok (.aaload, 1) := by decide +kernel
theorem dX5_copyFrom_99 : decode cX5_copyFrom 99 = .ok (.aload_n 1, 1) := by decide +kernel
theorem dX5_copyFrom_100 : decode cX5_copyFrom 100 = .ok (.getfield 23, 3) := by decide +kernel
theorem dX5_copyFrom_103 : decode cX5_copyFrom 103 = .ok (.iload_n 2, 1) := by decide +kernel
theorem dX5_copyFrom_104 : decode cX5_copyFrom 104 = .ok (.aaload, 1) := by decide +kernel
theorem dX5_copyFrom_105 : decode cX5_copyFrom 105 = .ok (.invokevirtual 55, 3) := by decide +kernel
theorem dX5_copyFrom_108 : decode cX5_copyFrom 108 = .ok (.iinc 2 1, 3) := by decide +kernel
theorem dX5_copyFrom_111 : decode cX5_copyFrom 111 = .ok (.goto (-26), 3) := by decide +kernel
theorem dX5_copyFrom_114 : decode cX5_copyFrom 114 = .ok (.aload_n 0, 1) := by decide +kernel
theorem dX5_copyFrom_115 : decode cX5_copyFrom 115 = .ok (.aload_n 1, 1) := by decide +kernel
theorem dX5_copyFrom_116 : decode cX5_copyFrom 116 = .ok (.getfield 27, 3) := by decide +kernel
theorem dX5_copyFrom_119 : decode cX5_copyFrom 119 = .ok (.putfield 27, 3) := by decide +kernel
theorem dX5_copyFrom_122 : decode cX5_copyFrom 122 = .ok (.aload_n 0, 1) := by decide +kernel
theorem dX5_copyFrom_123 : decode cX5_copyFrom 123 = .ok (.aload_n 1, 1) := by decide +kernel
theorem dX5_copyFrom_124 : decode cX5_copyFrom 124 = .ok (.getfield 31, 3) := by decide +kernel
theorem dX5_copyFrom_127 : decode cX5_copyFrom 127 = .ok (.putfield 31, 3) := by decide +kernel
theorem dX5_copyFrom_130 : decode cX5_copyFrom 130 = .ok (.aload_n 0, 1) := by decide +kernel
theorem dX5_copyFrom_131 : decode cX5_copyFrom 131 = .ok (.aload_n 1, 1) := by decide +kernel
theorem dX5_copyFrom_132 : decode cX5_copyFrom 132 = .ok (.getfield 34, 3) := by decide +kernel
theorem dX5_copyFrom_135 : decode cX5_copyFrom 135 = .ok (.putfield 34, 3) := by decide +kernel
theorem dX5_copyFrom_138 : decode cX5_copyFrom 138 = .ok (.aload_n 0, 1) := by decide +kernel
theorem dX5_copyFrom_139 : decode cX5_copyFrom 139 = .ok (.aload_n 1, 1) := by decide +kernel
theorem dX5_copyFrom_140 : decode cX5_copyFrom 140 = .ok (.getfield 37, 3) := by decide +kernel
theorem dX5_copyFrom_143 : decode cX5_copyFrom 143 = .ok (.putfield 37, 3) := by decide +kernel
theorem dX5_copyFrom_146 : decode cX5_copyFrom 146 = .ok (.aload_n 0, 1) := by decide +kernel
theorem dX5_copyFrom_147 : decode cX5_copyFrom 147 = .ok (.aload_n 1, 1) := by decide +kernel
theorem dX5_copyFrom_148 : decode cX5_copyFrom 148 = .ok (.getfield 58, 3) := by decide +kernel
theorem dX5_copyFrom_151 : decode cX5_copyFrom 151 = .ok (.putfield 58, 3) := by decide +kernel
theorem dX5_copyFrom_154 : decode cX5_copyFrom 154 = .ok (.aload_n 0, 1) := by decide +kernel
theorem dX5_copyFrom_155 : decode cX5_copyFrom 155 = .ok (.aload_n 1, 1) := by decide +kernel
theorem dX5_copyFrom_156 : decode cX5_copyFrom 156 = .ok (.getfield 61, 3) := by decide +kernel
theorem dX5_copyFrom_159 : decode cX5_copyFrom 159 = .ok (.putfield 61, 3) := by decide +kernel
theorem dX5_copyFrom_162 : decode cX5_copyFrom 162 = .ok (.aload_n 0, 1) := by decide +kernel
theorem dX5_copyFrom_163 : decode cX5_copyFrom 163 = .ok (.aload_n 1, 1) := by decide +kernel
theorem dX5_copyFrom_164 : decode cX5_copyFrom 164 = .ok (.getfield 64, 3) := by decide +kernel
theorem dX5_copyFrom_167 : decode cX5_copyFrom 167 = .ok (.putfield 64, 3) := by decide +kernel
theorem dX5_copyFrom_170 : decode cX5_copyFrom 170 = .ok (.return_, 1) := by decide +kernel
theorem dX5_hasPlate_0 : decode cX5_hasPlate 0 = .ok (.iload_n 1, 1) := by decide +kernel
theorem dX5_hasPlate_1 : decode cX5_hasPlate 1 = .ok (.ifCond .lt 15, 3) := by decide +kernel
theorem dX5_hasPlate_4 : decode cX5_hasPlate 4 = .ok (.iload_n 1, 1) := by decide +kernel
theorem dX5_hasPlate_5 : decode cX5_hasPlate 5 = .ok (.aload_n 0, 1) := by decide +kernel
theorem dX5_hasPlate_6 : decode cX5_hasPlate 6 = .ok (.getfield 42, 3) := by decide +kernel
theorem dX5_hasPlate_9 : decode cX5_hasPlate 9 = .ok (.if_icmp .ge 7, 3) := by decide +kernel
theorem dX5_hasPlate_12 : decode cX5_hasPlate 12 = .ok (.iconst 1, 1) := by decide +kernel
theorem dX5_hasPlate_13 : decode cX5_hasPlate 13 = .ok (.goto 4, 3) := by decide +kernel
theorem dX5_hasPlate_16 : decode cX5_hasPlate 16 = .ok (.iconst 0, 1) := by decide +kernel
theorem dX5_hasPlate_17 : decode cX5_hasPlate 17 = .ok (.ireturn, 1) := by decide +kernel
theorem dX5_hasShield_0 : decode cX5_hasShield 0 = .ok (.iload_n 1, 1) := by decide +kernel
theorem dX5_hasShield_1 : decode cX5_hasShield 1 = .ok (.ifCond .lt 15, 3) := by decide +kernel
theorem dX5_hasShield_4 : decode cX5_hasShield 4 = .ok (.iload_n 1, 1) := by decide +kernel
theorem dX5_hasShield_5 : decode cX5_hasShield 5 = .ok (.aload_n 0, 1) := by decide +kernel
theorem dX5_hasShield_6 : decode cX5_hasShield 6 = .ok (.getfield 49, 3) := by decide +kernel
theorem dX5_hasShield_9 : decode cX5_hasShield 9 = .ok (.if_icmp .ge 7, 3) := by decide +kernel
theorem dX5_hasShield_12 : decode cX5_hasShield 12 = .ok (.iconst 1, 1) := by decide +kernel
theorem dX5_hasShield_13 : decode cX5_hasShield 13 = .ok (.goto 4, 3) := by decide +kernel
theorem dX5_hasShield_16 : decode cX5_hasShield 16 = .ok (.iconst 0, 1) := by decide +kernel
theorem dX5_hasShield_17 : decode cX5_hasShield 17 = .ok (.ireturn, 1) := by decide +kernel
theorem dX5_hasOrder_0 : decode cX5_hasOrder 0 = .ok (.iload_n 1, 1) := by decide +kernel
theorem dX5_hasOrder_1 : decode cX5_hasOrder 1 = .ok (.ifCond .lt 15, 3) := by decide +kernel
theorem dX5_hasOrder_4 : decode cX5_hasOrder 4 = .ok (.iload_n 1, 1) := by decide +kernel
theorem dX5_hasOrder_5 : decode cX5_hasOrder 5 = .ok (.aload_n 0, 1) := by decide +kernel
theorem dX5_hasOrder_6 : decode cX5_hasOrder 6 = .ok (.getfield 52, 3) := by decide +kernel
theorem dX5_hasOrder_9 : decode cX5_hasOrder 9 = .ok (.if_icmp .ge 7, 3) := by decide +kernel
theorem dX5_hasOrder_12 : decode cX5_hasOrder 12 = .ok (.iconst 1, 1) := by decide +kernel
theorem dX5_hasOrder_13 : decode cX5_hasOrder 13 = .ok (.goto 4, 3) := by decide +kernel
theorem dX5_hasOrder_16 : decode cX5_hasOrder 16 = .ok (.iconst 0, 1) := by decide +kernel
theorem dX5_hasOrder_17 : decode cX5_hasOrder 17 = .ok (.ireturn, 1) := by decide +kernel
theorem dX5_isWorking_0 : decode cX5_isWorking 0 = .ok (.aload_n 0, 1) := by decide +kernel
theorem dX5_isWorking_1 : decode cX5_isWorking 1 = .ok (.aload_n 0, 1) := by decide +kernel
theorem dX5_isWorking_2 : decode cX5_isWorking 2 = .ok (.getfield 27, 3) := by decide +kernel
theorem dX5_isWorking_5 : decode cX5_isWorking 5 = .ok (.invokevirtual 67, 3) := by decide +kernel
theorem dX5_isWorking_8 : decode cX5_isWorking 8 = .ok (.ifCond .eq 18, 3) := by decide +kernel
theorem dX5_isWorking_11 : decode cX5_isWorking 11 = .ok (.aload_n 0, 1) := by decide +kernel
theorem dX5_isWorking_12 : decode cX5_isWorking 12 = .ok (.aload_n 0, 1) := by decide +kernel
theorem dX5_isWorking_13 : decode cX5_isWorking 13 = .ok (.getfield 31, 3) := by decide +kernel
theorem dX5_isWorking_16 : decode cX5_isWorking 16 = .ok (.invokevirtual 71, 3) := by decide +kernel
theorem dX5_isWorking_19 : decode cX5_isWorking 19 = .ok (.ifCond .eq 7, 3) := by decide +kernel
theorem dX5_isWorking_22 : decode cX5_isWorking 22 = .ok (.iconst 1, 1) := by decide +kernel
theorem dX5_isWorking_23 : decode cX5_isWorking 23 = .ok (.goto 4, 3) := by decide +kernel
theorem dX5_isWorking_26 : decode cX5_isWorking 26 = .ok (.iconst 0, 1) := by decide +kernel
theorem dX5_isWorking_27 : decode cX5_isWorking 27 = .ok (.ireturn, 1) := by decide +kernel
theorem dX5_addPlate_0 : decode cX5_addPlate 0 = .ok (.aload_n 0, 1) := by decide +kernel
theorem dX5_addPlate_1 : decode cX5_addPlate 1 = .ok (.getfield 11, 3) := by decide +kernel
theorem dX5_addPlate_4 : decode cX5_addPlate 4 = .ok (.aload_n 0, 1) := by decide +kernel
theorem dX5_addPlate_5 : decode cX5_addPlate 5 = .ok (.getfield 42, 3) := by decide +kernel
theorem dX5_addPlate_8 : decode cX5_addPlate 8 = .ok (.aaload, 1) := by decide +kernel
theorem dX5_addPlate_9 : decode cX5_addPlate 9 = .ok (.iload_n 1, 1) := by decide +kernel
theorem dX5_addPlate_10 : decode cX5_addPlate 10 = .ok (.iload_n 2, 1) := by decide +kernel
theorem dX5_addPlate_11 : decode cX5_addPlate 11 = .ok (.invokevirtual 74, 3) := by decide +kernel
theorem dX5_addPlate_14 : decode cX5_addPlate 14 = .ok (.aload_n 0, 1) := by decide +kernel
theorem dX5_addPlate_15 : decode cX5_addPlate 15 = .ok (.dup, 1) := by decide +kernel
theorem dX5_addPlate_16 : decode cX5_addPlate 16 = .ok (.getfield 42, 3) := by decide +kernel
theorem dX5_addPlate_19 : decode cX5_addPlate 19 = .ok (.iconst 1, 1) := by decide +kernel
theorem dX5_addPlate_20 : decode cX5_addPlate 20 = .ok (.iadd, 1) := by decide +kernel
theorem dX5_addPlate_21 : decode cX5_addPlate 21 = .ok (.putfield 42, 3) := by decide +kernel
theorem dX5_addPlate_24 : decode cX5_addPlate 24 = .ok (.aload_n 0, 1) := by decide +kernel
theorem dX5_addPlate_25 : decode cX5_addPlate 25 = .ok (.getfield 42, 3) := by decide +kernel
theorem dX5_addPlate_28 : decode cX5_addPlate 28 = .ok (.iconst 1, 1) := by decide +kernel
theorem dX5_addPlate_29 : decode cX5_addPlate 29 = .ok (.isub, 1) := by decide +kernel
theorem dX5_addPlate_30 : decode cX5_addPlate 30 = .ok (.ireturn, 1) := by decide +kernel
theorem dX5_hangShield_0 : decode cX5_hangShield 0 = .ok (.aload_n 0, 1) := by decide +kernel
theorem dX5_hangShield_1 : decode cX5_hangShield 1 = .ok (.getfield 17, 3) := by decide +kernel
theorem dX5_hangShield_4 : decode cX5_hangShield 4 = .ok (.aload_n 0, 1) := by decide +kernel
theorem dX5_hangShield_5 : decode cX5_hangShield 5 = .ok (.getfield 49, 3) := by decide +kernel
theorem dX5_hangShield_8 : decode cX5_hangShield 8 = .ok (.iload_n 1, 1) := by decide +kernel
theorem dX5_hangShield_9 : decode cX5_hangShield 9 = .ok (.iastore, 1) := by decide +kernel
theorem dX5_hangShield_10 : decode cX5_hangShield 10 = .ok (.aload_n 0, 1) := by decide +kernel
theorem dX5_hangShield_11 : decode cX5_hangShield 11 = .ok (.dup, 1) := by decide +kernel
theorem dX5_hangShield_12 : decode cX5_hangShield 12 = .ok (.getfield 49, 3) := by decide +kernel
theorem dX5_hangShield_15 : decode cX5_hangShield 15 = .ok (.iconst 1, 1) := by decide +kernel
theorem dX5_hangShield_16 : decode cX5_hangShield 16 = .ok (.iadd, 1) := by decide +kernel
theorem dX5_hangShield_17 : decode cX5_hangShield 17 = .ok (.putfield 49, 3) := by decide +kernel
theorem dX5_hangShield_20 : decode cX5_hangShield 20 = .ok (.aload_n 0, 1) := by decide +kernel
theorem dX5_hangShield_21 : decode cX5_hangShield 21 = .ok (.getfield 49, 3) := by decide +kernel
theorem dX5_hangShield_24 : decode cX5_hangShield 24 = .ok (.iconst 1, 1) := by decide +kernel
theorem dX5_hangShield_25 : decode cX5_hangShield 25 = .ok (.isub, 1) := by decide +kernel
theorem dX5_hangShield_26 : decode cX5_hangShield 26 = .ok (.ireturn, 1) := by decide +kernel
theorem dX5_grindSide_0 : decode cX5_grindSide 0 = .ok (.aload_n 1, 1) := by decide +kernel
theorem dX5_grindSide_1 : decode cX5_grindSide 1 = .ok (.iload_n 2, 1) := by decide +kernel
theorem dX5_grindSide_2 : decode cX5_grindSide 2 = .ok (.invokevirtual 78, 3) := by decide +kernel
theorem dX5_grindSide_5 : decode cX5_grindSide 5 = .ok (.aload_n 0, 1) := by decide +kernel
theorem dX5_grindSide_6 : decode cX5_grindSide 6 = .ok (.dup, 1) := by decide +kernel
theorem dX5_grindSide_7 : decode cX5_grindSide 7 = .ok (.getfield 64, 3) := by decide +kernel
theorem dX5_grindSide_10 : decode cX5_grindSide 10 = .ok (.iconst 1, 1) := by decide +kernel
theorem dX5_grindSide_11 : decode cX5_grindSide 11 = .ok (.iadd, 1) := by decide +kernel
theorem dX5_grindSide_12 : decode cX5_grindSide 12 = .ok (.putfield 64, 3) := by decide +kernel
theorem dX5_grindSide_15 : decode cX5_grindSide 15 = .ok (.return_, 1) := by decide +kernel
theorem dX5_platesIn_0 : decode cX5_platesIn 0 = .ok (.iconst 0, 1) := by decide +kernel
theorem dX5_platesIn_1 : decode cX5_platesIn 1 = .ok (.istore_n 2, 1) := by decide +kernel
theorem dX5_platesIn_2 : decode cX5_platesIn 2 = .ok (.iconst 0, 1) := by decide +kernel
theorem dX5_platesIn_3 : decode cX5_platesIn 3 = .ok (.istore_n 3, 1) := by decide +kernel
theorem dX5_platesIn_4 : decode cX5_platesIn 4 = .ok (.iload_n 3, 1) := by decide +kernel
theorem dX5_platesIn_5 : decode cX5_platesIn 5 = .ok (.aload_n 0, 1) := by decide +kernel
theorem dX5_platesIn_6 : decode cX5_platesIn 6 = .ok (.getfield 42, 3) := by decide +kernel
theorem dX5_platesIn_9 : decode cX5_platesIn 9 = .ok (.if_icmp .ge 25, 3) := by decide +kernel
theorem dX5_platesIn_12 : decode cX5_platesIn 12 = .ok (.aload_n 0, 1) := by decide +kernel
theorem dX5_platesIn_13 : decode cX5_platesIn 13 = .ok (.getfield 11, 3) := by decide +kernel
theorem dX5_platesIn_16 : decode cX5_platesIn 16 = .ok (.iload_n 3, 1) := by decide +kernel
theorem dX5_platesIn_17 : decode cX5_platesIn 17 = .ok (.aaload, 1) := by decide +kernel
theorem dX5_platesIn_18 : decode cX5_platesIn 18 = .ok (.getfield 82, 3) := by decide +kernel
theorem dX5_platesIn_21 : decode cX5_platesIn 21 = .ok (.iload_n 1, 1) := by decide +kernel
theorem dX5_platesIn_22 : decode cX5_platesIn 22 = .ok (.if_icmp .ne 6, 3) := by decide +kernel
theorem dX5_platesIn_25 : decode cX5_platesIn 25 = .ok (.iinc 2 1, 3) := by decide +kernel
theorem dX5_platesIn_28 : decode cX5_platesIn 28 = .ok (.iinc 3 1, 3) := by decide +kernel
theorem dX5_platesIn_31 : decode cX5_platesIn 31 = .ok (.goto (-27), 3) := by decide +kernel
theorem dX5_platesIn_34 : decode cX5_platesIn 34 = .ok (.iload_n 2, 1) := by decide +kernel
theorem dX5_platesIn_35 : decode cX5_platesIn 35 = .ok (.ireturn, 1) := by decide +kernel
theorem dX5_platesOn_0 : decode cX5_platesOn 0 = .ok (.iconst 0, 1) := by decide +kernel
theorem dX5_platesOn_1 : decode cX5_platesOn 1 = .ok (.istore_n 2, 1) := by decide +kernel
theorem dX5_platesOn_2 : decode cX5_platesOn 2 = .ok (.iconst 0, 1) := by decide +kernel
theorem dX5_platesOn_3 : decode cX5_platesOn 3 = .ok (.istore_n 3, 1) := by decide +kernel
theorem dX5_platesOn_4 : decode cX5_platesOn 4 = .ok (.iload_n 3, 1) := by decide +kernel
theorem dX5_platesOn_5 : decode cX5_platesOn 5 = .ok (.aload_n 0, 1) := by decide +kernel
theorem dX5_platesOn_6 : decode cX5_platesOn 6 = .ok (.getfield 42, 3) := by decide +kernel
theorem dX5_platesOn_9 : decode cX5_platesOn 9 = .ok (.if_icmp .ge 25, 3) := by decide +kernel
theorem dX5_platesOn_12 : decode cX5_platesOn 12 = .ok (.aload_n 0, 1) := by decide +kernel
theorem dX5_platesOn_13 : decode cX5_platesOn 13 = .ok (.getfield 11, 3) := by decide +kernel
theorem dX5_platesOn_16 : decode cX5_platesOn 16 = .ok (.iload_n 3, 1) := by decide +kernel
theorem dX5_platesOn_17 : decode cX5_platesOn 17 = .ok (.aaload, 1) := by decide +kernel
theorem dX5_platesOn_18 : decode cX5_platesOn 18 = .ok (.getfield 85, 3) := by decide +kernel
theorem dX5_platesOn_21 : decode cX5_platesOn 21 = .ok (.iload_n 1, 1) := by decide +kernel
theorem dX5_platesOn_22 : decode cX5_platesOn 22 = .ok (.if_icmp .ne 6, 3) := by decide +kernel
theorem dX5_platesOn_25 : decode cX5_platesOn 25 = .ok (.iinc 2 1, 3) := by decide +kernel
theorem dX5_platesOn_28 : decode cX5_platesOn 28 = .ok (.iinc 3 1, 3) := by decide +kernel
theorem dX5_platesOn_31 : decode cX5_platesOn 31 = .ok (.goto (-27), 3) := by decide +kernel
theorem dX5_platesOn_34 : decode cX5_platesOn 34 = .ok (.iload_n 2, 1) := by decide +kernel
theorem dX5_platesOn_35 : decode cX5_platesOn 35 = .ok (.ireturn, 1) := by decide +kernel
theorem dX5_plateOfYear_0 : decode cX5_plateOfYear 0 = .ok (.iconst 0, 1) := by decide +kernel
theorem dX5_plateOfYear_1 : decode cX5_plateOfYear 1 = .ok (.istore_n 3, 1) := by decide +kernel
theorem dX5_plateOfYear_2 : decode cX5_plateOfYear 2 = .ok (.iload_n 3, 1) := by decide +kernel
theorem dX5_plateOfYear_3 : decode cX5_plateOfYear 3 = .ok (.aload_n 0, 1) := by decide +kernel
theorem dX5_plateOfYear_4 : decode cX5_plateOfYear 4 = .ok (.getfield 42, 3) := by decide +kernel
theorem dX5_plateOfYear_7 : decode cX5_plateOfYear 7 = .ok (.if_icmp .ge 37, 3) := by decide +kernel
theorem dX5_plateOfYear_10 : decode cX5_plateOfYear 10 = .ok (.aload_n 0, 1) := by decide +kernel
theorem dX5_plateOfYear_11 : decode cX5_plateOfYear 11 = .ok (.getfield 11, 3) := by decide +kernel
theorem dX5_plateOfYear_14 : decode cX5_plateOfYear 14 = .ok (.iload_n 3, 1) := by decide +kernel
theorem dX5_plateOfYear_15 : decode cX5_plateOfYear 15 = .ok (.aaload, 1) := by decide +kernel
theorem dX5_plateOfYear_16 : decode cX5_plateOfYear 16 = .ok (.getfield 85, 3) := by decide +kernel
theorem dX5_plateOfYear_19 : decode cX5_plateOfYear 19 = .ok (.iload_n 1, 1) := by decide +kernel
theorem dX5_plateOfYear_20 : decode cX5_plateOfYear 20 = .ok (.if_icmp .ne 18, 3) := by decide +kernel
theorem dX5_plateOfYear_23 : decode cX5_plateOfYear 23 = .ok (.aload_n 0, 1) := by decide +kernel
theorem dX5_plateOfYear_24 : decode cX5_plateOfYear 24 = .ok (.getfield 11, 3) := by decide +kernel
theorem dX5_plateOfYear_27 : decode cX5_plateOfYear 27 = .ok (.iload_n 3, 1) := by decide +kernel
theorem dX5_plateOfYear_28 : decode cX5_plateOfYear 28 = .ok (.aaload, 1) := by decide +kernel
theorem dX5_plateOfYear_29 : decode cX5_plateOfYear 29 = .ok (.getfield 88, 3) := by decide +kernel
theorem dX5_plateOfYear_32 : decode cX5_plateOfYear 32 = .ok (.iload_n 2, 1) := by decide +kernel
theorem dX5_plateOfYear_33 : decode cX5_plateOfYear 33 = .ok (.if_icmp .ne 5, 3) := by decide +kernel
theorem dX5_plateOfYear_36 : decode cX5_plateOfYear 36 = .ok (.iload_n 3, 1) := by decide +kernel
theorem dX5_plateOfYear_37 : decode cX5_plateOfYear 37 = .ok (.ireturn, 1) := by decide +kernel
theorem dX5_plateOfYear_38 : decode cX5_plateOfYear 38 = .ok (.iinc 3 1, 3) := by decide +kernel
theorem dX5_plateOfYear_41 : decode cX5_plateOfYear 41 = .ok (.goto (-39), 3) := by decide +kernel
theorem dX5_plateOfYear_44 : decode cX5_plateOfYear 44 = .ok (.bipush (-9), 2) := by decide +kernel
theorem dX5_plateOfYear_46 : decode cX5_plateOfYear 46 = .ok (.ireturn, 1) := by decide +kernel
theorem dX5_earliestYear_0 : decode cX5_earliestYear 0 = .ok (.bipush (-9), 2) := by decide +kernel
theorem dX5_earliestYear_2 : decode cX5_earliestYear 2 = .ok (.istore_n 2, 1) := by decide +kernel
theorem dX5_earliestYear_3 : decode cX5_earliestYear 3 = .ok (.iconst 0, 1) := by decide +kernel
theorem dX5_earliestYear_4 : decode cX5_earliestYear 4 = .ok (.istore_n 3, 1) := by decide +kernel
theorem dX5_earliestYear_5 : decode cX5_earliestYear 5 = .ok (.iload_n 3, 1) := by decide +kernel
theorem dX5_earliestYear_6 : decode cX5_earliestYear 6 = .ok (.aload_n 0, 1) := by decide +kernel
theorem dX5_earliestYear_7 : decode cX5_earliestYear 7 = .ok (.getfield 42, 3) := by decide +kernel
theorem dX5_earliestYear_10 : decode cX5_earliestYear 10 = .ok (.if_icmp .ge 48, 3) := by decide +kernel
theorem dX5_earliestYear_13 : decode cX5_earliestYear 13 = .ok (.aload_n 0, 1) := by decide +kernel
theorem dX5_earliestYear_14 : decode cX5_earliestYear 14 = .ok (.getfield 11, 3) := by decide +kernel
theorem dX5_earliestYear_17 : decode cX5_earliestYear 17 = .ok (.iload_n 3, 1) := by decide +kernel
theorem dX5_earliestYear_18 : decode cX5_earliestYear 18 = .ok (.aaload, 1) := by decide +kernel
theorem dX5_earliestYear_19 : decode cX5_earliestYear 19 = .ok (.getfield 88, 3) := by decide +kernel
theorem dX5_earliestYear_22 : decode cX5_earliestYear 22 = .ok (.istore 4, 2) := by decide +kernel
theorem dX5_earliestYear_24 : decode cX5_earliestYear 24 = .ok (.aload_n 0, 1) := by decide +kernel
theorem dX5_earliestYear_25 : decode cX5_earliestYear 25 = .ok (.getfield 11, 3) := by decide +kernel
theorem dX5_earliestYear_28 : decode cX5_earliestYear 28 = .ok (.iload_n 3, 1) := by decide +kernel
theorem dX5_earliestYear_29 : decode cX5_earliestYear 29 = .ok (.aaload, 1) := by decide +kernel
theorem dX5_earliestYear_30 : decode cX5_earliestYear 30 = .ok (.getfield 85, 3) := by decide +kernel
theorem dX5_earliestYear_33 : decode cX5_earliestYear 33 = .ok (.iload_n 1, 1) := by decide +kernel
theorem dX5_earliestYear_34 : decode cX5_earliestYear 34 = .ok (.if_icmp .ne 18, 3) := by decide +kernel
theorem dX5_earliestYear_37 : decode cX5_earliestYear 37 = .ok (.iload_n 2, 1) := by decide +kernel
theorem dX5_earliestYear_38 : decode cX5_earliestYear 38 = .ok (.bipush (-9), 2) := by decide +kernel
theorem dX5_earliestYear_40 : decode cX5_earliestYear 40 = .ok (.if_icmp .eq 9, 3) := by decide +kernel
theorem dX5_earliestYear_43 : decode cX5_earliestYear 43 = .ok (.iload 4, 2) := by decide +kernel
theorem dX5_earliestYear_45 : decode cX5_earliestYear 45 = .ok (.iload_n 2, 1) := by decide +kernel
theorem dX5_earliestYear_46 : decode cX5_earliestYear 46 = .ok (.if_icmp .ge 6, 3) := by decide +kernel
theorem dX5_earliestYear_49 : decode cX5_earliestYear 49 = .ok (.iload 4, 2) := by decide +kernel
theorem dX5_earliestYear_51 : decode cX5_earliestYear 51 = .ok (.istore_n 2, 1) := by decide +kernel
theorem dX5_earliestYear_52 : decode cX5_earliestYear 52 = .ok (.iinc 3 1, 3) := by decide +kernel
theorem dX5_earliestYear_55 : decode cX5_earliestYear 55 = .ok (.goto (-50), 3) := by decide +kernel
theorem dX5_earliestYear_58 : decode cX5_earliestYear 58 = .ok (.iload_n 2, 1) := by decide +kernel
theorem dX5_earliestYear_59 : decode cX5_earliestYear 59 = .ok (.ireturn, 1) := by decide +kernel
theorem dX5_latestYear_0 : decode cX5_latestYear 0 = .ok (.bipush (-9), 2) := by decide +kernel
theorem dX5_latestYear_2 : decode cX5_latestYear 2 = .ok (.istore_n 2, 1) := by decide +kernel
theorem dX5_latestYear_3 : decode cX5_latestYear 3 = .ok (.iconst 0, 1) := by decide +kernel
theorem dX5_latestYear_4 : decode cX5_latestYear 4 = .ok (.istore_n 3, 1) := by decide +kernel
theorem dX5_latestYear_5 : decode cX5_latestYear 5 = .ok (.iload_n 3, 1) := by decide +kernel
theorem dX5_latestYear_6 : decode cX5_latestYear 6 = .ok (.aload_n 0, 1) := by decide +kernel
theorem dX5_latestYear_7 : decode cX5_latestYear 7 = .ok (.getfield 42, 3) := by decide +kernel
theorem dX5_latestYear_10 : decode cX5_latestYear 10 = .ok (.if_icmp .ge 48, 3) := by decide +kernel
theorem dX5_latestYear_13 : decode cX5_latestYear 13 = .ok (.aload_n 0, 1) := by decide +kernel
theorem dX5_latestYear_14 : decode cX5_latestYear 14 = .ok (.getfield 11, 3) := by decide +kernel
theorem dX5_latestYear_17 : decode cX5_latestYear 17 = .ok (.iload_n 3, 1) := by decide +kernel
theorem dX5_latestYear_18 : decode cX5_latestYear 18 = .ok (.aaload, 1) := by decide +kernel
theorem dX5_latestYear_19 : decode cX5_latestYear 19 = .ok (.getfield 88, 3) := by decide +kernel
theorem dX5_latestYear_22 : decode cX5_latestYear 22 = .ok (.istore 4, 2) := by decide +kernel
theorem dX5_latestYear_24 : decode cX5_latestYear 24 = .ok (.aload_n 0, 1) := by decide +kernel
theorem dX5_latestYear_25 : decode cX5_latestYear 25 = .ok (.getfield 11, 3) := by decide +kernel
theorem dX5_latestYear_28 : decode cX5_latestYear 28 = .ok (.iload_n 3, 1) := by decide +kernel
theorem dX5_latestYear_29 : decode cX5_latestYear 29 = .ok (.aaload, 1) := by decide +kernel
theorem dX5_latestYear_30 : decode cX5_latestYear 30 = .ok (.getfield 85, 3) := by decide +kernel
theorem dX5_latestYear_33 : decode cX5_latestYear 33 = .ok (.iload_n 1, 1) := by decide +kernel
theorem dX5_latestYear_34 : decode cX5_latestYear 34 = .ok (.if_icmp .ne 18, 3) := by decide +kernel
theorem dX5_latestYear_37 : decode cX5_latestYear 37 = .ok (.iload_n 2, 1) := by decide +kernel
theorem dX5_latestYear_38 : decode cX5_latestYear 38 = .ok (.bipush (-9), 2) := by decide +kernel
theorem dX5_latestYear_40 : decode cX5_latestYear 40 = .ok (.if_icmp .eq 9, 3) := by decide +kernel
theorem dX5_latestYear_43 : decode cX5_latestYear 43 = .ok (.iload 4, 2) := by decide +kernel
theorem dX5_latestYear_45 : decode cX5_latestYear 45 = .ok (.iload_n 2, 1) := by decide +kernel
theorem dX5_latestYear_46 : decode cX5_latestYear 46 = .ok (.if_icmp .le 6, 3) := by decide +kernel
theorem dX5_latestYear_49 : decode cX5_latestYear 49 = .ok (.iload 4, 2) := by decide +kernel
theorem dX5_latestYear_51 : decode cX5_latestYear 51 = .ok (.istore_n 2, 1) := by decide +kernel
theorem dX5_latestYear_52 : decode cX5_latestYear 52 = .ok (.iinc 3 1, 3) := by decide +kernel
theorem dX5_latestYear_55 : decode cX5_latestYear 55 = .ok (.goto (-50), 3) := by decide +kernel
theorem dX5_latestYear_58 : decode cX5_latestYear 58 = .ok (.iload_n 2, 1) := by decide +kernel
theorem dX5_latestYear_59 : decode cX5_latestYear 59 = .ok (.ireturn, 1) := by decide +kernel
theorem dX5_yearsLeftOut_0 : decode cX5_yearsLeftOut 0 = .ok (.aload_n 0, 1) := by decide +kernel
theorem dX5_yearsLeftOut_1 : decode cX5_yearsLeftOut 1 = .ok (.iload_n 1, 1) := by decide +kernel
theorem dX5_yearsLeftOut_2 : decode cX5_yearsLeftOut 2 = .ok (.invokevirtual 91, 3) := by decide +kernel
theorem dX5_yearsLeftOut_5 : decode cX5_yearsLeftOut 5 = .ok (.istore_n 2, 1) := by decide +kernel
theorem dX5_yearsLeftOut_6 : decode cX5_yearsLeftOut 6 = .ok (.iload_n 2, 1) := by decide +kernel
theorem dX5_yearsLeftOut_7 : decode cX5_yearsLeftOut 7 = .ok (.ifCond .ne 7, 3) := by decide +kernel
theorem dX5_yearsLeftOut_10 : decode cX5_yearsLeftOut 10 = .ok (.iconst 0, 1) := by decide +kernel
theorem dX5_yearsLeftOut_11 : decode cX5_yearsLeftOut 11 = .ok (.goto 18, 3) := by decide +kernel
theorem dX5_yearsLeftOut_14 : decode cX5_yearsLeftOut 14 = .ok (.aload_n 0, 1) := by decide +kernel
theorem dX5_yearsLeftOut_15 : decode cX5_yearsLeftOut 15 = .ok (.iload_n 1, 1) := by decide +kernel
theorem dX5_yearsLeftOut_16 : decode cX5_yearsLeftOut 16 = .ok (.invokevirtual 95, 3) := by decide +kernel
theorem dX5_yearsLeftOut_19 : decode cX5_yearsLeftOut 19 = .ok (.aload_n 0, 1) := by decide +kernel
theorem dX5_yearsLeftOut_20 : decode cX5_yearsLeftOut 20 = .ok (.iload_n 1, 1) := by decide +kernel
theorem dX5_yearsLeftOut_21 : decode cX5_yearsLeftOut 21 = .ok (.invokevirtual 98, 3) := by decide +kernel
theorem dX5_yearsLeftOut_24 : decode cX5_yearsLeftOut 24 = .ok (.isub, 1) := by decide +kernel
theorem dX5_yearsLeftOut_25 : decode cX5_yearsLeftOut 25 = .ok (.iconst 1, 1) := by decide +kernel
theorem dX5_yearsLeftOut_26 : decode cX5_yearsLeftOut 26 = .ok (.iadd, 1) := by decide +kernel
theorem dX5_yearsLeftOut_27 : decode cX5_yearsLeftOut 27 = .ok (.iload_n 2, 1) := by decide +kernel
theorem dX5_yearsLeftOut_28 : decode cX5_yearsLeftOut 28 = .ok (.isub, 1) := by decide +kernel
theorem dX5_yearsLeftOut_29 : decode cX5_yearsLeftOut 29 = .ok (.ireturn, 1) := by decide +kernel
theorem dX5_fixPlate_0 : decode cX5_fixPlate 0 = .ok (.aload_n 1, 1) := by decide +kernel
theorem dX5_fixPlate_1 : decode cX5_fixPlate 1 = .ok (.iload_n 2, 1) := by decide +kernel
theorem dX5_fixPlate_2 : decode cX5_fixPlate 2 = .ok (.iload_n 3, 1) := by decide +kernel
theorem dX5_fixPlate_3 : decode cX5_fixPlate 3 = .ok (.invokevirtual 101, 3) := by decide +kernel
theorem dX5_fixPlate_6 : decode cX5_fixPlate 6 = .ok (.aload_n 0, 1) := by decide +kernel
theorem dX5_fixPlate_7 : decode cX5_fixPlate 7 = .ok (.iload_n 2, 1) := by decide +kernel
theorem dX5_fixPlate_8 : decode cX5_fixPlate 8 = .ok (.invokevirtual 104, 3) := by decide +kernel
theorem dX5_fixPlate_11 : decode cX5_fixPlate 11 = .ok (.ifCond .eq 48, 3) := by decide +kernel
theorem dX5_fixPlate_14 : decode cX5_fixPlate 14 = .ok (.aload_n 0, 1) := by decide +kernel
theorem dX5_fixPlate_15 : decode cX5_fixPlate 15 = .ok (.iload_n 2, 1) := by decide +kernel
theorem dX5_fixPlate_16 : decode cX5_fixPlate 16 = .ok (.invokevirtual 91, 3) := by decide +kernel
theorem dX5_fixPlate_19 : decode cX5_fixPlate 19 = .ok (.aload_n 0, 1) := by decide +kernel
theorem dX5_fixPlate_20 : decode cX5_fixPlate 20 = .ok (.getfield 17, 3) := by decide +kernel
theorem dX5_fixPlate_23 : decode cX5_fixPlate 23 = .ok (.iload_n 2, 1) := by decide +kernel
theorem dX5_fixPlate_24 : decode cX5_fixPlate 24 = .ok (.iaload, 1) := by decide +kernel
theorem dX5_fixPlate_25 : decode cX5_fixPlate 25 = .ok (.if_icmp .le 34, 3) := by decide +kernel
theorem dX5_fixPlate_28 : decode cX5_fixPlate 28 = .ok (.aload_n 0, 1) := by decide +kernel
theorem dX5_fixPlate_29 : decode cX5_fixPlate 29 = .ok (.iload_n 2, 1) := by decide +kernel
theorem dX5_fixPlate_30 : decode cX5_fixPlate 30 = .ok (.aload_n 0, 1) := by decide +kernel
theorem dX5_fixPlate_31 : decode cX5_fixPlate 31 = .ok (.iload_n 2, 1) := by decide +kernel
theorem dX5_fixPlate_32 : decode cX5_fixPlate 32 = .ok (.invokevirtual 98, 3) := by decide +kernel
theorem dX5_fixPlate_35 : decode cX5_fixPlate 35 = .ok (.invokevirtual 107, 3) := by decide +kernel
theorem dX5_fixPlate_38 : decode cX5_fixPlate 38 = .ok (.istore 4, 2) := by decide +kernel
theorem dX5_fixPlate_40 : decode cX5_fixPlate 40 = .ok (.aload_n 0, 1) := by decide +kernel
theorem dX5_fixPlate_41 : decode cX5_fixPlate 41 = .ok (.iload 4, 2) := by decide +kernel
theorem dX5_fixPlate_43 : decode cX5_fixPlate 43 = .ok (.invokevirtual 71, 3) := by decide +kernel
theorem dX5_fixPlate_46 : decode cX5_fixPlate 46 = .ok (.ifCond .eq 13, 3) := by decide +kernel
theorem dX5_fixPlate_49 : decode cX5_fixPlate 49 = .ok (.aload_n 0, 1) := by decide +kernel
theorem dX5_fixPlate_50 : decode cX5_fixPlate 50 = .ok (.getfield 11, 3) := by decide +kernel
theorem dX5_fixPlate_53 : decode cX5_fixPlate 53 = .ok (.iload 4, 2) := by decide +kernel
theorem dX5_fixPlate_55 : decode cX5_fixPlate 55 = .ok (.aaload, 1) := by decide +kernel
theorem dX5_fixPlate_56 : decode cX5_fixPlate 56 = .ok (.invokevirtual 111, 3) := by decide +kernel
theorem dX5_fixPlate_59 : decode cX5_fixPlate 59 = .ok (.return_, 1) := by decide +kernel
theorem dX5_findPlate_0 : decode cX5_findPlate 0 = .ok (.aload_n 0, 1) := by decide +kernel
theorem dX5_findPlate_1 : decode cX5_findPlate 1 = .ok (.iload_n 1, 1) := by decide +kernel
theorem dX5_findPlate_2 : decode cX5_findPlate 2 = .ok (.iload_n 2, 1) := by decide +kernel
theorem dX5_findPlate_3 : decode cX5_findPlate 3 = .ok (.iconst 0, 1) := by decide +kernel
theorem dX5_findPlate_4 : decode cX5_findPlate 4 = .ok (.invokevirtual 114, 3) := by decide +kernel
theorem dX5_findPlate_7 : decode cX5_findPlate 7 = .ok (.istore_n 3, 1) := by decide +kernel
theorem dX5_findPlate_8 : decode cX5_findPlate 8 = .ok (.iload_n 3, 1) := by decide +kernel
theorem dX5_findPlate_9 : decode cX5_findPlate 9 = .ok (.bipush (-9), 2) := by decide +kernel
theorem dX5_findPlate_11 : decode cX5_findPlate 11 = .ok (.if_icmp .ne 13, 3) := by decide +kernel
theorem dX5_findPlate_14 : decode cX5_findPlate 14 = .ok (.aload_n 0, 1) := by decide +kernel
theorem dX5_findPlate_15 : decode cX5_findPlate 15 = .ok (.iload_n 1, 1) := by decide +kernel
theorem dX5_findPlate_16 : decode cX5_findPlate 16 = .ok (.iload_n 2, 1) := by decide +kernel
theorem dX5_findPlate_17 : decode cX5_findPlate 17 = .ok (.iconst 1, 1) := by decide +kernel
theorem dX5_findPlate_18 : decode cX5_findPlate 18 = .ok (.invokevirtual 114, 3) := by decide +kernel
theorem dX5_findPlate_21 : decode cX5_findPlate 21 = .ok (.goto 4, 3) := by decide +kernel
theorem dX5_findPlate_24 : decode cX5_findPlate 24 = .ok (.iload_n 3, 1) := by decide +kernel
theorem dX5_findPlate_25 : decode cX5_findPlate 25 = .ok (.ireturn, 1) := by decide +kernel
theorem dX5_bestPlate_0 : decode cX5_bestPlate 0 = .ok (.bipush (-9), 2) := by decide +kernel
theorem dX5_bestPlate_2 : decode cX5_bestPlate 2 = .ok (.istore 4, 2) := by decide +kernel
theorem dX5_bestPlate_4 : decode cX5_bestPlate 4 = .ok (.iconst 0, 1) := by decide +kernel
theorem dX5_bestPlate_5 : decode cX5_bestPlate 5 = .ok (.istore 5, 2) := by decide +kernel
theorem dX5_bestPlate_7 : decode cX5_bestPlate 7 = .ok (.iload 5, 2) := by decide +kernel
theorem dX5_bestPlate_9 : decode cX5_bestPlate 9 = .ok (.aload_n 0, 1) := by decide +kernel
theorem dX5_bestPlate_10 : decode cX5_bestPlate 10 = .ok (.getfield 42, 3) := by decide +kernel
theorem dX5_bestPlate_13 : decode cX5_bestPlate 13 = .ok (.if_icmp .ge 101, 3) := by decide +kernel
theorem dX5_bestPlate_16 : decode cX5_bestPlate 16 = .ok (.aload_n 0, 1) := by decide +kernel
theorem dX5_bestPlate_17 : decode cX5_bestPlate 17 = .ok (.getfield 11, 3) := by decide +kernel
theorem dX5_bestPlate_20 : decode cX5_bestPlate 20 = .ok (.iload 5, 2) := by decide +kernel
theorem dX5_bestPlate_22 : decode cX5_bestPlate 22 = .ok (.aaload, 1) := by decide +kernel
theorem dX5_bestPlate_23 : decode cX5_bestPlate 23 = .ok (.astore 6, 2) := by decide +kernel
theorem dX5_bestPlate_25 : decode cX5_bestPlate 25 = .ok (.iload_n 3, 1) := by decide +kernel
theorem dX5_bestPlate_26 : decode cX5_bestPlate 26 = .ok (.ifCond .eq 12, 3) := by decide +kernel
theorem dX5_bestPlate_29 : decode cX5_bestPlate 29 = .ok (.aload 6, 2) := by decide +kernel
theorem dX5_bestPlate_31 : decode cX5_bestPlate 31 = .ok (.iload_n 2, 1) := by decide +kernel
theorem dX5_bestPlate_32 : decode cX5_bestPlate 32 = .ok (.invokevirtual 118, 3) := by decide +kernel
theorem dX5_bestPlate_35 : decode cX5_bestPlate 35 = .ok (.goto 9, 3) := by decide +kernel
theorem dX5_bestPlate_38 : decode cX5_bestPlate 38 = .ok (.aload 6, 2) := by decide +kernel
theorem dX5_bestPlate_40 : decode cX5_bestPlate 40 = .ok (.iload_n 2, 1) := by decide +kernel
theorem dX5_bestPlate_41 : decode cX5_bestPlate 41 = .ok (.invokevirtual 121, 3) := by decide +kernel
theorem dX5_bestPlate_44 : decode cX5_bestPlate 44 = .ok (.istore 7, 2) := by decide +kernel
theorem dX5_bestPlate_46 : decode cX5_bestPlate 46 = .ok (.aload 6, 2) := by decide +kernel
theorem dX5_bestPlate_48 : decode cX5_bestPlate 48 = .ok (.getfield 82, 3) := by decide +kernel
theorem dX5_bestPlate_51 : decode cX5_bestPlate 51 = .ok (.ifCond .ne 23, 3) := by decide +kernel
theorem dX5_bestPlate_54 : decode cX5_bestPlate 54 = .ok (.aload 6, 2) := by decide +kernel
theorem dX5_bestPlate_56 : decode cX5_bestPlate 56 = .ok (.getfield 124, 3) := by decide +kernel
theorem dX5_bestPlate_59 : decode cX5_bestPlate 59 = .ok (.iload_n 1, 1) := by decide +kernel
theorem dX5_bestPlate_60 : decode cX5_bestPlate 60 = .ok (.if_icmp .lt 14, 3) := by decide +kernel
theorem dX5_bestPlate_63 : decode cX5_bestPlate 63 = .ok (.iload 7, 2) := by decide +kernel
theorem dX5_bestPlate_65 : decode cX5_bestPlate 65 = .ok (.bipush (-9), 2) := by decide +kernel
theorem dX5_bestPlate_67 : decode cX5_bestPlate 67 = .ok (.if_icmp .eq 7, 3) := by decide +kernel
theorem dX5_bestPlate_70 : decode cX5_bestPlate 70 = .ok (.iconst 1, 1) := by decide +kernel
theorem dX5_bestPlate_71 : decode cX5_bestPlate 71 = .ok (.goto 4, 3) := by decide +kernel
theorem dX5_bestPlate_74 : decode cX5_bestPlate 74 = .ok (.iconst 0, 1) := by decide +kernel
theorem dX5_bestPlate_75 : decode cX5_bestPlate 75 = .ok (.istore 8, 2) := by decide +kernel
theorem dX5_bestPlate_77 : decode cX5_bestPlate 77 = .ok (.iload 8, 2) := by decide +kernel
theorem dX5_bestPlate_79 : decode cX5_bestPlate 79 = .ok (.ifCond .eq 29, 3) := by decide +kernel
theorem dX5_bestPlate_82 : decode cX5_bestPlate 82 = .ok (.iload 4, 2) := by decide +kernel
theorem dX5_bestPlate_84 : decode cX5_bestPlate 84 = .ok (.bipush (-9), 2) := by decide +kernel
theorem dX5_bestPlate_86 : decode cX5_bestPlate 86 = .ok (.if_icmp .eq 18, 3) := by decide +kernel
theorem dX5_bestPlate_89 : decode cX5_bestPlate 89 = .ok (.aload 6, 2) := by decide +kernel
theorem dX5_bestPlate_91 : decode cX5_bestPlate 91 = .ok (.aload_n 0, 1) := by decide +kernel
theorem dX5_bestPlate_92 : decode cX5_bestPlate 92 = .ok (.getfield 11, 3) := by decide +kernel
theorem dX5_bestPlate_95 : decode cX5_bestPlate 95 = .ok (.iload 4, 2) := by decide +kernel
theorem dX5_bestPlate_97 : decode cX5_bestPlate 97 = .ok (.aaload, 1) := by decide +kernel
theorem dX5_bestPlate_98 : decode cX5_bestPlate 98 = .ok (.invokevirtual 127, 3) := by decide +kernel
theorem dX5_bestPlate_101 : decode cX5_bestPlate 101 = .ok (.ifCond .eq 7, 3) := by decide +kernel
theorem dX5_bestPlate_104 : decode cX5_bestPlate 104 = .ok (.iload 5, 2) := by decide +kernel
theorem dX5_bestPlate_106 : decode cX5_bestPlate 106 = .ok (.istore 4, 2) := by decide +kernel
theorem dX5_bestPlate_108 : decode cX5_bestPlate 108 = .ok (.iinc 5 1, 3) := by decide +kernel
theorem dX5_bestPlate_111 : decode cX5_bestPlate 111 = .ok (.goto (-104), 3) := by decide +kernel
theorem dX5_bestPlate_114 : decode cX5_bestPlate 114 = .ok (.iload 4, 2) := by decide +kernel
theorem dX5_bestPlate_116 : decode cX5_bestPlate 116 = .ok (.ireturn, 1) := by decide +kernel
theorem dX5_rushes_0 : decode cX5_rushes 0 = .ok (.iconst 0, 1) := by decide +kernel
theorem dX5_rushes_1 : decode cX5_rushes 1 = .ok (.istore_n 1, 1) := by decide +kernel
theorem dX5_rushes_2 : decode cX5_rushes 2 = .ok (.iconst 0, 1) := by decide +kernel
theorem dX5_rushes_3 : decode cX5_rushes 3 = .ok (.istore_n 2, 1) := by decide +kernel
theorem dX5_rushes_4 : decode cX5_rushes 4 = .ok (.iload_n 2, 1) := by decide +kernel
theorem dX5_rushes_5 : decode cX5_rushes 5 = .ok (.aload_n 0, 1) := by decide +kernel
theorem dX5_rushes_6 : decode cX5_rushes 6 = .ok (.getfield 52, 3) := by decide +kernel
theorem dX5_rushes_9 : decode cX5_rushes 9 = .ok (.if_icmp .ge 24, 3) := by decide +kernel
theorem dX5_rushes_12 : decode cX5_rushes 12 = .ok (.aload_n 0, 1) := by decide +kernel
theorem dX5_rushes_13 : decode cX5_rushes 13 = .ok (.getfield 23, 3) := by decide +kernel
theorem dX5_rushes_16 : decode cX5_rushes 16 = .ok (.iload_n 2, 1) := by decide +kernel
theorem dX5_rushes_17 : decode cX5_rushes 17 = .ok (.aaload, 1) := by decide +kernel
theorem dX5_rushes_18 : decode cX5_rushes 18 = .ok (.getfield 131, 3) := by decide +kernel
theorem dX5_rushes_21 : decode cX5_rushes 21 = .ok (.ifCond .eq 6, 3) := by decide +kernel
theorem dX5_rushes_24 : decode cX5_rushes 24 = .ok (.iinc 1 1, 3) := by decide +kernel
theorem dX5_rushes_27 : decode cX5_rushes 27 = .ok (.iinc 2 1, 3) := by decide +kernel
theorem dX5_rushes_30 : decode cX5_rushes 30 = .ok (.goto (-26), 3) := by decide +kernel
theorem dX5_rushes_33 : decode cX5_rushes 33 = .ok (.iload_n 1, 1) := by decide +kernel
theorem dX5_rushes_34 : decode cX5_rushes 34 = .ok (.ireturn, 1) := by decide +kernel
theorem dX5_isOrdered_0 : decode cX5_isOrdered 0 = .ok (.iconst 0, 1) := by decide +kernel
theorem dX5_isOrdered_1 : decode cX5_isOrdered 1 = .ok (.istore_n 3, 1) := by decide +kernel
theorem dX5_isOrdered_2 : decode cX5_isOrdered 2 = .ok (.iload_n 3, 1) := by decide +kernel
theorem dX5_isOrdered_3 : decode cX5_isOrdered 3 = .ok (.aload_n 0, 1) := by decide +kernel
theorem dX5_isOrdered_4 : decode cX5_isOrdered 4 = .ok (.getfield 52, 3) := by decide +kernel
theorem dX5_isOrdered_7 : decode cX5_isOrdered 7 = .ok (.if_icmp .ge 37, 3) := by decide +kernel
theorem dX5_isOrdered_10 : decode cX5_isOrdered 10 = .ok (.aload_n 0, 1) := by decide +kernel
theorem dX5_isOrdered_11 : decode cX5_isOrdered 11 = .ok (.getfield 23, 3) := by decide +kernel
theorem dX5_isOrdered_14 : decode cX5_isOrdered 14 = .ok (.iload_n 3, 1) := by decide +kernel
theorem dX5_isOrdered_15 : decode cX5_isOrdered 15 = .ok (.aaload, 1) := by decide +kernel
theorem dX5_isOrdered_16 : decode cX5_isOrdered 16 = .ok (.getfield 135, 3) := by decide +kernel
theorem dX5_isOrdered_19 : decode cX5_isOrdered 19 = .ok (.iload_n 1, 1) := by decide +kernel
theorem dX5_isOrdered_20 : decode cX5_isOrdered 20 = .ok (.if_icmp .ne 18, 3) := by decide +kernel
theorem dX5_isOrdered_23 : decode cX5_isOrdered 23 = .ok (.aload_n 0, 1) := by decide +kernel
theorem dX5_isOrdered_24 : decode cX5_isOrdered 24 = .ok (.getfield 23, 3) := by decide +kernel
theorem dX5_isOrdered_27 : decode cX5_isOrdered 27 = .ok (.iload_n 3, 1) := by decide +kernel
theorem dX5_isOrdered_28 : decode cX5_isOrdered 28 = .ok (.aaload, 1) := by decide +kernel
theorem dX5_isOrdered_29 : decode cX5_isOrdered 29 = .ok (.getfield 136, 3) := by decide +kernel
theorem dX5_isOrdered_32 : decode cX5_isOrdered 32 = .ok (.iload_n 2, 1) := by decide +kernel
theorem dX5_isOrdered_33 : decode cX5_isOrdered 33 = .ok (.if_icmp .ne 5, 3) := by decide +kernel
theorem dX5_isOrdered_36 : decode cX5_isOrdered 36 = .ok (.iconst 1, 1) := by decide +kernel
theorem dX5_isOrdered_37 : decode cX5_isOrdered 37 = .ok (.ireturn, 1) := by decide +kernel
theorem dX5_isOrdered_38 : decode cX5_isOrdered 38 = .ok (.iinc 3 1, 3) := by decide +kernel
theorem dX5_isOrdered_41 : decode cX5_isOrdered 41 = .ok (.goto (-39), 3) := by decide +kernel
theorem dX5_isOrdered_44 : decode cX5_isOrdered 44 = .ok (.iconst 0, 1) := by decide +kernel
theorem dX5_isOrdered_45 : decode cX5_isOrdered 45 = .ok (.ireturn, 1) := by decide +kernel
theorem dX5_takeInOrder_0 : decode cX5_takeInOrder 0 = .ok (.aload_n 0, 1) := by decide +kernel
theorem dX5_takeInOrder_1 : decode cX5_takeInOrder 1 = .ok (.getfield 52, 3) := by decide +kernel
theorem dX5_takeInOrder_4 : decode cX5_takeInOrder 4 = .ok (.istore_n 1, 1) := by decide +kernel
theorem dX5_takeInOrder_5 : decode cX5_takeInOrder 5 = .ok (.aload_n 0, 1) := by decide +kernel
theorem dX5_takeInOrder_6 : decode cX5_takeInOrder 6 = .ok (.getfield 23, 3) := by decide +kernel
theorem dX5_takeInOrder_9 : decode cX5_takeInOrder 9 = .ok (.iload_n 1, 1) := by decide +kernel
theorem dX5_takeInOrder_10 : decode cX5_takeInOrder 10 = .ok (.aaload, 1) := by decide +kernel
theorem dX5_takeInOrder_11 : decode cX5_takeInOrder 11 = .ok (.getfield 131, 3) := by decide +kernel
theorem dX5_takeInOrder_14 : decode cX5_takeInOrder 14 = .ok (.ifCond .eq 10, 3) := by decide +kernel
theorem dX5_takeInOrder_17 : decode cX5_takeInOrder 17 = .ok (.aload_n 0, 1) := by decide +kernel
theorem dX5_takeInOrder_18 : decode cX5_takeInOrder 18 = .ok (.invokevirtual 137, 3) := by decide +kernel
theorem dX5_takeInOrder_21 : decode cX5_takeInOrder 21 = .ok (.goto 4, 3) := by decide +kernel
theorem dX5_takeInOrder_24 : decode cX5_takeInOrder 24 = .ok (.iload_n 1, 1) := by decide +kernel
theorem dX5_takeInOrder_25 : decode cX5_takeInOrder 25 = .ok (.istore_n 2, 1) := by decide +kernel
theorem dX5_takeInOrder_26 : decode cX5_takeInOrder 26 = .ok (.aload_n 0, 1) := by decide +kernel
theorem dX5_takeInOrder_27 : decode cX5_takeInOrder 27 = .ok (.dup, 1) := by decide +kernel
theorem dX5_takeInOrder_28 : decode cX5_takeInOrder 28 = .ok (.getfield 52, 3) := by decide +kernel
theorem dX5_takeInOrder_31 : decode cX5_takeInOrder 31 = .ok (.iconst 1, 1) := by decide +kernel
theorem dX5_takeInOrder_32 : decode cX5_takeInOrder 32 = .ok (.iadd, 1) := by decide +kernel
theorem dX5_takeInOrder_33 : decode cX5_takeInOrder 33 = .ok (.putfield 52, 3) := by decide +kernel
theorem dX5_takeInOrder_36 : decode cX5_takeInOrder 36 = .ok (.aload_n 0, 1) := by decide +kernel
theorem dX5_takeInOrder_37 : decode cX5_takeInOrder 37 = .ok (.iload_n 1, 1) := by decide +kernel
theorem dX5_takeInOrder_38 : decode cX5_takeInOrder 38 = .ok (.iload_n 2, 1) := by decide +kernel
theorem dX5_takeInOrder_39 : decode cX5_takeInOrder 39 = .ok (.invokevirtual 141, 3) := by decide +kernel
theorem dX5_takeInOrder_42 : decode cX5_takeInOrder 42 = .ok (.iload_n 2, 1) := by decide +kernel
theorem dX5_takeInOrder_43 : decode cX5_takeInOrder 43 = .ok (.ireturn, 1) := by decide +kernel
theorem dX5_makeRush_0 : decode cX5_makeRush 0 = .ok (.aload_n 0, 1) := by decide +kernel
theorem dX5_makeRush_1 : decode cX5_makeRush 1 = .ok (.invokevirtual 137, 3) := by decide +kernel
theorem dX5_makeRush_4 : decode cX5_makeRush 4 = .ok (.istore_n 2, 1) := by decide +kernel
theorem dX5_makeRush_5 : decode cX5_makeRush 5 = .ok (.aload_n 0, 1) := by decide +kernel
theorem dX5_makeRush_6 : decode cX5_makeRush 6 = .ok (.getfield 23, 3) := by decide +kernel
theorem dX5_makeRush_9 : decode cX5_makeRush 9 = .ok (.iload_n 1, 1) := by decide +kernel
theorem dX5_makeRush_10 : decode cX5_makeRush 10 = .ok (.aaload, 1) := by decide +kernel
theorem dX5_makeRush_11 : decode cX5_makeRush 11 = .ok (.iconst 1, 1) := by decide +kernel
theorem dX5_makeRush_12 : decode cX5_makeRush 12 = .ok (.putfield 131, 3) := by decide +kernel
theorem dX5_makeRush_15 : decode cX5_makeRush 15 = .ok (.aload_n 0, 1) := by decide +kernel
theorem dX5_makeRush_16 : decode cX5_makeRush 16 = .ok (.iload_n 1, 1) := by decide +kernel
theorem dX5_makeRush_17 : decode cX5_makeRush 17 = .ok (.iload_n 2, 1) := by decide +kernel
theorem dX5_makeRush_18 : decode cX5_makeRush 18 = .ok (.invokevirtual 141, 3) := by decide +kernel
theorem dX5_makeRush_21 : decode cX5_makeRush 21 = .ok (.iload_n 2, 1) := by decide +kernel
theorem dX5_makeRush_22 : decode cX5_makeRush 22 = .ok (.ireturn, 1) := by decide +kernel
theorem dX5_moveAhead_0 : decode cX5_moveAhead 0 = .ok (.aload_n 0, 1) := by decide +kernel
theorem dX5_moveAhead_1 : decode cX5_moveAhead 1 = .ok (.getfield 23, 3) := by decide +kernel
theorem dX5_moveAhead_4 : decode cX5_moveAhead 4 = .ok (.iload_n 1, 1) := by decide +kernel
theorem dX5_moveAhead_5 : decode cX5_moveAhead 5 = .ok (.aaload, 1) := by decide +kernel
theorem dX5_moveAhead_6 : decode cX5_moveAhead 6 = .ok (.astore_n 3, 1) := by decide +kernel
theorem dX5_moveAhead_7 : decode cX5_moveAhead 7 = .ok (.iload_n 1, 1) := by decide +kernel
theorem dX5_moveAhead_8 : decode cX5_moveAhead 8 = .ok (.istore 4, 2) := by decide +kernel
theorem dX5_moveAhead_10 : decode cX5_moveAhead 10 = .ok (.iload 4, 2) := by decide +kernel
theorem dX5_moveAhead_12 : decode cX5_moveAhead 12 = .ok (.iload_n 2, 1) := by decide +kernel
theorem dX5_moveAhead_13 : decode cX5_moveAhead 13 = .ok (.if_icmp .le 25, 3) := by decide +kernel
theorem dX5_moveAhead_16 : decode cX5_moveAhead 16 = .ok (.aload_n 0, 1) := by decide +kernel
theorem dX5_moveAhead_17 : decode cX5_moveAhead 17 = .ok (.getfield 23, 3) := by decide +kernel
theorem dX5_moveAhead_20 : decode cX5_moveAhead 20 = .ok (.iload 4, 2) := by decide +kernel
theorem dX5_moveAhead_22 : decode cX5_moveAhead 22 = .ok (.aload_n 0, 1) := by decide +kernel
theorem dX5_moveAhead_23 : decode cX5_moveAhead 23 = .ok (.getfield 23, 3) := by decide +kernel
theorem dX5_moveAhead_26 : decode cX5_moveAhead 26 = .ok (.iload 4, 2) := by decide +kernel
theorem dX5_moveAhead_28 : decode cX5_moveAhead 28 = .ok (.iconst 1, 1) := by decide +kernel
theorem dX5_moveAhead_29 : decode cX5_moveAhead 29 = .ok (.isub, 1) := by decide +kernel
theorem dX5_moveAhead_30 : decode cX5_moveAhead 30 = .ok (.aaload, 1) := by decide +kernel
theorem dX5_moveAhead_31 : decode cX5_moveAhead 31 = .ok (.aastore, 1) := by decide +kernel
theorem dX5_moveAhead_32 : decode cX5_moveAhead 32 = .ok (.iinc 4 (-1), 3) := by decide +kernel
theorem dX5_moveAhead_35 : decode cX5_moveAhead 35 = .ok (.goto (-25), 3) := by decide +kernel
theorem dX5_moveAhead_38 : decode cX5_moveAhead 38 = .ok (.aload_n 0, 1) := by decide +kernel
theorem dX5_moveAhead_39 : decode cX5_moveAhead 39 = .ok (.getfield 23, 3) := by decide +kernel
theorem dX5_moveAhead_42 : decode cX5_moveAhead 42 = .ok (.iload_n 2, 1) := by decide +kernel
theorem dX5_moveAhead_43 : decode cX5_moveAhead 43 = .ok (.aload_n 3, 1) := by decide +kernel
theorem dX5_moveAhead_44 : decode cX5_moveAhead 44 = .ok (.aastore, 1) := by decide +kernel
theorem dX5_moveAhead_45 : decode cX5_moveAhead 45 = .ok (.aload_n 0, 1) := by decide +kernel
theorem dX5_moveAhead_46 : decode cX5_moveAhead 46 = .ok (.getfield 27, 3) := by decide +kernel
theorem dX5_moveAhead_49 : decode cX5_moveAhead 49 = .ok (.iload_n 1, 1) := by decide +kernel
theorem dX5_moveAhead_50 : decode cX5_moveAhead 50 = .ok (.if_icmp .ne 11, 3) := by decide +kernel
theorem dX5_moveAhead_53 : decode cX5_moveAhead 53 = .ok (.aload_n 0, 1) := by decide +kernel
theorem dX5_moveAhead_54 : decode cX5_moveAhead 54 = .ok (.iload_n 2, 1) := by decide +kernel
theorem dX5_moveAhead_55 : decode cX5_moveAhead 55 = .ok (.putfield 27, 3) := by decide +kernel
theorem dX5_moveAhead_58 : decode cX5_moveAhead 58 = .ok (.goto 29, 3) := by decide +kernel
theorem dX5_moveAhead_61 : decode cX5_moveAhead 61 = .ok (.aload_n 0, 1) := by decide +kernel
theorem dX5_moveAhead_62 : decode cX5_moveAhead 62 = .ok (.getfield 27, 3) := by decide +kernel
theorem dX5_moveAhead_65 : decode cX5_moveAhead 65 = .ok (.iload_n 2, 1) := by decide +kernel
theorem dX5_moveAhead_66 : decode cX5_moveAhead 66 = .ok (.if_icmp .lt 21, 3) := by decide +kernel
theorem dX5_moveAhead_69 : decode cX5_moveAhead 69 = .ok (.aload_n 0, 1) := by decide +kernel
theorem dX5_moveAhead_70 : decode cX5_moveAhead 70 = .ok (.getfield 27, 3) := by decide +kernel
theorem dX5_moveAhead_73 : decode cX5_moveAhead 73 = .ok (.iload_n 1, 1) := by decide +kernel
theorem dX5_moveAhead_74 : decode cX5_moveAhead 74 = .ok (.if_icmp .ge 13, 3) := by decide +kernel
theorem dX5_moveAhead_77 : decode cX5_moveAhead 77 = .ok (.aload_n 0, 1) := by decide +kernel
theorem dX5_moveAhead_78 : decode cX5_moveAhead 78 = .ok (.dup, 1) := by decide +kernel
theorem dX5_moveAhead_79 : decode cX5_moveAhead 79 = .ok (.getfield 27, 3) := by decide +kernel
theorem dX5_moveAhead_82 : decode cX5_moveAhead 82 = .ok (.iconst 1, 1) := by decide +kernel
theorem dX5_moveAhead_83 : decode cX5_moveAhead 83 = .ok (.iadd, 1) := by decide +kernel
theorem dX5_moveAhead_84 : decode cX5_moveAhead 84 = .ok (.putfield 27, 3) := by decide +kernel
theorem dX5_moveAhead_87 : decode cX5_moveAhead 87 = .ok (.return_, 1) := by decide +kernel
theorem dX5_dropOrder_0 : decode cX5_dropOrder 0 = .ok (.iload_n 1, 1) := by decide +kernel
theorem dX5_dropOrder_1 : decode cX5_dropOrder 1 = .ok (.aload_n 0, 1) := by decide +kernel
theorem dX5_dropOrder_2 : decode cX5_dropOrder 2 = .ok (.getfield 27, 3) := by decide +kernel
theorem dX5_dropOrder_5 : decode cX5_dropOrder 5 = .ok (.if_icmp .ne 26, 3) := by decide +kernel
theorem dX5_dropOrder_8 : decode cX5_dropOrder 8 = .ok (.aload_n 0, 1) := by decide +kernel
theorem dX5_dropOrder_9 : decode cX5_dropOrder 9 = .ok (.invokevirtual 144, 3) := by decide +kernel
theorem dX5_dropOrder_12 : decode cX5_dropOrder 12 = .ok (.ifCond .eq 19, 3) := by decide +kernel
theorem dX5_dropOrder_15 : decode cX5_dropOrder 15 = .ok (.aload_n 0, 1) := by decide +kernel
theorem dX5_dropOrder_16 : decode cX5_dropOrder 16 = .ok (.getfield 11, 3) := by decide +kernel
theorem dX5_dropOrder_19 : decode cX5_dropOrder 19 = .ok (.aload_n 0, 1) := by decide +kernel
theorem dX5_dropOrder_20 : decode cX5_dropOrder 20 = .ok (.getfield 31, 3) := by decide +kernel
theorem dX5_dropOrder_23 : decode cX5_dropOrder 23 = .ok (.aaload, 1) := by decide +kernel
theorem dX5_dropOrder_24 : decode cX5_dropOrder 24 = .ok (.invokevirtual 111, 3) := by decide +kernel
theorem dX5_dropOrder_27 : decode cX5_dropOrder 27 = .ok (.aload_n 0, 1) := by decide +kernel
theorem dX5_dropOrder_28 : decode cX5_dropOrder 28 = .ok (.invokevirtual 148, 3) := by decide +kernel
theorem dX5_dropOrder_31 : decode cX5_dropOrder 31 = .ok (.aload_n 0, 1) := by decide +kernel
theorem dX5_dropOrder_32 : decode cX5_dropOrder 32 = .ok (.iload_n 1, 1) := by decide +kernel
theorem dX5_dropOrder_33 : decode cX5_dropOrder 33 = .ok (.invokevirtual 151, 3) := by decide +kernel
theorem dX5_dropOrder_36 : decode cX5_dropOrder 36 = .ok (.return_, 1) := by decide +kernel
theorem dX5_removeOrder_0 : decode cX5_removeOrder 0 = .ok (.aload_n 0, 1) := by decide +kernel
theorem dX5_removeOrder_1 : decode cX5_removeOrder 1 = .ok (.getfield 23, 3) := by decide +kernel
theorem dX5_removeOrder_4 : decode cX5_removeOrder 4 = .ok (.iload_n 1, 1) := by decide +kernel
theorem dX5_removeOrder_5 : decode cX5_removeOrder 5 = .ok (.aaload, 1) := by decide +kernel
theorem dX5_removeOrder_6 : decode cX5_removeOrder 6 = .ok (.astore_n 2, 1) := by decide +kernel
theorem dX5_removeOrder_7 : decode cX5_removeOrder 7 = .ok (.iload_n 1, 1) := by decide +kernel
theorem dX5_removeOrder_8 : decode cX5_removeOrder 8 = .ok (.istore_n 3, 1) := by decide +kernel
theorem dX5_removeOrder_9 : decode cX5_removeOrder 9 = .ok (.iload_n 3, 1) := by decide +kernel
theorem dX5_removeOrder_10 : decode cX5_removeOrder 10 = .ok (.aload_n 0, 1) := by decide +kernel
theorem dX5_removeOrder_11 : decode cX5_removeOrder 11 = .ok (.getfield 52, 3) := by decide +kernel
theorem dX5_removeOrder_14 : decode cX5_removeOrder 14 = .ok (.iconst 1, 1) := by decide +kernel
theorem dX5_removeOrder_15 : decode cX5_removeOrder 15 = .ok (.isub, 1) := by decide +kernel
theorem dX5_removeOrder_16 : decode cX5_removeOrder 16 = .ok (.if_icmp .ge 23, 3) := by decide +kernel
theorem dX5_removeOrder_19 : decode cX5_removeOrder 19 = .ok (.aload_n 0, 1) := by decide +kernel
theorem dX5_removeOrder_20 : decode cX5_removeOrder 20 = .ok (.getfield 23, 3) := by decide +kernel
theorem dX5_removeOrder_23 : decode cX5_removeOrder 23 = .ok (.iload_n 3, 1) := by decide +kernel
theorem dX5_removeOrder_24 : decode cX5_removeOrder 24 = .ok (.aload_n 0, 1) := by decide +kernel
theorem dX5_removeOrder_25 : decode cX5_removeOrder 25 = .ok (.getfield 23, 3) := by decide +kernel
theorem dX5_removeOrder_28 : decode cX5_removeOrder 28 = .ok (.iload_n 3, 1) := by decide +kernel
theorem dX5_removeOrder_29 : decode cX5_removeOrder 29 = .ok (.iconst 1, 1) := by decide +kernel
theorem dX5_removeOrder_30 : decode cX5_removeOrder 30 = .ok (.iadd, 1) := by decide +kernel
theorem dX5_removeOrder_31 : decode cX5_removeOrder 31 = .ok (.aaload, 1) := by decide +kernel
theorem dX5_removeOrder_32 : decode cX5_removeOrder 32 = .ok (.aastore, 1) := by decide +kernel
theorem dX5_removeOrder_33 : decode cX5_removeOrder 33 = .ok (.iinc 3 1, 3) := by decide +kernel
theorem dX5_removeOrder_36 : decode cX5_removeOrder 36 = .ok (.goto (-27), 3) := by decide +kernel
theorem dX5_removeOrder_39 : decode cX5_removeOrder 39 = .ok (.aload_n 0, 1) := by decide +kernel
theorem dX5_removeOrder_40 : decode cX5_removeOrder 40 = .ok (.dup, 1) := by decide +kernel
theorem dX5_removeOrder_41 : decode cX5_removeOrder 41 = .ok (.getfield 52, 3) := by decide +kernel
theorem dX5_removeOrder_44 : decode cX5_removeOrder 44 = .ok (.iconst 1, 1) := by decide +kernel
theorem dX5_removeOrder_45 : decode cX5_removeOrder 45 = .ok (.isub, 1) := by decide +kernel
theorem dX5_removeOrder_46 : decode cX5_removeOrder 46 = .ok (.putfield 52, 3) := by decide +kernel
theorem dX5_removeOrder_49 : decode cX5_removeOrder 49 = .ok (.aload_n 0, 1) := by decide +kernel
theorem dX5_removeOrder_50 : decode cX5_removeOrder 50 = .ok (.getfield 23, 3) := by decide +kernel
theorem dX5_removeOrder_53 : decode cX5_removeOrder 53 = .ok (.aload_n 0, 1) := by decide +kernel
theorem dX5_removeOrder_54 : decode cX5_removeOrder 54 = .ok (.getfield 52, 3) := by decide +kernel
theorem dX5_removeOrder_57 : decode cX5_removeOrder 57 = .ok (.aload_n 2, 1) := by decide +kernel
theorem dX5_removeOrder_58 : decode cX5_removeOrder 58 = .ok (.aastore, 1) := by decide +kernel
theorem dX5_removeOrder_59 : decode cX5_removeOrder 59 = .ok (.aload_n 0, 1) := by decide +kernel
theorem dX5_removeOrder_60 : decode cX5_removeOrder 60 = .ok (.getfield 27, 3) := by decide +kernel
theorem dX5_removeOrder_63 : decode cX5_removeOrder 63 = .ok (.iload_n 1, 1) := by decide +kernel
theorem dX5_removeOrder_64 : decode cX5_removeOrder 64 = .ok (.if_icmp .le 13, 3) := by decide +kernel
theorem dX5_removeOrder_67 : decode cX5_removeOrder 67 = .ok (.aload_n 0, 1) := by decide +kernel
theorem dX5_removeOrder_68 : decode cX5_removeOrder 68 = .ok (.dup, 1) := by decide +kernel
theorem dX5_removeOrder_69 : decode cX5_removeOrder 69 = .ok (.getfield 27, 3) := by decide +kernel
theorem dX5_removeOrder_72 : decode cX5_removeOrder 72 = .ok (.iconst 1, 1) := by decide +kernel
theorem dX5_removeOrder_73 : decode cX5_removeOrder 73 = .ok (.isub, 1) := by decide +kernel
theorem dX5_removeOrder_74 : decode cX5_removeOrder 74 = .ok (.putfield 27, 3) := by decide +kernel
theorem dX5_removeOrder_77 : decode cX5_removeOrder 77 = .ok (.return_, 1) := by decide +kernel
theorem dX5_stopWork_0 : decode cX5_stopWork 0 = .ok (.aload_n 0, 1) := by decide +kernel
theorem dX5_stopWork_1 : decode cX5_stopWork 1 = .ok (.bipush (-9), 2) := by decide +kernel
theorem dX5_stopWork_3 : decode cX5_stopWork 3 = .ok (.putfield 27, 3) := by decide +kernel
theorem dX5_stopWork_6 : decode cX5_stopWork 6 = .ok (.aload_n 0, 1) := by decide +kernel
theorem dX5_stopWork_7 : decode cX5_stopWork 7 = .ok (.bipush (-9), 2) := by decide +kernel
theorem dX5_stopWork_9 : decode cX5_stopWork 9 = .ok (.putfield 31, 3) := by decide +kernel
theorem dX5_stopWork_12 : decode cX5_stopWork 12 = .ok (.aload_n 0, 1) := by decide +kernel
theorem dX5_stopWork_13 : decode cX5_stopWork 13 = .ok (.bipush (-9), 2) := by decide +kernel
theorem dX5_stopWork_15 : decode cX5_stopWork 15 = .ok (.putfield 34, 3) := by decide +kernel
theorem dX5_stopWork_18 : decode cX5_stopWork 18 = .ok (.aload_n 0, 1) := by decide +kernel
theorem dX5_stopWork_19 : decode cX5_stopWork 19 = .ok (.bipush (-9), 2) := by decide +kernel
theorem dX5_stopWork_21 : decode cX5_stopWork 21 = .ok (.putfield 37, 3) := by decide +kernel
theorem dX5_stopWork_24 : decode cX5_stopWork 24 = .ok (.return_, 1) := by decide +kernel
theorem dX5_spendMinutes_0 : decode cX5_spendMinutes 0 = .ok (.aload_n 0, 1) := by decide +kernel
theorem dX5_spendMinutes_1 : decode cX5_spendMinutes 1 = .ok (.getfield 58, 3) := by decide +kernel
theorem dX5_spendMinutes_4 : decode cX5_spendMinutes 4 = .ok (.istore_n 2, 1) := by decide +kernel
theorem dX5_spendMinutes_5 : decode cX5_spendMinutes 5 = .ok (.iload_n 1, 1) := by decide +kernel
theorem dX5_spendMinutes_6 : decode cX5_spendMinutes 6 = .ok (.istore_n 3, 1) := by decide +kernel
theorem dX5_spendMinutes_7 : decode cX5_spendMinutes 7 = .ok (.iconst 0, 1) := by decide +kernel
theorem dX5_spendMinutes_8 : decode cX5_spendMinutes 8 = .ok (.istore 4, 2) := by decide +kernel
theorem dX5_spendMinutes_10 : decode cX5_spendMinutes 10 = .ok (.iload 4, 2) := by decide +kernel
theorem dX5_spendMinutes_12 : decode cX5_spendMinutes 12 = .ok (.bipush 10, 2) := by decide +kernel
theorem dX5_spendMinutes_14 : decode cX5_spendMinutes 14 = .ok (.if_icmp .gt 57, 3) := by decide +kernel
theorem dX5_spendMinutes_17 : decode cX5_spendMinutes 17 = .ok (.iload_n 3, 1) := by decide +kernel
theorem dX5_spendMinutes_18 : decode cX5_spendMinutes 18 = .ok (.ifCond .le 53, 3) := by decide +kernel
theorem dX5_spendMinutes_21 : decode cX5_spendMinutes 21 = .ok (.aload_n 0, 1) := by decide +kernel
theorem dX5_spendMinutes_22 : decode cX5_spendMinutes 22 = .ok (.invokevirtual 154, 3) := by decide +kernel
theorem dX5_spendMinutes_25 : decode cX5_spendMinutes 25 = .ok (.ifCond .eq 46, 3) := by decide +kernel
theorem dX5_spendMinutes_28 : decode cX5_spendMinutes 28 = .ok (.iload_n 3, 1) := by decide +kernel
theorem dX5_spendMinutes_29 : decode cX5_spendMinutes 29 = .ok (.aload_n 0, 1) := by decide +kernel
theorem dX5_spendMinutes_30 : decode cX5_spendMinutes 30 = .ok (.getfield 37, 3) := by decide +kernel
theorem dX5_spendMinutes_33 : decode cX5_spendMinutes 33 = .ok (.invokestatic 157, 3) := by decide +kernel
theorem dX5_spendMinutes_36 : decode cX5_spendMinutes 36 = .ok (.istore 5, 2) := by decide +kernel
theorem dX5_spendMinutes_38 : decode cX5_spendMinutes 38 = .ok (.iload_n 3, 1) := by decide +kernel
theorem dX5_spendMinutes_39 : decode cX5_spendMinutes 39 = .ok (.iload 5, 2) := by decide +kernel
theorem dX5_spendMinutes_41 : decode cX5_spendMinutes 41 = .ok (.isub, 1) := by decide +kernel
theorem dX5_spendMinutes_42 : decode cX5_spendMinutes 42 = .ok (.istore_n 3, 1) := by decide +kernel
theorem dX5_spendMinutes_43 : decode cX5_spendMinutes 43 = .ok (.aload_n 0, 1) := by decide +kernel
theorem dX5_spendMinutes_44 : decode cX5_spendMinutes 44 = .ok (.dup, 1) := by decide +kernel
theorem dX5_spendMinutes_45 : decode cX5_spendMinutes 45 = .ok (.getfield 37, 3) := by decide +kernel
theorem dX5_spendMinutes_48 : decode cX5_spendMinutes 48 = .ok (.iload 5, 2) := by decide +kernel
theorem dX5_spendMinutes_50 : decode cX5_spendMinutes 50 = .ok (.isub, 1) := by decide +kernel
theorem dX5_spendMinutes_51 : decode cX5_spendMinutes 51 = .ok (.putfield 37, 3) := by decide +kernel
theorem dX5_spendMinutes_54 : decode cX5_spendMinutes 54 = .ok (.aload_n 0, 1) := by decide +kernel
theorem dX5_spendMinutes_55 : decode cX5_spendMinutes 55 = .ok (.getfield 37, 3) := by decide +kernel
theorem dX5_spendMinutes_58 : decode cX5_spendMinutes 58 = .ok (.ifCond .ne 7, 3) := by decide +kernel
theorem dX5_spendMinutes_61 : decode cX5_spendMinutes 61 = .ok (.aload_n 0, 1) := by decide +kernel
theorem dX5_spendMinutes_62 : decode cX5_spendMinutes 62 = .ok (.invokevirtual 162, 3) := by decide +kernel
theorem dX5_spendMinutes_65 : decode cX5_spendMinutes 65 = .ok (.iinc 4 1, 3) := by decide +kernel
theorem dX5_spendMinutes_68 : decode cX5_spendMinutes 68 = .ok (.goto (-58), 3) := by decide +kernel
theorem dX5_spendMinutes_71 : decode cX5_spendMinutes 71 = .ok (.aload_n 0, 1) := by decide +kernel
theorem dX5_spendMinutes_72 : decode cX5_spendMinutes 72 = .ok (.getfield 58, 3) := by decide +kernel
theorem dX5_spendMinutes_75 : decode cX5_spendMinutes 75 = .ok (.iload_n 2, 1) := by decide +kernel
theorem dX5_spendMinutes_76 : decode cX5_spendMinutes 76 = .ok (.isub, 1) := by decide +kernel
theorem dX5_spendMinutes_77 : decode cX5_spendMinutes 77 = .ok (.ireturn, 1) := by decide +kernel
theorem dX5_takesUpWork_0 : decode cX5_takesUpWork 0 = .ok (.iconst 0, 1) := by decide +kernel
theorem dX5_takesUpWork_1 : decode cX5_takesUpWork 1 = .ok (.istore_n 1, 1) := by decide +kernel
theorem dX5_takesUpWork_2 : decode cX5_takesUpWork 2 = .ok (.iload_n 1, 1) := by decide +kernel
theorem dX5_takesUpWork_3 : decode cX5_takesUpWork 3 = .ok (.aload_n 0, 1) := by decide +kernel
theorem dX5_takesUpWork_4 : decode cX5_takesUpWork 4 = .ok (.getfield 52, 3) := by decide +kernel
theorem dX5_takesUpWork_7 : decode cX5_takesUpWork 7 = .ok (.if_icmp .ge 53, 3) := by decide +kernel
theorem dX5_takesUpWork_10 : decode cX5_takesUpWork 10 = .ok (.aload_n 0, 1) := by decide +kernel
theorem dX5_takesUpWork_11 : decode cX5_takesUpWork 11 = .ok (.invokevirtual 144, 3) := by decide +kernel
theorem dX5_takesUpWork_14 : decode cX5_takesUpWork 14 = .ok (.ifCond .ne 46, 3) := by decide +kernel
theorem dX5_takesUpWork_17 : decode cX5_takesUpWork 17 = .ok (.aload_n 0, 1) := by decide +kernel
theorem dX5_takesUpWork_18 : decode cX5_takesUpWork 18 = .ok (.aload_n 0, 1) := by decide +kernel
theorem dX5_takesUpWork_19 : decode cX5_takesUpWork 19 = .ok (.getfield 23, 3) := by decide +kernel
theorem dX5_takesUpWork_22 : decode cX5_takesUpWork 22 = .ok (.iload_n 1, 1) := by decide +kernel
theorem dX5_takesUpWork_23 : decode cX5_takesUpWork 23 = .ok (.aaload, 1) := by decide +kernel
theorem dX5_takesUpWork_24 : decode cX5_takesUpWork 24 = .ok (.invokevirtual 165, 3) := by decide +kernel
theorem dX5_takesUpWork_27 : decode cX5_takesUpWork 27 = .ok (.aload_n 0, 1) := by decide +kernel
theorem dX5_takesUpWork_28 : decode cX5_takesUpWork 28 = .ok (.getfield 23, 3) := by decide +kernel
theorem dX5_takesUpWork_31 : decode cX5_takesUpWork 31 = .ok (.iload_n 1, 1) := by decide +kernel
theorem dX5_takesUpWork_32 : decode cX5_takesUpWork 32 = .ok (.aaload, 1) := by decide +kernel
theorem dX5_takesUpWork_33 : decode cX5_takesUpWork 33 = .ok (.getfield 168, 3) := by decide +kernel
theorem dX5_takesUpWork_36 : decode cX5_takesUpWork 36 = .ok (.invokevirtual 171, 3) := by decide +kernel
theorem dX5_takesUpWork_39 : decode cX5_takesUpWork 39 = .ok (.istore_n 2, 1) := by decide +kernel
theorem dX5_takesUpWork_40 : decode cX5_takesUpWork 40 = .ok (.aload_n 0, 1) := by decide +kernel
theorem dX5_takesUpWork_41 : decode cX5_takesUpWork 41 = .ok (.iload_n 2, 1) := by decide +kernel
theorem dX5_takesUpWork_42 : decode cX5_takesUpWork 42 = .ok (.invokevirtual 71, 3) := by decide +kernel
theorem dX5_takesUpWork_45 : decode cX5_takesUpWork 45 = .ok (.ifCond .eq 9, 3) := by decide +kernel
theorem dX5_takesUpWork_48 : decode cX5_takesUpWork 48 = .ok (.aload_n 0, 1) := by decide +kernel
theorem dX5_takesUpWork_49 : decode cX5_takesUpWork 49 = .ok (.iload_n 1, 1) := by decide +kernel
theorem dX5_takesUpWork_50 : decode cX5_takesUpWork 50 = .ok (.iload_n 2, 1) := by decide +kernel
theorem dX5_takesUpWork_51 : decode cX5_takesUpWork 51 = .ok (.invokevirtual 174, 3) := by decide +kernel
theorem dX5_takesUpWork_54 : decode cX5_takesUpWork 54 = .ok (.iinc 1 1, 3) := by decide +kernel
theorem dX5_takesUpWork_57 : decode cX5_takesUpWork 57 = .ok (.goto (-55), 3) := by decide +kernel
theorem dX5_takesUpWork_60 : decode cX5_takesUpWork 60 = .ok (.aload_n 0, 1) := by decide +kernel
theorem dX5_takesUpWork_61 : decode cX5_takesUpWork 61 = .ok (.invokevirtual 144, 3) := by decide +kernel
theorem dX5_takesUpWork_64 : decode cX5_takesUpWork 64 = .ok (.ireturn, 1) := by decide +kernel
theorem dX5_beginOrder_0 : decode cX5_beginOrder 0 = .ok (.aload_n 0, 1) := by decide +kernel
theorem dX5_beginOrder_1 : decode cX5_beginOrder 1 = .ok (.getfield 11, 3) := by decide +kernel
theorem dX5_beginOrder_4 : decode cX5_beginOrder 4 = .ok (.iload_n 2, 1) := by decide +kernel
theorem dX5_beginOrder_5 : decode cX5_beginOrder 5 = .ok (.aaload, 1) := by decide +kernel
theorem dX5_beginOrder_6 : decode cX5_beginOrder 6 = .ok (.astore_n 3, 1) := by decide +kernel
theorem dX5_beginOrder_7 : decode cX5_beginOrder 7 = .ok (.aload_n 0, 1) := by decide +kernel
theorem dX5_beginOrder_8 : decode cX5_beginOrder 8 = .ok (.iload_n 1, 1) := by decide +kernel
theorem dX5_beginOrder_9 : decode cX5_beginOrder 9 = .ok (.putfield 27, 3) := by decide +kernel
theorem dX5_beginOrder_12 : decode cX5_beginOrder 12 = .ok (.aload_n 0, 1) := by decide +kernel
theorem dX5_beginOrder_13 : decode cX5_beginOrder 13 = .ok (.iload_n 2, 1) := by decide +kernel
theorem dX5_beginOrder_14 : decode cX5_beginOrder 14 = .ok (.putfield 31, 3) := by decide +kernel
theorem dX5_beginOrder_17 : decode cX5_beginOrder 17 = .ok (.aload_n 0, 1) := by decide +kernel
theorem dX5_beginOrder_18 : decode cX5_beginOrder 18 = .ok (.aload_n 3, 1) := by decide +kernel
theorem dX5_beginOrder_19 : decode cX5_beginOrder 19 = .ok (.aload_n 0, 1) := by decide +kernel
theorem dX5_beginOrder_20 : decode cX5_beginOrder 20 = .ok (.getfield 23, 3) := by decide +kernel
theorem dX5_beginOrder_23 : decode cX5_beginOrder 23 = .ok (.iload_n 1, 1) := by decide +kernel
theorem dX5_beginOrder_24 : decode cX5_beginOrder 24 = .ok (.aaload, 1) := by decide +kernel
theorem dX5_beginOrder_25 : decode cX5_beginOrder 25 = .ok (.getfield 168, 3) := by decide +kernel
theorem dX5_beginOrder_28 : decode cX5_beginOrder 28 = .ok (.invokevirtual 177, 3) := by decide +kernel
theorem dX5_beginOrder_31 : decode cX5_beginOrder 31 = .ok (.putfield 34, 3) := by decide +kernel
theorem dX5_beginOrder_34 : decode cX5_beginOrder 34 = .ok (.aload_n 0, 1) := by decide +kernel
theorem dX5_beginOrder_35 : decode cX5_beginOrder 35 = .ok (.aload_n 0, 1) := by decide +kernel
theorem dX5_beginOrder_36 : decode cX5_beginOrder 36 = .ok (.getfield 23, 3) := by decide +kernel
theorem dX5_beginOrder_39 : decode cX5_beginOrder 39 = .ok (.iload_n 1, 1) := by decide +kernel
theorem dX5_beginOrder_40 : decode cX5_beginOrder 40 = .ok (.aaload, 1) := by decide +kernel
theorem dX5_beginOrder_41 : decode cX5_beginOrder 41 = .ok (.invokevirtual 180, 3) := by decide +kernel
theorem dX5_beginOrder_44 : decode cX5_beginOrder 44 = .ok (.putfield 37, 3) := by decide +kernel
theorem dX5_beginOrder_47 : decode cX5_beginOrder 47 = .ok (.aload_n 3, 1) := by decide +kernel
theorem dX5_beginOrder_48 : decode cX5_beginOrder 48 = .ok (.iconst 1, 1) := by decide +kernel
theorem dX5_beginOrder_49 : decode cX5_beginOrder 49 = .ok (.putfield 82, 3) := by decide +kernel
theorem dX5_beginOrder_52 : decode cX5_beginOrder 52 = .ok (.aload_n 3, 1) := by decide +kernel
theorem dX5_beginOrder_53 : decode cX5_beginOrder 53 = .ok (.aload_n 0, 1) := by decide +kernel
theorem dX5_beginOrder_54 : decode cX5_beginOrder 54 = .ok (.getfield 34, 3) := by decide +kernel
theorem dX5_beginOrder_57 : decode cX5_beginOrder 57 = .ok (.invokevirtual 183, 3) := by decide +kernel
theorem dX5_beginOrder_60 : decode cX5_beginOrder 60 = .ok (.ifCond .ne 23, 3) := by decide +kernel
theorem dX5_beginOrder_63 : decode cX5_beginOrder 63 = .ok (.aload_n 0, 1) := by decide +kernel
theorem dX5_beginOrder_64 : decode cX5_beginOrder 64 = .ok (.aload_n 3, 1) := by decide +kernel
theorem dX5_beginOrder_65 : decode cX5_beginOrder 65 = .ok (.aload_n 0, 1) := by decide +kernel
theorem dX5_beginOrder_66 : decode cX5_beginOrder 66 = .ok (.getfield 34, 3) := by decide +kernel
theorem dX5_beginOrder_69 : decode cX5_beginOrder 69 = .ok (.invokevirtual 186, 3) := by decide +kernel
theorem dX5_beginOrder_72 : decode cX5_beginOrder 72 = .ok (.aload_n 0, 1) := by decide +kernel
theorem dX5_beginOrder_73 : decode cX5_beginOrder 73 = .ok (.dup, 1) := by decide +kernel
theorem dX5_beginOrder_74 : decode cX5_beginOrder 74 = .ok (.getfield 37, 3) := by decide +kernel
theorem dX5_beginOrder_77 : decode cX5_beginOrder 77 = .ok (.bipush 10, 2) := by decide +kernel
theorem dX5_beginOrder_79 : decode cX5_beginOrder 79 = .ok (.iadd, 1) := by decide +kernel
theorem dX5_beginOrder_80 : decode cX5_beginOrder 80 = .ok (.putfield 37, 3) := by decide +kernel
theorem dX5_beginOrder_83 : decode cX5_beginOrder 83 = .ok (.return_, 1) := by decide +kernel
theorem dX5_finishOrder_0 : decode cX5_finishOrder 0 = .ok (.aload_n 0, 1) := by decide +kernel
theorem dX5_finishOrder_1 : decode cX5_finishOrder 1 = .ok (.invokevirtual 144, 3) := by decide +kernel
theorem dX5_finishOrder_4 : decode cX5_finishOrder 4 = .ok (.ifCond .ne 4, 3) := by decide +kernel
theorem dX5_finishOrder_7 : decode cX5_finishOrder 7 = .ok (.return_, 1) := by decide +kernel
theorem dX5_finishOrder_8 : decode cX5_finishOrder 8 = .ok (.aload_n 0, 1) := by decide +kernel
theorem dX5_finishOrder_9 : decode cX5_finishOrder 9 = .ok (.getfield 23, 3) := by decide +kernel
theorem dX5_finishOrder_12 : decode cX5_finishOrder 12 = .ok (.aload_n 0, 1) := by decide +kernel
theorem dX5_finishOrder_13 : decode cX5_finishOrder 13 = .ok (.getfield 27, 3) := by decide +kernel
theorem dX5_finishOrder_16 : decode cX5_finishOrder 16 = .ok (.aaload, 1) := by decide +kernel
theorem dX5_finishOrder_17 : decode cX5_finishOrder 17 = .ok (.astore_n 1, 1) := by decide +kernel
theorem dX5_finishOrder_18 : decode cX5_finishOrder 18 = .ok (.aload_n 0, 1) := by decide +kernel
theorem dX5_finishOrder_19 : decode cX5_finishOrder 19 = .ok (.getfield 11, 3) := by decide +kernel
theorem dX5_finishOrder_22 : decode cX5_finishOrder 22 = .ok (.aload_n 0, 1) := by decide +kernel
theorem dX5_finishOrder_23 : decode cX5_finishOrder 23 = .ok (.getfield 31, 3) := by decide +kernel
theorem dX5_finishOrder_26 : decode cX5_finishOrder 26 = .ok (.aaload, 1) := by decide +kernel
theorem dX5_finishOrder_27 : decode cX5_finishOrder 27 = .ok (.astore_n 2, 1) := by decide +kernel
theorem dX5_finishOrder_28 : decode cX5_finishOrder 28 = .ok (.aload_n 2, 1) := by decide +kernel
theorem dX5_finishOrder_29 : decode cX5_finishOrder 29 = .ok (.aload_n 0, 1) := by decide +kernel
theorem dX5_finishOrder_30 : decode cX5_finishOrder 30 = .ok (.getfield 34, 3) := by decide +kernel
theorem dX5_finishOrder_33 : decode cX5_finishOrder 33 = .ok (.aload_n 1, 1) := by decide +kernel
theorem dX5_finishOrder_34 : decode cX5_finishOrder 34 = .ok (.getfield 168, 3) := by decide +kernel
theorem dX5_finishOrder_37 : decode cX5_finishOrder 37 = .ok (.invokevirtual 190, 3) := by decide +kernel
theorem dX5_finishOrder_40 : decode cX5_finishOrder 40 = .ok (.aload_n 0, 1) := by decide +kernel
theorem dX5_finishOrder_41 : decode cX5_finishOrder 41 = .ok (.aload_n 2, 1) := by decide +kernel
theorem dX5_finishOrder_42 : decode cX5_finishOrder 42 = .ok (.aload_n 1, 1) := by decide +kernel
theorem dX5_finishOrder_43 : decode cX5_finishOrder 43 = .ok (.getfield 135, 3) := by decide +kernel
theorem dX5_finishOrder_46 : decode cX5_finishOrder 46 = .ok (.aload_n 1, 1) := by decide +kernel
theorem dX5_finishOrder_47 : decode cX5_finishOrder 47 = .ok (.getfield 136, 3) := by decide +kernel
theorem dX5_finishOrder_50 : decode cX5_finishOrder 50 = .ok (.invokevirtual 193, 3) := by decide +kernel
theorem dX5_finishOrder_53 : decode cX5_finishOrder 53 = .ok (.aload_n 0, 1) := by decide +kernel
theorem dX5_finishOrder_54 : decode cX5_finishOrder 54 = .ok (.getfield 27, 3) := by decide +kernel
theorem dX5_finishOrder_57 : decode cX5_finishOrder 57 = .ok (.istore_n 3, 1) := by decide +kernel
theorem dX5_finishOrder_58 : decode cX5_finishOrder 58 = .ok (.aload_n 0, 1) := by decide +kernel
theorem dX5_finishOrder_59 : decode cX5_finishOrder 59 = .ok (.invokevirtual 148, 3) := by decide +kernel
theorem dX5_finishOrder_62 : decode cX5_finishOrder 62 = .ok (.aload_n 0, 1) := by decide +kernel
theorem dX5_finishOrder_63 : decode cX5_finishOrder 63 = .ok (.iload_n 3, 1) := by decide +kernel
theorem dX5_finishOrder_64 : decode cX5_finishOrder 64 = .ok (.invokevirtual 151, 3) := by decide +kernel
theorem dX5_finishOrder_67 : decode cX5_finishOrder 67 = .ok (.aload_n 0, 1) := by decide +kernel
theorem dX5_finishOrder_68 : decode cX5_finishOrder 68 = .ok (.dup, 1) := by decide +kernel
theorem dX5_finishOrder_69 : decode cX5_finishOrder 69 = .ok (.getfield 58, 3) := by decide +kernel
theorem dX5_finishOrder_72 : decode cX5_finishOrder 72 = .ok (.iconst 1, 1) := by decide +kernel
theorem dX5_finishOrder_73 : decode cX5_finishOrder 73 = .ok (.iadd, 1) := by decide +kernel
theorem dX5_finishOrder_74 : decode cX5_finishOrder 74 = .ok (.putfield 58, 3) := by decide +kernel
theorem dX5_finishOrder_77 : decode cX5_finishOrder 77 = .ok (.return_, 1) := by decide +kernel
theorem dX5_misspell_0 : decode cX5_misspell 0 = .ok (.aload_n 0, 1) := by decide +kernel
theorem dX5_misspell_1 : decode cX5_misspell 1 = .ok (.invokevirtual 144, 3) := by decide +kernel
theorem dX5_misspell_4 : decode cX5_misspell 4 = .ok (.ifCond .ne 6, 3) := by decide +kernel
theorem dX5_misspell_7 : decode cX5_misspell 7 = .ok (.bipush (-2), 2) := by decide +kernel
theorem dX5_misspell_9 : decode cX5_misspell 9 = .ok (.ireturn, 1) := by decide +kernel
theorem dX5_misspell_10 : decode cX5_misspell 10 = .ok (.aload_n 0, 1) := by decide +kernel
theorem dX5_misspell_11 : decode cX5_misspell 11 = .ok (.getfield 23, 3) := by decide +kernel
theorem dX5_misspell_14 : decode cX5_misspell 14 = .ok (.aload_n 0, 1) := by decide +kernel
theorem dX5_misspell_15 : decode cX5_misspell 15 = .ok (.getfield 27, 3) := by decide +kernel
theorem dX5_misspell_18 : decode cX5_misspell 18 = .ok (.aaload, 1) := by decide +kernel
theorem dX5_misspell_19 : decode cX5_misspell 19 = .ok (.astore_n 1, 1) := by decide +kernel
theorem dX5_misspell_20 : decode cX5_misspell 20 = .ok (.aload_n 0, 1) := by decide +kernel
theorem dX5_misspell_21 : decode cX5_misspell 21 = .ok (.getfield 11, 3) := by decide +kernel
theorem dX5_misspell_24 : decode cX5_misspell 24 = .ok (.aload_n 0, 1) := by decide +kernel
theorem dX5_misspell_25 : decode cX5_misspell 25 = .ok (.getfield 31, 3) := by decide +kernel
theorem dX5_misspell_28 : decode cX5_misspell 28 = .ok (.aaload, 1) := by decide +kernel
theorem dX5_misspell_29 : decode cX5_misspell 29 = .ok (.astore_n 2, 1) := by decide +kernel
theorem dX5_misspell_30 : decode cX5_misspell 30 = .ok (.aload_n 2, 1) := by decide +kernel
theorem dX5_misspell_31 : decode cX5_misspell 31 = .ok (.aload_n 0, 1) := by decide +kernel
theorem dX5_misspell_32 : decode cX5_misspell 32 = .ok (.getfield 34, 3) := by decide +kernel
theorem dX5_misspell_35 : decode cX5_misspell 35 = .ok (.aload_n 1, 1) := by decide +kernel
theorem dX5_misspell_36 : decode cX5_misspell 36 = .ok (.getfield 168, 3) := by decide +kernel
theorem dX5_misspell_39 : decode cX5_misspell 39 = .ok (.invokevirtual 190, 3) := by decide +kernel
theorem dX5_misspell_42 : decode cX5_misspell 42 = .ok (.aload_n 0, 1) := by decide +kernel
theorem dX5_misspell_43 : decode cX5_misspell 43 = .ok (.dup, 1) := by decide +kernel
theorem dX5_misspell_44 : decode cX5_misspell 44 = .ok (.getfield 61, 3) := by decide +kernel
theorem dX5_misspell_47 : decode cX5_misspell 47 = .ok (.iconst 1, 1) := by decide +kernel
theorem dX5_misspell_48 : decode cX5_misspell 48 = .ok (.iadd, 1) := by decide +kernel
theorem dX5_misspell_49 : decode cX5_misspell 49 = .ok (.putfield 61, 3) := by decide +kernel
theorem dX5_misspell_52 : decode cX5_misspell 52 = .ok (.aload_n 0, 1) := by decide +kernel
theorem dX5_misspell_53 : decode cX5_misspell 53 = .ok (.getfield 34, 3) := by decide +kernel
theorem dX5_misspell_56 : decode cX5_misspell 56 = .ok (.ifCond .ne 7, 3) := by decide +kernel
theorem dX5_misspell_59 : decode cX5_misspell 59 = .ok (.iconst 1, 1) := by decide +kernel
theorem dX5_misspell_60 : decode cX5_misspell 60 = .ok (.goto 4, 3) := by decide +kernel
theorem dX5_misspell_63 : decode cX5_misspell 63 = .ok (.iconst 0, 1) := by decide +kernel
theorem dX5_misspell_64 : decode cX5_misspell 64 = .ok (.istore_n 3, 1) := by decide +kernel
theorem dX5_misspell_65 : decode cX5_misspell 65 = .ok (.aload_n 2, 1) := by decide +kernel
theorem dX5_misspell_66 : decode cX5_misspell 66 = .ok (.iload_n 3, 1) := by decide +kernel
theorem dX5_misspell_67 : decode cX5_misspell 67 = .ok (.aload_n 1, 1) := by decide +kernel
theorem dX5_misspell_68 : decode cX5_misspell 68 = .ok (.getfield 168, 3) := by decide +kernel
theorem dX5_misspell_71 : decode cX5_misspell 71 = .ok (.invokevirtual 197, 3) := by decide +kernel
theorem dX5_misspell_74 : decode cX5_misspell 74 = .ok (.ifCond .eq 18, 3) := by decide +kernel
theorem dX5_misspell_77 : decode cX5_misspell 77 = .ok (.aload_n 0, 1) := by decide +kernel
theorem dX5_misspell_78 : decode cX5_misspell 78 = .ok (.iload_n 3, 1) := by decide +kernel
theorem dX5_misspell_79 : decode cX5_misspell 79 = .ok (.putfield 34, 3) := by decide +kernel
theorem dX5_misspell_82 : decode cX5_misspell 82 = .ok (.aload_n 0, 1) := by decide +kernel
theorem dX5_misspell_83 : decode cX5_misspell 83 = .ok (.aload_n 1, 1) := by decide +kernel
theorem dX5_misspell_84 : decode cX5_misspell 84 = .ok (.invokevirtual 180, 3) := by decide +kernel
theorem dX5_misspell_87 : decode cX5_misspell 87 = .ok (.putfield 37, 3) := by decide +kernel
theorem dX5_misspell_90 : decode cX5_misspell 90 = .ok (.iconst 1, 1) := by decide +kernel
theorem dX5_misspell_91 : decode cX5_misspell 91 = .ok (.ireturn, 1) := by decide +kernel
theorem dX5_misspell_92 : decode cX5_misspell 92 = .ok (.aload_n 2, 1) := by decide +kernel
theorem dX5_misspell_93 : decode cX5_misspell 93 = .ok (.aload_n 0, 1) := by decide +kernel
theorem dX5_misspell_94 : decode cX5_misspell 94 = .ok (.getfield 34, 3) := by decide +kernel
theorem dX5_misspell_97 : decode cX5_misspell 97 = .ok (.aload_n 1, 1) := by decide +kernel
theorem dX5_misspell_98 : decode cX5_misspell 98 = .ok (.getfield 168, 3) := by decide +kernel
theorem dX5_misspell_101 : decode cX5_misspell 101 = .ok (.invokevirtual 201, 3) := by decide +kernel
theorem dX5_misspell_104 : decode cX5_misspell 104 = .ok (.ifCond .eq 25, 3) := by decide +kernel
theorem dX5_misspell_107 : decode cX5_misspell 107 = .ok (.aload_n 0, 1) := by decide +kernel
theorem dX5_misspell_108 : decode cX5_misspell 108 = .ok (.aload_n 2, 1) := by decide +kernel
theorem dX5_misspell_109 : decode cX5_misspell 109 = .ok (.aload_n 0, 1) := by decide +kernel
theorem dX5_misspell_110 : decode cX5_misspell 110 = .ok (.getfield 34, 3) := by decide +kernel
theorem dX5_misspell_113 : decode cX5_misspell 113 = .ok (.invokevirtual 186, 3) := by decide +kernel
theorem dX5_misspell_116 : decode cX5_misspell 116 = .ok (.aload_n 0, 1) := by decide +kernel
theorem dX5_misspell_117 : decode cX5_misspell 117 = .ok (.aload_n 1, 1) := by decide +kernel
theorem dX5_misspell_118 : decode cX5_misspell 118 = .ok (.invokevirtual 180, 3) := by decide +kernel
theorem dX5_misspell_121 : decode cX5_misspell 121 = .ok (.bipush 10, 2) := by decide +kernel
theorem dX5_misspell_123 : decode cX5_misspell 123 = .ok (.iadd, 1) := by decide +kernel
theorem dX5_misspell_124 : decode cX5_misspell 124 = .ok (.putfield 37, 3) := by decide +kernel
theorem dX5_misspell_127 : decode cX5_misspell 127 = .ok (.iconst 2, 1) := by decide +kernel
theorem dX5_misspell_128 : decode cX5_misspell 128 = .ok (.ireturn, 1) := by decide +kernel
theorem dX5_misspell_129 : decode cX5_misspell 129 = .ok (.aload_n 2, 1) := by decide +kernel
theorem dX5_misspell_130 : decode cX5_misspell 130 = .ok (.iconst 3, 1) := by decide +kernel
theorem dX5_misspell_131 : decode cX5_misspell 131 = .ok (.putfield 82, 3) := by decide +kernel
theorem dX5_misspell_134 : decode cX5_misspell 134 = .ok (.aload_n 0, 1) := by decide +kernel
theorem dX5_misspell_135 : decode cX5_misspell 135 = .ok (.invokevirtual 148, 3) := by decide +kernel
theorem dX5_misspell_138 : decode cX5_misspell 138 = .ok (.iconst 3, 1) := by decide +kernel
theorem dX5_misspell_139 : decode cX5_misspell 139 = .ok (.ireturn, 1) := by decide +kernel
theorem dX6_init_0 : decode cX6_init 0 = .ok (.aload_n 0, 1) := by decide +kernel
theorem dX6_init_1 : decode cX6_init 1 = .ok (.invokespecial 1, 3) := by decide +kernel
theorem dX6_init_4 : decode cX6_init 4 = .ok (.aload_n 0, 1) := by decide +kernel
theorem dX6_init_5 : decode cX6_init 5 = .ok (.new 7, 3) := by decide +kernel
theorem dX6_init_8 : decode cX6_init 8 = .ok (.dup, 1) := by decide +kernel
theorem dX6_init_9 : decode cX6_init 9 = .ok (.invokespecial 9, 3) := by decide +kernel
theorem dX6_init_12 : decode cX6_init 12 = .ok (.putfield 10, 3) := by decide +kernel
theorem dX6_init_15 : decode cX6_init 15 = .ok (.aload_n 0, 1) := by decide +kernel
theorem dX6_init_16 : decode cX6_init 16 = .ok (.new 16, 3) := by decide +kernel
theorem dX6_init_19 : decode cX6_init 19 = .ok (.dup, 1) := by decide +kernel
theorem dX6_init_20 : decode cX6_init 20 = .ok (.invokespecial 18, 3) := by decide +kernel
theorem dX6_init_23 : decode cX6_init 23 = .ok (.putfield 19, 3) := by decide +kernel
theorem dX6_init_26 : decode cX6_init 26 = .ok (.aload_n 0, 1) := by decide +kernel
theorem dX6_init_27 : decode cX6_init 27 = .ok (.new 23, 3) := by decide +kernel
theorem dX6_init_30 : decode cX6_init 30 = .ok (.dup, 1) := by decide +kernel
theorem dX6_init_31 : decode cX6_init 31 = .ok (.invokespecial 25, 3) := by decide +kernel
theorem dX6_init_34 : decode cX6_init 34 = .ok (.putfield 26, 3) := by decide +kernel
theorem dX6_init_37 : decode cX6_init 37 = .ok (.new 7, 3) := by decide +kernel
theorem dX6_init_40 : decode cX6_init 40 = .ok (.dup, 1) := by decide +kernel
theorem dX6_init_41 : decode cX6_init 41 = .ok (.invokespecial 9, 3) := by decide +kernel
theorem dX6_init_44 : decode cX6_init 44 = .ok (.astore_n 1, 1) := by decide +kernel
theorem dX6_init_45 : decode cX6_init 45 = .ok (.aload_n 0, 1) := by decide +kernel
theorem dX6_init_46 : decode cX6_init 46 = .ok (.new 30, 3) := by decide +kernel
theorem dX6_init_49 : decode cX6_init 49 = .ok (.dup, 1) := by decide +kernel
theorem dX6_init_50 : decode cX6_init 50 = .ok (.aload_n 1, 1) := by decide +kernel
theorem dX6_init_51 : decode cX6_init 51 = .ok (.invokespecial 32, 3) := by decide +kernel
theorem dX6_init_54 : decode cX6_init 54 = .ok (.putfield 35, 3) := by decide +kernel
theorem dX6_init_57 : decode cX6_init 57 = .ok (.aload_n 0, 1) := by decide +kernel
theorem dX6_init_58 : decode cX6_init 58 = .ok (.new 30, 3) := by decide +kernel
theorem dX6_init_61 : decode cX6_init 61 = .ok (.dup, 1) := by decide +kernel
theorem dX6_init_62 : decode cX6_init 62 = .ok (.aload_n 1, 1) := by decide +kernel
theorem dX6_init_63 : decode cX6_init 63 = .ok (.invokespecial 32, 3) := by decide +kernel
theorem dX6_init_66 : decode cX6_init 66 = .ok (.putfield 39, 3) := by decide +kernel
theorem dX6_init_69 : decode cX6_init 69 = .ok (.return_, 1) := by decide +kernel
theorem dX6_cut_0 : decode cX6_cut 0 = .ok (.iload_n 1, 1) := by decide +kernel
theorem dX6_cut_1 : decode cX6_cut 1 = .ok (.bipush 10, 2) := by decide +kernel
theorem dX6_cut_3 : decode cX6_cut 3 = .ok (.sipush 200, 3) := by decide +kernel
theorem dX6_cut_6 : decode cX6_cut 6 = .ok (.invokestatic 42, 3) := by decide +kernel
theorem dX6_cut_9 : decode cX6_cut 9 = .ok (.ifCond .eq 13, 3) := by decide +kernel
theorem dX6_cut_12 : decode cX6_cut 12 = .ok (.iload_n 2, 1) := by decide +kernel
theorem dX6_cut_13 : decode cX6_cut 13 = .ok (.iconst 5, 1) := by decide +kernel
theorem dX6_cut_14 : decode cX6_cut 14 = .ok (.bipush 30, 2) := by decide +kernel
theorem dX6_cut_16 : decode cX6_cut 16 = .ok (.invokestatic 42, 3) := by decide +kernel
theorem dX6_cut_19 : decode cX6_cut 19 = .ok (.ifCond .ne 5, 3) := by decide +kernel
theorem dX6_cut_22 : decode cX6_cut 22 = .ok (.iconst (-1), 1) := by decide +kernel
theorem dX6_cut_23 : decode cX6_cut 23 = .ok (.ireturn, 1) := by decide +kernel
theorem dX6_cut_24 : decode cX6_cut 24 = .ok (.aload_n 0, 1) := by decide +kernel
theorem dX6_cut_25 : decode cX6_cut 25 = .ok (.getfield 10, 3) := by decide +kernel
theorem dX6_cut_28 : decode cX6_cut 28 = .ok (.getfield 46, 3) := by decide +kernel
theorem dX6_cut_31 : decode cX6_cut 31 = .ok (.bipush 20, 2) := by decide +kernel
theorem dX6_cut_33 : decode cX6_cut 33 = .ok (.if_icmp .lt 6, 3) := by decide +kernel
theorem dX6_cut_36 : decode cX6_cut 36 = .ok (.bipush (-3), 2) := by decide +kernel
theorem dX6_cut_38 : decode cX6_cut 38 = .ok (.ireturn, 1) := by decide +kernel
theorem dX6_cut_39 : decode cX6_cut 39 = .ok (.aload_n 0, 1) := by decide +kernel
theorem dX6_cut_40 : decode cX6_cut 40 = .ok (.getfield 19, 3) := by decide +kernel
theorem dX6_cut_43 : decode cX6_cut 43 = .ok (.aload_n 0, 1) := by decide +kernel
theorem dX6_cut_44 : decode cX6_cut 44 = .ok (.getfield 10, 3) := by decide +kernel
theorem dX6_cut_47 : decode cX6_cut 47 = .ok (.invokevirtual 50, 3) := by decide +kernel
theorem dX6_cut_50 : decode cX6_cut 50 = .ok (.aload_n 0, 1) := by decide +kernel
theorem dX6_cut_51 : decode cX6_cut 51 = .ok (.getfield 10, 3) := by decide +kernel
theorem dX6_cut_54 : decode cX6_cut 54 = .ok (.iload_n 1, 1) := by decide +kernel
theorem dX6_cut_55 : decode cX6_cut 55 = .ok (.iload_n 2, 1) := by decide +kernel
theorem dX6_cut_56 : decode cX6_cut 56 = .ok (.invokevirtual 53, 3) := by decide +kernel
theorem dX6_cut_59 : decode cX6_cut 59 = .ok (.ireturn, 1) := by decide +kernel
theorem dX6_spoil_0 : decode cX6_spoil 0 = .ok (.aload_n 0, 1) := by decide +kernel
theorem dX6_spoil_1 : decode cX6_spoil 1 = .ok (.getfield 10, 3) := by decide +kernel
theorem dX6_spoil_4 : decode cX6_spoil 4 = .ok (.iload_n 1, 1) := by decide +kernel
theorem dX6_spoil_5 : decode cX6_spoil 5 = .ok (.invokevirtual 57, 3) := by decide +kernel
theorem dX6_spoil_8 : decode cX6_spoil 8 = .ok (.ifCond .ne 5, 3) := by decide +kernel
theorem dX6_spoil_11 : decode cX6_spoil 11 = .ok (.iconst (-1), 1) := by decide +kernel
theorem dX6_spoil_12 : decode cX6_spoil 12 = .ok (.ireturn, 1) := by decide +kernel
theorem dX6_spoil_13 : decode cX6_spoil 13 = .ok (.aload_n 0, 1) := by decide +kernel
theorem dX6_spoil_14 : decode cX6_spoil 14 = .ok (.getfield 10, 3) := by decide +kernel
theorem dX6_spoil_17 : decode cX6_spoil 17 = .ok (.getfield 61, 3) := by decide +kernel
theorem dX6_spoil_20 : decode cX6_spoil 20 = .ok (.iload_n 1, 1) := by decide +kernel
theorem dX6_spoil_21 : decode cX6_spoil 21 = .ok (.aaload, 1) := by decide +kernel
theorem dX6_spoil_22 : decode cX6_spoil 22 = .ok (.astore_n 2, 1) := by decide +kernel
theorem dX6_spoil_23 : decode cX6_spoil 23 = .ok (.aload_n 2, 1) := by decide +kernel
theorem dX6_spoil_24 : decode cX6_spoil 24 = .ok (.getfield 65, 3) := by decide +kernel
theorem dX6_spoil_27 : decode cX6_spoil 27 = .ok (.ifCond .eq 6, 3) := by decide +kernel
theorem dX6_spoil_30 : decode cX6_spoil 30 = .ok (.bipush (-2), 2) := by decide +kernel
theorem dX6_spoil_32 : decode cX6_spoil 32 = .ok (.ireturn, 1) := by decide +kernel
theorem dX6_spoil_33 : decode cX6_spoil 33 = .ok (.aload_n 0, 1) := by decide +kernel
theorem dX6_spoil_34 : decode cX6_spoil 34 = .ok (.getfield 19, 3) := by decide +kernel
theorem dX6_spoil_37 : decode cX6_spoil 37 = .ok (.aload_n 0, 1) := by decide +kernel
theorem dX6_spoil_38 : decode cX6_spoil 38 = .ok (.getfield 10, 3) := by decide +kernel
theorem dX6_spoil_41 : decode cX6_spoil 41 = .ok (.invokevirtual 50, 3) := by decide +kernel
theorem dX6_spoil_44 : decode cX6_spoil 44 = .ok (.aload_n 2, 1) := by decide +kernel
theorem dX6_spoil_45 : decode cX6_spoil 45 = .ok (.iconst 3, 1) := by decide +kernel
theorem dX6_spoil_46 : decode cX6_spoil 46 = .ok (.putfield 65, 3) := by decide +kernel
theorem dX6_spoil_49 : decode cX6_spoil 49 = .ok (.aload_n 0, 1) := by decide +kernel
theorem dX6_spoil_50 : decode cX6_spoil 50 = .ok (.getfield 10, 3) := by decide +kernel
theorem dX6_spoil_53 : decode cX6_spoil 53 = .ok (.iconst 3, 1) := by decide +kernel
theorem dX6_spoil_54 : decode cX6_spoil 54 = .ok (.invokevirtual 70, 3) := by decide +kernel
theorem dX6_spoil_57 : decode cX6_spoil 57 = .ok (.ireturn, 1) := by decide +kernel
theorem dX6_grind_0 : decode cX6_grind 0 = .ok (.aload_n 0, 1) := by decide +kernel
theorem dX6_grind_1 : decode cX6_grind 1 = .ok (.getfield 10, 3) := by decide +kernel
theorem dX6_grind_4 : decode cX6_grind 4 = .ok (.iload_n 1, 1) := by decide +kernel
theorem dX6_grind_5 : decode cX6_grind 5 = .ok (.invokevirtual 57, 3) := by decide +kernel
theorem dX6_grind_8 : decode cX6_grind 8 = .ok (.ifCond .eq 12, 3) := by decide +kernel
theorem dX6_grind_11 : decode cX6_grind 11 = .ok (.iload_n 2, 1) := by decide +kernel
theorem dX6_grind_12 : decode cX6_grind 12 = .ok (.iconst 0, 1) := by decide +kernel
theorem dX6_grind_13 : decode cX6_grind 13 = .ok (.iconst 1, 1) := by decide +kernel
theorem dX6_grind_14 : decode cX6_grind 14 = .ok (.invokestatic 42, 3) := by decide +kernel
theorem dX6_grind_17 : decode cX6_grind 17 = .ok (.ifCond .ne 5, 3) := by decide +kernel
theorem dX6_grind_20 : decode cX6_grind 20 = .ok (.iconst (-1), 1) := by decide +kernel
theorem dX6_grind_21 : decode cX6_grind 21 = .ok (.ireturn, 1) := by decide +kernel
theorem dX6_grind_22 : decode cX6_grind 22 = .ok (.aload_n 0, 1) := by decide +kernel
theorem dX6_grind_23 : decode cX6_grind 23 = .ok (.getfield 10, 3) := by decide +kernel
theorem dX6_grind_26 : decode cX6_grind 26 = .ok (.getfield 61, 3) := by decide +kernel
theorem dX6_grind_29 : decode cX6_grind 29 = .ok (.iload_n 1, 1) := by decide +kernel
theorem dX6_grind_30 : decode cX6_grind 30 = .ok (.aaload, 1) := by decide +kernel
theorem dX6_grind_31 : decode cX6_grind 31 = .ok (.astore_n 3, 1) := by decide +kernel
theorem dX6_grind_32 : decode cX6_grind 32 = .ok (.aload_n 3, 1) := by decide +kernel
theorem dX6_grind_33 : decode cX6_grind 33 = .ok (.getfield 65, 3) := by decide +kernel
theorem dX6_grind_36 : decode cX6_grind 36 = .ok (.ifCond .ne 12, 3) := by decide +kernel
theorem dX6_grind_39 : decode cX6_grind 39 = .ok (.aload_n 3, 1) := by decide +kernel
theorem dX6_grind_40 : decode cX6_grind 40 = .ok (.iload_n 2, 1) := by decide +kernel
theorem dX6_grind_41 : decode cX6_grind 41 = .ok (.iconst 0, 1) := by decide +kernel
theorem dX6_grind_42 : decode cX6_grind 42 = .ok (.invokevirtual 74, 3) := by decide +kernel
theorem dX6_grind_45 : decode cX6_grind 45 = .ok (.ifCond .ne 6, 3) := by decide +kernel
theorem dX6_grind_48 : decode cX6_grind 48 = .ok (.bipush (-2), 2) := by decide +kernel
theorem dX6_grind_50 : decode cX6_grind 50 = .ok (.ireturn, 1) := by decide +kernel
theorem dX6_grind_51 : decode cX6_grind 51 = .ok (.aload_n 0, 1) := by decide +kernel
theorem dX6_grind_52 : decode cX6_grind 52 = .ok (.getfield 19, 3) := by decide +kernel
theorem dX6_grind_55 : decode cX6_grind 55 = .ok (.aload_n 0, 1) := by decide +kernel
theorem dX6_grind_56 : decode cX6_grind 56 = .ok (.getfield 10, 3) := by decide +kernel
theorem dX6_grind_59 : decode cX6_grind 59 = .ok (.invokevirtual 50, 3) := by decide +kernel
theorem dX6_grind_62 : decode cX6_grind 62 = .ok (.aload_n 0, 1) := by decide +kernel
theorem dX6_grind_63 : decode cX6_grind 63 = .ok (.getfield 10, 3) := by decide +kernel
theorem dX6_grind_66 : decode cX6_grind 66 = .ok (.aload_n 3, 1) := by decide +kernel
theorem dX6_grind_67 : decode cX6_grind 67 = .ok (.iload_n 2, 1) := by decide +kernel
theorem dX6_grind_68 : decode cX6_grind 68 = .ok (.invokevirtual 78, 3) := by decide +kernel
theorem dX6_grind_71 : decode cX6_grind 71 = .ok (.aload_n 3, 1) := by decide +kernel
theorem dX6_grind_72 : decode cX6_grind 72 = .ok (.getfield 82, 3) := by decide +kernel
theorem dX6_grind_75 : decode cX6_grind 75 = .ok (.ireturn, 1) := by decide +kernel
theorem dX6_addShield_0 : decode cX6_addShield 0 = .ok (.iload_n 1, 1) := by decide +kernel
theorem dX6_addShield_1 : decode cX6_addShield 1 = .ok (.iconst 2, 1) := by decide +kernel
theorem dX6_addShield_2 : decode cX6_addShield 2 = .ok (.bipush 6, 2) := by decide +kernel
theorem dX6_addShield_4 : decode cX6_addShield 4 = .ok (.invokestatic 42, 3) := by decide +kernel
theorem dX6_addShield_7 : decode cX6_addShield 7 = .ok (.ifCond .ne 5, 3) := by decide +kernel
theorem dX6_addShield_10 : decode cX6_addShield 10 = .ok (.iconst (-1), 1) := by decide +kernel
theorem dX6_addShield_11 : decode cX6_addShield 11 = .ok (.ireturn, 1) := by decide +kernel
theorem dX6_addShield_12 : decode cX6_addShield 12 = .ok (.aload_n 0, 1) := by decide +kernel
theorem dX6_addShield_13 : decode cX6_addShield 13 = .ok (.getfield 10, 3) := by decide +kernel
theorem dX6_addShield_16 : decode cX6_addShield 16 = .ok (.getfield 85, 3) := by decide +kernel
theorem dX6_addShield_19 : decode cX6_addShield 19 = .ok (.iconst 3, 1) := by decide +kernel
theorem dX6_addShield_20 : decode cX6_addShield 20 = .ok (.if_icmp .lt 6, 3) := by decide +kernel
theorem dX6_addShield_23 : decode cX6_addShield 23 = .ok (.bipush (-3), 2) := by decide +kernel
theorem dX6_addShield_25 : decode cX6_addShield 25 = .ok (.ireturn, 1) := by decide +kernel
theorem dX6_addShield_26 : decode cX6_addShield 26 = .ok (.aload_n 0, 1) := by decide +kernel
theorem dX6_addShield_27 : decode cX6_addShield 27 = .ok (.getfield 19, 3) := by decide +kernel
theorem dX6_addShield_30 : decode cX6_addShield 30 = .ok (.aload_n 0, 1) := by decide +kernel
theorem dX6_addShield_31 : decode cX6_addShield 31 = .ok (.getfield 10, 3) := by decide +kernel
theorem dX6_addShield_34 : decode cX6_addShield 34 = .ok (.invokevirtual 50, 3) := by decide +kernel
theorem dX6_addShield_37 : decode cX6_addShield 37 = .ok (.aload_n 0, 1) := by decide +kernel
theorem dX6_addShield_38 : decode cX6_addShield 38 = .ok (.getfield 10, 3) := by decide +kernel
theorem dX6_addShield_41 : decode cX6_addShield 41 = .ok (.iload_n 1, 1) := by decide +kernel
theorem dX6_addShield_42 : decode cX6_addShield 42 = .ok (.invokevirtual 88, 3) := by decide +kernel
theorem dX6_addShield_45 : decode cX6_addShield 45 = .ok (.ireturn, 1) := by decide +kernel
theorem dX6_takeOff_0 : decode cX6_takeOff 0 = .ok (.aload_n 0, 1) := by decide +kernel
theorem dX6_takeOff_1 : decode cX6_takeOff 1 = .ok (.getfield 10, 3) := by decide +kernel
theorem dX6_takeOff_4 : decode cX6_takeOff 4 = .ok (.iload_n 1, 1) := by decide +kernel
theorem dX6_takeOff_5 : decode cX6_takeOff 5 = .ok (.invokevirtual 91, 3) := by decide +kernel
theorem dX6_takeOff_8 : decode cX6_takeOff 8 = .ok (.ifCond .eq 10, 3) := by decide +kernel
theorem dX6_takeOff_11 : decode cX6_takeOff 11 = .ok (.iload_n 2, 1) := by decide +kernel
theorem dX6_takeOff_12 : decode cX6_takeOff 12 = .ok (.invokestatic 94, 3) := by decide +kernel
theorem dX6_takeOff_15 : decode cX6_takeOff 15 = .ok (.ifCond .ne 5, 3) := by decide +kernel
theorem dX6_takeOff_18 : decode cX6_takeOff 18 = .ok (.iconst (-1), 1) := by decide +kernel
theorem dX6_takeOff_19 : decode cX6_takeOff 19 = .ok (.ireturn, 1) := by decide +kernel
theorem dX6_takeOff_20 : decode cX6_takeOff 20 = .ok (.aload_n 0, 1) := by decide +kernel
theorem dX6_takeOff_21 : decode cX6_takeOff 21 = .ok (.getfield 10, 3) := by decide +kernel
theorem dX6_takeOff_24 : decode cX6_takeOff 24 = .ok (.iload_n 1, 1) := by decide +kernel
theorem dX6_takeOff_25 : decode cX6_takeOff 25 = .ok (.iload_n 2, 1) := by decide +kernel
theorem dX6_takeOff_26 : decode cX6_takeOff 26 = .ok (.invokevirtual 97, 3) := by decide +kernel
theorem dX6_takeOff_29 : decode cX6_takeOff 29 = .ok (.istore_n 3, 1) := by decide +kernel
theorem dX6_takeOff_30 : decode cX6_takeOff 30 = .ok (.aload_n 0, 1) := by decide +kernel
theorem dX6_takeOff_31 : decode cX6_takeOff 31 = .ok (.getfield 10, 3) := by decide +kernel
theorem dX6_takeOff_34 : decode cX6_takeOff 34 = .ok (.iload_n 3, 1) := by decide +kernel
theorem dX6_takeOff_35 : decode cX6_takeOff 35 = .ok (.invokevirtual 57, 3) := by decide +kernel
theorem dX6_takeOff_38 : decode cX6_takeOff 38 = .ok (.ifCond .ne 6, 3) := by decide +kernel
theorem dX6_takeOff_41 : decode cX6_takeOff 41 = .ok (.bipush (-2), 2) := by decide +kernel
theorem dX6_takeOff_43 : decode cX6_takeOff 43 = .ok (.ireturn, 1) := by decide +kernel
theorem dX6_takeOff_44 : decode cX6_takeOff 44 = .ok (.aload_n 0, 1) := by decide +kernel
theorem dX6_takeOff_45 : decode cX6_takeOff 45 = .ok (.getfield 19, 3) := by decide +kernel
theorem dX6_takeOff_48 : decode cX6_takeOff 48 = .ok (.aload_n 0, 1) := by decide +kernel
theorem dX6_takeOff_49 : decode cX6_takeOff 49 = .ok (.getfield 10, 3) := by decide +kernel
theorem dX6_takeOff_52 : decode cX6_takeOff 52 = .ok (.invokevirtual 50, 3) := by decide +kernel
theorem dX6_takeOff_55 : decode cX6_takeOff 55 = .ok (.aload_n 0, 1) := by decide +kernel
theorem dX6_takeOff_56 : decode cX6_takeOff 56 = .ok (.getfield 10, 3) := by decide +kernel
theorem dX6_takeOff_59 : decode cX6_takeOff 59 = .ok (.getfield 61, 3) := by decide +kernel
theorem dX6_takeOff_62 : decode cX6_takeOff 62 = .ok (.iload_n 3, 1) := by decide +kernel
theorem dX6_takeOff_63 : decode cX6_takeOff 63 = .ok (.aaload, 1) := by decide +kernel
theorem dX6_takeOff_64 : decode cX6_takeOff 64 = .ok (.invokevirtual 100, 3) := by decide +kernel
theorem dX6_takeOff_67 : decode cX6_takeOff 67 = .ok (.iload_n 3, 1) := by decide +kernel
theorem dX6_takeOff_68 : decode cX6_takeOff 68 = .ok (.ireturn, 1) := by decide +kernel
theorem dX6_append_0 : decode cX6_append 0 = .ok (.iload_n 1, 1) := by decide +kernel
theorem dX6_append_1 : decode cX6_append 1 = .ok (.bipush 97, 2) := by decide +kernel
theorem dX6_append_3 : decode cX6_append 3 = .ok (.bipush 122, 2) := by decide +kernel
theorem dX6_append_5 : decode cX6_append 5 = .ok (.invokestatic 42, 3) := by decide +kernel
theorem dX6_append_8 : decode cX6_append 8 = .ok (.ifCond .ne 5, 3) := by decide +kernel
theorem dX6_append_11 : decode cX6_append 11 = .ok (.iconst (-1), 1) := by decide +kernel
theorem dX6_append_12 : decode cX6_append 12 = .ok (.ireturn, 1) := by decide +kernel
theorem dX6_append_13 : decode cX6_append 13 = .ok (.aload_n 0, 1) := by decide +kernel
theorem dX6_append_14 : decode cX6_append 14 = .ok (.getfield 26, 3) := by decide +kernel
theorem dX6_append_17 : decode cX6_append 17 = .ok (.getfield 103, 3) := by decide +kernel
theorem dX6_append_20 : decode cX6_append 20 = .ok (.bipush 12, 2) := by decide +kernel
theorem dX6_append_22 : decode cX6_append 22 = .ok (.if_icmp .lt 6, 3) := by decide +kernel
theorem dX6_append_25 : decode cX6_append 25 = .ok (.bipush (-3), 2) := by decide +kernel
theorem dX6_append_27 : decode cX6_append 27 = .ok (.ireturn, 1) := by decide +kernel
theorem dX6_append_28 : decode cX6_append 28 = .ok (.aload_n 0, 1) := by decide +kernel
theorem dX6_append_29 : decode cX6_append 29 = .ok (.getfield 26, 3) := by decide +kernel
theorem dX6_append_32 : decode cX6_append 32 = .ok (.iload_n 1, 1) := by decide +kernel
theorem dX6_append_33 : decode cX6_append 33 = .ok (.invokevirtual 106, 3) := by decide +kernel
theorem dX6_append_36 : decode cX6_append 36 = .ok (.aload_n 0, 1) := by decide +kernel
theorem dX6_append_37 : decode cX6_append 37 = .ok (.getfield 26, 3) := by decide +kernel
theorem dX6_append_40 : decode cX6_append 40 = .ok (.getfield 103, 3) := by decide +kernel
theorem dX6_append_43 : decode cX6_append 43 = .ok (.ireturn, 1) := by decide +kernel
theorem dX6_clearText_0 : decode cX6_clearText 0 = .ok (.aload_n 0, 1) := by decide +kernel
theorem dX6_clearText_1 : decode cX6_clearText 1 = .ok (.getfield 26, 3) := by decide +kernel
theorem dX6_clearText_4 : decode cX6_clearText 4 = .ok (.getfield 103, 3) := by decide +kernel
theorem dX6_clearText_7 : decode cX6_clearText 7 = .ok (.istore_n 1, 1) := by decide +kernel
theorem dX6_clearText_8 : decode cX6_clearText 8 = .ok (.aload_n 0, 1) := by decide +kernel
theorem dX6_clearText_9 : decode cX6_clearText 9 = .ok (.getfield 26, 3) := by decide +kernel
theorem dX6_clearText_12 : decode cX6_clearText 12 = .ok (.iconst 0, 1) := by decide +kernel
theorem dX6_clearText_13 : decode cX6_clearText 13 = .ok (.putfield 103, 3) := by decide +kernel
theorem dX6_clearText_16 : decode cX6_clearText 16 = .ok (.iload_n 1, 1) := by decide +kernel
theorem dX6_clearText_17 : decode cX6_clearText 17 = .ok (.ireturn, 1) := by decide +kernel
theorem dX6_order_0 : decode cX6_order 0 = .ok (.aload_n 0, 1) := by decide +kernel
theorem dX6_order_1 : decode cX6_order 1 = .ok (.getfield 10, 3) := by decide +kernel
theorem dX6_order_4 : decode cX6_order 4 = .ok (.iload_n 1, 1) := by decide +kernel
theorem dX6_order_5 : decode cX6_order 5 = .ok (.invokevirtual 91, 3) := by decide +kernel
theorem dX6_order_8 : decode cX6_order 8 = .ok (.ifCond .eq 35, 3) := by decide +kernel
theorem dX6_order_11 : decode cX6_order 11 = .ok (.iload_n 2, 1) := by decide +kernel
theorem dX6_order_12 : decode cX6_order 12 = .ok (.invokestatic 94, 3) := by decide +kernel
theorem dX6_order_15 : decode cX6_order 15 = .ok (.ifCond .eq 28, 3) := by decide +kernel
theorem dX6_order_18 : decode cX6_order 18 = .ok (.iload_n 3, 1) := by decide +kernel
theorem dX6_order_19 : decode cX6_order 19 = .ok (.invokestatic 110, 3) := by decide +kernel
theorem dX6_order_22 : decode cX6_order 22 = .ok (.ifCond .eq 21, 3) := by decide +kernel
theorem dX6_order_25 : decode cX6_order 25 = .ok (.iload 4, 2) := by decide +kernel
theorem dX6_order_27 : decode cX6_order 27 = .ok (.invokestatic 113, 3) := by decide +kernel
theorem dX6_order_30 : decode cX6_order 30 = .ok (.ifCond .eq 13, 3) := by decide +kernel
theorem dX6_order_33 : decode cX6_order 33 = .ok (.iload 5, 2) := by decide +kernel
theorem dX6_order_35 : decode cX6_order 35 = .ok (.iconst 0, 1) := by decide +kernel
theorem dX6_order_36 : decode cX6_order 36 = .ok (.iconst 1, 1) := by decide +kernel
theorem dX6_order_37 : decode cX6_order 37 = .ok (.invokestatic 42, 3) := by decide +kernel
theorem dX6_order_40 : decode cX6_order 40 = .ok (.ifCond .ne 5, 3) := by decide +kernel
theorem dX6_order_43 : decode cX6_order 43 = .ok (.iconst (-1), 1) := by decide +kernel
theorem dX6_order_44 : decode cX6_order 44 = .ok (.ireturn, 1) := by decide +kernel
theorem dX6_order_45 : decode cX6_order 45 = .ok (.aload_n 0, 1) := by decide +kernel
theorem dX6_order_46 : decode cX6_order 46 = .ok (.getfield 26, 3) := by decide +kernel
theorem dX6_order_49 : decode cX6_order 49 = .ok (.getfield 103, 3) := by decide +kernel
theorem dX6_order_52 : decode cX6_order 52 = .ok (.ifCond .eq 29, 3) := by decide +kernel
theorem dX6_order_55 : decode cX6_order 55 = .ok (.aload_n 0, 1) := by decide +kernel
theorem dX6_order_56 : decode cX6_order 56 = .ok (.getfield 10, 3) := by decide +kernel
theorem dX6_order_59 : decode cX6_order 59 = .ok (.iload_n 1, 1) := by decide +kernel
theorem dX6_order_60 : decode cX6_order 60 = .ok (.iload_n 2, 1) := by decide +kernel
theorem dX6_order_61 : decode cX6_order 61 = .ok (.invokevirtual 97, 3) := by decide +kernel
theorem dX6_order_64 : decode cX6_order 64 = .ok (.bipush (-9), 2) := by decide +kernel
theorem dX6_order_66 : decode cX6_order 66 = .ok (.if_icmp .ne 15, 3) := by decide +kernel
theorem dX6_order_69 : decode cX6_order 69 = .ok (.aload_n 0, 1) := by decide +kernel
theorem dX6_order_70 : decode cX6_order 70 = .ok (.getfield 10, 3) := by decide +kernel
theorem dX6_order_73 : decode cX6_order 73 = .ok (.iload_n 1, 1) := by decide +kernel
theorem dX6_order_74 : decode cX6_order 74 = .ok (.iload_n 2, 1) := by decide +kernel
theorem dX6_order_75 : decode cX6_order 75 = .ok (.invokevirtual 116, 3) := by decide +kernel
theorem dX6_order_78 : decode cX6_order 78 = .ok (.ifCond .eq 6, 3) := by decide +kernel
theorem dX6_order_81 : decode cX6_order 81 = .ok (.bipush (-2), 2) := by decide +kernel
theorem dX6_order_83 : decode cX6_order 83 = .ok (.ireturn, 1) := by decide +kernel
theorem dX6_order_84 : decode cX6_order 84 = .ok (.aload_n 0, 1) := by decide +kernel
theorem dX6_order_85 : decode cX6_order 85 = .ok (.getfield 10, 3) := by decide +kernel
theorem dX6_order_88 : decode cX6_order 88 = .ok (.getfield 119, 3) := by decide +kernel
theorem dX6_order_91 : decode cX6_order 91 = .ok (.bipush 10, 2) := by decide +kernel
theorem dX6_order_93 : decode cX6_order 93 = .ok (.if_icmp .lt 6, 3) := by decide +kernel
theorem dX6_order_96 : decode cX6_order 96 = .ok (.bipush (-3), 2) := by decide +kernel
theorem dX6_order_98 : decode cX6_order 98 = .ok (.ireturn, 1) := by decide +kernel
theorem dX6_order_99 : decode cX6_order 99 = .ok (.aload_n 0, 1) := by decide +kernel
theorem dX6_order_100 : decode cX6_order 100 = .ok (.getfield 19, 3) := by decide +kernel
theorem dX6_order_103 : decode cX6_order 103 = .ok (.aload_n 0, 1) := by decide +kernel
theorem dX6_order_104 : decode cX6_order 104 = .ok (.getfield 10, 3) := by decide +kernel
theorem dX6_order_107 : decode cX6_order 107 = .ok (.invokevirtual 50, 3) := by decide +kernel
theorem dX6_order_110 : decode cX6_order 110 = .ok (.aload_n 0, 1) := by decide +kernel
theorem dX6_order_111 : decode cX6_order 111 = .ok (.getfield 10, 3) := by decide +kernel
theorem dX6_order_114 : decode cX6_order 114 = .ok (.getfield 122, 3) := by decide +kernel
theorem dX6_order_117 : decode cX6_order 117 = .ok (.aload_n 0, 1) := by decide +kernel
theorem dX6_order_118 : decode cX6_order 118 = .ok (.getfield 10, 3) := by decide +kernel
theorem dX6_order_121 : decode cX6_order 121 = .ok (.getfield 119, 3) := by decide +kernel
theorem dX6_order_124 : decode cX6_order 124 = .ok (.aaload, 1) := by decide +kernel
theorem dX6_order_125 : decode cX6_order 125 = .ok (.astore 6, 2) := by decide +kernel
theorem dX6_order_127 : decode cX6_order 127 = .ok (.aload 6, 2) := by decide +kernel
theorem dX6_order_129 : decode cX6_order 129 = .ok (.getfield 126, 3) := by decide +kernel
theorem dX6_order_132 : decode cX6_order 132 = .ok (.aload_n 0, 1) := by decide +kernel
theorem dX6_order_133 : decode cX6_order 133 = .ok (.getfield 26, 3) := by decide +kernel
theorem dX6_order_136 : decode cX6_order 136 = .ok (.invokevirtual 131, 3) := by decide +kernel
theorem dX6_order_139 : decode cX6_order 139 = .ok (.aload 6, 2) := by decide +kernel
theorem dX6_order_141 : decode cX6_order 141 = .ok (.iload_n 1, 1) := by decide +kernel
theorem dX6_order_142 : decode cX6_order 142 = .ok (.putfield 135, 3) := by decide +kernel
theorem dX6_order_145 : decode cX6_order 145 = .ok (.aload 6, 2) := by decide +kernel
theorem dX6_order_147 : decode cX6_order 147 = .ok (.iload_n 2, 1) := by decide +kernel
theorem dX6_order_148 : decode cX6_order 148 = .ok (.putfield 138, 3) := by decide +kernel
theorem dX6_order_151 : decode cX6_order 151 = .ok (.aload 6, 2) := by decide +kernel
theorem dX6_order_153 : decode cX6_order 153 = .ok (.iload_n 3, 1) := by decide +kernel
theorem dX6_order_154 : decode cX6_order 154 = .ok (.putfield 141, 3) := by decide +kernel
theorem dX6_order_157 : decode cX6_order 157 = .ok (.aload 6, 2) := by decide +kernel
theorem dX6_order_159 : decode cX6_order 159 = .ok (.iload 4, 2) := by decide +kernel
theorem dX6_order_161 : decode cX6_order 161 = .ok (.putfield 144, 3) := by decide +kernel
theorem dX6_order_164 : decode cX6_order 164 = .ok (.aload 6, 2) := by decide +kernel
theorem dX6_order_166 : decode cX6_order 166 = .ok (.iload 5, 2) := by decide +kernel
theorem dX6_order_168 : decode cX6_order 168 = .ok (.iconst 1, 1) := by decide +kernel
theorem dX6_order_169 : decode cX6_order 169 = .ok (.if_icmp .ne 7, 3) := by decide +kernel
theorem dX6_order_172 : decode cX6_order 172 = .ok (.iconst 1, 1) := by decide +kernel
theorem dX6_order_173 : decode cX6_order 173 = .ok (.goto 4, 3) := by decide +kernel
theorem dX6_order_176 : decode cX6_order 176 = .ok (.iconst 0, 1) := by decide +kernel
theorem dX6_order_177 : decode cX6_order 177 = .ok (.putfield 147, 3) := by decide +kernel
theorem dX6_order_180 : decode cX6_order 180 = .ok (.aload_n 0, 1) := by decide +kernel
theorem dX6_order_181 : decode cX6_order 181 = .ok (.getfield 26, 3) := by decide +kernel
theorem dX6_order_184 : decode cX6_order 184 = .ok (.iconst 0, 1) := by decide +kernel
theorem dX6_order_185 : decode cX6_order 185 = .ok (.putfield 103, 3) := by decide +kernel
theorem dX6_order_188 : decode cX6_order 188 = .ok (.aload_n 0, 1) := by decide +kernel
theorem dX6_order_189 : decode cX6_order 189 = .ok (.getfield 10, 3) := by decide +kernel
theorem dX6_order_192 : decode cX6_order 192 = .ok (.invokevirtual 151, 3) := by decide +kernel
theorem dX6_order_195 : decode cX6_order 195 = .ok (.ireturn, 1) := by decide +kernel
theorem dX6_hurry_0 : decode cX6_hurry 0 = .ok (.aload_n 0, 1) := by decide +kernel
theorem dX6_hurry_1 : decode cX6_hurry 1 = .ok (.getfield 10, 3) := by decide +kernel
theorem dX6_hurry_4 : decode cX6_hurry 4 = .ok (.iload_n 1, 1) := by decide +kernel
theorem dX6_hurry_5 : decode cX6_hurry 5 = .ok (.invokevirtual 155, 3) := by decide +kernel
theorem dX6_hurry_8 : decode cX6_hurry 8 = .ok (.ifCond .ne 5, 3) := by decide +kernel
theorem dX6_hurry_11 : decode cX6_hurry 11 = .ok (.iconst (-1), 1) := by decide +kernel
theorem dX6_hurry_12 : decode cX6_hurry 12 = .ok (.ireturn, 1) := by decide +kernel
theorem dX6_hurry_13 : decode cX6_hurry 13 = .ok (.aload_n 0, 1) := by decide +kernel
theorem dX6_hurry_14 : decode cX6_hurry 14 = .ok (.getfield 10, 3) := by decide +kernel
theorem dX6_hurry_17 : decode cX6_hurry 17 = .ok (.getfield 122, 3) := by decide +kernel
theorem dX6_hurry_20 : decode cX6_hurry 20 = .ok (.iload_n 1, 1) := by decide +kernel
theorem dX6_hurry_21 : decode cX6_hurry 21 = .ok (.aaload, 1) := by decide +kernel
theorem dX6_hurry_22 : decode cX6_hurry 22 = .ok (.getfield 147, 3) := by decide +kernel
theorem dX6_hurry_25 : decode cX6_hurry 25 = .ok (.ifCond .eq 6, 3) := by decide +kernel
theorem dX6_hurry_28 : decode cX6_hurry 28 = .ok (.bipush (-2), 2) := by decide +kernel
theorem dX6_hurry_30 : decode cX6_hurry 30 = .ok (.ireturn, 1) := by decide +kernel
theorem dX6_hurry_31 : decode cX6_hurry 31 = .ok (.aload_n 0, 1) := by decide +kernel
theorem dX6_hurry_32 : decode cX6_hurry 32 = .ok (.getfield 19, 3) := by decide +kernel
theorem dX6_hurry_35 : decode cX6_hurry 35 = .ok (.aload_n 0, 1) := by decide +kernel
theorem dX6_hurry_36 : decode cX6_hurry 36 = .ok (.getfield 10, 3) := by decide +kernel
theorem dX6_hurry_39 : decode cX6_hurry 39 = .ok (.invokevirtual 50, 3) := by decide +kernel
theorem dX6_hurry_42 : decode cX6_hurry 42 = .ok (.aload_n 0, 1) := by decide +kernel
theorem dX6_hurry_43 : decode cX6_hurry 43 = .ok (.getfield 10, 3) := by decide +kernel
theorem dX6_hurry_46 : decode cX6_hurry 46 = .ok (.iload_n 1, 1) := by decide +kernel
theorem dX6_hurry_47 : decode cX6_hurry 47 = .ok (.invokevirtual 158, 3) := by decide +kernel
theorem dX6_hurry_50 : decode cX6_hurry 50 = .ok (.ireturn, 1) := by decide +kernel
theorem dX6_cancel_0 : decode cX6_cancel 0 = .ok (.aload_n 0, 1) := by decide +kernel
theorem dX6_cancel_1 : decode cX6_cancel 1 = .ok (.getfield 10, 3) := by decide +kernel
theorem dX6_cancel_4 : decode cX6_cancel 4 = .ok (.iload_n 1, 1) := by decide +kernel
theorem dX6_cancel_5 : decode cX6_cancel 5 = .ok (.invokevirtual 155, 3) := by decide +kernel
theorem dX6_cancel_8 : decode cX6_cancel 8 = .ok (.ifCond .ne 5, 3) := by decide +kernel
theorem dX6_cancel_11 : decode cX6_cancel 11 = .ok (.iconst (-1), 1) := by decide +kernel
theorem dX6_cancel_12 : decode cX6_cancel 12 = .ok (.ireturn, 1) := by decide +kernel
theorem dX6_cancel_13 : decode cX6_cancel 13 = .ok (.aload_n 0, 1) := by decide +kernel
theorem dX6_cancel_14 : decode cX6_cancel 14 = .ok (.getfield 19, 3) := by decide +kernel
theorem dX6_cancel_17 : decode cX6_cancel 17 = .ok (.aload_n 0, 1) := by decide +kernel
theorem dX6_cancel_18 : decode cX6_cancel 18 = .ok (.getfield 10, 3) := by decide +kernel
theorem dX6_cancel_21 : decode cX6_cancel 21 = .ok (.invokevirtual 50, 3) := by decide +kernel
theorem dX6_cancel_24 : decode cX6_cancel 24 = .ok (.aload_n 0, 1) := by decide +kernel
theorem dX6_cancel_25 : decode cX6_cancel 25 = .ok (.getfield 10, 3) := by decide +kernel
theorem dX6_cancel_28 : decode cX6_cancel 28 = .ok (.iload_n 1, 1) := by decide +kernel
theorem dX6_cancel_29 : decode cX6_cancel 29 = .ok (.invokevirtual 161, 3) := by decide +kernel
theorem dX6_cancel_32 : decode cX6_cancel 32 = .ok (.aload_n 0, 1) := by decide +kernel
theorem dX6_cancel_33 : decode cX6_cancel 33 = .ok (.getfield 10, 3) := by decide +kernel
theorem dX6_cancel_36 : decode cX6_cancel 36 = .ok (.getfield 119, 3) := by decide +kernel
theorem dX6_cancel_39 : decode cX6_cancel 39 = .ok (.ireturn, 1) := by decide +kernel
theorem dX6_work_0 : decode cX6_work 0 = .ok (.iload_n 1, 1) := by decide +kernel
theorem dX6_work_1 : decode cX6_work 1 = .ok (.iconst 1, 1) := by decide +kernel
theorem dX6_work_2 : decode cX6_work 2 = .ok (.sipush 600, 3) := by decide +kernel
theorem dX6_work_5 : decode cX6_work 5 = .ok (.invokestatic 42, 3) := by decide +kernel
theorem dX6_work_8 : decode cX6_work 8 = .ok (.ifCond .ne 5, 3) := by decide +kernel
theorem dX6_work_11 : decode cX6_work 11 = .ok (.iconst (-1), 1) := by decide +kernel
theorem dX6_work_12 : decode cX6_work 12 = .ok (.ireturn, 1) := by decide +kernel
theorem dX6_work_13 : decode cX6_work 13 = .ok (.aload_n 0, 1) := by decide +kernel
theorem dX6_work_14 : decode cX6_work 14 = .ok (.getfield 19, 3) := by decide +kernel
theorem dX6_work_17 : decode cX6_work 17 = .ok (.aload_n 0, 1) := by decide +kernel
theorem dX6_work_18 : decode cX6_work 18 = .ok (.getfield 10, 3) := by decide +kernel
theorem dX6_work_21 : decode cX6_work 21 = .ok (.invokevirtual 50, 3) := by decide +kernel
theorem dX6_work_24 : decode cX6_work 24 = .ok (.aload_n 0, 1) := by decide +kernel
theorem dX6_work_25 : decode cX6_work 25 = .ok (.getfield 10, 3) := by decide +kernel
theorem dX6_work_28 : decode cX6_work 28 = .ok (.iload_n 1, 1) := by decide +kernel
theorem dX6_work_29 : decode cX6_work 29 = .ok (.invokevirtual 164, 3) := by decide +kernel
theorem dX6_work_32 : decode cX6_work 32 = .ok (.ireturn, 1) := by decide +kernel
theorem dX6_slip_0 : decode cX6_slip 0 = .ok (.aload_n 0, 1) := by decide +kernel
theorem dX6_slip_1 : decode cX6_slip 1 = .ok (.getfield 10, 3) := by decide +kernel
theorem dX6_slip_4 : decode cX6_slip 4 = .ok (.invokevirtual 167, 3) := by decide +kernel
theorem dX6_slip_7 : decode cX6_slip 7 = .ok (.ifCond .ne 6, 3) := by decide +kernel
theorem dX6_slip_10 : decode cX6_slip 10 = .ok (.bipush (-2), 2) := by decide +kernel
theorem dX6_slip_12 : decode cX6_slip 12 = .ok (.ireturn, 1) := by decide +kernel
theorem dX6_slip_13 : decode cX6_slip 13 = .ok (.aload_n 0, 1) := by decide +kernel
theorem dX6_slip_14 : decode cX6_slip 14 = .ok (.getfield 19, 3) := by decide +kernel
theorem dX6_slip_17 : decode cX6_slip 17 = .ok (.aload_n 0, 1) := by decide +kernel
theorem dX6_slip_18 : decode cX6_slip 18 = .ok (.getfield 10, 3) := by decide +kernel
theorem dX6_slip_21 : decode cX6_slip 21 = .ok (.invokevirtual 50, 3) := by decide +kernel
theorem dX6_slip_24 : decode cX6_slip 24 = .ok (.aload_n 0, 1) := by decide +kernel
theorem dX6_slip_25 : decode cX6_slip 25 = .ok (.getfield 10, 3) := by decide +kernel
theorem dX6_slip_28 : decode cX6_slip 28 = .ok (.invokevirtual 171, 3) := by decide +kernel
theorem dX6_slip_31 : decode cX6_slip 31 = .ok (.ireturn, 1) := by decide +kernel
theorem dX6_undo_0 : decode cX6_undo 0 = .ok (.aload_n 0, 1) := by decide +kernel
theorem dX6_undo_1 : decode cX6_undo 1 = .ok (.getfield 19, 3) := by decide +kernel
theorem dX6_undo_4 : decode cX6_undo 4 = .ok (.getfield 174, 3) := by decide +kernel
theorem dX6_undo_7 : decode cX6_undo 7 = .ok (.ifCond .gt 6, 3) := by decide +kernel
theorem dX6_undo_10 : decode cX6_undo 10 = .ok (.bipush (-2), 2) := by decide +kernel
theorem dX6_undo_12 : decode cX6_undo 12 = .ok (.ireturn, 1) := by decide +kernel
theorem dX6_undo_13 : decode cX6_undo 13 = .ok (.aload_n 0, 1) := by decide +kernel
theorem dX6_undo_14 : decode cX6_undo 14 = .ok (.getfield 19, 3) := by decide +kernel
theorem dX6_undo_17 : decode cX6_undo 17 = .ok (.aload_n 0, 1) := by decide +kernel
theorem dX6_undo_18 : decode cX6_undo 18 = .ok (.getfield 10, 3) := by decide +kernel
theorem dX6_undo_21 : decode cX6_undo 21 = .ok (.invokevirtual 177, 3) := by decide +kernel
theorem dX6_undo_24 : decode cX6_undo 24 = .ok (.aload_n 0, 1) := by decide +kernel
theorem dX6_undo_25 : decode cX6_undo 25 = .ok (.getfield 19, 3) := by decide +kernel
theorem dX6_undo_28 : decode cX6_undo 28 = .ok (.getfield 174, 3) := by decide +kernel
theorem dX6_undo_31 : decode cX6_undo 31 = .ok (.ireturn, 1) := by decide +kernel
theorem dX6_count_0 : decode cX6_count 0 = .ok (.iload_n 1, 1) := by decide +kernel
theorem dX6_count_1 : decode cX6_count 1 = .ok (.tableswitch 184 0 15 #[79, 79, 79, 79, 88, 96, 104, 112, 120, 128, 136, 144, 152, 160, 168, 176], 79) := by decide +kernel
theorem dX6_count_80 : decode cX6_count 80 = .ok (.aload_n 0, 1) := by decide +kernel
theorem dX6_count_81 : decode cX6_count 81 = .ok (.getfield 10, 3) := by decide +kernel
theorem dX6_count_84 : decode cX6_count 84 = .ok (.iload_n 1, 1) := by decide +kernel
theorem dX6_count_85 : decode cX6_count 85 = .ok (.invokevirtual 70, 3) := by decide +kernel
theorem dX6_count_88 : decode cX6_count 88 = .ok (.ireturn, 1) := by decide +kernel
theorem dX6_count_89 : decode cX6_count 89 = .ok (.aload_n 0, 1) := by decide +kernel
theorem dX6_count_90 : decode cX6_count 90 = .ok (.getfield 10, 3) := by decide +kernel
theorem dX6_count_93 : decode cX6_count 93 = .ok (.getfield 46, 3) := by decide +kernel
theorem dX6_count_96 : decode cX6_count 96 = .ok (.ireturn, 1) := by decide +kernel
theorem dX6_count_97 : decode cX6_count 97 = .ok (.aload_n 0, 1) := by decide +kernel
theorem dX6_count_98 : decode cX6_count 98 = .ok (.getfield 10, 3) := by decide +kernel
theorem dX6_count_101 : decode cX6_count 101 = .ok (.getfield 85, 3) := by decide +kernel
theorem dX6_count_104 : decode cX6_count 104 = .ok (.ireturn, 1) := by decide +kernel
theorem dX6_count_105 : decode cX6_count 105 = .ok (.aload_n 0, 1) := by decide +kernel
theorem dX6_count_106 : decode cX6_count 106 = .ok (.getfield 10, 3) := by decide +kernel
theorem dX6_count_109 : decode cX6_count 109 = .ok (.getfield 119, 3) := by decide +kernel
theorem dX6_count_112 : decode cX6_count 112 = .ok (.ireturn, 1) := by decide +kernel
theorem dX6_count_113 : decode cX6_count 113 = .ok (.aload_n 0, 1) := by decide +kernel
theorem dX6_count_114 : decode cX6_count 114 = .ok (.getfield 10, 3) := by decide +kernel
theorem dX6_count_117 : decode cX6_count 117 = .ok (.invokevirtual 180, 3) := by decide +kernel
theorem dX6_count_120 : decode cX6_count 120 = .ok (.ireturn, 1) := by decide +kernel
theorem dX6_count_121 : decode cX6_count 121 = .ok (.aload_n 0, 1) := by decide +kernel
theorem dX6_count_122 : decode cX6_count 122 = .ok (.getfield 10, 3) := by decide +kernel
theorem dX6_count_125 : decode cX6_count 125 = .ok (.getfield 183, 3) := by decide +kernel
theorem dX6_count_128 : decode cX6_count 128 = .ok (.ireturn, 1) := by decide +kernel
theorem dX6_count_129 : decode cX6_count 129 = .ok (.aload_n 0, 1) := by decide +kernel
theorem dX6_count_130 : decode cX6_count 130 = .ok (.getfield 10, 3) := by decide +kernel
theorem dX6_count_133 : decode cX6_count 133 = .ok (.getfield 186, 3) := by decide +kernel
theorem dX6_count_136 : decode cX6_count 136 = .ok (.ireturn, 1) := by decide +kernel
theorem dX6_count_137 : decode cX6_count 137 = .ok (.aload_n 0, 1) := by decide +kernel
theorem dX6_count_138 : decode cX6_count 138 = .ok (.getfield 10, 3) := by decide +kernel
theorem dX6_count_141 : decode cX6_count 141 = .ok (.getfield 189, 3) := by decide +kernel
theorem dX6_count_144 : decode cX6_count 144 = .ok (.ireturn, 1) := by decide +kernel
theorem dX6_count_145 : decode cX6_count 145 = .ok (.aload_n 0, 1) := by decide +kernel
theorem dX6_count_146 : decode cX6_count 146 = .ok (.getfield 10, 3) := by decide +kernel
theorem dX6_count_149 : decode cX6_count 149 = .ok (.getfield 192, 3) := by decide +kernel
theorem dX6_count_152 : decode cX6_count 152 = .ok (.ireturn, 1) := by decide +kernel
theorem dX6_count_153 : decode cX6_count 153 = .ok (.aload_n 0, 1) := by decide +kernel
theorem dX6_count_154 : decode cX6_count 154 = .ok (.getfield 10, 3) := by decide +kernel
theorem dX6_count_157 : decode cX6_count 157 = .ok (.getfield 195, 3) := by decide +kernel
theorem dX6_count_160 : decode cX6_count 160 = .ok (.ireturn, 1) := by decide +kernel
theorem dX6_count_161 : decode cX6_count 161 = .ok (.aload_n 0, 1) := by decide +kernel
theorem dX6_count_162 : decode cX6_count 162 = .ok (.getfield 10, 3) := by decide +kernel
theorem dX6_count_165 : decode cX6_count 165 = .ok (.getfield 198, 3) := by decide +kernel
theorem dX6_count_168 : decode cX6_count 168 = .ok (.ireturn, 1) := by decide +kernel
theorem dX6_count_169 : decode cX6_count 169 = .ok (.aload_n 0, 1) := by decide +kernel
theorem dX6_count_170 : decode cX6_count 170 = .ok (.getfield 19, 3) := by decide +kernel
theorem dX6_count_173 : decode cX6_count 173 = .ok (.getfield 174, 3) := by decide +kernel
theorem dX6_count_176 : decode cX6_count 176 = .ok (.ireturn, 1) := by decide +kernel
theorem dX6_count_177 : decode cX6_count 177 = .ok (.aload_n 0, 1) := by decide +kernel
theorem dX6_count_178 : decode cX6_count 178 = .ok (.getfield 26, 3) := by decide +kernel
theorem dX6_count_181 : decode cX6_count 181 = .ok (.getfield 103, 3) := by decide +kernel
theorem dX6_count_184 : decode cX6_count 184 = .ok (.ireturn, 1) := by decide +kernel
theorem dX6_count_185 : decode cX6_count 185 = .ok (.iconst (-1), 1) := by decide +kernel
theorem dX6_count_186 : decode cX6_count 186 = .ok (.ireturn, 1) := by decide +kernel
theorem dX6_plate_0 : decode cX6_plate 0 = .ok (.aload_n 0, 1) := by decide +kernel
theorem dX6_plate_1 : decode cX6_plate 1 = .ok (.getfield 10, 3) := by decide +kernel
theorem dX6_plate_4 : decode cX6_plate 4 = .ok (.iload_n 1, 1) := by decide +kernel
theorem dX6_plate_5 : decode cX6_plate 5 = .ok (.invokevirtual 57, 3) := by decide +kernel
theorem dX6_plate_8 : decode cX6_plate 8 = .ok (.ifCond .ne 5, 3) := by decide +kernel
theorem dX6_plate_11 : decode cX6_plate 11 = .ok (.iconst (-1), 1) := by decide +kernel
theorem dX6_plate_12 : decode cX6_plate 12 = .ok (.ireturn, 1) := by decide +kernel
theorem dX6_plate_13 : decode cX6_plate 13 = .ok (.aload_n 0, 1) := by decide +kernel
theorem dX6_plate_14 : decode cX6_plate 14 = .ok (.getfield 10, 3) := by decide +kernel
theorem dX6_plate_17 : decode cX6_plate 17 = .ok (.getfield 61, 3) := by decide +kernel
theorem dX6_plate_20 : decode cX6_plate 20 = .ok (.iload_n 1, 1) := by decide +kernel
theorem dX6_plate_21 : decode cX6_plate 21 = .ok (.aaload, 1) := by decide +kernel
theorem dX6_plate_22 : decode cX6_plate 22 = .ok (.astore_n 3, 1) := by decide +kernel
theorem dX6_plate_23 : decode cX6_plate 23 = .ok (.iload_n 2, 1) := by decide +kernel
theorem dX6_plate_24 : decode cX6_plate 24 = .ok (.tableswitch 79 0 6 #[44, 49, 54, 59, 64, 69, 74], 44) := by decide +kernel
theorem dX6_plate_68 : decode cX6_plate 68 = .ok (.aload_n 3, 1) := by decide +kernel
theorem dX6_plate_69 : decode cX6_plate 69 = .ok (.getfield 201, 3) := by decide +kernel
theorem dX6_plate_72 : decode cX6_plate 72 = .ok (.ireturn, 1) := by decide +kernel
theorem dX6_plate_73 : decode cX6_plate 73 = .ok (.aload_n 3, 1) := by decide +kernel
theorem dX6_plate_74 : decode cX6_plate 74 = .ok (.getfield 82, 3) := by decide +kernel
theorem dX6_plate_77 : decode cX6_plate 77 = .ok (.ireturn, 1) := by decide +kernel
theorem dX6_plate_78 : decode cX6_plate 78 = .ok (.aload_n 3, 1) := by decide +kernel
theorem dX6_plate_79 : decode cX6_plate 79 = .ok (.getfield 65, 3) := by decide +kernel
theorem dX6_plate_82 : decode cX6_plate 82 = .ok (.ireturn, 1) := by decide +kernel
theorem dX6_plate_83 : decode cX6_plate 83 = .ok (.aload_n 3, 1) := by decide +kernel
theorem dX6_plate_84 : decode cX6_plate 84 = .ok (.getfield 204, 3) := by decide +kernel
theorem dX6_plate_87 : decode cX6_plate 87 = .ok (.ireturn, 1) := by decide +kernel
theorem dX6_plate_88 : decode cX6_plate 88 = .ok (.aload_n 3, 1) := by decide +kernel
theorem dX6_plate_89 : decode cX6_plate 89 = .ok (.getfield 207, 3) := by decide +kernel
theorem dX6_plate_92 : decode cX6_plate 92 = .ok (.ireturn, 1) := by decide +kernel
theorem dX6_plate_93 : decode cX6_plate 93 = .ok (.aload_n 3, 1) := by decide +kernel
theorem dX6_plate_94 : decode cX6_plate 94 = .ok (.getfield 210, 3) := by decide +kernel
theorem dX6_plate_97 : decode cX6_plate 97 = .ok (.ireturn, 1) := by decide +kernel
theorem dX6_plate_98 : decode cX6_plate 98 = .ok (.aload_n 3, 1) := by decide +kernel
theorem dX6_plate_99 : decode cX6_plate 99 = .ok (.getfield 211, 3) := by decide +kernel
theorem dX6_plate_102 : decode cX6_plate 102 = .ok (.ireturn, 1) := by decide +kernel
theorem dX6_plate_103 : decode cX6_plate 103 = .ok (.iconst (-1), 1) := by decide +kernel
theorem dX6_plate_104 : decode cX6_plate 104 = .ok (.ireturn, 1) := by decide +kernel
theorem dX6_shield_0 : decode cX6_shield 0 = .ok (.aload_n 0, 1) := by decide +kernel
theorem dX6_shield_1 : decode cX6_shield 1 = .ok (.getfield 10, 3) := by decide +kernel
theorem dX6_shield_4 : decode cX6_shield 4 = .ok (.iload_n 1, 1) := by decide +kernel
theorem dX6_shield_5 : decode cX6_shield 5 = .ok (.invokevirtual 91, 3) := by decide +kernel
theorem dX6_shield_8 : decode cX6_shield 8 = .ok (.ifCond .ne 5, 3) := by decide +kernel
theorem dX6_shield_11 : decode cX6_shield 11 = .ok (.iconst (-1), 1) := by decide +kernel
theorem dX6_shield_12 : decode cX6_shield 12 = .ok (.ireturn, 1) := by decide +kernel
theorem dX6_shield_13 : decode cX6_shield 13 = .ok (.iload_n 2, 1) := by decide +kernel
theorem dX6_shield_14 : decode cX6_shield 14 = .ok (.tableswitch 80 0 4 #[34, 44, 53, 62, 71], 34) := by decide +kernel
theorem dX6_shield_48 : decode cX6_shield 48 = .ok (.aload_n 0, 1) := by decide +kernel
theorem dX6_shield_49 : decode cX6_shield 49 = .ok (.getfield 10, 3) := by decide +kernel
theorem dX6_shield_52 : decode cX6_shield 52 = .ok (.getfield 212, 3) := by decide +kernel
theorem dX6_shield_55 : decode cX6_shield 55 = .ok (.iload_n 1, 1) := by decide +kernel
theorem dX6_shield_56 : decode cX6_shield 56 = .ok (.iaload, 1) := by decide +kernel
theorem dX6_shield_57 : decode cX6_shield 57 = .ok (.ireturn, 1) := by decide +kernel
theorem dX6_shield_58 : decode cX6_shield 58 = .ok (.aload_n 0, 1) := by decide +kernel
theorem dX6_shield_59 : decode cX6_shield 59 = .ok (.getfield 10, 3) := by decide +kernel
theorem dX6_shield_62 : decode cX6_shield 62 = .ok (.iload_n 1, 1) := by decide +kernel
theorem dX6_shield_63 : decode cX6_shield 63 = .ok (.invokevirtual 216, 3) := by decide +kernel
theorem dX6_shield_66 : decode cX6_shield 66 = .ok (.ireturn, 1) := by decide +kernel
theorem dX6_shield_67 : decode cX6_shield 67 = .ok (.aload_n 0, 1) := by decide +kernel
theorem dX6_shield_68 : decode cX6_shield 68 = .ok (.getfield 10, 3) := by decide +kernel
theorem dX6_shield_71 : decode cX6_shield 71 = .ok (.iload_n 1, 1) := by decide +kernel
theorem dX6_shield_72 : decode cX6_shield 72 = .ok (.invokevirtual 219, 3) := by decide +kernel
theorem dX6_shield_75 : decode cX6_shield 75 = .ok (.ireturn, 1) := by decide +kernel
theorem dX6_shield_76 : decode cX6_shield 76 = .ok (.aload_n 0, 1) := by decide +kernel
theorem dX6_shield_77 : decode cX6_shield 77 = .ok (.getfield 10, 3) := by decide +kernel
theorem dX6_shield_80 : decode cX6_shield 80 = .ok (.iload_n 1, 1) := by decide +kernel
theorem dX6_shield_81 : decode cX6_shield 81 = .ok (.invokevirtual 222, 3) := by decide +kernel
theorem dX6_shield_84 : decode cX6_shield 84 = .ok (.ireturn, 1) := by decide +kernel
theorem dX6_shield_85 : decode cX6_shield 85 = .ok (.aload_n 0, 1) := by decide +kernel
theorem dX6_shield_86 : decode cX6_shield 86 = .ok (.getfield 10, 3) := by decide +kernel
theorem dX6_shield_89 : decode cX6_shield 89 = .ok (.iload_n 1, 1) := by decide +kernel
theorem dX6_shield_90 : decode cX6_shield 90 = .ok (.invokevirtual 225, 3) := by decide +kernel
theorem dX6_shield_93 : decode cX6_shield 93 = .ok (.ireturn, 1) := by decide +kernel
theorem dX6_shield_94 : decode cX6_shield 94 = .ok (.iconst (-1), 1) := by decide +kernel
theorem dX6_shield_95 : decode cX6_shield 95 = .ok (.ireturn, 1) := by decide +kernel
theorem dX6_plateFor_0 : decode cX6_plateFor 0 = .ok (.aload_n 0, 1) := by decide +kernel
theorem dX6_plateFor_1 : decode cX6_plateFor 1 = .ok (.getfield 10, 3) := by decide +kernel
theorem dX6_plateFor_4 : decode cX6_plateFor 4 = .ok (.iload_n 1, 1) := by decide +kernel
theorem dX6_plateFor_5 : decode cX6_plateFor 5 = .ok (.invokevirtual 91, 3) := by decide +kernel
theorem dX6_plateFor_8 : decode cX6_plateFor 8 = .ok (.ifCond .eq 10, 3) := by decide +kernel
theorem dX6_plateFor_11 : decode cX6_plateFor 11 = .ok (.iload_n 2, 1) := by decide +kernel
theorem dX6_plateFor_12 : decode cX6_plateFor 12 = .ok (.invokestatic 94, 3) := by decide +kernel
theorem dX6_plateFor_15 : decode cX6_plateFor 15 = .ok (.ifCond .ne 5, 3) := by decide +kernel
theorem dX6_plateFor_18 : decode cX6_plateFor 18 = .ok (.iconst (-1), 1) := by decide +kernel
theorem dX6_plateFor_19 : decode cX6_plateFor 19 = .ok (.ireturn, 1) := by decide +kernel
theorem dX6_plateFor_20 : decode cX6_plateFor 20 = .ok (.aload_n 0, 1) := by decide +kernel
theorem dX6_plateFor_21 : decode cX6_plateFor 21 = .ok (.getfield 10, 3) := by decide +kernel
theorem dX6_plateFor_24 : decode cX6_plateFor 24 = .ok (.iload_n 1, 1) := by decide +kernel
theorem dX6_plateFor_25 : decode cX6_plateFor 25 = .ok (.iload_n 2, 1) := by decide +kernel
theorem dX6_plateFor_26 : decode cX6_plateFor 26 = .ok (.invokevirtual 97, 3) := by decide +kernel
theorem dX6_plateFor_29 : decode cX6_plateFor 29 = .ok (.ireturn, 1) := by decide +kernel
theorem dX6_orderOf_0 : decode cX6_orderOf 0 = .ok (.aload_n 0, 1) := by decide +kernel
theorem dX6_orderOf_1 : decode cX6_orderOf 1 = .ok (.getfield 10, 3) := by decide +kernel
theorem dX6_orderOf_4 : decode cX6_orderOf 4 = .ok (.iload_n 1, 1) := by decide +kernel
theorem dX6_orderOf_5 : decode cX6_orderOf 5 = .ok (.invokevirtual 155, 3) := by decide +kernel
theorem dX6_orderOf_8 : decode cX6_orderOf 8 = .ok (.ifCond .ne 5, 3) := by decide +kernel
theorem dX6_orderOf_11 : decode cX6_orderOf 11 = .ok (.iconst (-1), 1) := by decide +kernel
theorem dX6_orderOf_12 : decode cX6_orderOf 12 = .ok (.ireturn, 1) := by decide +kernel
theorem dX6_orderOf_13 : decode cX6_orderOf 13 = .ok (.aload_n 0, 1) := by decide +kernel
theorem dX6_orderOf_14 : decode cX6_orderOf 14 = .ok (.getfield 10, 3) := by decide +kernel
theorem dX6_orderOf_17 : decode cX6_orderOf 17 = .ok (.getfield 122, 3) := by decide +kernel
theorem dX6_orderOf_20 : decode cX6_orderOf 20 = .ok (.iload_n 1, 1) := by decide +kernel
theorem dX6_orderOf_21 : decode cX6_orderOf 21 = .ok (.aaload, 1) := by decide +kernel
theorem dX6_orderOf_22 : decode cX6_orderOf 22 = .ok (.astore_n 3, 1) := by decide +kernel
theorem dX6_orderOf_23 : decode cX6_orderOf 23 = .ok (.iload_n 2, 1) := by decide +kernel
theorem dX6_orderOf_24 : decode cX6_orderOf 24 = .ok (.tableswitch 99 0 7 #[48, 53, 58, 63, 68, 81, 89, 94], 48) := by decide +kernel
theorem dX6_orderOf_72 : decode cX6_orderOf 72 = .ok (.aload_n 3, 1) := by decide +kernel
theorem dX6_orderOf_73 : decode cX6_orderOf 73 = .ok (.getfield 135, 3) := by decide +kernel
theorem dX6_orderOf_76 : decode cX6_orderOf 76 = .ok (.ireturn, 1) := by decide +kernel
theorem dX6_orderOf_77 : decode cX6_orderOf 77 = .ok (.aload_n 3, 1) := by decide +kernel
theorem dX6_orderOf_78 : decode cX6_orderOf 78 = .ok (.getfield 138, 3) := by decide +kernel
theorem dX6_orderOf_81 : decode cX6_orderOf 81 = .ok (.ireturn, 1) := by decide +kernel
theorem dX6_orderOf_82 : decode cX6_orderOf 82 = .ok (.aload_n 3, 1) := by decide +kernel
theorem dX6_orderOf_83 : decode cX6_orderOf 83 = .ok (.getfield 141, 3) := by decide +kernel
theorem dX6_orderOf_86 : decode cX6_orderOf 86 = .ok (.ireturn, 1) := by decide +kernel
theorem dX6_orderOf_87 : decode cX6_orderOf 87 = .ok (.aload_n 3, 1) := by decide +kernel
theorem dX6_orderOf_88 : decode cX6_orderOf 88 = .ok (.getfield 144, 3) := by decide +kernel
theorem dX6_orderOf_91 : decode cX6_orderOf 91 = .ok (.ireturn, 1) := by decide +kernel
theorem dX6_orderOf_92 : decode cX6_orderOf 92 = .ok (.aload_n 3, 1) := by decide +kernel
theorem dX6_orderOf_93 : decode cX6_orderOf 93 = .ok (.getfield 147, 3) := by decide +kernel
theorem dX6_orderOf_96 : decode cX6_orderOf 96 = .ok (.ifCond .eq 7, 3) := by decide +kernel
theorem dX6_orderOf_99 : decode cX6_orderOf 99 = .ok (.iconst 1, 1) := by decide +kernel
theorem dX6_orderOf_100 : decode cX6_orderOf 100 = .ok (.goto 4, 3) := by decide +kernel
theorem dX6_orderOf_103 : decode cX6_orderOf 103 = .ok (.iconst 0, 1) := by decide +kernel
theorem dX6_orderOf_104 : decode cX6_orderOf 104 = .ok (.ireturn, 1) := by decide +kernel
theorem dX6_orderOf_105 : decode cX6_orderOf 105 = .ok (.aload_n 3, 1) := by decide +kernel
theorem dX6_orderOf_106 : decode cX6_orderOf 106 = .ok (.getfield 126, 3) := by decide +kernel
theorem dX6_orderOf_109 : decode cX6_orderOf 109 = .ok (.getfield 103, 3) := by decide +kernel
theorem dX6_orderOf_112 : decode cX6_orderOf 112 = .ok (.ireturn, 1) := by decide +kernel
theorem dX6_orderOf_113 : decode cX6_orderOf 113 = .ok (.aload_n 3, 1) := by decide +kernel
theorem dX6_orderOf_114 : decode cX6_orderOf 114 = .ok (.invokevirtual 228, 3) := by decide +kernel
theorem dX6_orderOf_117 : decode cX6_orderOf 117 = .ok (.ireturn, 1) := by decide +kernel
theorem dX6_orderOf_118 : decode cX6_orderOf 118 = .ok (.aload_n 3, 1) := by decide +kernel
theorem dX6_orderOf_119 : decode cX6_orderOf 119 = .ok (.invokevirtual 231, 3) := by decide +kernel
theorem dX6_orderOf_122 : decode cX6_orderOf 122 = .ok (.ireturn, 1) := by decide +kernel
theorem dX6_orderOf_123 : decode cX6_orderOf 123 = .ok (.iconst (-1), 1) := by decide +kernel
theorem dX6_orderOf_124 : decode cX6_orderOf 124 = .ok (.ireturn, 1) := by decide +kernel
theorem dX6_letter_0 : decode cX6_letter 0 = .ok (.aload_n 0, 1) := by decide +kernel
theorem dX6_letter_1 : decode cX6_letter 1 = .ok (.getfield 10, 3) := by decide +kernel
theorem dX6_letter_4 : decode cX6_letter 4 = .ok (.iload_n 1, 1) := by decide +kernel
theorem dX6_letter_5 : decode cX6_letter 5 = .ok (.invokevirtual 155, 3) := by decide +kernel
theorem dX6_letter_8 : decode cX6_letter 8 = .ok (.ifCond .eq 7, 3) := by decide +kernel
theorem dX6_letter_11 : decode cX6_letter 11 = .ok (.iload_n 2, 1) := by decide +kernel
theorem dX6_letter_12 : decode cX6_letter 12 = .ok (.ifCond .ge 5, 3) := by decide +kernel
theorem dX6_letter_15 : decode cX6_letter 15 = .ok (.iconst (-1), 1) := by decide +kernel
theorem dX6_letter_16 : decode cX6_letter 16 = .ok (.ireturn, 1) := by decide +kernel
theorem dX6_letter_17 : decode cX6_letter 17 = .ok (.aload_n 0, 1) := by decide +kernel
theorem dX6_letter_18 : decode cX6_letter 18 = .ok (.getfield 10, 3) := by decide +kernel
theorem dX6_letter_21 : decode cX6_letter 21 = .ok (.getfield 122, 3) := by decide +kernel
theorem dX6_letter_24 : decode cX6_letter 24 = .ok (.iload_n 1, 1) := by decide +kernel
theorem dX6_letter_25 : decode cX6_letter 25 = .ok (.aaload, 1) := by decide +kernel
theorem dX6_letter_26 : decode cX6_letter 26 = .ok (.getfield 126, 3) := by decide +kernel
theorem dX6_letter_29 : decode cX6_letter 29 = .ok (.astore_n 3, 1) := by decide +kernel
theorem dX6_letter_30 : decode cX6_letter 30 = .ok (.iload_n 2, 1) := by decide +kernel
theorem dX6_letter_31 : decode cX6_letter 31 = .ok (.aload_n 3, 1) := by decide +kernel
theorem dX6_letter_32 : decode cX6_letter 32 = .ok (.getfield 103, 3) := by decide +kernel
theorem dX6_letter_35 : decode cX6_letter 35 = .ok (.if_icmp .ge 12, 3) := by decide +kernel
theorem dX6_letter_38 : decode cX6_letter 38 = .ok (.aload_n 3, 1) := by decide +kernel
theorem dX6_letter_39 : decode cX6_letter 39 = .ok (.getfield 234, 3) := by decide +kernel
theorem dX6_letter_42 : decode cX6_letter 42 = .ok (.iload_n 2, 1) := by decide +kernel
theorem dX6_letter_43 : decode cX6_letter 43 = .ok (.iaload, 1) := by decide +kernel
theorem dX6_letter_44 : decode cX6_letter 44 = .ok (.goto 5, 3) := by decide +kernel
theorem dX6_letter_47 : decode cX6_letter 47 = .ok (.bipush (-9), 2) := by decide +kernel
theorem dX6_letter_49 : decode cX6_letter 49 = .ok (.ireturn, 1) := by decide +kernel
theorem dX6_lengthOf_0 : decode cX6_lengthOf 0 = .ok (.iload_n 1, 1) := by decide +kernel
theorem dX6_lengthOf_1 : decode cX6_lengthOf 1 = .ok (.invokestatic 110, 3) := by decide +kernel
theorem dX6_lengthOf_4 : decode cX6_lengthOf 4 = .ok (.ifCond .eq 14, 3) := by decide +kernel
theorem dX6_lengthOf_7 : decode cX6_lengthOf 7 = .ok (.aload_n 0, 1) := by decide +kernel
theorem dX6_lengthOf_8 : decode cX6_lengthOf 8 = .ok (.getfield 26, 3) := by decide +kernel
theorem dX6_lengthOf_11 : decode cX6_lengthOf 11 = .ok (.iload_n 1, 1) := by decide +kernel
theorem dX6_lengthOf_12 : decode cX6_lengthOf 12 = .ok (.invokevirtual 237, 3) := by decide +kernel
theorem dX6_lengthOf_15 : decode cX6_lengthOf 15 = .ok (.goto 4, 3) := by decide +kernel
theorem dX6_lengthOf_18 : decode cX6_lengthOf 18 = .ok (.iconst (-1), 1) := by decide +kernel
theorem dX6_lengthOf_19 : decode cX6_lengthOf 19 = .ok (.ireturn, 1) := by decide +kernel
theorem dX6_doneIn_0 : decode cX6_doneIn 0 = .ok (.aload_n 0, 1) := by decide +kernel
theorem dX6_doneIn_1 : decode cX6_doneIn 1 = .ok (.getfield 10, 3) := by decide +kernel
theorem dX6_doneIn_4 : decode cX6_doneIn 4 = .ok (.iload_n 1, 1) := by decide +kernel
theorem dX6_doneIn_5 : decode cX6_doneIn 5 = .ok (.invokevirtual 155, 3) := by decide +kernel
theorem dX6_doneIn_8 : decode cX6_doneIn 8 = .ok (.ifCond .ne 5, 3) := by decide +kernel
theorem dX6_doneIn_11 : decode cX6_doneIn 11 = .ok (.iconst (-1), 1) := by decide +kernel
theorem dX6_doneIn_12 : decode cX6_doneIn 12 = .ok (.ireturn, 1) := by decide +kernel
theorem dX6_doneIn_13 : decode cX6_doneIn 13 = .ok (.aload_n 0, 1) := by decide +kernel
theorem dX6_doneIn_14 : decode cX6_doneIn 14 = .ok (.getfield 35, 3) := by decide +kernel
theorem dX6_doneIn_17 : decode cX6_doneIn 17 = .ok (.aload_n 0, 1) := by decide +kernel
theorem dX6_doneIn_18 : decode cX6_doneIn 18 = .ok (.getfield 10, 3) := by decide +kernel
theorem dX6_doneIn_21 : decode cX6_doneIn 21 = .ok (.bipush (-9), 2) := by decide +kernel
theorem dX6_doneIn_23 : decode cX6_doneIn 23 = .ok (.invokevirtual 249, 3) := by decide +kernel
theorem dX6_doneIn_26 : decode cX6_doneIn 26 = .ok (.aload_n 0, 1) := by decide +kernel
theorem dX6_doneIn_27 : decode cX6_doneIn 27 = .ok (.getfield 35, 3) := by decide +kernel
theorem dX6_doneIn_30 : decode cX6_doneIn 30 = .ok (.getfield 253, 3) := by decide +kernel
theorem dX6_doneIn_33 : decode cX6_doneIn 33 = .ok (.iload_n 1, 1) := by decide +kernel
theorem dX6_doneIn_34 : decode cX6_doneIn 34 = .ok (.iaload, 1) := by decide +kernel
theorem dX6_doneIn_35 : decode cX6_doneIn 35 = .ok (.ireturn, 1) := by decide +kernel
theorem dX6_isWithin_0 : decode cX6_isWithin 0 = .ok (.iload_n 0, 1) := by decide +kernel
theorem dX6_isWithin_1 : decode cX6_isWithin 1 = .ok (.iload_n 1, 1) := by decide +kernel
theorem dX6_isWithin_2 : decode cX6_isWithin 2 = .ok (.if_icmp .lt 12, 3) := by decide +kernel
theorem dX6_isWithin_5 : decode cX6_isWithin 5 = .ok (.iload_n 0, 1) := by decide +kernel
theorem dX6_isWithin_6 : decode cX6_isWithin 6 = .ok (.iload_n 2, 1) := by decide +kernel
theorem dX6_isWithin_7 : decode cX6_isWithin 7 = .ok (.if_icmp .gt 7, 3) := by decide +kernel
theorem dX6_isWithin_10 : decode cX6_isWithin 10 = .ok (.iconst 1, 1) := by decide +kernel
theorem dX6_isWithin_11 : decode cX6_isWithin 11 = .ok (.goto 4, 3) := by decide +kernel
theorem dX6_isWithin_14 : decode cX6_isWithin 14 = .ok (.iconst 0, 1) := by decide +kernel
theorem dX6_isWithin_15 : decode cX6_isWithin 15 = .ok (.ireturn, 1) := by decide +kernel
theorem dX6_isYear_0 : decode cX6_isYear 0 = .ok (.iload_n 0, 1) := by decide +kernel
theorem dX6_isYear_1 : decode cX6_isYear 1 = .ok (.iconst 1, 1) := by decide +kernel
theorem dX6_isYear_2 : decode cX6_isYear 2 = .ok (.sipush 999, 3) := by decide +kernel
theorem dX6_isYear_5 : decode cX6_isYear 5 = .ok (.invokestatic 42, 3) := by decide +kernel
theorem dX6_isYear_8 : decode cX6_isYear 8 = .ok (.ireturn, 1) := by decide +kernel
theorem dX6_isSize_0 : decode cX6_isSize 0 = .ok (.iload_n 0, 1) := by decide +kernel
theorem dX6_isSize_1 : decode cX6_isSize 1 = .ok (.iconst 1, 1) := by decide +kernel
theorem dX6_isSize_2 : decode cX6_isSize 2 = .ok (.iconst 4, 1) := by decide +kernel
theorem dX6_isSize_3 : decode cX6_isSize 3 = .ok (.invokestatic 42, 3) := by decide +kernel
theorem dX6_isSize_6 : decode cX6_isSize 6 = .ok (.ireturn, 1) := by decide +kernel
theorem dX6_isDepth_0 : decode cX6_isDepth 0 = .ok (.iload_n 0, 1) := by decide +kernel
theorem dX6_isDepth_1 : decode cX6_isDepth 1 = .ok (.iconst 1, 1) := by decide +kernel
theorem dX6_isDepth_2 : decode cX6_isDepth 2 = .ok (.iconst 5, 1) := by decide +kernel
theorem dX6_isDepth_3 : decode cX6_isDepth 3 = .ok (.invokestatic 42, 3) := by decide +kernel
theorem dX6_isDepth_6 : decode cX6_isDepth 6 = .ok (.ireturn, 1) := by decide +kernel
theorem dJ9_min_7cf53_0 : decode cJ9_min_7cf53 0 = .ok (.iload_n 0, 1) := by decide +kernel
theorem dJ9_min_7cf53_1 : decode cJ9_min_7cf53 1 = .ok (.iload_n 1, 1) := by decide +kernel
theorem dJ9_min_7cf53_2 : decode cJ9_min_7cf53 2 = .ok (.if_icmp .gt 7, 3) := by decide +kernel
theorem dJ9_min_7cf53_5 : decode cJ9_min_7cf53 5 = .ok (.iload_n 0, 1) := by decide +kernel
theorem dJ9_min_7cf53_6 : decode cJ9_min_7cf53 6 = .ok (.goto 4, 3) := by decide +kernel
theorem dJ9_min_7cf53_9 : decode cJ9_min_7cf53 9 = .ok (.iload_n 1, 1) := by decide +kernel
theorem dJ9_min_7cf53_10 : decode cJ9_min_7cf53 10 = .ok (.ireturn, 1) := by decide +kernel
theorem dL_cell_0 : decode cL_cell 0 = .ok (.iload_n 1, 1) := by decide +kernel
theorem dL_cell_1 : decode cL_cell 1 = .ok (.aload_n 0, 1) := by decide +kernel
theorem dL_cell_2 : decode cL_cell 2 = .ok (.arraylength, 1) := by decide +kernel
theorem dL_cell_3 : decode cL_cell 3 = .ok (.if_icmp .ge 9, 3) := by decide +kernel
theorem dL_cell_6 : decode cL_cell 6 = .ok (.aload_n 0, 1) := by decide +kernel
theorem dL_cell_7 : decode cL_cell 7 = .ok (.iload_n 1, 1) := by decide +kernel
theorem dL_cell_8 : decode cL_cell 8 = .ok (.iaload, 1) := by decide +kernel
theorem dL_cell_9 : decode cL_cell 9 = .ok (.goto 15, 3) := by decide +kernel
theorem dL_cell_12 : decode cL_cell 12 = .ok (.sipush 7919, 3) := by decide +kernel
theorem dL_cell_15 : decode cL_cell 15 = .ok (.iload_n 1, 1) := by decide +kernel
theorem dL_cell_16 : decode cL_cell 16 = .ok (.iconst 3, 1) := by decide +kernel
theorem dL_cell_17 : decode cL_cell 17 = .ok (.iadd, 1) := by decide +kernel
theorem dL_cell_18 : decode cL_cell 18 = .ok (.imul, 1) := by decide +kernel
theorem dL_cell_19 : decode cL_cell 19 = .ok (.iload_n 1, 1) := by decide +kernel
theorem dL_cell_20 : decode cL_cell 20 = .ok (.bipush 11, 2) := by decide +kernel
theorem dL_cell_22 : decode cL_cell 22 = .ok (.iadd, 1) := by decide +kernel
theorem dL_cell_23 : decode cL_cell 23 = .ok (.imul, 1) := by decide +kernel
theorem dL_cell_24 : decode cL_cell 24 = .ok (.ireturn, 1) := by decide +kernel
theorem dL_low_0 : decode cL_low 0 = .ok (.iload_n 0, 1) := by decide +kernel
theorem dL_low_1 : decode cL_low 1 = .ok (.ldc 7, 2) := by decide +kernel
theorem dL_low_3 : decode cL_low 3 = .ok (.iand, 1) := by decide +kernel
theorem dL_low_4 : decode cL_low 4 = .ok (.iload_n 1, 1) := by decide +kernel
theorem dL_low_5 : decode cL_low 5 = .ok (.irem, 1) := by decide +kernel
theorem dL_low_6 : decode cL_low 6 = .ok (.ireturn, 1) := by decide +kernel
theorem dL_digest_0 : decode cL_digest 0 = .ok (.ldc2_w 8, 3) := by decide +kernel
theorem dL_digest_3 : decode cL_digest 3 = .ok (.lstore_n 1, 1) := by decide +kernel
theorem dL_digest_4 : decode cL_digest 4 = .ok (.iconst 0, 1) := by decide +kernel
theorem dL_digest_5 : decode cL_digest 5 = .ok (.istore_n 3, 1) := by decide +kernel
theorem dL_digest_6 : decode cL_digest 6 = .ok (.iload_n 3, 1) := by decide +kernel
theorem dL_digest_7 : decode cL_digest 7 = .ok (.bipush 14, 2) := by decide +kernel
theorem dL_digest_9 : decode cL_digest 9 = .ok (.if_icmp .ge 22, 3) := by decide +kernel
theorem dL_digest_12 : decode cL_digest 12 = .ok (.ldc2_w 10, 3) := by decide +kernel
theorem dL_digest_15 : decode cL_digest 15 = .ok (.lload_n 1, 1) := by decide +kernel
theorem dL_digest_16 : decode cL_digest 16 = .ok (.lmul, 1) := by decide +kernel
theorem dL_digest_17 : decode cL_digest 17 = .ok (.aload_n 0, 1) := by decide +kernel
theorem dL_digest_18 : decode cL_digest 18 = .ok (.iload_n 3, 1) := by decide +kernel
theorem dL_digest_19 : decode cL_digest 19 = .ok (.invokevirtual 12, 3) := by decide +kernel
theorem dL_digest_22 : decode cL_digest 22 = .ok (.i2l, 1) := by decide +kernel
theorem dL_digest_23 : decode cL_digest 23 = .ok (.ladd, 1) := by decide +kernel
theorem dL_digest_24 : decode cL_digest 24 = .ok (.lstore_n 1, 1) := by decide +kernel
theorem dL_digest_25 : decode cL_digest 25 = .ok (.iinc 3 1, 3) := by decide +kernel
theorem dL_digest_28 : decode cL_digest 28 = .ok (.goto (-22), 3) := by decide +kernel
theorem dL_digest_31 : decode cL_digest 31 = .ok (.iconst 0, 1) := by decide +kernel
theorem dL_digest_32 : decode cL_digest 32 = .ok (.istore_n 3, 1) := by decide +kernel
theorem dL_digest_33 : decode cL_digest 33 = .ok (.iload_n 3, 1) := by decide +kernel
theorem dL_digest_34 : decode cL_digest 34 = .ok (.aload_n 0, 1) := by decide +kernel
theorem dL_digest_35 : decode cL_digest 35 = .ok (.iconst 4, 1) := by decide +kernel
theorem dL_digest_36 : decode cL_digest 36 = .ok (.invokevirtual 12, 3) := by decide +kernel
theorem dL_digest_39 : decode cL_digest 39 = .ok (.if_icmp .ge 40, 3) := by decide +kernel
theorem dL_digest_42 : decode cL_digest 42 = .ok (.iconst 0, 1) := by decide +kernel
theorem dL_digest_43 : decode cL_digest 43 = .ok (.istore 4, 2) := by decide +kernel
theorem dL_digest_45 : decode cL_digest 45 = .ok (.iload 4, 2) := by decide +kernel
theorem dL_digest_47 : decode cL_digest 47 = .ok (.bipush 7, 2) := by decide +kernel
theorem dL_digest_49 : decode cL_digest 49 = .ok (.if_icmp .ge 24, 3) := by decide +kernel
theorem dL_digest_52 : decode cL_digest 52 = .ok (.ldc2_w 10, 3) := by decide +kernel
theorem dL_digest_55 : decode cL_digest 55 = .ok (.lload_n 1, 1) := by decide +kernel
theorem dL_digest_56 : decode cL_digest 56 = .ok (.lmul, 1) := by decide +kernel
theorem dL_digest_57 : decode cL_digest 57 = .ok (.aload_n 0, 1) := by decide +kernel
theorem dL_digest_58 : decode cL_digest 58 = .ok (.iload_n 3, 1) := by decide +kernel
theorem dL_digest_59 : decode cL_digest 59 = .ok (.iload 4, 2) := by decide +kernel
theorem dL_digest_61 : decode cL_digest 61 = .ok (.invokevirtual 18, 3) := by decide +kernel
theorem dL_digest_64 : decode cL_digest 64 = .ok (.i2l, 1) := by decide +kernel
theorem dL_digest_65 : decode cL_digest 65 = .ok (.ladd, 1) := by decide +kernel
theorem dL_digest_66 : decode cL_digest 66 = .ok (.lstore_n 1, 1) := by decide +kernel
theorem dL_digest_67 : decode cL_digest 67 = .ok (.iinc 4 1, 3) := by decide +kernel
theorem dL_digest_70 : decode cL_digest 70 = .ok (.goto (-25), 3) := by decide +kernel
theorem dL_digest_73 : decode cL_digest 73 = .ok (.iinc 3 1, 3) := by decide +kernel
theorem dL_digest_76 : decode cL_digest 76 = .ok (.goto (-43), 3) := by decide +kernel
theorem dL_digest_79 : decode cL_digest 79 = .ok (.iconst 0, 1) := by decide +kernel
theorem dL_digest_80 : decode cL_digest 80 = .ok (.istore_n 3, 1) := by decide +kernel
theorem dL_digest_81 : decode cL_digest 81 = .ok (.iload_n 3, 1) := by decide +kernel
theorem dL_digest_82 : decode cL_digest 82 = .ok (.aload_n 0, 1) := by decide +kernel
theorem dL_digest_83 : decode cL_digest 83 = .ok (.bipush 6, 2) := by decide +kernel
theorem dL_digest_85 : decode cL_digest 85 = .ok (.invokevirtual 12, 3) := by decide +kernel
theorem dL_digest_88 : decode cL_digest 88 = .ok (.if_icmp .ge 66, 3) := by decide +kernel
theorem dL_digest_91 : decode cL_digest 91 = .ok (.iconst 0, 1) := by decide +kernel
theorem dL_digest_92 : decode cL_digest 92 = .ok (.istore 4, 2) := by decide +kernel
theorem dL_digest_94 : decode cL_digest 94 = .ok (.iload 4, 2) := by decide +kernel
theorem dL_digest_96 : decode cL_digest 96 = .ok (.bipush 8, 2) := by decide +kernel
theorem dL_digest_98 : decode cL_digest 98 = .ok (.if_icmp .ge 24, 3) := by decide +kernel
theorem dL_digest_101 : decode cL_digest 101 = .ok (.ldc2_w 10, 3) := by decide +kernel
theorem dL_digest_104 : decode cL_digest 104 = .ok (.lload_n 1, 1) := by decide +kernel
theorem dL_digest_105 : decode cL_digest 105 = .ok (.lmul, 1) := by decide +kernel
theorem dL_digest_106 : decode cL_digest 106 = .ok (.aload_n 0, 1) := by decide +kernel
theorem dL_digest_107 : decode cL_digest 107 = .ok (.iload_n 3, 1) := by decide +kernel
theorem dL_digest_108 : decode cL_digest 108 = .ok (.iload 4, 2) := by decide +kernel
theorem dL_digest_110 : decode cL_digest 110 = .ok (.invokevirtual 22, 3) := by decide +kernel
theorem dL_digest_113 : decode cL_digest 113 = .ok (.i2l, 1) := by decide +kernel
theorem dL_digest_114 : decode cL_digest 114 = .ok (.ladd, 1) := by decide +kernel
theorem dL_digest_115 : decode cL_digest 115 = .ok (.lstore_n 1, 1) := by decide +kernel
theorem dL_digest_116 : decode cL_digest 116 = .ok (.iinc 4 1, 3) := by decide +kernel
theorem dL_digest_119 : decode cL_digest 119 = .ok (.goto (-25), 3) := by decide +kernel
theorem dL_digest_122 : decode cL_digest 122 = .ok (.ldc2_w 10, 3) := by decide +kernel
theorem dL_digest_125 : decode cL_digest 125 = .ok (.lload_n 1, 1) := by decide +kernel
theorem dL_digest_126 : decode cL_digest 126 = .ok (.lmul, 1) := by decide +kernel
theorem dL_digest_127 : decode cL_digest 127 = .ok (.aload_n 0, 1) := by decide +kernel
theorem dL_digest_128 : decode cL_digest 128 = .ok (.iload_n 3, 1) := by decide +kernel
theorem dL_digest_129 : decode cL_digest 129 = .ok (.iconst 0, 1) := by decide +kernel
theorem dL_digest_130 : decode cL_digest 130 = .ok (.invokevirtual 25, 3) := by decide +kernel
theorem dL_digest_133 : decode cL_digest 133 = .ok (.i2l, 1) := by decide +kernel
theorem dL_digest_134 : decode cL_digest 134 = .ok (.ladd, 1) := by decide +kernel
theorem dL_digest_135 : decode cL_digest 135 = .ok (.ldc2_w 28, 3) := by decide +kernel
theorem dL_digest_138 : decode cL_digest 138 = .ok (.aload_n 0, 1) := by decide +kernel
theorem dL_digest_139 : decode cL_digest 139 = .ok (.iload_n 3, 1) := by decide +kernel
theorem dL_digest_140 : decode cL_digest 140 = .ok (.iconst 1, 1) := by decide +kernel
theorem dL_digest_141 : decode cL_digest 141 = .ok (.invokevirtual 25, 3) := by decide +kernel
theorem dL_digest_144 : decode cL_digest 144 = .ok (.i2l, 1) := by decide +kernel
theorem dL_digest_145 : decode cL_digest 145 = .ok (.lmul, 1) := by decide +kernel
theorem dL_digest_146 : decode cL_digest 146 = .ok (.ladd, 1) := by decide +kernel
theorem dL_digest_147 : decode cL_digest 147 = .ok (.lstore_n 1, 1) := by decide +kernel
theorem dL_digest_148 : decode cL_digest 148 = .ok (.iinc 3 1, 3) := by decide +kernel
theorem dL_digest_151 : decode cL_digest 151 = .ok (.goto (-70), 3) := by decide +kernel
theorem dL_digest_154 : decode cL_digest 154 = .ok (.iconst 0, 1) := by decide +kernel
theorem dL_digest_155 : decode cL_digest 155 = .ok (.istore_n 3, 1) := by decide +kernel
theorem dL_digest_156 : decode cL_digest 156 = .ok (.iload_n 3, 1) := by decide +kernel
theorem dL_digest_157 : decode cL_digest 157 = .ok (.aload_n 0, 1) := by decide +kernel
theorem dL_digest_158 : decode cL_digest 158 = .ok (.iconst 5, 1) := by decide +kernel
theorem dL_digest_159 : decode cL_digest 159 = .ok (.invokevirtual 12, 3) := by decide +kernel
theorem dL_digest_162 : decode cL_digest 162 = .ok (.if_icmp .ge 39, 3) := by decide +kernel
theorem dL_digest_165 : decode cL_digest 165 = .ok (.iconst 0, 1) := by decide +kernel
theorem dL_digest_166 : decode cL_digest 166 = .ok (.istore 4, 2) := by decide +kernel
theorem dL_digest_168 : decode cL_digest 168 = .ok (.iload 4, 2) := by decide +kernel
theorem dL_digest_170 : decode cL_digest 170 = .ok (.iconst 5, 1) := by decide +kernel
theorem dL_digest_171 : decode cL_digest 171 = .ok (.if_icmp .ge 24, 3) := by decide +kernel
theorem dL_digest_174 : decode cL_digest 174 = .ok (.ldc2_w 10, 3) := by decide +kernel
theorem dL_digest_177 : decode cL_digest 177 = .ok (.lload_n 1, 1) := by decide +kernel
theorem dL_digest_178 : decode cL_digest 178 = .ok (.lmul, 1) := by decide +kernel
theorem dL_digest_179 : decode cL_digest 179 = .ok (.aload_n 0, 1) := by decide +kernel
theorem dL_digest_180 : decode cL_digest 180 = .ok (.iload_n 3, 1) := by decide +kernel
theorem dL_digest_181 : decode cL_digest 181 = .ok (.iload 4, 2) := by decide +kernel
theorem dL_digest_183 : decode cL_digest 183 = .ok (.invokevirtual 30, 3) := by decide +kernel
theorem dL_digest_186 : decode cL_digest 186 = .ok (.i2l, 1) := by decide +kernel
theorem dL_digest_187 : decode cL_digest 187 = .ok (.ladd, 1) := by decide +kernel
theorem dL_digest_188 : decode cL_digest 188 = .ok (.lstore_n 1, 1) := by decide +kernel
theorem dL_digest_189 : decode cL_digest 189 = .ok (.iinc 4 1, 3) := by decide +kernel
theorem dL_digest_192 : decode cL_digest 192 = .ok (.goto (-24), 3) := by decide +kernel
theorem dL_digest_195 : decode cL_digest 195 = .ok (.iinc 3 1, 3) := by decide +kernel
theorem dL_digest_198 : decode cL_digest 198 = .ok (.goto (-42), 3) := by decide +kernel
theorem dL_digest_201 : decode cL_digest 201 = .ok (.lload_n 1, 1) := by decide +kernel
theorem dL_digest_202 : decode cL_digest 202 = .ok (.lreturn, 1) := by decide +kernel
theorem dL_act_0 : decode cL_act 0 = .ok (.iload_n 1, 1) := by decide +kernel
theorem dL_act_1 : decode cL_act 1 = .ok (.iconst 5, 1) := by decide +kernel
theorem dL_act_2 : decode cL_act 2 = .ok (.ishr, 1) := by decide +kernel
theorem dL_act_3 : decode cL_act 3 = .ok (.aload_n 0, 1) := by decide +kernel
theorem dL_act_4 : decode cL_act 4 = .ok (.iconst 4, 1) := by decide +kernel
theorem dL_act_5 : decode cL_act 5 = .ok (.invokevirtual 12, 3) := by decide +kernel
theorem dL_act_8 : decode cL_act 8 = .ok (.invokestatic 33, 3) := by decide +kernel
theorem dL_act_11 : decode cL_act 11 = .ok (.istore_n 2, 1) := by decide +kernel
theorem dL_act_12 : decode cL_act 12 = .ok (.iload_n 1, 1) := by decide +kernel
theorem dL_act_13 : decode cL_act 13 = .ok (.iconst 5, 1) := by decide +kernel
theorem dL_act_14 : decode cL_act 14 = .ok (.ishr, 1) := by decide +kernel
theorem dL_act_15 : decode cL_act 15 = .ok (.aload_n 0, 1) := by decide +kernel
theorem dL_act_16 : decode cL_act 16 = .ok (.bipush 6, 2) := by decide +kernel
theorem dL_act_18 : decode cL_act 18 = .ok (.invokevirtual 12, 3) := by decide +kernel
theorem dL_act_21 : decode cL_act 21 = .ok (.iconst 1, 1) := by decide +kernel
theorem dL_act_22 : decode cL_act 22 = .ok (.iadd, 1) := by decide +kernel
theorem dL_act_23 : decode cL_act 23 = .ok (.invokestatic 33, 3) := by decide +kernel
theorem dL_act_26 : decode cL_act 26 = .ok (.istore_n 3, 1) := by decide +kernel
theorem dL_act_27 : decode cL_act 27 = .ok (.iload_n 1, 1) := by decide +kernel
theorem dL_act_28 : decode cL_act 28 = .ok (.bipush 15, 2) := by decide +kernel
theorem dL_act_30 : decode cL_act 30 = .ok (.iand, 1) := by decide +kernel
theorem dL_act_31 : decode cL_act 31 = .ok (.tableswitch 263 0 12 #[65, 92, 92, 92, 92, 187, 193, 199, 210, 216, 243, 243, 248], 65) := by decide +kernel
theorem dL_act_96 : decode cL_act 96 = .ok (.aload_n 0, 1) := by decide +kernel
theorem dL_act_97 : decode cL_act 97 = .ok (.bipush 15, 2) := by decide +kernel
theorem dL_act_99 : decode cL_act 99 = .ok (.iload_n 1, 1) := by decide +kernel
theorem dL_act_100 : decode cL_act 100 = .ok (.iconst 4, 1) := by decide +kernel
theorem dL_act_101 : decode cL_act 101 = .ok (.ishr, 1) := by decide +kernel
theorem dL_act_102 : decode cL_act 102 = .ok (.bipush 100, 2) := by decide +kernel
theorem dL_act_104 : decode cL_act 104 = .ok (.invokestatic 33, 3) := by decide +kernel
theorem dL_act_107 : decode cL_act 107 = .ok (.iadd, 1) := by decide +kernel
theorem dL_act_108 : decode cL_act 108 = .ok (.iconst 5, 1) := by decide +kernel
theorem dL_act_109 : decode cL_act 109 = .ok (.iload_n 1, 1) := by decide +kernel
theorem dL_act_110 : decode cL_act 110 = .ok (.bipush 12, 2) := by decide +kernel
theorem dL_act_112 : decode cL_act 112 = .ok (.ishr, 1) := by decide +kernel
theorem dL_act_113 : decode cL_act 113 = .ok (.bipush 14, 2) := by decide +kernel
theorem dL_act_115 : decode cL_act 115 = .ok (.invokestatic 33, 3) := by decide +kernel
theorem dL_act_118 : decode cL_act 118 = .ok (.iadd, 1) := by decide +kernel
theorem dL_act_119 : decode cL_act 119 = .ok (.invokevirtual 38, 3) := by decide +kernel
theorem dL_act_122 : decode cL_act 122 = .ok (.ireturn, 1) := by decide +kernel
theorem dL_act_123 : decode cL_act 123 = .ok (.iconst 1, 1) := by decide +kernel
theorem dL_act_124 : decode cL_act 124 = .ok (.iload_n 1, 1) := by decide +kernel
theorem dL_act_125 : decode cL_act 125 = .ok (.bipush 20, 2) := by decide +kernel
theorem dL_act_127 : decode cL_act 127 = .ok (.ishr, 1) := by decide +kernel
theorem dL_act_128 : decode cL_act 128 = .ok (.iconst 5, 1) := by decide +kernel
theorem dL_act_129 : decode cL_act 129 = .ok (.invokestatic 33, 3) := by decide +kernel
theorem dL_act_132 : decode cL_act 132 = .ok (.iadd, 1) := by decide +kernel
theorem dL_act_133 : decode cL_act 133 = .ok (.istore 4, 2) := by decide +kernel
theorem dL_act_135 : decode cL_act 135 = .ok (.iload 4, 2) := by decide +kernel
theorem dL_act_137 : decode cL_act 137 = .ok (.ifCond .le 28, 3) := by decide +kernel
theorem dL_act_140 : decode cL_act 140 = .ok (.aload_n 0, 1) := by decide +kernel
theorem dL_act_141 : decode cL_act 141 = .ok (.bipush 97, 2) := by decide +kernel
theorem dL_act_143 : decode cL_act 143 = .ok (.iload_n 1, 1) := by decide +kernel
theorem dL_act_144 : decode cL_act 144 = .ok (.iconst 3, 1) := by decide +kernel
theorem dL_act_145 : decode cL_act 145 = .ok (.iload 4, 2) := by decide +kernel
theorem dL_act_147 : decode cL_act 147 = .ok (.imul, 1) := by decide +kernel
theorem dL_act_148 : decode cL_act 148 = .ok (.iadd, 1) := by decide +kernel
theorem dL_act_149 : decode cL_act 149 = .ok (.bipush 26, 2) := by decide +kernel
theorem dL_act_151 : decode cL_act 151 = .ok (.invokestatic 33, 3) := by decide +kernel
theorem dL_act_154 : decode cL_act 154 = .ok (.iadd, 1) := by decide +kernel
theorem dL_act_155 : decode cL_act 155 = .ok (.invokevirtual 41, 3) := by decide +kernel
theorem dL_act_158 : decode cL_act 158 = .ok (.pop, 1) := by decide +kernel
theorem dL_act_159 : decode cL_act 159 = .ok (.iinc 4 (-1), 3) := by decide +kernel
theorem dL_act_162 : decode cL_act 162 = .ok (.goto (-27), 3) := by decide +kernel
theorem dL_act_165 : decode cL_act 165 = .ok (.aload_n 0, 1) := by decide +kernel
theorem dL_act_166 : decode cL_act 166 = .ok (.iload_n 1, 1) := by decide +kernel
theorem dL_act_167 : decode cL_act 167 = .ok (.iconst 5, 1) := by decide +kernel
theorem dL_act_168 : decode cL_act 168 = .ok (.ishr, 1) := by decide +kernel
theorem dL_act_169 : decode cL_act 169 = .ok (.aload_n 0, 1) := by decide +kernel
theorem dL_act_170 : decode cL_act 170 = .ok (.iconst 5, 1) := by decide +kernel
theorem dL_act_171 : decode cL_act 171 = .ok (.invokevirtual 12, 3) := by decide +kernel
theorem dL_act_174 : decode cL_act 174 = .ok (.invokestatic 33, 3) := by decide +kernel
theorem dL_act_177 : decode cL_act 177 = .ok (.iconst 1, 1) := by decide +kernel
theorem dL_act_178 : decode cL_act 178 = .ok (.iload_n 1, 1) := by decide +kernel
theorem dL_act_179 : decode cL_act 179 = .ok (.bipush 8, 2) := by decide +kernel
theorem dL_act_181 : decode cL_act 181 = .ok (.ishr, 1) := by decide +kernel
theorem dL_act_182 : decode cL_act 182 = .ok (.bipush 12, 2) := by decide +kernel
theorem dL_act_184 : decode cL_act 184 = .ok (.invokestatic 33, 3) := by decide +kernel
theorem dL_act_187 : decode cL_act 187 = .ok (.iadd, 1) := by decide +kernel
theorem dL_act_188 : decode cL_act 188 = .ok (.iconst 1, 1) := by decide +kernel
theorem dL_act_189 : decode cL_act 189 = .ok (.iload_n 1, 1) := by decide +kernel
theorem dL_act_190 : decode cL_act 190 = .ok (.bipush 12, 2) := by decide +kernel
theorem dL_act_192 : decode cL_act 192 = .ok (.ishr, 1) := by decide +kernel
theorem dL_act_193 : decode cL_act 193 = .ok (.iconst 3, 1) := by decide +kernel
theorem dL_act_194 : decode cL_act 194 = .ok (.invokestatic 33, 3) := by decide +kernel
theorem dL_act_197 : decode cL_act 197 = .ok (.iadd, 1) := by decide +kernel
theorem dL_act_198 : decode cL_act 198 = .ok (.iconst 1, 1) := by decide +kernel
theorem dL_act_199 : decode cL_act 199 = .ok (.iload_n 1, 1) := by decide +kernel
theorem dL_act_200 : decode cL_act 200 = .ok (.bipush 14, 2) := by decide +kernel
theorem dL_act_202 : decode cL_act 202 = .ok (.ishr, 1) := by decide +kernel
theorem dL_act_203 : decode cL_act 203 = .ok (.iconst 4, 1) := by decide +kernel
theorem dL_act_204 : decode cL_act 204 = .ok (.invokestatic 33, 3) := by decide +kernel
theorem dL_act_207 : decode cL_act 207 = .ok (.iadd, 1) := by decide +kernel
theorem dL_act_208 : decode cL_act 208 = .ok (.iload_n 1, 1) := by decide +kernel
theorem dL_act_209 : decode cL_act 209 = .ok (.bipush 17, 2) := by decide +kernel
theorem dL_act_211 : decode cL_act 211 = .ok (.ishr, 1) := by decide +kernel
theorem dL_act_212 : decode cL_act 212 = .ok (.iconst 1, 1) := by decide +kernel
theorem dL_act_213 : decode cL_act 213 = .ok (.iand, 1) := by decide +kernel
theorem dL_act_214 : decode cL_act 214 = .ok (.invokevirtual 44, 3) := by decide +kernel
theorem dL_act_217 : decode cL_act 217 = .ok (.ireturn, 1) := by decide +kernel
theorem dL_act_218 : decode cL_act 218 = .ok (.aload_n 0, 1) := by decide +kernel
theorem dL_act_219 : decode cL_act 219 = .ok (.iload_n 3, 1) := by decide +kernel
theorem dL_act_220 : decode cL_act 220 = .ok (.invokevirtual 48, 3) := by decide +kernel
theorem dL_act_223 : decode cL_act 223 = .ok (.ireturn, 1) := by decide +kernel
theorem dL_act_224 : decode cL_act 224 = .ok (.aload_n 0, 1) := by decide +kernel
theorem dL_act_225 : decode cL_act 225 = .ok (.iload_n 3, 1) := by decide +kernel
theorem dL_act_226 : decode cL_act 226 = .ok (.invokevirtual 51, 3) := by decide +kernel
theorem dL_act_229 : decode cL_act 229 = .ok (.ireturn, 1) := by decide +kernel
theorem dL_act_230 : decode cL_act 230 = .ok (.aload_n 0, 1) := by decide +kernel
theorem dL_act_231 : decode cL_act 231 = .ok (.iload_n 2, 1) := by decide +kernel
theorem dL_act_232 : decode cL_act 232 = .ok (.iload_n 1, 1) := by decide +kernel
theorem dL_act_233 : decode cL_act 233 = .ok (.iconst 4, 1) := by decide +kernel
theorem dL_act_234 : decode cL_act 234 = .ok (.ishr, 1) := by decide +kernel
theorem dL_act_235 : decode cL_act 235 = .ok (.iconst 1, 1) := by decide +kernel
theorem dL_act_236 : decode cL_act 236 = .ok (.iand, 1) := by decide +kernel
theorem dL_act_237 : decode cL_act 237 = .ok (.invokevirtual 54, 3) := by decide +kernel
theorem dL_act_240 : decode cL_act 240 = .ok (.ireturn, 1) := by decide +kernel
theorem dL_act_241 : decode cL_act 241 = .ok (.aload_n 0, 1) := by decide +kernel
theorem dL_act_242 : decode cL_act 242 = .ok (.iload_n 2, 1) := by decide +kernel
theorem dL_act_243 : decode cL_act 243 = .ok (.invokevirtual 57, 3) := by decide +kernel
theorem dL_act_246 : decode cL_act 246 = .ok (.ireturn, 1) := by decide +kernel
theorem dL_act_247 : decode cL_act 247 = .ok (.aload_n 0, 1) := by decide +kernel
theorem dL_act_248 : decode cL_act 248 = .ok (.iload_n 1, 1) := by decide +kernel
theorem dL_act_249 : decode cL_act 249 = .ok (.iconst 5, 1) := by decide +kernel
theorem dL_act_250 : decode cL_act 250 = .ok (.ishr, 1) := by decide +kernel
theorem dL_act_251 : decode cL_act 251 = .ok (.aload_n 0, 1) := by decide +kernel
theorem dL_act_252 : decode cL_act 252 = .ok (.iconst 5, 1) := by decide +kernel
theorem dL_act_253 : decode cL_act 253 = .ok (.invokevirtual 12, 3) := by decide +kernel
theorem dL_act_256 : decode cL_act 256 = .ok (.invokestatic 33, 3) := by decide +kernel
theorem dL_act_259 : decode cL_act 259 = .ok (.iconst 1, 1) := by decide +kernel
theorem dL_act_260 : decode cL_act 260 = .ok (.iload_n 1, 1) := by decide +kernel
theorem dL_act_261 : decode cL_act 261 = .ok (.bipush 8, 2) := by decide +kernel
theorem dL_act_263 : decode cL_act 263 = .ok (.ishr, 1) := by decide +kernel
theorem dL_act_264 : decode cL_act 264 = .ok (.bipush 12, 2) := by decide +kernel
theorem dL_act_266 : decode cL_act 266 = .ok (.invokestatic 33, 3) := by decide +kernel
theorem dL_act_269 : decode cL_act 269 = .ok (.iadd, 1) := by decide +kernel
theorem dL_act_270 : decode cL_act 270 = .ok (.invokevirtual 60, 3) := by decide +kernel
theorem dL_act_273 : decode cL_act 273 = .ok (.ireturn, 1) := by decide +kernel
theorem dL_act_274 : decode cL_act 274 = .ok (.aload_n 0, 1) := by decide +kernel
theorem dL_act_275 : decode cL_act 275 = .ok (.invokevirtual 63, 3) := by decide +kernel
theorem dL_act_278 : decode cL_act 278 = .ok (.ireturn, 1) := by decide +kernel
theorem dL_act_279 : decode cL_act 279 = .ok (.aload_n 0, 1) := by decide +kernel
theorem dL_act_280 : decode cL_act 280 = .ok (.iconst 1, 1) := by decide +kernel
theorem dL_act_281 : decode cL_act 281 = .ok (.iload_n 1, 1) := by decide +kernel
theorem dL_act_282 : decode cL_act 282 = .ok (.iconst 5, 1) := by decide +kernel
theorem dL_act_283 : decode cL_act 283 = .ok (.ishr, 1) := by decide +kernel
theorem dL_act_284 : decode cL_act 284 = .ok (.bipush 9, 2) := by decide +kernel
theorem dL_act_286 : decode cL_act 286 = .ok (.invokestatic 33, 3) := by decide +kernel
theorem dL_act_289 : decode cL_act 289 = .ok (.iadd, 1) := by decide +kernel
theorem dL_act_290 : decode cL_act 290 = .ok (.invokevirtual 67, 3) := by decide +kernel
theorem dL_act_293 : decode cL_act 293 = .ok (.ireturn, 1) := by decide +kernel
theorem dL_act_294 : decode cL_act 294 = .ok (.aload_n 0, 1) := by decide +kernel
theorem dL_act_295 : decode cL_act 295 = .ok (.bipush 20, 2) := by decide +kernel
theorem dL_act_297 : decode cL_act 297 = .ok (.iload_n 1, 1) := by decide +kernel
theorem dL_act_298 : decode cL_act 298 = .ok (.iconst 5, 1) := by decide +kernel
theorem dL_act_299 : decode cL_act 299 = .ok (.ishr, 1) := by decide +kernel
theorem dL_act_300 : decode cL_act 300 = .ok (.bipush 60, 2) := by decide +kernel
theorem dL_act_302 : decode cL_act 302 = .ok (.invokestatic 33, 3) := by decide +kernel
theorem dL_act_305 : decode cL_act 305 = .ok (.iadd, 1) := by decide +kernel
theorem dL_act_306 : decode cL_act 306 = .ok (.invokevirtual 67, 3) := by decide +kernel
theorem dL_act_309 : decode cL_act 309 = .ok (.ireturn, 1) := by decide +kernel
theorem dL_isRight_0 : decode cL_isRight 0 = .ok (.iconst 0, 1) := by decide +kernel
theorem dL_isRight_1 : decode cL_isRight 1 = .ok (.istore_n 1, 1) := by decide +kernel
theorem dL_isRight_2 : decode cL_isRight 2 = .ok (.iconst 0, 1) := by decide +kernel
theorem dL_isRight_3 : decode cL_isRight 3 = .ok (.istore_n 2, 1) := by decide +kernel
theorem dL_isRight_4 : decode cL_isRight 4 = .ok (.iconst 0, 1) := by decide +kernel
theorem dL_isRight_5 : decode cL_isRight 5 = .ok (.istore_n 3, 1) := by decide +kernel
theorem dL_isRight_6 : decode cL_isRight 6 = .ok (.iload_n 3, 1) := by decide +kernel
theorem dL_isRight_7 : decode cL_isRight 7 = .ok (.aload_n 0, 1) := by decide +kernel
theorem dL_isRight_8 : decode cL_isRight 8 = .ok (.iconst 5, 1) := by decide +kernel
theorem dL_isRight_9 : decode cL_isRight 9 = .ok (.invokevirtual 12, 3) := by decide +kernel
theorem dL_isRight_12 : decode cL_isRight 12 = .ok (.if_icmp .ge 201, 3) := by decide +kernel
theorem dL_isRight_15 : decode cL_isRight 15 = .ok (.iconst 0, 1) := by decide +kernel
theorem dL_isRight_16 : decode cL_isRight 16 = .ok (.istore 4, 2) := by decide +kernel
theorem dL_isRight_18 : decode cL_isRight 18 = .ok (.iconst 1, 1) := by decide +kernel
theorem dL_isRight_19 : decode cL_isRight 19 = .ok (.istore 5, 2) := by decide +kernel
theorem dL_isRight_21 : decode cL_isRight 21 = .ok (.iload 5, 2) := by decide +kernel
theorem dL_isRight_23 : decode cL_isRight 23 = .ok (.bipush 13, 2) := by decide +kernel
theorem dL_isRight_25 : decode cL_isRight 25 = .ok (.if_icmp .ge 75, 3) := by decide +kernel
theorem dL_isRight_28 : decode cL_isRight 28 = .ok (.aload_n 0, 1) := by decide +kernel
theorem dL_isRight_29 : decode cL_isRight 29 = .ok (.iload_n 3, 1) := by decide +kernel
theorem dL_isRight_30 : decode cL_isRight 30 = .ok (.iload 5, 2) := by decide +kernel
theorem dL_isRight_32 : decode cL_isRight 32 = .ok (.invokevirtual 70, 3) := by decide +kernel
theorem dL_isRight_35 : decode cL_isRight 35 = .ok (.istore 6, 2) := by decide +kernel
theorem dL_isRight_37 : decode cL_isRight 37 = .ok (.iload 4, 2) := by decide +kernel
theorem dL_isRight_39 : decode cL_isRight 39 = .ok (.iload 6, 2) := by decide +kernel
theorem dL_isRight_41 : decode cL_isRight 41 = .ok (.ifCond .lt 7, 3) := by decide +kernel
theorem dL_isRight_44 : decode cL_isRight 44 = .ok (.iconst 1, 1) := by decide +kernel
theorem dL_isRight_45 : decode cL_isRight 45 = .ok (.goto 4, 3) := by decide +kernel
theorem dL_isRight_48 : decode cL_isRight 48 = .ok (.iconst 0, 1) := by decide +kernel
theorem dL_isRight_49 : decode cL_isRight 49 = .ok (.iadd, 1) := by decide +kernel
theorem dL_isRight_50 : decode cL_isRight 50 = .ok (.istore 4, 2) := by decide +kernel
theorem dL_isRight_52 : decode cL_isRight 52 = .ok (.iload 6, 2) := by decide +kernel
theorem dL_isRight_54 : decode cL_isRight 54 = .ok (.ifCond .lt 40, 3) := by decide +kernel
theorem dL_isRight_57 : decode cL_isRight 57 = .ok (.aload_n 0, 1) := by decide +kernel
theorem dL_isRight_58 : decode cL_isRight 58 = .ok (.iload 6, 2) := by decide +kernel
theorem dL_isRight_60 : decode cL_isRight 60 = .ok (.iconst 2, 1) := by decide +kernel
theorem dL_isRight_61 : decode cL_isRight 61 = .ok (.invokevirtual 18, 3) := by decide +kernel
theorem dL_isRight_64 : decode cL_isRight 64 = .ok (.iconst 2, 1) := by decide +kernel
theorem dL_isRight_65 : decode cL_isRight 65 = .ok (.if_icmp .ne 27, 3) := by decide +kernel
theorem dL_isRight_68 : decode cL_isRight 68 = .ok (.aload_n 0, 1) := by decide +kernel
theorem dL_isRight_69 : decode cL_isRight 69 = .ok (.iload 6, 2) := by decide +kernel
theorem dL_isRight_71 : decode cL_isRight 71 = .ok (.iconst 5, 1) := by decide +kernel
theorem dL_isRight_72 : decode cL_isRight 72 = .ok (.invokevirtual 18, 3) := by decide +kernel
theorem dL_isRight_75 : decode cL_isRight 75 = .ok (.iload_n 3, 1) := by decide +kernel
theorem dL_isRight_76 : decode cL_isRight 76 = .ok (.if_icmp .ne 16, 3) := by decide +kernel
theorem dL_isRight_79 : decode cL_isRight 79 = .ok (.aload_n 0, 1) := by decide +kernel
theorem dL_isRight_80 : decode cL_isRight 80 = .ok (.iload 6, 2) := by decide +kernel
theorem dL_isRight_82 : decode cL_isRight 82 = .ok (.bipush 6, 2) := by decide +kernel
theorem dL_isRight_84 : decode cL_isRight 84 = .ok (.invokevirtual 18, 3) := by decide +kernel
theorem dL_isRight_87 : decode cL_isRight 87 = .ok (.iload 5, 2) := by decide +kernel
theorem dL_isRight_89 : decode cL_isRight 89 = .ok (.if_icmp .eq 5, 3) := by decide +kernel
theorem dL_isRight_92 : decode cL_isRight 92 = .ok (.iconst 0, 1) := by decide +kernel
theorem dL_isRight_93 : decode cL_isRight 93 = .ok (.ireturn, 1) := by decide +kernel
theorem dL_isRight_94 : decode cL_isRight 94 = .ok (.iinc 5 1, 3) := by decide +kernel
theorem dL_isRight_97 : decode cL_isRight 97 = .ok (.goto (-76), 3) := by decide +kernel
theorem dL_isRight_100 : decode cL_isRight 100 = .ok (.aload_n 0, 1) := by decide +kernel
theorem dL_isRight_101 : decode cL_isRight 101 = .ok (.iload_n 3, 1) := by decide +kernel
theorem dL_isRight_102 : decode cL_isRight 102 = .ok (.iconst 2, 1) := by decide +kernel
theorem dL_isRight_103 : decode cL_isRight 103 = .ok (.invokevirtual 30, 3) := by decide +kernel
theorem dL_isRight_106 : decode cL_isRight 106 = .ok (.istore 5, 2) := by decide +kernel
theorem dL_isRight_108 : decode cL_isRight 108 = .ok (.aload_n 0, 1) := by decide +kernel
theorem dL_isRight_109 : decode cL_isRight 109 = .ok (.iload_n 3, 1) := by decide +kernel
theorem dL_isRight_110 : decode cL_isRight 110 = .ok (.iconst 3, 1) := by decide +kernel
theorem dL_isRight_111 : decode cL_isRight 111 = .ok (.invokevirtual 30, 3) := by decide +kernel
theorem dL_isRight_114 : decode cL_isRight 114 = .ok (.istore 6, 2) := by decide +kernel
theorem dL_isRight_116 : decode cL_isRight 116 = .ok (.iload 4, 2) := by decide +kernel
theorem dL_isRight_118 : decode cL_isRight 118 = .ok (.aload_n 0, 1) := by decide +kernel
theorem dL_isRight_119 : decode cL_isRight 119 = .ok (.iload_n 3, 1) := by decide +kernel
theorem dL_isRight_120 : decode cL_isRight 120 = .ok (.iconst 1, 1) := by decide +kernel
theorem dL_isRight_121 : decode cL_isRight 121 = .ok (.invokevirtual 30, 3) := by decide +kernel
theorem dL_isRight_124 : decode cL_isRight 124 = .ok (.if_icmp .ne 67, 3) := by decide +kernel
theorem dL_isRight_127 : decode cL_isRight 127 = .ok (.iload 4, 2) := by decide +kernel
theorem dL_isRight_129 : decode cL_isRight 129 = .ok (.aload_n 0, 1) := by decide +kernel
theorem dL_isRight_130 : decode cL_isRight 130 = .ok (.iload_n 3, 1) := by decide +kernel
theorem dL_isRight_131 : decode cL_isRight 131 = .ok (.iconst 0, 1) := by decide +kernel
theorem dL_isRight_132 : decode cL_isRight 132 = .ok (.invokevirtual 30, 3) := by decide +kernel
theorem dL_isRight_135 : decode cL_isRight 135 = .ok (.if_icmp .gt 56, 3) := by decide +kernel
theorem dL_isRight_138 : decode cL_isRight 138 = .ok (.aload_n 0, 1) := by decide +kernel
theorem dL_isRight_139 : decode cL_isRight 139 = .ok (.iload_n 3, 1) := by decide +kernel
theorem dL_isRight_140 : decode cL_isRight 140 = .ok (.iconst 4, 1) := by decide +kernel
theorem dL_isRight_141 : decode cL_isRight 141 = .ok (.invokevirtual 30, 3) := by decide +kernel
theorem dL_isRight_144 : decode cL_isRight 144 = .ok (.iload 4, 2) := by decide +kernel
theorem dL_isRight_146 : decode cL_isRight 146 = .ok (.ifCond .ne 7, 3) := by decide +kernel
theorem dL_isRight_149 : decode cL_isRight 149 = .ok (.iconst 0, 1) := by decide +kernel
theorem dL_isRight_150 : decode cL_isRight 150 = .ok (.goto 13, 3) := by decide +kernel
theorem dL_isRight_153 : decode cL_isRight 153 = .ok (.iload 6, 2) := by decide +kernel
theorem dL_isRight_155 : decode cL_isRight 155 = .ok (.iload 5, 2) := by decide +kernel
theorem dL_isRight_157 : decode cL_isRight 157 = .ok (.isub, 1) := by decide +kernel
theorem dL_isRight_158 : decode cL_isRight 158 = .ok (.iconst 1, 1) := by decide +kernel
theorem dL_isRight_159 : decode cL_isRight 159 = .ok (.iadd, 1) := by decide +kernel
theorem dL_isRight_160 : decode cL_isRight 160 = .ok (.iload 4, 2) := by decide +kernel
theorem dL_isRight_162 : decode cL_isRight 162 = .ok (.isub, 1) := by decide +kernel
theorem dL_isRight_163 : decode cL_isRight 163 = .ok (.if_icmp .ne 28, 3) := by decide +kernel
theorem dL_isRight_166 : decode cL_isRight 166 = .ok (.iload 4, 2) := by decide +kernel
theorem dL_isRight_168 : decode cL_isRight 168 = .ok (.ifCond .le 25, 3) := by decide +kernel
theorem dL_isRight_171 : decode cL_isRight 171 = .ok (.aload_n 0, 1) := by decide +kernel
theorem dL_isRight_172 : decode cL_isRight 172 = .ok (.iload_n 3, 1) := by decide +kernel
theorem dL_isRight_173 : decode cL_isRight 173 = .ok (.iload 5, 2) := by decide +kernel
theorem dL_isRight_175 : decode cL_isRight 175 = .ok (.invokevirtual 70, 3) := by decide +kernel
theorem dL_isRight_178 : decode cL_isRight 178 = .ok (.ifCond .lt 13, 3) := by decide +kernel
theorem dL_isRight_181 : decode cL_isRight 181 = .ok (.aload_n 0, 1) := by decide +kernel
theorem dL_isRight_182 : decode cL_isRight 182 = .ok (.iload_n 3, 1) := by decide +kernel
theorem dL_isRight_183 : decode cL_isRight 183 = .ok (.iload 6, 2) := by decide +kernel
theorem dL_isRight_185 : decode cL_isRight 185 = .ok (.invokevirtual 70, 3) := by decide +kernel
theorem dL_isRight_188 : decode cL_isRight 188 = .ok (.ifCond .ge 5, 3) := by decide +kernel
theorem dL_isRight_191 : decode cL_isRight 191 = .ok (.iconst 0, 1) := by decide +kernel
theorem dL_isRight_192 : decode cL_isRight 192 = .ok (.ireturn, 1) := by decide +kernel
theorem dL_isRight_193 : decode cL_isRight 193 = .ok (.iload_n 1, 1) := by decide +kernel
theorem dL_isRight_194 : decode cL_isRight 194 = .ok (.iload 4, 2) := by decide +kernel
theorem dL_isRight_196 : decode cL_isRight 196 = .ok (.iadd, 1) := by decide +kernel
theorem dL_isRight_197 : decode cL_isRight 197 = .ok (.istore_n 1, 1) := by decide +kernel
theorem dL_isRight_198 : decode cL_isRight 198 = .ok (.iload_n 2, 1) := by decide +kernel
theorem dL_isRight_199 : decode cL_isRight 199 = .ok (.aload_n 0, 1) := by decide +kernel
theorem dL_isRight_200 : decode cL_isRight 200 = .ok (.iload_n 3, 1) := by decide +kernel
theorem dL_isRight_201 : decode cL_isRight 201 = .ok (.iconst 0, 1) := by decide +kernel
theorem dL_isRight_202 : decode cL_isRight 202 = .ok (.invokevirtual 30, 3) := by decide +kernel
theorem dL_isRight_205 : decode cL_isRight 205 = .ok (.iadd, 1) := by decide +kernel
theorem dL_isRight_206 : decode cL_isRight 206 = .ok (.istore_n 2, 1) := by decide +kernel
theorem dL_isRight_207 : decode cL_isRight 207 = .ok (.iinc 3 1, 3) := by decide +kernel
theorem dL_isRight_210 : decode cL_isRight 210 = .ok (.goto (-204), 3) := by decide +kernel
theorem dL_isRight_213 : decode cL_isRight 213 = .ok (.iconst 0, 1) := by decide +kernel
theorem dL_isRight_214 : decode cL_isRight 214 = .ok (.istore_n 3, 1) := by decide +kernel
theorem dL_isRight_215 : decode cL_isRight 215 = .ok (.iload_n 3, 1) := by decide +kernel
theorem dL_isRight_216 : decode cL_isRight 216 = .ok (.aload_n 0, 1) := by decide +kernel
theorem dL_isRight_217 : decode cL_isRight 217 = .ok (.iconst 4, 1) := by decide +kernel
theorem dL_isRight_218 : decode cL_isRight 218 = .ok (.invokevirtual 12, 3) := by decide +kernel
theorem dL_isRight_221 : decode cL_isRight 221 = .ok (.if_icmp .ge 93, 3) := by decide +kernel
theorem dL_isRight_224 : decode cL_isRight 224 = .ok (.aload_n 0, 1) := by decide +kernel
theorem dL_isRight_225 : decode cL_isRight 225 = .ok (.iload_n 3, 1) := by decide +kernel
theorem dL_isRight_226 : decode cL_isRight 226 = .ok (.iconst 2, 1) := by decide +kernel
theorem dL_isRight_227 : decode cL_isRight 227 = .ok (.invokevirtual 18, 3) := by decide +kernel
theorem dL_isRight_230 : decode cL_isRight 230 = .ok (.istore 4, 2) := by decide +kernel
theorem dL_isRight_232 : decode cL_isRight 232 = .ok (.iload 4, 2) := by decide +kernel
theorem dL_isRight_234 : decode cL_isRight 234 = .ok (.iconst 3, 1) := by decide +kernel
theorem dL_isRight_235 : decode cL_isRight 235 = .ok (.if_icmp .eq 27, 3) := by decide +kernel
theorem dL_isRight_238 : decode cL_isRight 238 = .ok (.aload_n 0, 1) := by decide +kernel
theorem dL_isRight_239 : decode cL_isRight 239 = .ok (.iload_n 3, 1) := by decide +kernel
theorem dL_isRight_240 : decode cL_isRight 240 = .ok (.iconst 1, 1) := by decide +kernel
theorem dL_isRight_241 : decode cL_isRight 241 = .ok (.invokevirtual 18, 3) := by decide +kernel
theorem dL_isRight_244 : decode cL_isRight 244 = .ok (.iconst 2, 1) := by decide +kernel
theorem dL_isRight_245 : decode cL_isRight 245 = .ok (.aload_n 0, 1) := by decide +kernel
theorem dL_isRight_246 : decode cL_isRight 246 = .ok (.iload_n 3, 1) := by decide +kernel
theorem dL_isRight_247 : decode cL_isRight 247 = .ok (.iconst 3, 1) := by decide +kernel
theorem dL_isRight_248 : decode cL_isRight 248 = .ok (.invokevirtual 18, 3) := by decide +kernel
theorem dL_isRight_251 : decode cL_isRight 251 = .ok (.iadd, 1) := by decide +kernel
theorem dL_isRight_252 : decode cL_isRight 252 = .ok (.aload_n 0, 1) := by decide +kernel
theorem dL_isRight_253 : decode cL_isRight 253 = .ok (.iload_n 3, 1) := by decide +kernel
theorem dL_isRight_254 : decode cL_isRight 254 = .ok (.iconst 4, 1) := by decide +kernel
theorem dL_isRight_255 : decode cL_isRight 255 = .ok (.invokevirtual 18, 3) := by decide +kernel
theorem dL_isRight_258 : decode cL_isRight 258 = .ok (.iadd, 1) := by decide +kernel
theorem dL_isRight_259 : decode cL_isRight 259 = .ok (.if_icmp .lt 47, 3) := by decide +kernel
theorem dL_isRight_262 : decode cL_isRight 262 = .ok (.iload 4, 2) := by decide +kernel
theorem dL_isRight_264 : decode cL_isRight 264 = .ok (.iconst 1, 1) := by decide +kernel
theorem dL_isRight_265 : decode cL_isRight 265 = .ok (.if_icmp .ne 13, 3) := by decide +kernel
theorem dL_isRight_268 : decode cL_isRight 268 = .ok (.aload_n 0, 1) := by decide +kernel
theorem dL_isRight_269 : decode cL_isRight 269 = .ok (.bipush 10, 2) := by decide +kernel
theorem dL_isRight_271 : decode cL_isRight 271 = .ok (.invokevirtual 12, 3) := by decide +kernel
theorem dL_isRight_274 : decode cL_isRight 274 = .ok (.iload_n 3, 1) := by decide +kernel
theorem dL_isRight_275 : decode cL_isRight 275 = .ok (.if_icmp .ne 31, 3) := by decide +kernel
theorem dL_isRight_278 : decode cL_isRight 278 = .ok (.iload 4, 2) := by decide +kernel
theorem dL_isRight_280 : decode cL_isRight 280 = .ok (.iconst 2, 1) := by decide +kernel
theorem dL_isRight_281 : decode cL_isRight 281 = .ok (.if_icmp .ne 7, 3) := by decide +kernel
theorem dL_isRight_284 : decode cL_isRight 284 = .ok (.iconst 1, 1) := by decide +kernel
theorem dL_isRight_285 : decode cL_isRight 285 = .ok (.goto 4, 3) := by decide +kernel
theorem dL_isRight_288 : decode cL_isRight 288 = .ok (.iconst 0, 1) := by decide +kernel
theorem dL_isRight_289 : decode cL_isRight 289 = .ok (.aload_n 0, 1) := by decide +kernel
theorem dL_isRight_290 : decode cL_isRight 290 = .ok (.iload_n 3, 1) := by decide +kernel
theorem dL_isRight_291 : decode cL_isRight 291 = .ok (.iconst 5, 1) := by decide +kernel
theorem dL_isRight_292 : decode cL_isRight 292 = .ok (.invokevirtual 18, 3) := by decide +kernel
theorem dL_isRight_295 : decode cL_isRight 295 = .ok (.ifCond .lt 7, 3) := by decide +kernel
theorem dL_isRight_298 : decode cL_isRight 298 = .ok (.iconst 1, 1) := by decide +kernel
theorem dL_isRight_299 : decode cL_isRight 299 = .ok (.goto 4, 3) := by decide +kernel
theorem dL_isRight_302 : decode cL_isRight 302 = .ok (.iconst 0, 1) := by decide +kernel
theorem dL_isRight_303 : decode cL_isRight 303 = .ok (.if_icmp .eq 5, 3) := by decide +kernel
theorem dL_isRight_306 : decode cL_isRight 306 = .ok (.iconst 0, 1) := by decide +kernel
theorem dL_isRight_307 : decode cL_isRight 307 = .ok (.ireturn, 1) := by decide +kernel
theorem dL_isRight_308 : decode cL_isRight 308 = .ok (.iinc 3 1, 3) := by decide +kernel
theorem dL_isRight_311 : decode cL_isRight 311 = .ok (.goto (-96), 3) := by decide +kernel
theorem dL_isRight_314 : decode cL_isRight 314 = .ok (.iconst 0, 1) := by decide +kernel
theorem dL_isRight_315 : decode cL_isRight 315 = .ok (.istore_n 3, 1) := by decide +kernel
theorem dL_isRight_316 : decode cL_isRight 316 = .ok (.iconst 0, 1) := by decide +kernel
theorem dL_isRight_317 : decode cL_isRight 317 = .ok (.istore 4, 2) := by decide +kernel
theorem dL_isRight_319 : decode cL_isRight 319 = .ok (.iload 4, 2) := by decide +kernel
theorem dL_isRight_321 : decode cL_isRight 321 = .ok (.aload_n 0, 1) := by decide +kernel
theorem dL_isRight_322 : decode cL_isRight 322 = .ok (.bipush 6, 2) := by decide +kernel
theorem dL_isRight_324 : decode cL_isRight 324 = .ok (.invokevirtual 12, 3) := by decide +kernel
theorem dL_isRight_327 : decode cL_isRight 327 = .ok (.if_icmp .ge 152, 3) := by decide +kernel
theorem dL_isRight_330 : decode cL_isRight 330 = .ok (.iload_n 3, 1) := by decide +kernel
theorem dL_isRight_331 : decode cL_isRight 331 = .ok (.aload_n 0, 1) := by decide +kernel
theorem dL_isRight_332 : decode cL_isRight 332 = .ok (.iload 4, 2) := by decide +kernel
theorem dL_isRight_334 : decode cL_isRight 334 = .ok (.iconst 4, 1) := by decide +kernel
theorem dL_isRight_335 : decode cL_isRight 335 = .ok (.invokevirtual 22, 3) := by decide +kernel
theorem dL_isRight_338 : decode cL_isRight 338 = .ok (.iadd, 1) := by decide +kernel
theorem dL_isRight_339 : decode cL_isRight 339 = .ok (.istore_n 3, 1) := by decide +kernel
theorem dL_isRight_340 : decode cL_isRight 340 = .ok (.iload 4, 2) := by decide +kernel
theorem dL_isRight_342 : decode cL_isRight 342 = .ok (.ifCond .le 22, 3) := by decide +kernel
theorem dL_isRight_345 : decode cL_isRight 345 = .ok (.aload_n 0, 1) := by decide +kernel
theorem dL_isRight_346 : decode cL_isRight 346 = .ok (.iload 4, 2) := by decide +kernel
theorem dL_isRight_348 : decode cL_isRight 348 = .ok (.iconst 4, 1) := by decide +kernel
theorem dL_isRight_349 : decode cL_isRight 349 = .ok (.invokevirtual 22, 3) := by decide +kernel
theorem dL_isRight_352 : decode cL_isRight 352 = .ok (.aload_n 0, 1) := by decide +kernel
theorem dL_isRight_353 : decode cL_isRight 353 = .ok (.iload 4, 2) := by decide +kernel
theorem dL_isRight_355 : decode cL_isRight 355 = .ok (.iconst 1, 1) := by decide +kernel
theorem dL_isRight_356 : decode cL_isRight 356 = .ok (.isub, 1) := by decide +kernel
theorem dL_isRight_357 : decode cL_isRight 357 = .ok (.iconst 4, 1) := by decide +kernel
theorem dL_isRight_358 : decode cL_isRight 358 = .ok (.invokevirtual 22, 3) := by decide +kernel
theorem dL_isRight_361 : decode cL_isRight 361 = .ok (.if_icmp .gt 58, 3) := by decide +kernel
theorem dL_isRight_364 : decode cL_isRight 364 = .ok (.aload_n 0, 1) := by decide +kernel
theorem dL_isRight_365 : decode cL_isRight 365 = .ok (.aload_n 0, 1) := by decide +kernel
theorem dL_isRight_366 : decode cL_isRight 366 = .ok (.iload 4, 2) := by decide +kernel
theorem dL_isRight_368 : decode cL_isRight 368 = .ok (.iconst 0, 1) := by decide +kernel
theorem dL_isRight_369 : decode cL_isRight 369 = .ok (.invokevirtual 22, 3) := by decide +kernel
theorem dL_isRight_372 : decode cL_isRight 372 = .ok (.aload_n 0, 1) := by decide +kernel
theorem dL_isRight_373 : decode cL_isRight 373 = .ok (.iload 4, 2) := by decide +kernel
theorem dL_isRight_375 : decode cL_isRight 375 = .ok (.iconst 1, 1) := by decide +kernel
theorem dL_isRight_376 : decode cL_isRight 376 = .ok (.invokevirtual 22, 3) := by decide +kernel
theorem dL_isRight_379 : decode cL_isRight 379 = .ok (.invokevirtual 70, 3) := by decide +kernel
theorem dL_isRight_382 : decode cL_isRight 382 = .ok (.ifCond .ge 37, 3) := by decide +kernel
theorem dL_isRight_385 : decode cL_isRight 385 = .ok (.aload_n 0, 1) := by decide +kernel
theorem dL_isRight_386 : decode cL_isRight 386 = .ok (.iload 4, 2) := by decide +kernel
theorem dL_isRight_388 : decode cL_isRight 388 = .ok (.bipush 7, 2) := by decide +kernel
theorem dL_isRight_390 : decode cL_isRight 390 = .ok (.invokevirtual 22, 3) := by decide +kernel
theorem dL_isRight_393 : decode cL_isRight 393 = .ok (.aload_n 0, 1) := by decide +kernel
theorem dL_isRight_394 : decode cL_isRight 394 = .ok (.iload 4, 2) := by decide +kernel
theorem dL_isRight_396 : decode cL_isRight 396 = .ok (.iconst 5, 1) := by decide +kernel
theorem dL_isRight_397 : decode cL_isRight 397 = .ok (.invokevirtual 22, 3) := by decide +kernel
theorem dL_isRight_400 : decode cL_isRight 400 = .ok (.aload_n 0, 1) := by decide +kernel
theorem dL_isRight_401 : decode cL_isRight 401 = .ok (.iload 4, 2) := by decide +kernel
theorem dL_isRight_403 : decode cL_isRight 403 = .ok (.iconst 2, 1) := by decide +kernel
theorem dL_isRight_404 : decode cL_isRight 404 = .ok (.invokevirtual 22, 3) := by decide +kernel
theorem dL_isRight_407 : decode cL_isRight 407 = .ok (.aload_n 0, 1) := by decide +kernel
theorem dL_isRight_408 : decode cL_isRight 408 = .ok (.iload 4, 2) := by decide +kernel
theorem dL_isRight_410 : decode cL_isRight 410 = .ok (.iconst 3, 1) := by decide +kernel
theorem dL_isRight_411 : decode cL_isRight 411 = .ok (.invokevirtual 22, 3) := by decide +kernel
theorem dL_isRight_414 : decode cL_isRight 414 = .ok (.iadd, 1) := by decide +kernel
theorem dL_isRight_415 : decode cL_isRight 415 = .ok (.imul, 1) := by decide +kernel
theorem dL_isRight_416 : decode cL_isRight 416 = .ok (.if_icmp .eq 5, 3) := by decide +kernel
theorem dL_isRight_419 : decode cL_isRight 419 = .ok (.iconst 0, 1) := by decide +kernel
theorem dL_isRight_420 : decode cL_isRight 420 = .ok (.ireturn, 1) := by decide +kernel
theorem dL_isRight_421 : decode cL_isRight 421 = .ok (.iconst 0, 1) := by decide +kernel
theorem dL_isRight_422 : decode cL_isRight 422 = .ok (.istore 5, 2) := by decide +kernel
theorem dL_isRight_424 : decode cL_isRight 424 = .ok (.iload 5, 2) := by decide +kernel
theorem dL_isRight_426 : decode cL_isRight 426 = .ok (.iload 4, 2) := by decide +kernel
theorem dL_isRight_428 : decode cL_isRight 428 = .ok (.if_icmp .ge 45, 3) := by decide +kernel
theorem dL_isRight_431 : decode cL_isRight 431 = .ok (.aload_n 0, 1) := by decide +kernel
theorem dL_isRight_432 : decode cL_isRight 432 = .ok (.iload 5, 2) := by decide +kernel
theorem dL_isRight_434 : decode cL_isRight 434 = .ok (.iconst 0, 1) := by decide +kernel
theorem dL_isRight_435 : decode cL_isRight 435 = .ok (.invokevirtual 22, 3) := by decide +kernel
theorem dL_isRight_438 : decode cL_isRight 438 = .ok (.aload_n 0, 1) := by decide +kernel
theorem dL_isRight_439 : decode cL_isRight 439 = .ok (.iload 4, 2) := by decide +kernel
theorem dL_isRight_441 : decode cL_isRight 441 = .ok (.iconst 0, 1) := by decide +kernel
theorem dL_isRight_442 : decode cL_isRight 442 = .ok (.invokevirtual 22, 3) := by decide +kernel
theorem dL_isRight_445 : decode cL_isRight 445 = .ok (.if_icmp .ne 22, 3) := by decide +kernel
theorem dL_isRight_448 : decode cL_isRight 448 = .ok (.aload_n 0, 1) := by decide +kernel
theorem dL_isRight_449 : decode cL_isRight 449 = .ok (.iload 5, 2) := by decide +kernel
theorem dL_isRight_451 : decode cL_isRight 451 = .ok (.iconst 1, 1) := by decide +kernel
theorem dL_isRight_452 : decode cL_isRight 452 = .ok (.invokevirtual 22, 3) := by decide +kernel
theorem dL_isRight_455 : decode cL_isRight 455 = .ok (.aload_n 0, 1) := by decide +kernel
theorem dL_isRight_456 : decode cL_isRight 456 = .ok (.iload 4, 2) := by decide +kernel
theorem dL_isRight_458 : decode cL_isRight 458 = .ok (.iconst 1, 1) := by decide +kernel
theorem dL_isRight_459 : decode cL_isRight 459 = .ok (.invokevirtual 22, 3) := by decide +kernel
theorem dL_isRight_462 : decode cL_isRight 462 = .ok (.if_icmp .ne 5, 3) := by decide +kernel
theorem dL_isRight_465 : decode cL_isRight 465 = .ok (.iconst 0, 1) := by decide +kernel
theorem dL_isRight_466 : decode cL_isRight 466 = .ok (.ireturn, 1) := by decide +kernel
theorem dL_isRight_467 : decode cL_isRight 467 = .ok (.iinc 5 1, 3) := by decide +kernel
theorem dL_isRight_470 : decode cL_isRight 470 = .ok (.goto (-46), 3) := by decide +kernel
theorem dL_isRight_473 : decode cL_isRight 473 = .ok (.iinc 4 1, 3) := by decide +kernel
theorem dL_isRight_476 : decode cL_isRight 476 = .ok (.goto (-157), 3) := by decide +kernel
theorem dL_isRight_479 : decode cL_isRight 479 = .ok (.aload_n 0, 1) := by decide +kernel
theorem dL_isRight_480 : decode cL_isRight 480 = .ok (.bipush 8, 2) := by decide +kernel
theorem dL_isRight_482 : decode cL_isRight 482 = .ok (.invokevirtual 12, 3) := by decide +kernel
theorem dL_isRight_485 : decode cL_isRight 485 = .ok (.ifCond .lt 7, 3) := by decide +kernel
theorem dL_isRight_488 : decode cL_isRight 488 = .ok (.iconst 1, 1) := by decide +kernel
theorem dL_isRight_489 : decode cL_isRight 489 = .ok (.goto 4, 3) := by decide +kernel
theorem dL_isRight_492 : decode cL_isRight 492 = .ok (.iconst 0, 1) := by decide +kernel
theorem dL_isRight_493 : decode cL_isRight 493 = .ok (.istore 4, 2) := by decide +kernel
theorem dL_isRight_495 : decode cL_isRight 495 = .ok (.iload_n 1, 1) := by decide +kernel
theorem dL_isRight_496 : decode cL_isRight 496 = .ok (.aload_n 0, 1) := by decide +kernel
theorem dL_isRight_497 : decode cL_isRight 497 = .ok (.iconst 2, 1) := by decide +kernel
theorem dL_isRight_498 : decode cL_isRight 498 = .ok (.invokevirtual 12, 3) := by decide +kernel
theorem dL_isRight_501 : decode cL_isRight 501 = .ok (.if_icmp .ne 109, 3) := by decide +kernel
theorem dL_isRight_504 : decode cL_isRight 504 = .ok (.iload_n 2, 1) := by decide +kernel
theorem dL_isRight_505 : decode cL_isRight 505 = .ok (.iload_n 1, 1) := by decide +kernel
theorem dL_isRight_506 : decode cL_isRight 506 = .ok (.if_icmp .lt 104, 3) := by decide +kernel
theorem dL_isRight_509 : decode cL_isRight 509 = .ok (.iload_n 3, 1) := by decide +kernel
theorem dL_isRight_510 : decode cL_isRight 510 = .ok (.aload_n 0, 1) := by decide +kernel
theorem dL_isRight_511 : decode cL_isRight 511 = .ok (.bipush 7, 2) := by decide +kernel
theorem dL_isRight_513 : decode cL_isRight 513 = .ok (.invokevirtual 12, 3) := by decide +kernel
theorem dL_isRight_516 : decode cL_isRight 516 = .ok (.if_icmp .ne 94, 3) := by decide +kernel
theorem dL_isRight_519 : decode cL_isRight 519 = .ok (.aload_n 0, 1) := by decide +kernel
theorem dL_isRight_520 : decode cL_isRight 520 = .ok (.iconst 0, 1) := by decide +kernel
theorem dL_isRight_521 : decode cL_isRight 521 = .ok (.invokevirtual 12, 3) := by decide +kernel
theorem dL_isRight_524 : decode cL_isRight 524 = .ok (.aload_n 0, 1) := by decide +kernel
theorem dL_isRight_525 : decode cL_isRight 525 = .ok (.iconst 1, 1) := by decide +kernel
theorem dL_isRight_526 : decode cL_isRight 526 = .ok (.invokevirtual 12, 3) := by decide +kernel
theorem dL_isRight_529 : decode cL_isRight 529 = .ok (.iadd, 1) := by decide +kernel
theorem dL_isRight_530 : decode cL_isRight 530 = .ok (.aload_n 0, 1) := by decide +kernel
theorem dL_isRight_531 : decode cL_isRight 531 = .ok (.iconst 2, 1) := by decide +kernel
theorem dL_isRight_532 : decode cL_isRight 532 = .ok (.invokevirtual 12, 3) := by decide +kernel
theorem dL_isRight_535 : decode cL_isRight 535 = .ok (.iadd, 1) := by decide +kernel
theorem dL_isRight_536 : decode cL_isRight 536 = .ok (.aload_n 0, 1) := by decide +kernel
theorem dL_isRight_537 : decode cL_isRight 537 = .ok (.iconst 3, 1) := by decide +kernel
theorem dL_isRight_538 : decode cL_isRight 538 = .ok (.invokevirtual 12, 3) := by decide +kernel
theorem dL_isRight_541 : decode cL_isRight 541 = .ok (.iadd, 1) := by decide +kernel
theorem dL_isRight_542 : decode cL_isRight 542 = .ok (.aload_n 0, 1) := by decide +kernel
theorem dL_isRight_543 : decode cL_isRight 543 = .ok (.iconst 4, 1) := by decide +kernel
theorem dL_isRight_544 : decode cL_isRight 544 = .ok (.invokevirtual 12, 3) := by decide +kernel
theorem dL_isRight_547 : decode cL_isRight 547 = .ok (.if_icmp .ne 63, 3) := by decide +kernel
theorem dL_isRight_550 : decode cL_isRight 550 = .ok (.aload_n 0, 1) := by decide +kernel
theorem dL_isRight_551 : decode cL_isRight 551 = .ok (.iconst 1, 1) := by decide +kernel
theorem dL_isRight_552 : decode cL_isRight 552 = .ok (.invokevirtual 12, 3) := by decide +kernel
theorem dL_isRight_555 : decode cL_isRight 555 = .ok (.iload 4, 2) := by decide +kernel
theorem dL_isRight_557 : decode cL_isRight 557 = .ok (.ifCond .eq 7, 3) := by decide +kernel
theorem dL_isRight_560 : decode cL_isRight 560 = .ok (.iconst 1, 1) := by decide +kernel
theorem dL_isRight_561 : decode cL_isRight 561 = .ok (.goto 4, 3) := by decide +kernel
theorem dL_isRight_564 : decode cL_isRight 564 = .ok (.iconst 0, 1) := by decide +kernel
theorem dL_isRight_565 : decode cL_isRight 565 = .ok (.if_icmp .ne 45, 3) := by decide +kernel
theorem dL_isRight_568 : decode cL_isRight 568 = .ok (.iload 4, 2) := by decide +kernel
theorem dL_isRight_570 : decode cL_isRight 570 = .ok (.aload_n 0, 1) := by decide +kernel
theorem dL_isRight_571 : decode cL_isRight 571 = .ok (.bipush 9, 2) := by decide +kernel
theorem dL_isRight_573 : decode cL_isRight 573 = .ok (.invokevirtual 12, 3) := by decide +kernel
theorem dL_isRight_576 : decode cL_isRight 576 = .ok (.ifCond .le 7, 3) := by decide +kernel
theorem dL_isRight_579 : decode cL_isRight 579 = .ok (.iconst 1, 1) := by decide +kernel
theorem dL_isRight_580 : decode cL_isRight 580 = .ok (.goto 4, 3) := by decide +kernel
theorem dL_isRight_583 : decode cL_isRight 583 = .ok (.iconst 0, 1) := by decide +kernel
theorem dL_isRight_584 : decode cL_isRight 584 = .ok (.if_icmp .ne 26, 3) := by decide +kernel
theorem dL_isRight_587 : decode cL_isRight 587 = .ok (.iload 4, 2) := by decide +kernel
theorem dL_isRight_589 : decode cL_isRight 589 = .ok (.aload_n 0, 1) := by decide +kernel
theorem dL_isRight_590 : decode cL_isRight 590 = .ok (.bipush 10, 2) := by decide +kernel
theorem dL_isRight_592 : decode cL_isRight 592 = .ok (.invokevirtual 12, 3) := by decide +kernel
theorem dL_isRight_595 : decode cL_isRight 595 = .ok (.ifCond .lt 7, 3) := by decide +kernel
theorem dL_isRight_598 : decode cL_isRight 598 = .ok (.iconst 1, 1) := by decide +kernel
theorem dL_isRight_599 : decode cL_isRight 599 = .ok (.goto 4, 3) := by decide +kernel
theorem dL_isRight_602 : decode cL_isRight 602 = .ok (.iconst 0, 1) := by decide +kernel
theorem dL_isRight_603 : decode cL_isRight 603 = .ok (.if_icmp .ne 7, 3) := by decide +kernel
theorem dL_isRight_606 : decode cL_isRight 606 = .ok (.iconst 1, 1) := by decide +kernel
theorem dL_isRight_607 : decode cL_isRight 607 = .ok (.goto 4, 3) := by decide +kernel
theorem dL_isRight_610 : decode cL_isRight 610 = .ok (.iconst 0, 1) := by decide +kernel
theorem dL_isRight_611 : decode cL_isRight 611 = .ok (.ireturn, 1) := by decide +kernel
theorem dL_isDone_0 : decode cL_isDone 0 = .ok (.iload_n 1, 1) := by decide +kernel
theorem dL_isDone_1 : decode cL_isDone 1 = .ok (.bipush 15, 2) := by decide +kernel
theorem dL_isDone_3 : decode cL_isDone 3 = .ok (.iand, 1) := by decide +kernel
theorem dL_isDone_4 : decode cL_isDone 4 = .ok (.istore 6, 2) := by decide +kernel
theorem dL_isDone_6 : decode cL_isDone 6 = .ok (.iload_n 2, 1) := by decide +kernel
theorem dL_isDone_7 : decode cL_isDone 7 = .ok (.ifCond .ge 41, 3) := by decide +kernel
theorem dL_isDone_10 : decode cL_isDone 10 = .ok (.aload_n 0, 1) := by decide +kernel
theorem dL_isDone_11 : decode cL_isDone 11 = .ok (.bipush 11, 2) := by decide +kernel
theorem dL_isDone_13 : decode cL_isDone 13 = .ok (.invokevirtual 12, 3) := by decide +kernel
theorem dL_isDone_16 : decode cL_isDone 16 = .ok (.iload_n 3, 1) := by decide +kernel
theorem dL_isDone_17 : decode cL_isDone 17 = .ok (.if_icmp .ne 29, 3) := by decide +kernel
theorem dL_isDone_20 : decode cL_isDone 20 = .ok (.aload_n 0, 1) := by decide +kernel
theorem dL_isDone_21 : decode cL_isDone 21 = .ok (.bipush 6, 2) := by decide +kernel
theorem dL_isDone_23 : decode cL_isDone 23 = .ok (.invokevirtual 12, 3) := by decide +kernel
theorem dL_isDone_26 : decode cL_isDone 26 = .ok (.iload 4, 2) := by decide +kernel
theorem dL_isDone_28 : decode cL_isDone 28 = .ok (.if_icmp .ne 18, 3) := by decide +kernel
theorem dL_isDone_31 : decode cL_isDone 31 = .ok (.aload_n 0, 1) := by decide +kernel
theorem dL_isDone_32 : decode cL_isDone 32 = .ok (.bipush 12, 2) := by decide +kernel
theorem dL_isDone_34 : decode cL_isDone 34 = .ok (.invokevirtual 12, 3) := by decide +kernel
theorem dL_isDone_37 : decode cL_isDone 37 = .ok (.iload 5, 2) := by decide +kernel
theorem dL_isDone_39 : decode cL_isDone 39 = .ok (.if_icmp .ne 7, 3) := by decide +kernel
theorem dL_isDone_42 : decode cL_isDone 42 = .ok (.iconst 1, 1) := by decide +kernel
theorem dL_isDone_43 : decode cL_isDone 43 = .ok (.goto 4, 3) := by decide +kernel
theorem dL_isDone_46 : decode cL_isDone 46 = .ok (.iconst 0, 1) := by decide +kernel
theorem dL_isDone_47 : decode cL_isDone 47 = .ok (.ireturn, 1) := by decide +kernel
theorem dL_isDone_48 : decode cL_isDone 48 = .ok (.iload 6, 2) := by decide +kernel
theorem dL_isDone_50 : decode cL_isDone 50 = .ok (.bipush 11, 2) := by decide +kernel
theorem dL_isDone_52 : decode cL_isDone 52 = .ok (.if_icmp .le 34, 3) := by decide +kernel
theorem dL_isDone_55 : decode cL_isDone 55 = .ok (.aload_n 0, 1) := by decide +kernel
theorem dL_isDone_56 : decode cL_isDone 56 = .ok (.bipush 11, 2) := by decide +kernel
theorem dL_isDone_58 : decode cL_isDone 58 = .ok (.invokevirtual 12, 3) := by decide +kernel
theorem dL_isDone_61 : decode cL_isDone 61 = .ok (.iload_n 3, 1) := by decide +kernel
theorem dL_isDone_62 : decode cL_isDone 62 = .ok (.iload_n 2, 1) := by decide +kernel
theorem dL_isDone_63 : decode cL_isDone 63 = .ok (.iadd, 1) := by decide +kernel
theorem dL_isDone_64 : decode cL_isDone 64 = .ok (.if_icmp .ne 20, 3) := by decide +kernel
theorem dL_isDone_67 : decode cL_isDone 67 = .ok (.aload_n 0, 1) := by decide +kernel
theorem dL_isDone_68 : decode cL_isDone 68 = .ok (.bipush 6, 2) := by decide +kernel
theorem dL_isDone_70 : decode cL_isDone 70 = .ok (.invokevirtual 12, 3) := by decide +kernel
theorem dL_isDone_73 : decode cL_isDone 73 = .ok (.iload 4, 2) := by decide +kernel
theorem dL_isDone_75 : decode cL_isDone 75 = .ok (.iload_n 2, 1) := by decide +kernel
theorem dL_isDone_76 : decode cL_isDone 76 = .ok (.isub, 1) := by decide +kernel
theorem dL_isDone_77 : decode cL_isDone 77 = .ok (.if_icmp .ne 7, 3) := by decide +kernel
theorem dL_isDone_80 : decode cL_isDone 80 = .ok (.iconst 1, 1) := by decide +kernel
theorem dL_isDone_81 : decode cL_isDone 81 = .ok (.goto 4, 3) := by decide +kernel
theorem dL_isDone_84 : decode cL_isDone 84 = .ok (.iconst 0, 1) := by decide +kernel
theorem dL_isDone_85 : decode cL_isDone 85 = .ok (.ireturn, 1) := by decide +kernel
theorem dL_isDone_86 : decode cL_isDone 86 = .ok (.iload 6, 2) := by decide +kernel
theorem dL_isDone_88 : decode cL_isDone 88 = .ok (.bipush 10, 2) := by decide +kernel
theorem dL_isDone_90 : decode cL_isDone 90 = .ok (.if_icmp .eq 10, 3) := by decide +kernel
theorem dL_isDone_93 : decode cL_isDone 93 = .ok (.iload 6, 2) := by decide +kernel
theorem dL_isDone_95 : decode cL_isDone 95 = .ok (.bipush 11, 2) := by decide +kernel
theorem dL_isDone_97 : decode cL_isDone 97 = .ok (.if_icmp .ne 60, 3) := by decide +kernel
theorem dL_isDone_100 : decode cL_isDone 100 = .ok (.aload_n 0, 1) := by decide +kernel
theorem dL_isDone_101 : decode cL_isDone 101 = .ok (.bipush 12, 2) := by decide +kernel
theorem dL_isDone_103 : decode cL_isDone 103 = .ok (.invokevirtual 12, 3) := by decide +kernel
theorem dL_isDone_106 : decode cL_isDone 106 = .ok (.iload 5, 2) := by decide +kernel
theorem dL_isDone_108 : decode cL_isDone 108 = .ok (.iconst 1, 1) := by decide +kernel
theorem dL_isDone_109 : decode cL_isDone 109 = .ok (.iadd, 1) := by decide +kernel
theorem dL_isDone_110 : decode cL_isDone 110 = .ok (.if_icmp .ne 45, 3) := by decide +kernel
theorem dL_isDone_113 : decode cL_isDone 113 = .ok (.aload_n 0, 1) := by decide +kernel
theorem dL_isDone_114 : decode cL_isDone 114 = .ok (.bipush 8, 2) := by decide +kernel
theorem dL_isDone_116 : decode cL_isDone 116 = .ok (.invokevirtual 12, 3) := by decide +kernel
theorem dL_isDone_119 : decode cL_isDone 119 = .ok (.ifCond .ge 7, 3) := by decide +kernel
theorem dL_isDone_122 : decode cL_isDone 122 = .ok (.iconst 1, 1) := by decide +kernel
theorem dL_isDone_123 : decode cL_isDone 123 = .ok (.goto 4, 3) := by decide +kernel
theorem dL_isDone_126 : decode cL_isDone 126 = .ok (.iconst 0, 1) := by decide +kernel
theorem dL_isDone_127 : decode cL_isDone 127 = .ok (.iload_n 2, 1) := by decide +kernel
theorem dL_isDone_128 : decode cL_isDone 128 = .ok (.iconst 3, 1) := by decide +kernel
theorem dL_isDone_129 : decode cL_isDone 129 = .ok (.if_icmp .ne 7, 3) := by decide +kernel
theorem dL_isDone_132 : decode cL_isDone 132 = .ok (.iconst 1, 1) := by decide +kernel
theorem dL_isDone_133 : decode cL_isDone 133 = .ok (.goto 4, 3) := by decide +kernel
theorem dL_isDone_136 : decode cL_isDone 136 = .ok (.iconst 0, 1) := by decide +kernel
theorem dL_isDone_137 : decode cL_isDone 137 = .ok (.if_icmp .ne 18, 3) := by decide +kernel
theorem dL_isDone_140 : decode cL_isDone 140 = .ok (.aload_n 0, 1) := by decide +kernel
theorem dL_isDone_141 : decode cL_isDone 141 = .ok (.bipush 6, 2) := by decide +kernel
theorem dL_isDone_143 : decode cL_isDone 143 = .ok (.invokevirtual 12, 3) := by decide +kernel
theorem dL_isDone_146 : decode cL_isDone 146 = .ok (.iload 4, 2) := by decide +kernel
theorem dL_isDone_148 : decode cL_isDone 148 = .ok (.if_icmp .ne 7, 3) := by decide +kernel
theorem dL_isDone_151 : decode cL_isDone 151 = .ok (.iconst 1, 1) := by decide +kernel
theorem dL_isDone_152 : decode cL_isDone 152 = .ok (.goto 4, 3) := by decide +kernel
theorem dL_isDone_155 : decode cL_isDone 155 = .ok (.iconst 0, 1) := by decide +kernel
theorem dL_isDone_156 : decode cL_isDone 156 = .ok (.ireturn, 1) := by decide +kernel
theorem dL_isDone_157 : decode cL_isDone 157 = .ok (.iload 6, 2) := by decide +kernel
theorem dL_isDone_159 : decode cL_isDone 159 = .ok (.iconst 5, 1) := by decide +kernel
theorem dL_isDone_160 : decode cL_isDone 160 = .ok (.if_icmp .ne 31, 3) := by decide +kernel
theorem dL_isDone_163 : decode cL_isDone 163 = .ok (.aload_n 0, 1) := by decide +kernel
theorem dL_isDone_164 : decode cL_isDone 164 = .ok (.iload_n 2, 1) := by decide +kernel
theorem dL_isDone_165 : decode cL_isDone 165 = .ok (.iconst 4, 1) := by decide +kernel
theorem dL_isDone_166 : decode cL_isDone 166 = .ok (.invokevirtual 22, 3) := by decide +kernel
theorem dL_isDone_169 : decode cL_isDone 169 = .ok (.iconst 1, 1) := by decide +kernel
theorem dL_isDone_170 : decode cL_isDone 170 = .ok (.if_icmp .ne 19, 3) := by decide +kernel
theorem dL_isDone_173 : decode cL_isDone 173 = .ok (.aload_n 0, 1) := by decide +kernel
theorem dL_isDone_174 : decode cL_isDone 174 = .ok (.bipush 7, 2) := by decide +kernel
theorem dL_isDone_176 : decode cL_isDone 176 = .ok (.invokevirtual 12, 3) := by decide +kernel
theorem dL_isDone_179 : decode cL_isDone 179 = .ok (.iload_n 2, 1) := by decide +kernel
theorem dL_isDone_180 : decode cL_isDone 180 = .ok (.iconst 1, 1) := by decide +kernel
theorem dL_isDone_181 : decode cL_isDone 181 = .ok (.iadd, 1) := by decide +kernel
theorem dL_isDone_182 : decode cL_isDone 182 = .ok (.if_icmp .ne 7, 3) := by decide +kernel
theorem dL_isDone_185 : decode cL_isDone 185 = .ok (.iconst 1, 1) := by decide +kernel
theorem dL_isDone_186 : decode cL_isDone 186 = .ok (.goto 4, 3) := by decide +kernel
theorem dL_isDone_189 : decode cL_isDone 189 = .ok (.iconst 0, 1) := by decide +kernel
theorem dL_isDone_190 : decode cL_isDone 190 = .ok (.ireturn, 1) := by decide +kernel
theorem dL_isDone_191 : decode cL_isDone 191 = .ok (.iload 6, 2) := by decide +kernel
theorem dL_isDone_193 : decode cL_isDone 193 = .ok (.bipush 6, 2) := by decide +kernel
theorem dL_isDone_195 : decode cL_isDone 195 = .ok (.if_icmp .ne 27, 3) := by decide +kernel
theorem dL_isDone_198 : decode cL_isDone 198 = .ok (.iload_n 2, 1) := by decide +kernel
theorem dL_isDone_199 : decode cL_isDone 199 = .ok (.iload 4, 2) := by decide +kernel
theorem dL_isDone_201 : decode cL_isDone 201 = .ok (.iconst 1, 1) := by decide +kernel
theorem dL_isDone_202 : decode cL_isDone 202 = .ok (.isub, 1) := by decide +kernel
theorem dL_isDone_203 : decode cL_isDone 203 = .ok (.if_icmp .ne 17, 3) := by decide +kernel
theorem dL_isDone_206 : decode cL_isDone 206 = .ok (.aload_n 0, 1) := by decide +kernel
theorem dL_isDone_207 : decode cL_isDone 207 = .ok (.bipush 6, 2) := by decide +kernel
theorem dL_isDone_209 : decode cL_isDone 209 = .ok (.invokevirtual 12, 3) := by decide +kernel
theorem dL_isDone_212 : decode cL_isDone 212 = .ok (.iload_n 2, 1) := by decide +kernel
theorem dL_isDone_213 : decode cL_isDone 213 = .ok (.if_icmp .ne 7, 3) := by decide +kernel
theorem dL_isDone_216 : decode cL_isDone 216 = .ok (.iconst 1, 1) := by decide +kernel
theorem dL_isDone_217 : decode cL_isDone 217 = .ok (.goto 4, 3) := by decide +kernel
theorem dL_isDone_220 : decode cL_isDone 220 = .ok (.iconst 0, 1) := by decide +kernel
theorem dL_isDone_221 : decode cL_isDone 221 = .ok (.ireturn, 1) := by decide +kernel
theorem dL_isDone_222 : decode cL_isDone 222 = .ok (.iload 6, 2) := by decide +kernel
theorem dL_isDone_224 : decode cL_isDone 224 = .ok (.ifCond .eq 46, 3) := by decide +kernel
theorem dL_isDone_227 : decode cL_isDone 227 = .ok (.iload 6, 2) := by decide +kernel
theorem dL_isDone_229 : decode cL_isDone 229 = .ok (.iconst 4, 1) := by decide +kernel
theorem dL_isDone_230 : decode cL_isDone 230 = .ok (.if_icmp .gt 40, 3) := by decide +kernel
theorem dL_isDone_233 : decode cL_isDone 233 = .ok (.aload_n 0, 1) := by decide +kernel
theorem dL_isDone_234 : decode cL_isDone 234 = .ok (.bipush 6, 2) := by decide +kernel
theorem dL_isDone_236 : decode cL_isDone 236 = .ok (.invokevirtual 12, 3) := by decide +kernel
theorem dL_isDone_239 : decode cL_isDone 239 = .ok (.iload 4, 2) := by decide +kernel
theorem dL_isDone_241 : decode cL_isDone 241 = .ok (.iconst 1, 1) := by decide +kernel
theorem dL_isDone_242 : decode cL_isDone 242 = .ok (.iadd, 1) := by decide +kernel
theorem dL_isDone_243 : decode cL_isDone 243 = .ok (.if_icmp .ne 31, 3) := by decide +kernel
theorem dL_isDone_246 : decode cL_isDone 246 = .ok (.aload_n 0, 1) := by decide +kernel
theorem dL_isDone_247 : decode cL_isDone 247 = .ok (.iload_n 2, 1) := by decide +kernel
theorem dL_isDone_248 : decode cL_isDone 248 = .ok (.iconst 4, 1) := by decide +kernel
theorem dL_isDone_249 : decode cL_isDone 249 = .ok (.invokevirtual 22, 3) := by decide +kernel
theorem dL_isDone_252 : decode cL_isDone 252 = .ok (.iload_n 1, 1) := by decide +kernel
theorem dL_isDone_253 : decode cL_isDone 253 = .ok (.bipush 17, 2) := by decide +kernel
theorem dL_isDone_255 : decode cL_isDone 255 = .ok (.ishr, 1) := by decide +kernel
theorem dL_isDone_256 : decode cL_isDone 256 = .ok (.iconst 1, 1) := by decide +kernel
theorem dL_isDone_257 : decode cL_isDone 257 = .ok (.iand, 1) := by decide +kernel
theorem dL_isDone_258 : decode cL_isDone 258 = .ok (.if_icmp .ne 16, 3) := by decide +kernel
theorem dL_isDone_261 : decode cL_isDone 261 = .ok (.aload_n 0, 1) := by decide +kernel
theorem dL_isDone_262 : decode cL_isDone 262 = .ok (.bipush 15, 2) := by decide +kernel
theorem dL_isDone_264 : decode cL_isDone 264 = .ok (.invokevirtual 12, 3) := by decide +kernel
theorem dL_isDone_267 : decode cL_isDone 267 = .ok (.ifCond .ne 7, 3) := by decide +kernel
theorem dL_isDone_270 : decode cL_isDone 270 = .ok (.iconst 1, 1) := by decide +kernel
theorem dL_isDone_271 : decode cL_isDone 271 = .ok (.goto 4, 3) := by decide +kernel
theorem dL_isDone_274 : decode cL_isDone 274 = .ok (.iconst 0, 1) := by decide +kernel
theorem dL_isDone_275 : decode cL_isDone 275 = .ok (.ireturn, 1) := by decide +kernel
theorem dL_isForecast_0 : decode cL_isForecast 0 = .ok (.iconst 0, 1) := by decide +kernel
theorem dL_isForecast_1 : decode cL_isForecast 1 = .ok (.istore_n 1, 1) := by decide +kernel
theorem dL_isForecast_2 : decode cL_isForecast 2 = .ok (.iload_n 1, 1) := by decide +kernel
theorem dL_isForecast_3 : decode cL_isForecast 3 = .ok (.aload_n 0, 1) := by decide +kernel
theorem dL_isForecast_4 : decode cL_isForecast 4 = .ok (.bipush 6, 2) := by decide +kernel
theorem dL_isForecast_6 : decode cL_isForecast 6 = .ok (.invokevirtual 12, 3) := by decide +kernel
theorem dL_isForecast_9 : decode cL_isForecast 9 = .ok (.if_icmp .ge 203, 3) := by decide +kernel
theorem dL_isForecast_12 : decode cL_isForecast 12 = .ok (.aload_n 0, 1) := by decide +kernel
theorem dL_isForecast_13 : decode cL_isForecast 13 = .ok (.iload_n 1, 1) := by decide +kernel
theorem dL_isForecast_14 : decode cL_isForecast 14 = .ok (.invokevirtual 73, 3) := by decide +kernel
theorem dL_isForecast_17 : decode cL_isForecast 17 = .ok (.istore_n 2, 1) := by decide +kernel
theorem dL_isForecast_18 : decode cL_isForecast 18 = .ok (.iload_n 2, 1) := by decide +kernel
theorem dL_isForecast_19 : decode cL_isForecast 19 = .ok (.ifCond .le 187, 3) := by decide +kernel
theorem dL_isForecast_22 : decode cL_isForecast 22 = .ok (.iload_n 2, 1) := by decide +kernel
theorem dL_isForecast_23 : decode cL_isForecast 23 = .ok (.sipush 600, 3) := by decide +kernel
theorem dL_isForecast_26 : decode cL_isForecast 26 = .ok (.if_icmp .gt 180, 3) := by decide +kernel
theorem dL_isForecast_29 : decode cL_isForecast 29 = .ok (.aload_n 0, 1) := by decide +kernel
theorem dL_isForecast_30 : decode cL_isForecast 30 = .ok (.iload_n 1, 1) := by decide +kernel
theorem dL_isForecast_31 : decode cL_isForecast 31 = .ok (.iconst 0, 1) := by decide +kernel
theorem dL_isForecast_32 : decode cL_isForecast 32 = .ok (.invokevirtual 22, 3) := by decide +kernel
theorem dL_isForecast_35 : decode cL_isForecast 35 = .ok (.istore_n 3, 1) := by decide +kernel
theorem dL_isForecast_36 : decode cL_isForecast 36 = .ok (.aload_n 0, 1) := by decide +kernel
theorem dL_isForecast_37 : decode cL_isForecast 37 = .ok (.iload_n 1, 1) := by decide +kernel
theorem dL_isForecast_38 : decode cL_isForecast 38 = .ok (.iconst 1, 1) := by decide +kernel
theorem dL_isForecast_39 : decode cL_isForecast 39 = .ok (.invokevirtual 22, 3) := by decide +kernel
theorem dL_isForecast_42 : decode cL_isForecast 42 = .ok (.istore 4, 2) := by decide +kernel
theorem dL_isForecast_44 : decode cL_isForecast 44 = .ok (.aload_n 0, 1) := by decide +kernel
theorem dL_isForecast_45 : decode cL_isForecast 45 = .ok (.iload_n 1, 1) := by decide +kernel
theorem dL_isForecast_46 : decode cL_isForecast 46 = .ok (.iconst 3, 1) := by decide +kernel
theorem dL_isForecast_47 : decode cL_isForecast 47 = .ok (.invokevirtual 22, 3) := by decide +kernel
theorem dL_isForecast_50 : decode cL_isForecast 50 = .ok (.istore 5, 2) := by decide +kernel
theorem dL_isForecast_52 : decode cL_isForecast 52 = .ok (.aload_n 0, 1) := by decide +kernel
theorem dL_isForecast_53 : decode cL_isForecast 53 = .ok (.iload_n 3, 1) := by decide +kernel
theorem dL_isForecast_54 : decode cL_isForecast 54 = .ok (.iconst 2, 1) := by decide +kernel
theorem dL_isForecast_55 : decode cL_isForecast 55 = .ok (.invokevirtual 30, 3) := by decide +kernel
theorem dL_isForecast_58 : decode cL_isForecast 58 = .ok (.istore 6, 2) := by decide +kernel
theorem dL_isForecast_60 : decode cL_isForecast 60 = .ok (.aload_n 0, 1) := by decide +kernel
theorem dL_isForecast_61 : decode cL_isForecast 61 = .ok (.iload_n 3, 1) := by decide +kernel
theorem dL_isForecast_62 : decode cL_isForecast 62 = .ok (.iconst 1, 1) := by decide +kernel
theorem dL_isForecast_63 : decode cL_isForecast 63 = .ok (.invokevirtual 30, 3) := by decide +kernel
theorem dL_isForecast_66 : decode cL_isForecast 66 = .ok (.aload_n 0, 1) := by decide +kernel
theorem dL_isForecast_67 : decode cL_isForecast 67 = .ok (.iload_n 3, 1) := by decide +kernel
theorem dL_isForecast_68 : decode cL_isForecast 68 = .ok (.iconst 0, 1) := by decide +kernel
theorem dL_isForecast_69 : decode cL_isForecast 69 = .ok (.invokevirtual 30, 3) := by decide +kernel
theorem dL_isForecast_72 : decode cL_isForecast 72 = .ok (.if_icmp .ne 7, 3) := by decide +kernel
theorem dL_isForecast_75 : decode cL_isForecast 75 = .ok (.iconst 1, 1) := by decide +kernel
theorem dL_isForecast_76 : decode cL_isForecast 76 = .ok (.goto 4, 3) := by decide +kernel
theorem dL_isForecast_79 : decode cL_isForecast 79 = .ok (.iconst 0, 1) := by decide +kernel
theorem dL_isForecast_80 : decode cL_isForecast 80 = .ok (.istore 7, 2) := by decide +kernel
theorem dL_isForecast_82 : decode cL_isForecast 82 = .ok (.aload_n 0, 1) := by decide +kernel
theorem dL_isForecast_83 : decode cL_isForecast 83 = .ok (.invokestatic 76, 3) := by decide +kernel
theorem dL_isForecast_86 : decode cL_isForecast 86 = .ok (.lstore 8, 2) := by decide +kernel
theorem dL_isForecast_88 : decode cL_isForecast 88 = .ok (.aload_n 0, 1) := by decide +kernel
theorem dL_isForecast_89 : decode cL_isForecast 89 = .ok (.iload_n 2, 1) := by decide +kernel
theorem dL_isForecast_90 : decode cL_isForecast 90 = .ok (.invokevirtual 67, 3) := by decide +kernel
theorem dL_isForecast_93 : decode cL_isForecast 93 = .ok (.istore 10, 2) := by decide +kernel
theorem dL_isForecast_95 : decode cL_isForecast 95 = .ok (.aload_n 0, 1) := by decide +kernel
theorem dL_isForecast_96 : decode cL_isForecast 96 = .ok (.iload_n 3, 1) := by decide +kernel
theorem dL_isForecast_97 : decode cL_isForecast 97 = .ok (.iload 4, 2) := by decide +kernel
theorem dL_isForecast_99 : decode cL_isForecast 99 = .ok (.invokevirtual 70, 3) := by decide +kernel
theorem dL_isForecast_102 : decode cL_isForecast 102 = .ok (.istore 11, 2) := by decide +kernel
theorem dL_isForecast_104 : decode cL_isForecast 104 = .ok (.iload 11, 2) := by decide +kernel
theorem dL_isForecast_106 : decode cL_isForecast 106 = .ok (.ifCond .lt 31, 3) := by decide +kernel
theorem dL_isForecast_109 : decode cL_isForecast 109 = .ok (.aload_n 0, 1) := by decide +kernel
theorem dL_isForecast_110 : decode cL_isForecast 110 = .ok (.iload 11, 2) := by decide +kernel
theorem dL_isForecast_112 : decode cL_isForecast 112 = .ok (.iconst 3, 1) := by decide +kernel
theorem dL_isForecast_113 : decode cL_isForecast 113 = .ok (.invokevirtual 18, 3) := by decide +kernel
theorem dL_isForecast_116 : decode cL_isForecast 116 = .ok (.iload 5, 2) := by decide +kernel
theorem dL_isForecast_118 : decode cL_isForecast 118 = .ok (.if_icmp .eq 15, 3) := by decide +kernel
theorem dL_isForecast_121 : decode cL_isForecast 121 = .ok (.aload_n 0, 1) := by decide +kernel
theorem dL_isForecast_122 : decode cL_isForecast 122 = .ok (.iload 11, 2) := by decide +kernel
theorem dL_isForecast_124 : decode cL_isForecast 124 = .ok (.iconst 4, 1) := by decide +kernel
theorem dL_isForecast_125 : decode cL_isForecast 125 = .ok (.invokevirtual 18, 3) := by decide +kernel
theorem dL_isForecast_128 : decode cL_isForecast 128 = .ok (.iload 5, 2) := by decide +kernel
theorem dL_isForecast_130 : decode cL_isForecast 130 = .ok (.if_icmp .ne 7, 3) := by decide +kernel
theorem dL_isForecast_133 : decode cL_isForecast 133 = .ok (.iconst 1, 1) := by decide +kernel
theorem dL_isForecast_134 : decode cL_isForecast 134 = .ok (.goto 4, 3) := by decide +kernel
theorem dL_isForecast_137 : decode cL_isForecast 137 = .ok (.iconst 0, 1) := by decide +kernel
theorem dL_isForecast_138 : decode cL_isForecast 138 = .ok (.istore 12, 2) := by decide +kernel
theorem dL_isForecast_140 : decode cL_isForecast 140 = .ok (.iload 10, 2) := by decide +kernel
theorem dL_isForecast_142 : decode cL_isForecast 142 = .ok (.iconst 1, 1) := by decide +kernel
theorem dL_isForecast_143 : decode cL_isForecast 143 = .ok (.if_icmp .lt 35, 3) := by decide +kernel
theorem dL_isForecast_146 : decode cL_isForecast 146 = .ok (.iload 12, 2) := by decide +kernel
theorem dL_isForecast_148 : decode cL_isForecast 148 = .ok (.ifCond .ne 32, 3) := by decide +kernel
theorem dL_isForecast_151 : decode cL_isForecast 151 = .ok (.iload 7, 2) := by decide +kernel
theorem dL_isForecast_153 : decode cL_isForecast 153 = .ok (.ifCond .eq 10, 3) := by decide +kernel
theorem dL_isForecast_156 : decode cL_isForecast 156 = .ok (.iload 4, 2) := by decide +kernel
theorem dL_isForecast_158 : decode cL_isForecast 158 = .ok (.iload 6, 2) := by decide +kernel
theorem dL_isForecast_160 : decode cL_isForecast 160 = .ok (.if_icmp .lt 20, 3) := by decide +kernel
theorem dL_isForecast_163 : decode cL_isForecast 163 = .ok (.aload_n 0, 1) := by decide +kernel
theorem dL_isForecast_164 : decode cL_isForecast 164 = .ok (.iload_n 3, 1) := by decide +kernel
theorem dL_isForecast_165 : decode cL_isForecast 165 = .ok (.iconst 1, 1) := by decide +kernel
theorem dL_isForecast_166 : decode cL_isForecast 166 = .ok (.invokevirtual 30, 3) := by decide +kernel
theorem dL_isForecast_169 : decode cL_isForecast 169 = .ok (.aload_n 0, 1) := by decide +kernel
theorem dL_isForecast_170 : decode cL_isForecast 170 = .ok (.iload_n 3, 1) := by decide +kernel
theorem dL_isForecast_171 : decode cL_isForecast 171 = .ok (.iconst 0, 1) := by decide +kernel
theorem dL_isForecast_172 : decode cL_isForecast 172 = .ok (.invokevirtual 30, 3) := by decide +kernel
theorem dL_isForecast_175 : decode cL_isForecast 175 = .ok (.if_icmp .ge 5, 3) := by decide +kernel
theorem dL_isForecast_178 : decode cL_isForecast 178 = .ok (.iconst 0, 1) := by decide +kernel
theorem dL_isForecast_179 : decode cL_isForecast 179 = .ok (.ireturn, 1) := by decide +kernel
theorem dL_isForecast_180 : decode cL_isForecast 180 = .ok (.aload_n 0, 1) := by decide +kernel
theorem dL_isForecast_181 : decode cL_isForecast 181 = .ok (.invokevirtual 80, 3) := by decide +kernel
theorem dL_isForecast_184 : decode cL_isForecast 184 = .ok (.pop, 1) := by decide +kernel
theorem dL_isForecast_185 : decode cL_isForecast 185 = .ok (.aload_n 0, 1) := by decide +kernel
theorem dL_isForecast_186 : decode cL_isForecast 186 = .ok (.invokestatic 76, 3) := by decide +kernel
theorem dL_isForecast_189 : decode cL_isForecast 189 = .ok (.lload 8, 2) := by decide +kernel
theorem dL_isForecast_191 : decode cL_isForecast 191 = .ok (.lcmp, 1) := by decide +kernel
theorem dL_isForecast_192 : decode cL_isForecast 192 = .ok (.ifCond .ne 12, 3) := by decide +kernel
theorem dL_isForecast_195 : decode cL_isForecast 195 = .ok (.aload_n 0, 1) := by decide +kernel
theorem dL_isForecast_196 : decode cL_isForecast 196 = .ok (.iload_n 1, 1) := by decide +kernel
theorem dL_isForecast_197 : decode cL_isForecast 197 = .ok (.invokevirtual 73, 3) := by decide +kernel
theorem dL_isForecast_200 : decode cL_isForecast 200 = .ok (.iload_n 2, 1) := by decide +kernel
theorem dL_isForecast_201 : decode cL_isForecast 201 = .ok (.if_icmp .eq 5, 3) := by decide +kernel
theorem dL_isForecast_204 : decode cL_isForecast 204 = .ok (.iconst 0, 1) := by decide +kernel
theorem dL_isForecast_205 : decode cL_isForecast 205 = .ok (.ireturn, 1) := by decide +kernel
theorem dL_isForecast_206 : decode cL_isForecast 206 = .ok (.iinc 1 1, 3) := by decide +kernel
theorem dL_isForecast_209 : decode cL_isForecast 209 = .ok (.goto (-207), 3) := by decide +kernel
theorem dL_isForecast_212 : decode cL_isForecast 212 = .ok (.iconst 1, 1) := by decide +kernel
theorem dL_isForecast_213 : decode cL_isForecast 213 = .ok (.ireturn, 1) := by decide +kernel
theorem dL_law_0 : decode cL_law 0 = .ok (.new 13, 3) := by decide +kernel
theorem dL_law_3 : decode cL_law 3 = .ok (.dup, 1) := by decide +kernel
theorem dL_law_4 : decode cL_law 4 = .ok (.invokespecial 83, 3) := by decide +kernel
theorem dL_law_7 : decode cL_law 7 = .ok (.astore_n 1, 1) := by decide +kernel
theorem dL_law_8 : decode cL_law 8 = .ok (.aload_n 0, 1) := by decide +kernel
theorem dL_law_9 : decode cL_law 9 = .ok (.iconst 0, 1) := by decide +kernel
theorem dL_law_10 : decode cL_law 10 = .ok (.invokestatic 84, 3) := by decide +kernel
theorem dL_law_13 : decode cL_law 13 = .ok (.istore_n 2, 1) := by decide +kernel
theorem dL_law_14 : decode cL_law 14 = .ok (.aload_n 1, 1) := by decide +kernel
theorem dL_law_15 : decode cL_law 15 = .ok (.iconst 2, 1) := by decide +kernel
theorem dL_law_16 : decode cL_law 16 = .ok (.iload_n 2, 1) := by decide +kernel
theorem dL_law_17 : decode cL_law 17 = .ok (.iconst 3, 1) := by decide +kernel
theorem dL_law_18 : decode cL_law 18 = .ok (.invokestatic 33, 3) := by decide +kernel
theorem dL_law_21 : decode cL_law 21 = .ok (.iadd, 1) := by decide +kernel
theorem dL_law_22 : decode cL_law 22 = .ok (.invokevirtual 88, 3) := by decide +kernel
theorem dL_law_25 : decode cL_law 25 = .ok (.pop, 1) := by decide +kernel
theorem dL_law_26 : decode cL_law 26 = .ok (.aload_n 1, 1) := by decide +kernel
theorem dL_law_27 : decode cL_law 27 = .ok (.iconst 2, 1) := by decide +kernel
theorem dL_law_28 : decode cL_law 28 = .ok (.invokevirtual 88, 3) := by decide +kernel
theorem dL_law_31 : decode cL_law 31 = .ok (.pop, 1) := by decide +kernel
theorem dL_law_32 : decode cL_law 32 = .ok (.iconst 0, 1) := by decide +kernel
theorem dL_law_33 : decode cL_law 33 = .ok (.istore_n 3, 1) := by decide +kernel
theorem dL_law_34 : decode cL_law 34 = .ok (.iload_n 3, 1) := by decide +kernel
theorem dL_law_35 : decode cL_law 35 = .ok (.iconst 4, 1) := by decide +kernel
theorem dL_law_36 : decode cL_law 36 = .ok (.if_icmp .ge 40, 3) := by decide +kernel
theorem dL_law_39 : decode cL_law 39 = .ok (.aload_n 1, 1) := by decide +kernel
theorem dL_law_40 : decode cL_law 40 = .ok (.bipush 20, 2) := by decide +kernel
theorem dL_law_42 : decode cL_law 42 = .ok (.iload_n 2, 1) := by decide +kernel
theorem dL_law_43 : decode cL_law 43 = .ok (.iconst 3, 1) := by decide +kernel
theorem dL_law_44 : decode cL_law 44 = .ok (.iload_n 3, 1) := by decide +kernel
theorem dL_law_45 : decode cL_law 45 = .ok (.imul, 1) := by decide +kernel
theorem dL_law_46 : decode cL_law 46 = .ok (.ishr, 1) := by decide +kernel
theorem dL_law_47 : decode cL_law 47 = .ok (.bipush 90, 2) := by decide +kernel
theorem dL_law_49 : decode cL_law 49 = .ok (.invokestatic 33, 3) := by decide +kernel
theorem dL_law_52 : decode cL_law 52 = .ok (.iadd, 1) := by decide +kernel
theorem dL_law_53 : decode cL_law 53 = .ok (.bipush 6, 2) := by decide +kernel
theorem dL_law_55 : decode cL_law 55 = .ok (.iload_n 2, 1) := by decide +kernel
theorem dL_law_56 : decode cL_law 56 = .ok (.iconst 4, 1) := by decide +kernel
theorem dL_law_57 : decode cL_law 57 = .ok (.iload_n 3, 1) := by decide +kernel
theorem dL_law_58 : decode cL_law 58 = .ok (.imul, 1) := by decide +kernel
theorem dL_law_59 : decode cL_law 59 = .ok (.ishr, 1) := by decide +kernel
theorem dL_law_60 : decode cL_law 60 = .ok (.bipush 12, 2) := by decide +kernel
theorem dL_law_62 : decode cL_law 62 = .ok (.invokestatic 33, 3) := by decide +kernel
theorem dL_law_65 : decode cL_law 65 = .ok (.iadd, 1) := by decide +kernel
theorem dL_law_66 : decode cL_law 66 = .ok (.invokevirtual 38, 3) := by decide +kernel
theorem dL_law_69 : decode cL_law 69 = .ok (.pop, 1) := by decide +kernel
theorem dL_law_70 : decode cL_law 70 = .ok (.iinc 3 1, 3) := by decide +kernel
theorem dL_law_73 : decode cL_law 73 = .ok (.goto (-39), 3) := by decide +kernel
theorem dL_law_76 : decode cL_law 76 = .ok (.iconst 1, 1) := by decide +kernel
theorem dL_law_77 : decode cL_law 77 = .ok (.istore_n 3, 1) := by decide +kernel
theorem dL_law_78 : decode cL_law 78 = .ok (.iload_n 3, 1) := by decide +kernel
theorem dL_law_79 : decode cL_law 79 = .ok (.bipush 18, 2) := by decide +kernel
theorem dL_law_81 : decode cL_law 81 = .ok (.if_icmp .ge 155, 3) := by decide +kernel
theorem dL_law_84 : decode cL_law 84 = .ok (.aload_n 0, 1) := by decide +kernel
theorem dL_law_85 : decode cL_law 85 = .ok (.iload_n 3, 1) := by decide +kernel
theorem dL_law_86 : decode cL_law 86 = .ok (.invokestatic 84, 3) := by decide +kernel
theorem dL_law_89 : decode cL_law 89 = .ok (.istore 4, 2) := by decide +kernel
theorem dL_law_91 : decode cL_law 91 = .ok (.aload_n 1, 1) := by decide +kernel
theorem dL_law_92 : decode cL_law 92 = .ok (.invokestatic 76, 3) := by decide +kernel
theorem dL_law_95 : decode cL_law 95 = .ok (.lstore 5, 2) := by decide +kernel
theorem dL_law_97 : decode cL_law 97 = .ok (.aload_n 1, 1) := by decide +kernel
theorem dL_law_98 : decode cL_law 98 = .ok (.bipush 11, 2) := by decide +kernel
theorem dL_law_100 : decode cL_law 100 = .ok (.invokevirtual 12, 3) := by decide +kernel
theorem dL_law_103 : decode cL_law 103 = .ok (.istore 7, 2) := by decide +kernel
theorem dL_law_105 : decode cL_law 105 = .ok (.aload_n 1, 1) := by decide +kernel
theorem dL_law_106 : decode cL_law 106 = .ok (.bipush 6, 2) := by decide +kernel
theorem dL_law_108 : decode cL_law 108 = .ok (.invokevirtual 12, 3) := by decide +kernel
theorem dL_law_111 : decode cL_law 111 = .ok (.istore 8, 2) := by decide +kernel
theorem dL_law_113 : decode cL_law 113 = .ok (.aload_n 1, 1) := by decide +kernel
theorem dL_law_114 : decode cL_law 114 = .ok (.bipush 12, 2) := by decide +kernel
theorem dL_law_116 : decode cL_law 116 = .ok (.invokevirtual 12, 3) := by decide +kernel
theorem dL_law_119 : decode cL_law 119 = .ok (.istore 9, 2) := by decide +kernel
theorem dL_law_121 : decode cL_law 121 = .ok (.aload_n 1, 1) := by decide +kernel
theorem dL_law_122 : decode cL_law 122 = .ok (.invokevirtual 91, 3) := by decide +kernel
theorem dL_law_125 : decode cL_law 125 = .ok (.pop, 1) := by decide +kernel
theorem dL_law_126 : decode cL_law 126 = .ok (.aload_n 1, 1) := by decide +kernel
theorem dL_law_127 : decode cL_law 127 = .ok (.iload 4, 2) := by decide +kernel
theorem dL_law_129 : decode cL_law 129 = .ok (.invokestatic 94, 3) := by decide +kernel
theorem dL_law_132 : decode cL_law 132 = .ok (.istore 10, 2) := by decide +kernel
theorem dL_law_134 : decode cL_law 134 = .ok (.aload_n 1, 1) := by decide +kernel
theorem dL_law_135 : decode cL_law 135 = .ok (.iload 4, 2) := by decide +kernel
theorem dL_law_137 : decode cL_law 137 = .ok (.iload 10, 2) := by decide +kernel
theorem dL_law_139 : decode cL_law 139 = .ok (.iload 7, 2) := by decide +kernel
theorem dL_law_141 : decode cL_law 141 = .ok (.iload 8, 2) := by decide +kernel
theorem dL_law_143 : decode cL_law 143 = .ok (.iload 9, 2) := by decide +kernel
theorem dL_law_145 : decode cL_law 145 = .ok (.invokestatic 98, 3) := by decide +kernel
theorem dL_law_148 : decode cL_law 148 = .ok (.ifCond .eq 18, 3) := by decide +kernel
theorem dL_law_151 : decode cL_law 151 = .ok (.iload 10, 2) := by decide +kernel
theorem dL_law_153 : decode cL_law 153 = .ok (.ifCond .ge 15, 3) := by decide +kernel
theorem dL_law_156 : decode cL_law 156 = .ok (.aload_n 1, 1) := by decide +kernel
theorem dL_law_157 : decode cL_law 157 = .ok (.invokestatic 76, 3) := by decide +kernel
theorem dL_law_160 : decode cL_law 160 = .ok (.lload 5, 2) := by decide +kernel
theorem dL_law_162 : decode cL_law 162 = .ok (.lcmp, 1) := by decide +kernel
theorem dL_law_163 : decode cL_law 163 = .ok (.ifCond .eq 5, 3) := by decide +kernel
theorem dL_law_166 : decode cL_law 166 = .ok (.iconst 0, 1) := by decide +kernel
theorem dL_law_167 : decode cL_law 167 = .ok (.ireturn, 1) := by decide +kernel
theorem dL_law_168 : decode cL_law 168 = .ok (.iload 10, 2) := by decide +kernel
theorem dL_law_170 : decode cL_law 170 = .ok (.ifCond .lt 45, 3) := by decide +kernel
theorem dL_law_173 : decode cL_law 173 = .ok (.iload_n 3, 1) := by decide +kernel
theorem dL_law_174 : decode cL_law 174 = .ok (.iconst 3, 1) := by decide +kernel
theorem dL_law_175 : decode cL_law 175 = .ok (.iand, 1) := by decide +kernel
theorem dL_law_176 : decode cL_law 176 = .ok (.iconst 1, 1) := by decide +kernel
theorem dL_law_177 : decode cL_law 177 = .ok (.if_icmp .ne 38, 3) := by decide +kernel
theorem dL_law_180 : decode cL_law 180 = .ok (.aload_n 1, 1) := by decide +kernel
theorem dL_law_181 : decode cL_law 181 = .ok (.invokevirtual 80, 3) := by decide +kernel
theorem dL_law_184 : decode cL_law 184 = .ok (.pop, 1) := by decide +kernel
theorem dL_law_185 : decode cL_law 185 = .ok (.aload_n 1, 1) := by decide +kernel
theorem dL_law_186 : decode cL_law 186 = .ok (.invokestatic 76, 3) := by decide +kernel
theorem dL_law_189 : decode cL_law 189 = .ok (.lload 5, 2) := by decide +kernel
theorem dL_law_191 : decode cL_law 191 = .ok (.lcmp, 1) := by decide +kernel
theorem dL_law_192 : decode cL_law 192 = .ok (.ifCond .eq 5, 3) := by decide +kernel
theorem dL_law_195 : decode cL_law 195 = .ok (.iconst 0, 1) := by decide +kernel
theorem dL_law_196 : decode cL_law 196 = .ok (.ireturn, 1) := by decide +kernel
theorem dL_law_197 : decode cL_law 197 = .ok (.aload_n 1, 1) := by decide +kernel
theorem dL_law_198 : decode cL_law 198 = .ok (.invokevirtual 91, 3) := by decide +kernel
theorem dL_law_201 : decode cL_law 201 = .ok (.pop, 1) := by decide +kernel
theorem dL_law_202 : decode cL_law 202 = .ok (.aload_n 1, 1) := by decide +kernel
theorem dL_law_203 : decode cL_law 203 = .ok (.iload 4, 2) := by decide +kernel
theorem dL_law_205 : decode cL_law 205 = .ok (.invokestatic 94, 3) := by decide +kernel
theorem dL_law_208 : decode cL_law 208 = .ok (.iload 10, 2) := by decide +kernel
theorem dL_law_210 : decode cL_law 210 = .ok (.if_icmp .eq 5, 3) := by decide +kernel
theorem dL_law_213 : decode cL_law 213 = .ok (.iconst 0, 1) := by decide +kernel
theorem dL_law_214 : decode cL_law 214 = .ok (.ireturn, 1) := by decide +kernel
theorem dL_law_215 : decode cL_law 215 = .ok (.iload_n 3, 1) := by decide +kernel
theorem dL_law_216 : decode cL_law 216 = .ok (.iconst 1, 1) := by decide +kernel
theorem dL_law_217 : decode cL_law 217 = .ok (.iand, 1) := by decide +kernel
theorem dL_law_218 : decode cL_law 218 = .ok (.ifCond .ne 12, 3) := by decide +kernel
theorem dL_law_221 : decode cL_law 221 = .ok (.aload_n 1, 1) := by decide +kernel
theorem dL_law_222 : decode cL_law 222 = .ok (.invokestatic 102, 3) := by decide +kernel
theorem dL_law_225 : decode cL_law 225 = .ok (.ifCond .ne 5, 3) := by decide +kernel
theorem dL_law_228 : decode cL_law 228 = .ok (.iconst 0, 1) := by decide +kernel
theorem dL_law_229 : decode cL_law 229 = .ok (.ireturn, 1) := by decide +kernel
theorem dL_law_230 : decode cL_law 230 = .ok (.iinc 3 1, 3) := by decide +kernel
theorem dL_law_233 : decode cL_law 233 = .ok (.goto (-155), 3) := by decide +kernel
theorem dL_law_236 : decode cL_law 236 = .ok (.aload_n 1, 1) := by decide +kernel
theorem dL_law_237 : decode cL_law 237 = .ok (.invokevirtual 91, 3) := by decide +kernel
theorem dL_law_240 : decode cL_law 240 = .ok (.pop, 1) := by decide +kernel
theorem dL_law_241 : decode cL_law 241 = .ok (.aload_n 1, 1) := by decide +kernel
theorem dL_law_242 : decode cL_law 242 = .ok (.invokestatic 76, 3) := by decide +kernel
theorem dL_law_245 : decode cL_law 245 = .ok (.lstore_n 3, 1) := by decide +kernel
theorem dL_law_246 : decode cL_law 246 = .ok (.aload_n 1, 1) := by decide +kernel
theorem dL_law_247 : decode cL_law 247 = .ok (.bipush 9, 2) := by decide +kernel
theorem dL_law_249 : decode cL_law 249 = .ok (.iconst 5, 1) := by decide +kernel
theorem dL_law_250 : decode cL_law 250 = .ok (.invokevirtual 38, 3) := by decide +kernel
theorem dL_law_253 : decode cL_law 253 = .ok (.iconst (-1), 1) := by decide +kernel
theorem dL_law_254 : decode cL_law 254 = .ok (.if_icmp .ne 83, 3) := by decide +kernel
theorem dL_law_257 : decode cL_law 257 = .ok (.aload_n 1, 1) := by decide +kernel
theorem dL_law_258 : decode cL_law 258 = .ok (.bipush 7, 2) := by decide +kernel
theorem dL_law_260 : decode cL_law 260 = .ok (.invokevirtual 88, 3) := by decide +kernel
theorem dL_law_263 : decode cL_law 263 = .ok (.iconst (-1), 1) := by decide +kernel
theorem dL_law_264 : decode cL_law 264 = .ok (.if_icmp .ne 73, 3) := by decide +kernel
theorem dL_law_267 : decode cL_law 267 = .ok (.aload_n 1, 1) := by decide +kernel
theorem dL_law_268 : decode cL_law 268 = .ok (.bipush 65, 2) := by decide +kernel
theorem dL_law_270 : decode cL_law 270 = .ok (.invokevirtual 41, 3) := by decide +kernel
theorem dL_law_273 : decode cL_law 273 = .ok (.iconst (-1), 1) := by decide +kernel
theorem dL_law_274 : decode cL_law 274 = .ok (.if_icmp .ne 63, 3) := by decide +kernel
theorem dL_law_277 : decode cL_law 277 = .ok (.aload_n 1, 1) := by decide +kernel
theorem dL_law_278 : decode cL_law 278 = .ok (.iconst 0, 1) := by decide +kernel
theorem dL_law_279 : decode cL_law 279 = .ok (.invokevirtual 67, 3) := by decide +kernel
theorem dL_law_282 : decode cL_law 282 = .ok (.iconst (-1), 1) := by decide +kernel
theorem dL_law_283 : decode cL_law 283 = .ok (.if_icmp .ne 54, 3) := by decide +kernel
theorem dL_law_286 : decode cL_law 286 = .ok (.aload_n 1, 1) := by decide +kernel
theorem dL_law_287 : decode cL_law 287 = .ok (.iconst 2, 1) := by decide +kernel
theorem dL_law_288 : decode cL_law 288 = .ok (.iconst 1, 1) := by decide +kernel
theorem dL_law_289 : decode cL_law 289 = .ok (.iconst 1, 1) := by decide +kernel
theorem dL_law_290 : decode cL_law 290 = .ok (.iconst 1, 1) := by decide +kernel
theorem dL_law_291 : decode cL_law 291 = .ok (.iconst 0, 1) := by decide +kernel
theorem dL_law_292 : decode cL_law 292 = .ok (.invokevirtual 44, 3) := by decide +kernel
theorem dL_law_295 : decode cL_law 295 = .ok (.iconst (-1), 1) := by decide +kernel
theorem dL_law_296 : decode cL_law 296 = .ok (.if_icmp .ne 41, 3) := by decide +kernel
theorem dL_law_299 : decode cL_law 299 = .ok (.aload_n 1, 1) := by decide +kernel
theorem dL_law_300 : decode cL_law 300 = .ok (.bipush 20, 2) := by decide +kernel
theorem dL_law_302 : decode cL_law 302 = .ok (.iconst 0, 1) := by decide +kernel
theorem dL_law_303 : decode cL_law 303 = .ok (.invokevirtual 18, 3) := by decide +kernel
theorem dL_law_306 : decode cL_law 306 = .ok (.iconst (-1), 1) := by decide +kernel
theorem dL_law_307 : decode cL_law 307 = .ok (.if_icmp .ne 30, 3) := by decide +kernel
theorem dL_law_310 : decode cL_law 310 = .ok (.aload_n 1, 1) := by decide +kernel
theorem dL_law_311 : decode cL_law 311 = .ok (.bipush 10, 2) := by decide +kernel
theorem dL_law_313 : decode cL_law 313 = .ok (.invokevirtual 73, 3) := by decide +kernel
theorem dL_law_316 : decode cL_law 316 = .ok (.iconst (-1), 1) := by decide +kernel
theorem dL_law_317 : decode cL_law 317 = .ok (.if_icmp .ne 20, 3) := by decide +kernel
theorem dL_law_320 : decode cL_law 320 = .ok (.aload_n 1, 1) := by decide +kernel
theorem dL_law_321 : decode cL_law 321 = .ok (.iconst 1, 1) := by decide +kernel
theorem dL_law_322 : decode cL_law 322 = .ok (.invokevirtual 106, 3) := by decide +kernel
theorem dL_law_325 : decode cL_law 325 = .ok (.ifCond .ne 12, 3) := by decide +kernel
theorem dL_law_328 : decode cL_law 328 = .ok (.aload_n 1, 1) := by decide +kernel
theorem dL_law_329 : decode cL_law 329 = .ok (.invokestatic 76, 3) := by decide +kernel
theorem dL_law_332 : decode cL_law 332 = .ok (.lload_n 3, 1) := by decide +kernel
theorem dL_law_333 : decode cL_law 333 = .ok (.lcmp, 1) := by decide +kernel
theorem dL_law_334 : decode cL_law 334 = .ok (.ifCond .eq 5, 3) := by decide +kernel
theorem dL_law_337 : decode cL_law 337 = .ok (.iconst 0, 1) := by decide +kernel
theorem dL_law_338 : decode cL_law 338 = .ok (.ireturn, 1) := by decide +kernel
theorem dL_law_339 : decode cL_law 339 = .ok (.aload_n 1, 1) := by decide +kernel
theorem dL_law_340 : decode cL_law 340 = .ok (.invokestatic 102, 3) := by decide +kernel
theorem dL_law_343 : decode cL_law 343 = .ok (.ifCond .eq 14, 3) := by decide +kernel
theorem dL_law_346 : decode cL_law 346 = .ok (.aload_n 1, 1) := by decide +kernel
theorem dL_law_347 : decode cL_law 347 = .ok (.invokestatic 109, 3) := by decide +kernel
theorem dL_law_350 : decode cL_law 350 = .ok (.ifCond .eq 7, 3) := by decide +kernel
theorem dL_law_353 : decode cL_law 353 = .ok (.iconst 1, 1) := by decide +kernel
theorem dL_law_354 : decode cL_law 354 = .ok (.goto 4, 3) := by decide +kernel
theorem dL_law_357 : decode cL_law 357 = .ok (.iconst 0, 1) := by decide +kernel
theorem dL_law_358 : decode cL_law 358 = .ok (.ireturn, 1) := by decide +kernel
end
section
/-! THE LAYER: an abstract heap; functions that say what a piece of code does; rows that tie each of them to the machine -/
abbrev zX : Type := (Nat × (Nat → Int32)) ⊕ ((Nat × Nat × (Nat → Option Nat)) ⊕ ((Nat × List Value) ⊕ (Nat × (Nat → Int32))))
/-- the next address, and what each address holds -/
abbrev zH : Type := Nat × (Nat → Option zX)
abbrev xI (n : Nat) (f : Nat → Int32) : zX := .inl (n, f)
abbrev xR (ci n : Nat) (f : Nat → Option Nat) : zX := .inr (.inl (ci, n, f))
abbrev xO (ci : Nat) (fs : List Value) : zX := .inr (.inr (.inl (ci, fs)))
abbrev xS (n : Nat) (f : Nat → Int32) : zX := .inr (.inr (.inr (n, f)))
def zE (Z : Nat → ClassId) (y : zX) : va_E := match y with
  | .inl (n, f) => .inl (Z 100, n, .inl f)
  | .inr (.inl (ci, n, f)) => .inl (Z ci, n, .inr (.inr (.inr (.inr f))))
  | .inr (.inr (.inl (ci, fs))) => .inr (ci, fs)
  | .inr (.inr (.inr (n, f))) => .inl (Z 100, n, .inl f)
abbrev zTys (Z : Nat → ClassId) : List (ClassId × FieldType) := [(Z 100, .int), (Z 3, .object RX3), (Z 4, .object RX4), (Z 5, .object RX5)]
def zAt (D : va_G) (Z : Nat → ClassId) (U : State) (a : Nat) (H : Heap) (y : zX) : Prop := match y with
  | .inl (n, f) => va_at D vwCl (a, zE Z (xI n f)) H
  | .inr (.inl (ci, n, f)) => va_at D vwCl (a, zE Z (xR ci n f)) H
  | .inr (.inr (.inl (ci, fs))) => va_at D vwCl (a, zE Z (xO ci fs)) H
  | .inr (.inr (.inr (n, f))) => va_X a n f U H
def zOwn (y : zX) : Prop := match y with
  | .inr (.inr (.inr _)) => False
  | _ => True
/-- the heap is as h says -/
def zW (D : va_G) (Z : Nat → ClassId) (B0 : Nat) (U : State) (h : zH) (H : Heap) : Prop := H.size = h.1 ∧ ∀ (a : Nat) (y : zX), h.2 a = some y → zAt D Z U a H y ∧ (zOwn y → B0 ≤ a)
/-- what the tables say, for all methods alike -/
def zHas (w : Cond) : Prop := w ∈ lw_tbl ∧ goodWord w = true
def zK (D : va_G) (Z : Nat → ClassId) (U : State) : Prop := va_K D vwCl (zTys Z) U ∧ (∀ w, zHas w → w.before #[] U = true) ∧ (∀ (a : String) (i : Nat) (y : MethodName) (o : String), Cond.methodLinkNest a i y o ∈ lw_tbl → va_Nw (.methodLinkNest a i y o) U) ∧ ∀ C : String, Cond.arrayOver (.object C) ∈ lw_tbl → va_AO C U
abbrev zM : Type := ByteArray × String × Nat × Option FieldType × Room × Bool
abbrev zC : Type := Program × Launch × Env × State × MethodId × Array Value × List Frame × Method × Code × va_G × (Nat → ClassId) × Nat
def zCx (M : zM) (x : zC) : Prop := match x with
  | (p, _, _, s, m, _, _, meth, c, D, Z, B0) => p.tables.exec = Jvm.exec ∧ c.code = M.1 ∧ c.maxLocals = M.2.2.1 ∧ s.vm.findClass M.2.1 = some m.cls ∧ zK D Z s ∧ meth.sig.returnType = M.2.2.2.1 ∧ meth.locks = false ∧ (M.2.2.2.2.2 = true → meth.name = "<init>") ∧ B0 ≤ s.heap.size
/-- the locals: a long stands at its number, and .null (no local of ours is null) at the next -/
def zL (ls : Array Slot) (nL : Nat) (en : List Value) : Prop := ls.size = nL ∧ lv_wf ls ∧ ∀ (i : Nat) (v : Value), en[i]? = some v → v ≠ .null → ls[i]? = some (.val v)
/-- from here, at this heap, these locals, this stack, the machine comes to Q -/
def zG (M : zM) (x : zC) (k n : Nat) (Q : State → Prop) (h : zH) (en : List Value) (pc : Nat) (st : List Value) : Prop := match x with
  | (p, l, e, s, m, args, below, meth, c, D, Z, B0) => (k ≤ M.2.2.2.2.1.cells ∧ n ≤ M.2.2.2.2.1.slots) → ∀ (H : Heap) (locs : List Loc) (ls : Array Slot), zW D Z B0 s h H → va_S (fun q => B0 ≤ q) s.heap H locs → zL ls M.2.2.1 en → W p l e M.2.2.2.2.1 s m args below meth c H locs k n Q (F0 m pc ls st)
abbrev zcat (st : List Value) : Nat := (st.map fun v => v.category).sum
abbrev zEI : Type := List Value → zH → Option (Int32 × zH)
abbrev zER : Type := List Value → zH → Option (Nat × zH)
abbrev zEB : Type := List Value → zH → Option (Bool × zH)
abbrev zEA : Type := List Value → zH → Option (List Value × zH)
abbrev zSR : Type := (List Value × zH) ⊕ (Option Int32 × zH)
abbrev zSS : Type := List Value → zH → Option zSR
/-! the judgements -/
def eiOk (M : zM) (d pc pc' : Nat) (f : zEI) : Prop := ∀ x, zCx M x → ∀ (k n : Nat) (Q : State → Prop) (h : zH) (en st : List Value) (v : Int32) (h' : zH), f en h = some (v, h') → zcat st ≤ d → zG M x k n Q h' en pc' (.int v :: st) → zG M x k n Q h en pc st
def erOk (M : zM) (d pc pc' : Nat) (f : zER) : Prop := ∀ x, zCx M x → ∀ (k n : Nat) (Q : State → Prop) (h : zH) (en st : List Value) (v : Nat) (h' : zH), f en h = some (v, h') → zcat st ≤ d → zG M x k n Q h' en pc' (.ref v :: st) → zG M x k n Q h en pc st
def ebOk (M : zM) (d pc pT pF : Nat) (f : zEB) : Prop := ∀ x, zCx M x → ∀ (k n : Nat) (Q : State → Prop) (h : zH) (en st : List Value) (v : Bool) (h' : zH), f en h = some (v, h') → zcat st ≤ d → zG M x k n Q h' en (if v = true then pT else pF) st → zG M x k n Q h en pc st
def eaOk (M : zM) (d pc pc' N : Nat) (f : zEA) : Prop := ∀ x, zCx M x → ∀ (k n : Nat) (Q : State → Prop) (h : zH) (en st : List Value) (v : List Value) (h' : zH), f en h = some (v, h') → zcat st ≤ d → (v.length = N ∧ ∀ w ∈ v, w.category = 1) ∧ (zG M x k n Q h' en pc' (v.reverse ++ st) → zG M x k n Q h en pc st)
def zCont (M : zM) (x : zC) (k n : Nat) (Q : State → Prop) (pc' : Nat) (r : zSR) : Prop := match r with
  | .inl (en', h') => zG M x k n Q h' en' pc' []
  | .inr (some v, h') => ∀ pc, decode M.1 pc = .ok (.ireturn, 1) → zG M x k n Q h' [] pc [.int v]
  | .inr (none, h') => ∀ pc, decode M.1 pc = .ok (.return_, 1) → zG M x k n Q h' [] pc []
def ssOk (M : zM) (pc pc' : Nat) (f : zSS) : Prop := ∀ x, zCx M x → ∀ (k n : Nat) (Q : State → Prop) (h : zH) (en : List Value) (r : zSR), f en h = some r → zCont M x k n Q pc' r → zG M x k n Q h en pc []
/-! small facts -/
theorem zL.sub {ls : Array Slot} {nL : Nat} {en en' : List Value} (h : zL ls nL en) (hs : ∀ (i : Nat) (v : Value), en'[i]? = some v → en[i]? = some v) : zL ls nL en' := ⟨h.1, h.2.1, fun i v hv hn => h.2.2 i v (hs i v hv) hn⟩
theorem zG.sub {M : zM} {x : zC} {k n : Nat} {Q : State → Prop} {h : zH} {en en' : List Value} {pc : Nat} {st : List Value} (g : zG M x k n Q h en' pc st) (hs : ∀ (i : Nat) (v : Value), en'[i]? = some v → en[i]? = some v) : zG M x k n Q h en pc st := by
  obtain ⟨p, l, e, s, m, args, below, meth, c, D, Z, B0⟩ := x
  intro hkn H locs ls hW hS hl
  exact g hkn H locs ls hW hS (hl.sub hs)
theorem zG.nil {M : zM} {x : zC} {k n : Nat} {Q : State → Prop} {h : zH} {en : List Value} {pc : Nat} {st : List Value} (g : zG M x k n Q h [] pc st) : zG M x k n Q h en pc st := g.sub (fun i v hv => by simp at hv)
theorem zG.take {M : zM} {x : zC} {k n : Nat} {Q : State → Prop} {h : zH} {en : List Value} {pc : Nat} {st : List Value} (j : Nat) (g : zG M x k n Q h (en.take j) pc st) : zG M x k n Q h en pc st := g.sub (fun i v hv => by
  rw [List.getElem?_take] at hv
  split at hv
  · exact hv
  · cases hv)
def zSt : List Value → Nat → Value → Option (List Value)
  | [], 0, v => some [v]
  | [], _ + 1, _ => none
  | _ :: t, 0, v => some (v :: t)
  | .long _ :: _, 1, _ => none
  | .double _ :: _, 1, _ => none
  | a :: t, k + 1, v => (zSt t k v).map (fun t' => a :: t')
theorem zSt_spec (v : Value) : ∀ (en : List Value) (k : Nat) (en' : List Value), zSt en k v = some en' → ∀ (j : Nat) (w : Value), en'[j]? = some w → (j = k ∧ w = v) ∨ (j ≠ k ∧ en[j]? = some w ∧ (j + 1 = k → w.category = 1)) := by
  intro en
  induction en with
  | nil =>
    intro k en' h j w hw
    cases k with
    | zero =>
      simp only [zSt, Option.some.injEq] at h
      subst h
      cases j with
      | zero => simp at hw; exact Or.inl ⟨rfl, hw.symm⟩
      | succ j => simp at hw
    | succ k => simp [zSt] at h
  | cons a t ih =>
    intro k en' h j w hw
    cases k with
    | zero =>
      simp only [zSt, Option.some.injEq] at h
      subst h
      cases j with
      | zero => simp at hw; exact Or.inl ⟨rfl, hw.symm⟩
      | succ j => exact Or.inr ⟨by omega, by simpa using hw, by omega⟩
    | succ k =>
      have h2 : (k = 0 → a.category = 1) ∧ ∃ t', zSt t k v = some t' ∧ a :: t' = en' := by
        cases k with
        | zero => cases a <;> simp_all [zSt, Value.category]
        | succ k =>
          refine ⟨by omega, ?_⟩
          cases a <;> simpa [zSt] using h
      obtain ⟨hc, t', h1, rfl⟩ := h2
      cases j with
      | zero =>
        simp at hw
        subst hw
        exact Or.inr ⟨by omega, rfl, fun e => hc (by omega)⟩
      | succ j =>
        rcases ih k t' h1 j w (by simpa using hw) with ⟨e1, e2⟩ | ⟨e1, e2, e3⟩
        · exact Or.inl ⟨by omega, e2⟩
        · exact Or.inr ⟨by omega, by simpa using e2, fun e => e3 (by omega)⟩
def zNn (v : Value) : Bool := match v with
  | .null => false
  | _ => true
theorem zNn_iff {v : Value} : zNn v = true ↔ v ≠ .null := by cases v <;> simp [zNn]
def zLv (en : List Value) : List (Nat × Value) := ((List.range en.length).map fun j => (j, en.getD j .null)).filter (fun q => zNn q.2)
theorem zLv_mem {en : List Value} {j : Nat} {w : Value} (h : en[j]? = some w) (hn : w ≠ .null) : (j, w) ∈ zLv en := List.mem_filter.mpr ⟨List.mem_map.mpr ⟨j, List.mem_range.mpr (List.getElem?_eq_some_iff.mp h).1, by simp [List.getD, h]⟩, zNn_iff.mpr hn⟩
theorem zLv_of {en : List Value} {q : Nat × Value} (h : q ∈ zLv en) : en[q.1]? = some q.2 ∧ q.2 ≠ .null := by
  obtain ⟨h0, hn⟩ := List.mem_filter.mp h
  obtain ⟨j, h1, h2⟩ := List.mem_map.mp h0
  have hj := List.mem_range.mp h1
  refine ⟨?_, zNn_iff.mp hn⟩
  subst h2
  simp [List.getD, List.getElem?_eq_getElem hj]
theorem zL.has {ls : Array Slot} {nL : Nat} {en : List Value} (h : zL ls nL en) : lv_has ls nL (zLv en) := ⟨h.1, h.2.1, fun q hq => h.2.2 q.1 q.2 (zLv_of hq).1 (zLv_of hq).2⟩
theorem zL.stored {ls ls' : Array Slot} {nL : Nat} {en en' : List Value} {i : Nat} {v : Value} (h : zL ls nL en) (hs : zSt en i v = some en') (hv : v.category = 1) (h' : lv_has ls' nL ((i, v) :: (zLv en).filter (fun q => !(q.1 == i) && !(q.1 + 1 == i && q.2.category == 2)))) : zL ls' nL en' := by
  refine ⟨h'.1, h'.2.1, fun j w hw hn => ?_⟩
  rcases zSt_spec v en i en' hs j w hw with ⟨e1, e2⟩ | ⟨e1, e2, e3⟩
  · subst e1; subst e2
    exact h'.2.2 (j, w) List.mem_cons_self
  · refine h'.2.2 (j, w) (List.mem_cons_of_mem _ (List.mem_filter.mpr ⟨zLv_mem e2 hn, ?_⟩))
    by_cases e : j + 1 = i
    · simp [e1, e3 e]
    · simp [e1, e]
theorem zW.moved {D : va_G} {Z : Nat → ClassId} {B0 : Nat} {u U : State} {h : zH} {H : Heap} (hvm : u.vm.Alike U.vm) (g : zW D Z B0 u h H) : zW D Z B0 U h H := by
  refine ⟨g.1, fun a y hy => ⟨?_, (g.2 a y hy).2⟩⟩
  have h1 := (g.2 a y hy).1
  match y, h1 with
  | .inl (n, f), h1 => exact h1
  | .inr (.inl (ci, n, f)), h1 => exact h1
  | .inr (.inr (.inl (ci, fs))), h1 => exact h1
  | .inr (.inr (.inr (n, f))), h1 => exact va_X.moved hvm h1
theorem zK.ts {D : va_G} {Z : Nat → ClassId} {U : State} (h : zK D Z U) (args : Array Value) {w : Cond} (hw : zHas w) : w.before args U = true := word_at (State.WarmedH.refl U) (good_of_word hw.2) (h.2.1 w hw)
theorem zK.moved {D : va_G} {Z : Nat → ClassId} {u U : State} (hW : u.WarmedH U.vm) (h : zK D Z u) : zK D Z U := ⟨va_K.moved hW.alike h.1, fun w hw => word_at hW (good_of_word hw.2) (h.2.1 w hw), fun a i y o ho => va_Nw.warmM hW (h.2.2.1 a i y o ho), fun C ho => va_AO.moved hW.alike (h.2.2.2 C ho)⟩
theorem zAt.kept {D : va_G} {Z : Nat → ClassId} {U : State} {a : Nat} {H H1 : Heap} {y : zX} (h : zAt D Z U a H y) (hq : H1[a]? = H[a]?) : zAt D Z U a H1 y := by
  match y, h with
  | .inl (n, f), h => exact va_at.kept (show va_at D vwCl (a, zE Z (xI n f)) H from h) hq
  | .inr (.inl (ci, n, f)), h => exact va_at.kept (show va_at D vwCl (a, zE Z (xR ci n f)) H from h) hq
  | .inr (.inr (.inl (ci, fs))), h => exact va_at.kept (show va_at D vwCl (a, zE Z (xO ci fs)) H from h) hq
  | .inr (.inr (.inr (n, f))), h => exact va_X.kept h hq
theorem zAt.lt {D : va_G} {Z : Nat → ClassId} {U : State} {a : Nat} {H : Heap} {y : zX} (h : zAt D Z U a H y) : a < H.size := by
  match y, h with
  | .inl (n, f), h => exact va_at.lt (show va_at D vwCl (a, zE Z (xI n f)) H from h)
  | .inr (.inl (ci, n, f)), h => exact va_at.lt (show va_at D vwCl (a, zE Z (xR ci n f)) H from h)
  | .inr (.inr (.inl (ci, fs))), h => exact va_at.lt (show va_at D vwCl (a, zE Z (xO ci fs)) H from h)
  | .inr (.inr (.inr (n, f))), h =>
    obtain ⟨scr, h1, -⟩ := h
    exact (Array.getElem?_eq_some_iff.mp h1).1
/-- one cell anew -/
theorem zW.set {D : va_G} {Z : Nat → ClassId} {B0 : Nat} {U : State} {h : zH} {H H1 : Heap} {a : Nat} {y : zX} (g : zW D Z B0 U h H) (hz : H1.size = H.size) (oq : ∀ q : Nat, q ≠ a → H1[q]? = H[q]?) (hy : zAt D Z U a H1 y) (ha : B0 ≤ a) : zW D Z B0 U (h.1, va_up h.2 a (some y)) H1 := by
  refine ⟨by rw [hz]; exact g.1, fun b w hw => ?_⟩
  by_cases hb : b = a
  · have hw2 : va_up h.2 a (some y) b = some w := hw
    rw [hb, va_up_self] at hw2
    cases hw2
    rw [hb]
    exact ⟨hy, fun _ => ha⟩
  · have hw' : h.2 b = some w := by
      rw [← hw]
      show _ = va_up h.2 a (some y) b
      rw [va_up_ne _ _ hb]
    exact ⟨(g.2 b w hw').1.kept (oq b hb), (g.2 b w hw').2⟩
/-- one cell more -/
theorem zW.push {D : va_G} {Z : Nat → ClassId} {B0 : Nat} {U : State} {h : zH} {H H1 : Heap} {y : zX} (g : zW D Z B0 U h H) (hz : H1.size = H.size + 1) (oq : ∀ q : Nat, q < H.size → H1[q]? = H[q]?) (hy : zAt D Z U H.size H1 y) (ha : B0 ≤ H.size) : zW D Z B0 U (h.1 + 1, va_up h.2 h.1 (some y)) H1 := by
  refine ⟨by rw [hz, g.1], fun b w hw => ?_⟩
  by_cases hb : b = h.1
  · have hw2 : va_up h.2 h.1 (some y) b = some w := hw
    rw [hb, va_up_self] at hw2
    cases hw2
    rw [hb, ← g.1]
    exact ⟨hy, fun _ => ha⟩
  · have hw' : h.2 b = some w := by
      rw [← hw]
      show _ = va_up h.2 h.1 (some y) b
      rw [va_up_ne _ _ hb]
    exact ⟨(g.2 b w hw').1.kept (oq b (g.2 b w hw').1.lt), (g.2 b w hw').2⟩
end
section
/-! ROWS: numbers, locals, arithmetic -/
section ZR1
variable {M : zM} {d pc p1 p2 p3 : Nat}
def eC (v : Int32) : zEI := fun _ h => some (v, h)
def eL (k : Nat) : zEI := fun en h => match en[k]? with
  | some (.int v) => some (v, h)
  | _ => none
def rL (k : Nat) : zER := fun en h => match en[k]? with
  | some (.ref v) => some (v, h)
  | _ => none
theorem eL_spec {k : Nat} {en : List Value} {h h' : zH} {v : Int32} (hf : eL k en h = some (v, h')) : en[k]? = some (.int v) ∧ h' = h := by
  unfold eL at hf
  split at hf
  · rename_i w hw
    cases hf
    exact ⟨hw, rfl⟩
  · cases hf
theorem rL_spec {k : Nat} {en : List Value} {h h' : zH} {v : Nat} (hf : rL k en h = some (v, h')) : en[k]? = some (.ref v) ∧ h' = h := by
  unfold rL at hf
  split at hf
  · rename_i w hw
    cases hf
    exact ⟨hw, rfl⟩
  · cases hf
theorem kC_ic {i : Int} {v : Int32} (hd : decode M.1 pc = .ok (.iconst i, 1)) (hv : Int32.ofInt i = v) : eiOk M d pc (pc + 1) (eC v) := by
  intro x X k n Q h en st v' h' hf hs g
  obtain ⟨p, l, e, s, m, args, below, meth, c, D, Z, B0⟩ := x
  cases hf
  intro hkn H locs ls hW hS hl
  exact lv_iconst X.1 X.2.1 hd hv (g hkn H locs ls hW hS hl)
theorem kC_bi {i : Int} {v : Int32} (hd : decode M.1 pc = .ok (.bipush i, 2)) (hv : (Int8.ofInt i).toInt32 = v) : eiOk M d pc (pc + 2) (eC v) := by
  intro x X k n Q h en st v' h' hf hs g
  obtain ⟨p, l, e, s, m, args, below, meth, c, D, Z, B0⟩ := x
  cases hf
  intro hkn H locs ls hW hS hl
  exact lv_bipush X.1 X.2.1 hd hv (g hkn H locs ls hW hS hl)
theorem kC_si {i : Int} {v : Int32} (hd : decode M.1 pc = .ok (.sipush i, 3)) (hv : (Int16.ofInt i).toInt32 = v) : eiOk M d pc (pc + 3) (eC v) := by
  intro x X k n Q h en st v' h' hf hs g
  obtain ⟨p, l, e, s, m, args, below, meth, c, D, Z, B0⟩ := x
  cases hf
  intro hkn H locs ls hW hS hl
  exact lv_sipush X.1 X.2.1 hd hv (g hkn H locs ls hW hS hl)
theorem kC_ldc {idx : Nat} {v : Int32} (hd : decode M.1 pc = .ok (.ldc idx, 2)) (hc : zHas (Cond.constant M.2.1 idx v)) : eiOk M d pc (pc + 2) (eC v) := by
  intro x X k n Q h en st v' h' hf hs g
  obtain ⟨p, l, e, s, m, args, below, meth, c, D, Z, B0⟩ := x
  cases hf
  intro hkn H locs ls hW hS hl
  exact lv_ldc X.1 X.2.1 X.2.2.2.1 (X.2.2.2.2.1.ts args hc) hd (g hkn H locs ls hW hS hl)
theorem kC_ldcw {idx : Nat} {v : Int32} (hd : decode M.1 pc = .ok (.ldc_w idx, 3)) (hc : zHas (Cond.constant M.2.1 idx v)) : eiOk M d pc (pc + 3) (eC v) := by
  intro x X k n Q h en st v' h' hf hs g
  obtain ⟨p, l, e, s, m, args, below, meth, c, D, Z, B0⟩ := x
  cases hf
  intro hkn H locs ls hW hS hl
  exact lv_ldcw X.1 X.2.1 X.2.2.2.1 (X.2.2.2.2.1.ts args hc) hd (g hkn H locs ls hW hS hl)
theorem kL_n {kk : Fin 4} {j : Nat} (hd : decode M.1 pc = .ok (.iload_n kk, 1)) (hj : (kk : Nat) = j) : eiOk M d pc (pc + 1) (eL j) := by
  intro x X k n Q h en st v' h' hf hs g
  obtain ⟨p, l, e, s, m, args, below, meth, c, D, Z, B0⟩ := x
  obtain ⟨h1, rfl⟩ := eL_spec hf
  intro hkn H locs ls hW hS hl
  exact lv_iload_n X.1 X.2.1 hd hj (hl.2.2 _ _ h1 (fun z => by cases z)) (g hkn H locs ls hW hS hl)
theorem kL {j : Nat} (hd : decode M.1 pc = .ok (.iload j, 2)) : eiOk M d pc (pc + 2) (eL j) := by
  intro x X k n Q h en st v' h' hf hs g
  obtain ⟨p, l, e, s, m, args, below, meth, c, D, Z, B0⟩ := x
  obtain ⟨h1, rfl⟩ := eL_spec hf
  intro hkn H locs ls hW hS hl
  exact lv_iload X.1 X.2.1 hd (hl.2.2 _ _ h1 (fun z => by cases z)) (g hkn H locs ls hW hS hl)
theorem kR_n {kk : Fin 4} {j : Nat} (hd : decode M.1 pc = .ok (.aload_n kk, 1)) (hj : (kk : Nat) = j) : erOk M d pc (pc + 1) (rL j) := by
  intro x X k n Q h en st v' h' hf hs g
  obtain ⟨p, l, e, s, m, args, below, meth, c, D, Z, B0⟩ := x
  obtain ⟨h1, rfl⟩ := rL_spec hf
  intro hkn H locs ls hW hS hl
  exact lv_aload_n X.1 X.2.1 hd hj (hl.2.2 _ _ h1 (fun z => by cases z)) (g hkn H locs ls hW hS hl)
theorem kR {j : Nat} (hd : decode M.1 pc = .ok (.aload j, 2)) : erOk M d pc (pc + 2) (rL j) := by
  intro x X k n Q h en st v' h' hf hs g
  obtain ⟨p, l, e, s, m, args, below, meth, c, D, Z, B0⟩ := x
  obtain ⟨h1, rfl⟩ := rL_spec hf
  intro hkn H locs ls hW hS hl
  exact lv_aload X.1 X.2.1 hd (hl.2.2 _ _ h1 (fun z => by cases z)) (g hkn H locs ls hW hS hl)
def eOp (o : Int32 → Int32 → Int32) (f g : zEI) : zEI := fun en h => (f en h).bind fun a => (g en a.2).bind fun b => some (o a.1 b.1, b.2)
theorem eOp_spec {o : Int32 → Int32 → Int32} {f g : zEI} {en : List Value} {h h' : zH} {v : Int32} (hf : eOp o f g en h = some (v, h')) : ∃ a h1 b, f en h = some (a, h1) ∧ g en h1 = some (b, h') ∧ v = o a b := by
  simp only [eOp, Option.bind_eq_some_iff] at hf
  obtain ⟨⟨a, h1⟩, e1, ⟨b, h2⟩, e2, e3⟩ := hf
  cases e3
  exact ⟨a, h1, b, e1, e2, rfl⟩
theorem zcat_int {d : Nat} {v : Int32} {st : List Value} (h : zcat st ≤ d) : zcat (.int v :: st) ≤ d + 1 := by
  simp only [zcat, List.map_cons, List.sum_cons, Value.category] at *
  omega
theorem zcat_ref {d : Nat} {v : Nat} {st : List Value} (h : zcat st ≤ d) : zcat (.ref v :: st) ≤ d + 1 := by
  simp only [zcat, List.map_cons, List.sum_cons, Value.category] at *
  omega
theorem kAdd {f g : zEI} (hf : eiOk M d pc p1 f) (hg : eiOk M (d + 1) p1 p2 g) (hd : decode M.1 p2 = .ok (.iadd, 1)) : eiOk M d pc (p2 + 1) (eOp (· + ·) f g) := by
  intro x X k n Q h en st v' h' hv hs q
  obtain ⟨a, h1, b, e1, e2, rfl⟩ := eOp_spec hv
  refine hf x X k n Q h en st a h1 e1 hs (hg x X k n Q h1 en _ b h' e2 (zcat_int hs) ?_)
  obtain ⟨p, l, e, s, m, args, below, meth, c, D, Z, B0⟩ := x
  intro hkn H locs ls hW hS hl
  exact lv_iadd X.1 X.2.1 hd (q hkn H locs ls hW hS hl)
theorem kSub {f g : zEI} (hf : eiOk M d pc p1 f) (hg : eiOk M (d + 1) p1 p2 g) (hd : decode M.1 p2 = .ok (.isub, 1)) : eiOk M d pc (p2 + 1) (eOp (· - ·) f g) := by
  intro x X k n Q h en st v' h' hv hs q
  obtain ⟨a, h1, b, e1, e2, rfl⟩ := eOp_spec hv
  refine hf x X k n Q h en st a h1 e1 hs (hg x X k n Q h1 en _ b h' e2 (zcat_int hs) ?_)
  obtain ⟨p, l, e, s, m, args, below, meth, c, D, Z, B0⟩ := x
  intro hkn H locs ls hW hS hl
  exact lv_isub X.1 X.2.1 hd (q hkn H locs ls hW hS hl)
theorem kMul {f g : zEI} (hf : eiOk M d pc p1 f) (hg : eiOk M (d + 1) p1 p2 g) (hd : decode M.1 p2 = .ok (.imul, 1)) : eiOk M d pc (p2 + 1) (eOp (· * ·) f g) := by
  intro x X k n Q h en st v' h' hv hs q
  obtain ⟨a, h1, b, e1, e2, rfl⟩ := eOp_spec hv
  refine hf x X k n Q h en st a h1 e1 hs (hg x X k n Q h1 en _ b h' e2 (zcat_int hs) ?_)
  obtain ⟨p, l, e, s, m, args, below, meth, c, D, Z, B0⟩ := x
  intro hkn H locs ls hW hS hl
  exact lv_imul X.1 X.2.1 hd (q hkn H locs ls hW hS hl)
theorem kAnd {f g : zEI} (hf : eiOk M d pc p1 f) (hg : eiOk M (d + 1) p1 p2 g) (hd : decode M.1 p2 = .ok (.iand, 1)) : eiOk M d pc (p2 + 1) (eOp (· &&& ·) f g) := by
  intro x X k n Q h en st v' h' hv hs q
  obtain ⟨a, h1, b, e1, e2, rfl⟩ := eOp_spec hv
  refine hf x X k n Q h en st a h1 e1 hs (hg x X k n Q h1 en _ b h' e2 (zcat_int hs) ?_)
  obtain ⟨p, l, e, s, m, args, below, meth, c, D, Z, B0⟩ := x
  intro hkn H locs ls hW hS hl
  exact lv_iand X.1 X.2.1 hd (q hkn H locs ls hW hS hl)
/-! reads of cells -/
def rdI (h : zH) (ci k a : Nat) : Option Int32 := match h.2 a with
  | some (.inr (.inr (.inl (c, fs)))) => if c = ci then (match fs[k]? with | some (.int v) => some v | _ => none) else none
  | _ => none
def rdR (h : zH) (ci k a : Nat) : Option Nat := match h.2 a with
  | some (.inr (.inr (.inl (c, fs)))) => if c = ci then (match fs[k]? with | some (.ref v) => some v | _ => none) else none
  | _ => none
def rdA (h : zH) (a : Nat) (i : Int32) : Option Int32 := match h.2 a with
  | some (.inl (n, f)) => if 0 ≤ i.toInt ∧ i.toInt < n then some (f i.toNatClampNeg) else none
  | _ => none
def rdS (h : zH) (a : Nat) (i : Int32) : Option Int32 := match h.2 a with
  | some (.inr (.inr (.inr (n, f)))) => if 0 ≤ i.toInt ∧ i.toInt < n then some (f i.toNatClampNeg) else none
  | _ => none
def rdQ (h : zH) (ci a : Nat) (i : Int32) : Option Nat := match h.2 a with
  | some (.inr (.inl (c, n, f))) => if c = ci ∧ 0 ≤ i.toInt ∧ i.toInt < n then f i.toNatClampNeg else none
  | _ => none
theorem rdI_spec {h : zH} {ci k a : Nat} {v : Int32} (hf : rdI h ci k a = some v) : ∃ fs, h.2 a = some (xO ci fs) ∧ fs[k]? = some (.int v) := by
  unfold rdI at hf
  split at hf
  · rename_i c fs hh
    split at hf
    · rename_i hc
      subst hc
      split at hf
      · rename_i w hw
        cases hf
        exact ⟨fs, hh, hw⟩
      · cases hf
    · cases hf
  · cases hf
theorem rdR_spec {h : zH} {ci k a : Nat} {v : Nat} (hf : rdR h ci k a = some v) : ∃ fs, h.2 a = some (xO ci fs) ∧ fs[k]? = some (.ref v) := by
  unfold rdR at hf
  split at hf
  · rename_i c fs hh
    split at hf
    · rename_i hc
      subst hc
      split at hf
      · rename_i w hw
        cases hf
        exact ⟨fs, hh, hw⟩
      · cases hf
    · cases hf
  · cases hf
theorem rdA_spec {h : zH} {a : Nat} {i v : Int32} (hf : rdA h a i = some v) : ∃ n f, h.2 a = some (xI n f) ∧ vp_in i n ∧ v = f i.toNatClampNeg := by
  unfold rdA at hf
  split at hf
  · rename_i n f hh
    split at hf
    · rename_i hc
      cases hf
      exact ⟨n, f, hh, vp_in_iff.mpr hc, rfl⟩
    · cases hf
  · cases hf
theorem rdS_spec {h : zH} {a : Nat} {i v : Int32} (hf : rdS h a i = some v) : ∃ n f, h.2 a = some (xS n f) ∧ vp_in i n ∧ v = f i.toNatClampNeg := by
  unfold rdS at hf
  split at hf
  · rename_i n f hh
    split at hf
    · rename_i hc
      cases hf
      exact ⟨n, f, hh, vp_in_iff.mpr hc, rfl⟩
    · cases hf
  · cases hf
theorem rdQ_spec {h : zH} {ci a v : Nat} {i : Int32} (hf : rdQ h ci a i = some v) : ∃ n f, h.2 a = some (xR ci n f) ∧ vp_in i n ∧ f i.toNatClampNeg = some v := by
  unfold rdQ at hf
  split at hf
  · rename_i c n f hh
    split at hf
    · rename_i hc
      obtain ⟨rfl, hc⟩ := hc
      exact ⟨n, f, hh, vp_in_iff.mpr hc, hf⟩
    · cases hf
  · cases hf
/-- a row of the table of classes -/
def zCl (ci : Nat) (C : String) (T : u_T) (N : Nat) (ty : Nat → FieldType) : Prop := vwCl[ci]? = some (C, T, N) ∧ (∀ w ∈ u_ws C T N, zHas w) ∧ (∀ k, k < N → parseFieldDescriptor (T k).2.2.1 = some (ty k)) ∧ (∀ a, a < N → ∀ b, b < N → a ≠ b → (T a).2.1 ≠ (T b).2.1)
theorem va_P1 {D : va_G} {q : Nat × va_E} {H : Heap} (h : va_at D vwCl q H) : va_P D vwCl [q] H := fun k q' hk => by
  cases k with
  | zero => cases hk; exact h
  | succ k => simp at hk
def eF (ci k : Nat) (o : zER) : zEI := fun en h => (o en h).bind fun a => (rdI a.2 ci k a.1).map fun v => (v, a.2)
def rF (ci k : Nat) (o : zER) : zER := fun en h => (o en h).bind fun a => (rdR a.2 ci k a.1).map fun v => (v, a.2)
theorem kF {ci kf N idx : Nat} {C : String} {T : u_T} {ty : Nat → FieldType} {o : zER} (ho : erOk M d pc p1 o) (hd : decode M.1 p1 = .ok (.getfield idx, 3)) (hc : zCl ci C T N ty) (hl : zHas (Cond.fieldLink M.2.1 idx (T kf).1 (T kf).2.1 (T kf).2.2.1)) (hk : kf < N) : eiOk M d pc (p1 + 3) (eF ci kf o) := by
  intro x X k n Q h en st v' h' hv hs q
  simp only [eF, Option.bind_eq_some_iff, Option.map_eq_some_iff] at hv
  obtain ⟨⟨a, h1⟩, e1, w, e2, e3⟩ := hv
  cases e3
  refine ho x X k n Q h en st a h1 e1 hs ?_
  obtain ⟨fs, g1, g2⟩ := rdI_spec e2
  obtain ⟨p, l, e, s, m, args, below, meth, c, D, Z, B0⟩ := x
  intro hkn H locs ls hW hS hl'
  exact va_get (D := D) (ci := ci) (ws := [(a, .inr (ci, fs))]) (C := C) (T := T) (N := N) X.1 X.2.1 (fun w hw => X.2.2.2.2.1.ts args (hc.2.1 w hw)) (fun _ hw => hw) X.2.2.2.1 X.2.2.2.2.1.1 (va_P1 (hW.2 a _ g1).1) 0 rfl hc.1 kf hk (X.2.2.2.2.1.ts args hl) (fun _ z => z) g2 hd (q hkn H locs ls hW hS hl')
theorem kRF {ci kf N idx : Nat} {C : String} {T : u_T} {ty : Nat → FieldType} {o : zER} (ho : erOk M d pc p1 o) (hd : decode M.1 p1 = .ok (.getfield idx, 3)) (hc : zCl ci C T N ty) (hl : zHas (Cond.fieldLink M.2.1 idx (T kf).1 (T kf).2.1 (T kf).2.2.1)) (hk : kf < N) : erOk M d pc (p1 + 3) (rF ci kf o) := by
  intro x X k n Q h en st v' h' hv hs q
  simp only [rF, Option.bind_eq_some_iff, Option.map_eq_some_iff] at hv
  obtain ⟨⟨a, h1⟩, e1, w, e2, e3⟩ := hv
  cases e3
  refine ho x X k n Q h en st a h1 e1 hs ?_
  obtain ⟨fs, g1, g2⟩ := rdR_spec e2
  obtain ⟨p, l, e, s, m, args, below, meth, c, D, Z, B0⟩ := x
  intro hkn H locs ls hW hS hl'
  exact va_get (D := D) (ci := ci) (ws := [(a, .inr (ci, fs))]) (C := C) (T := T) (N := N) X.1 X.2.1 (fun w hw => X.2.2.2.2.1.ts args (hc.2.1 w hw)) (fun _ hw => hw) X.2.2.2.1 X.2.2.2.2.1.1 (va_P1 (hW.2 a _ g1).1) 0 rfl hc.1 kf hk (X.2.2.2.2.1.ts args hl) (fun _ z => z) g2 hd (q hkn H locs ls hW hS hl')
def eA (o : zER) (i : zEI) : zEI := fun en h => (o en h).bind fun a => (i en a.2).bind fun b => (rdA b.2 a.1 b.1).map fun v => (v, b.2)
def eS (o : zER) (i : zEI) : zEI := fun en h => (o en h).bind fun a => (i en a.2).bind fun b => (rdS b.2 a.1 b.1).map fun v => (v, b.2)
def rQ (ci : Nat) (o : zER) (i : zEI) : zER := fun en h => (o en h).bind fun a => (i en a.2).bind fun b => (rdQ b.2 ci a.1 b.1).map fun v => (v, b.2)
theorem kA {o : zER} {i : zEI} (ho : erOk M d pc p1 o) (hi : eiOk M (d + 1) p1 p2 i) (hd : decode M.1 p2 = .ok (.iaload, 1)) : eiOk M d pc (p2 + 1) (eA o i) := by
  intro x X k n Q h en st v' h' hv hs q
  simp only [eA, Option.bind_eq_some_iff, Option.map_eq_some_iff] at hv
  obtain ⟨⟨a, h1⟩, e1, ⟨b, h2⟩, e2, w, e3, e4⟩ := hv
  cases e4
  refine ho x X k n Q h en st a h1 e1 hs (hi x X k n Q h1 en _ b h2 e2 (zcat_ref hs) ?_)
  obtain ⟨N, f, g1, g2, g3⟩ := rdA_spec e3
  subst g3
  obtain ⟨p, l, e, s, m, args, below, meth, c, D, Z, B0⟩ := x
  intro hkn H locs ls hW hS hl'
  exact va_iald (D := D) (cl := vwCl) (tys := zTys Z) (ws := [(a, .inl (Z 100, N, .inl f))]) X.1 X.2.1 X.2.2.2.2.1.1 (va_P1 (hW.2 a _ g1).1) 0 0 rfl rfl g2 hd (q hkn H locs ls hW hS hl')
theorem kS {o : zER} {i : zEI} (ho : erOk M d pc p1 o) (hi : eiOk M (d + 1) p1 p2 i) (hd : decode M.1 p2 = .ok (.iaload, 1)) : eiOk M d pc (p2 + 1) (eS o i) := by
  intro x X k n Q h en st v' h' hv hs q
  simp only [eS, Option.bind_eq_some_iff, Option.map_eq_some_iff] at hv
  obtain ⟨⟨a, h1⟩, e1, ⟨b, h2⟩, e2, w, e3, e4⟩ := hv
  cases e4
  refine ho x X k n Q h en st a h1 e1 hs (hi x X k n Q h1 en _ b h2 e2 (zcat_ref hs) ?_)
  obtain ⟨N, f, g1, g2, g3⟩ := rdS_spec e3
  subst g3
  obtain ⟨p, l, e, s, m, args, below, meth, c, D, Z, B0⟩ := x
  intro hkn H locs ls hW hS hl'
  obtain ⟨scr, k1, k2, k3, k4, k5⟩ := (hW.2 a _ g1).1
  have hlt : b.toNatClampNeg < N := Nat.not_le.mp fun z => g2 (Or.inr z)
  exact W.iald (v := .int (f b.toNatClampNeg)) X.1 X.2.1 k1 k2 k3 (by rw [k4]; exact g2) (k5 _ hlt) rfl rfl hd (q hkn H locs ls hW hS hl')
theorem zTys_at {Z : Nat → ClassId} {ci : Nat} {C : String} (h : (ci = 3 ∧ C = RX3) ∨ (ci = 4 ∧ C = RX4) ∨ (ci = 5 ∧ C = RX5)) : ∃ t0 : Nat, (zTys Z)[t0]? = some (Z ci, FieldType.object C) := by
  rcases h with ⟨rfl, rfl⟩ | ⟨rfl, rfl⟩ | ⟨rfl, rfl⟩
  · exact ⟨1, rfl⟩
  · exact ⟨2, rfl⟩
  · exact ⟨3, rfl⟩
theorem kQ {ci : Nat} {C : String} {o : zER} {i : zEI} (ho : erOk M d pc p1 o) (hi : eiOk M (d + 1) p1 p2 i) (hd : decode M.1 p2 = .ok (.aaload, 1)) (hC : (ci = 3 ∧ C = RX3) ∨ (ci = 4 ∧ C = RX4) ∨ (ci = 5 ∧ C = RX5)) : erOk M d pc (p2 + 1) (rQ ci o i) := by
  intro x X k n Q h en st v' h' hv hs q
  simp only [rQ, Option.bind_eq_some_iff, Option.map_eq_some_iff] at hv
  obtain ⟨⟨a, h1⟩, e1, ⟨b, h2⟩, e2, w, e3, e4⟩ := hv
  cases e4
  refine ho x X k n Q h en st a h1 e1 hs (hi x X k n Q h1 en _ b h2 e2 (zcat_ref hs) ?_)
  obtain ⟨N, f, g1, g2, g3⟩ := rdQ_spec e3
  obtain ⟨p, l, e, s, m, args, below, meth, c, D, Z, B0⟩ := x
  intro hkn H locs ls hW hS hl'
  obtain ⟨t0, ht0⟩ := zTys_at (Z := Z) hC
  have q' := q hkn H locs ls hW hS hl'
  rw [show (Value.ref v') = va_rf (f b.toNatClampNeg) by rw [g3]; rfl] at q'
  exact va_aldq (D := D) (cl := vwCl) (tys := zTys Z) (ws := [(a, .inl (Z ci, N, .inr (.inr (.inr (.inr f)))))]) X.1 X.2.1 X.2.2.2.2.1.1 (va_P1 (hW.2 a _ g1).1) 0 t0 rfl ht0 g2 hd q'
end ZR1
end
section
/-! ROWS: conditions -/
section ZR2
variable {M : zM} {d pc p1 p2 p3 pT pF : Nat}
def bCmp (o : Int32 → Int32 → Bool) (f g : zEI) : zEB := fun en h => (f en h).bind fun a => (g en a.2).bind fun b => some (o a.1 b.1, b.2)
def bZ (o : Int32 → Bool) (f : zEI) : zEB := fun en h => (f en h).map fun a => (o a.1, a.2)
def o_eq (a b : Int32) : Bool := decide (a = b)
def o_ne (a b : Int32) : Bool := decide (a ≠ b)
def o_lt (a b : Int32) : Bool := decide (a < b)
def o_ge (a b : Int32) : Bool := decide (b ≤ a)
def o_gt (a b : Int32) : Bool := decide (b < a)
def o_le (a b : Int32) : Bool := decide (a ≤ b)
def z_eq (a : Int32) : Bool := decide (a = 0)
def z_ne (a : Int32) : Bool := decide (a ≠ 0)
def z_lt (a : Int32) : Bool := decide (a < 0)
def z_ge (a : Int32) : Bool := decide (0 ≤ a)
def z_gt (a : Int32) : Bool := decide (0 < a)
def z_le (a : Int32) : Bool := decide (a ≤ 0)
theorem bCmp_spec {o : Int32 → Int32 → Bool} {f g : zEI} {en : List Value} {h h' : zH} {v : Bool} (hf : bCmp o f g en h = some (v, h')) : ∃ a h1 b, f en h = some (a, h1) ∧ g en h1 = some (b, h') ∧ v = o a b := by
  simp only [bCmp, Option.bind_eq_some_iff] at hf
  obtain ⟨⟨a, h1⟩, e1, ⟨b, h2⟩, e2, e3⟩ := hf
  cases e3
  exact ⟨a, h1, b, e1, e2, rfl⟩
theorem bZ_spec {o : Int32 → Bool} {f : zEI} {en : List Value} {h h' : zH} {v : Bool} (hf : bZ o f en h = some (v, h')) : ∃ a, f en h = some (a, h') ∧ v = o a := by
  simp only [bZ, Option.map_eq_some_iff] at hf
  obtain ⟨⟨a, h1⟩, e1, e2⟩ := hf
  cases e2
  exact ⟨a, e1, rfl⟩
theorem kB_eqT {f g : zEI} {off : Int} (hf : eiOk M d pc p1 f) (hg : eiOk M (d + 1) p1 p2 g) (hd : decode M.1 p2 = .ok (.if_icmp .eq off, 3)) (ht : (p2 : Int) + off = (pT : Int)) (hn : p2 + 3 = pF) : ebOk M d pc pT pF (bCmp o_eq f g) := by
  intro x X k n Q h en st v h' hv hs q
  obtain ⟨a, h1, b, e1, e2, rfl⟩ := bCmp_spec hv
  refine hf x X k n Q h en st a h1 e1 hs (hg x X k n Q h1 en _ b h' e2 (zcat_int hs) ?_)
  obtain ⟨p, l, e, s, m, args, below, meth, c, D, Z, B0⟩ := x
  intro hkn H locs ls hW hS hl
  subst hn
  refine lv_icmp_eq X.1 X.2.1 hd ht (fun z => ?_) (fun z => ?_)
  · have z' : o_eq a b = true := by
      simp only [o_eq, decide_eq_true_eq, decide_eq_false_iff_not]
      first | exact z | (simp only [Int32.lt_iff_toInt_lt, Int32.le_iff_toInt_le, ne_eq, Classical.not_not] at *; first | exact z | omega)
    rw [z'] at q
    exact q hkn H locs ls hW hS hl
  · have z' : o_eq a b = false := by
      simp only [o_eq, decide_eq_true_eq, decide_eq_false_iff_not]
      first | exact z | (simp only [Int32.lt_iff_toInt_lt, Int32.le_iff_toInt_le, ne_eq, Classical.not_not] at *; first | exact z | omega)
    rw [z'] at q
    exact q hkn H locs ls hW hS hl
theorem kZ_eqT {f : zEI} {off : Int} (hf : eiOk M d pc p1 f) (hd : decode M.1 p1 = .ok (.ifCond .eq off, 3)) (ht : (p1 : Int) + off = (pT : Int)) (hn : p1 + 3 = pF) : ebOk M d pc pT pF (bZ z_eq f) := by
  intro x X k n Q h en st v h' hv hs q
  obtain ⟨a, e1, rfl⟩ := bZ_spec hv
  refine hf x X k n Q h en st a h' e1 hs ?_
  obtain ⟨p, l, e, s, m, args, below, meth, c, D, Z, B0⟩ := x
  intro hkn H locs ls hW hS hl
  subst hn
  refine lv_if_eq X.1 X.2.1 hd ht (fun z => ?_) (fun z => ?_)
  · have z' : z_eq a = true := by
      simp only [z_eq, decide_eq_true_eq, decide_eq_false_iff_not]
      first | exact z | (simp only [Int32.lt_iff_toInt_lt, Int32.le_iff_toInt_le, ne_eq, Classical.not_not] at *; first | exact z | omega)
    rw [z'] at q
    exact q hkn H locs ls hW hS hl
  · have z' : z_eq a = false := by
      simp only [z_eq, decide_eq_true_eq, decide_eq_false_iff_not]
      first | exact z | (simp only [Int32.lt_iff_toInt_lt, Int32.le_iff_toInt_le, ne_eq, Classical.not_not] at *; first | exact z | omega)
    rw [z'] at q
    exact q hkn H locs ls hW hS hl
theorem kB_eqF {f g : zEI} {off : Int} (hf : eiOk M d pc p1 f) (hg : eiOk M (d + 1) p1 p2 g) (hd : decode M.1 p2 = .ok (.if_icmp .ne off, 3)) (ht : (p2 : Int) + off = (pF : Int)) (hn : p2 + 3 = pT) : ebOk M d pc pT pF (bCmp o_eq f g) := by
  intro x X k n Q h en st v h' hv hs q
  obtain ⟨a, h1, b, e1, e2, rfl⟩ := bCmp_spec hv
  refine hf x X k n Q h en st a h1 e1 hs (hg x X k n Q h1 en _ b h' e2 (zcat_int hs) ?_)
  obtain ⟨p, l, e, s, m, args, below, meth, c, D, Z, B0⟩ := x
  intro hkn H locs ls hW hS hl
  subst hn
  refine lv_icmp_ne X.1 X.2.1 hd ht (fun z => ?_) (fun z => ?_)
  · have z' : o_eq a b = false := by
      simp only [o_eq, decide_eq_true_eq, decide_eq_false_iff_not]
      first | exact z | (simp only [Int32.lt_iff_toInt_lt, Int32.le_iff_toInt_le, ne_eq, Classical.not_not] at *; first | exact z | omega)
    rw [z'] at q
    exact q hkn H locs ls hW hS hl
  · have z' : o_eq a b = true := by
      simp only [o_eq, decide_eq_true_eq, decide_eq_false_iff_not]
      first | exact z | (simp only [Int32.lt_iff_toInt_lt, Int32.le_iff_toInt_le, ne_eq, Classical.not_not] at *; first | exact z | omega)
    rw [z'] at q
    exact q hkn H locs ls hW hS hl
theorem kZ_eqF {f : zEI} {off : Int} (hf : eiOk M d pc p1 f) (hd : decode M.1 p1 = .ok (.ifCond .ne off, 3)) (ht : (p1 : Int) + off = (pF : Int)) (hn : p1 + 3 = pT) : ebOk M d pc pT pF (bZ z_eq f) := by
  intro x X k n Q h en st v h' hv hs q
  obtain ⟨a, e1, rfl⟩ := bZ_spec hv
  refine hf x X k n Q h en st a h' e1 hs ?_
  obtain ⟨p, l, e, s, m, args, below, meth, c, D, Z, B0⟩ := x
  intro hkn H locs ls hW hS hl
  subst hn
  refine lv_if_ne X.1 X.2.1 hd ht (fun z => ?_) (fun z => ?_)
  · have z' : z_eq a = false := by
      simp only [z_eq, decide_eq_true_eq, decide_eq_false_iff_not]
      first | exact z | (simp only [Int32.lt_iff_toInt_lt, Int32.le_iff_toInt_le, ne_eq, Classical.not_not] at *; first | exact z | omega)
    rw [z'] at q
    exact q hkn H locs ls hW hS hl
  · have z' : z_eq a = true := by
      simp only [z_eq, decide_eq_true_eq, decide_eq_false_iff_not]
      first | exact z | (simp only [Int32.lt_iff_toInt_lt, Int32.le_iff_toInt_le, ne_eq, Classical.not_not] at *; first | exact z | omega)
    rw [z'] at q
    exact q hkn H locs ls hW hS hl
theorem kB_neT {f g : zEI} {off : Int} (hf : eiOk M d pc p1 f) (hg : eiOk M (d + 1) p1 p2 g) (hd : decode M.1 p2 = .ok (.if_icmp .ne off, 3)) (ht : (p2 : Int) + off = (pT : Int)) (hn : p2 + 3 = pF) : ebOk M d pc pT pF (bCmp o_ne f g) := by
  intro x X k n Q h en st v h' hv hs q
  obtain ⟨a, h1, b, e1, e2, rfl⟩ := bCmp_spec hv
  refine hf x X k n Q h en st a h1 e1 hs (hg x X k n Q h1 en _ b h' e2 (zcat_int hs) ?_)
  obtain ⟨p, l, e, s, m, args, below, meth, c, D, Z, B0⟩ := x
  intro hkn H locs ls hW hS hl
  subst hn
  refine lv_icmp_ne X.1 X.2.1 hd ht (fun z => ?_) (fun z => ?_)
  · have z' : o_ne a b = true := by
      simp only [o_ne, decide_eq_true_eq, decide_eq_false_iff_not]
      first | exact z | (simp only [Int32.lt_iff_toInt_lt, Int32.le_iff_toInt_le, ne_eq, Classical.not_not] at *; first | exact z | omega)
    rw [z'] at q
    exact q hkn H locs ls hW hS hl
  · have z' : o_ne a b = false := by
      simp only [o_ne, decide_eq_true_eq, decide_eq_false_iff_not]
      first | exact z | (simp only [Int32.lt_iff_toInt_lt, Int32.le_iff_toInt_le, ne_eq, Classical.not_not] at *; first | exact z | omega)
    rw [z'] at q
    exact q hkn H locs ls hW hS hl
theorem kZ_neT {f : zEI} {off : Int} (hf : eiOk M d pc p1 f) (hd : decode M.1 p1 = .ok (.ifCond .ne off, 3)) (ht : (p1 : Int) + off = (pT : Int)) (hn : p1 + 3 = pF) : ebOk M d pc pT pF (bZ z_ne f) := by
  intro x X k n Q h en st v h' hv hs q
  obtain ⟨a, e1, rfl⟩ := bZ_spec hv
  refine hf x X k n Q h en st a h' e1 hs ?_
  obtain ⟨p, l, e, s, m, args, below, meth, c, D, Z, B0⟩ := x
  intro hkn H locs ls hW hS hl
  subst hn
  refine lv_if_ne X.1 X.2.1 hd ht (fun z => ?_) (fun z => ?_)
  · have z' : z_ne a = true := by
      simp only [z_ne, decide_eq_true_eq, decide_eq_false_iff_not]
      first | exact z | (simp only [Int32.lt_iff_toInt_lt, Int32.le_iff_toInt_le, ne_eq, Classical.not_not] at *; first | exact z | omega)
    rw [z'] at q
    exact q hkn H locs ls hW hS hl
  · have z' : z_ne a = false := by
      simp only [z_ne, decide_eq_true_eq, decide_eq_false_iff_not]
      first | exact z | (simp only [Int32.lt_iff_toInt_lt, Int32.le_iff_toInt_le, ne_eq, Classical.not_not] at *; first | exact z | omega)
    rw [z'] at q
    exact q hkn H locs ls hW hS hl
theorem kB_neF {f g : zEI} {off : Int} (hf : eiOk M d pc p1 f) (hg : eiOk M (d + 1) p1 p2 g) (hd : decode M.1 p2 = .ok (.if_icmp .eq off, 3)) (ht : (p2 : Int) + off = (pF : Int)) (hn : p2 + 3 = pT) : ebOk M d pc pT pF (bCmp o_ne f g) := by
  intro x X k n Q h en st v h' hv hs q
  obtain ⟨a, h1, b, e1, e2, rfl⟩ := bCmp_spec hv
  refine hf x X k n Q h en st a h1 e1 hs (hg x X k n Q h1 en _ b h' e2 (zcat_int hs) ?_)
  obtain ⟨p, l, e, s, m, args, below, meth, c, D, Z, B0⟩ := x
  intro hkn H locs ls hW hS hl
  subst hn
  refine lv_icmp_eq X.1 X.2.1 hd ht (fun z => ?_) (fun z => ?_)
  · have z' : o_ne a b = false := by
      simp only [o_ne, decide_eq_true_eq, decide_eq_false_iff_not]
      first | exact z | (simp only [Int32.lt_iff_toInt_lt, Int32.le_iff_toInt_le, ne_eq, Classical.not_not] at *; first | exact z | omega)
    rw [z'] at q
    exact q hkn H locs ls hW hS hl
  · have z' : o_ne a b = true := by
      simp only [o_ne, decide_eq_true_eq, decide_eq_false_iff_not]
      first | exact z | (simp only [Int32.lt_iff_toInt_lt, Int32.le_iff_toInt_le, ne_eq, Classical.not_not] at *; first | exact z | omega)
    rw [z'] at q
    exact q hkn H locs ls hW hS hl
theorem kZ_neF {f : zEI} {off : Int} (hf : eiOk M d pc p1 f) (hd : decode M.1 p1 = .ok (.ifCond .eq off, 3)) (ht : (p1 : Int) + off = (pF : Int)) (hn : p1 + 3 = pT) : ebOk M d pc pT pF (bZ z_ne f) := by
  intro x X k n Q h en st v h' hv hs q
  obtain ⟨a, e1, rfl⟩ := bZ_spec hv
  refine hf x X k n Q h en st a h' e1 hs ?_
  obtain ⟨p, l, e, s, m, args, below, meth, c, D, Z, B0⟩ := x
  intro hkn H locs ls hW hS hl
  subst hn
  refine lv_if_eq X.1 X.2.1 hd ht (fun z => ?_) (fun z => ?_)
  · have z' : z_ne a = false := by
      simp only [z_ne, decide_eq_true_eq, decide_eq_false_iff_not]
      first | exact z | (simp only [Int32.lt_iff_toInt_lt, Int32.le_iff_toInt_le, ne_eq, Classical.not_not] at *; first | exact z | omega)
    rw [z'] at q
    exact q hkn H locs ls hW hS hl
  · have z' : z_ne a = true := by
      simp only [z_ne, decide_eq_true_eq, decide_eq_false_iff_not]
      first | exact z | (simp only [Int32.lt_iff_toInt_lt, Int32.le_iff_toInt_le, ne_eq, Classical.not_not] at *; first | exact z | omega)
    rw [z'] at q
    exact q hkn H locs ls hW hS hl
theorem kB_ltT {f g : zEI} {off : Int} (hf : eiOk M d pc p1 f) (hg : eiOk M (d + 1) p1 p2 g) (hd : decode M.1 p2 = .ok (.if_icmp .lt off, 3)) (ht : (p2 : Int) + off = (pT : Int)) (hn : p2 + 3 = pF) : ebOk M d pc pT pF (bCmp o_lt f g) := by
  intro x X k n Q h en st v h' hv hs q
  obtain ⟨a, h1, b, e1, e2, rfl⟩ := bCmp_spec hv
  refine hf x X k n Q h en st a h1 e1 hs (hg x X k n Q h1 en _ b h' e2 (zcat_int hs) ?_)
  obtain ⟨p, l, e, s, m, args, below, meth, c, D, Z, B0⟩ := x
  intro hkn H locs ls hW hS hl
  subst hn
  refine lv_icmp_lt X.1 X.2.1 hd ht (fun z => ?_) (fun z => ?_)
  · have z' : o_lt a b = true := by
      simp only [o_lt, decide_eq_true_eq, decide_eq_false_iff_not]
      first | exact z | (simp only [Int32.lt_iff_toInt_lt, Int32.le_iff_toInt_le, ne_eq, Classical.not_not] at *; first | exact z | omega)
    rw [z'] at q
    exact q hkn H locs ls hW hS hl
  · have z' : o_lt a b = false := by
      simp only [o_lt, decide_eq_true_eq, decide_eq_false_iff_not]
      first | exact z | (simp only [Int32.lt_iff_toInt_lt, Int32.le_iff_toInt_le, ne_eq, Classical.not_not] at *; first | exact z | omega)
    rw [z'] at q
    exact q hkn H locs ls hW hS hl
theorem kZ_ltT {f : zEI} {off : Int} (hf : eiOk M d pc p1 f) (hd : decode M.1 p1 = .ok (.ifCond .lt off, 3)) (ht : (p1 : Int) + off = (pT : Int)) (hn : p1 + 3 = pF) : ebOk M d pc pT pF (bZ z_lt f) := by
  intro x X k n Q h en st v h' hv hs q
  obtain ⟨a, e1, rfl⟩ := bZ_spec hv
  refine hf x X k n Q h en st a h' e1 hs ?_
  obtain ⟨p, l, e, s, m, args, below, meth, c, D, Z, B0⟩ := x
  intro hkn H locs ls hW hS hl
  subst hn
  refine lv_if_lt X.1 X.2.1 hd ht (fun z => ?_) (fun z => ?_)
  · have z' : z_lt a = true := by
      simp only [z_lt, decide_eq_true_eq, decide_eq_false_iff_not]
      first | exact z | (simp only [Int32.lt_iff_toInt_lt, Int32.le_iff_toInt_le, ne_eq, Classical.not_not] at *; first | exact z | omega)
    rw [z'] at q
    exact q hkn H locs ls hW hS hl
  · have z' : z_lt a = false := by
      simp only [z_lt, decide_eq_true_eq, decide_eq_false_iff_not]
      first | exact z | (simp only [Int32.lt_iff_toInt_lt, Int32.le_iff_toInt_le, ne_eq, Classical.not_not] at *; first | exact z | omega)
    rw [z'] at q
    exact q hkn H locs ls hW hS hl
theorem kB_ltF {f g : zEI} {off : Int} (hf : eiOk M d pc p1 f) (hg : eiOk M (d + 1) p1 p2 g) (hd : decode M.1 p2 = .ok (.if_icmp .ge off, 3)) (ht : (p2 : Int) + off = (pF : Int)) (hn : p2 + 3 = pT) : ebOk M d pc pT pF (bCmp o_lt f g) := by
  intro x X k n Q h en st v h' hv hs q
  obtain ⟨a, h1, b, e1, e2, rfl⟩ := bCmp_spec hv
  refine hf x X k n Q h en st a h1 e1 hs (hg x X k n Q h1 en _ b h' e2 (zcat_int hs) ?_)
  obtain ⟨p, l, e, s, m, args, below, meth, c, D, Z, B0⟩ := x
  intro hkn H locs ls hW hS hl
  subst hn
  refine lv_icmp_ge X.1 X.2.1 hd ht (fun z => ?_) (fun z => ?_)
  · have z' : o_lt a b = false := by
      simp only [o_lt, decide_eq_true_eq, decide_eq_false_iff_not]
      first | exact z | (simp only [Int32.lt_iff_toInt_lt, Int32.le_iff_toInt_le, ne_eq, Classical.not_not] at *; first | exact z | omega)
    rw [z'] at q
    exact q hkn H locs ls hW hS hl
  · have z' : o_lt a b = true := by
      simp only [o_lt, decide_eq_true_eq, decide_eq_false_iff_not]
      first | exact z | (simp only [Int32.lt_iff_toInt_lt, Int32.le_iff_toInt_le, ne_eq, Classical.not_not] at *; first | exact z | omega)
    rw [z'] at q
    exact q hkn H locs ls hW hS hl
theorem kZ_ltF {f : zEI} {off : Int} (hf : eiOk M d pc p1 f) (hd : decode M.1 p1 = .ok (.ifCond .ge off, 3)) (ht : (p1 : Int) + off = (pF : Int)) (hn : p1 + 3 = pT) : ebOk M d pc pT pF (bZ z_lt f) := by
  intro x X k n Q h en st v h' hv hs q
  obtain ⟨a, e1, rfl⟩ := bZ_spec hv
  refine hf x X k n Q h en st a h' e1 hs ?_
  obtain ⟨p, l, e, s, m, args, below, meth, c, D, Z, B0⟩ := x
  intro hkn H locs ls hW hS hl
  subst hn
  refine lv_if_ge X.1 X.2.1 hd ht (fun z => ?_) (fun z => ?_)
  · have z' : z_lt a = false := by
      simp only [z_lt, decide_eq_true_eq, decide_eq_false_iff_not]
      first | exact z | (simp only [Int32.lt_iff_toInt_lt, Int32.le_iff_toInt_le, ne_eq, Classical.not_not] at *; first | exact z | omega)
    rw [z'] at q
    exact q hkn H locs ls hW hS hl
  · have z' : z_lt a = true := by
      simp only [z_lt, decide_eq_true_eq, decide_eq_false_iff_not]
      first | exact z | (simp only [Int32.lt_iff_toInt_lt, Int32.le_iff_toInt_le, ne_eq, Classical.not_not] at *; first | exact z | omega)
    rw [z'] at q
    exact q hkn H locs ls hW hS hl
theorem kB_geT {f g : zEI} {off : Int} (hf : eiOk M d pc p1 f) (hg : eiOk M (d + 1) p1 p2 g) (hd : decode M.1 p2 = .ok (.if_icmp .ge off, 3)) (ht : (p2 : Int) + off = (pT : Int)) (hn : p2 + 3 = pF) : ebOk M d pc pT pF (bCmp o_ge f g) := by
  intro x X k n Q h en st v h' hv hs q
  obtain ⟨a, h1, b, e1, e2, rfl⟩ := bCmp_spec hv
  refine hf x X k n Q h en st a h1 e1 hs (hg x X k n Q h1 en _ b h' e2 (zcat_int hs) ?_)
  obtain ⟨p, l, e, s, m, args, below, meth, c, D, Z, B0⟩ := x
  intro hkn H locs ls hW hS hl
  subst hn
  refine lv_icmp_ge X.1 X.2.1 hd ht (fun z => ?_) (fun z => ?_)
  · have z' : o_ge a b = true := by
      simp only [o_ge, decide_eq_true_eq, decide_eq_false_iff_not]
      first | exact z | (simp only [Int32.lt_iff_toInt_lt, Int32.le_iff_toInt_le, ne_eq, Classical.not_not] at *; first | exact z | omega)
    rw [z'] at q
    exact q hkn H locs ls hW hS hl
  · have z' : o_ge a b = false := by
      simp only [o_ge, decide_eq_true_eq, decide_eq_false_iff_not]
      first | exact z | (simp only [Int32.lt_iff_toInt_lt, Int32.le_iff_toInt_le, ne_eq, Classical.not_not] at *; first | exact z | omega)
    rw [z'] at q
    exact q hkn H locs ls hW hS hl
theorem kZ_geT {f : zEI} {off : Int} (hf : eiOk M d pc p1 f) (hd : decode M.1 p1 = .ok (.ifCond .ge off, 3)) (ht : (p1 : Int) + off = (pT : Int)) (hn : p1 + 3 = pF) : ebOk M d pc pT pF (bZ z_ge f) := by
  intro x X k n Q h en st v h' hv hs q
  obtain ⟨a, e1, rfl⟩ := bZ_spec hv
  refine hf x X k n Q h en st a h' e1 hs ?_
  obtain ⟨p, l, e, s, m, args, below, meth, c, D, Z, B0⟩ := x
  intro hkn H locs ls hW hS hl
  subst hn
  refine lv_if_ge X.1 X.2.1 hd ht (fun z => ?_) (fun z => ?_)
  · have z' : z_ge a = true := by
      simp only [z_ge, decide_eq_true_eq, decide_eq_false_iff_not]
      first | exact z | (simp only [Int32.lt_iff_toInt_lt, Int32.le_iff_toInt_le, ne_eq, Classical.not_not] at *; first | exact z | omega)
    rw [z'] at q
    exact q hkn H locs ls hW hS hl
  · have z' : z_ge a = false := by
      simp only [z_ge, decide_eq_true_eq, decide_eq_false_iff_not]
      first | exact z | (simp only [Int32.lt_iff_toInt_lt, Int32.le_iff_toInt_le, ne_eq, Classical.not_not] at *; first | exact z | omega)
    rw [z'] at q
    exact q hkn H locs ls hW hS hl
theorem kB_geF {f g : zEI} {off : Int} (hf : eiOk M d pc p1 f) (hg : eiOk M (d + 1) p1 p2 g) (hd : decode M.1 p2 = .ok (.if_icmp .lt off, 3)) (ht : (p2 : Int) + off = (pF : Int)) (hn : p2 + 3 = pT) : ebOk M d pc pT pF (bCmp o_ge f g) := by
  intro x X k n Q h en st v h' hv hs q
  obtain ⟨a, h1, b, e1, e2, rfl⟩ := bCmp_spec hv
  refine hf x X k n Q h en st a h1 e1 hs (hg x X k n Q h1 en _ b h' e2 (zcat_int hs) ?_)
  obtain ⟨p, l, e, s, m, args, below, meth, c, D, Z, B0⟩ := x
  intro hkn H locs ls hW hS hl
  subst hn
  refine lv_icmp_lt X.1 X.2.1 hd ht (fun z => ?_) (fun z => ?_)
  · have z' : o_ge a b = false := by
      simp only [o_ge, decide_eq_true_eq, decide_eq_false_iff_not]
      first | exact z | (simp only [Int32.lt_iff_toInt_lt, Int32.le_iff_toInt_le, ne_eq, Classical.not_not] at *; first | exact z | omega)
    rw [z'] at q
    exact q hkn H locs ls hW hS hl
  · have z' : o_ge a b = true := by
      simp only [o_ge, decide_eq_true_eq, decide_eq_false_iff_not]
      first | exact z | (simp only [Int32.lt_iff_toInt_lt, Int32.le_iff_toInt_le, ne_eq, Classical.not_not] at *; first | exact z | omega)
    rw [z'] at q
    exact q hkn H locs ls hW hS hl
theorem kZ_geF {f : zEI} {off : Int} (hf : eiOk M d pc p1 f) (hd : decode M.1 p1 = .ok (.ifCond .lt off, 3)) (ht : (p1 : Int) + off = (pF : Int)) (hn : p1 + 3 = pT) : ebOk M d pc pT pF (bZ z_ge f) := by
  intro x X k n Q h en st v h' hv hs q
  obtain ⟨a, e1, rfl⟩ := bZ_spec hv
  refine hf x X k n Q h en st a h' e1 hs ?_
  obtain ⟨p, l, e, s, m, args, below, meth, c, D, Z, B0⟩ := x
  intro hkn H locs ls hW hS hl
  subst hn
  refine lv_if_lt X.1 X.2.1 hd ht (fun z => ?_) (fun z => ?_)
  · have z' : z_ge a = false := by
      simp only [z_ge, decide_eq_true_eq, decide_eq_false_iff_not]
      first | exact z | (simp only [Int32.lt_iff_toInt_lt, Int32.le_iff_toInt_le, ne_eq, Classical.not_not] at *; first | exact z | omega)
    rw [z'] at q
    exact q hkn H locs ls hW hS hl
  · have z' : z_ge a = true := by
      simp only [z_ge, decide_eq_true_eq, decide_eq_false_iff_not]
      first | exact z | (simp only [Int32.lt_iff_toInt_lt, Int32.le_iff_toInt_le, ne_eq, Classical.not_not] at *; first | exact z | omega)
    rw [z'] at q
    exact q hkn H locs ls hW hS hl
theorem kB_gtT {f g : zEI} {off : Int} (hf : eiOk M d pc p1 f) (hg : eiOk M (d + 1) p1 p2 g) (hd : decode M.1 p2 = .ok (.if_icmp .gt off, 3)) (ht : (p2 : Int) + off = (pT : Int)) (hn : p2 + 3 = pF) : ebOk M d pc pT pF (bCmp o_gt f g) := by
  intro x X k n Q h en st v h' hv hs q
  obtain ⟨a, h1, b, e1, e2, rfl⟩ := bCmp_spec hv
  refine hf x X k n Q h en st a h1 e1 hs (hg x X k n Q h1 en _ b h' e2 (zcat_int hs) ?_)
  obtain ⟨p, l, e, s, m, args, below, meth, c, D, Z, B0⟩ := x
  intro hkn H locs ls hW hS hl
  subst hn
  refine lv_icmp_gt X.1 X.2.1 hd ht (fun z => ?_) (fun z => ?_)
  · have z' : o_gt a b = true := by
      simp only [o_gt, decide_eq_true_eq, decide_eq_false_iff_not]
      first | exact z | (simp only [Int32.lt_iff_toInt_lt, Int32.le_iff_toInt_le, ne_eq, Classical.not_not] at *; first | exact z | omega)
    rw [z'] at q
    exact q hkn H locs ls hW hS hl
  · have z' : o_gt a b = false := by
      simp only [o_gt, decide_eq_true_eq, decide_eq_false_iff_not]
      first | exact z | (simp only [Int32.lt_iff_toInt_lt, Int32.le_iff_toInt_le, ne_eq, Classical.not_not] at *; first | exact z | omega)
    rw [z'] at q
    exact q hkn H locs ls hW hS hl
theorem kZ_gtT {f : zEI} {off : Int} (hf : eiOk M d pc p1 f) (hd : decode M.1 p1 = .ok (.ifCond .gt off, 3)) (ht : (p1 : Int) + off = (pT : Int)) (hn : p1 + 3 = pF) : ebOk M d pc pT pF (bZ z_gt f) := by
  intro x X k n Q h en st v h' hv hs q
  obtain ⟨a, e1, rfl⟩ := bZ_spec hv
  refine hf x X k n Q h en st a h' e1 hs ?_
  obtain ⟨p, l, e, s, m, args, below, meth, c, D, Z, B0⟩ := x
  intro hkn H locs ls hW hS hl
  subst hn
  refine lv_if_gt X.1 X.2.1 hd ht (fun z => ?_) (fun z => ?_)
  · have z' : z_gt a = true := by
      simp only [z_gt, decide_eq_true_eq, decide_eq_false_iff_not]
      first | exact z | (simp only [Int32.lt_iff_toInt_lt, Int32.le_iff_toInt_le, ne_eq, Classical.not_not] at *; first | exact z | omega)
    rw [z'] at q
    exact q hkn H locs ls hW hS hl
  · have z' : z_gt a = false := by
      simp only [z_gt, decide_eq_true_eq, decide_eq_false_iff_not]
      first | exact z | (simp only [Int32.lt_iff_toInt_lt, Int32.le_iff_toInt_le, ne_eq, Classical.not_not] at *; first | exact z | omega)
    rw [z'] at q
    exact q hkn H locs ls hW hS hl
theorem kB_gtF {f g : zEI} {off : Int} (hf : eiOk M d pc p1 f) (hg : eiOk M (d + 1) p1 p2 g) (hd : decode M.1 p2 = .ok (.if_icmp .le off, 3)) (ht : (p2 : Int) + off = (pF : Int)) (hn : p2 + 3 = pT) : ebOk M d pc pT pF (bCmp o_gt f g) := by
  intro x X k n Q h en st v h' hv hs q
  obtain ⟨a, h1, b, e1, e2, rfl⟩ := bCmp_spec hv
  refine hf x X k n Q h en st a h1 e1 hs (hg x X k n Q h1 en _ b h' e2 (zcat_int hs) ?_)
  obtain ⟨p, l, e, s, m, args, below, meth, c, D, Z, B0⟩ := x
  intro hkn H locs ls hW hS hl
  subst hn
  refine lv_icmp_le X.1 X.2.1 hd ht (fun z => ?_) (fun z => ?_)
  · have z' : o_gt a b = false := by
      simp only [o_gt, decide_eq_true_eq, decide_eq_false_iff_not]
      first | exact z | (simp only [Int32.lt_iff_toInt_lt, Int32.le_iff_toInt_le, ne_eq, Classical.not_not] at *; first | exact z | omega)
    rw [z'] at q
    exact q hkn H locs ls hW hS hl
  · have z' : o_gt a b = true := by
      simp only [o_gt, decide_eq_true_eq, decide_eq_false_iff_not]
      first | exact z | (simp only [Int32.lt_iff_toInt_lt, Int32.le_iff_toInt_le, ne_eq, Classical.not_not] at *; first | exact z | omega)
    rw [z'] at q
    exact q hkn H locs ls hW hS hl
theorem kZ_gtF {f : zEI} {off : Int} (hf : eiOk M d pc p1 f) (hd : decode M.1 p1 = .ok (.ifCond .le off, 3)) (ht : (p1 : Int) + off = (pF : Int)) (hn : p1 + 3 = pT) : ebOk M d pc pT pF (bZ z_gt f) := by
  intro x X k n Q h en st v h' hv hs q
  obtain ⟨a, e1, rfl⟩ := bZ_spec hv
  refine hf x X k n Q h en st a h' e1 hs ?_
  obtain ⟨p, l, e, s, m, args, below, meth, c, D, Z, B0⟩ := x
  intro hkn H locs ls hW hS hl
  subst hn
  refine lv_if_le X.1 X.2.1 hd ht (fun z => ?_) (fun z => ?_)
  · have z' : z_gt a = false := by
      simp only [z_gt, decide_eq_true_eq, decide_eq_false_iff_not]
      first | exact z | (simp only [Int32.lt_iff_toInt_lt, Int32.le_iff_toInt_le, ne_eq, Classical.not_not] at *; first | exact z | omega)
    rw [z'] at q
    exact q hkn H locs ls hW hS hl
  · have z' : z_gt a = true := by
      simp only [z_gt, decide_eq_true_eq, decide_eq_false_iff_not]
      first | exact z | (simp only [Int32.lt_iff_toInt_lt, Int32.le_iff_toInt_le, ne_eq, Classical.not_not] at *; first | exact z | omega)
    rw [z'] at q
    exact q hkn H locs ls hW hS hl
theorem kB_leT {f g : zEI} {off : Int} (hf : eiOk M d pc p1 f) (hg : eiOk M (d + 1) p1 p2 g) (hd : decode M.1 p2 = .ok (.if_icmp .le off, 3)) (ht : (p2 : Int) + off = (pT : Int)) (hn : p2 + 3 = pF) : ebOk M d pc pT pF (bCmp o_le f g) := by
  intro x X k n Q h en st v h' hv hs q
  obtain ⟨a, h1, b, e1, e2, rfl⟩ := bCmp_spec hv
  refine hf x X k n Q h en st a h1 e1 hs (hg x X k n Q h1 en _ b h' e2 (zcat_int hs) ?_)
  obtain ⟨p, l, e, s, m, args, below, meth, c, D, Z, B0⟩ := x
  intro hkn H locs ls hW hS hl
  subst hn
  refine lv_icmp_le X.1 X.2.1 hd ht (fun z => ?_) (fun z => ?_)
  · have z' : o_le a b = true := by
      simp only [o_le, decide_eq_true_eq, decide_eq_false_iff_not]
      first | exact z | (simp only [Int32.lt_iff_toInt_lt, Int32.le_iff_toInt_le, ne_eq, Classical.not_not] at *; first | exact z | omega)
    rw [z'] at q
    exact q hkn H locs ls hW hS hl
  · have z' : o_le a b = false := by
      simp only [o_le, decide_eq_true_eq, decide_eq_false_iff_not]
      first | exact z | (simp only [Int32.lt_iff_toInt_lt, Int32.le_iff_toInt_le, ne_eq, Classical.not_not] at *; first | exact z | omega)
    rw [z'] at q
    exact q hkn H locs ls hW hS hl
theorem kZ_leT {f : zEI} {off : Int} (hf : eiOk M d pc p1 f) (hd : decode M.1 p1 = .ok (.ifCond .le off, 3)) (ht : (p1 : Int) + off = (pT : Int)) (hn : p1 + 3 = pF) : ebOk M d pc pT pF (bZ z_le f) := by
  intro x X k n Q h en st v h' hv hs q
  obtain ⟨a, e1, rfl⟩ := bZ_spec hv
  refine hf x X k n Q h en st a h' e1 hs ?_
  obtain ⟨p, l, e, s, m, args, below, meth, c, D, Z, B0⟩ := x
  intro hkn H locs ls hW hS hl
  subst hn
  refine lv_if_le X.1 X.2.1 hd ht (fun z => ?_) (fun z => ?_)
  · have z' : z_le a = true := by
      simp only [z_le, decide_eq_true_eq, decide_eq_false_iff_not]
      first | exact z | (simp only [Int32.lt_iff_toInt_lt, Int32.le_iff_toInt_le, ne_eq, Classical.not_not] at *; first | exact z | omega)
    rw [z'] at q
    exact q hkn H locs ls hW hS hl
  · have z' : z_le a = false := by
      simp only [z_le, decide_eq_true_eq, decide_eq_false_iff_not]
      first | exact z | (simp only [Int32.lt_iff_toInt_lt, Int32.le_iff_toInt_le, ne_eq, Classical.not_not] at *; first | exact z | omega)
    rw [z'] at q
    exact q hkn H locs ls hW hS hl
theorem kB_leF {f g : zEI} {off : Int} (hf : eiOk M d pc p1 f) (hg : eiOk M (d + 1) p1 p2 g) (hd : decode M.1 p2 = .ok (.if_icmp .gt off, 3)) (ht : (p2 : Int) + off = (pF : Int)) (hn : p2 + 3 = pT) : ebOk M d pc pT pF (bCmp o_le f g) := by
  intro x X k n Q h en st v h' hv hs q
  obtain ⟨a, h1, b, e1, e2, rfl⟩ := bCmp_spec hv
  refine hf x X k n Q h en st a h1 e1 hs (hg x X k n Q h1 en _ b h' e2 (zcat_int hs) ?_)
  obtain ⟨p, l, e, s, m, args, below, meth, c, D, Z, B0⟩ := x
  intro hkn H locs ls hW hS hl
  subst hn
  refine lv_icmp_gt X.1 X.2.1 hd ht (fun z => ?_) (fun z => ?_)
  · have z' : o_le a b = false := by
      simp only [o_le, decide_eq_true_eq, decide_eq_false_iff_not]
      first | exact z | (simp only [Int32.lt_iff_toInt_lt, Int32.le_iff_toInt_le, ne_eq, Classical.not_not] at *; first | exact z | omega)
    rw [z'] at q
    exact q hkn H locs ls hW hS hl
  · have z' : o_le a b = true := by
      simp only [o_le, decide_eq_true_eq, decide_eq_false_iff_not]
      first | exact z | (simp only [Int32.lt_iff_toInt_lt, Int32.le_iff_toInt_le, ne_eq, Classical.not_not] at *; first | exact z | omega)
    rw [z'] at q
    exact q hkn H locs ls hW hS hl
theorem kZ_leF {f : zEI} {off : Int} (hf : eiOk M d pc p1 f) (hd : decode M.1 p1 = .ok (.ifCond .gt off, 3)) (ht : (p1 : Int) + off = (pF : Int)) (hn : p1 + 3 = pT) : ebOk M d pc pT pF (bZ z_le f) := by
  intro x X k n Q h en st v h' hv hs q
  obtain ⟨a, e1, rfl⟩ := bZ_spec hv
  refine hf x X k n Q h en st a h' e1 hs ?_
  obtain ⟨p, l, e, s, m, args, below, meth, c, D, Z, B0⟩ := x
  intro hkn H locs ls hW hS hl
  subst hn
  refine lv_if_gt X.1 X.2.1 hd ht (fun z => ?_) (fun z => ?_)
  · have z' : z_le a = false := by
      simp only [z_le, decide_eq_true_eq, decide_eq_false_iff_not]
      first | exact z | (simp only [Int32.lt_iff_toInt_lt, Int32.le_iff_toInt_le, ne_eq, Classical.not_not] at *; first | exact z | omega)
    rw [z'] at q
    exact q hkn H locs ls hW hS hl
  · have z' : z_le a = true := by
      simp only [z_le, decide_eq_true_eq, decide_eq_false_iff_not]
      first | exact z | (simp only [Int32.lt_iff_toInt_lt, Int32.le_iff_toInt_le, ne_eq, Classical.not_not] at *; first | exact z | omega)
    rw [z'] at q
    exact q hkn H locs ls hW hS hl
def bAnd (f g : zEB) : zEB := fun en h => (f en h).bind fun a => if a.1 = true then g en a.2 else some (false, a.2)
def bOr (f g : zEB) : zEB := fun en h => (f en h).bind fun a => if a.1 = true then some (true, a.2) else g en a.2
def bNot (f : zEB) : zEB := fun en h => (f en h).map fun a => (!a.1, a.2)
theorem kBand {f g : zEB} {pm : Nat} (hf : ebOk M d pc pm pF f) (hg : ebOk M d pm pT pF g) : ebOk M d pc pT pF (bAnd f g) := by
  intro x X k n Q h en st v h' hv hs q
  simp only [bAnd, Option.bind_eq_some_iff] at hv
  obtain ⟨⟨a, h1⟩, e1, e2⟩ := hv
  refine hf x X k n Q h en st a h1 e1 hs ?_
  cases a with
  | true => exact hg x X k n Q h1 en st v h' (by simpa using e2) hs q
  | false =>
    simp at e2
    obtain ⟨e3, e4⟩ := e2
    subst e3; subst e4
    simpa using q
theorem kBor {f g : zEB} {pm : Nat} (hf : ebOk M d pc pT pm f) (hg : ebOk M d pm pT pF g) : ebOk M d pc pT pF (bOr f g) := by
  intro x X k n Q h en st v h' hv hs q
  simp only [bOr, Option.bind_eq_some_iff] at hv
  obtain ⟨⟨a, h1⟩, e1, e2⟩ := hv
  refine hf x X k n Q h en st a h1 e1 hs ?_
  cases a with
  | false => exact hg x X k n Q h1 en st v h' (by simpa using e2) hs q
  | true =>
    simp at e2
    obtain ⟨e3, e4⟩ := e2
    subst e3; subst e4
    simpa using q
theorem kBnot {f : zEB} (hf : ebOk M d pc pF pT f) : ebOk M d pc pT pF (bNot f) := by
  intro x X k n Q h en st v h' hv hs q
  simp only [bNot, Option.map_eq_some_iff] at hv
  obtain ⟨⟨a, h1⟩, e1, e2⟩ := hv
  cases e2
  refine hf x X k n Q h en st a h1 e1 hs ?_
  cases a <;> simpa using q
/-- a condition as a number; a choice between two -/
def eB (f : zEB) : zEI := fun en h => (f en h).map fun a => (if a.1 = true then 1 else 0, a.2)
def eT (f : zEB) (a b : zEI) : zEI := fun en h => (f en h).bind fun q => if q.1 = true then a en q.2 else b en q.2
theorem kT {f : zEB} {a b : zEI} {off : Int} (hf : ebOk M d pc pT pF f) (ha : eiOk M d pT p1 a) (hd : decode M.1 p1 = .ok (.goto off, 3)) (ht : (p1 : Int) + off = (p2 : Int)) (hb : eiOk M d pF p2 b) : eiOk M d pc p2 (eT f a b) := by
  intro x X k n Q h en st v h' hv hs q
  simp only [eT, Option.bind_eq_some_iff] at hv
  obtain ⟨⟨t, h1⟩, e1, e2⟩ := hv
  refine hf x X k n Q h en st t h1 e1 hs ?_
  cases t with
  | true =>
    refine ha x X k n Q h1 en st v h' (by simpa using e2) hs ?_
    obtain ⟨p, l, e, s, m, args, below, meth, c, D, Z, B0⟩ := x
    intro hkn H locs ls hW hS hl
    exact lv_goto X.1 X.2.1 hd ht (q hkn H locs ls hW hS hl)
  | false => exact hb x X k n Q h1 en st v h' (by simpa using e2) hs q
theorem eB_eT (f : zEB) : eB f = eT f (eC 1) (eC 0) := by
  funext en h
  simp only [eB, eT, eC]
  cases f en h with
  | none => rfl
  | some a =>
    obtain ⟨b, h'⟩ := a
    cases b <;> rfl
theorem kEB {f : zEB} {off : Int} (hf : ebOk M d pc pT pF f) (h1 : decode M.1 pT = .ok (.iconst 1, 1)) (hd : decode M.1 (pT + 1) = .ok (.goto off, 3)) (ht : ((pT + 1 : Nat) : Int) + off = (p2 : Int)) (h0 : decode M.1 pF = .ok (.iconst 0, 1)) (hp : pF + 1 = p2) : eiOk M d pc p2 (eB f) := by
  subst hp
  rw [eB_eT]
  exact kT hf (kC_ic h1 rfl) hd ht (kC_ic h0 rfl)
end ZR2
end
section
/-! ROWS: statements -/
def isO (h : zH) (ci b : Nat) : Bool := match h.2 b with
  | some (.inr (.inr (.inl (c, _)))) => decide (c = ci)
  | _ => false
def wrO (h : zH) (ci k a : Nat) (v : Value) : Option zH := match h.2 a with
  | some (.inr (.inr (.inl (c, fs)))) => if c = ci ∧ k < fs.length then some (h.1, va_up h.2 a (some (xO ci (fs.set k v)))) else none
  | _ => none
def wrA (h : zH) (a : Nat) (i v : Int32) : Option zH := match h.2 a with
  | some (.inl (n, f)) => if 0 ≤ i.toInt ∧ i.toInt < n then some (h.1, va_up h.2 a (some (xI n (upd f i.toNatClampNeg v)))) else none
  | _ => none
def wrQ (h : zH) (ci a : Nat) (i : Int32) (b : Nat) : Option zH := match h.2 a with
  | some (.inr (.inl (c, n, f))) => if c = ci ∧ 0 ≤ i.toInt ∧ i.toInt < n ∧ isO h ci b = true then some (h.1, va_up h.2 a (some (xR ci n (va_up f i.toNatClampNeg (some b))))) else none
  | _ => none
theorem isO_spec {h : zH} {ci b : Nat} (hf : isO h ci b = true) : ∃ fs, h.2 b = some (xO ci fs) := by
  unfold isO at hf
  split at hf
  · rename_i c fs hh
    have hc : c = ci := by simpa using hf
    subst hc
    exact ⟨fs, hh⟩
  · cases hf
theorem wrO_spec {h h' : zH} {ci k a : Nat} {v : Value} (hf : wrO h ci k a v = some h') : ∃ fs, h.2 a = some (xO ci fs) ∧ k < fs.length ∧ h' = (h.1, va_up h.2 a (some (xO ci (fs.set k v)))) := by
  unfold wrO at hf
  split at hf
  · rename_i c fs hh
    split at hf
    · rename_i hc
      obtain ⟨rfl, hk⟩ := hc
      cases hf
      exact ⟨fs, hh, hk, rfl⟩
    · cases hf
  · cases hf
theorem wrA_spec {h h' : zH} {a : Nat} {i v : Int32} (hf : wrA h a i v = some h') : ∃ n f, h.2 a = some (xI n f) ∧ vp_in i n ∧ h' = (h.1, va_up h.2 a (some (xI n (upd f i.toNatClampNeg v)))) := by
  unfold wrA at hf
  split at hf
  · rename_i n f hh
    split at hf
    · rename_i hc
      cases hf
      exact ⟨n, f, hh, vp_in_iff.mpr hc, rfl⟩
    · cases hf
  · cases hf
theorem wrQ_spec {h h' : zH} {ci a b : Nat} {i : Int32} (hf : wrQ h ci a i b = some h') : ∃ n f fs, h.2 a = some (xR ci n f) ∧ vp_in i n ∧ h.2 b = some (xO ci fs) ∧ h' = (h.1, va_up h.2 a (some (xR ci n (va_up f i.toNatClampNeg (some b))))) := by
  unfold wrQ at hf
  split at hf
  · rename_i c n f hh
    split at hf
    · rename_i hc
      obtain ⟨rfl, h1, h2, h3⟩ := hc
      cases hf
      obtain ⟨fs, hfs⟩ := isO_spec h3
      exact ⟨n, f, fs, hh, vp_in_iff.mpr ⟨h1, h2⟩, hfs, rfl⟩
    · cases hf
  · cases hf
section ZR3
variable {M : zM} {d pc p0 p1 p2 p3 pT pF pE : Nat}
/-- a store into a field of an object, at the machine -/
theorem zPut {k n : Nat} {Q : State → Prop} {h : zH} {p : Program} {l : Launch} {e : Env} {s : State} {m : MethodId} {args : Array Value} {below : List Frame} {meth : Method} {c : Code} {D : va_G} {Z : Nat → ClassId} {B0 : Nat} (X : zCx M (p, l, e, s, m, args, below, meth, c, D, Z, B0)) {H : Heap} {locs : List Loc} {ls : Array Slot} (hW : zW D Z B0 s h H) (hS : va_S (fun q => B0 ≤ q) s.heap H locs) {ci kf N idx a : Nat} {C : String} {T : u_T} {ty : Nat → FieldType} {fs rest : List Value} {v : Value} (ha : h.2 a = some (xO ci fs)) (hl : kf < fs.length) (hc : zCl ci C T N ty) (hlk : zHas (Cond.fieldLink M.2.1 idx (T kf).1 (T kf).2.1 (T kf).2.2.1)) (hk : kf < N) (hfin : (T kf).2.2.2 = false) (hn : narrow (ty kf) v = v) (hfit : fits (ty kf) v = true) (hd : decode M.1 pc = .ok (.putfield idx, 3))
    (kk : ∀ (H1 : Heap) (locs1 : List Loc), zW D Z B0 s (h.1, va_up h.2 a (some (xO ci (fs.set kf v)))) H1 → va_S (fun q => B0 ≤ q) s.heap H1 locs1 → W p l e M.2.2.2.2.1 s m args below meth c H1 locs1 k n Q (F0 m (pc + 3) ls rest)) : W p l e M.2.2.2.2.1 s m args below meth c H locs k n Q (F0 m pc ls (v :: .ref a :: rest)) := by
  obtain ⟨hx, hb, -, hown, hK, -, -, -, -⟩ := X
  obtain ⟨hcl, hin, hty, hnm⟩ := hc
  have hap := va_apart (own := M.2.1) (Ts := u_ws C T N) (fun w hw => hK.ts args (hin w hw)) (fun _ hw => hw) ty hty hnm hK.1 hcl
  have hB := (hW.2 a _ ha).2 trivial
  obtain ⟨r, h1, cell, q1, q2, q3, q4⟩ := (hW.2 a _ ha).1
  have hr : r = (C, T, N) := Option.some.inj (h1.symm.trans hcl)
  subst hr
  obtain ⟨hSl, hfc, kC, hkC, hkind⟩ := hK.1.1 ci _ hcl
  obtain ⟨cf, kfC, fi, f, hi, hsl⟩ := hSl kf hk
  have hlay := hK.ts args (hin _ (u_in_lay hk))
  have hst := (u_facts hfc hkC (u_lays (ws := u_ws C T N) (fun w hw => hK.ts args (hin w hw)) (fun _ hw => hw) hk) hi).1
  unfold u_lay at hlay
  rw [if_neg (by rw [hfin]; decide)] at hlay
  have h6 := u_store hfc hkC hkind hlay hi (hty kf hk) hn hfit
  refine W.putK hx hb (f := f) ⟨hown, hK.ts args hlk, ⟨_, _, _, hi⟩, hst⟩ (by rw [q2]; exact h6) q1 q3 (by rw [hsl]; exact k2_hasslot (q4 kf hk)) rfl rfl hd fun H' e1 e2 e3 => ?_
  rw [hsl] at e1 ⊢
  exact kk H' _ (hW.set e2 e3 ⟨_, hcl, t_OB.to (V := updV (vp_V fs) kf v) ⟨_, e1, q2, q3, t_set q4 hap hk v⟩ (fun j _ => vp_updV_set hl v j)⟩ hB) (hS.put e2 e3 hB)
theorem zPutF {k n : Nat} {Q : State → Prop} {h : zH} {p : Program} {l : Launch} {e : Env} {s : State} {m : MethodId} {args : Array Value} {below : List Frame} {meth : Method} {c : Code} {D : va_G} {Z : Nat → ClassId} {B0 : Nat} (X : zCx M (p, l, e, s, m, args, below, meth, c, D, Z, B0)) {H : Heap} {locs : List Loc} {ls : Array Slot} (hW : zW D Z B0 s h H) (hS : va_S (fun q => B0 ≤ q) s.heap H locs) {ci kf N idx a : Nat} {C : String} {T : u_T} {ty : Nat → FieldType} {fs rest : List Value} {v : Value} (ha : h.2 a = some (xO ci fs)) (hl : kf < fs.length) (hc : zCl ci C T N ty) (hlk : zHas (Cond.fieldLink M.2.1 idx (T kf).1 (T kf).2.1 (T kf).2.2.1)) (hk : kf < N) (hfin : (T kf).2.2.2 = true) (hdecl : (T kf).1 = M.2.1) (hinit : M.2.2.2.2.2 = true) (hn : narrow (ty kf) v = v) (hfit : fits (ty kf) v = true) (hd : decode M.1 pc = .ok (.putfield idx, 3))
    (kk : ∀ (H1 : Heap) (locs1 : List Loc), zW D Z B0 s (h.1, va_up h.2 a (some (xO ci (fs.set kf v)))) H1 → va_S (fun q => B0 ≤ q) s.heap H1 locs1 → W p l e M.2.2.2.2.1 s m args below meth c H1 locs1 k n Q (F0 m (pc + 3) ls rest)) : W p l e M.2.2.2.2.1 s m args below meth c H locs k n Q (F0 m pc ls (v :: .ref a :: rest)) := by
  obtain ⟨hx, hb, -, hown, hK, -, -, hin2, -⟩ := X
  obtain ⟨hcl, hin, hty, hnm⟩ := hc
  have hap := va_apart (own := M.2.1) (Ts := u_ws C T N) (fun w hw => hK.ts args (hin w hw)) (fun _ hw => hw) ty hty hnm hK.1 hcl
  have hB := (hW.2 a _ ha).2 trivial
  obtain ⟨r, h1, cell, q1, q2, q3, q4⟩ := (hW.2 a _ ha).1
  have hr : r = (C, T, N) := Option.some.inj (h1.symm.trans hcl)
  subst hr
  obtain ⟨hSl, hfc, kC, hkC, hkind⟩ := hK.1.1 ci _ hcl
  obtain ⟨cf, kfC, fi, f, hi, hsl⟩ := hSl kf hk
  have hlay := hK.ts args (hin _ (u_in_lay hk))
  have hst := (u_facts hfc hkC (u_lays (ws := u_ws C T N) (fun w hw => hK.ts args (hin w hw)) (fun _ hw => hw) hk) hi).1
  unfold u_lay at hlay
  rw [if_pos hfin] at hlay
  have hcf : m.cls = cf := by
    obtain ⟨_, _, c', _, _, _, -, -, hf', -, -, -, hown2, -⟩ := Cond.laysFinal_spec hlay
    have e1 : c' = cf := by have := hi.symm.trans hf'; simp at this; exact this.1.symm
    rw [hdecl] at hown2
    rw [← e1]; exact Option.some.inj (hown.symm.trans hown2)
  have h6 := u_fits hfc hkC hkind (Or.inr hlay) hi (hty kf hk) hn hfit
  refine W.putFinK hx hb hown (hK.ts args hlk) hi hst hcf (hin2 hinit) (by rw [q2]; exact h6) q1 q3 (by rw [hsl]; exact k2_hasslot (q4 kf hk)) rfl rfl hd fun H' e1 e2 e3 => ?_
  rw [hsl] at e1 ⊢
  exact kk H' _ (hW.set e2 e3 ⟨_, hcl, t_OB.to (V := updV (vp_V fs) kf v) ⟨_, e1, q2, q3, t_set q4 hap hk v⟩ (fun j _ => vp_updV_set hl v j)⟩ hB) (hS.put e2 e3 hB)
/-- a store into an array of numbers -/
theorem zPutA {k n : Nat} {Q : State → Prop} {h : zH} {p : Program} {l : Launch} {e : Env} {s : State} {m : MethodId} {args : Array Value} {below : List Frame} {meth : Method} {c : Code} {D : va_G} {Z : Nat → ClassId} {B0 : Nat} (X : zCx M (p, l, e, s, m, args, below, meth, c, D, Z, B0)) {H : Heap} {locs : List Loc} {ls : Array Slot} (hW : zW D Z B0 s h H) (hS : va_S (fun q => B0 ≤ q) s.heap H locs) {a N : Nat} {f : Nat → Int32} {i v : Int32} {rest : List Value} (ha : h.2 a = some (xI N f)) (hi : vp_in i N) (hd : decode M.1 pc = .ok (.iastore, 1))
    (kk : ∀ (H1 : Heap) (locs1 : List Loc), zW D Z B0 s (h.1, va_up h.2 a (some (xI N (upd f i.toNatClampNeg v)))) H1 → va_S (fun q => B0 ≤ q) s.heap H1 locs1 → W p l e M.2.2.2.2.1 s m args below meth c H1 locs1 k n Q (F0 m (pc + 1) ls rest)) : W p l e M.2.2.2.2.1 s m args below meth c H locs k n Q (F0 m pc ls (.int v :: .int i :: .ref a :: rest)) := by
  obtain ⟨hx, hb, -, hown, hK, -, -, -, -⟩ := X
  have hB := (hW.2 a _ ha).2 trivial
  have hq : H[a]? = some (vp_cell (Z 100) (N, .inl f)) := (hW.2 a _ ha).1
  refine W.iast hx hb hq ((hK.1.2 0 _ rfl).1 N (fun j => .int (f j))) (fun q => by cases q) (by show ¬ (i < 0 ∨ (arrV _ _ _).slots.size ≤ _); rw [arrV_size]; exact hi) rfl rfl hd fun H1 e1 z oq => ?_
  refine kk H1 _ (hW.set z oq ?_ hB) (hS.put z oq hB)
  show H1[a]? = some (vp_cell _ _)
  rw [e1]
  rw [vp_cell_i, vp_cell_i, arrV_store]
  congr 2
  funext q
  by_cases hq : q = i.toNatClampNeg
  · subst hq
    simp [updV, upd]
  · simp [updV, upd, hq]
theorem zPutQ {k n : Nat} {Q : State → Prop} {h : zH} {p : Program} {l : Launch} {e : Env} {s : State} {m : MethodId} {args : Array Value} {below : List Frame} {meth : Method} {c : Code} {D : va_G} {Z : Nat → ClassId} {B0 : Nat} (X : zCx M (p, l, e, s, m, args, below, meth, c, D, Z, B0)) {H : Heap} {locs : List Loc} {ls : Array Slot} (hW : zW D Z B0 s h H) (hS : va_S (fun q => B0 ≤ q) s.heap H locs) {a b N ci : Nat} {f : Nat → Option Nat} {fs : List Value} {i : Int32} {rest : List Value} {C : String} {T : u_T} {NC : Nat} {ty : Nat → FieldType} (ha : h.2 a = some (xR ci N f)) (hbb : h.2 b = some (xO ci fs)) (hi : vp_in i N) (hC : (ci = 3 ∧ C = RX3) ∨ (ci = 4 ∧ C = RX4) ∨ (ci = 5 ∧ C = RX5)) (hc : zCl ci C T NC ty) (hd : decode M.1 pc = .ok (.aastore, 1))
    (kk : ∀ (H1 : Heap) (locs1 : List Loc), zW D Z B0 s (h.1, va_up h.2 a (some (xR ci N (va_up f i.toNatClampNeg (some b))))) H1 → va_S (fun q => B0 ≤ q) s.heap H1 locs1 → W p l e M.2.2.2.2.1 s m args below meth c H1 locs1 k n Q (F0 m (pc + 1) ls rest)) : W p l e M.2.2.2.2.1 s m args below meth c H locs k n Q (F0 m pc ls (.ref b :: .int i :: .ref a :: rest)) := by
  obtain ⟨hx, hb, -, hown, hK, -, -, -, -⟩ := X
  have hB := (hW.2 a _ ha).2 trivial
  have hq : H[a]? = some (vp_cell (Z ci) (N, .inr (.inr (.inr (.inr f))))) := (hW.2 a _ ha).1
  obtain ⟨t0, ht0⟩ := zTys_at (Z := Z) hC
  have hlt : i.toNatClampNeg < N := Nat.not_le.mp fun q => hi (Or.inr q)
  have h0 : ¬ i < 0 := fun q => hi (Or.inl q)
  obtain ⟨r', hr', cellV, g1, g2, g3, -⟩ := (hW.2 b _ hbb).1
  have hcls := (hK.1.1 ci _ hc.1).2
  obtain ⟨kA, comp, k1, k2, k3, -⟩ := (hK.1.2 t0 _ ht0).2
  have hcomp : comp = D.1 ci := Option.some.inj (k3.symm.trans hcls.1)
  subst hcomp
  obtain ⟨kC, hkC, -⟩ := hcls.2
  refine W.aast hx hb hq (fun q h => by cases h) (fun h => by cases h) k1 k2 rfl hkC ⟨h0, by show _ < (arrV _ _ _).slots.size; rw [arrV_size]; exact hlt⟩ g1 (fun q h => by rw [g3] at h; cases h) (by rw [g2]; exact hkC) (by rw [g2]; exact va_assign hcls) rfl rfl hd fun H1 e1 z oq => ?_
  refine kk H1 _ (hW.set z oq ?_ hB) (hS.put z oq hB)
  show H1[a]? = some (vp_cell _ _)
  rw [e1]
  rw [vp_cell_q, vp_cell_q, arrV_store]
  congr 2
  funext q
  by_cases hq : q = i.toNatClampNeg
  · subst hq
    simp [updV, va_up, va_rf]
  · simp [updV, va_up, hq]
/-! statements -/
def sLi (j : Nat) (f : zEI) : zSS := fun en h => (f en h).bind fun a => (zSt en j (.int a.1)).map fun en' => .inl (en', a.2)
def sLr (j : Nat) (f : zER) : zSS := fun en h => (f en h).bind fun a => (zSt en j (.ref a.1)).map fun en' => .inl (en', a.2)
theorem kSi_n {f : zEI} {kk : Fin 4} {j : Nat} (hf : eiOk M 0 pc p1 f) (hd : decode M.1 p1 = .ok (.istore_n kk, 1)) (hj : (kk : Nat) = j) (hn : j < M.2.2.1) : ssOk M pc (p1 + 1) (sLi j f) := by
  intro x X k n Q h en r hv g
  simp only [sLi, Option.bind_eq_some_iff, Option.map_eq_some_iff] at hv
  obtain ⟨⟨a, h1⟩, e1, en', e2, e3⟩ := hv
  subst e3
  refine hf x X k n Q h en [] a h1 e1 (Nat.zero_le _) ?_
  obtain ⟨p, l, e, s, m, args, below, meth, c, D, Z, B0⟩ := x
  intro hkn H locs ls hW hS hl
  exact lv_istore_n X.1 X.2.1 hd hj hl.has hn rfl (fun ls' hl' => g hkn H locs ls' hW hS (hl.stored e2 rfl hl'))
theorem kSi {f : zEI} {j : Nat} (hf : eiOk M 0 pc p1 f) (hd : decode M.1 p1 = .ok (.istore j, 2)) (hn : j < M.2.2.1) : ssOk M pc (p1 + 2) (sLi j f) := by
  intro x X k n Q h en r hv g
  simp only [sLi, Option.bind_eq_some_iff, Option.map_eq_some_iff] at hv
  obtain ⟨⟨a, h1⟩, e1, en', e2, e3⟩ := hv
  subst e3
  refine hf x X k n Q h en [] a h1 e1 (Nat.zero_le _) ?_
  obtain ⟨p, l, e, s, m, args, below, meth, c, D, Z, B0⟩ := x
  intro hkn H locs ls hW hS hl
  exact lv_istore X.1 X.2.1 hd hl.has hn rfl (fun ls' hl' => g hkn H locs ls' hW hS (hl.stored e2 rfl hl'))
theorem kSr_n {f : zER} {kk : Fin 4} {j : Nat} (hf : erOk M 0 pc p1 f) (hd : decode M.1 p1 = .ok (.astore_n kk, 1)) (hj : (kk : Nat) = j) (hn : j < M.2.2.1) : ssOk M pc (p1 + 1) (sLr j f) := by
  intro x X k n Q h en r hv g
  simp only [sLr, Option.bind_eq_some_iff, Option.map_eq_some_iff] at hv
  obtain ⟨⟨a, h1⟩, e1, en', e2, e3⟩ := hv
  subst e3
  refine hf x X k n Q h en [] a h1 e1 (Nat.zero_le _) ?_
  obtain ⟨p, l, e, s, m, args, below, meth, c, D, Z, B0⟩ := x
  intro hkn H locs ls hW hS hl
  exact lv_astore_n X.1 X.2.1 hd hj hl.has hn rfl (fun ls' hl' => g hkn H locs ls' hW hS (hl.stored e2 rfl hl'))
theorem kSr {f : zER} {j : Nat} (hf : erOk M 0 pc p1 f) (hd : decode M.1 p1 = .ok (.astore j, 2)) (hn : j < M.2.2.1) : ssOk M pc (p1 + 2) (sLr j f) := by
  intro x X k n Q h en r hv g
  simp only [sLr, Option.bind_eq_some_iff, Option.map_eq_some_iff] at hv
  obtain ⟨⟨a, h1⟩, e1, en', e2, e3⟩ := hv
  subst e3
  refine hf x X k n Q h en [] a h1 e1 (Nat.zero_le _) ?_
  obtain ⟨p, l, e, s, m, args, below, meth, c, D, Z, B0⟩ := x
  intro hkn H locs ls hW hS hl
  exact lv_astore X.1 X.2.1 hd hl.has hn rfl (fun ls' hl' => g hkn H locs ls' hW hS (hl.stored e2 rfl hl'))
def sInc (j : Nat) (v : Int32) : zSS := fun en h => (eL j en h).bind fun a => (zSt en j (.int (a.1 + v))).map fun en' => .inl (en', h)
theorem kInc {j : Nat} {i : Int} {v : Int32} (hd : decode M.1 pc = .ok (.iinc j i, 3)) (hv0 : Int32.ofInt i = v) (hn : j < M.2.2.1) : ssOk M pc (pc + 3) (sInc j v) := by
  intro x X k n Q h en r hv g
  simp only [sInc, Option.bind_eq_some_iff, Option.map_eq_some_iff] at hv
  obtain ⟨⟨a, h1⟩, e1, en', e2, e3⟩ := hv
  subst e3
  obtain ⟨e4, rfl⟩ := eL_spec e1
  obtain ⟨p, l, e, s, m, args, below, meth, c, D, Z, B0⟩ := x
  intro hkn H locs ls hW hS hl
  obtain ⟨q, hq⟩ := List.getElem?_of_mem (zLv_mem e4 (fun z => by cases z))
  exact lv_iinc X.1 X.2.1 hd hl.has hq (by rw [hv0]) hn rfl (fun ls' hl' => g hkn H locs ls' hW hS (hl.stored e2 rfl hl'))
def sF (ci k : Nat) (o : zER) (f : zEI) : zSS := fun en h => (o en h).bind fun a => (f en a.2).bind fun b => (wrO b.2 ci k a.1 (.int b.1)).map fun h' => .inl (en, h')
theorem kPF {ci kf N idx : Nat} {C : String} {T : u_T} {ty : Nat → FieldType} {o : zER} {f : zEI} (ho : erOk M 0 pc p1 o) (hf : eiOk M 1 p1 p2 f) (hd : decode M.1 p2 = .ok (.putfield idx, 3)) (hc : zCl ci C T N ty) (hlk : zHas (Cond.fieldLink M.2.1 idx (T kf).1 (T kf).2.1 (T kf).2.2.1)) (hk : kf < N) (hfin : (T kf).2.2.2 = false) (hty : ty kf = .int) : ssOk M pc (p2 + 3) (sF ci kf o f) := by
  intro x X k n Q h en r hv g
  simp only [sF, Option.bind_eq_some_iff, Option.map_eq_some_iff] at hv
  obtain ⟨⟨a, h1⟩, e1, ⟨b, h2⟩, e2, h3, e3, e4⟩ := hv
  subst e4
  obtain ⟨fs, w1, w2, rfl⟩ := wrO_spec e3
  refine ho x X k n Q h en [] a h1 e1 (Nat.zero_le _) (hf x X k n Q h1 en _ b h2 e2 (zcat_ref (d := 0) (Nat.le_refl _)) ?_)
  obtain ⟨p, l, e, s, m, args, below, meth, c, D, Z, B0⟩ := x
  intro hkn H locs ls hW hS hl
  exact zPut X hW hS w1 w2 hc hlk hk hfin (by rw [hty]; rfl) (by rw [hty]; rfl) hd (fun H1 locs1 hW1 hS1 => g hkn H1 locs1 ls hW1 hS1 hl)
/-- into a field of the kind boolean: 0 or 1 alone -/
def sFz (ci k : Nat) (o : zER) (f : zEI) : zSS := fun en h => (o en h).bind fun a => (f en a.2).bind fun b => if b.1 = 0 ∨ b.1 = 1 then (wrO b.2 ci k a.1 (.int b.1)).map fun h' => .inl (en, h') else none
theorem kPFz {ci kf N idx : Nat} {C : String} {T : u_T} {ty : Nat → FieldType} {o : zER} {f : zEI} (ho : erOk M 0 pc p1 o) (hf : eiOk M 1 p1 p2 f) (hd : decode M.1 p2 = .ok (.putfield idx, 3)) (hc : zCl ci C T N ty) (hlk : zHas (Cond.fieldLink M.2.1 idx (T kf).1 (T kf).2.1 (T kf).2.2.1)) (hk : kf < N) (hfin : (T kf).2.2.2 = false) (hty : ty kf = .boolean) : ssOk M pc (p2 + 3) (sFz ci kf o f) := by
  intro x X k n Q h en r hv g
  simp only [sFz, Option.bind_eq_some_iff] at hv
  obtain ⟨⟨a, h1⟩, e1, ⟨b, h2⟩, e2, e5⟩ := hv
  split at e5
  case isFalse => cases e5
  case isTrue hb01 =>
  simp only [Option.map_eq_some_iff] at e5
  obtain ⟨h3, e3, e4⟩ := e5
  subst e4
  obtain ⟨fs, w1, w2, rfl⟩ := wrO_spec e3
  refine ho x X k n Q h en [] a h1 e1 (Nat.zero_le _) (hf x X k n Q h1 en _ b h2 e2 (zcat_ref (d := 0) (Nat.le_refl _)) ?_)
  obtain ⟨p, l, e, s, m, args, below, meth, c, D, Z, B0⟩ := x
  intro hkn H locs ls hW hS hl
  have hb01' : b = 0 ∨ b = 1 := hb01
  exact zPut X hW hS w1 w2 hc hlk hk hfin (by rw [hty]; rcases hb01' with z | z <;> (rw [z]; rfl)) (by rw [hty]; rcases hb01' with z | z <;> (rw [z]; rfl)) hd (fun H1 locs1 hW1 hS1 => g hkn H1 locs1 ls hW1 hS1 hl)
/-- x.f = x.f (op) e, by dup -/
def sFa (op : Int32 → Int32 → Int32) (ci k : Nat) (o : zER) (f : zEI) : zSS := fun en h => (o en h).bind fun a => (rdI a.2 ci k a.1).bind fun w => (f en a.2).bind fun b => (wrO b.2 ci k a.1 (.int (op w b.1))).map fun h' => .inl (en, h')
theorem kPFaddsub {ci kf N idx idx2 : Nat} {C : String} {T : u_T} {ty : Nat → FieldType} {o : zER} {f : zEI} {op : Int32 → Int32 → Int32} {ins : Instr} (hins : (ins = .iadd ∧ op = (· + ·)) ∨ (ins = .isub ∧ op = (· - ·))) (ho : erOk M 0 pc p1 o) (hdup : decode M.1 p1 = .ok (.dup, 1)) (hget : decode M.1 (p1 + 1) = .ok (.getfield idx, 3)) (hf : eiOk M 2 (p1 + 4) p2 f) (hop : decode M.1 p2 = .ok (ins, 1)) (hd : decode M.1 (p2 + 1) = .ok (.putfield idx2, 3)) (hc : zCl ci C T N ty) (hl : zHas (Cond.fieldLink M.2.1 idx (T kf).1 (T kf).2.1 (T kf).2.2.1)) (hlk : zHas (Cond.fieldLink M.2.1 idx2 (T kf).1 (T kf).2.1 (T kf).2.2.1)) (hk : kf < N) (hfin : (T kf).2.2.2 = false) (hty : ty kf = .int) : ssOk M pc (p2 + 4) (sFa op ci kf o f) := by
  intro x X k n Q h en r hv g
  simp only [sFa, Option.bind_eq_some_iff, Option.map_eq_some_iff] at hv
  obtain ⟨⟨a, h1⟩, e1, w, e5, ⟨b, h2⟩, e2, h3, e3, e4⟩ := hv
  subst e4
  obtain ⟨fs0, g1, g2⟩ := rdI_spec e5
  obtain ⟨fs, w1, w2, rfl⟩ := wrO_spec e3
  have body := hf x X k n Q h1 en [.int w, .ref a] b h2 e2 (zcat_int (zcat_ref (d := 0) (Nat.le_refl _)))
  refine ho x X k n Q h en [] a h1 e1 (Nat.zero_le _) ?_
  obtain ⟨p, l, e, s, m, args, below, meth, c, D, Z, B0⟩ := x
  intro hkn H locs ls hW hS hl'
  refine lv_dup X.1 X.2.1 hdup rfl ?_
  refine va_get (D := D) (ci := ci) (ws := [(a, .inr (ci, fs0))]) (C := C) (T := T) (N := N) X.1 X.2.1 (fun w hw => X.2.2.2.2.1.ts args (hc.2.1 w hw)) (fun _ hw => hw) X.2.2.2.1 X.2.2.2.2.1.1 (va_P1 (hW.2 a _ g1).1) 0 rfl hc.1 kf hk (X.2.2.2.2.1.ts args hl) (fun _ z => z) g2 hget ?_
  refine body ?_ hkn H locs ls hW hS hl'
  intro hkn H locs ls hW hS hl'
  rcases hins with ⟨rfl, rfl⟩ | ⟨rfl, rfl⟩
  · exact lv_iadd X.1 X.2.1 hop (zPut X hW hS w1 w2 hc hlk hk hfin (by rw [hty]; rfl) (by rw [hty]; rfl) hd (fun H1 locs1 hW1 hS1 => g hkn H1 locs1 ls hW1 hS1 hl'))
  · exact lv_isub X.1 X.2.1 hop (zPut X hW hS w1 w2 hc hlk hk hfin (by rw [hty]; rfl) (by rw [hty]; rfl) hd (fun H1 locs1 hW1 hS1 => g hkn H1 locs1 ls hW1 hS1 hl'))
def sA (o : zER) (i f : zEI) : zSS := fun en h => (o en h).bind fun a => (i en a.2).bind fun b => (f en b.2).bind fun q => (wrA q.2 a.1 b.1 q.1).map fun h' => .inl (en, h')
theorem kPA {o : zER} {i f : zEI} (ho : erOk M 0 pc p0 o) (hi : eiOk M 1 p0 p1 i) (hf : eiOk M 2 p1 p2 f) (hd : decode M.1 p2 = .ok (.iastore, 1)) : ssOk M pc (p2 + 1) (sA o i f) := by
  intro x X k n Q h en r hv g
  simp only [sA, Option.bind_eq_some_iff, Option.map_eq_some_iff] at hv
  obtain ⟨⟨a, h1⟩, e1, ⟨b, h2⟩, e2, ⟨q, h3⟩, e3, h4, e4, e5⟩ := hv
  subst e5
  obtain ⟨N, F, w1, w2, rfl⟩ := wrA_spec e4
  refine ho x X k n Q h en [] a h1 e1 (Nat.zero_le _) (hi x X k n Q h1 en _ b h2 e2 (zcat_ref (d := 0) (Nat.le_refl _)) (hf x X k n Q h2 en _ q h3 e3 (zcat_int (zcat_ref (d := 0) (Nat.le_refl _))) ?_))
  obtain ⟨p, l, e, s, m, args, below, meth, c, D, Z, B0⟩ := x
  intro hkn H locs ls hW hS hl
  exact zPutA X hW hS w1 w2 hd (fun H1 locs1 hW1 hS1 => g hkn H1 locs1 ls hW1 hS1 hl)
/-- a[i] = a[i] (op) e, by dup2 -/
def sAa (op : Int32 → Int32 → Int32) (o : zER) (i f : zEI) : zSS := fun en h => (o en h).bind fun a => (i en a.2).bind fun b => (rdA b.2 a.1 b.1).bind fun w => (f en b.2).bind fun q => (wrA q.2 a.1 b.1 (op w q.1)).map fun h' => .inl (en, h')
theorem kPAaddsub {o : zER} {i f : zEI} {op : Int32 → Int32 → Int32} {ins : Instr} (hins : (ins = .iadd ∧ op = (· + ·)) ∨ (ins = .isub ∧ op = (· - ·))) (ho : erOk M 0 pc p0 o) (hi : eiOk M 1 p0 p1 i) (hdup : decode M.1 p1 = .ok (.dup2, 1)) (hld : decode M.1 (p1 + 1) = .ok (.iaload, 1)) (hf : eiOk M 3 (p1 + 2) p2 f) (hop : decode M.1 p2 = .ok (ins, 1)) (hd : decode M.1 (p2 + 1) = .ok (.iastore, 1)) : ssOk M pc (p2 + 2) (sAa op o i f) := by
  intro x X k n Q h en r hv g
  simp only [sAa, Option.bind_eq_some_iff, Option.map_eq_some_iff] at hv
  obtain ⟨⟨a, h1⟩, e1, ⟨b, h2⟩, e2, w, e6, ⟨q, h3⟩, e3, h4, e4, e5⟩ := hv
  subst e5
  obtain ⟨N0, F0', g1, g2, g3⟩ := rdA_spec e6
  subst g3
  obtain ⟨N, F, w1, w2, rfl⟩ := wrA_spec e4
  have body := hf x X k n Q h2 en [.int (F0' b.toNatClampNeg), .int b, .ref a] q h3 e3 (zcat_int (zcat_int (zcat_ref (d := 0) (Nat.le_refl _))))
  refine ho x X k n Q h en [] a h1 e1 (Nat.zero_le _) (hi x X k n Q h1 en _ b h2 e2 (zcat_ref (d := 0) (Nat.le_refl _)) ?_)
  obtain ⟨p, l, e, s, m, args, below, meth, c, D, Z, B0⟩ := x
  intro hkn H locs ls hW hS hl
  refine lv_dup2_11 X.1 X.2.1 hdup rfl rfl ?_
  refine va_iald (D := D) (cl := vwCl) (tys := zTys Z) (ws := [(a, .inl (Z 100, N0, .inl F0'))]) X.1 X.2.1 X.2.2.2.2.1.1 (va_P1 (hW.2 a _ g1).1) 0 0 rfl rfl g2 hld ?_
  refine body ?_ hkn H locs ls hW hS hl
  intro hkn H locs ls hW hS hl
  rcases hins with ⟨rfl, rfl⟩ | ⟨rfl, rfl⟩
  · exact lv_iadd X.1 X.2.1 hop (zPutA X hW hS w1 w2 hd (fun H1 locs1 hW1 hS1 => g hkn H1 locs1 ls hW1 hS1 hl))
  · exact lv_isub X.1 X.2.1 hop (zPutA X hW hS w1 w2 hd (fun H1 locs1 hW1 hS1 => g hkn H1 locs1 ls hW1 hS1 hl))
def sQ (ci : Nat) (o : zER) (i : zEI) (f : zER) : zSS := fun en h => (o en h).bind fun a => (i en a.2).bind fun b => (f en b.2).bind fun q => (wrQ q.2 ci a.1 b.1 q.1).map fun h' => .inl (en, h')
theorem kPQ {ci N : Nat} {C : String} {T : u_T} {ty : Nat → FieldType} {o f : zER} {i : zEI} (ho : erOk M 0 pc p0 o) (hi : eiOk M 1 p0 p1 i) (hf : erOk M 2 p1 p2 f) (hd : decode M.1 p2 = .ok (.aastore, 1)) (hC : (ci = 3 ∧ C = RX3) ∨ (ci = 4 ∧ C = RX4) ∨ (ci = 5 ∧ C = RX5)) (hc : zCl ci C T N ty) : ssOk M pc (p2 + 1) (sQ ci o i f) := by
  intro x X k n Q h en r hv g
  simp only [sQ, Option.bind_eq_some_iff, Option.map_eq_some_iff] at hv
  obtain ⟨⟨a, h1⟩, e1, ⟨b, h2⟩, e2, ⟨q, h3⟩, e3, h4, e4, e5⟩ := hv
  subst e5
  obtain ⟨NN, F, fs, w1, w2, w3, rfl⟩ := wrQ_spec e4
  refine ho x X k n Q h en [] a h1 e1 (Nat.zero_le _) (hi x X k n Q h1 en _ b h2 e2 (zcat_ref (d := 0) (Nat.le_refl _)) (hf x X k n Q h2 en _ q h3 e3 (zcat_int (zcat_ref (d := 0) (Nat.le_refl _))) ?_))
  obtain ⟨p, l, e, s, m, args, below, meth, c, D, Z, B0⟩ := x
  intro hkn H locs ls hW hS hl
  exact zPutQ X hW hS w1 w3 w2 hC hc hd (fun H1 locs1 hW1 hS1 => g hkn H1 locs1 ls hW1 hS1 hl)
/-! control -/
theorem zCont.inr {x : zC} {k n : Nat} {Q : State → Prop} {a b : Nat} {z : Option Int32 × zH} (h : zCont M x k n Q a (.inr z)) : zCont M x k n Q b (.inr z) := by
  obtain ⟨o, h'⟩ := z
  cases o <;> exact h
def sNop : zSS := fun en h => some (.inl (en, h))
theorem kNop : ssOk M pc pc sNop := by
  intro x X k n Q h en r hv g
  cases hv
  exact g
def sSeq (f g : zSS) : zSS := fun en h => (f en h).bind fun r => match r with
  | .inl q => g q.1 q.2
  | .inr q => some (.inr q)
theorem kSeq {f g : zSS} (hf : ssOk M pc p1 f) (hg : ssOk M p1 p2 g) : ssOk M pc p2 (sSeq f g) := by
  intro x X k n Q h en r hv c
  simp only [sSeq, Option.bind_eq_some_iff] at hv
  obtain ⟨r1, e1, e2⟩ := hv
  refine hf x X k n Q h en r1 e1 ?_
  cases r1 with
  | inl q => exact hg x X k n Q q.2 q.1 r e2 c
  | inr q => cases e2; exact c.inr
theorem kGo {f : zSS} {off : Int} (hf : ssOk M pc p1 f) (hd : decode M.1 p1 = .ok (.goto off, 3)) (ht : (p1 : Int) + off = (p2 : Int)) : ssOk M pc p2 f := by
  intro x X k n Q h en r hv c
  refine hf x X k n Q h en r hv ?_
  cases r with
  | inr q => exact c.inr
  | inl q =>
    obtain ⟨p, l, e, s, m, args, below, meth, cc, D, Z, B0⟩ := x
    intro hkn H locs ls hW hS hl
    exact lv_goto X.1 X.2.1 hd ht (c hkn H locs ls hW hS hl)
/-- what was declared within is forgotten -/
def zCut (en : List Value) (r : zSR) : zSR := match r with
  | .inl q => .inl (q.1.take en.length, q.2)
  | .inr q => .inr q
theorem zCont.cut {x : zC} {k n : Nat} {Q : State → Prop} {pc' : Nat} {en : List Value} {r : zSR} (h : zCont M x k n Q pc' (zCut en r)) : zCont M x k n Q pc' r := by
  cases r with
  | inl q => exact zG.take _ h
  | inr q => exact h
def sBlk (f : zSS) : zSS := fun en h => (f en h).map (zCut en)
theorem kBlk {f : zSS} (hf : ssOk M pc p1 f) : ssOk M pc p1 (sBlk f) := by
  intro x X k n Q h en r hv c
  simp only [sBlk, Option.map_eq_some_iff] at hv
  obtain ⟨r1, e1, e2⟩ := hv
  subst e2
  exact hf x X k n Q h en r1 e1 c.cut
def sIf (c : zEB) (f g : zSS) : zSS := fun en h => (c en h).bind fun a => ((if a.1 = true then f else g) en a.2).map (zCut en)
theorem kIf {c : zEB} {f g : zSS} (hc : ebOk M 0 pc pT pF c) (hf : ssOk M pT pE f) (hg : ssOk M pF pE g) : ssOk M pc pE (sIf c f g) := by
  intro x X k n Q h en r hv q
  simp only [sIf, Option.bind_eq_some_iff, Option.map_eq_some_iff] at hv
  obtain ⟨⟨a, h1⟩, e1, r1, e2, e3⟩ := hv
  subst e3
  refine hc x X k n Q h en [] a h1 e1 (Nat.zero_le _) ?_
  cases a with
  | true => exact hf x X k n Q h1 en r1 (by simpa using e2) q.cut
  | false => exact hg x X k n Q h1 en r1 (by simpa using e2) q.cut
def sW : Nat → zEB → zSS → zSS
  | 0, _, _ => fun _ _ => none
  | N + 1, c, f => fun en h => (c en h).bind fun a => if a.1 = true then (f en a.2).bind fun r => match r with
      | .inl q => sW N c f (q.1.take en.length) q.2
      | .inr q => some (.inr q)
    else some (.inl (en, a.2))
theorem kW {c : zEB} {f : zSS} (hc : ebOk M 0 pc pT pE c) (hf : ssOk M pT pc f) : ∀ N : Nat, ssOk M pc pE (sW N c f)
  | 0 => fun x X k n Q h en r hv q => by simp [sW] at hv
  | N + 1 => fun x X k n Q h en r hv q => by
    simp only [sW, Option.bind_eq_some_iff] at hv
    obtain ⟨⟨a, h1⟩, e1, e2⟩ := hv
    refine hc x X k n Q h en [] a h1 e1 (Nat.zero_le _) ?_
    cases a with
    | false =>
      simp at e2
      subst e2
      exact q
    | true =>
      simp only [if_true, Option.bind_eq_some_iff] at e2
      obtain ⟨r1, e3, e4⟩ := e2
      refine hf x X k n Q h1 en r1 e3 ?_
      cases r1 with
      | inl z => exact zG.take en.length (kW hc hf N x X k n Q z.2 _ r e4 q)
      | inr z => cases e4; exact q.inr
def sRi (f : zEI) : zSS := fun en h => (f en h).map fun a => .inr (some a.1, a.2)
def sRv : zSS := fun _ h => some (.inr (none, h))
theorem kRi {f : zEI} (hf : eiOk M 0 pc p1 f) (hd : decode M.1 p1 = .ok (.ireturn, 1)) : ssOk M pc pE (sRi f) := by
  intro x X k n Q h en r hv q
  simp only [sRi, Option.map_eq_some_iff] at hv
  obtain ⟨⟨a, h1⟩, e1, e2⟩ := hv
  subst e2
  exact hf x X k n Q h en [] a h1 e1 (Nat.zero_le _) (q p1 hd).nil
theorem kRv (hd : decode M.1 pc = .ok (.return_, 1)) : ssOk M pc pE sRv := by
  intro x X k n Q h en r hv q
  cases hv
  exact (q pc hd).nil
def sPop (f : zEI) : zSS := fun en h => (f en h).map fun a => .inl (en, a.2)
theorem kPop {f : zEI} (hf : eiOk M 0 pc p1 f) (hd : decode M.1 p1 = .ok (.pop, 1)) : ssOk M pc (p1 + 1) (sPop f) := by
  intro x X k n Q h en r hv q
  simp only [sPop, Option.map_eq_some_iff] at hv
  obtain ⟨⟨a, h1⟩, e1, e2⟩ := hv
  subst e2
  refine hf x X k n Q h en [] a h1 e1 (Nat.zero_le _) ?_
  obtain ⟨p, l, e, s, m, args, below, meth, c, D, Z, B0⟩ := x
  intro hkn H locs ls hW hS hl
  exact lv_pop X.1 X.2.1 hd rfl (q hkn H locs ls hW hS hl)
/-! switches -/
def sSw (lo hi : Int) (f : zEI) (bs : List zSS) (df : zSS) : zSS := fun en h => (f en h).bind fun a => ((if a.1.toInt < lo ∨ hi < a.1.toInt then df else bs.getD (a.1.toInt - lo).toNat df) en a.2).map (zCut en)
def swOk (M : zM) (p1 pE : Nat) : List Int → List zSS → Prop
  | [], [] => True
  | o :: os, b :: bs => (∃ tgt : Nat, (p1 : Int) + o = (tgt : Int) ∧ ssOk M tgt pE b) ∧ swOk M p1 pE os bs
  | _, _ => False
theorem swOk_get : ∀ (os : List Int) (bs : List zSS), swOk M p1 pE os bs → ∀ (i : Nat), i < os.length → ∀ df, ∃ (off : Int) (tgt : Nat), os[i]? = some off ∧ (p1 : Int) + off = (tgt : Int) ∧ ssOk M tgt pE (bs.getD i df)
  | [], [], _, i, hi, _ => by simp at hi
  | o :: os, b :: bs, h, 0, _, _ => by
    obtain ⟨⟨tgt, h1, h2⟩, -⟩ := h
    exact ⟨o, tgt, rfl, h1, h2⟩
  | o :: os, b :: bs, h, i + 1, hi, df => by
    obtain ⟨off, tgt, h1, h2, h3⟩ := swOk_get os bs h.2 i (by simpa using hi) df
    exact ⟨off, tgt, by simpa using h1, h2, by simpa using h3⟩
  | [], _ :: _, h, _, _, _ => h.elim
  | _ :: _, [], h, _, _, _ => h.elim
theorem kSw {f : zEI} {bs : List zSS} {df : zSS} {lo hi dflt : Int} {offs : Array Int} {len pD : Nat} (hf : eiOk M 0 pc p1 f) (hd : decode M.1 p1 = .ok (.tableswitch dflt lo hi offs, len)) (hD : (p1 : Int) + dflt = (pD : Int)) (hdf : ssOk M pD pE df) (hbs : swOk M p1 pE offs.toList bs) (hlen : (offs.size : Int) = hi - lo + 1) : ssOk M pc pE (sSw lo hi f bs df) := by
  intro x X k n Q h en r hv q
  simp only [sSw, Option.bind_eq_some_iff, Option.map_eq_some_iff] at hv
  obtain ⟨⟨a, h1⟩, e1, r1, e2, e3⟩ := hv
  subst e3
  refine hf x X k n Q h en [] a h1 e1 (Nat.zero_le _) ?_
  by_cases ha : a.toInt < lo ∨ hi < a.toInt
  · have g := hdf x X k n Q h1 en r1 (by simpa [ha] using e2) q.cut
    obtain ⟨p, l, e, s, m, args, below, meth, c, D, Z, B0⟩ := x
    intro hkn H locs ls hW hS hl
    exact lv_tableOut X.1 X.2.1 hd ha hD (g hkn H locs ls hW hS hl)
  · have hin : (a.toInt - lo).toNat < offs.toList.length := by
      rw [Array.length_toList]
      omega
    obtain ⟨off, tgt, w1, w2, w3⟩ := swOk_get offs.toList bs hbs (a.toInt - lo).toNat hin df
    have g := w3 x X k n Q h1 en r1 (by simpa [ha] using e2) q.cut
    obtain ⟨p, l, e, s, m, args, below, meth, c, D, Z, B0⟩ := x
    intro hkn H locs ls hW hS hl
    exact lv_tableIn X.1 X.2.1 hd (fun z => ha (Or.inl z)) (fun z => ha (Or.inr z)) (by rw [← Array.getElem?_toList]; exact w1) w2 (g hkn H locs ls hW hS hl)
end ZR3
end
section
/-! ROWS: contracts and calls -/
def zPre (D : va_G) (Z : Nat → ClassId) (B0 : Nat) (h : zH) (vs : List Value) : Array Value → State → Prop := va_Pc vs (fun U => B0 ≤ U.heap.size ∧ zW D Z B0 U h U.heap ∧ zK D Z U)
def zPoI (D : va_G) (Z : Nat → ClassId) (B0 : Nat) (v : Int32) (h' : zH) : Array Value → State → Outcome → State → Prop := va_Qi (fun (r : Int32) (_ : Unit) => r = v) (fun _ t => zW D Z B0 t h' t.heap) (fun q => B0 ≤ q)
def zPoV (D : va_G) (Z : Nat → ClassId) (B0 : Nat) (h' : zH) : Array Value → State → Outcome → State → Prop := va_Qv (fun (_ : Unit) => True) (fun _ t => zW D Z B0 t h' t.heap) (fun q => B0 ≤ q)
theorem zPre.blind {D : va_G} {Z : Nat → ClassId} {B0 : Nat} {h : zH} {vs : List Value} : FrameBlind (zPre D Z B0 h vs) := by
  intro a U g mk q
  obtain ⟨q1, q2, q3, q4⟩ := q
  exact ⟨q1, q2, zW.moved (Vm.Alike.refl U.vm) q3, zK.moved (u := U) (U := U.calling g mk a) (State.WarmedH.refl U) q4⟩
/-- the facts of a method that every call of it uses -/
def zMd (y : MethodName) (cc : ByteArray) (maxL : Nat) (ret : Option FieldType) (np : Nat) : Prop := zHas (.code y cc maxL ret) ∧ zHas (.initialized y.cls) ∧ (y.cls ≠ "java/lang/invoke/MethodHandle" ∧ y.cls ≠ "java/lang/invoke/VarHandle") ∧ (parseMethodDescriptor y.desc).map (fun d => d.parameters.length) = some np ∧ plainName y.cls = true
abbrev zFI : Type := List Value → zH → Option (Int32 × zH)
abbrev zFV : Type := List Value → zH → Option zH
def CtI (y : MethodName) (cc : ByteArray) (maxL : Nat) (ret : FieldType) (fr lo N : Nat) (fn : zFI) : Prop := ∀ (l : Launch) (D : va_G) (Z : Nat → ClassId) (B0 : Nat) (h : zH) (vs : List Value) (v : Int32) (h' : zH), vs.length = N → (∀ w ∈ vs, w.category = 1) → fn vs h = some (v, h') → Met l y [.code y cc maxL (some ret)] { frames := fr, cells := 0, slots := 0, locals := lo } (zPre D Z B0 h vs) (zPoI D Z B0 v h') 0 0 (fun q => B0 ≤ q)
def CtV (y : MethodName) (cc : ByteArray) (maxL : Nat) (fr mc ms lo N : Nat) (fn : zFV) : Prop := ∀ (l : Launch) (D : va_G) (Z : Nat → ClassId) (B0 : Nat) (h : zH) (vs : List Value) (h' : zH), vs.length = N → (∀ w ∈ vs, w.category = 1) → fn vs h = some h' → Met l y [.code y cc maxL none] { frames := fr, cells := mc, slots := ms, locals := lo } (zPre D Z B0 h vs) (zPoV D Z B0 h') mc ms (fun q => B0 ≤ q)
theorem zCallB {R : Room} {s : State} {args : Array Value} {own : String} {idx : Nat} {y : MethodName} {cc : ByteArray} {maxL : Nat} {ret : Option FieldType} {fr mc ms lo np : Nat} {D : va_G} {Z : Nat → ClassId} (hK : zK D Z s) (hm : zMd y cc maxL ret np) (hl : zHas (.methodLink own idx y)) (hR : fr + 1 ≤ R.frames ∧ 8 + (maxL + 11) + lo ≤ R.locals) :
    CallB R s args own idx y cc maxL ret [.code y cc maxL ret] { frames := fr, cells := mc, slots := ms, locals := lo } mc ms np := by
  obtain ⟨h1, h2, h3, h4, -⟩ := hm
  refine ⟨rfl, rfl, hR.1, hR.2, fun w hw a' U hW => ?_, List.mem_cons_self, hK.ts args h1, hK.ts args h2, h3, fun sig h => ?_, hK.ts args hl⟩
  · rw [List.mem_singleton.mp hw]
    exact word_at hW (good_of_word h1.2) (hK.ts args h1)
  · rw [h] at h4
    exact (Option.some.inj h4).symm
theorem zPre.at {M : zM} {p : Program} {l : Launch} {e : Env} {s : State} {m : MethodId} {args : Array Value} {below : List Frame} {meth : Method} {c : Code} {D : va_G} {Z : Nat → ClassId} {B0 : Nat} {h : zH} {H : Heap} {locs : List Loc} {vs : List Value} (X : zCx M (p, l, e, s, m, args, below, meth, c, D, Z, B0)) (hW : zW D Z B0 s h H) (hS : va_S (fun q => B0 ≤ q) s.heap H locs) : ∀ U : State, U.heap = H → s.WarmedH U.vm → zPre D Z B0 h vs vs.toArray U := by
  intro U hU hM
  refine ⟨rfl, ?_, ?_, zK.moved hM X.2.2.2.2.1⟩
  · rw [hU]
    exact Nat.le_trans X.2.2.2.2.2.2.2.2 hS.1
  · rw [hU]
    exact zW.moved hM.alike hW
section ZR4
variable {M : zM} {d pc p0 p1 p2 p3 pT pF pE : Nat}
/-! lists of arguments -/
def aN : zEA := fun _ h => some ([], h)
def aI (f : zEI) (g : zEA) : zEA := fun en h => (f en h).bind fun a => (g en a.2).map fun b => (.int a.1 :: b.1, b.2)
def aR (f : zER) (g : zEA) : zEA := fun en h => (f en h).bind fun a => (g en a.2).map fun b => (.ref a.1 :: b.1, b.2)
theorem kaN : eaOk M d pc pc 0 aN := by
  intro x X k n Q h en st v h' hv hs
  cases hv
  exact ⟨⟨rfl, fun w hw => by cases hw⟩, fun q => q⟩
theorem kaI {f : zEI} {g : zEA} {N : Nat} (hf : eiOk M d pc p1 f) (hg : eaOk M (d + 1) p1 p2 N g) : eaOk M d pc p2 (N + 1) (aI f g) := by
  intro x X k n Q h en st v h' hv hs
  simp only [aI, Option.bind_eq_some_iff, Option.map_eq_some_iff] at hv
  obtain ⟨⟨a, h1⟩, e1, ⟨b, h2⟩, e2, e3⟩ := hv
  cases e3
  obtain ⟨⟨q1, q2⟩, q3⟩ := hg x X k n Q h1 en (.int a :: st) b h2 e2 (zcat_int hs)
  refine ⟨⟨by simp [q1], fun w hw => ?_⟩, fun q => hf x X k n Q h en st a h1 e1 hs (q3 (by simpa using q))⟩
  rcases List.mem_cons.mp hw with z | z
  · rw [z]; rfl
  · exact q2 w z
theorem kaR {f : zER} {g : zEA} {N : Nat} (hf : erOk M d pc p1 f) (hg : eaOk M (d + 1) p1 p2 N g) : eaOk M d pc p2 (N + 1) (aR f g) := by
  intro x X k n Q h en st v h' hv hs
  simp only [aR, Option.bind_eq_some_iff, Option.map_eq_some_iff] at hv
  obtain ⟨⟨a, h1⟩, e1, ⟨b, h2⟩, e2, e3⟩ := hv
  cases e3
  obtain ⟨⟨q1, q2⟩, q3⟩ := hg x X k n Q h1 en (.ref a :: st) b h2 e2 (zcat_ref hs)
  refine ⟨⟨by simp [q1], fun w hw => ?_⟩, fun q => hf x X k n Q h en st a h1 e1 hs (q3 (by simpa using q))⟩
  rcases List.mem_cons.mp hw with z | z
  · rw [z]; rfl
  · exact q2 w z
/-! calls of static methods -/
def eCS (f : zEA) (fn : zFI) : zEI := fun en h => (f en h).bind fun a => fn a.1 a.2
def sCS (f : zEA) (fn : zFV) : zSS := fun en h => (f en h).bind fun a => (fn a.1 a.2).map fun h' => .inl (en, h')
theorem kCS {y : MethodName} {cc : ByteArray} {maxL fr lo N idx : Nat} {ret : FieldType} {f : zEA} {fn : zFI} (hf : eaOk M d pc p1 N f) (hd : decode M.1 p1 = .ok (.invokestatic idx, 3)) (ct : CtI y cc maxL ret fr lo N fn) (hm : zMd y cc maxL (some ret) N) (hst : zHas (.static y)) (hl : zHas (.methodLink M.2.1 idx y)) (hR : fr + 1 ≤ M.2.2.2.2.1.frames ∧ 8 + (maxL + 11) + lo ≤ M.2.2.2.2.1.locals) (hd8 : d ≤ 8) : eiOk M d pc (p1 + 3) (eCS f fn) := by
  intro x X k n Q h en st v h' hv hs q
  simp only [eCS, Option.bind_eq_some_iff] at hv
  obtain ⟨⟨vs, h1⟩, e1, e2⟩ := hv
  obtain ⟨⟨q1, q2⟩, q3⟩ := hf x X k n Q h en st vs h1 e1 hs
  refine q3 ?_
  obtain ⟨p, l, e, s, m, args, below, meth, c, D, Z, B0⟩ := x
  intro hkn H locs ls hW hS hl'
  exact va_calli (va_runS (As := vs) (rest := st) (Ts := []) ⟨X.1, X.2.1, X.2.2.1, X.2.2.2.1, fun w hw => by cases hw⟩ (ct l D Z B0 h1 vs v h' q1 q2 e2) ⟨zCallB X.2.2.2.2.1 hm hl hR, X.2.2.2.2.1.ts args hst⟩ ⟨zPre.blind, zPre.at X hW hS⟩ rfl q1 hl'.1 rfl (lv_room (Nat.le_trans hs hd8)) hd hkn) hS (fun q _ h => h) (fun q h => h) (fun r u t H1 locs1 ht hvm hp hb hz hk hS1 => by
    rw [hp]
    exact q hkn H1 locs1 ls (by rw [← ht]; exact zW.moved hvm.symm hb) hS1 hl')
theorem ksCS {y : MethodName} {cc : ByteArray} {maxL fr lo N idx : Nat} {f : zEA} {fn : zFV} (hf : eaOk M 0 pc p1 N f) (hd : decode M.1 p1 = .ok (.invokestatic idx, 3)) (ct : CtV y cc maxL fr 0 0 lo N fn) (hm : zMd y cc maxL none N) (hst : zHas (.static y)) (hl : zHas (.methodLink M.2.1 idx y)) (hR : fr + 1 ≤ M.2.2.2.2.1.frames ∧ 8 + (maxL + 11) + lo ≤ M.2.2.2.2.1.locals) : ssOk M pc (p1 + 3) (sCS f fn) := by
  intro x X k n Q h en r hv q
  simp only [sCS, Option.bind_eq_some_iff, Option.map_eq_some_iff] at hv
  obtain ⟨⟨vs, h1⟩, e1, h2, e2, e3⟩ := hv
  subst e3
  obtain ⟨⟨q1, q2⟩, q3⟩ := hf x X k n Q h en [] vs h1 e1 (Nat.zero_le _)
  refine q3 ?_
  obtain ⟨p, l, e, s, m, args, below, meth, c, D, Z, B0⟩ := x
  intro hkn H locs ls hW hS hl'
  exact va_callv (va_runS (As := vs) (rest := []) (Ts := []) ⟨X.1, X.2.1, X.2.2.1, X.2.2.2.1, fun w hw => by cases hw⟩ (ct l D Z B0 h1 vs h2 q1 q2 e2) ⟨zCallB X.2.2.2.2.1 hm hl hR, X.2.2.2.2.1.ts args hst⟩ ⟨zPre.blind, zPre.at X hW hS⟩ rfl q1 hl'.1 rfl (lv_room (Nat.zero_le _)) hd hkn) hS (fun q _ h => h) (fun q h => h) (fun u t H1 locs1 ht hvm hp hb hz hk hS1 => by
    exact q hkn H1 locs1 ls (by rw [← ht]; exact zW.moved hvm.symm hb) hS1 hl')
/-! calls of methods of objects -/
def eCV (ci : Nat) (o : zER) (f : zEA) (fn : zFI) : zEI := fun en h => (o en h).bind fun a => (f en a.2).bind fun b => if isO b.2 ci a.1 = true then fn (.ref a.1 :: b.1) b.2 else none
def sCV (ci : Nat) (o : zER) (f : zEA) (fn : zFV) : zSS := fun en h => (o en h).bind fun a => (f en a.2).bind fun b => if isO b.2 ci a.1 = true then (fn (.ref a.1 :: b.1) b.2).map fun h' => .inl (en, h') else none
theorem kCV {y : MethodName} {cc : ByteArray} {maxL fr lo N NN idx ci : Nat} {ret : FieldType} {C : String} {T : u_T} {ty : Nat → FieldType} {o : zER} {f : zEA} {fn : zFI} (ho : erOk M d pc p0 o) (hf : eaOk M (d + 1) p0 p1 N f) (hd : decode M.1 p1 = .ok (.invokevirtual idx, 3)) (ct : CtI y cc maxL ret fr lo (N + 1) fn) (hm : zMd y cc maxL (some ret) N) (hin : zHas (.instanceMethod y)) (hse : zHas (.selects C y y)) (hc : zCl ci C T NN ty) (hl : zHas (.methodLink M.2.1 idx y)) (hR : fr + 1 ≤ M.2.2.2.2.1.frames ∧ 8 + (maxL + 11) + lo ≤ M.2.2.2.2.1.locals) (hd8 : d ≤ 8) : eiOk M d pc (p1 + 3) (eCV ci o f fn) := by
  intro x X k n Q h en st v h' hv hs q
  simp only [eCV, Option.bind_eq_some_iff] at hv
  obtain ⟨⟨a, h0⟩, e0, ⟨vs, h1⟩, e1, e2⟩ := hv
  split at e2
  case isFalse => cases e2
  case isTrue hio =>
  obtain ⟨fs, hfs⟩ := isO_spec hio
  refine ho x X k n Q h en st a h0 e0 hs ?_
  obtain ⟨⟨q1, q2⟩, q3⟩ := hf x X k n Q h0 en (.ref a :: st) vs h1 e1 (zcat_ref hs)
  refine q3 ?_
  obtain ⟨p, l, e, s, m, args, below, meth, c, D, Z, B0⟩ := x
  intro hkn H locs ls hW hS hl'
  exact va_calli (va_runV (As := vs) (rest := st) (b := a) (C := C) (Ts := []) ⟨X.1, X.2.1, X.2.2.1, X.2.2.2.1, fun w hw => by cases hw⟩ (ct l D Z B0 h1 (.ref a :: vs) v h' (by simp [q1]) (fun w hw => by
    rcases List.mem_cons.mp hw with z | z
    · rw [z]; rfl
    · exact q2 w z) e2) ⟨zCallB X.2.2.2.2.1 hm hl hR, X.2.2.2.2.1.ts args hin, X.2.2.2.2.1.ts args hse⟩ ⟨zPre.blind, va_recv (cl := vwCl) (ws := [(a, .inr (ci, fs))]) X.2.2.2.2.1.1 (va_P1 (hW.2 a _ hfs).1) (q := (C, T, NN)) (q0 := 0) hc.1 rfl, zPre.at X hW hS⟩ rfl q1 hl'.1 rfl (lv_room (Nat.le_trans hs hd8)) hd hkn) hS (fun q _ h => h) (fun q h => h) (fun r u t H1 locs1 ht hvm hp hb hz hk hS1 => by
    rw [hp]
    exact q hkn H1 locs1 ls (by rw [← ht]; exact zW.moved hvm.symm hb) hS1 hl')
theorem ksCV {y : MethodName} {cc : ByteArray} {maxL fr lo N NN idx ci : Nat} {C : String} {T : u_T} {ty : Nat → FieldType} {o : zER} {f : zEA} {fn : zFV} (ho : erOk M 0 pc p0 o) (hf : eaOk M 1 p0 p1 N f) (hd : decode M.1 p1 = .ok (.invokevirtual idx, 3)) (ct : CtV y cc maxL fr 0 0 lo (N + 1) fn) (hm : zMd y cc maxL none N) (hin : zHas (.instanceMethod y)) (hse : zHas (.selects C y y)) (hc : zCl ci C T NN ty) (hl : zHas (.methodLink M.2.1 idx y)) (hR : fr + 1 ≤ M.2.2.2.2.1.frames ∧ 8 + (maxL + 11) + lo ≤ M.2.2.2.2.1.locals) : ssOk M pc (p1 + 3) (sCV ci o f fn) := by
  intro x X k n Q h en r hv q
  simp only [sCV, Option.bind_eq_some_iff] at hv
  obtain ⟨⟨a, h0⟩, e0, ⟨vs, h1⟩, e1, e2⟩ := hv
  split at e2
  case isFalse => cases e2
  case isTrue hio =>
  obtain ⟨h2, e3, e4⟩ := Option.map_eq_some_iff.mp e2
  subst e4
  obtain ⟨fs, hfs⟩ := isO_spec hio
  refine ho x X k n Q h en [] a h0 e0 (Nat.zero_le _) ?_
  obtain ⟨⟨q1, q2⟩, q3⟩ := hf x X k n Q h0 en (.ref a :: []) vs h1 e1 (zcat_ref (d := 0) (Nat.le_refl _))
  refine q3 ?_
  obtain ⟨p, l, e, s, m, args, below, meth, c, D, Z, B0⟩ := x
  intro hkn H locs ls hW hS hl'
  exact va_callv (va_runV (As := vs) (rest := []) (b := a) (C := C) (Ts := []) ⟨X.1, X.2.1, X.2.2.1, X.2.2.2.1, fun w hw => by cases hw⟩ (ct l D Z B0 h1 (.ref a :: vs) h2 (by simp [q1]) (fun w hw => by
    rcases List.mem_cons.mp hw with z | z
    · rw [z]; rfl
    · exact q2 w z) e3) ⟨zCallB X.2.2.2.2.1 hm hl hR, X.2.2.2.2.1.ts args hin, X.2.2.2.2.1.ts args hse⟩ ⟨zPre.blind, va_recv (cl := vwCl) (ws := [(a, .inr (ci, fs))]) X.2.2.2.2.1.1 (va_P1 (hW.2 a _ hfs).1) (q := (C, T, NN)) (q0 := 0) hc.1 rfl, zPre.at X hW hS⟩ rfl q1 hl'.1 rfl (lv_room (Nat.zero_le _)) hd hkn) hS (fun q _ h => h) (fun q h => h) (fun u t H1 locs1 ht hvm hp hb hz hk hS1 => by
    exact q hkn H1 locs1 ls (by rw [← ht]; exact zW.moved hvm.symm hb) hS1 hl')
/-- Math.min -/
def eMin (f g : zEI) : zEI := fun en h => (f en h).bind fun a => (g en a.2).bind fun b => some (if b.1 < a.1 then b.1 else a.1, b.2)
theorem kMin {f g : zEI} {idx : Nat} (hf : eiOk M d pc p1 f) (hg : eiOk M (d + 1) p1 p2 g) (hd : decode M.1 p2 = .ok (.invokestatic idx, 3)) (hl : zHas (.methodLink M.2.1 idx Lib.Math.min.name)) (h1 : zHas (.static Lib.Math.min.name)) (h2 : zHas (.initialized "java/lang/Math")) (h3 : zHas (.code Lib.Math.min.name Lib.Math.min.code 2 (some .int))) (hR : 1 ≤ M.2.2.2.2.1.frames ∧ d + 13 ≤ M.2.2.2.2.1.locals) : eiOk M d pc (p2 + 3) (eMin f g) := by
  intro x X k n Q h en st v' h' hv hs q
  simp only [eMin, Option.bind_eq_some_iff] at hv
  obtain ⟨⟨a, w1⟩, e1, ⟨b, w2⟩, e2, e3⟩ := hv
  cases e3
  refine hf x X k n Q h en st a w1 e1 hs (hg x X k n Q w1 en _ b _ e2 (zcat_int hs) ?_)
  obtain ⟨p, l, e, s, m, args, below, meth, c, D, Z, B0⟩ := x
  intro hkn H locs ls hW hS hl'
  have hK := X.2.2.2.2.1
  exact va_mmin X.1 X.2.1 (X.2.2.1.trans hl'.1.symm) X.2.2.2.1 (hK.ts args hl) (hK.ts args h1) (hK.ts args h2) (hK.ts args h3) hR.1 (by have := hR.2; simp only [zcat] at hs; omega) hkn.1 hkn.2 hd (q hkn H locs ls hW hS hl')
end ZR4
/-! from a body to a contract -/
theorem lv_args_mem : ∀ (vs : List Value) (i0 : Nat), (∀ w ∈ vs, w.category = 1) → ∀ (i : Nat) (v : Value), vs[i]? = some v → (i0 + i, v) ∈ lv_args i0 vs
  | [], _, _, i, v, h => by simp at h
  | a :: vs, i0, hc, i, v, h => by
    have ha : a.category = 1 := hc a List.mem_cons_self
    simp only [lv_args, ha]
    cases i with
    | zero =>
      simp at h
      subst h
      exact List.mem_cons_self
    | succ i =>
      refine List.mem_cons_of_mem _ ?_
      have := lv_args_mem vs (i0 + 1) (fun w hw => hc w (List.mem_cons_of_mem _ hw)) i v (by simpa using h)
      rw [show i0 + (i + 1) = i0 + 1 + i by omega]
      simpa using this
theorem lg_sl_len : ∀ (vs : List Value), (∀ w ∈ vs, w.category = 1) → (lg_sl vs).length = vs.length
  | [], _ => rfl
  | a :: vs, hc => by
    have ha : a.category = 1 := hc a List.mem_cons_self
    have := lg_sl_len vs (fun w hw => hc w (List.mem_cons_of_mem _ hw))
    simp only [lg_sl, List.flatMap_cons, ha] at *
    simp [this]
theorem zL.entry {vs : List Value} {n : Nat} (hc : ∀ w ∈ vs, w.category = 1) (hn : vs.length ≤ n) : zL ((lg_sl vs ++ List.replicate (n - (lg_sl vs).length) Slot.unset).toArray) n vs := by
  have h := lv_entry vs (n := n) (by rw [lg_sl_len vs hc]; exact hn)
  refine ⟨h.1, h.2.1, fun i v hv _ => h.2.2 (i, v) (by have := lv_args_mem vs 0 hc i v hv; simpa using this)⟩
/-- what a method of a body says -/
def mI (f : zSS) : zFI := fun vs h => (f vs h).bind fun r => match r with
  | .inr (some v, h') => some (v, h')
  | _ => none
def mZ (f : zSS) : zFI := fun vs h => (f vs h).bind fun r => match r with
  | .inr (some v, h') => if v = 0 ∨ v = 1 then some (v, h') else none
  | _ => none
def mV (f : zSS) : zFV := fun vs h => (f vs h).bind fun r => match r with
  | .inr (none, h') => some h'
  | _ => none
theorem mI_spec {f : zSS} {vs : List Value} {h h' : zH} {v : Int32} (hf : mI f vs h = some (v, h')) : f vs h = some (.inr (some v, h')) := by
  simp only [mI, Option.bind_eq_some_iff] at hf
  obtain ⟨r, e1, e2⟩ := hf
  rw [e1]
  split at e2
  · cases e2; rfl
  · cases e2
theorem mZ_spec {f : zSS} {vs : List Value} {h h' : zH} {v : Int32} (hf : mZ f vs h = some (v, h')) : f vs h = some (.inr (some v, h')) ∧ (v = 0 ∨ v = 1) := by
  simp only [mZ, Option.bind_eq_some_iff] at hf
  obtain ⟨r, e1, e2⟩ := hf
  rw [e1]
  split at e2
  · split at e2
    · rename_i hz
      cases e2; exact ⟨rfl, hz⟩
    · cases e2
  · cases e2
theorem mV_spec {f : zSS} {vs : List Value} {h h' : zH} (hf : mV f vs h = some h') : f vs h = some (.inr (none, h')) := by
  simp only [mV, Option.bind_eq_some_iff] at hf
  obtain ⟨r, e1, e2⟩ := hf
  rw [e1]
  split at e2
  · cases e2; rfl
  · cases e2
theorem ctI {y : MethodName} {cc : ByteArray} {maxL fr lo N np pE : Nat} {f : zSS} (hm : zMd y cc maxL (some .int) np) (hN : N ≤ maxL) (hs : ssOk (cc, y.cls, maxL, some .int, { frames := fr, cells := 0, slots := 0, locals := lo }, false) 0 pE f) : CtI y cc maxL .int fr lo N (mI f) := by
  intro l D Z B0 h vs v h' hlen hcat hf
  refine Met.ofW (cc := cc) (maxL := maxL) (ret := some .int) hm.2.2.2.2 rfl ?_
  intro p e s m args below meth c s₁ B hml hv
  obtain ⟨rfl, hB0, hW, hK⟩ := hv
  have X : zCx (cc, y.cls, maxL, some .int, { frames := fr, cells := 0, slots := 0, locals := lo }, false) (p, l, e, s, m, vs.toArray, below, meth, c, D, Z, B0) := ⟨B.exec, B.bytes, hml, findClass_of_methodNamed B.named, hK, B.returns, B.notSynchronized, fun z => absurd z Bool.false_ne_true, hB0⟩
  rw [lg_entry_eq]
  have g := hs _ X 0 0 (MQ below (zPoI D Z B0 v h') vs.toArray s 0 0 (fun q => B0 ≤ q)) h vs _ (mI_spec hf) (by
    intro pc hd hkn H locs ls hW hS hl
    exact W.iret X.1 X.2.1 B.returns (fun t ht hM => ⟨⟨v, (), rfl, rfl, zW.moved hM.alike (show zW D Z B0 s h' t.heap by rw [ht]; exact hW)⟩, hS.F ht⟩) hS.2.2 hd B.notSynchronized)
  exact g ⟨Nat.le_refl _, Nat.le_refl _⟩ s.heap [] _ hW va_S.rf (zL.entry hcat (by omega))
theorem ctZ {y : MethodName} {cc : ByteArray} {maxL fr lo N np pE : Nat} {f : zSS} (hm : zMd y cc maxL (some .boolean) np) (hN : N ≤ maxL) (hs : ssOk (cc, y.cls, maxL, some .boolean, { frames := fr, cells := 0, slots := 0, locals := lo }, false) 0 pE f) : CtI y cc maxL .boolean fr lo N (mZ f) := by
  intro l D Z B0 h vs v h' hlen hcat hf
  refine Met.ofW (cc := cc) (maxL := maxL) (ret := some .boolean) hm.2.2.2.2 rfl ?_
  intro p e s m args below meth c s₁ B hml hv
  obtain ⟨rfl, hB0, hW, hK⟩ := hv
  have X : zCx (cc, y.cls, maxL, some .boolean, { frames := fr, cells := 0, slots := 0, locals := lo }, false) (p, l, e, s, m, vs.toArray, below, meth, c, D, Z, B0) := ⟨B.exec, B.bytes, hml, findClass_of_methodNamed B.named, hK, B.returns, B.notSynchronized, fun z => absurd z Bool.false_ne_true, hB0⟩
  rw [lg_entry_eq]
  obtain ⟨hf1, hf2⟩ := mZ_spec hf
  have g := hs _ X 0 0 (MQ below (zPoI D Z B0 v h') vs.toArray s 0 0 (fun q => B0 ≤ q)) h vs _ hf1 (by
    intro pc hd hkn H locs ls hW hS hl
    exact W.zret (ty := .boolean) X.1 X.2.1 B.returns (by rcases hf2 with z | z <;> (rw [z]; rfl)) (fun t ht hM => ⟨⟨v, (), rfl, rfl, zW.moved hM.alike (show zW D Z B0 s h' t.heap by rw [ht]; exact hW)⟩, hS.F ht⟩) hS.2.2 hd B.notSynchronized)
  exact g ⟨Nat.le_refl _, Nat.le_refl _⟩ s.heap [] _ hW va_S.rf (zL.entry hcat (by omega))
theorem ctV {y : MethodName} {cc : ByteArray} {maxL fr lo N np pE : Nat} {f : zSS} (hm : zMd y cc maxL none np) (hN : N ≤ maxL) (hs : ssOk (cc, y.cls, maxL, none, { frames := fr, cells := 0, slots := 0, locals := lo }, false) 0 pE f) : CtV y cc maxL fr 0 0 lo N (mV f) := by
  intro l D Z B0 h vs h' hlen hcat hf
  refine Met.ofW (cc := cc) (maxL := maxL) (ret := none) hm.2.2.2.2 rfl ?_
  intro p e s m args below meth c s₁ B hml hv
  obtain ⟨rfl, hB0, hW, hK⟩ := hv
  have X : zCx (cc, y.cls, maxL, none, { frames := fr, cells := 0, slots := 0, locals := lo }, false) (p, l, e, s, m, vs.toArray, below, meth, c, D, Z, B0) := ⟨B.exec, B.bytes, hml, findClass_of_methodNamed B.named, hK, B.returns, B.notSynchronized, fun z => absurd z Bool.false_ne_true, hB0⟩
  rw [lg_entry_eq]
  have g := hs _ X 0 0 (MQ below (zPoV D Z B0 h') vs.toArray s 0 0 (fun q => B0 ≤ q)) h vs _ (mV_spec hf) (by
    intro pc hd hkn H locs ls hW hS hl
    exact W.vret X.1 X.2.1 B.returns (fun t ht hM => ⟨⟨(), rfl, trivial, zW.moved hM.alike (show zW D Z B0 s h' t.heap by rw [ht]; exact hW)⟩, hS.F ht⟩) hS.2.2 hd B.notSynchronized)
  exact g ⟨Nat.le_refl _, Nat.le_refl _⟩ s.heap [] _ hW va_S.rf (zL.entry hcat (by omega))
end
section
/-! ROWS: what makes cells (constructors, and the law's start) -/
def saOk (M : zM) (pc pc' kc kn : Nat) (f : zSS) : Prop := ∀ x, zCx M x → ∀ (k n : Nat) (Q : State → Prop) (h : zH) (en en' : List Value) (h' : zH), f en h = some (.inl (en', h')) → k + kc ≤ M.2.2.2.2.1.cells → n + kn ≤ M.2.2.2.2.1.slots → zG M x (k + kc) (n + kn) Q h' en' pc' [] → zG M x k n Q h en pc []
def rnOk (M : zM) (d pc pc' kc kn : Nat) (f : zER) : Prop := ∀ x, zCx M x → ∀ (k n : Nat) (Q : State → Prop) (h : zH) (en st : List Value) (v : Nat) (h' : zH), f en h = some (v, h') → zcat st ≤ d → k + kc ≤ M.2.2.2.2.1.cells → n + kn ≤ M.2.2.2.2.1.slots → zG M x (k + kc) (n + kn) Q h' en pc' (.ref v :: st) → zG M x k n Q h en pc st
section ZR5
variable {M : zM} {d pc p0 p1 p2 p3 pT pF pE : Nat}
theorem zG.widen {x : zC} {k n k' n' : Nat} {Q : State → Prop} {h : zH} {en st : List Value} (h1 : k ≤ k') (h2 : n ≤ n') (hk : k' ≤ M.2.2.2.2.1.cells) (hn : n' ≤ M.2.2.2.2.1.slots) (g : zG M x k' n' Q h en pc st) : zG M x k n Q h en pc st := by
  obtain ⟨p, l, e, s, m, args, below, meth, c, D, Z, B0⟩ := x
  intro hkn H locs ls hW hS hl
  exact W.widen h1 h2 (g ⟨hk, hn⟩ H locs ls hW hS hl)
theorem rn_er {f : zER} (hf : erOk M d pc p1 f) : rnOk M d pc p1 0 0 f := fun x X k n Q h en st v h' hv hs _ _ q => hf x X k n Q h en st v h' hv hs q
theorem sa_ss {f : zSS} (hf : ssOk M pc p1 f) : saOk M pc p1 0 0 f := fun x X k n Q h en en' h' hv _ _ q => hf x X k n Q h en _ hv q
theorem saSeq {f g : zSS} {kc kn kc' kn' : Nat} (hf : saOk M pc p1 kc kn f) (hg : saOk M p1 p2 kc' kn' g) : saOk M pc p2 (kc + kc') (kn + kn') (sSeq f g) := by
  intro x X k n Q h en en' h' hv h1 h2 q
  simp only [sSeq, Option.bind_eq_some_iff] at hv
  obtain ⟨r1, e1, e2⟩ := hv
  cases r1 with
  | inr z => cases e2
  | inl z =>
    refine hf x X k n Q h en z.1 z.2 e1 (by omega) (by omega) (hg x X (k + kc) (n + kn) Q z.2 z.1 en' h' e2 (by omega) (by omega) ?_)
    rw [Nat.add_assoc, Nat.add_assoc]
    exact q
theorem saBlk {f : zSS} {kc kn : Nat} (hf : saOk M pc p1 kc kn f) : saOk M pc p1 kc kn (sBlk f) := by
  intro x X k n Q h en en' h' hv h1 h2 q
  simp only [sBlk, Option.map_eq_some_iff] at hv
  obtain ⟨r1, e1, e2⟩ := hv
  cases r1 with
  | inr z => cases e2
  | inl z =>
    cases e2
    exact hf x X k n Q h en z.1 z.2 e1 h1 h2 (zG.take _ q)
theorem saGo {f : zSS} {kc kn : Nat} {off : Int} (hf : saOk M pc p1 kc kn f) (hd : decode M.1 p1 = .ok (.goto off, 3)) (ht : (p1 : Int) + off = (p2 : Int)) : saOk M pc p2 kc kn f := by
  intro x X k n Q h en en' h' hv h1 h2 q
  refine hf x X k n Q h en en' h' hv h1 h2 ?_
  obtain ⟨p, l, e, s, m, args, below, meth, cc, D, Z, B0⟩ := x
  intro hkn H locs ls hW hS hl
  exact lv_goto X.1 X.2.1 hd ht (q hkn H locs ls hW hS hl)
theorem saW {c : zEB} {f : zSS} {kc kn : Nat} (hc : ebOk M 0 pc pT pE c) (hf : saOk M pT pc kc kn f) : ∀ N : Nat, saOk M pc pE (N * kc) (N * kn) (sW N c f)
  | 0 => fun x X k n Q h en en' h' hv _ _ q => by simp [sW] at hv
  | N + 1 => fun x X k n Q h en en' h' hv h1 h2 q => by
    simp only [sW, Option.bind_eq_some_iff] at hv
    obtain ⟨⟨a, w1⟩, e1, e2⟩ := hv
    refine hc x X k n Q h en [] a w1 e1 (Nat.zero_le _) ?_
    cases a with
    | false =>
      simp at e2
      obtain ⟨rfl, rfl⟩ := e2
      exact zG.widen (Nat.le_add_right _ _) (Nat.le_add_right _ _) h1 h2 q
    | true =>
      simp only [if_true, Option.bind_eq_some_iff] at e2
      obtain ⟨r1, e3, e4⟩ := e2
      cases r1 with
      | inr z => cases e4
      | inl z =>
        rw [Nat.succ_mul] at h1 h2 q
        rw [Nat.succ_mul] at q
        refine hf x X k n Q w1 en z.1 z.2 e3 (by omega) (by omega) (zG.take en.length (saW hc hf N x X (k + kc) (n + kn) Q z.2 _ en' h' e4 (by omega) (by omega) ?_))
        rw [show k + kc + N * kc = k + (N * kc + kc) by omega, show n + kn + N * kn = n + (N * kn + kn) by omega]
        exact q
/-- new int[n] -/
def rNA (nn : Nat) (c : zEI) : zER := fun en h => (c en h).bind fun a => if a.1 = nI nn then some (a.2.1, (a.2.1 + 1, va_up a.2.2 a.2.1 (some (xI nn (fun _ => 0))))) else none
theorem kNA {c : zEI} {nn : Nat} (hc : eiOk M d pc p1 c) (hd : decode M.1 p1 = .ok (.newarray .int, 2)) (hnn : nn ≤ 4000) (ha : zHas (.arrayClass .int)) : rnOk M d pc (p1 + 2) 1 nn (rNA nn c) := by
  intro x X k n Q h en st v h' hv hs h1 h2 q
  simp only [rNA, Option.bind_eq_some_iff] at hv
  obtain ⟨⟨a, w⟩, e1, e2⟩ := hv
  split at e2
  case isFalse => cases e2
  case isTrue hz =>
  dsimp only at hz e2
  cases e2
  subst hz
  refine hc x X k n Q h en st _ w e1 hs ?_
  obtain ⟨p, l, e, s, m, args, below, meth, c, D, Z, B0⟩ := x
  intro hkn H locs ls hW hS hl
  refine va_newaK (atype := .int) X.1 X.2.1 (X.2.2.2.2.1.ts args ha) rfl hd rfl (nI_pos (by omega)) (nI_clamp (by omega)) (by show nn * 4 ≤ _; omega) h1 h2 rfl (fun H1 cA g1 g2 g3 _ g4 => ?_)
  have hcA : cA = Z 100 := Option.some.inj (g4.symm.trans (X.2.2.2.2.1.1.2 0 _ rfl).2)
  subst hcA
  have hB : B0 ≤ H.size := Nat.le_trans X.2.2.2.2.2.2.2.2 hS.1
  have hP := hW.push (y := xI nn (fun _ => 0)) g2 g3 (by show H1[H.size]? = some (vp_cell _ _); rw [g1]; rfl) hB
  rw [hW.1]
  exact q ⟨h1, h2⟩ H1 locs ls hP ⟨by rw [g2]; exact Nat.le_trans hS.1 (Nat.le_succ _), fun z q1 q2 => (g3 z (Nat.lt_of_lt_of_le q1 hS.1)).trans (hS.2.1 z q1 q2), hS.2.2⟩ hl
/-- new C[n] -/
def rNR (ci nn : Nat) (c : zEI) : zER := fun en h => (c en h).bind fun a => if a.1 = nI nn then some (a.2.1, (a.2.1 + 1, va_up a.2.2 a.2.1 (some (xR ci nn (fun _ => none))))) else none
theorem kNR {c : zEI} {nn ci idx : Nat} {C : String} (hc : eiOk M d pc p1 c) (hd : decode M.1 p1 = .ok (.anewarray idx, 3)) (hnn : nn ≤ 4000) (ha : Cond.arrayOver (.object C) ∈ lw_tbl) (hl0 : zHas (.classLink M.2.1 idx C)) (hC : (ci = 3 ∧ C = RX3) ∨ (ci = 4 ∧ C = RX4) ∨ (ci = 5 ∧ C = RX5)) : rnOk M d pc (p1 + 3) 1 nn (rNR ci nn c) := by
  intro x X k n Q h en st v h' hv hs h1 h2 q
  simp only [rNR, Option.bind_eq_some_iff] at hv
  obtain ⟨⟨a, w⟩, e1, e2⟩ := hv
  split at e2
  case isFalse => cases e2
  case isTrue hz =>
  dsimp only at hz e2
  cases e2
  subst hz
  refine hc x X k n Q h en st _ w e1 hs ?_
  obtain ⟨p, l, e, s, m, args, below, meth, c, D, Z, B0⟩ := x
  intro hkn H locs ls hW hS hl
  obtain ⟨t0, ht0⟩ := zTys_at (Z := Z) hC
  have hcl : (nI nn).toNatClampNeg = nn := nI_clamp (by omega)
  refine W.anew X.1 X.2.1 X.2.2.2.1 (X.2.2.2.2.1.ts args hl0) (va_AO.use (X.2.2.2.2.1.2.2.2 C ha)) rfl hd rfl (nI_pos (by omega)) (by rw [hcl]; omega) h1 (by rw [hcl]; exact h2) (fun cA kA comp f1 f2 f3 f4 => ?_)
  rw [hcl]
  obtain ⟨-, kA', comp', -, -, -, f5⟩ := X.2.2.2.2.1.1.2 t0 _ ht0
  have hcA : cA = Z ci := Option.some.inj (f1.symm.trans f5)
  subst hcA
  generalize hH1 : H.push ({ cls := Z ci, slots := Array.replicate nn .null, vm := .none } : Cell) = H1
  have z1 : H1.size = H.size + 1 := by rw [← hH1, Array.size_push]
  have e1' : H1[H.size]? = some (arrV (Z ci) nn (fun _ => .null)) := by rw [← hH1, Array.getElem?_push_size, ← arrV_new]
  have o1 : ∀ q : Nat, q < H.size → H1[q]? = H[q]? := fun q hq => by rw [← hH1, Array.getElem?_push, if_neg (Nat.ne_of_lt hq)]
  have hB : B0 ≤ H.size := Nat.le_trans X.2.2.2.2.2.2.2.2 hS.1
  have hP := hW.push (y := xR ci nn (fun _ => none)) z1 o1 (by show H1[H.size]? = some (vp_cell _ _); rw [e1']; rfl) hB
  rw [hW.1]
  exact q ⟨h1, h2⟩ H1 locs ls hP ⟨by rw [z1]; exact Nat.le_trans hS.1 (Nat.le_succ _), fun z q1 q2 => (o1 z (Nat.lt_of_lt_of_le q1 hS.1)).trans (hS.2.1 z q1 q2), hS.2.2⟩ hl
/-- new C(..) -/
def rNw (ci : Nat) (fs0 : List Value) (f : zEA) (fn : zFV) : zER := fun en h => (f en (h.1 + 1, va_up h.2 h.1 (some (xO ci fs0)))).bind fun b => (fn (.ref h.1 :: b.1) b.2).map fun h' => (h.1, h')
theorem kNw {y : MethodName} {cc : ByteArray} {maxL fr mc ms lo N NN idx idx2 ci : Nat} {C : String} {T : u_T} {ty : Nat → FieldType} {f : zEA} {fn : zFV} {fs0 : List Value} (hd0 : decode M.1 pc = .ok (.new idx, 3)) (hdup : decode M.1 (pc + 3) = .ok (.dup, 1)) (hf : eaOk M (d + 2) (pc + 4) p1 N f) (hd : decode M.1 p1 = .ok (.invokespecial idx2, 3)) (ct : CtV y cc maxL fr mc ms lo (N + 1) fn) (hm : zMd y cc maxL none N) (hy : y.cls = C) (hin : zHas (.instanceMethod y)) (hini : y.name = "<init>") (hc : zCl ci C T NN ty) (hfs : ∀ j, j < NN → defaultValue (ty j) = vp_V fs0 j) (hcl : zHas (.classLink M.2.1 idx C)) (hins : zHas (.instantiable C NN)) (hl : zHas (.methodLink M.2.1 idx2 y)) (hR : fr + 1 ≤ M.2.2.2.2.1.frames ∧ 8 + (maxL + 11) + lo ≤ M.2.2.2.2.1.locals) (hd8 : d + 1 ≤ 8) : rnOk M d pc (p1 + 3) (1 + mc) (NN + ms) (rNw ci fs0 f fn) := by
  intro x X k n Q h en st v h' hv hs h1 h2 q
  simp only [rNw, Option.bind_eq_some_iff, Option.map_eq_some_iff] at hv
  obtain ⟨⟨vs, w⟩, e1, h3, e2, e3⟩ := hv
  cases e3
  obtain ⟨⟨q1, q2⟩, q3⟩ := hf x X (k + 1) (n + NN) Q _ en (.ref h.1 :: .ref h.1 :: st) vs w e1 (zcat_ref (zcat_ref hs))
  obtain ⟨p, l, e, s, m, args, below, meth, c, D, Z, B0⟩ := x
  intro hkn H locs ls hW hS hl'
  have hK := X.2.2.2.2.1
  have hKn := hK.1.1 ci _ hc.1
  refine W.newcK X.1 X.2.1 X.2.2.2.1 (hK.ts args hcl) (hK.ts args hins) (by rw [← hy]; exact hK.ts args hm.2.1) rfl hd0 (by omega) (by omega) hKn.2.1 rfl (fun H1 kC hkC g1 z1 o1 => ?_)
  have hB : B0 ≤ H.size := Nat.le_trans X.2.2.2.2.2.2.2.2 hS.1
  have hP := hW.push (y := xO ci fs0) z1 o1 ⟨_, hc.1, (u_born (ws := u_ws C T NN) ty (fun w hw => hK.ts args (hc.2.1 w hw)) (fun _ hw => hw) hKn hkC g1 hc.2.2.1).to hfs⟩ hB
  have hS1 : va_S (fun q => B0 ≤ q) s.heap H1 locs := ⟨by rw [z1]; exact Nat.le_trans hS.1 (Nat.le_succ _), fun z q1 q2 => (o1 z (Nat.lt_of_lt_of_le q1 hS.1)).trans (hS.2.1 z q1 q2), hS.2.2⟩
  refine lv_dup X.1 X.2.1 hdup rfl ?_
  rw [hW.1]
  refine q3 ?_ ⟨by omega, by omega⟩ H1 locs ls hP hS1 hl'
  intro hkn2 H2 locs2 ls2 hW2 hS2 hl2
  exact va_callv (va_runI (As := vs) (rest := .ref h.1 :: st) (b := h.1) (Ts := []) ⟨X.1, X.2.1, X.2.2.1, X.2.2.2.1, fun w hw => by cases hw⟩ (ct l D Z B0 w (.ref h.1 :: vs) h' (by simp [q1]) (fun w hw => by
    rcases List.mem_cons.mp hw with z | z
    · rw [z]; rfl
    · exact q2 w z) e2) ⟨zCallB hK hm hl hR, hini, hK.ts args hin⟩ ⟨zPre.blind, zPre.at X hW2 hS2⟩ rfl q1 hl2.1 rfl (lv_room (Nat.le_trans (zcat_ref hs) hd8)) hd ⟨by omega, by omega⟩) hS2 (fun q _ h => h) (fun q h => h) (fun u t H3 locs3 ht hvm hp hb hz hk hS3 => by
    rw [show k + 1 + mc = k + (1 + mc) by omega, show n + NN + ms = n + (NN + ms) by omega]
    exact q ⟨h1, h2⟩ H3 locs3 ls2 (by rw [← ht]; exact zW.moved hvm.symm hb) hS3 hl2)
theorem kNwN {y : MethodName} {cc : ByteArray} {maxL fr mc ms lo N NN idx idx2 ci : Nat} {C : String} {T : u_T} {ty : Nat → FieldType} {f : zEA} {fn : zFV} {fs0 : List Value} (hd0 : decode M.1 pc = .ok (.new idx, 3)) (hdup : decode M.1 (pc + 3) = .ok (.dup, 1)) (hf : eaOk M (d + 2) (pc + 4) p1 N f) (hd : decode M.1 p1 = .ok (.invokespecial idx2, 3)) (ct : CtV y cc maxL fr mc ms lo (N + 1) fn) (hm : zMd y cc maxL none N) (hy : y.cls = C) (hin : zHas (.instanceMethod y)) (hini : y.name = "<init>") (hc : zCl ci C T NN ty) (hfs : ∀ j, j < NN → defaultValue (ty j) = vp_V fs0 j) (hcl : zHas (.classLink M.2.1 idx C)) (hins : zHas (.instantiable C NN)) {host : String} (hl : Cond.methodLinkNest M.2.1 idx2 y host ∈ lw_tbl) (hR : fr + 1 ≤ M.2.2.2.2.1.frames ∧ 8 + (maxL + 11) + lo ≤ M.2.2.2.2.1.locals) (hd8 : d + 1 ≤ 8) : rnOk M d pc (p1 + 3) (1 + mc) (NN + ms) (rNw ci fs0 f fn) := by
  intro x X k n Q h en st v h' hv hs h1 h2 q
  simp only [rNw, Option.bind_eq_some_iff, Option.map_eq_some_iff] at hv
  obtain ⟨⟨vs, w⟩, e1, h3, e2, e3⟩ := hv
  cases e3
  obtain ⟨⟨q1, q2⟩, q3⟩ := hf x X (k + 1) (n + NN) Q _ en (.ref h.1 :: .ref h.1 :: st) vs w e1 (zcat_ref (zcat_ref hs))
  obtain ⟨p, l, e, s, m, args, below, meth, c, D, Z, B0⟩ := x
  intro hkn H locs ls hW hS hl'
  have hK := X.2.2.2.2.1
  have hKn := hK.1.1 ci _ hc.1
  refine W.newcK X.1 X.2.1 X.2.2.2.1 (hK.ts args hcl) (hK.ts args hins) (by rw [← hy]; exact hK.ts args hm.2.1) rfl hd0 (by omega) (by omega) hKn.2.1 rfl (fun H1 kC hkC g1 z1 o1 => ?_)
  have hB : B0 ≤ H.size := Nat.le_trans X.2.2.2.2.2.2.2.2 hS.1
  have hP := hW.push (y := xO ci fs0) z1 o1 ⟨_, hc.1, (u_born (ws := u_ws C T NN) ty (fun w hw => hK.ts args (hc.2.1 w hw)) (fun _ hw => hw) hKn hkC g1 hc.2.2.1).to hfs⟩ hB
  have hS1 : va_S (fun q => B0 ≤ q) s.heap H1 locs := ⟨by rw [z1]; exact Nat.le_trans hS.1 (Nat.le_succ _), fun z q1 q2 => (o1 z (Nat.lt_of_lt_of_le q1 hS.1)).trans (hS.2.1 z q1 q2), hS.2.2⟩
  refine lv_dup X.1 X.2.1 hdup rfl ?_
  rw [hW.1]
  refine q3 ?_ ⟨by omega, by omega⟩ H1 locs ls hP hS1 hl'
  intro hkn2 H2 locs2 ls2 hW2 hS2 hl2
  exact va_callv (va_runIN (host := host) (As := vs) (rest := .ref h.1 :: st) (b := h.1) (Ts := []) ⟨X.1, X.2.1, X.2.2.1, X.2.2.2.1, fun w hw => by cases hw⟩ (ct l D Z B0 w (.ref h.1 :: vs) h' (by simp [q1]) (fun w hw => by
    rcases List.mem_cons.mp hw with z | z
    · rw [z]; rfl
    · exact q2 w z) e2) ⟨⟨⟨rfl, rfl, hR.1, hR.2, fun w hw a' U hW => by rw [List.mem_singleton.mp hw]; exact word_at hW (good_of_word hm.1.2) (hK.ts args hm.1), List.mem_cons_self⟩, hK.ts args hm.1, hK.ts args hm.2.1, hm.2.2.1, fun sig hsig => by have h4 := hm.2.2.2.1; rw [hsig] at h4; exact (Option.some.inj h4).symm, va_Nw.use rfl (hK.2.2.1 _ _ _ _ hl)⟩, hini, hK.ts args hin⟩ ⟨zPre.blind, zPre.at X hW2 hS2⟩ rfl q1 hl2.1 rfl (lv_room (Nat.le_trans (zcat_ref hs) hd8)) hd ⟨by omega, by omega⟩) hS2 (fun q _ h => h) (fun q h => h) (fun u t H3 locs3 ht hvm hp hb hz hk hS3 => by
    rw [show k + 1 + mc = k + (1 + mc) by omega, show n + NN + ms = n + (NN + ms) by omega]
    exact q ⟨h1, h2⟩ H3 locs3 ls2 (by rw [← ht]; exact zW.moved hvm.symm hb) hS3 hl2)
/-- this.f = a reference, of a final field, in a constructor -/
def sFr (ci k : Nat) (o f : zER) : zSS := fun en h => (o en h).bind fun a => (f en a.2).bind fun b => (wrO b.2 ci k a.1 (.ref b.1)).map fun h' => .inl (en, h')
theorem saFr {kc kn ci kf N idx : Nat} {C : String} {T : u_T} {ty : Nat → FieldType} {o f : zER} (ho : erOk M 0 pc p1 o) (hf : rnOk M 1 p1 p2 kc kn f) (hd : decode M.1 p2 = .ok (.putfield idx, 3)) (hc : zCl ci C T N ty) (hlk : zHas (Cond.fieldLink M.2.1 idx (T kf).1 (T kf).2.1 (T kf).2.2.1)) (hk : kf < N) (hfin : (T kf).2.2.2 = true) (hdecl : (T kf).1 = M.2.1) (hinit : M.2.2.2.2.2 = true) (hn : ∀ v, narrow (ty kf) (.ref v) = .ref v) (hfit : ∀ v, fits (ty kf) (.ref v) = true) : saOk M pc (p2 + 3) kc kn (sFr ci kf o f) := by
  intro x X k n Q h en en' h' hv h1 h2 g
  simp only [sFr, Option.bind_eq_some_iff, Option.map_eq_some_iff] at hv
  obtain ⟨⟨a, w1⟩, e1, ⟨b, w2⟩, e2, w3, e3, e4⟩ := hv
  cases e4
  obtain ⟨fs, g1, g2, rfl⟩ := wrO_spec e3
  refine ho x X k n Q h en [] a w1 e1 (Nat.zero_le _) (hf x X k n Q w1 en _ b w2 e2 (zcat_ref (d := 0) (Nat.le_refl _)) h1 h2 ?_)
  obtain ⟨p, l, e, s, m, args, below, meth, c, D, Z, B0⟩ := x
  intro hkn H locs ls hW hS hl
  exact zPutF X hW hS g1 g2 hc hlk hk hfin hdecl hinit (hn b) (hfit b) hd (fun H1 locs1 hW1 hS1 => g hkn H1 locs1 ls hW1 hS1 hl)
/-- a[i] = a new object -/
theorem saQ {kc kn ci N : Nat} {C : String} {T : u_T} {ty : Nat → FieldType} {o f : zER} {i : zEI} (ho : erOk M 0 pc p0 o) (hi : eiOk M 1 p0 p1 i) (hf : rnOk M 2 p1 p2 kc kn f) (hd : decode M.1 p2 = .ok (.aastore, 1)) (hC : (ci = 3 ∧ C = RX3) ∨ (ci = 4 ∧ C = RX4) ∨ (ci = 5 ∧ C = RX5)) (hc : zCl ci C T N ty) : saOk M pc (p2 + 1) kc kn (sQ ci o i f) := by
  intro x X k n Q h en en' h' hv h1 h2 g
  simp only [sQ, Option.bind_eq_some_iff, Option.map_eq_some_iff] at hv
  obtain ⟨⟨a, w1⟩, e1, ⟨b, w2⟩, e2, ⟨q, w3⟩, e3, w4, e4, e5⟩ := hv
  cases e5
  obtain ⟨NN, F, fs, g1, g2, g3, rfl⟩ := wrQ_spec e4
  refine ho x X k n Q h en [] a w1 e1 (Nat.zero_le _) (hi x X k n Q w1 en _ b w2 e2 (zcat_ref (d := 0) (Nat.le_refl _)) (hf x X k n Q w2 en _ q w3 e3 (zcat_int (zcat_ref (d := 0) (Nat.le_refl _))) h1 h2 ?_))
  obtain ⟨p, l, e, s, m, args, below, meth, c, D, Z, B0⟩ := x
  intro hkn H locs ls hW hS hl
  exact zPutQ X hW hS g1 g3 g2 hC hc hd (fun H1 locs1 hW1 hS1 => g hkn H1 locs1 ls hW1 hS1 hl)
/-- x = new .. -/
theorem saLr_n {kc kn : Nat} {f : zER} {kk : Fin 4} {j : Nat} (hf : rnOk M 0 pc p1 kc kn f) (hd : decode M.1 p1 = .ok (.astore_n kk, 1)) (hj : (kk : Nat) = j) (hn : j < M.2.2.1) : saOk M pc (p1 + 1) kc kn (sLr j f) := by
  intro x X k n Q h en en2 h2 hv g1 g2 g
  simp only [sLr, Option.bind_eq_some_iff, Option.map_eq_some_iff] at hv
  obtain ⟨⟨a, h1⟩, e1, en', e2, e3⟩ := hv
  cases e3
  refine hf x X k n Q h en [] a h1 e1 (Nat.zero_le _) g1 g2 ?_
  obtain ⟨p, l, e, s, m, args, below, meth, c, D, Z, B0⟩ := x
  intro hkn H locs ls hW hS hl
  exact lv_astore_n X.1 X.2.1 hd hj hl.has hn rfl (fun ls' hl' => g hkn H locs ls' hW hS (hl.stored e2 rfl hl'))
/-- the call of Object() at a constructor's head -/
theorem saInit {idx : Nat} (h0 : decode M.1 pc = .ok (.aload_n 0, 1)) (hd : decode M.1 (pc + 1) = .ok (.invokespecial idx, 3)) (hl0 : zHas (.methodLink M.2.1 idx objectInit)) (h1 : zHas (.instanceMethod objectInit)) (h2 : zHas (.code objectInit ⟨#[0xb1]⟩ 1 none)) (hR : 1 ≤ M.2.2.2.2.1.frames ∧ 12 ≤ M.2.2.2.2.1.locals) : ssOk M pc (pc + 4) (fun en h => (rL 0 en h).map fun _ => .inl (en, h)) := by
  intro x X k n Q h en r hv q
  simp only [Option.map_eq_some_iff] at hv
  obtain ⟨⟨a, h1'⟩, e1, e2⟩ := hv
  subst e2
  obtain ⟨g1, rfl⟩ := rL_spec e1
  obtain ⟨p, l, e, s, m, args, below, meth, c, D, Z, B0⟩ := x
  intro hkn H locs ls hW hS hl
  have hK := X.2.2.2.2.1
  refine lv_aload_n X.1 X.2.1 h0 rfl (hl.2.2 _ _ g1 (fun z => by cases z)) ?_
  refine W.objInit X.1 X.2.1 X.2.2.2.1 (hK.ts args hl0) (hK.ts args h1) (hK.ts args h2) rfl (hl.1.trans X.2.2.1.symm) rfl hd hR.1 (by show 2 * 0 + 0 + 12 ≤ _; omega) ?_
  exact q hkn H locs ls hW hS hl
end ZR5
theorem ctN {y : MethodName} {cc : ByteArray} {maxL fr mc ms lo N np pE : Nat} {f : zSS} (hm : zMd y cc maxL none np) (hN : N ≤ maxL) (hname : y.name = "<init>") (hd : decode cc pE = .ok (.return_, 1)) (hs : saOk (cc, y.cls, maxL, none, { frames := fr, cells := mc, slots := ms, locals := lo }, true) 0 pE mc ms f) : CtV y cc maxL fr mc ms lo N (fun vs h => (f vs h).bind fun r => match r with
  | .inl q => some q.2
  | .inr _ => none) := by
  intro l D Z B0 h vs h' hlen hcat hf
  obtain ⟨r, hr, hr2⟩ := Option.bind_eq_some_iff.mp hf
  cases r with
  | inr z => cases hr2
  | inl z =>
  cases hr2
  refine Met.ofW (cc := cc) (maxL := maxL) (ret := none) hm.2.2.2.2 rfl ?_
  intro p e s m args below meth c s₁ B hml hv
  obtain ⟨rfl, hB0, hW, hK⟩ := hv
  have X : zCx (cc, y.cls, maxL, none, { frames := fr, cells := mc, slots := ms, locals := lo }, true) (p, l, e, s, m, vs.toArray, below, meth, c, D, Z, B0) := ⟨B.exec, B.bytes, hml, findClass_of_methodNamed B.named, hK, B.returns, B.notSynchronized, fun _ => ((name_of_methodNamed B.named B.method).1).trans hname, hB0⟩
  rw [lg_entry_eq]
  have g := hs _ X 0 0 (MQ below (zPoV D Z B0 z.2) vs.toArray s mc ms (fun q => B0 ≤ q)) h vs z.1 z.2 hr (by simp) (by simp) (by
    intro hkn H locs ls hW hS hl
    rw [Nat.zero_add, Nat.zero_add]
    exact W.vret X.1 X.2.1 B.returns (fun t ht hM => ⟨⟨(), rfl, trivial, zW.moved hM.alike (show zW D Z B0 s z.2 t.heap by rw [ht]; exact hW)⟩, hS.F ht⟩) hS.2.2 hd B.notSynchronized)
  exact g ⟨Nat.zero_le _, Nat.zero_le _⟩ s.heap [] _ hW va_S.rf (zL.entry hcat (by omega))
end
section
/-! ROWS: a switch by keys; the law's script -/
section ZR6
variable {M : zM} {d pc p0 p1 p2 p3 pT pF pE : Nat}
theorem kWn {N : Nat} {c : zEB} {f : zSS} (hc : ebOk M 0 pc pT pE c) (hf : ssOk M pT pc f) : ssOk M pc pE (sW N c f) := kW hc hf N
def zPick : List (Int × zSS) → zSS → Int → zSS
  | [], df, _ => df
  | (k, b) :: r, df, x => if k = x then b else zPick r df x
def sLk (f : zEI) (bs : List (Int × zSS)) (df : zSS) : zSS := fun en h => (f en h).bind fun a => ((zPick bs df a.1.toInt) en a.2).map (zCut en)
def lkOk (M : zM) (p1 pE : Nat) : List (Int × Int) → List (Int × zSS) → Prop
  | [], [] => True
  | o :: os, b :: bs => (o.1 = b.1 ∧ ∃ tgt : Nat, (p1 : Int) + o.2 = (tgt : Int) ∧ ssOk M tgt pE b.2) ∧ lkOk M p1 pE os bs
  | _, _ => False
theorem lkOk_get {dflt : Int} {pD : Nat} {df : zSS} (hD : (p1 : Int) + dflt = (pD : Int)) (hdf : ssOk M pD pE df) : ∀ (os : List (Int × Int)) (bs : List (Int × zSS)), lkOk M p1 pE os bs → ∀ x : Int, ∃ tgt : Nat, (p1 : Int) + Op.lookupswitch.offset os dflt x = (tgt : Int) ∧ ssOk M tgt pE (zPick bs df x)
  | [], [], _, x => ⟨pD, hD, hdf⟩
  | (a, o) :: os, (k, b) :: bs, h, x => by
    obtain ⟨⟨hk, tgt, h1, h2⟩, h3⟩ := h
    dsimp only at hk
    subst hk
    by_cases hx : a = x
    · refine ⟨tgt, ?_, ?_⟩
      · rw [Op.lookupswitch.offset_cons, if_pos hx]; exact h1
      · simp only [zPick, if_pos hx]; exact h2
    · obtain ⟨t, g1, g2⟩ := lkOk_get hD hdf os bs h3 x
      refine ⟨t, ?_, ?_⟩
      · rw [Op.lookupswitch.offset_cons, if_neg hx]; exact g1
      · simp only [zPick, if_neg hx]; exact g2
  | [], _ :: _, h, _ => h.elim
  | _ :: _, [], h, _ => h.elim
theorem kLk {f : zEI} {bs : List (Int × zSS)} {df : zSS} {dflt : Int} {ps : Array (Int × Int)} {len pD : Nat} (hf : eiOk M 0 pc p1 f) (hd : decode M.1 p1 = .ok (.lookupswitch dflt ps, len)) (hD : (p1 : Int) + dflt = (pD : Int)) (hdf : ssOk M pD pE df) (hbs : lkOk M p1 pE ps.toList bs) (hp : (ps.toList.zip (ps.toList.drop 1)).all (fun (a, next) => a.1 < next.1) = true) : ssOk M pc pE (sLk f bs df) := by
  intro x X k n Q h en r hv q
  simp only [sLk, Option.bind_eq_some_iff, Option.map_eq_some_iff] at hv
  obtain ⟨⟨a, h1⟩, e1, r1, e2, e3⟩ := hv
  subst e3
  refine hf x X k n Q h en [] a h1 e1 (Nat.zero_le _) ?_
  obtain ⟨tgt, g1, g2⟩ := lkOk_get hD hdf ps.toList bs hbs a.toInt
  have g := g2 x X k n Q h1 en r1 e2 q.cut
  obtain ⟨p, l, e, s, m, args, below, meth, c, D, Z, B0⟩ := x
  intro hkn H locs ls hW hS hl
  exact lv_lookup X.1 X.2.1 hd hp rfl g1 (g hkn H locs ls hW hS hl)
/-- the script's length -/
def rdSL (h : zH) (a : Nat) : Option Int32 := match h.2 a with
  | some (.inr (.inr (.inr (n, _)))) => some (nI n)
  | _ => none
def eSL (o : zER) : zEI := fun en h => (o en h).bind fun a => (rdSL a.2 a.1).map fun v => (v, a.2)
theorem kSL {o : zER} (ho : erOk M d pc p1 o) (hd : decode M.1 p1 = .ok (.arraylength, 1)) : eiOk M d pc (p1 + 1) (eSL o) := by
  intro x X k n Q h en st v' h' hv hs q
  simp only [eSL, Option.bind_eq_some_iff, Option.map_eq_some_iff] at hv
  obtain ⟨⟨a, h1⟩, e1, w, e2, e3⟩ := hv
  cases e3
  refine ho x X k n Q h en st a h1 e1 hs ?_
  unfold rdSL at e2
  split at e2
  case h_2 => cases e2
  case h_1 N f hh =>
  cases e2
  obtain ⟨p, l, e, s, m, args, below, meth, c, D, Z, B0⟩ := x
  intro hkn H locs ls hW hS hl'
  obtain ⟨scr, k1, k2, k3, k4, k5⟩ := (hW.2 a _ hh).1
  exact W.alen (n := nI N) X.1 X.2.1 k1 k2 (by rw [k4]; rfl) rfl rfl hd (q hkn H locs ls hW hS hl')
end ZR6
end
section
/-! ROWS: longs; the rest of a division; a shift -/
abbrev zEJ : Type := List Value → zH → Option (Int64 × zH)
def elOk (M : zM) (d pc pc' : Nat) (f : zEJ) : Prop := ∀ x, zCx M x → ∀ (k n : Nat) (Q : State → Prop) (h : zH) (en st : List Value) (v : Int64) (h' : zH), f en h = some (v, h') → zcat st ≤ d → zG M x k n Q h' en pc' (.long v :: st) → zG M x k n Q h en pc st
theorem zcat_long {d : Nat} {v : Int64} {st : List Value} (h : zcat st ≤ d) : zcat (.long v :: st) ≤ d + 2 := by
  simp only [zcat, List.map_cons, List.sum_cons, Value.category] at *
  omega
section ZR17
variable {M : zM} {d pc p1 p2 p3 pT pF pE : Nat}
def jC (v : Int64) : zEJ := fun _ h => some (v, h)
def jL (k : Nat) : zEJ := fun en h => match en[k]? with
  | some (.long v) => some (v, h)
  | _ => none
def jOp (o : Int64 → Int64 → Int64) (f g : zEJ) : zEJ := fun en h => (f en h).bind fun a => (g en a.2).bind fun b => some (o a.1 b.1, b.2)
def jI (f : zEI) : zEJ := fun en h => (f en h).map fun a => (a.1.toInt64, a.2)
def jCmp (f g : zEJ) : zEI := fun en h => (f en h).bind fun a => (g en a.2).bind fun b => some (lg_cmp a.1 b.1, b.2)
theorem jL_spec {k : Nat} {en : List Value} {h h' : zH} {v : Int64} (hf : jL k en h = some (v, h')) : en[k]? = some (.long v) ∧ h' = h := by
  unfold jL at hf
  split at hf
  · rename_i w hw
    cases hf
    exact ⟨hw, rfl⟩
  · cases hf
theorem jOp_spec {o : Int64 → Int64 → Int64} {f g : zEJ} {en : List Value} {h h' : zH} {v : Int64} (hf : jOp o f g en h = some (v, h')) : ∃ a h1 b, f en h = some (a, h1) ∧ g en h1 = some (b, h') ∧ v = o a b := by
  simp only [jOp, Option.bind_eq_some_iff] at hf
  obtain ⟨⟨a, h1⟩, e1, ⟨b, h2⟩, e2, e3⟩ := hf
  cases e3
  exact ⟨a, h1, b, e1, e2, rfl⟩
theorem kJC {idx : Nat} {v : Int64} (hd : decode M.1 pc = .ok (.ldc2_w idx, 3)) (hc : zHas (Cond.constantLong M.2.1 idx v)) : elOk M d pc (pc + 3) (jC v) := by
  intro x X k n Q h en st v' h' hf hs g
  obtain ⟨p, l, e, s, m, args, below, meth, c, D, Z, B0⟩ := x
  cases hf
  intro hkn H locs ls hW hS hl
  exact lv_ldc2 X.1 X.2.1 X.2.2.2.1 (X.2.2.2.2.1.ts args hc) hd (g hkn H locs ls hW hS hl)
theorem kJL_n {kk : Fin 4} {j : Nat} (hd : decode M.1 pc = .ok (.lload_n kk, 1)) (hj : (kk : Nat) = j) : elOk M d pc (pc + 1) (jL j) := by
  intro x X k n Q h en st v' h' hf hs g
  obtain ⟨p, l, e, s, m, args, below, meth, c, D, Z, B0⟩ := x
  obtain ⟨h1, rfl⟩ := jL_spec hf
  intro hkn H locs ls hW hS hl
  exact lv_lload_n X.1 X.2.1 hd hj (hl.2.2 _ _ h1 (fun z => by cases z)) (g hkn H locs ls hW hS hl)
theorem kJL {j : Nat} (hd : decode M.1 pc = .ok (.lload j, 2)) : elOk M d pc (pc + 2) (jL j) := by
  intro x X k n Q h en st v' h' hf hs g
  obtain ⟨p, l, e, s, m, args, below, meth, c, D, Z, B0⟩ := x
  obtain ⟨h1, rfl⟩ := jL_spec hf
  intro hkn H locs ls hW hS hl
  exact lv_lload X.1 X.2.1 hd (hl.2.2 _ _ h1 (fun z => by cases z)) (g hkn H locs ls hW hS hl)
theorem kJAdd {f g : zEJ} (hf : elOk M d pc p1 f) (hg : elOk M (d + 2) p1 p2 g) (hd : decode M.1 p2 = .ok (.ladd, 1)) : elOk M d pc (p2 + 1) (jOp (· + ·) f g) := by
  intro x X k n Q h en st v' h' hv hs q
  obtain ⟨a, h1, b, e1, e2, rfl⟩ := jOp_spec hv
  refine hf x X k n Q h en st a h1 e1 hs (hg x X k n Q h1 en _ b h' e2 (zcat_long hs) ?_)
  obtain ⟨p, l, e, s, m, args, below, meth, c, D, Z, B0⟩ := x
  intro hkn H locs ls hW hS hl
  exact lv_ladd X.1 X.2.1 hd (q hkn H locs ls hW hS hl)
theorem kJMul {f g : zEJ} (hf : elOk M d pc p1 f) (hg : elOk M (d + 2) p1 p2 g) (hd : decode M.1 p2 = .ok (.lmul, 1)) : elOk M d pc (p2 + 1) (jOp (· * ·) f g) := by
  intro x X k n Q h en st v' h' hv hs q
  obtain ⟨a, h1, b, e1, e2, rfl⟩ := jOp_spec hv
  refine hf x X k n Q h en st a h1 e1 hs (hg x X k n Q h1 en _ b h' e2 (zcat_long hs) ?_)
  obtain ⟨p, l, e, s, m, args, below, meth, c, D, Z, B0⟩ := x
  intro hkn H locs ls hW hS hl
  exact lv_lmul X.1 X.2.1 hd (q hkn H locs ls hW hS hl)
theorem kJI {f : zEI} (hf : eiOk M d pc p1 f) (hd : decode M.1 p1 = .ok (.i2l, 1)) : elOk M d pc (p1 + 1) (jI f) := by
  intro x X k n Q h en st v' h' hv hs q
  simp only [jI, Option.map_eq_some_iff] at hv
  obtain ⟨⟨a, h1⟩, e1, e2⟩ := hv
  cases e2
  refine hf x X k n Q h en st a h1 e1 hs ?_
  obtain ⟨p, l, e, s, m, args, below, meth, c, D, Z, B0⟩ := x
  intro hkn H locs ls hW hS hl
  exact lv_i2l X.1 X.2.1 hd rfl (q hkn H locs ls hW hS hl)
theorem kJCmp {f g : zEJ} (hf : elOk M d pc p1 f) (hg : elOk M (d + 2) p1 p2 g) (hd : decode M.1 p2 = .ok (.lcmp, 1)) : eiOk M d pc (p2 + 1) (jCmp f g) := by
  intro x X k n Q h en st v' h' hv hs q
  simp only [jCmp, Option.bind_eq_some_iff] at hv
  obtain ⟨⟨a, h1⟩, e1, ⟨b, h2⟩, e2, e3⟩ := hv
  cases e3
  refine hf x X k n Q h en st a h1 e1 hs (hg x X k n Q h1 en _ b h2 e2 (zcat_long hs) ?_)
  obtain ⟨p, l, e, s, m, args, below, meth, c, D, Z, B0⟩ := x
  intro hkn H locs ls hW hS hl
  exact W.lcmp X.1 X.2.1 hd (q hkn H locs ls hW hS hl)
/-! the rest of a division, where it is not by 0; a shift to the right -/
def eRem (f g : zEI) : zEI := fun en h => (f en h).bind fun a => (g en a.2).bind fun b => if b.1 = 0 then none else some (a.1 - a.1 / b.1 * b.1, b.2)
theorem kRem {f g : zEI} (hf : eiOk M d pc p1 f) (hg : eiOk M (d + 1) p1 p2 g) (hd : decode M.1 p2 = .ok (.irem, 1)) : eiOk M d pc (p2 + 1) (eRem f g) := by
  intro x X k n Q h en st v h' hv hs q
  simp only [eRem, Option.bind_eq_some_iff] at hv
  obtain ⟨⟨a, h1⟩, e1, ⟨b, h2⟩, e2, e3⟩ := hv
  by_cases hz : b = 0
  · simp [hz] at e3
  · simp only [hz, if_false] at e3
    cases e3
    refine hf x X k n Q h en st a h1 e1 hs (hg x X k n Q h1 en _ b _ e2 (zcat_int hs) ?_)
    obtain ⟨p, l, e, s, m, args, below, meth, c, D, Z, B0⟩ := x
    intro hkn H locs ls hW hS hl
    exact lv_irem X.1 X.2.1 hd hz (q hkn H locs ls hW hS hl)
def o_shr (a b : Int32) : Int32 := a >>> (b &&& 31)
theorem kShr {f g : zEI} (hf : eiOk M d pc p1 f) (hg : eiOk M (d + 1) p1 p2 g) (hd : decode M.1 p2 = .ok (.ishr, 1)) : eiOk M d pc (p2 + 1) (eOp o_shr f g) := by
  intro x X k n Q h en st v' h' hv hs q
  obtain ⟨a, h1, b, e1, e2, rfl⟩ := eOp_spec hv
  refine hf x X k n Q h en st a h1 e1 hs (hg x X k n Q h1 en _ b h' e2 (zcat_int hs) ?_)
  obtain ⟨p, l, e, s, m, args, below, meth, c, D, Z, B0⟩ := x
  intro hkn H locs ls hW hS hl
  exact lv_ishr X.1 X.2.1 hd (q hkn H locs ls hW hS hl)
/-! a long into a local -/
def zStJ : List Value → Nat → Int64 → Option (List Value)
  | [], 0, x => some [.long x, .null]
  | [_], 0, x => some [.long x, .null]
  | _ :: _ :: t, 0, x => some (.long x :: .null :: t)
  | [], _ + 1, _ => none
  | .long _ :: _, 1, _ => none
  | .double _ :: _, 1, _ => none
  | a :: t, k + 1, x => (zStJ t k x).map (fun t' => a :: t')
theorem zStJ_spec (x : Int64) : ∀ (en : List Value) (k : Nat) (en' : List Value), zStJ en k x = some en' → ∀ (j : Nat) (w : Value), en'[j]? = some w → (j = k ∧ w = .long x) ∨ (j = k + 1 ∧ w = .null) ∨ (j ≠ k ∧ j ≠ k + 1 ∧ en[j]? = some w ∧ (j + 1 = k → w.category = 1)) := by
  intro en
  induction en with
  | nil =>
    intro k en' h j w hw
    cases k with
    | zero =>
      simp only [zStJ, Option.some.injEq] at h
      subst h
      match j with
      | 0 => simp at hw; exact .inl ⟨rfl, hw.symm⟩
      | 1 => simp at hw; exact .inr (.inl ⟨rfl, hw.symm⟩)
      | j + 2 => simp at hw
    | succ k => simp [zStJ] at h
  | cons a t ih =>
    intro k en' h j w hw
    cases k with
    | zero =>
      cases t with
      | nil =>
        simp only [zStJ, Option.some.injEq] at h
        subst h
        match j with
        | 0 => simp at hw; exact .inl ⟨rfl, hw.symm⟩
        | 1 => simp at hw; exact .inr (.inl ⟨rfl, hw.symm⟩)
        | j + 2 => simp at hw
      | cons b t =>
        simp only [zStJ, Option.some.injEq] at h
        subst h
        match j with
        | 0 => simp at hw; exact .inl ⟨rfl, hw.symm⟩
        | 1 => simp at hw; exact .inr (.inl ⟨rfl, hw.symm⟩)
        | j + 2 => exact .inr (.inr ⟨by omega, by omega, by simpa using hw, by omega⟩)
    | succ k =>
      have h2 : (k = 0 → a.category = 1) ∧ ∃ t', zStJ t k x = some t' ∧ a :: t' = en' := by
        cases k with
        | zero => cases a <;> simp_all [zStJ, Value.category]
        | succ k =>
          refine ⟨by omega, ?_⟩
          cases a <;> simpa [zStJ] using h
      obtain ⟨hc, t', h1, rfl⟩ := h2
      cases j with
      | zero =>
        simp at hw
        subst hw
        exact .inr (.inr ⟨by omega, by omega, rfl, fun e => hc (by omega)⟩)
      | succ j =>
        rcases ih k t' h1 j w (by simpa using hw) with ⟨e1, e2⟩ | ⟨e1, e2⟩ | ⟨e1, e2, e3, e4⟩
        · exact .inl ⟨by omega, e2⟩
        · exact .inr (.inl ⟨by omega, e2⟩)
        · exact .inr (.inr ⟨by omega, by omega, by simpa using e3, fun e => e4 (by omega)⟩)
theorem zL.storedJ {ls ls' : Array Slot} {nL : Nat} {en en' : List Value} {i : Nat} {x : Int64} (h : zL ls nL en) (hs : zStJ en i x = some en') (h' : lv_has ls' nL ((i, .long x) :: (zLv en).filter (fun q => !(q.1 == i) && (!(q.1 == i + 1) && !(q.1 + 1 == i && q.2.category == 2))))) : zL ls' nL en' := by
  refine ⟨h'.1, h'.2.1, fun j w hw hn => ?_⟩
  rcases zStJ_spec x en i en' hs j w hw with ⟨e1, e2⟩ | ⟨e1, e2⟩ | ⟨e1, e2, e3, e4⟩
  · subst e1; subst e2
    exact h'.2.2 (j, _) List.mem_cons_self
  · exact absurd e2 hn
  · refine h'.2.2 (j, w) (List.mem_cons_of_mem _ (List.mem_filter.mpr ⟨zLv_mem e3 hn, ?_⟩))
    by_cases e : j + 1 = i
    · simp [e1, e2, e4 e]
    · simp [e1, e2, e]
def sLj (j : Nat) (f : zEJ) : zSS := fun en h => (f en h).bind fun a => (zStJ en j a.1).map fun en' => .inl (en', a.2)
theorem kSj_n {f : zEJ} {kk : Fin 4} {j : Nat} (hf : elOk M 0 pc p1 f) (hd : decode M.1 p1 = .ok (.lstore_n kk, 1)) (hj : (kk : Nat) = j) (hn : j + 1 < M.2.2.1) : ssOk M pc (p1 + 1) (sLj j f) := by
  intro x X k n Q h en r hv g
  simp only [sLj, Option.bind_eq_some_iff, Option.map_eq_some_iff] at hv
  obtain ⟨⟨a, h1⟩, e1, en', e2, e3⟩ := hv
  subst e3
  refine hf x X k n Q h en [] a h1 e1 (Nat.le_refl _) ?_
  obtain ⟨p, l, e, s, m, args, below, meth, c, D, Z, B0⟩ := x
  intro hkn H locs ls hW hS hl
  exact lv_lstore_n X.1 X.2.1 hd hj hl.has hn rfl (fun ls' hl' => g hkn H locs ls' hW hS (hl.storedJ e2 hl'))
theorem kSj {f : zEJ} {j : Nat} (hf : elOk M 0 pc p1 f) (hd : decode M.1 p1 = .ok (.lstore j, 2)) (hn : j + 1 < M.2.2.1) : ssOk M pc (p1 + 2) (sLj j f) := by
  intro x X k n Q h en r hv g
  simp only [sLj, Option.bind_eq_some_iff, Option.map_eq_some_iff] at hv
  obtain ⟨⟨a, h1⟩, e1, en', e2, e3⟩ := hv
  subst e3
  refine hf x X k n Q h en [] a h1 e1 (Nat.le_refl _) ?_
  obtain ⟨p, l, e, s, m, args, below, meth, c, D, Z, B0⟩ := x
  intro hkn H locs ls hW hS hl
  exact lv_lstore X.1 X.2.1 hd hl.has hn rfl (fun ls' hl' => g hkn H locs ls' hW hS (hl.storedJ e2 hl'))
/-! a method that answers a long: its contract, its calls -/
abbrev zFJ : Type := List Value → zH → Option (Int64 × zH)
def zPoJ (D : va_G) (Z : Nat → ClassId) (B0 : Nat) (v : Int64) (h' : zH) : Array Value → State → Outcome → State → Prop := va_Ql (fun (r : Int64) (_ : Unit) => r = v) (fun _ t => zW D Z B0 t h' t.heap) (fun q => B0 ≤ q)
def CtJ (y : MethodName) (cc : ByteArray) (maxL : Nat) (fr lo N : Nat) (fn : zFJ) : Prop := ∀ (l : Launch) (D : va_G) (Z : Nat → ClassId) (B0 : Nat) (h : zH) (vs : List Value) (v : Int64) (h' : zH), vs.length = N → (∀ w ∈ vs, w.category = 1) → fn vs h = some (v, h') → Met l y [.code y cc maxL (some .long)] { frames := fr, cells := 0, slots := 0, locals := lo } (zPre D Z B0 h vs) (zPoJ D Z B0 v h') 0 0 (fun q => B0 ≤ q)
def jCS (f : zEA) (fn : zFJ) : zEJ := fun en h => (f en h).bind fun a => fn a.1 a.2
theorem kJCS {y : MethodName} {cc : ByteArray} {maxL fr lo N idx : Nat} {f : zEA} {fn : zFJ} (hf : eaOk M d pc p1 N f) (hd : decode M.1 p1 = .ok (.invokestatic idx, 3)) (ct : CtJ y cc maxL fr lo N fn) (hm : zMd y cc maxL (some .long) N) (hst : zHas (.static y)) (hl : zHas (.methodLink M.2.1 idx y)) (hR : fr + 1 ≤ M.2.2.2.2.1.frames ∧ 8 + (maxL + 11) + lo ≤ M.2.2.2.2.1.locals) (hd8 : d ≤ 8) : elOk M d pc (p1 + 3) (jCS f fn) := by
  intro x X k n Q h en st v h' hv hs q
  simp only [jCS, Option.bind_eq_some_iff] at hv
  obtain ⟨⟨vs, h1⟩, e1, e2⟩ := hv
  obtain ⟨⟨q1, q2⟩, q3⟩ := hf x X k n Q h en st vs h1 e1 hs
  refine q3 ?_
  obtain ⟨p, l, e, s, m, args, below, meth, c, D, Z, B0⟩ := x
  intro hkn H locs ls hW hS hl'
  exact va_calll (va_runS (As := vs) (rest := st) (Ts := []) ⟨X.1, X.2.1, X.2.2.1, X.2.2.2.1, fun w hw => by cases hw⟩ (ct l D Z B0 h1 vs v h' q1 q2 e2) ⟨zCallB X.2.2.2.2.1 hm hl hR, X.2.2.2.2.1.ts args hst⟩ ⟨zPre.blind, zPre.at X hW hS⟩ rfl q1 hl'.1 rfl (lv_room (Nat.le_trans hs hd8)) hd hkn) hS (fun q _ h => h) (fun q h => h) (fun r u t H1 locs1 ht hvm hp hb hz hk hS1 => by
    rw [hp]
    exact q hkn H1 locs1 ls (by rw [← ht]; exact zW.moved hvm.symm hb) hS1 hl')
/-- a body, and behind it the long that is answered -/
def mJ (f : zSS) (g : zEJ) : zFJ := fun vs h => (f vs h).bind fun r => match r with
  | .inl q => g q.1 q.2
  | .inr _ => none
theorem mJ_spec {f : zSS} {g : zEJ} {vs : List Value} {h h' : zH} {v : Int64} (hf : mJ f g vs h = some (v, h')) : ∃ en h1, f vs h = some (.inl (en, h1)) ∧ g en h1 = some (v, h') := by
  simp only [mJ, Option.bind_eq_some_iff] at hf
  obtain ⟨r, e1, e2⟩ := hf
  cases r with
  | inl q => exact ⟨q.1, q.2, e1, e2⟩
  | inr q => cases e2
theorem ctJ {y : MethodName} {cc : ByteArray} {maxL fr lo N np : Nat} {f : zSS} {g : zEJ} (hm : zMd y cc maxL (some .long) np) (hN : N ≤ maxL) (hs : ssOk (cc, y.cls, maxL, some .long, { frames := fr, cells := 0, slots := 0, locals := lo }, false) 0 p1 f) (hg : elOk (cc, y.cls, maxL, some .long, { frames := fr, cells := 0, slots := 0, locals := lo }, false) 0 p1 p2 g) (hd : decode cc p2 = .ok (.lreturn, 1)) : CtJ y cc maxL fr lo N (mJ f g) := by
  intro l D Z B0 h vs v h' hlen hcat hf
  refine Met.ofW (cc := cc) (maxL := maxL) (ret := some .long) hm.2.2.2.2 rfl ?_
  intro p e s m args below meth c s₁ B hml hv
  obtain ⟨rfl, hB0, hW, hK⟩ := hv
  have X : zCx (cc, y.cls, maxL, some .long, { frames := fr, cells := 0, slots := 0, locals := lo }, false) (p, l, e, s, m, vs.toArray, below, meth, c, D, Z, B0) := ⟨B.exec, B.bytes, hml, findClass_of_methodNamed B.named, hK, B.returns, B.notSynchronized, fun z => absurd z Bool.false_ne_true, hB0⟩
  rw [lg_entry_eq]
  obtain ⟨en, h1, hf1, hf2⟩ := mJ_spec hf
  have gg := hs _ X 0 0 (MQ below (zPoJ D Z B0 v h') vs.toArray s 0 0 (fun q => B0 ≤ q)) h vs _ hf1 (hg _ X 0 0 _ h1 en [] v h' hf2 (Nat.le_refl _) (by
    intro hkn H locs ls hW hS hl
    exact W.lret X.1 X.2.1 B.returns (fun t ht hM => ⟨⟨v, (), rfl, rfl, zW.moved hM.alike (show zW D Z B0 s h' t.heap by rw [ht]; exact hW)⟩, hS.F ht⟩) hS.2.2 hd B.notSynchronized))
  exact gg ⟨Nat.le_refl _, Nat.le_refl _⟩ s.heap [] _ hW va_S.rf (zL.entry hcat (by omega))
end ZR17
end
section
/-! the words of the tables that the rows use, by their places; laid by wip/whole/gen/gen.py -/
theorem zIn1 {w : Cond} (h : w ∈ tables_1_1) : w ∈ lw_tbl := List.mem_append_right _ (List.mem_append_left _ h)
theorem zIn2 {w : Cond} (h : w ∈ tables_1_2) : w ∈ lw_tbl := List.mem_append_right _ (List.mem_append_right _ (List.mem_append_left _ h))
theorem zIn3 {w : Cond} (h : w ∈ tables_1_3) : w ∈ lw_tbl := List.mem_append_right _ (List.mem_append_right _ (List.mem_append_right _ h))
theorem kc_bipush_12 : (Int8.ofInt 12).toInt32 = (12 : Int32) := by decide +kernel
theorem kc_iconst_1 : Int32.ofInt 1 = (1 : Int32) := by decide +kernel
theorem kc_iconst_0 : Int32.ofInt 0 = (0 : Int32) := by decide +kernel
theorem kc_iconst_2 : Int32.ofInt 2 = (2 : Int32) := by decide +kernel
theorem kc_iconst_5 : Int32.ofInt 5 = (5 : Int32) := by decide +kernel
theorem kc_iconst_4 : Int32.ofInt 4 = (4 : Int32) := by decide +kernel
theorem kc_bipush_m9 : (Int8.ofInt (-9)).toInt32 = ((-9) : Int32) := by decide +kernel
theorem kc_bipush_20 : (Int8.ofInt 20).toInt32 = (20 : Int32) := by decide +kernel
theorem kc_iconst_3 : Int32.ofInt 3 = (3 : Int32) := by decide +kernel
theorem kc_bipush_10 : (Int8.ofInt 10).toInt32 = (10 : Int32) := by decide +kernel
theorem kc_iconst_m1 : Int32.ofInt (-1) = ((-1) : Int32) := by decide +kernel
theorem kc_bipush_m2 : (Int8.ofInt (-2)).toInt32 = ((-2) : Int32) := by decide +kernel
theorem kc_sipush_999 : (Int16.ofInt 999).toInt32 = (999 : Int32) := by decide +kernel
theorem kc_sipush_200 : (Int16.ofInt 200).toInt32 = (200 : Int32) := by decide +kernel
theorem kc_bipush_30 : (Int8.ofInt 30).toInt32 = (30 : Int32) := by decide +kernel
theorem kc_bipush_m3 : (Int8.ofInt (-3)).toInt32 = ((-3) : Int32) := by decide +kernel
theorem kc_bipush_6 : (Int8.ofInt 6).toInt32 = (6 : Int32) := by decide +kernel
theorem kc_bipush_97 : (Int8.ofInt 97).toInt32 = (97 : Int32) := by decide +kernel
theorem kc_bipush_122 : (Int8.ofInt 122).toInt32 = (122 : Int32) := by decide +kernel
theorem kc_sipush_600 : (Int16.ofInt 600).toInt32 = (600 : Int32) := by decide +kernel
theorem kc_sipush_7919 : (Int16.ofInt 7919).toInt32 = (7919 : Int32) := by decide +kernel
theorem kc_bipush_11 : (Int8.ofInt 11).toInt32 = (11 : Int32) := by decide +kernel
theorem kc_bipush_14 : (Int8.ofInt 14).toInt32 = (14 : Int32) := by decide +kernel
theorem kc_bipush_7 : (Int8.ofInt 7).toInt32 = (7 : Int32) := by decide +kernel
theorem kc_bipush_8 : (Int8.ofInt 8).toInt32 = (8 : Int32) := by decide +kernel
theorem kc_bipush_15 : (Int8.ofInt 15).toInt32 = (15 : Int32) := by decide +kernel
theorem kc_bipush_100 : (Int8.ofInt 100).toInt32 = (100 : Int32) := by decide +kernel
theorem kc_bipush_26 : (Int8.ofInt 26).toInt32 = (26 : Int32) := by decide +kernel
theorem kc_bipush_17 : (Int8.ofInt 17).toInt32 = (17 : Int32) := by decide +kernel
theorem kc_bipush_9 : (Int8.ofInt 9).toInt32 = (9 : Int32) := by decide +kernel
theorem kc_bipush_60 : (Int8.ofInt 60).toInt32 = (60 : Int32) := by decide +kernel
theorem kc_bipush_13 : (Int8.ofInt 13).toInt32 = (13 : Int32) := by decide +kernel
theorem kc_bipush_90 : (Int8.ofInt 90).toInt32 = (90 : Int32) := by decide +kernel
theorem kc_bipush_18 : (Int8.ofInt 18).toInt32 = (18 : Int32) := by decide +kernel
theorem kc_bipush_65 : (Int8.ofInt 65).toInt32 = (65 : Int32) := by decide +kernel
theorem zLays {C : String} {T : u_T} {N : Nat} (h : ∀ k, k < N → zHas (u_lay C T k)) : ∀ w ∈ u_ws C T N, zHas w := by
  intro w hw
  obtain ⟨k, hk, rfl⟩ := List.mem_map.mp hw
  exact h k (List.mem_range.mp hk)
theorem lyX0_0 : zHas (u_lay RX0 TX0 0) := ⟨zIn1 (List.mem_of_getElem? (i := 202) rfl), rfl⟩
theorem lyX0_1 : zHas (u_lay RX0 TX0 1) := ⟨zIn1 (List.mem_of_getElem? (i := 204) rfl), rfl⟩
theorem inX0 : ∀ w ∈ u_ws RX0 TX0 2, zHas w := zLays (fun k hk => match k, hk with
  | 0, _ => lyX0_0
  | 1, _ => lyX0_1
  | k + 2, hk => absurd hk (by omega))
theorem clX0 : zCl 0 RX0 TX0 2 tyX0 := ⟨rfl, inX0, tyX0_ok, nmX0⟩
theorem dvX0 : ∀ j, j < 2 → defaultValue (tyX0 j) = vp_V [.null, .null] j := fun j hj => match j, hj with
  | 0, _ => rfl
  | 1, _ => rfl
  | j + 2, hj => absurd hj (by omega)
theorem lyX1_0 : zHas (u_lay RX1 TX1 0) := ⟨zIn1 (List.mem_of_getElem? (i := 186) rfl), rfl⟩
theorem lyX1_1 : zHas (u_lay RX1 TX1 1) := ⟨zIn1 (List.mem_of_getElem? (i := 188) rfl), rfl⟩
theorem inX1 : ∀ w ∈ u_ws RX1 TX1 2, zHas w := zLays (fun k hk => match k, hk with
  | 0, _ => lyX1_0
  | 1, _ => lyX1_1
  | k + 2, hk => absurd hk (by omega))
theorem clX1 : zCl 1 RX1 TX1 2 tyX1 := ⟨rfl, inX1, tyX1_ok, nmX1⟩
theorem dvX1 : ∀ j, j < 2 → defaultValue (tyX1 j) = vp_V [.null, .int 0] j := fun j hj => match j, hj with
  | 0, _ => rfl
  | 1, _ => rfl
  | j + 2, hj => absurd hj (by omega)
theorem lyX2_0 : zHas (u_lay RX2 TX2 0) := ⟨zIn1 (List.mem_of_getElem? (i := 82) rfl), rfl⟩
theorem lyX2_1 : zHas (u_lay RX2 TX2 1) := ⟨zIn1 (List.mem_of_getElem? (i := 84) rfl), rfl⟩
theorem inX2 : ∀ w ∈ u_ws RX2 TX2 2, zHas w := zLays (fun k hk => match k, hk with
  | 0, _ => lyX2_0
  | 1, _ => lyX2_1
  | k + 2, hk => absurd hk (by omega))
theorem clX2 : zCl 2 RX2 TX2 2 tyX2 := ⟨rfl, inX2, tyX2_ok, nmX2⟩
theorem dvX2 : ∀ j, j < 2 → defaultValue (tyX2 j) = vp_V [.null, .int 0] j := fun j hj => match j, hj with
  | 0, _ => rfl
  | 1, _ => rfl
  | j + 2, hj => absurd hj (by omega)
theorem lyX3_0 : zHas (u_lay RX3 TX3 0) := ⟨zIn1 (List.mem_of_getElem? (i := 104) rfl), rfl⟩
theorem lyX3_1 : zHas (u_lay RX3 TX3 1) := ⟨zIn1 (List.mem_of_getElem? (i := 106) rfl), rfl⟩
theorem lyX3_2 : zHas (u_lay RX3 TX3 2) := ⟨zIn1 (List.mem_of_getElem? (i := 108) rfl), rfl⟩
theorem lyX3_3 : zHas (u_lay RX3 TX3 3) := ⟨zIn1 (List.mem_of_getElem? (i := 110) rfl), rfl⟩
theorem lyX3_4 : zHas (u_lay RX3 TX3 4) := ⟨zIn1 (List.mem_of_getElem? (i := 112) rfl), rfl⟩
theorem lyX3_5 : zHas (u_lay RX3 TX3 5) := ⟨zIn1 (List.mem_of_getElem? (i := 114) rfl), rfl⟩
theorem lyX3_6 : zHas (u_lay RX3 TX3 6) := ⟨zIn1 (List.mem_of_getElem? (i := 116) rfl), rfl⟩
theorem inX3 : ∀ w ∈ u_ws RX3 TX3 7, zHas w := zLays (fun k hk => match k, hk with
  | 0, _ => lyX3_0
  | 1, _ => lyX3_1
  | 2, _ => lyX3_2
  | 3, _ => lyX3_3
  | 4, _ => lyX3_4
  | 5, _ => lyX3_5
  | 6, _ => lyX3_6
  | k + 7, hk => absurd hk (by omega))
theorem clX3 : zCl 3 RX3 TX3 7 tyX3 := ⟨rfl, inX3, tyX3_ok, nmX3⟩
theorem dvX3 : ∀ j, j < 7 → defaultValue (tyX3 j) = vp_V [.null, .int 0, .int 0, .int 0, .int 0, .int 0, .int 0] j := fun j hj => match j, hj with
  | 0, _ => rfl
  | 1, _ => rfl
  | 2, _ => rfl
  | 3, _ => rfl
  | 4, _ => rfl
  | 5, _ => rfl
  | 6, _ => rfl
  | j + 7, hj => absurd hj (by omega)
theorem lyX4_0 : zHas (u_lay RX4 TX4 0) := ⟨zIn1 (List.mem_of_getElem? (i := 50) rfl), rfl⟩
theorem lyX4_1 : zHas (u_lay RX4 TX4 1) := ⟨zIn1 (List.mem_of_getElem? (i := 52) rfl), rfl⟩
theorem lyX4_2 : zHas (u_lay RX4 TX4 2) := ⟨zIn1 (List.mem_of_getElem? (i := 54) rfl), rfl⟩
theorem lyX4_3 : zHas (u_lay RX4 TX4 3) := ⟨zIn1 (List.mem_of_getElem? (i := 56) rfl), rfl⟩
theorem lyX4_4 : zHas (u_lay RX4 TX4 4) := ⟨zIn1 (List.mem_of_getElem? (i := 58) rfl), rfl⟩
theorem lyX4_5 : zHas (u_lay RX4 TX4 5) := ⟨zIn1 (List.mem_of_getElem? (i := 60) rfl), rfl⟩
theorem lyX4_6 : zHas (u_lay RX4 TX4 6) := ⟨zIn1 (List.mem_of_getElem? (i := 62) rfl), rfl⟩
theorem inX4 : ∀ w ∈ u_ws RX4 TX4 7, zHas w := zLays (fun k hk => match k, hk with
  | 0, _ => lyX4_0
  | 1, _ => lyX4_1
  | 2, _ => lyX4_2
  | 3, _ => lyX4_3
  | 4, _ => lyX4_4
  | 5, _ => lyX4_5
  | 6, _ => lyX4_6
  | k + 7, hk => absurd hk (by omega))
theorem clX4 : zCl 4 RX4 TX4 7 tyX4 := ⟨rfl, inX4, tyX4_ok, nmX4⟩
theorem dvX4 : ∀ j, j < 7 → defaultValue (tyX4 j) = vp_V [.int 0, .int 0, .int 0, .int 0, .int 0, .int 0, .int 0] j := fun j hj => match j, hj with
  | 0, _ => rfl
  | 1, _ => rfl
  | 2, _ => rfl
  | 3, _ => rfl
  | 4, _ => rfl
  | 5, _ => rfl
  | 6, _ => rfl
  | j + 7, hj => absurd hj (by omega)
theorem lyX5_0 : zHas (u_lay RX5 TX5 0) := ⟨zIn1 (List.mem_of_getElem? (i := 147) rfl), rfl⟩
theorem lyX5_1 : zHas (u_lay RX5 TX5 1) := ⟨zIn1 (List.mem_of_getElem? (i := 149) rfl), rfl⟩
theorem lyX5_2 : zHas (u_lay RX5 TX5 2) := ⟨zIn1 (List.mem_of_getElem? (i := 151) rfl), rfl⟩
theorem lyX5_3 : zHas (u_lay RX5 TX5 3) := ⟨zIn1 (List.mem_of_getElem? (i := 153) rfl), rfl⟩
theorem lyX5_4 : zHas (u_lay RX5 TX5 4) := ⟨zIn1 (List.mem_of_getElem? (i := 155) rfl), rfl⟩
theorem lyX5_5 : zHas (u_lay RX5 TX5 5) := ⟨zIn1 (List.mem_of_getElem? (i := 157) rfl), rfl⟩
theorem lyX5_6 : zHas (u_lay RX5 TX5 6) := ⟨zIn1 (List.mem_of_getElem? (i := 159) rfl), rfl⟩
theorem lyX5_7 : zHas (u_lay RX5 TX5 7) := ⟨zIn1 (List.mem_of_getElem? (i := 161) rfl), rfl⟩
theorem lyX5_8 : zHas (u_lay RX5 TX5 8) := ⟨zIn1 (List.mem_of_getElem? (i := 163) rfl), rfl⟩
theorem lyX5_9 : zHas (u_lay RX5 TX5 9) := ⟨zIn1 (List.mem_of_getElem? (i := 165) rfl), rfl⟩
theorem lyX5_10 : zHas (u_lay RX5 TX5 10) := ⟨zIn1 (List.mem_of_getElem? (i := 167) rfl), rfl⟩
theorem lyX5_11 : zHas (u_lay RX5 TX5 11) := ⟨zIn1 (List.mem_of_getElem? (i := 169) rfl), rfl⟩
theorem lyX5_12 : zHas (u_lay RX5 TX5 12) := ⟨zIn1 (List.mem_of_getElem? (i := 171) rfl), rfl⟩
theorem inX5 : ∀ w ∈ u_ws RX5 TX5 13, zHas w := zLays (fun k hk => match k, hk with
  | 0, _ => lyX5_0
  | 1, _ => lyX5_1
  | 2, _ => lyX5_2
  | 3, _ => lyX5_3
  | 4, _ => lyX5_4
  | 5, _ => lyX5_5
  | 6, _ => lyX5_6
  | 7, _ => lyX5_7
  | 8, _ => lyX5_8
  | 9, _ => lyX5_9
  | 10, _ => lyX5_10
  | 11, _ => lyX5_11
  | 12, _ => lyX5_12
  | k + 13, hk => absurd hk (by omega))
theorem clX5 : zCl 5 RX5 TX5 13 tyX5 := ⟨rfl, inX5, tyX5_ok, nmX5⟩
theorem dvX5 : ∀ j, j < 13 → defaultValue (tyX5 j) = vp_V [.null, .null, .null, .int 0, .int 0, .int 0, .int 0, .int 0, .int 0, .int 0, .int 0, .int 0, .int 0] j := fun j hj => match j, hj with
  | 0, _ => rfl
  | 1, _ => rfl
  | 2, _ => rfl
  | 3, _ => rfl
  | 4, _ => rfl
  | 5, _ => rfl
  | 6, _ => rfl
  | 7, _ => rfl
  | 8, _ => rfl
  | 9, _ => rfl
  | 10, _ => rfl
  | 11, _ => rfl
  | 12, _ => rfl
  | j + 13, hj => absurd hj (by omega)
theorem lyX6_0 : zHas (u_lay RX6 TX6 0) := ⟨zIn1 (List.mem_of_getElem? (i := 212) rfl), rfl⟩
theorem lyX6_1 : zHas (u_lay RX6 TX6 1) := ⟨zIn1 (List.mem_of_getElem? (i := 214) rfl), rfl⟩
theorem lyX6_2 : zHas (u_lay RX6 TX6 2) := ⟨zIn1 (List.mem_of_getElem? (i := 216) rfl), rfl⟩
theorem lyX6_3 : zHas (u_lay RX6 TX6 3) := ⟨zIn1 (List.mem_of_getElem? (i := 218) rfl), rfl⟩
theorem lyX6_4 : zHas (u_lay RX6 TX6 4) := ⟨zIn1 (List.mem_of_getElem? (i := 220) rfl), rfl⟩
theorem inX6 : ∀ w ∈ u_ws RX6 TX6 5, zHas w := zLays (fun k hk => match k, hk with
  | 0, _ => lyX6_0
  | 1, _ => lyX6_1
  | 2, _ => lyX6_2
  | 3, _ => lyX6_3
  | 4, _ => lyX6_4
  | k + 5, hk => absurd hk (by omega))
theorem clX6 : zCl 6 RX6 TX6 5 tyX6 := ⟨rfl, inX6, tyX6_ok, nmX6⟩
theorem dvX6 : ∀ j, j < 5 → defaultValue (tyX6 j) = vp_V [.null, .null, .null, .null, .null] j := fun j hj => match j, hj with
  | 0, _ => rfl
  | 1, _ => rfl
  | 2, _ => rfl
  | 3, _ => rfl
  | 4, _ => rfl
  | j + 5, hj => absurd hj (by omega)
theorem okX2_3 : zHas (Cond.methodLink RX2 3 objectInit) := ⟨zIn1 (List.mem_of_getElem? (i := 76) rfl), rfl⟩
theorem imObj : zHas (Cond.instanceMethod objectInit) := ⟨zIn1 (List.mem_of_getElem? (i := 15) rfl), rfl⟩
theorem cdObj : zHas (Cond.code objectInit ⟨#[0xb1]⟩ 1 none) := ⟨zIn1 (List.mem_of_getElem? (i := 16) rfl), rfl⟩
theorem acI : zHas (Cond.arrayClass .int) := ⟨zIn1 (List.mem_of_getElem? (i := 65) rfl), rfl⟩
theorem lkX2_9 : zHas (Cond.fieldLink RX2 9 (TX2 0).1 (TX2 0).2.1 (TX2 0).2.2.1) := ⟨zIn1 (List.mem_of_getElem? (i := 77) rfl), rfl⟩
theorem cdX2_init : zHas (Cond.code yX2_init cX2_init 1 (none)) := ⟨zIn1 (List.mem_of_getElem? (i := 75) rfl), rfl⟩
theorem iniX2 : zHas (Cond.initialized RX2) := ⟨zIn1 (List.mem_of_getElem? (i := 5) rfl), rfl⟩
theorem lkX2_15 : zHas (Cond.fieldLink RX2 15 (TX2 1).1 (TX2 1).2.1 (TX2 1).2.2.1) := ⟨zIn1 (List.mem_of_getElem? (i := 79) rfl), rfl⟩
theorem cdX2_add : zHas (Cond.code yX2_add cX2_add 2 (none)) := ⟨zIn2 (List.mem_of_getElem? (i := 41) rfl), rfl⟩
theorem cdX2_copyFrom : zHas (Cond.code yX2_copyFrom cX2_copyFrom 3 (none)) := ⟨zIn2 (List.mem_of_getElem? (i := 13) rfl), rfl⟩
theorem cdX2_widthOf : zHas (Cond.code yX2_widthOf cX2_widthOf 1 (some .int)) := ⟨zIn2 (List.mem_of_getElem? (i := 118) rfl), rfl⟩
theorem mkX2_19 : zHas (Cond.methodLink RX2 19 yX2_widthOf) := ⟨zIn2 (List.mem_of_getElem? (i := 116) rfl), rfl⟩
theorem stX2_widthOf : zHas (Cond.static yX2_widthOf) := ⟨zIn2 (List.mem_of_getElem? (i := 117) rfl), rfl⟩
theorem cdX2_lengthIn : zHas (Cond.code yX2_lengthIn cX2_lengthIn 5 (some .int)) := ⟨zIn2 (List.mem_of_getElem? (i := 115) rfl), rfl⟩
theorem okX4_3 : zHas (Cond.methodLink RX4 3 objectInit) := ⟨zIn1 (List.mem_of_getElem? (i := 31) rfl), rfl⟩
theorem cdX4_init : zHas (Cond.code yX4_init cX4_init 1 (none)) := ⟨zIn1 (List.mem_of_getElem? (i := 30) rfl), rfl⟩
theorem iniX4 : zHas (Cond.initialized RX4) := ⟨zIn1 (List.mem_of_getElem? (i := 3) rfl), rfl⟩
theorem lkX4_9 : zHas (Cond.fieldLink RX4 9 (TX4 0).1 (TX4 0).2.1 (TX4 0).2.2.1) := ⟨zIn1 (List.mem_of_getElem? (i := 32) rfl), rfl⟩
theorem lkX4_15 : zHas (Cond.fieldLink RX4 15 (TX4 1).1 (TX4 1).2.1 (TX4 1).2.2.1) := ⟨zIn1 (List.mem_of_getElem? (i := 35) rfl), rfl⟩
theorem lkX4_27 : zHas (Cond.fieldLink RX4 27 (TX4 2).1 (TX4 2).2.1 (TX4 2).2.2.1) := ⟨zIn1 (List.mem_of_getElem? (i := 37) rfl), rfl⟩
theorem lkX4_18 : zHas (Cond.fieldLink RX4 18 (TX4 3).1 (TX4 3).2.1 (TX4 3).2.2.1) := ⟨zIn1 (List.mem_of_getElem? (i := 40) rfl), rfl⟩
theorem lkX4_21 : zHas (Cond.fieldLink RX4 21 (TX4 4).1 (TX4 4).2.1 (TX4 4).2.2.1) := ⟨zIn1 (List.mem_of_getElem? (i := 42) rfl), rfl⟩
theorem lkX4_30 : zHas (Cond.fieldLink RX4 30 (TX4 5).1 (TX4 5).2.1 (TX4 5).2.2.1) := ⟨zIn1 (List.mem_of_getElem? (i := 44) rfl), rfl⟩
theorem lkX4_33 : zHas (Cond.fieldLink RX4 33 (TX4 6).1 (TX4 6).2.1 (TX4 6).2.2.1) := ⟨zIn1 (List.mem_of_getElem? (i := 47) rfl), rfl⟩
theorem cdX4_copyFrom : zHas (Cond.code yX4_copyFrom cX4_copyFrom 2 (none)) := ⟨zIn2 (List.mem_of_getElem? (i := 5) rfl), rfl⟩
theorem cdX4_putIntoDrawer : zHas (Cond.code yX4_putIntoDrawer cX4_putIntoDrawer 1 (none)) := ⟨zIn2 (List.mem_of_getElem? (i := 25) rfl), rfl⟩
theorem cdX4_fixOn : zHas (Cond.code yX4_fixOn cX4_fixOn 3 (none)) := ⟨zIn2 (List.mem_of_getElem? (i := 196) rfl), rfl⟩
theorem cdX4_depthOf : zHas (Cond.code yX4_depthOf cX4_depthOf 2 (some .int)) := ⟨zIn2 (List.mem_of_getElem? (i := 168) rfl), rfl⟩
theorem mkX4_36 : zHas (Cond.methodLink RX4 36 yX4_depthOf) := ⟨zIn2 (List.mem_of_getElem? (i := 165) rfl), rfl⟩
theorem imX4_depthOf : zHas (Cond.instanceMethod yX4_depthOf) := ⟨zIn2 (List.mem_of_getElem? (i := 166) rfl), rfl⟩
theorem seX4_depthOf : zHas (Cond.selects RX4 yX4_depthOf yX4_depthOf) := ⟨zIn2 (List.mem_of_getElem? (i := 167) rfl), rfl⟩
theorem cdX4_isBlank : zHas (Cond.code yX4_isBlank cX4_isBlank 2 (some .boolean)) := ⟨zIn2 (List.mem_of_getElem? (i := 164) rfl), rfl⟩
theorem cdX4_engrave : zHas (Cond.code yX4_engrave cX4_engrave 3 (none)) := ⟨zIn2 (List.mem_of_getElem? (i := 180) rfl), rfl⟩
theorem mkX4_40 : zHas (Cond.methodLink RX4 40 yX4_engrave) := ⟨zIn2 (List.mem_of_getElem? (i := 177) rfl), rfl⟩
theorem imX4_engrave : zHas (Cond.instanceMethod yX4_engrave) := ⟨zIn2 (List.mem_of_getElem? (i := 178) rfl), rfl⟩
theorem seX4_engrave : zHas (Cond.selects RX4 yX4_engrave yX4_engrave) := ⟨zIn2 (List.mem_of_getElem? (i := 179) rfl), rfl⟩
theorem cdX4_grindOff : zHas (Cond.code yX4_grindOff cX4_grindOff 2 (none)) := ⟨zIn2 (List.mem_of_getElem? (i := 176) rfl), rfl⟩
theorem cdX4_bears : zHas (Cond.code yX4_bears cX4_bears 2 (some .boolean)) := ⟨zIn2 (List.mem_of_getElem? (i := 138) rfl), rfl⟩
theorem mkX4_44 : zHas (Cond.methodLink RX4 44 yX4_bears) := ⟨zIn2 (List.mem_of_getElem? (i := 135) rfl), rfl⟩
theorem imX4_bears : zHas (Cond.instanceMethod yX4_bears) := ⟨zIn2 (List.mem_of_getElem? (i := 136) rfl), rfl⟩
theorem seX4_bears : zHas (Cond.selects RX4 yX4_bears yX4_bears) := ⟨zIn2 (List.mem_of_getElem? (i := 137) rfl), rfl⟩
theorem cdX4_bearsOnceGround : zHas (Cond.code yX4_bearsOnceGround cX4_bearsOnceGround 2 (some .boolean)) := ⟨zIn2 (List.mem_of_getElem? (i := 134) rfl), rfl⟩
theorem mkX4_48 : zHas (Cond.methodLink RX4 48 yX4_isBlank) := ⟨zIn3 (List.mem_of_getElem? (i := 82) rfl), rfl⟩
theorem imX4_isBlank : zHas (Cond.instanceMethod yX4_isBlank) := ⟨zIn2 (List.mem_of_getElem? (i := 162) rfl), rfl⟩
theorem seX4_isBlank : zHas (Cond.selects RX4 yX4_isBlank yX4_isBlank) := ⟨zIn2 (List.mem_of_getElem? (i := 163) rfl), rfl⟩
theorem cdX4_isReady : zHas (Cond.code yX4_isReady cX4_isReady 3 (some .boolean)) := ⟨zIn3 (List.mem_of_getElem? (i := 105) rfl), rfl⟩
theorem mkX4_51 : zHas (Cond.methodLink RX4 51 yX4_bearsOnceGround) := ⟨zIn2 (List.mem_of_getElem? (i := 131) rfl), rfl⟩
theorem imX4_bearsOnceGround : zHas (Cond.instanceMethod yX4_bearsOnceGround) := ⟨zIn2 (List.mem_of_getElem? (i := 132) rfl), rfl⟩
theorem seX4_bearsOnceGround : zHas (Cond.selects RX4 yX4_bearsOnceGround yX4_bearsOnceGround) := ⟨zIn2 (List.mem_of_getElem? (i := 133) rfl), rfl⟩
theorem cdX4_canBeGround : zHas (Cond.code yX4_canBeGround cX4_canBeGround 3 (some .boolean)) := ⟨zIn3 (List.mem_of_getElem? (i := 81) rfl), rfl⟩
theorem cdX4_readySide : zHas (Cond.code yX4_readySide cX4_readySide 2 (some .int)) := ⟨zIn2 (List.mem_of_getElem? (i := 142) rfl), rfl⟩
theorem cdX4_sideToGrind : zHas (Cond.code yX4_sideToGrind cX4_sideToGrind 2 (some .int)) := ⟨zIn2 (List.mem_of_getElem? (i := 130) rfl), rfl⟩
theorem mkX4_54 : zHas (Cond.methodLink RX4 54 yX4_readySide) := ⟨zIn2 (List.mem_of_getElem? (i := 155) rfl), rfl⟩
theorem imX4_readySide : zHas (Cond.instanceMethod yX4_readySide) := ⟨zIn2 (List.mem_of_getElem? (i := 140) rfl), rfl⟩
theorem seX4_readySide : zHas (Cond.selects RX4 yX4_readySide yX4_readySide) := ⟨zIn2 (List.mem_of_getElem? (i := 141) rfl), rfl⟩
theorem mkX4_57 : zHas (Cond.methodLink RX4 57 yX4_sideToGrind) := ⟨zIn2 (List.mem_of_getElem? (i := 156) rfl), rfl⟩
theorem imX4_sideToGrind : zHas (Cond.instanceMethod yX4_sideToGrind) := ⟨zIn2 (List.mem_of_getElem? (i := 128) rfl), rfl⟩
theorem seX4_sideToGrind : zHas (Cond.selects RX4 yX4_sideToGrind yX4_sideToGrind) := ⟨zIn2 (List.mem_of_getElem? (i := 129) rfl), rfl⟩
theorem cdX4_sideFor : zHas (Cond.code yX4_sideFor cX4_sideFor 3 (some .int)) := ⟨zIn2 (List.mem_of_getElem? (i := 154) rfl), rfl⟩
theorem cdX4_isBetterThan : zHas (Cond.code yX4_isBetterThan cX4_isBetterThan 2 (some .boolean)) := ⟨zIn2 (List.mem_of_getElem? (i := 146) rfl), rfl⟩
theorem mkX4_24 : zHas (Cond.methodLink RX4 24 yX4_putIntoDrawer) := ⟨zIn2 (List.mem_of_getElem? (i := 22) rfl), rfl⟩
theorem imX4_putIntoDrawer : zHas (Cond.instanceMethod yX4_putIntoDrawer) := ⟨zIn2 (List.mem_of_getElem? (i := 23) rfl), rfl⟩
theorem seX4_putIntoDrawer : zHas (Cond.selects RX4 yX4_putIntoDrawer yX4_putIntoDrawer) := ⟨zIn2 (List.mem_of_getElem? (i := 24) rfl), rfl⟩
theorem cdX4_makeNew : zHas (Cond.code yX4_makeNew cX4_makeNew 3 (none)) := ⟨zIn2 (List.mem_of_getElem? (i := 21) rfl), rfl⟩
theorem okX3_1 : zHas (Cond.methodLink RX3 1 objectInit) := ⟨zIn1 (List.mem_of_getElem? (i := 70) rfl), rfl⟩
theorem clX3_7 : zHas (Cond.classLink RX3 7 RX2) := ⟨zIn1 (List.mem_of_getElem? (i := 71) rfl), rfl⟩
theorem is2 : zHas (Cond.instantiable RX2 2) := ⟨zIn1 (List.mem_of_getElem? (i := 72) rfl), rfl⟩
theorem imX2_init : zHas (Cond.instanceMethod yX2_init) := ⟨zIn1 (List.mem_of_getElem? (i := 74) rfl), rfl⟩
theorem nkX3_9 : Cond.methodLinkNest RX3 9 yX2_init "TrophyPlates" ∈ lw_tbl := zIn1 (List.mem_of_getElem? (i := 73) rfl)
theorem lkX3_10 : zHas (Cond.fieldLink RX3 10 (TX3 0).1 (TX3 0).2.1 (TX3 0).2.2.1) := ⟨zIn1 (List.mem_of_getElem? (i := 87) rfl), rfl⟩
theorem cdX3_init : zHas (Cond.code yX3_init cX3_init 1 (none)) := ⟨zIn1 (List.mem_of_getElem? (i := 69) rfl), rfl⟩
theorem iniX3 : zHas (Cond.initialized RX3) := ⟨zIn1 (List.mem_of_getElem? (i := 4) rfl), rfl⟩
theorem mkX3_16 : zHas (Cond.methodLink RX3 16 yX2_copyFrom) := ⟨zIn2 (List.mem_of_getElem? (i := 10) rfl), rfl⟩
theorem imX2_copyFrom : zHas (Cond.instanceMethod yX2_copyFrom) := ⟨zIn2 (List.mem_of_getElem? (i := 11) rfl), rfl⟩
theorem seX2_copyFrom : zHas (Cond.selects RX2 yX2_copyFrom yX2_copyFrom) := ⟨zIn2 (List.mem_of_getElem? (i := 12) rfl), rfl⟩
theorem lkX3_20 : zHas (Cond.fieldLink RX3 20 (TX3 1).1 (TX3 1).2.1 (TX3 1).2.2.1) := ⟨zIn1 (List.mem_of_getElem? (i := 89) rfl), rfl⟩
theorem lkX3_24 : zHas (Cond.fieldLink RX3 24 (TX3 2).1 (TX3 2).2.1 (TX3 2).2.2.1) := ⟨zIn1 (List.mem_of_getElem? (i := 92) rfl), rfl⟩
theorem lkX3_27 : zHas (Cond.fieldLink RX3 27 (TX3 3).1 (TX3 3).2.1 (TX3 3).2.2.1) := ⟨zIn1 (List.mem_of_getElem? (i := 95) rfl), rfl⟩
theorem lkX3_30 : zHas (Cond.fieldLink RX3 30 (TX3 4).1 (TX3 4).2.1 (TX3 4).2.2.1) := ⟨zIn1 (List.mem_of_getElem? (i := 97) rfl), rfl⟩
theorem lkX3_33 : zHas (Cond.fieldLink RX3 33 (TX3 5).1 (TX3 5).2.1 (TX3 5).2.2.1) := ⟨zIn1 (List.mem_of_getElem? (i := 100) rfl), rfl⟩
theorem cdX3_copyFrom : zHas (Cond.code yX3_copyFrom cX3_copyFrom 2 (none)) := ⟨zIn2 (List.mem_of_getElem? (i := 9) rfl), rfl⟩
theorem mkX3_37 : zHas (Cond.methodLink RX3 37 yX2_lengthIn) := ⟨zIn2 (List.mem_of_getElem? (i := 112) rfl), rfl⟩
theorem imX2_lengthIn : zHas (Cond.instanceMethod yX2_lengthIn) := ⟨zIn2 (List.mem_of_getElem? (i := 113) rfl), rfl⟩
theorem seX2_lengthIn : zHas (Cond.selects RX2 yX2_lengthIn yX2_lengthIn) := ⟨zIn2 (List.mem_of_getElem? (i := 114) rfl), rfl⟩
theorem cdX3_nameLength : zHas (Cond.code yX3_nameLength cX3_nameLength 1 (some .int)) := ⟨zIn2 (List.mem_of_getElem? (i := 111) rfl), rfl⟩
theorem lkX3_41 : zHas (Cond.fieldLink RX3 41 (TX2 1).1 (TX2 1).2.1 (TX2 1).2.2.1) := ⟨zIn1 (List.mem_of_getElem? (i := 80) rfl), rfl⟩
theorem cdX3_effort : zHas (Cond.code yX3_effort cX3_effort 1 (some .int)) := ⟨zIn2 (List.mem_of_getElem? (i := 160) rfl), rfl⟩
theorem okX5_3 : zHas (Cond.methodLink RX5 3 objectInit) := ⟨zIn1 (List.mem_of_getElem? (i := 22) rfl), rfl⟩
theorem ao4 : Cond.arrayOver (.object RX4) ∈ lw_tbl := zIn1 (List.mem_of_getElem? (i := 24) rfl)
theorem clX5_9 : zHas (Cond.classLink RX5 9 RX4) := ⟨zIn1 (List.mem_of_getElem? (i := 23) rfl), rfl⟩
theorem lkX5_11 : zHas (Cond.fieldLink RX5 11 (TX5 0).1 (TX5 0).2.1 (TX5 0).2.2.1) := ⟨zIn1 (List.mem_of_getElem? (i := 119) rfl), rfl⟩
theorem lkX5_17 : zHas (Cond.fieldLink RX5 17 (TX5 1).1 (TX5 1).2.1 (TX5 1).2.2.1) := ⟨zIn1 (List.mem_of_getElem? (i := 121) rfl), rfl⟩
theorem ao3 : Cond.arrayOver (.object RX3) ∈ lw_tbl := zIn1 (List.mem_of_getElem? (i := 26) rfl)
theorem clX5_21 : zHas (Cond.classLink RX5 21 RX3) := ⟨zIn1 (List.mem_of_getElem? (i := 25) rfl), rfl⟩
theorem lkX5_23 : zHas (Cond.fieldLink RX5 23 (TX5 2).1 (TX5 2).2.1 (TX5 2).2.2.1) := ⟨zIn1 (List.mem_of_getElem? (i := 123) rfl), rfl⟩
theorem lkX5_27 : zHas (Cond.fieldLink RX5 27 (TX5 6).1 (TX5 6).2.1 (TX5 6).2.2.1) := ⟨zIn1 (List.mem_of_getElem? (i := 132) rfl), rfl⟩
theorem lkX5_31 : zHas (Cond.fieldLink RX5 31 (TX5 7).1 (TX5 7).2.1 (TX5 7).2.2.1) := ⟨zIn1 (List.mem_of_getElem? (i := 135) rfl), rfl⟩
theorem lkX5_34 : zHas (Cond.fieldLink RX5 34 (TX5 8).1 (TX5 8).2.1 (TX5 8).2.2.1) := ⟨zIn1 (List.mem_of_getElem? (i := 137) rfl), rfl⟩
theorem lkX5_37 : zHas (Cond.fieldLink RX5 37 (TX5 9).1 (TX5 9).2.1 (TX5 9).2.2.1) := ⟨zIn1 (List.mem_of_getElem? (i := 138) rfl), rfl⟩
theorem is4 : zHas (Cond.instantiable RX4 7) := ⟨zIn1 (List.mem_of_getElem? (i := 27) rfl), rfl⟩
theorem imX4_init : zHas (Cond.instanceMethod yX4_init) := ⟨zIn1 (List.mem_of_getElem? (i := 29) rfl), rfl⟩
theorem nkX5_40 : Cond.methodLinkNest RX5 40 yX4_init "TrophyPlates" ∈ lw_tbl := zIn1 (List.mem_of_getElem? (i := 28) rfl)
theorem is3 : zHas (Cond.instantiable RX3 7) := ⟨zIn1 (List.mem_of_getElem? (i := 66) rfl), rfl⟩
theorem imX3_init : zHas (Cond.instanceMethod yX3_init) := ⟨zIn1 (List.mem_of_getElem? (i := 68) rfl), rfl⟩
theorem nkX5_41 : Cond.methodLinkNest RX5 41 yX3_init "TrophyPlates" ∈ lw_tbl := zIn1 (List.mem_of_getElem? (i := 67) rfl)
theorem cdX5_init : zHas (Cond.code yX5_init cX5_init 2 (none)) := ⟨zIn1 (List.mem_of_getElem? (i := 21) rfl), rfl⟩
theorem iniX5 : zHas (Cond.initialized RX5) := ⟨zIn1 (List.mem_of_getElem? (i := 2) rfl), rfl⟩
theorem lkX5_42 : zHas (Cond.fieldLink RX5 42 (TX5 3).1 (TX5 3).2.1 (TX5 3).2.2.1) := ⟨zIn1 (List.mem_of_getElem? (i := 126) rfl), rfl⟩
theorem mkX5_45 : zHas (Cond.methodLink RX5 45 yX4_copyFrom) := ⟨zIn2 (List.mem_of_getElem? (i := 2) rfl), rfl⟩
theorem imX4_copyFrom : zHas (Cond.instanceMethod yX4_copyFrom) := ⟨zIn2 (List.mem_of_getElem? (i := 3) rfl), rfl⟩
theorem seX4_copyFrom : zHas (Cond.selects RX4 yX4_copyFrom yX4_copyFrom) := ⟨zIn2 (List.mem_of_getElem? (i := 4) rfl), rfl⟩
theorem lkX5_49 : zHas (Cond.fieldLink RX5 49 (TX5 4).1 (TX5 4).2.1 (TX5 4).2.2.1) := ⟨zIn1 (List.mem_of_getElem? (i := 128) rfl), rfl⟩
theorem lkX5_52 : zHas (Cond.fieldLink RX5 52 (TX5 5).1 (TX5 5).2.1 (TX5 5).2.2.1) := ⟨zIn1 (List.mem_of_getElem? (i := 130) rfl), rfl⟩
theorem mkX5_55 : zHas (Cond.methodLink RX5 55 yX3_copyFrom) := ⟨zIn2 (List.mem_of_getElem? (i := 6) rfl), rfl⟩
theorem imX3_copyFrom : zHas (Cond.instanceMethod yX3_copyFrom) := ⟨zIn2 (List.mem_of_getElem? (i := 7) rfl), rfl⟩
theorem seX3_copyFrom : zHas (Cond.selects RX3 yX3_copyFrom yX3_copyFrom) := ⟨zIn2 (List.mem_of_getElem? (i := 8) rfl), rfl⟩
theorem lkX5_58 : zHas (Cond.fieldLink RX5 58 (TX5 10).1 (TX5 10).2.1 (TX5 10).2.2.1) := ⟨zIn1 (List.mem_of_getElem? (i := 141) rfl), rfl⟩
theorem lkX5_61 : zHas (Cond.fieldLink RX5 61 (TX5 11).1 (TX5 11).2.1 (TX5 11).2.2.1) := ⟨zIn1 (List.mem_of_getElem? (i := 143) rfl), rfl⟩
theorem lkX5_64 : zHas (Cond.fieldLink RX5 64 (TX5 12).1 (TX5 12).2.1 (TX5 12).2.2.1) := ⟨zIn1 (List.mem_of_getElem? (i := 145) rfl), rfl⟩
theorem cdX5_copyFrom : zHas (Cond.code yX5_copyFrom cX5_copyFrom 3 (none)) := ⟨zIn2 (List.mem_of_getElem? (i := 1) rfl), rfl⟩
theorem cdX5_hasPlate : zHas (Cond.code yX5_hasPlate cX5_hasPlate 2 (some .boolean)) := ⟨zIn2 (List.mem_of_getElem? (i := 107) rfl), rfl⟩
theorem cdX5_hasShield : zHas (Cond.code yX5_hasShield cX5_hasShield 2 (some .boolean)) := ⟨zIn2 (List.mem_of_getElem? (i := 53) rfl), rfl⟩
theorem cdX5_hasOrder : zHas (Cond.code yX5_hasOrder cX5_hasOrder 2 (some .boolean)) := ⟨zIn2 (List.mem_of_getElem? (i := 103) rfl), rfl⟩
theorem mkX5_67 : zHas (Cond.methodLink RX5 67 yX5_hasOrder) := ⟨zIn2 (List.mem_of_getElem? (i := 100) rfl), rfl⟩
theorem imX5_hasOrder : zHas (Cond.instanceMethod yX5_hasOrder) := ⟨zIn2 (List.mem_of_getElem? (i := 101) rfl), rfl⟩
theorem seX5_hasOrder : zHas (Cond.selects RX5 yX5_hasOrder yX5_hasOrder) := ⟨zIn2 (List.mem_of_getElem? (i := 102) rfl), rfl⟩
theorem mkX5_71 : zHas (Cond.methodLink RX5 71 yX5_hasPlate) := ⟨zIn2 (List.mem_of_getElem? (i := 104) rfl), rfl⟩
theorem imX5_hasPlate : zHas (Cond.instanceMethod yX5_hasPlate) := ⟨zIn2 (List.mem_of_getElem? (i := 105) rfl), rfl⟩
theorem seX5_hasPlate : zHas (Cond.selects RX5 yX5_hasPlate yX5_hasPlate) := ⟨zIn2 (List.mem_of_getElem? (i := 106) rfl), rfl⟩
theorem cdX5_isWorking : zHas (Cond.code yX5_isWorking cX5_isWorking 1 (some .boolean)) := ⟨zIn2 (List.mem_of_getElem? (i := 99) rfl), rfl⟩
theorem mkX5_74 : zHas (Cond.methodLink RX5 74 yX4_makeNew) := ⟨zIn2 (List.mem_of_getElem? (i := 18) rfl), rfl⟩
theorem imX4_makeNew : zHas (Cond.instanceMethod yX4_makeNew) := ⟨zIn2 (List.mem_of_getElem? (i := 19) rfl), rfl⟩
theorem seX4_makeNew : zHas (Cond.selects RX4 yX4_makeNew yX4_makeNew) := ⟨zIn2 (List.mem_of_getElem? (i := 20) rfl), rfl⟩
theorem cdX5_addPlate : zHas (Cond.code yX5_addPlate cX5_addPlate 3 (some .int)) := ⟨zIn2 (List.mem_of_getElem? (i := 17) rfl), rfl⟩
theorem cdX5_hangShield : zHas (Cond.code yX5_hangShield cX5_hangShield 2 (some .int)) := ⟨zIn2 (List.mem_of_getElem? (i := 33) rfl), rfl⟩
theorem mkX5_78 : zHas (Cond.methodLink RX5 78 yX4_grindOff) := ⟨zIn2 (List.mem_of_getElem? (i := 173) rfl), rfl⟩
theorem imX4_grindOff : zHas (Cond.instanceMethod yX4_grindOff) := ⟨zIn2 (List.mem_of_getElem? (i := 174) rfl), rfl⟩
theorem seX4_grindOff : zHas (Cond.selects RX4 yX4_grindOff yX4_grindOff) := ⟨zIn2 (List.mem_of_getElem? (i := 175) rfl), rfl⟩
theorem cdX5_grindSide : zHas (Cond.code yX5_grindSide cX5_grindSide 3 (none)) := ⟨zIn2 (List.mem_of_getElem? (i := 172) rfl), rfl⟩
theorem lkX5_82 : zHas (Cond.fieldLink RX5 82 (TX4 2).1 (TX4 2).2.1 (TX4 2).2.2.1) := ⟨zIn1 (List.mem_of_getElem? (i := 39) rfl), rfl⟩
theorem cdX5_platesIn : zHas (Cond.code yX5_platesIn cX5_platesIn 4 (some .int)) := ⟨zIn2 (List.mem_of_getElem? (i := 231) rfl), rfl⟩
theorem lkX5_85 : zHas (Cond.fieldLink RX5 85 (TX4 5).1 (TX4 5).2.1 (TX4 5).2.2.1) := ⟨zIn1 (List.mem_of_getElem? (i := 45) rfl), rfl⟩
theorem cdX5_platesOn : zHas (Cond.code yX5_platesOn cX5_platesOn 4 (some .int)) := ⟨zIn2 (List.mem_of_getElem? (i := 201) rfl), rfl⟩
theorem lkX5_88 : zHas (Cond.fieldLink RX5 88 (TX4 6).1 (TX4 6).2.1 (TX4 6).2.2.1) := ⟨zIn1 (List.mem_of_getElem? (i := 48) rfl), rfl⟩
theorem cdX5_plateOfYear : zHas (Cond.code yX5_plateOfYear cX5_plateOfYear 4 (some .int)) := ⟨zIn2 (List.mem_of_getElem? (i := 66) rfl), rfl⟩
theorem cdX5_earliestYear : zHas (Cond.code yX5_earliestYear cX5_earliestYear 5 (some .int)) := ⟨zIn2 (List.mem_of_getElem? (i := 205) rfl), rfl⟩
theorem cdX5_latestYear : zHas (Cond.code yX5_latestYear cX5_latestYear 5 (some .int)) := ⟨zIn3 (List.mem_of_getElem? (i := 52) rfl), rfl⟩
theorem mkX5_91 : zHas (Cond.methodLink RX5 91 yX5_platesOn) := ⟨zIn2 (List.mem_of_getElem? (i := 198) rfl), rfl⟩
theorem imX5_platesOn : zHas (Cond.instanceMethod yX5_platesOn) := ⟨zIn2 (List.mem_of_getElem? (i := 199) rfl), rfl⟩
theorem seX5_platesOn : zHas (Cond.selects RX5 yX5_platesOn yX5_platesOn) := ⟨zIn2 (List.mem_of_getElem? (i := 200) rfl), rfl⟩
theorem mkX5_95 : zHas (Cond.methodLink RX5 95 yX5_latestYear) := ⟨zIn3 (List.mem_of_getElem? (i := 57) rfl), rfl⟩
theorem imX5_latestYear : zHas (Cond.instanceMethod yX5_latestYear) := ⟨zIn3 (List.mem_of_getElem? (i := 50) rfl), rfl⟩
theorem seX5_latestYear : zHas (Cond.selects RX5 yX5_latestYear yX5_latestYear) := ⟨zIn3 (List.mem_of_getElem? (i := 51) rfl), rfl⟩
theorem mkX5_98 : zHas (Cond.methodLink RX5 98 yX5_earliestYear) := ⟨zIn2 (List.mem_of_getElem? (i := 202) rfl), rfl⟩
theorem imX5_earliestYear : zHas (Cond.instanceMethod yX5_earliestYear) := ⟨zIn2 (List.mem_of_getElem? (i := 203) rfl), rfl⟩
theorem seX5_earliestYear : zHas (Cond.selects RX5 yX5_earliestYear yX5_earliestYear) := ⟨zIn2 (List.mem_of_getElem? (i := 204) rfl), rfl⟩
theorem cdX5_yearsLeftOut : zHas (Cond.code yX5_yearsLeftOut cX5_yearsLeftOut 3 (some .int)) := ⟨zIn3 (List.mem_of_getElem? (i := 56) rfl), rfl⟩
theorem mkX5_101 : zHas (Cond.methodLink RX5 101 yX4_fixOn) := ⟨zIn2 (List.mem_of_getElem? (i := 193) rfl), rfl⟩
theorem imX4_fixOn : zHas (Cond.instanceMethod yX4_fixOn) := ⟨zIn2 (List.mem_of_getElem? (i := 194) rfl), rfl⟩
theorem seX4_fixOn : zHas (Cond.selects RX4 yX4_fixOn yX4_fixOn) := ⟨zIn2 (List.mem_of_getElem? (i := 195) rfl), rfl⟩
theorem mkX5_104 : zHas (Cond.methodLink RX5 104 yX5_hasShield) := ⟨zIn2 (List.mem_of_getElem? (i := 197) rfl), rfl⟩
theorem imX5_hasShield : zHas (Cond.instanceMethod yX5_hasShield) := ⟨zIn2 (List.mem_of_getElem? (i := 51) rfl), rfl⟩
theorem seX5_hasShield : zHas (Cond.selects RX5 yX5_hasShield yX5_hasShield) := ⟨zIn2 (List.mem_of_getElem? (i := 52) rfl), rfl⟩
theorem mkX5_107 : zHas (Cond.methodLink RX5 107 yX5_plateOfYear) := ⟨zIn2 (List.mem_of_getElem? (i := 206) rfl), rfl⟩
theorem imX5_plateOfYear : zHas (Cond.instanceMethod yX5_plateOfYear) := ⟨zIn2 (List.mem_of_getElem? (i := 64) rfl), rfl⟩
theorem seX5_plateOfYear : zHas (Cond.selects RX5 yX5_plateOfYear yX5_plateOfYear) := ⟨zIn2 (List.mem_of_getElem? (i := 65) rfl), rfl⟩
theorem mkX5_111 : zHas (Cond.methodLink RX5 111 yX4_putIntoDrawer) := ⟨zIn2 (List.mem_of_getElem? (i := 207) rfl), rfl⟩
theorem cdX5_fixPlate : zHas (Cond.code yX5_fixPlate cX5_fixPlate 5 (none)) := ⟨zIn2 (List.mem_of_getElem? (i := 192) rfl), rfl⟩
theorem mkX5_118 : zHas (Cond.methodLink RX5 118 yX4_sideToGrind) := ⟨zIn2 (List.mem_of_getElem? (i := 127) rfl), rfl⟩
theorem mkX5_121 : zHas (Cond.methodLink RX5 121 yX4_readySide) := ⟨zIn2 (List.mem_of_getElem? (i := 139) rfl), rfl⟩
theorem lkX5_124 : zHas (Cond.fieldLink RX5 124 (TX4 0).1 (TX4 0).2.1 (TX4 0).2.2.1) := ⟨zIn1 (List.mem_of_getElem? (i := 34) rfl), rfl⟩
theorem mkX5_127 : zHas (Cond.methodLink RX5 127 yX4_isBetterThan) := ⟨zIn2 (List.mem_of_getElem? (i := 143) rfl), rfl⟩
theorem imX4_isBetterThan : zHas (Cond.instanceMethod yX4_isBetterThan) := ⟨zIn2 (List.mem_of_getElem? (i := 144) rfl), rfl⟩
theorem seX4_isBetterThan : zHas (Cond.selects RX4 yX4_isBetterThan yX4_isBetterThan) := ⟨zIn2 (List.mem_of_getElem? (i := 145) rfl), rfl⟩
theorem cdX5_bestPlate : zHas (Cond.code yX5_bestPlate cX5_bestPlate 9 (some .int)) := ⟨zIn2 (List.mem_of_getElem? (i := 126) rfl), rfl⟩
theorem lkX5_131 : zHas (Cond.fieldLink RX5 131 (TX3 5).1 (TX3 5).2.1 (TX3 5).2.2.1) := ⟨zIn1 (List.mem_of_getElem? (i := 102) rfl), rfl⟩
theorem cdX5_rushes : zHas (Cond.code yX5_rushes cX5_rushes 3 (some .int)) := ⟨zIn2 (List.mem_of_getElem? (i := 79) rfl), rfl⟩
theorem lkX5_135 : zHas (Cond.fieldLink RX5 135 (TX3 1).1 (TX3 1).2.1 (TX3 1).2.2.1) := ⟨zIn1 (List.mem_of_getElem? (i := 91) rfl), rfl⟩
theorem lkX5_136 : zHas (Cond.fieldLink RX5 136 (TX3 2).1 (TX3 2).2.1 (TX3 2).2.2.1) := ⟨zIn1 (List.mem_of_getElem? (i := 94) rfl), rfl⟩
theorem cdX5_isOrdered : zHas (Cond.code yX5_isOrdered cX5_isOrdered 4 (some .boolean)) := ⟨zIn2 (List.mem_of_getElem? (i := 70) rfl), rfl⟩
theorem cdX5_moveAhead : zHas (Cond.code yX5_moveAhead cX5_moveAhead 5 (none)) := ⟨zIn2 (List.mem_of_getElem? (i := 83) rfl), rfl⟩
theorem cdX5_removeOrder : zHas (Cond.code yX5_removeOrder cX5_removeOrder 4 (none)) := ⟨zIn2 (List.mem_of_getElem? (i := 215) rfl), rfl⟩
theorem cdX5_stopWork : zHas (Cond.code yX5_stopWork cX5_stopWork 1 (none)) := ⟨zIn2 (List.mem_of_getElem? (i := 211) rfl), rfl⟩
theorem lkX5_168 : zHas (Cond.fieldLink RX5 168 (TX3 4).1 (TX3 4).2.1 (TX3 4).2.2.1) := ⟨zIn1 (List.mem_of_getElem? (i := 99) rfl), rfl⟩
theorem mkX5_177 : zHas (Cond.methodLink RX5 177 yX4_sideFor) := ⟨zIn2 (List.mem_of_getElem? (i := 151) rfl), rfl⟩
theorem imX4_sideFor : zHas (Cond.instanceMethod yX4_sideFor) := ⟨zIn2 (List.mem_of_getElem? (i := 152) rfl), rfl⟩
theorem seX4_sideFor : zHas (Cond.selects RX4 yX4_sideFor yX4_sideFor) := ⟨zIn2 (List.mem_of_getElem? (i := 153) rfl), rfl⟩
theorem mkX5_180 : zHas (Cond.methodLink RX5 180 yX3_effort) := ⟨zIn2 (List.mem_of_getElem? (i := 157) rfl), rfl⟩
theorem imX3_effort : zHas (Cond.instanceMethod yX3_effort) := ⟨zIn2 (List.mem_of_getElem? (i := 158) rfl), rfl⟩
theorem seX3_effort : zHas (Cond.selects RX3 yX3_effort yX3_effort) := ⟨zIn2 (List.mem_of_getElem? (i := 159) rfl), rfl⟩
theorem mkX5_183 : zHas (Cond.methodLink RX5 183 yX4_isBlank) := ⟨zIn2 (List.mem_of_getElem? (i := 161) rfl), rfl⟩
theorem mkX5_186 : zHas (Cond.methodLink RX5 186 yX5_grindSide) := ⟨zIn2 (List.mem_of_getElem? (i := 169) rfl), rfl⟩
theorem imX5_grindSide : zHas (Cond.instanceMethod yX5_grindSide) := ⟨zIn2 (List.mem_of_getElem? (i := 170) rfl), rfl⟩
theorem seX5_grindSide : zHas (Cond.selects RX5 yX5_grindSide yX5_grindSide) := ⟨zIn2 (List.mem_of_getElem? (i := 171) rfl), rfl⟩
theorem cdX5_beginOrder : zHas (Cond.code yX5_beginOrder cX5_beginOrder 4 (none)) := ⟨zIn2 (List.mem_of_getElem? (i := 150) rfl), rfl⟩
theorem mkX5_144 : zHas (Cond.methodLink RX5 144 yX5_isWorking) := ⟨zIn2 (List.mem_of_getElem? (i := 96) rfl), rfl⟩
theorem imX5_isWorking : zHas (Cond.instanceMethod yX5_isWorking) := ⟨zIn2 (List.mem_of_getElem? (i := 97) rfl), rfl⟩
theorem seX5_isWorking : zHas (Cond.selects RX5 yX5_isWorking yX5_isWorking) := ⟨zIn2 (List.mem_of_getElem? (i := 98) rfl), rfl⟩
theorem mkX5_190 : zHas (Cond.methodLink RX5 190 yX4_engrave) := ⟨zIn2 (List.mem_of_getElem? (i := 188) rfl), rfl⟩
theorem mkX5_193 : zHas (Cond.methodLink RX5 193 yX5_fixPlate) := ⟨zIn2 (List.mem_of_getElem? (i := 189) rfl), rfl⟩
theorem imX5_fixPlate : zHas (Cond.instanceMethod yX5_fixPlate) := ⟨zIn2 (List.mem_of_getElem? (i := 190) rfl), rfl⟩
theorem seX5_fixPlate : zHas (Cond.selects RX5 yX5_fixPlate yX5_fixPlate) := ⟨zIn2 (List.mem_of_getElem? (i := 191) rfl), rfl⟩
theorem mkX5_148 : zHas (Cond.methodLink RX5 148 yX5_stopWork) := ⟨zIn2 (List.mem_of_getElem? (i := 208) rfl), rfl⟩
theorem imX5_stopWork : zHas (Cond.instanceMethod yX5_stopWork) := ⟨zIn2 (List.mem_of_getElem? (i := 209) rfl), rfl⟩
theorem seX5_stopWork : zHas (Cond.selects RX5 yX5_stopWork yX5_stopWork) := ⟨zIn2 (List.mem_of_getElem? (i := 210) rfl), rfl⟩
theorem mkX5_151 : zHas (Cond.methodLink RX5 151 yX5_removeOrder) := ⟨zIn2 (List.mem_of_getElem? (i := 212) rfl), rfl⟩
theorem imX5_removeOrder : zHas (Cond.instanceMethod yX5_removeOrder) := ⟨zIn2 (List.mem_of_getElem? (i := 213) rfl), rfl⟩
theorem seX5_removeOrder : zHas (Cond.selects RX5 yX5_removeOrder yX5_removeOrder) := ⟨zIn2 (List.mem_of_getElem? (i := 214) rfl), rfl⟩
theorem cdX5_finishOrder : zHas (Cond.code yX5_finishOrder cX5_finishOrder 4 (none)) := ⟨zIn2 (List.mem_of_getElem? (i := 187) rfl), rfl⟩
theorem mkX5_197 : zHas (Cond.methodLink RX5 197 yX4_isReady) := ⟨zIn3 (List.mem_of_getElem? (i := 102) rfl), rfl⟩
theorem imX4_isReady : zHas (Cond.instanceMethod yX4_isReady) := ⟨zIn3 (List.mem_of_getElem? (i := 103) rfl), rfl⟩
theorem seX4_isReady : zHas (Cond.selects RX4 yX4_isReady yX4_isReady) := ⟨zIn3 (List.mem_of_getElem? (i := 104) rfl), rfl⟩
theorem mkX5_201 : zHas (Cond.methodLink RX5 201 yX4_canBeGround) := ⟨zIn3 (List.mem_of_getElem? (i := 106) rfl), rfl⟩
theorem imX4_canBeGround : zHas (Cond.instanceMethod yX4_canBeGround) := ⟨zIn3 (List.mem_of_getElem? (i := 79) rfl), rfl⟩
theorem seX4_canBeGround : zHas (Cond.selects RX4 yX4_canBeGround yX4_canBeGround) := ⟨zIn3 (List.mem_of_getElem? (i := 80) rfl), rfl⟩
theorem cdX5_misspell : zHas (Cond.code yX5_misspell cX5_misspell 4 (some .int)) := ⟨zIn3 (List.mem_of_getElem? (i := 101) rfl), rfl⟩
theorem mkX5_114 : zHas (Cond.methodLink RX5 114 yX5_bestPlate) := ⟨zIn2 (List.mem_of_getElem? (i := 123) rfl), rfl⟩
theorem imX5_bestPlate : zHas (Cond.instanceMethod yX5_bestPlate) := ⟨zIn2 (List.mem_of_getElem? (i := 124) rfl), rfl⟩
theorem seX5_bestPlate : zHas (Cond.selects RX5 yX5_bestPlate yX5_bestPlate) := ⟨zIn2 (List.mem_of_getElem? (i := 125) rfl), rfl⟩
theorem cdX5_findPlate : zHas (Cond.code yX5_findPlate cX5_findPlate 4 (some .int)) := ⟨zIn2 (List.mem_of_getElem? (i := 122) rfl), rfl⟩
theorem mkX5_137 : zHas (Cond.methodLink RX5 137 yX5_rushes) := ⟨zIn2 (List.mem_of_getElem? (i := 76) rfl), rfl⟩
theorem imX5_rushes : zHas (Cond.instanceMethod yX5_rushes) := ⟨zIn2 (List.mem_of_getElem? (i := 77) rfl), rfl⟩
theorem seX5_rushes : zHas (Cond.selects RX5 yX5_rushes yX5_rushes) := ⟨zIn2 (List.mem_of_getElem? (i := 78) rfl), rfl⟩
theorem mkX5_141 : zHas (Cond.methodLink RX5 141 yX5_moveAhead) := ⟨zIn2 (List.mem_of_getElem? (i := 80) rfl), rfl⟩
theorem imX5_moveAhead : zHas (Cond.instanceMethod yX5_moveAhead) := ⟨zIn2 (List.mem_of_getElem? (i := 81) rfl), rfl⟩
theorem seX5_moveAhead : zHas (Cond.selects RX5 yX5_moveAhead yX5_moveAhead) := ⟨zIn2 (List.mem_of_getElem? (i := 82) rfl), rfl⟩
theorem cdX5_takeInOrder : zHas (Cond.code yX5_takeInOrder cX5_takeInOrder 3 (some .int)) := ⟨zIn2 (List.mem_of_getElem? (i := 75) rfl), rfl⟩
theorem cdX5_makeRush : zHas (Cond.code yX5_makeRush cX5_makeRush 3 (some .int)) := ⟨zIn3 (List.mem_of_getElem? (i := 17) rfl), rfl⟩
theorem cdX5_dropOrder : zHas (Cond.code yX5_dropOrder cX5_dropOrder 2 (none)) := ⟨zIn3 (List.mem_of_getElem? (i := 73) rfl), rfl⟩
theorem mkX5_165 : zHas (Cond.methodLink RX5 165 yX3_nameLength) := ⟨zIn2 (List.mem_of_getElem? (i := 108) rfl), rfl⟩
theorem imX3_nameLength : zHas (Cond.instanceMethod yX3_nameLength) := ⟨zIn2 (List.mem_of_getElem? (i := 109) rfl), rfl⟩
theorem seX3_nameLength : zHas (Cond.selects RX3 yX3_nameLength yX3_nameLength) := ⟨zIn2 (List.mem_of_getElem? (i := 110) rfl), rfl⟩
theorem mkX5_171 : zHas (Cond.methodLink RX5 171 yX5_findPlate) := ⟨zIn2 (List.mem_of_getElem? (i := 119) rfl), rfl⟩
theorem imX5_findPlate : zHas (Cond.instanceMethod yX5_findPlate) := ⟨zIn2 (List.mem_of_getElem? (i := 120) rfl), rfl⟩
theorem seX5_findPlate : zHas (Cond.selects RX5 yX5_findPlate yX5_findPlate) := ⟨zIn2 (List.mem_of_getElem? (i := 121) rfl), rfl⟩
theorem mkX5_174 : zHas (Cond.methodLink RX5 174 yX5_beginOrder) := ⟨zIn2 (List.mem_of_getElem? (i := 147) rfl), rfl⟩
theorem imX5_beginOrder : zHas (Cond.instanceMethod yX5_beginOrder) := ⟨zIn2 (List.mem_of_getElem? (i := 148) rfl), rfl⟩
theorem seX5_beginOrder : zHas (Cond.selects RX5 yX5_beginOrder yX5_beginOrder) := ⟨zIn2 (List.mem_of_getElem? (i := 149) rfl), rfl⟩
theorem cdX5_takesUpWork : zHas (Cond.code yX5_takesUpWork cX5_takesUpWork 3 (some .boolean)) := ⟨zIn2 (List.mem_of_getElem? (i := 95) rfl), rfl⟩
theorem mkX5_154 : zHas (Cond.methodLink RX5 154 yX5_takesUpWork) := ⟨zIn2 (List.mem_of_getElem? (i := 92) rfl), rfl⟩
theorem imX5_takesUpWork : zHas (Cond.instanceMethod yX5_takesUpWork) := ⟨zIn2 (List.mem_of_getElem? (i := 93) rfl), rfl⟩
theorem seX5_takesUpWork : zHas (Cond.selects RX5 yX5_takesUpWork yX5_takesUpWork) := ⟨zIn2 (List.mem_of_getElem? (i := 94) rfl), rfl⟩
theorem mkX5_157 : zHas (Cond.methodLink RX5 157 Lib.Math.min.name) := ⟨zIn2 (List.mem_of_getElem? (i := 181) rfl), rfl⟩
theorem stMin : zHas (Cond.static Lib.Math.min.name) := ⟨zIn2 (List.mem_of_getElem? (i := 182) rfl), rfl⟩
theorem inMin : zHas (Cond.initialized "java/lang/Math") := ⟨zIn1 (List.mem_of_getElem? (i := 8) rfl), rfl⟩
theorem cdMin : zHas (Cond.code Lib.Math.min.name Lib.Math.min.code 2 (some .int)) := ⟨zIn2 (List.mem_of_getElem? (i := 183) rfl), rfl⟩
theorem mkX5_162 : zHas (Cond.methodLink RX5 162 yX5_finishOrder) := ⟨zIn2 (List.mem_of_getElem? (i := 184) rfl), rfl⟩
theorem imX5_finishOrder : zHas (Cond.instanceMethod yX5_finishOrder) := ⟨zIn2 (List.mem_of_getElem? (i := 185) rfl), rfl⟩
theorem seX5_finishOrder : zHas (Cond.selects RX5 yX5_finishOrder yX5_finishOrder) := ⟨zIn2 (List.mem_of_getElem? (i := 186) rfl), rfl⟩
theorem cdX5_spendMinutes : zHas (Cond.code yX5_spendMinutes cX5_spendMinutes 6 (some .int)) := ⟨zIn2 (List.mem_of_getElem? (i := 91) rfl), rfl⟩
theorem okX0_3 : zHas (Cond.methodLink RX0 3 objectInit) := ⟨zIn1 (List.mem_of_getElem? (i := 198) rfl), rfl⟩
theorem lkX0_9 : zHas (Cond.fieldLink RX0 9 (TX0 1).1 (TX0 1).2.1 (TX0 1).2.2.1) := ⟨zIn1 (List.mem_of_getElem? (i := 200) rfl), rfl⟩
theorem lkX0_15 : zHas (Cond.fieldLink RX0 15 (TX0 0).1 (TX0 0).2.1 (TX0 0).2.2.1) := ⟨zIn1 (List.mem_of_getElem? (i := 199) rfl), rfl⟩
theorem cdX0_init : zHas (Cond.code yX0_init cX0_init 2 (none)) := ⟨zIn1 (List.mem_of_getElem? (i := 197) rfl), rfl⟩
theorem iniX0 : zHas (Cond.initialized RX0) := ⟨zIn1 (List.mem_of_getElem? (i := 7) rfl), rfl⟩
theorem mkX0_19 : zHas (Cond.methodLink RX0 19 yX5_copyFrom) := ⟨zIn3 (List.mem_of_getElem? (i := 12) rfl), rfl⟩
theorem imX5_copyFrom : zHas (Cond.instanceMethod yX5_copyFrom) := ⟨zIn1 (List.mem_of_getElem? (i := 239) rfl), rfl⟩
theorem seX5_copyFrom : zHas (Cond.selects RX5 yX5_copyFrom yX5_copyFrom) := ⟨zIn2 (List.mem_of_getElem? (i := 0) rfl), rfl⟩
theorem lkX0_25 : zHas (Cond.fieldLink RX0 25 (TX5 2).1 (TX5 2).2.1 (TX5 2).2.2.1) := ⟨zIn1 (List.mem_of_getElem? (i := 124) rfl), rfl⟩
theorem lkX0_29 : zHas (Cond.fieldLink RX0 29 (TX3 6).1 (TX3 6).2.1 (TX3 6).2.2.1) := ⟨zIn1 (List.mem_of_getElem? (i := 103) rfl), rfl⟩
theorem mkX0_35 : zHas (Cond.methodLink RX0 35 yX5_hasOrder) := ⟨zIn3 (List.mem_of_getElem? (i := 13) rfl), rfl⟩
theorem mkX0_39 : zHas (Cond.methodLink RX0 39 yX5_makeRush) := ⟨zIn3 (List.mem_of_getElem? (i := 14) rfl), rfl⟩
theorem imX5_makeRush : zHas (Cond.instanceMethod yX5_makeRush) := ⟨zIn3 (List.mem_of_getElem? (i := 15) rfl), rfl⟩
theorem seX5_makeRush : zHas (Cond.selects RX5 yX5_makeRush yX5_makeRush) := ⟨zIn3 (List.mem_of_getElem? (i := 16) rfl), rfl⟩
theorem mkX0_43 : zHas (Cond.methodLink RX0 43 yX5_takesUpWork) := ⟨zIn3 (List.mem_of_getElem? (i := 18) rfl), rfl⟩
theorem lkX0_47 : zHas (Cond.fieldLink RX0 47 (TX5 9).1 (TX5 9).2.1 (TX5 9).2.2.1) := ⟨zIn1 (List.mem_of_getElem? (i := 139) rfl), rfl⟩
theorem lkX0_50 : zHas (Cond.fieldLink RX0 50 (TX5 6).1 (TX5 6).2.1 (TX5 6).2.2.1) := ⟨zIn1 (List.mem_of_getElem? (i := 133) rfl), rfl⟩
theorem mkX0_53 : zHas (Cond.methodLink RX0 53 yX5_finishOrder) := ⟨zIn3 (List.mem_of_getElem? (i := 19) rfl), rfl⟩
theorem cdX0_foresee : zHas (Cond.code yX0_foresee cX0_foresee 5 (none)) := ⟨zIn3 (List.mem_of_getElem? (i := 11) rfl), rfl⟩
theorem okX1_3 : zHas (Cond.methodLink RX1 3 objectInit) := ⟨zIn1 (List.mem_of_getElem? (i := 179) rfl), rfl⟩
theorem ao5 : Cond.arrayOver (.object RX5) ∈ lw_tbl := zIn1 (List.mem_of_getElem? (i := 181) rfl)
theorem clX1_9 : zHas (Cond.classLink RX1 9 RX5) := ⟨zIn1 (List.mem_of_getElem? (i := 180) rfl), rfl⟩
theorem lkX1_11 : zHas (Cond.fieldLink RX1 11 (TX1 0).1 (TX1 0).2.1 (TX1 0).2.2.1) := ⟨zIn1 (List.mem_of_getElem? (i := 183) rfl), rfl⟩
theorem is5 : zHas (Cond.instantiable RX5 13) := ⟨zIn1 (List.mem_of_getElem? (i := 18) rfl), rfl⟩
theorem imX5_init : zHas (Cond.instanceMethod yX5_init) := ⟨zIn1 (List.mem_of_getElem? (i := 20) rfl), rfl⟩
theorem mkX1_17 : zHas (Cond.methodLink RX1 17 yX5_init) := ⟨zIn1 (List.mem_of_getElem? (i := 182) rfl), rfl⟩
theorem cdX1_init : zHas (Cond.code yX1_init cX1_init 2 (none)) := ⟨zIn1 (List.mem_of_getElem? (i := 178) rfl), rfl⟩
theorem iniX1 : zHas (Cond.initialized RX1) := ⟨zIn1 (List.mem_of_getElem? (i := 6) rfl), rfl⟩
theorem lkX1_18 : zHas (Cond.fieldLink RX1 18 (TX1 1).1 (TX1 1).2.1 (TX1 1).2.2.1) := ⟨zIn1 (List.mem_of_getElem? (i := 184) rfl), rfl⟩
theorem cdX1_dropOldest : zHas (Cond.code yX1_dropOldest cX1_dropOldest 3 (none)) := ⟨zIn1 (List.mem_of_getElem? (i := 237) rfl), rfl⟩
theorem mkX1_25 : zHas (Cond.methodLink RX1 25 yX5_copyFrom) := ⟨zIn1 (List.mem_of_getElem? (i := 238) rfl), rfl⟩
theorem cdX1_restoreLatest : zHas (Cond.code yX1_restoreLatest cX1_restoreLatest 2 (none)) := ⟨zIn2 (List.mem_of_getElem? (i := 223) rfl), rfl⟩
theorem mkX1_22 : zHas (Cond.methodLink RX1 22 yX1_dropOldest) := ⟨zIn1 (List.mem_of_getElem? (i := 234) rfl), rfl⟩
theorem imX1_dropOldest : zHas (Cond.instanceMethod yX1_dropOldest) := ⟨zIn1 (List.mem_of_getElem? (i := 235) rfl), rfl⟩
theorem seX1_dropOldest : zHas (Cond.selects RX1 yX1_dropOldest yX1_dropOldest) := ⟨zIn1 (List.mem_of_getElem? (i := 236) rfl), rfl⟩
theorem cdX1_record : zHas (Cond.code yX1_record cX1_record 2 (none)) := ⟨zIn1 (List.mem_of_getElem? (i := 233) rfl), rfl⟩
theorem okX6_1 : zHas (Cond.methodLink RX6 1 objectInit) := ⟨zIn1 (List.mem_of_getElem? (i := 14) rfl), rfl⟩
theorem clX6_7 : zHas (Cond.classLink RX6 7 RX5) := ⟨zIn1 (List.mem_of_getElem? (i := 17) rfl), rfl⟩
theorem mkX6_9 : zHas (Cond.methodLink RX6 9 yX5_init) := ⟨zIn1 (List.mem_of_getElem? (i := 19) rfl), rfl⟩
theorem lkX6_10 : zHas (Cond.fieldLink RX6 10 (TX6 0).1 (TX6 0).2.1 (TX6 0).2.2.1) := ⟨zIn1 (List.mem_of_getElem? (i := 207) rfl), rfl⟩
theorem clX6_16 : zHas (Cond.classLink RX6 16 RX1) := ⟨zIn1 (List.mem_of_getElem? (i := 174) rfl), rfl⟩
theorem is1 : zHas (Cond.instantiable RX1 2) := ⟨zIn1 (List.mem_of_getElem? (i := 175) rfl), rfl⟩
theorem imX1_init : zHas (Cond.instanceMethod yX1_init) := ⟨zIn1 (List.mem_of_getElem? (i := 177) rfl), rfl⟩
theorem mkX6_18 : zHas (Cond.methodLink RX6 18 yX1_init) := ⟨zIn1 (List.mem_of_getElem? (i := 176) rfl), rfl⟩
theorem lkX6_19 : zHas (Cond.fieldLink RX6 19 (TX6 1).1 (TX6 1).2.1 (TX6 1).2.2.1) := ⟨zIn1 (List.mem_of_getElem? (i := 208) rfl), rfl⟩
theorem clX6_23 : zHas (Cond.classLink RX6 23 RX2) := ⟨zIn1 (List.mem_of_getElem? (i := 191) rfl), rfl⟩
theorem nkX6_25 : Cond.methodLinkNest RX6 25 yX2_init "TrophyPlates" ∈ lw_tbl := zIn1 (List.mem_of_getElem? (i := 192) rfl)
theorem lkX6_26 : zHas (Cond.fieldLink RX6 26 (TX6 2).1 (TX6 2).2.1 (TX6 2).2.2.1) := ⟨zIn1 (List.mem_of_getElem? (i := 209) rfl), rfl⟩
theorem clX6_30 : zHas (Cond.classLink RX6 30 RX0) := ⟨zIn1 (List.mem_of_getElem? (i := 193) rfl), rfl⟩
theorem is0 : zHas (Cond.instantiable RX0 2) := ⟨zIn1 (List.mem_of_getElem? (i := 194) rfl), rfl⟩
theorem imX0_init : zHas (Cond.instanceMethod yX0_init) := ⟨zIn1 (List.mem_of_getElem? (i := 196) rfl), rfl⟩
theorem mkX6_32 : zHas (Cond.methodLink RX6 32 yX0_init) := ⟨zIn1 (List.mem_of_getElem? (i := 195) rfl), rfl⟩
theorem lkX6_35 : zHas (Cond.fieldLink RX6 35 (TX6 3).1 (TX6 3).2.1 (TX6 3).2.2.1) := ⟨zIn1 (List.mem_of_getElem? (i := 210) rfl), rfl⟩
theorem lkX6_39 : zHas (Cond.fieldLink RX6 39 (TX6 4).1 (TX6 4).2.1 (TX6 4).2.2.1) := ⟨zIn1 (List.mem_of_getElem? (i := 211) rfl), rfl⟩
theorem cdX6_init : zHas (Cond.code yX6_init cX6_init 2 (none)) := ⟨zIn1 (List.mem_of_getElem? (i := 13) rfl), rfl⟩
theorem iniX6 : zHas (Cond.initialized RX6) := ⟨zIn1 (List.mem_of_getElem? (i := 1) rfl), rfl⟩
theorem mkX6_57 : zHas (Cond.methodLink RX6 57 yX5_hasPlate) := ⟨zIn2 (List.mem_of_getElem? (i := 237) rfl), rfl⟩
theorem lkX6_61 : zHas (Cond.fieldLink RX6 61 (TX5 0).1 (TX5 0).2.1 (TX5 0).2.2.1) := ⟨zIn1 (List.mem_of_getElem? (i := 120) rfl), rfl⟩
theorem lkX6_65 : zHas (Cond.fieldLink RX6 65 (TX4 2).1 (TX4 2).2.1 (TX4 2).2.2.1) := ⟨zIn1 (List.mem_of_getElem? (i := 38) rfl), rfl⟩
theorem mkX6_50 : zHas (Cond.methodLink RX6 50 yX1_record) := ⟨zIn1 (List.mem_of_getElem? (i := 230) rfl), rfl⟩
theorem imX1_record : zHas (Cond.instanceMethod yX1_record) := ⟨zIn1 (List.mem_of_getElem? (i := 231) rfl), rfl⟩
theorem seX1_record : zHas (Cond.selects RX1 yX1_record yX1_record) := ⟨zIn1 (List.mem_of_getElem? (i := 232) rfl), rfl⟩
theorem mkX6_70 : zHas (Cond.methodLink RX6 70 yX5_platesIn) := ⟨zIn2 (List.mem_of_getElem? (i := 228) rfl), rfl⟩
theorem imX5_platesIn : zHas (Cond.instanceMethod yX5_platesIn) := ⟨zIn2 (List.mem_of_getElem? (i := 229) rfl), rfl⟩
theorem seX5_platesIn : zHas (Cond.selects RX5 yX5_platesIn yX5_platesIn) := ⟨zIn2 (List.mem_of_getElem? (i := 230) rfl), rfl⟩
theorem cdX6_spoil : zHas (Cond.code yX6_spoil cX6_spoil 3 (some .int)) := ⟨zIn3 (List.mem_of_getElem? (i := 87) rfl), rfl⟩
theorem lkX6_103 : zHas (Cond.fieldLink RX6 103 (TX2 1).1 (TX2 1).2.1 (TX2 1).2.2.1) := ⟨zIn1 (List.mem_of_getElem? (i := 81) rfl), rfl⟩
theorem cdX6_clearText : zHas (Cond.code yX6_clearText cX6_clearText 2 (some .int)) := ⟨zIn2 (List.mem_of_getElem? (i := 45) rfl), rfl⟩
theorem mkX6_155 : zHas (Cond.methodLink RX6 155 yX5_hasOrder) := ⟨zIn3 (List.mem_of_getElem? (i := 7) rfl), rfl⟩
theorem lkX6_122 : zHas (Cond.fieldLink RX6 122 (TX5 2).1 (TX5 2).2.1 (TX5 2).2.2.1) := ⟨zIn1 (List.mem_of_getElem? (i := 125) rfl), rfl⟩
theorem lkX6_147 : zHas (Cond.fieldLink RX6 147 (TX3 5).1 (TX3 5).2.1 (TX3 5).2.2.1) := ⟨zIn1 (List.mem_of_getElem? (i := 101) rfl), rfl⟩
theorem mkX6_158 : zHas (Cond.methodLink RX6 158 yX5_makeRush) := ⟨zIn3 (List.mem_of_getElem? (i := 65) rfl), rfl⟩
theorem cdX6_hurry : zHas (Cond.code yX6_hurry cX6_hurry 2 (some .int)) := ⟨zIn3 (List.mem_of_getElem? (i := 64) rfl), rfl⟩
theorem mkX6_161 : zHas (Cond.methodLink RX6 161 yX5_dropOrder) := ⟨zIn3 (List.mem_of_getElem? (i := 70) rfl), rfl⟩
theorem imX5_dropOrder : zHas (Cond.instanceMethod yX5_dropOrder) := ⟨zIn3 (List.mem_of_getElem? (i := 71) rfl), rfl⟩
theorem seX5_dropOrder : zHas (Cond.selects RX5 yX5_dropOrder yX5_dropOrder) := ⟨zIn3 (List.mem_of_getElem? (i := 72) rfl), rfl⟩
theorem lkX6_119 : zHas (Cond.fieldLink RX6 119 (TX5 5).1 (TX5 5).2.1 (TX5 5).2.2.1) := ⟨zIn1 (List.mem_of_getElem? (i := 131) rfl), rfl⟩
theorem cdX6_cancel : zHas (Cond.code yX6_cancel cX6_cancel 2 (some .int)) := ⟨zIn3 (List.mem_of_getElem? (i := 69) rfl), rfl⟩
theorem mkX6_167 : zHas (Cond.methodLink RX6 167 yX5_isWorking) := ⟨zIn3 (List.mem_of_getElem? (i := 97) rfl), rfl⟩
theorem mkX6_171 : zHas (Cond.methodLink RX6 171 yX5_misspell) := ⟨zIn3 (List.mem_of_getElem? (i := 98) rfl), rfl⟩
theorem imX5_misspell : zHas (Cond.instanceMethod yX5_misspell) := ⟨zIn3 (List.mem_of_getElem? (i := 99) rfl), rfl⟩
theorem seX5_misspell : zHas (Cond.selects RX5 yX5_misspell yX5_misspell) := ⟨zIn3 (List.mem_of_getElem? (i := 100) rfl), rfl⟩
theorem cdX6_slip : zHas (Cond.code yX6_slip cX6_slip 1 (some .int)) := ⟨zIn3 (List.mem_of_getElem? (i := 96) rfl), rfl⟩
theorem lkX6_174 : zHas (Cond.fieldLink RX6 174 (TX1 1).1 (TX1 1).2.1 (TX1 1).2.2.1) := ⟨zIn1 (List.mem_of_getElem? (i := 185) rfl), rfl⟩
theorem mkX6_177 : zHas (Cond.methodLink RX6 177 yX1_restoreLatest) := ⟨zIn2 (List.mem_of_getElem? (i := 220) rfl), rfl⟩
theorem imX1_restoreLatest : zHas (Cond.instanceMethod yX1_restoreLatest) := ⟨zIn2 (List.mem_of_getElem? (i := 221) rfl), rfl⟩
theorem seX1_restoreLatest : zHas (Cond.selects RX1 yX1_restoreLatest yX1_restoreLatest) := ⟨zIn2 (List.mem_of_getElem? (i := 222) rfl), rfl⟩
theorem cdX6_undo : zHas (Cond.code yX6_undo cX6_undo 1 (some .int)) := ⟨zIn2 (List.mem_of_getElem? (i := 219) rfl), rfl⟩
theorem lkX6_46 : zHas (Cond.fieldLink RX6 46 (TX5 3).1 (TX5 3).2.1 (TX5 3).2.2.1) := ⟨zIn1 (List.mem_of_getElem? (i := 127) rfl), rfl⟩
theorem lkX6_85 : zHas (Cond.fieldLink RX6 85 (TX5 4).1 (TX5 4).2.1 (TX5 4).2.2.1) := ⟨zIn1 (List.mem_of_getElem? (i := 129) rfl), rfl⟩
theorem mkX6_180 : zHas (Cond.methodLink RX6 180 yX5_rushes) := ⟨zIn2 (List.mem_of_getElem? (i := 232) rfl), rfl⟩
theorem lkX6_183 : zHas (Cond.fieldLink RX6 183 (TX5 6).1 (TX5 6).2.1 (TX5 6).2.2.1) := ⟨zIn1 (List.mem_of_getElem? (i := 134) rfl), rfl⟩
theorem lkX6_186 : zHas (Cond.fieldLink RX6 186 (TX5 9).1 (TX5 9).2.1 (TX5 9).2.2.1) := ⟨zIn1 (List.mem_of_getElem? (i := 140) rfl), rfl⟩
theorem lkX6_189 : zHas (Cond.fieldLink RX6 189 (TX5 7).1 (TX5 7).2.1 (TX5 7).2.2.1) := ⟨zIn1 (List.mem_of_getElem? (i := 136) rfl), rfl⟩
theorem lkX6_192 : zHas (Cond.fieldLink RX6 192 (TX5 10).1 (TX5 10).2.1 (TX5 10).2.2.1) := ⟨zIn1 (List.mem_of_getElem? (i := 142) rfl), rfl⟩
theorem lkX6_195 : zHas (Cond.fieldLink RX6 195 (TX5 11).1 (TX5 11).2.1 (TX5 11).2.2.1) := ⟨zIn1 (List.mem_of_getElem? (i := 144) rfl), rfl⟩
theorem lkX6_198 : zHas (Cond.fieldLink RX6 198 (TX5 12).1 (TX5 12).2.1 (TX5 12).2.2.1) := ⟨zIn1 (List.mem_of_getElem? (i := 146) rfl), rfl⟩
theorem cdX6_count : zHas (Cond.code yX6_count cX6_count 2 (some .int)) := ⟨zIn2 (List.mem_of_getElem? (i := 227) rfl), rfl⟩
theorem lkX6_201 : zHas (Cond.fieldLink RX6 201 (TX4 0).1 (TX4 0).2.1 (TX4 0).2.2.1) := ⟨zIn1 (List.mem_of_getElem? (i := 33) rfl), rfl⟩
theorem lkX6_82 : zHas (Cond.fieldLink RX6 82 (TX4 1).1 (TX4 1).2.1 (TX4 1).2.2.1) := ⟨zIn1 (List.mem_of_getElem? (i := 36) rfl), rfl⟩
theorem lkX6_204 : zHas (Cond.fieldLink RX6 204 (TX4 3).1 (TX4 3).2.1 (TX4 3).2.2.1) := ⟨zIn1 (List.mem_of_getElem? (i := 41) rfl), rfl⟩
theorem lkX6_207 : zHas (Cond.fieldLink RX6 207 (TX4 4).1 (TX4 4).2.1 (TX4 4).2.2.1) := ⟨zIn1 (List.mem_of_getElem? (i := 43) rfl), rfl⟩
theorem lkX6_210 : zHas (Cond.fieldLink RX6 210 (TX4 5).1 (TX4 5).2.1 (TX4 5).2.2.1) := ⟨zIn1 (List.mem_of_getElem? (i := 46) rfl), rfl⟩
theorem lkX6_211 : zHas (Cond.fieldLink RX6 211 (TX4 6).1 (TX4 6).2.1 (TX4 6).2.2.1) := ⟨zIn1 (List.mem_of_getElem? (i := 49) rfl), rfl⟩
theorem cdX6_plate : zHas (Cond.code yX6_plate cX6_plate 4 (some .int)) := ⟨zIn2 (List.mem_of_getElem? (i := 236) rfl), rfl⟩
theorem mkX6_91 : zHas (Cond.methodLink RX6 91 yX5_hasShield) := ⟨zIn2 (List.mem_of_getElem? (i := 50) rfl), rfl⟩
theorem lkX6_212 : zHas (Cond.fieldLink RX6 212 (TX5 1).1 (TX5 1).2.1 (TX5 1).2.2.1) := ⟨zIn1 (List.mem_of_getElem? (i := 122) rfl), rfl⟩
theorem mkX6_216 : zHas (Cond.methodLink RX6 216 yX5_platesOn) := ⟨zIn3 (List.mem_of_getElem? (i := 47) rfl), rfl⟩
theorem mkX6_219 : zHas (Cond.methodLink RX6 219 yX5_earliestYear) := ⟨zIn3 (List.mem_of_getElem? (i := 48) rfl), rfl⟩
theorem mkX6_222 : zHas (Cond.methodLink RX6 222 yX5_latestYear) := ⟨zIn3 (List.mem_of_getElem? (i := 49) rfl), rfl⟩
theorem mkX6_225 : zHas (Cond.methodLink RX6 225 yX5_yearsLeftOut) := ⟨zIn3 (List.mem_of_getElem? (i := 53) rfl), rfl⟩
theorem imX5_yearsLeftOut : zHas (Cond.instanceMethod yX5_yearsLeftOut) := ⟨zIn3 (List.mem_of_getElem? (i := 54) rfl), rfl⟩
theorem seX5_yearsLeftOut : zHas (Cond.selects RX5 yX5_yearsLeftOut yX5_yearsLeftOut) := ⟨zIn3 (List.mem_of_getElem? (i := 55) rfl), rfl⟩
theorem cdX6_shield : zHas (Cond.code yX6_shield cX6_shield 3 (some .int)) := ⟨zIn3 (List.mem_of_getElem? (i := 46) rfl), rfl⟩
theorem lkX6_135 : zHas (Cond.fieldLink RX6 135 (TX3 1).1 (TX3 1).2.1 (TX3 1).2.2.1) := ⟨zIn1 (List.mem_of_getElem? (i := 90) rfl), rfl⟩
theorem lkX6_138 : zHas (Cond.fieldLink RX6 138 (TX3 2).1 (TX3 2).2.1 (TX3 2).2.2.1) := ⟨zIn1 (List.mem_of_getElem? (i := 93) rfl), rfl⟩
theorem lkX6_141 : zHas (Cond.fieldLink RX6 141 (TX3 3).1 (TX3 3).2.1 (TX3 3).2.2.1) := ⟨zIn1 (List.mem_of_getElem? (i := 96) rfl), rfl⟩
theorem lkX6_144 : zHas (Cond.fieldLink RX6 144 (TX3 4).1 (TX3 4).2.1 (TX3 4).2.2.1) := ⟨zIn1 (List.mem_of_getElem? (i := 98) rfl), rfl⟩
theorem lkX6_126 : zHas (Cond.fieldLink RX6 126 (TX3 0).1 (TX3 0).2.1 (TX3 0).2.2.1) := ⟨zIn1 (List.mem_of_getElem? (i := 88) rfl), rfl⟩
theorem mkX6_228 : zHas (Cond.methodLink RX6 228 yX3_nameLength) := ⟨zIn3 (List.mem_of_getElem? (i := 36) rfl), rfl⟩
theorem mkX6_231 : zHas (Cond.methodLink RX6 231 yX3_effort) := ⟨zIn3 (List.mem_of_getElem? (i := 37) rfl), rfl⟩
theorem cdX6_orderOf : zHas (Cond.code yX6_orderOf cX6_orderOf 4 (some .int)) := ⟨zIn3 (List.mem_of_getElem? (i := 35) rfl), rfl⟩
theorem lkX6_234 : zHas (Cond.fieldLink RX6 234 (TX2 0).1 (TX2 0).2.1 (TX2 0).2.2.1) := ⟨zIn1 (List.mem_of_getElem? (i := 78) rfl), rfl⟩
theorem cdX6_letter : zHas (Cond.code yX6_letter cX6_letter 4 (some .int)) := ⟨zIn3 (List.mem_of_getElem? (i := 41) rfl), rfl⟩
theorem mkX6_249 : zHas (Cond.methodLink RX6 249 yX0_foresee) := ⟨zIn3 (List.mem_of_getElem? (i := 8) rfl), rfl⟩
theorem imX0_foresee : zHas (Cond.instanceMethod yX0_foresee) := ⟨zIn3 (List.mem_of_getElem? (i := 9) rfl), rfl⟩
theorem seX0_foresee : zHas (Cond.selects RX0 yX0_foresee yX0_foresee) := ⟨zIn3 (List.mem_of_getElem? (i := 10) rfl), rfl⟩
theorem lkX6_253 : zHas (Cond.fieldLink RX6 253 (TX0 1).1 (TX0 1).2.1 (TX0 1).2.2.1) := ⟨zIn1 (List.mem_of_getElem? (i := 201) rfl), rfl⟩
theorem cdX6_doneIn : zHas (Cond.code yX6_doneIn cX6_doneIn 2 (some .int)) := ⟨zIn3 (List.mem_of_getElem? (i := 6) rfl), rfl⟩
theorem cdX6_isWithin : zHas (Cond.code yX6_isWithin cX6_isWithin 3 (some .boolean)) := ⟨zIn1 (List.mem_of_getElem? (i := 229) rfl), rfl⟩
theorem mkX6_42 : zHas (Cond.methodLink RX6 42 yX6_isWithin) := ⟨zIn1 (List.mem_of_getElem? (i := 227) rfl), rfl⟩
theorem stX6_isWithin : zHas (Cond.static yX6_isWithin) := ⟨zIn1 (List.mem_of_getElem? (i := 228) rfl), rfl⟩
theorem cdX6_isYear : zHas (Cond.code yX6_isYear cX6_isYear 1 (some .boolean)) := ⟨zIn2 (List.mem_of_getElem? (i := 56) rfl), rfl⟩
theorem cdX6_isSize : zHas (Cond.code yX6_isSize cX6_isSize 1 (some .boolean)) := ⟨zIn2 (List.mem_of_getElem? (i := 59) rfl), rfl⟩
theorem cdX6_isDepth : zHas (Cond.code yX6_isDepth cX6_isDepth 1 (some .boolean)) := ⟨zIn2 (List.mem_of_getElem? (i := 62) rfl), rfl⟩
theorem mkX6_53 : zHas (Cond.methodLink RX6 53 yX5_addPlate) := ⟨zIn2 (List.mem_of_getElem? (i := 14) rfl), rfl⟩
theorem imX5_addPlate : zHas (Cond.instanceMethod yX5_addPlate) := ⟨zIn2 (List.mem_of_getElem? (i := 15) rfl), rfl⟩
theorem seX5_addPlate : zHas (Cond.selects RX5 yX5_addPlate yX5_addPlate) := ⟨zIn2 (List.mem_of_getElem? (i := 16) rfl), rfl⟩
theorem cdX6_cut : zHas (Cond.code yX6_cut cX6_cut 3 (some .int)) := ⟨zIn1 (List.mem_of_getElem? (i := 226) rfl), rfl⟩
theorem mkX6_74 : zHas (Cond.methodLink RX6 74 yX4_canBeGround) := ⟨zIn3 (List.mem_of_getElem? (i := 78) rfl), rfl⟩
theorem mkX6_78 : zHas (Cond.methodLink RX6 78 yX5_grindSide) := ⟨zIn3 (List.mem_of_getElem? (i := 83) rfl), rfl⟩
theorem cdX6_grind : zHas (Cond.code yX6_grind cX6_grind 4 (some .int)) := ⟨zIn3 (List.mem_of_getElem? (i := 77) rfl), rfl⟩
theorem mkX6_88 : zHas (Cond.methodLink RX6 88 yX5_hangShield) := ⟨zIn2 (List.mem_of_getElem? (i := 30) rfl), rfl⟩
theorem imX5_hangShield : zHas (Cond.instanceMethod yX5_hangShield) := ⟨zIn2 (List.mem_of_getElem? (i := 31) rfl), rfl⟩
theorem seX5_hangShield : zHas (Cond.selects RX5 yX5_hangShield yX5_hangShield) := ⟨zIn2 (List.mem_of_getElem? (i := 32) rfl), rfl⟩
theorem cdX6_addShield : zHas (Cond.code yX6_addShield cX6_addShield 2 (some .int)) := ⟨zIn2 (List.mem_of_getElem? (i := 29) rfl), rfl⟩
theorem mkX6_94 : zHas (Cond.methodLink RX6 94 yX6_isYear) := ⟨zIn2 (List.mem_of_getElem? (i := 54) rfl), rfl⟩
theorem stX6_isYear : zHas (Cond.static yX6_isYear) := ⟨zIn2 (List.mem_of_getElem? (i := 55) rfl), rfl⟩
theorem mkX6_97 : zHas (Cond.methodLink RX6 97 yX5_plateOfYear) := ⟨zIn2 (List.mem_of_getElem? (i := 63) rfl), rfl⟩
theorem mkX6_100 : zHas (Cond.methodLink RX6 100 yX4_putIntoDrawer) := ⟨zIn3 (List.mem_of_getElem? (i := 92) rfl), rfl⟩
theorem cdX6_takeOff : zHas (Cond.code yX6_takeOff cX6_takeOff 4 (some .int)) := ⟨zIn3 (List.mem_of_getElem? (i := 91) rfl), rfl⟩
theorem mkX6_106 : zHas (Cond.methodLink RX6 106 yX2_add) := ⟨zIn2 (List.mem_of_getElem? (i := 38) rfl), rfl⟩
theorem imX2_add : zHas (Cond.instanceMethod yX2_add) := ⟨zIn2 (List.mem_of_getElem? (i := 39) rfl), rfl⟩
theorem seX2_add : zHas (Cond.selects RX2 yX2_add yX2_add) := ⟨zIn2 (List.mem_of_getElem? (i := 40) rfl), rfl⟩
theorem cdX6_append : zHas (Cond.code yX6_append cX6_append 2 (some .int)) := ⟨zIn2 (List.mem_of_getElem? (i := 37) rfl), rfl⟩
theorem mkX6_110 : zHas (Cond.methodLink RX6 110 yX6_isSize) := ⟨zIn2 (List.mem_of_getElem? (i := 57) rfl), rfl⟩
theorem stX6_isSize : zHas (Cond.static yX6_isSize) := ⟨zIn2 (List.mem_of_getElem? (i := 58) rfl), rfl⟩
theorem mkX6_113 : zHas (Cond.methodLink RX6 113 yX6_isDepth) := ⟨zIn2 (List.mem_of_getElem? (i := 60) rfl), rfl⟩
theorem stX6_isDepth : zHas (Cond.static yX6_isDepth) := ⟨zIn2 (List.mem_of_getElem? (i := 61) rfl), rfl⟩
theorem mkX6_116 : zHas (Cond.methodLink RX6 116 yX5_isOrdered) := ⟨zIn2 (List.mem_of_getElem? (i := 67) rfl), rfl⟩
theorem imX5_isOrdered : zHas (Cond.instanceMethod yX5_isOrdered) := ⟨zIn2 (List.mem_of_getElem? (i := 68) rfl), rfl⟩
theorem seX5_isOrdered : zHas (Cond.selects RX5 yX5_isOrdered yX5_isOrdered) := ⟨zIn2 (List.mem_of_getElem? (i := 69) rfl), rfl⟩
theorem mkX6_131 : zHas (Cond.methodLink RX6 131 yX2_copyFrom) := ⟨zIn2 (List.mem_of_getElem? (i := 71) rfl), rfl⟩
theorem mkX6_151 : zHas (Cond.methodLink RX6 151 yX5_takeInOrder) := ⟨zIn2 (List.mem_of_getElem? (i := 72) rfl), rfl⟩
theorem imX5_takeInOrder : zHas (Cond.instanceMethod yX5_takeInOrder) := ⟨zIn2 (List.mem_of_getElem? (i := 73) rfl), rfl⟩
theorem seX5_takeInOrder : zHas (Cond.selects RX5 yX5_takeInOrder yX5_takeInOrder) := ⟨zIn2 (List.mem_of_getElem? (i := 74) rfl), rfl⟩
theorem cdX6_order : zHas (Cond.code yX6_order cX6_order 7 (some .int)) := ⟨zIn2 (List.mem_of_getElem? (i := 49) rfl), rfl⟩
theorem mkX6_164 : zHas (Cond.methodLink RX6 164 yX5_spendMinutes) := ⟨zIn2 (List.mem_of_getElem? (i := 88) rfl), rfl⟩
theorem imX5_spendMinutes : zHas (Cond.instanceMethod yX5_spendMinutes) := ⟨zIn2 (List.mem_of_getElem? (i := 89) rfl), rfl⟩
theorem seX5_spendMinutes : zHas (Cond.selects RX5 yX5_spendMinutes yX5_spendMinutes) := ⟨zIn2 (List.mem_of_getElem? (i := 90) rfl), rfl⟩
theorem cdX6_work : zHas (Cond.code yX6_work cX6_work 2 (some .int)) := ⟨zIn2 (List.mem_of_getElem? (i := 87) rfl), rfl⟩
theorem cdX6_plateFor : zHas (Cond.code yX6_plateFor cX6_plateFor 3 (some .int)) := ⟨zIn3 (List.mem_of_getElem? (i := 113) rfl), rfl⟩
theorem mkX6_237 : zHas (Cond.methodLink RX6 237 yX2_lengthIn) := ⟨zIn3 (List.mem_of_getElem? (i := 2) rfl), rfl⟩
theorem cdX6_lengthOf : zHas (Cond.code yX6_lengthOf cX6_lengthOf 2 (some .int)) := ⟨zIn3 (List.mem_of_getElem? (i := 1) rfl), rfl⟩
theorem cdL_cell : zHas (Cond.code yL_cell cL_cell 2 (some .int)) := ⟨zIn3 (List.mem_of_getElem? (i := 22) rfl), rfl⟩
theorem iniL : zHas (Cond.initialized RL) := ⟨zIn1 (List.mem_of_getElem? (i := 0) rfl), rfl⟩
theorem ckL_7 : zHas (Cond.constant RL 7 2147483647) := ⟨zIn3 (List.mem_of_getElem? (i := 26) rfl), rfl⟩
theorem cdL_low : zHas (Cond.code yL_low cL_low 2 (some .int)) := ⟨zIn3 (List.mem_of_getElem? (i := 25) rfl), rfl⟩
theorem cjL_8 : zHas (Cond.constantLong RL 8 13) := ⟨zIn3 (List.mem_of_getElem? (i := 30) rfl), rfl⟩
theorem cjL_10 : zHas (Cond.constantLong RL 10 31) := ⟨zIn3 (List.mem_of_getElem? (i := 31) rfl), rfl⟩
theorem mkL_12 : zHas (Cond.methodLink RL 12 yX6_count) := ⟨zIn2 (List.mem_of_getElem? (i := 224) rfl), rfl⟩
theorem imX6_count : zHas (Cond.instanceMethod yX6_count) := ⟨zIn2 (List.mem_of_getElem? (i := 225) rfl), rfl⟩
theorem seX6_count : zHas (Cond.selects RX6 yX6_count yX6_count) := ⟨zIn2 (List.mem_of_getElem? (i := 226) rfl), rfl⟩
theorem mkL_18 : zHas (Cond.methodLink RL 18 yX6_plate) := ⟨zIn2 (List.mem_of_getElem? (i := 233) rfl), rfl⟩
theorem imX6_plate : zHas (Cond.instanceMethod yX6_plate) := ⟨zIn2 (List.mem_of_getElem? (i := 234) rfl), rfl⟩
theorem seX6_plate : zHas (Cond.selects RX6 yX6_plate yX6_plate) := ⟨zIn2 (List.mem_of_getElem? (i := 235) rfl), rfl⟩
theorem mkL_22 : zHas (Cond.methodLink RL 22 yX6_orderOf) := ⟨zIn3 (List.mem_of_getElem? (i := 32) rfl), rfl⟩
theorem imX6_orderOf : zHas (Cond.instanceMethod yX6_orderOf) := ⟨zIn3 (List.mem_of_getElem? (i := 33) rfl), rfl⟩
theorem seX6_orderOf : zHas (Cond.selects RX6 yX6_orderOf yX6_orderOf) := ⟨zIn3 (List.mem_of_getElem? (i := 34) rfl), rfl⟩
theorem mkL_25 : zHas (Cond.methodLink RL 25 yX6_letter) := ⟨zIn3 (List.mem_of_getElem? (i := 38) rfl), rfl⟩
theorem imX6_letter : zHas (Cond.instanceMethod yX6_letter) := ⟨zIn3 (List.mem_of_getElem? (i := 39) rfl), rfl⟩
theorem seX6_letter : zHas (Cond.selects RX6 yX6_letter yX6_letter) := ⟨zIn3 (List.mem_of_getElem? (i := 40) rfl), rfl⟩
theorem cjL_28 : zHas (Cond.constantLong RL 28 97) := ⟨zIn3 (List.mem_of_getElem? (i := 42) rfl), rfl⟩
theorem mkL_30 : zHas (Cond.methodLink RL 30 yX6_shield) := ⟨zIn3 (List.mem_of_getElem? (i := 43) rfl), rfl⟩
theorem imX6_shield : zHas (Cond.instanceMethod yX6_shield) := ⟨zIn3 (List.mem_of_getElem? (i := 44) rfl), rfl⟩
theorem seX6_shield : zHas (Cond.selects RX6 yX6_shield yX6_shield) := ⟨zIn3 (List.mem_of_getElem? (i := 45) rfl), rfl⟩
theorem cdL_digest : zHas (Cond.code yL_digest cL_digest 5 (some .long)) := ⟨zIn3 (List.mem_of_getElem? (i := 29) rfl), rfl⟩
theorem mkL_33 : zHas (Cond.methodLink RL 33 yL_low) := ⟨zIn3 (List.mem_of_getElem? (i := 23) rfl), rfl⟩
theorem stL_low : zHas (Cond.static yL_low) := ⟨zIn3 (List.mem_of_getElem? (i := 24) rfl), rfl⟩
theorem mkL_38 : zHas (Cond.methodLink RL 38 yX6_cut) := ⟨zIn1 (List.mem_of_getElem? (i := 223) rfl), rfl⟩
theorem imX6_cut : zHas (Cond.instanceMethod yX6_cut) := ⟨zIn1 (List.mem_of_getElem? (i := 224) rfl), rfl⟩
theorem seX6_cut : zHas (Cond.selects RX6 yX6_cut yX6_cut) := ⟨zIn1 (List.mem_of_getElem? (i := 225) rfl), rfl⟩
theorem mkL_41 : zHas (Cond.methodLink RL 41 yX6_append) := ⟨zIn2 (List.mem_of_getElem? (i := 34) rfl), rfl⟩
theorem imX6_append : zHas (Cond.instanceMethod yX6_append) := ⟨zIn2 (List.mem_of_getElem? (i := 35) rfl), rfl⟩
theorem seX6_append : zHas (Cond.selects RX6 yX6_append yX6_append) := ⟨zIn2 (List.mem_of_getElem? (i := 36) rfl), rfl⟩
theorem mkL_44 : zHas (Cond.methodLink RL 44 yX6_order) := ⟨zIn2 (List.mem_of_getElem? (i := 46) rfl), rfl⟩
theorem imX6_order : zHas (Cond.instanceMethod yX6_order) := ⟨zIn2 (List.mem_of_getElem? (i := 47) rfl), rfl⟩
theorem seX6_order : zHas (Cond.selects RX6 yX6_order yX6_order) := ⟨zIn2 (List.mem_of_getElem? (i := 48) rfl), rfl⟩
theorem mkL_48 : zHas (Cond.methodLink RL 48 yX6_hurry) := ⟨zIn3 (List.mem_of_getElem? (i := 61) rfl), rfl⟩
theorem imX6_hurry : zHas (Cond.instanceMethod yX6_hurry) := ⟨zIn3 (List.mem_of_getElem? (i := 62) rfl), rfl⟩
theorem seX6_hurry : zHas (Cond.selects RX6 yX6_hurry yX6_hurry) := ⟨zIn3 (List.mem_of_getElem? (i := 63) rfl), rfl⟩
theorem mkL_51 : zHas (Cond.methodLink RL 51 yX6_cancel) := ⟨zIn3 (List.mem_of_getElem? (i := 66) rfl), rfl⟩
theorem imX6_cancel : zHas (Cond.instanceMethod yX6_cancel) := ⟨zIn3 (List.mem_of_getElem? (i := 67) rfl), rfl⟩
theorem seX6_cancel : zHas (Cond.selects RX6 yX6_cancel yX6_cancel) := ⟨zIn3 (List.mem_of_getElem? (i := 68) rfl), rfl⟩
theorem mkL_54 : zHas (Cond.methodLink RL 54 yX6_grind) := ⟨zIn3 (List.mem_of_getElem? (i := 74) rfl), rfl⟩
theorem imX6_grind : zHas (Cond.instanceMethod yX6_grind) := ⟨zIn3 (List.mem_of_getElem? (i := 75) rfl), rfl⟩
theorem seX6_grind : zHas (Cond.selects RX6 yX6_grind yX6_grind) := ⟨zIn3 (List.mem_of_getElem? (i := 76) rfl), rfl⟩
theorem mkL_57 : zHas (Cond.methodLink RL 57 yX6_spoil) := ⟨zIn3 (List.mem_of_getElem? (i := 84) rfl), rfl⟩
theorem imX6_spoil : zHas (Cond.instanceMethod yX6_spoil) := ⟨zIn3 (List.mem_of_getElem? (i := 85) rfl), rfl⟩
theorem seX6_spoil : zHas (Cond.selects RX6 yX6_spoil yX6_spoil) := ⟨zIn3 (List.mem_of_getElem? (i := 86) rfl), rfl⟩
theorem mkL_60 : zHas (Cond.methodLink RL 60 yX6_takeOff) := ⟨zIn3 (List.mem_of_getElem? (i := 88) rfl), rfl⟩
theorem imX6_takeOff : zHas (Cond.instanceMethod yX6_takeOff) := ⟨zIn3 (List.mem_of_getElem? (i := 89) rfl), rfl⟩
theorem seX6_takeOff : zHas (Cond.selects RX6 yX6_takeOff yX6_takeOff) := ⟨zIn3 (List.mem_of_getElem? (i := 90) rfl), rfl⟩
theorem mkL_63 : zHas (Cond.methodLink RL 63 yX6_slip) := ⟨zIn3 (List.mem_of_getElem? (i := 93) rfl), rfl⟩
theorem imX6_slip : zHas (Cond.instanceMethod yX6_slip) := ⟨zIn3 (List.mem_of_getElem? (i := 94) rfl), rfl⟩
theorem seX6_slip : zHas (Cond.selects RX6 yX6_slip yX6_slip) := ⟨zIn3 (List.mem_of_getElem? (i := 95) rfl), rfl⟩
theorem mkL_67 : zHas (Cond.methodLink RL 67 yX6_work) := ⟨zIn2 (List.mem_of_getElem? (i := 84) rfl), rfl⟩
theorem imX6_work : zHas (Cond.instanceMethod yX6_work) := ⟨zIn2 (List.mem_of_getElem? (i := 85) rfl), rfl⟩
theorem seX6_work : zHas (Cond.selects RX6 yX6_work yX6_work) := ⟨zIn2 (List.mem_of_getElem? (i := 86) rfl), rfl⟩
theorem cdL_act : zHas (Cond.code yL_act cL_act 5 (some .int)) := ⟨zIn3 (List.mem_of_getElem? (i := 60) rfl), rfl⟩
theorem mkL_70 : zHas (Cond.methodLink RL 70 yX6_plateFor) := ⟨zIn3 (List.mem_of_getElem? (i := 110) rfl), rfl⟩
theorem imX6_plateFor : zHas (Cond.instanceMethod yX6_plateFor) := ⟨zIn3 (List.mem_of_getElem? (i := 111) rfl), rfl⟩
theorem seX6_plateFor : zHas (Cond.selects RX6 yX6_plateFor yX6_plateFor) := ⟨zIn3 (List.mem_of_getElem? (i := 112) rfl), rfl⟩
theorem cdL_isRight : zHas (Cond.code yL_isRight cL_isRight 7 (some .boolean)) := ⟨zIn3 (List.mem_of_getElem? (i := 109) rfl), rfl⟩
theorem cdL_isDone : zHas (Cond.code yL_isDone cL_isDone 7 (some .boolean)) := ⟨zIn3 (List.mem_of_getElem? (i := 116) rfl), rfl⟩
theorem mkL_73 : zHas (Cond.methodLink RL 73 yX6_doneIn) := ⟨zIn3 (List.mem_of_getElem? (i := 3) rfl), rfl⟩
theorem imX6_doneIn : zHas (Cond.instanceMethod yX6_doneIn) := ⟨zIn3 (List.mem_of_getElem? (i := 4) rfl), rfl⟩
theorem seX6_doneIn : zHas (Cond.selects RX6 yX6_doneIn yX6_doneIn) := ⟨zIn3 (List.mem_of_getElem? (i := 5) rfl), rfl⟩
theorem mkL_76 : zHas (Cond.methodLink RL 76 yL_digest) := ⟨zIn3 (List.mem_of_getElem? (i := 27) rfl), rfl⟩
theorem stL_digest : zHas (Cond.static yL_digest) := ⟨zIn3 (List.mem_of_getElem? (i := 28) rfl), rfl⟩
theorem mkL_80 : zHas (Cond.methodLink RL 80 yX6_undo) := ⟨zIn2 (List.mem_of_getElem? (i := 216) rfl), rfl⟩
theorem imX6_undo : zHas (Cond.instanceMethod yX6_undo) := ⟨zIn2 (List.mem_of_getElem? (i := 217) rfl), rfl⟩
theorem seX6_undo : zHas (Cond.selects RX6 yX6_undo yX6_undo) := ⟨zIn2 (List.mem_of_getElem? (i := 218) rfl), rfl⟩
theorem cdL_isForecast : zHas (Cond.code yL_isForecast cL_isForecast 13 (some .boolean)) := ⟨zIn3 (List.mem_of_getElem? (i := 119) rfl), rfl⟩
theorem clL_13 : zHas (Cond.classLink RL 13 RX6) := ⟨zIn1 (List.mem_of_getElem? (i := 9) rfl), rfl⟩
theorem is6 : zHas (Cond.instantiable RX6 5) := ⟨zIn1 (List.mem_of_getElem? (i := 10) rfl), rfl⟩
theorem imX6_init : zHas (Cond.instanceMethod yX6_init) := ⟨zIn1 (List.mem_of_getElem? (i := 12) rfl), rfl⟩
theorem mkL_83 : zHas (Cond.methodLink RL 83 yX6_init) := ⟨zIn1 (List.mem_of_getElem? (i := 11) rfl), rfl⟩
theorem mkL_84 : zHas (Cond.methodLink RL 84 yL_cell) := ⟨zIn3 (List.mem_of_getElem? (i := 20) rfl), rfl⟩
theorem stL_cell : zHas (Cond.static yL_cell) := ⟨zIn3 (List.mem_of_getElem? (i := 21) rfl), rfl⟩
theorem mkL_88 : zHas (Cond.methodLink RL 88 yX6_addShield) := ⟨zIn2 (List.mem_of_getElem? (i := 26) rfl), rfl⟩
theorem imX6_addShield : zHas (Cond.instanceMethod yX6_addShield) := ⟨zIn2 (List.mem_of_getElem? (i := 27) rfl), rfl⟩
theorem seX6_addShield : zHas (Cond.selects RX6 yX6_addShield yX6_addShield) := ⟨zIn2 (List.mem_of_getElem? (i := 28) rfl), rfl⟩
theorem mkL_91 : zHas (Cond.methodLink RL 91 yX6_clearText) := ⟨zIn2 (List.mem_of_getElem? (i := 42) rfl), rfl⟩
theorem imX6_clearText : zHas (Cond.instanceMethod yX6_clearText) := ⟨zIn2 (List.mem_of_getElem? (i := 43) rfl), rfl⟩
theorem seX6_clearText : zHas (Cond.selects RX6 yX6_clearText yX6_clearText) := ⟨zIn2 (List.mem_of_getElem? (i := 44) rfl), rfl⟩
theorem mkL_94 : zHas (Cond.methodLink RL 94 yL_act) := ⟨zIn3 (List.mem_of_getElem? (i := 58) rfl), rfl⟩
theorem stL_act : zHas (Cond.static yL_act) := ⟨zIn3 (List.mem_of_getElem? (i := 59) rfl), rfl⟩
theorem mkL_98 : zHas (Cond.methodLink RL 98 yL_isDone) := ⟨zIn3 (List.mem_of_getElem? (i := 114) rfl), rfl⟩
theorem stL_isDone : zHas (Cond.static yL_isDone) := ⟨zIn3 (List.mem_of_getElem? (i := 115) rfl), rfl⟩
theorem mkL_102 : zHas (Cond.methodLink RL 102 yL_isRight) := ⟨zIn3 (List.mem_of_getElem? (i := 107) rfl), rfl⟩
theorem stL_isRight : zHas (Cond.static yL_isRight) := ⟨zIn3 (List.mem_of_getElem? (i := 108) rfl), rfl⟩
theorem mkL_106 : zHas (Cond.methodLink RL 106 yX6_lengthOf) := ⟨zIn2 (List.mem_of_getElem? (i := 238) rfl), rfl⟩
theorem imX6_lengthOf : zHas (Cond.instanceMethod yX6_lengthOf) := ⟨zIn2 (List.mem_of_getElem? (i := 239) rfl), rfl⟩
theorem seX6_lengthOf : zHas (Cond.selects RX6 yX6_lengthOf yX6_lengthOf) := ⟨zIn3 (List.mem_of_getElem? (i := 0) rfl), rfl⟩
theorem mkL_109 : zHas (Cond.methodLink RL 109 yL_isForecast) := ⟨zIn3 (List.mem_of_getElem? (i := 117) rfl), rfl⟩
theorem stL_isForecast : zHas (Cond.static yL_isForecast) := ⟨zIn3 (List.mem_of_getElem? (i := 118) rfl), rfl⟩
end
section
/-! TrophyPlates$Name.<init> -/
theorem mdX2_init : zMd yX2_init cX2_init 1 (none) 0 := ⟨cdX2_init, iniX2, ⟨by decide +kernel, by decide +kernel⟩, by decide +kernel, by decide +kernel⟩
def bX2_init : zSS := sSeq ((fun en h => (rL 0 en h).map fun _ => .inl (en, h))) (sFr 2 0 (rL 0) (rNA 12 (eC 12)))
abbrev mX2_init : zM := (cX2_init, RX2, 1, none, { frames := 1, cells := 1, slots := 12, locals := 12 }, true)
set_option maxHeartbeats 400000 in
set_option maxRecDepth 20000 in
theorem kX2_init : saOk mX2_init 0 12 1 12 bX2_init := (saSeq (M := mX2_init) (sa_ss (M := mX2_init) (saInit (M := mX2_init) dX2_init_0 dX2_init_1 okX2_3 imObj cdObj ⟨(Nat.le_of_ble_eq_true rfl), (Nat.le_of_ble_eq_true rfl)⟩)) (saFr (M := mX2_init) (kf := 0) (kR_n (M := mX2_init) dX2_init_4 rfl) (kNA (M := mX2_init) (kC_bi (M := mX2_init) (v := 12) dX2_init_5 kc_bipush_12) dX2_init_7 (Nat.le_of_ble_eq_true rfl) acI) dX2_init_9 clX2 lkX2_9 (by decide) rfl rfl rfl (fun _ => rfl) (fun _ => rfl)))
def fX2_init : zFV := fun vs h => (bX2_init vs h).bind fun r => match r with
  | .inl q => some q.2
  | .inr _ => none
theorem ctX2_init : CtV yX2_init cX2_init 1 1 1 12 12 1 fX2_init := ctN mdX2_init (Nat.le_of_ble_eq_true rfl) rfl dX2_init_12 kX2_init
/-! TrophyPlates$Name.add -/
theorem mdX2_add : zMd yX2_add cX2_add 2 (none) 1 := ⟨cdX2_add, iniX2, ⟨by decide +kernel, by decide +kernel⟩, by decide +kernel, by decide +kernel⟩
def bX2_add : zSS := sSeq (sIf (bCmp o_lt (eF 2 1 (rL 0)) (eC 12)) (sSeq (sA (rF 2 0 (rL 0)) (eF 2 1 (rL 0)) (eL 1)) (sFa (· + ·) 2 1 (rL 0) (eC 1))) sNop) (sRv)
abbrev mX2_add : zM := (cX2_add, RX2, 2, none, { frames := 0, cells := 0, slots := 0, locals := 0 }, false)
set_option maxHeartbeats 400000 in
set_option maxRecDepth 20000 in
theorem kX2_add : ssOk mX2_add 0 30 bX2_add := (kSeq (M := mX2_add) (kIf (M := mX2_add) (kB_ltF (M := mX2_add) (kF (M := mX2_add) (kf := 1) (kR_n (M := mX2_add) dX2_add_0 rfl) dX2_add_1 clX2 lkX2_15 (by decide)) (kC_bi (M := mX2_add) (v := 12) dX2_add_4 kc_bipush_12) dX2_add_6 (by decide) rfl) (kSeq (M := mX2_add) (kPA (M := mX2_add) (kRF (M := mX2_add) (kf := 0) (kR_n (M := mX2_add) dX2_add_9 rfl) dX2_add_10 clX2 lkX2_9 (by decide)) (kF (M := mX2_add) (kf := 1) (kR_n (M := mX2_add) dX2_add_13 rfl) dX2_add_14 clX2 lkX2_15 (by decide)) (kL_n (M := mX2_add) dX2_add_17 rfl) dX2_add_18) (kPFaddsub (M := mX2_add) (kf := 1) (Or.inl ⟨rfl, rfl⟩) (kR_n (M := mX2_add) dX2_add_19 rfl) dX2_add_20 dX2_add_21 (kC_ic (M := mX2_add) (v := 1) dX2_add_24 kc_iconst_1) dX2_add_25 dX2_add_26 clX2 lkX2_15 lkX2_15 (by decide) rfl rfl)) (kNop (M := mX2_add))) (kRv (M := mX2_add) dX2_add_29))
def fX2_add : zFV := mV bX2_add
theorem ctX2_add : CtV yX2_add cX2_add 2 0 0 0 0 2 fX2_add := ctV mdX2_add (Nat.le_of_ble_eq_true rfl) kX2_add
/-! TrophyPlates$Name.copyFrom -/
theorem mdX2_copyFrom : zMd yX2_copyFrom cX2_copyFrom 3 (none) 1 := ⟨cdX2_copyFrom, iniX2, ⟨by decide +kernel, by decide +kernel⟩, by decide +kernel, by decide +kernel⟩
def bX2_copyFrom : zSS := sSeq (sF 2 1 (rL 0) (eF 2 1 (rL 1))) (sSeq (sBlk (sSeq (sLi 2 (eC 0)) (sW 4000 (bCmp o_lt (eL 2) (eC 12)) (sSeq (sA (rF 2 0 (rL 0)) (eL 2) (eA (rF 2 0 (rL 1)) (eL 2))) (sInc 2 1))))) (sRv))
abbrev mX2_copyFrom : zM := (cX2_copyFrom, RX2, 3, none, { frames := 0, cells := 0, slots := 0, locals := 0 }, false)
set_option maxHeartbeats 400000 in
set_option maxRecDepth 20000 in
theorem kX2_copyFrom : ssOk mX2_copyFrom 0 35 bX2_copyFrom := (kSeq (M := mX2_copyFrom) (kPF (M := mX2_copyFrom) (kf := 1) (kR_n (M := mX2_copyFrom) dX2_copyFrom_0 rfl) (kF (M := mX2_copyFrom) (kf := 1) (kR_n (M := mX2_copyFrom) dX2_copyFrom_1 rfl) dX2_copyFrom_2 clX2 lkX2_15 (by decide)) dX2_copyFrom_5 clX2 lkX2_15 (by decide) rfl rfl) (kSeq (M := mX2_copyFrom) (kBlk (M := mX2_copyFrom) (kSeq (M := mX2_copyFrom) (kSi_n (M := mX2_copyFrom) (kC_ic (M := mX2_copyFrom) (v := 0) dX2_copyFrom_8 kc_iconst_0) dX2_copyFrom_9 rfl (by decide)) (kWn (M := mX2_copyFrom) (N := 4000) (kB_ltF (M := mX2_copyFrom) (kL_n (M := mX2_copyFrom) dX2_copyFrom_10 rfl) (kC_bi (M := mX2_copyFrom) (v := 12) dX2_copyFrom_11 kc_bipush_12) dX2_copyFrom_13 (by decide) rfl) (kGo (M := mX2_copyFrom) (kSeq (M := mX2_copyFrom) (kPA (M := mX2_copyFrom) (kRF (M := mX2_copyFrom) (kf := 0) (kR_n (M := mX2_copyFrom) dX2_copyFrom_16 rfl) dX2_copyFrom_17 clX2 lkX2_9 (by decide)) (kL_n (M := mX2_copyFrom) dX2_copyFrom_20 rfl) (kA (M := mX2_copyFrom) (kRF (M := mX2_copyFrom) (kf := 0) (kR_n (M := mX2_copyFrom) dX2_copyFrom_21 rfl) dX2_copyFrom_22 clX2 lkX2_9 (by decide)) (kL_n (M := mX2_copyFrom) dX2_copyFrom_25 rfl) dX2_copyFrom_26) dX2_copyFrom_27) (kInc (M := mX2_copyFrom) (v := 1) dX2_copyFrom_28 kc_iconst_1 (by decide))) dX2_copyFrom_31 (by decide))))) (kRv (M := mX2_copyFrom) dX2_copyFrom_34)))
def fX2_copyFrom : zFV := mV bX2_copyFrom
theorem ctX2_copyFrom : CtV yX2_copyFrom cX2_copyFrom 3 0 0 0 0 2 fX2_copyFrom := ctV mdX2_copyFrom (Nat.le_of_ble_eq_true rfl) kX2_copyFrom
/-! TrophyPlates$Name.widthOf -/
theorem mdX2_widthOf : zMd yX2_widthOf cX2_widthOf 1 (some .int) 1 := ⟨cdX2_widthOf, iniX2, ⟨by decide +kernel, by decide +kernel⟩, by decide +kernel, by decide +kernel⟩
def bX2_widthOf : zSS := sSw 102 119 (eL 0) [(sRi (eC 2)), (sRi (eC 4)), (sRi (eC 4)), (sRi (eC 2)), (sRi (eC 2)), (sRi (eC 4)), (sRi (eC 2)), (sRi (eC 5)), (sRi (eC 4)), (sRi (eC 4)), (sRi (eC 4)), (sRi (eC 4)), (sRi (eC 2)), (sRi (eC 4)), (sRi (eC 2)), (sRi (eC 4)), (sRi (eC 4)), (sRi (eC 5))] (sRi (eC 4))
abbrev mX2_widthOf : zM := (cX2_widthOf, RX2, 1, some .int, { frames := 0, cells := 0, slots := 0, locals := 0 }, false)
set_option maxHeartbeats 400000 in
set_option maxRecDepth 20000 in
theorem kX2_widthOf : ssOk mX2_widthOf 0 94 bX2_widthOf := (kSw (M := mX2_widthOf) (kL_n (M := mX2_widthOf) dX2_widthOf_0 rfl) dX2_widthOf_1 (by decide) (pD := 92) (kRi (M := mX2_widthOf) (kC_ic (M := mX2_widthOf) (v := 4) dX2_widthOf_92 kc_iconst_4) dX2_widthOf_93) (⟨⟨88, by decide, (kRi (M := mX2_widthOf) (kC_ic (M := mX2_widthOf) (v := 2) dX2_widthOf_88 kc_iconst_2) dX2_widthOf_89)⟩, ⟨⟨92, by decide, (kRi (M := mX2_widthOf) (kC_ic (M := mX2_widthOf) (v := 4) dX2_widthOf_92 kc_iconst_4) dX2_widthOf_93)⟩, ⟨⟨92, by decide, (kRi (M := mX2_widthOf) (kC_ic (M := mX2_widthOf) (v := 4) dX2_widthOf_92 kc_iconst_4) dX2_widthOf_93)⟩, ⟨⟨88, by decide, (kRi (M := mX2_widthOf) (kC_ic (M := mX2_widthOf) (v := 2) dX2_widthOf_88 kc_iconst_2) dX2_widthOf_89)⟩, ⟨⟨88, by decide, (kRi (M := mX2_widthOf) (kC_ic (M := mX2_widthOf) (v := 2) dX2_widthOf_88 kc_iconst_2) dX2_widthOf_89)⟩, ⟨⟨92, by decide, (kRi (M := mX2_widthOf) (kC_ic (M := mX2_widthOf) (v := 4) dX2_widthOf_92 kc_iconst_4) dX2_widthOf_93)⟩, ⟨⟨88, by decide, (kRi (M := mX2_widthOf) (kC_ic (M := mX2_widthOf) (v := 2) dX2_widthOf_88 kc_iconst_2) dX2_widthOf_89)⟩, ⟨⟨90, by decide, (kRi (M := mX2_widthOf) (kC_ic (M := mX2_widthOf) (v := 5) dX2_widthOf_90 kc_iconst_5) dX2_widthOf_91)⟩, ⟨⟨92, by decide, (kRi (M := mX2_widthOf) (kC_ic (M := mX2_widthOf) (v := 4) dX2_widthOf_92 kc_iconst_4) dX2_widthOf_93)⟩, ⟨⟨92, by decide, (kRi (M := mX2_widthOf) (kC_ic (M := mX2_widthOf) (v := 4) dX2_widthOf_92 kc_iconst_4) dX2_widthOf_93)⟩, ⟨⟨92, by decide, (kRi (M := mX2_widthOf) (kC_ic (M := mX2_widthOf) (v := 4) dX2_widthOf_92 kc_iconst_4) dX2_widthOf_93)⟩, ⟨⟨92, by decide, (kRi (M := mX2_widthOf) (kC_ic (M := mX2_widthOf) (v := 4) dX2_widthOf_92 kc_iconst_4) dX2_widthOf_93)⟩, ⟨⟨88, by decide, (kRi (M := mX2_widthOf) (kC_ic (M := mX2_widthOf) (v := 2) dX2_widthOf_88 kc_iconst_2) dX2_widthOf_89)⟩, ⟨⟨92, by decide, (kRi (M := mX2_widthOf) (kC_ic (M := mX2_widthOf) (v := 4) dX2_widthOf_92 kc_iconst_4) dX2_widthOf_93)⟩, ⟨⟨88, by decide, (kRi (M := mX2_widthOf) (kC_ic (M := mX2_widthOf) (v := 2) dX2_widthOf_88 kc_iconst_2) dX2_widthOf_89)⟩, ⟨⟨92, by decide, (kRi (M := mX2_widthOf) (kC_ic (M := mX2_widthOf) (v := 4) dX2_widthOf_92 kc_iconst_4) dX2_widthOf_93)⟩, ⟨⟨92, by decide, (kRi (M := mX2_widthOf) (kC_ic (M := mX2_widthOf) (v := 4) dX2_widthOf_92 kc_iconst_4) dX2_widthOf_93)⟩, ⟨⟨90, by decide, (kRi (M := mX2_widthOf) (kC_ic (M := mX2_widthOf) (v := 5) dX2_widthOf_90 kc_iconst_5) dX2_widthOf_91)⟩, trivial⟩⟩⟩⟩⟩⟩⟩⟩⟩⟩⟩⟩⟩⟩⟩⟩⟩⟩) (by decide))
def fX2_widthOf : zFI := mI bX2_widthOf
theorem ctX2_widthOf : CtI yX2_widthOf cX2_widthOf 1 .int 0 0 1 fX2_widthOf := ctI mdX2_widthOf (Nat.le_of_ble_eq_true rfl) kX2_widthOf
/-! TrophyPlates$Name.lengthIn -/
theorem mdX2_lengthIn : zMd yX2_lengthIn cX2_lengthIn 5 (some .int) 1 := ⟨cdX2_lengthIn, iniX2, ⟨by decide +kernel, by decide +kernel⟩, by decide +kernel, by decide +kernel⟩
def bX2_lengthIn : zSS := sSeq (sIf (bZ z_eq (eF 2 1 (rL 0))) (sRi (eC 0)) sNop) (sSeq (sLi 2 (eOp (· - ·) (eF 2 1 (rL 0)) (eC 1))) (sSeq (sLi 3 (eL 2)) (sSeq (sBlk (sSeq (sLi 4 (eC 0)) (sW 4000 (bCmp o_lt (eL 4) (eF 2 1 (rL 0))) (sSeq (sLi 3 (eOp (· + ·) (eL 3) (eCS (aI (eA (rF 2 0 (rL 0)) (eL 4)) (aN)) fX2_widthOf))) (sInc 4 1))))) (sRi (eOp (· * ·) (eL 3) (eL 1))))))
abbrev mX2_lengthIn : zM := (cX2_lengthIn, RX2, 5, some .int, { frames := 1, cells := 0, slots := 0, locals := 20 }, false)
set_option maxHeartbeats 400000 in
set_option maxRecDepth 20000 in
theorem kX2_lengthIn : ssOk mX2_lengthIn 0 53 bX2_lengthIn := (kSeq (M := mX2_lengthIn) (kIf (M := mX2_lengthIn) (kZ_eqF (M := mX2_lengthIn) (kF (M := mX2_lengthIn) (kf := 1) (kR_n (M := mX2_lengthIn) dX2_lengthIn_0 rfl) dX2_lengthIn_1 clX2 lkX2_15 (by decide)) dX2_lengthIn_4 (by decide) rfl) (kRi (M := mX2_lengthIn) (kC_ic (M := mX2_lengthIn) (v := 0) dX2_lengthIn_7 kc_iconst_0) dX2_lengthIn_8) (kNop (M := mX2_lengthIn))) (kSeq (M := mX2_lengthIn) (kSi_n (M := mX2_lengthIn) (kSub (M := mX2_lengthIn) (kF (M := mX2_lengthIn) (kf := 1) (kR_n (M := mX2_lengthIn) dX2_lengthIn_9 rfl) dX2_lengthIn_10 clX2 lkX2_15 (by decide)) (kC_ic (M := mX2_lengthIn) (v := 1) dX2_lengthIn_13 kc_iconst_1) dX2_lengthIn_14) dX2_lengthIn_15 rfl (by decide)) (kSeq (M := mX2_lengthIn) (kSi_n (M := mX2_lengthIn) (kL_n (M := mX2_lengthIn) dX2_lengthIn_16 rfl) dX2_lengthIn_17 rfl (by decide)) (kSeq (M := mX2_lengthIn) (kBlk (M := mX2_lengthIn) (kSeq (M := mX2_lengthIn) (kSi (M := mX2_lengthIn) (kC_ic (M := mX2_lengthIn) (v := 0) dX2_lengthIn_18 kc_iconst_0) dX2_lengthIn_19 (by decide)) (kWn (M := mX2_lengthIn) (N := 4000) (kB_ltF (M := mX2_lengthIn) (kL (M := mX2_lengthIn) dX2_lengthIn_21) (kF (M := mX2_lengthIn) (kf := 1) (kR_n (M := mX2_lengthIn) dX2_lengthIn_23 rfl) dX2_lengthIn_24 clX2 lkX2_15 (by decide)) dX2_lengthIn_27 (by decide) rfl) (kGo (M := mX2_lengthIn) (kSeq (M := mX2_lengthIn) (kSi_n (M := mX2_lengthIn) (kAdd (M := mX2_lengthIn) (kL_n (M := mX2_lengthIn) dX2_lengthIn_30 rfl) (kCS (M := mX2_lengthIn) (kaI (M := mX2_lengthIn) (kA (M := mX2_lengthIn) (kRF (M := mX2_lengthIn) (kf := 0) (kR_n (M := mX2_lengthIn) dX2_lengthIn_31 rfl) dX2_lengthIn_32 clX2 lkX2_9 (by decide)) (kL (M := mX2_lengthIn) dX2_lengthIn_35) dX2_lengthIn_37) (kaN (M := mX2_lengthIn))) dX2_lengthIn_38 ctX2_widthOf mdX2_widthOf stX2_widthOf mkX2_19 ⟨(Nat.le_of_ble_eq_true rfl), (Nat.le_of_ble_eq_true rfl)⟩ (Nat.le_of_ble_eq_true rfl)) dX2_lengthIn_41) dX2_lengthIn_42 rfl (by decide)) (kInc (M := mX2_lengthIn) (v := 1) dX2_lengthIn_43 kc_iconst_1 (by decide))) dX2_lengthIn_46 (by decide))))) (kRi (M := mX2_lengthIn) (kMul (M := mX2_lengthIn) (kL_n (M := mX2_lengthIn) dX2_lengthIn_49 rfl) (kL_n (M := mX2_lengthIn) dX2_lengthIn_50 rfl) dX2_lengthIn_51) dX2_lengthIn_52)))))
def fX2_lengthIn : zFI := mI bX2_lengthIn
theorem ctX2_lengthIn : CtI yX2_lengthIn cX2_lengthIn 5 .int 1 20 2 fX2_lengthIn := ctI mdX2_lengthIn (Nat.le_of_ble_eq_true rfl) kX2_lengthIn
end
section
/-! TrophyPlates$Plate.<init> -/
theorem mdX4_init : zMd yX4_init cX4_init 1 (none) 0 := ⟨cdX4_init, iniX4, ⟨by decide +kernel, by decide +kernel⟩, by decide +kernel, by decide +kernel⟩
def bX4_init : zSS := (fun en h => (rL 0 en h).map fun _ => .inl (en, h))
abbrev mX4_init : zM := (cX4_init, RX4, 1, none, { frames := 1, cells := 0, slots := 0, locals := 12 }, true)
set_option maxHeartbeats 400000 in
set_option maxRecDepth 20000 in
theorem kX4_init : saOk mX4_init 0 4 0 0 bX4_init := (sa_ss (M := mX4_init) (saInit (M := mX4_init) dX4_init_0 dX4_init_1 okX4_3 imObj cdObj ⟨(Nat.le_of_ble_eq_true rfl), (Nat.le_of_ble_eq_true rfl)⟩))
def fX4_init : zFV := fun vs h => (bX4_init vs h).bind fun r => match r with
  | .inl q => some q.2
  | .inr _ => none
theorem ctX4_init : CtV yX4_init cX4_init 1 1 0 0 12 1 fX4_init := ctN mdX4_init (Nat.le_of_ble_eq_true rfl) rfl dX4_init_4 kX4_init
/-! TrophyPlates$Plate.copyFrom -/
theorem mdX4_copyFrom : zMd yX4_copyFrom cX4_copyFrom 2 (none) 1 := ⟨cdX4_copyFrom, iniX4, ⟨by decide +kernel, by decide +kernel⟩, by decide +kernel, by decide +kernel⟩
def bX4_copyFrom : zSS := sSeq (sF 4 0 (rL 0) (eF 4 0 (rL 1))) (sSeq (sF 4 1 (rL 0) (eF 4 1 (rL 1))) (sSeq (sF 4 2 (rL 0) (eF 4 2 (rL 1))) (sSeq (sF 4 3 (rL 0) (eF 4 3 (rL 1))) (sSeq (sF 4 4 (rL 0) (eF 4 4 (rL 1))) (sSeq (sF 4 5 (rL 0) (eF 4 5 (rL 1))) (sSeq (sF 4 6 (rL 0) (eF 4 6 (rL 1))) (sRv)))))))
abbrev mX4_copyFrom : zM := (cX4_copyFrom, RX4, 2, none, { frames := 0, cells := 0, slots := 0, locals := 0 }, false)
set_option maxHeartbeats 400000 in
set_option maxRecDepth 20000 in
theorem kX4_copyFrom : ssOk mX4_copyFrom 0 57 bX4_copyFrom := (kSeq (M := mX4_copyFrom) (kPF (M := mX4_copyFrom) (kf := 0) (kR_n (M := mX4_copyFrom) dX4_copyFrom_0 rfl) (kF (M := mX4_copyFrom) (kf := 0) (kR_n (M := mX4_copyFrom) dX4_copyFrom_1 rfl) dX4_copyFrom_2 clX4 lkX4_9 (by decide)) dX4_copyFrom_5 clX4 lkX4_9 (by decide) rfl rfl) (kSeq (M := mX4_copyFrom) (kPF (M := mX4_copyFrom) (kf := 1) (kR_n (M := mX4_copyFrom) dX4_copyFrom_8 rfl) (kF (M := mX4_copyFrom) (kf := 1) (kR_n (M := mX4_copyFrom) dX4_copyFrom_9 rfl) dX4_copyFrom_10 clX4 lkX4_15 (by decide)) dX4_copyFrom_13 clX4 lkX4_15 (by decide) rfl rfl) (kSeq (M := mX4_copyFrom) (kPF (M := mX4_copyFrom) (kf := 2) (kR_n (M := mX4_copyFrom) dX4_copyFrom_16 rfl) (kF (M := mX4_copyFrom) (kf := 2) (kR_n (M := mX4_copyFrom) dX4_copyFrom_17 rfl) dX4_copyFrom_18 clX4 lkX4_27 (by decide)) dX4_copyFrom_21 clX4 lkX4_27 (by decide) rfl rfl) (kSeq (M := mX4_copyFrom) (kPF (M := mX4_copyFrom) (kf := 3) (kR_n (M := mX4_copyFrom) dX4_copyFrom_24 rfl) (kF (M := mX4_copyFrom) (kf := 3) (kR_n (M := mX4_copyFrom) dX4_copyFrom_25 rfl) dX4_copyFrom_26 clX4 lkX4_18 (by decide)) dX4_copyFrom_29 clX4 lkX4_18 (by decide) rfl rfl) (kSeq (M := mX4_copyFrom) (kPF (M := mX4_copyFrom) (kf := 4) (kR_n (M := mX4_copyFrom) dX4_copyFrom_32 rfl) (kF (M := mX4_copyFrom) (kf := 4) (kR_n (M := mX4_copyFrom) dX4_copyFrom_33 rfl) dX4_copyFrom_34 clX4 lkX4_21 (by decide)) dX4_copyFrom_37 clX4 lkX4_21 (by decide) rfl rfl) (kSeq (M := mX4_copyFrom) (kPF (M := mX4_copyFrom) (kf := 5) (kR_n (M := mX4_copyFrom) dX4_copyFrom_40 rfl) (kF (M := mX4_copyFrom) (kf := 5) (kR_n (M := mX4_copyFrom) dX4_copyFrom_41 rfl) dX4_copyFrom_42 clX4 lkX4_30 (by decide)) dX4_copyFrom_45 clX4 lkX4_30 (by decide) rfl rfl) (kSeq (M := mX4_copyFrom) (kPF (M := mX4_copyFrom) (kf := 6) (kR_n (M := mX4_copyFrom) dX4_copyFrom_48 rfl) (kF (M := mX4_copyFrom) (kf := 6) (kR_n (M := mX4_copyFrom) dX4_copyFrom_49 rfl) dX4_copyFrom_50 clX4 lkX4_33 (by decide)) dX4_copyFrom_53 clX4 lkX4_33 (by decide) rfl rfl) (kRv (M := mX4_copyFrom) dX4_copyFrom_56))))))))
def fX4_copyFrom : zFV := mV bX4_copyFrom
theorem ctX4_copyFrom : CtV yX4_copyFrom cX4_copyFrom 2 0 0 0 0 2 fX4_copyFrom := ctV mdX4_copyFrom (Nat.le_of_ble_eq_true rfl) kX4_copyFrom
/-! TrophyPlates$Plate.putIntoDrawer -/
theorem mdX4_putIntoDrawer : zMd yX4_putIntoDrawer cX4_putIntoDrawer 1 (none) 0 := ⟨cdX4_putIntoDrawer, iniX4, ⟨by decide +kernel, by decide +kernel⟩, by decide +kernel, by decide +kernel⟩
def bX4_putIntoDrawer : zSS := sSeq (sF 4 2 (rL 0) (eC 0)) (sSeq (sF 4 5 (rL 0) (eC (-9))) (sSeq (sF 4 6 (rL 0) (eC (-9))) (sRv)))
abbrev mX4_putIntoDrawer : zM := (cX4_putIntoDrawer, RX4, 1, none, { frames := 0, cells := 0, slots := 0, locals := 0 }, false)
set_option maxHeartbeats 400000 in
set_option maxRecDepth 20000 in
theorem kX4_putIntoDrawer : ssOk mX4_putIntoDrawer 0 18 bX4_putIntoDrawer := (kSeq (M := mX4_putIntoDrawer) (kPF (M := mX4_putIntoDrawer) (kf := 2) (kR_n (M := mX4_putIntoDrawer) dX4_putIntoDrawer_0 rfl) (kC_ic (M := mX4_putIntoDrawer) (v := 0) dX4_putIntoDrawer_1 kc_iconst_0) dX4_putIntoDrawer_2 clX4 lkX4_27 (by decide) rfl rfl) (kSeq (M := mX4_putIntoDrawer) (kPF (M := mX4_putIntoDrawer) (kf := 5) (kR_n (M := mX4_putIntoDrawer) dX4_putIntoDrawer_5 rfl) (kC_bi (M := mX4_putIntoDrawer) (v := (-9)) dX4_putIntoDrawer_6 kc_bipush_m9) dX4_putIntoDrawer_8 clX4 lkX4_30 (by decide) rfl rfl) (kSeq (M := mX4_putIntoDrawer) (kPF (M := mX4_putIntoDrawer) (kf := 6) (kR_n (M := mX4_putIntoDrawer) dX4_putIntoDrawer_11 rfl) (kC_bi (M := mX4_putIntoDrawer) (v := (-9)) dX4_putIntoDrawer_12 kc_bipush_m9) dX4_putIntoDrawer_14 clX4 lkX4_33 (by decide) rfl rfl) (kRv (M := mX4_putIntoDrawer) dX4_putIntoDrawer_17))))
def fX4_putIntoDrawer : zFV := mV bX4_putIntoDrawer
theorem ctX4_putIntoDrawer : CtV yX4_putIntoDrawer cX4_putIntoDrawer 1 0 0 0 0 1 fX4_putIntoDrawer := ctV mdX4_putIntoDrawer (Nat.le_of_ble_eq_true rfl) kX4_putIntoDrawer
/-! TrophyPlates$Plate.fixOn -/
theorem mdX4_fixOn : zMd yX4_fixOn cX4_fixOn 3 (none) 2 := ⟨cdX4_fixOn, iniX4, ⟨by decide +kernel, by decide +kernel⟩, by decide +kernel, by decide +kernel⟩
def bX4_fixOn : zSS := sSeq (sF 4 2 (rL 0) (eC 2)) (sSeq (sF 4 5 (rL 0) (eL 1)) (sSeq (sF 4 6 (rL 0) (eL 2)) (sRv)))
abbrev mX4_fixOn : zM := (cX4_fixOn, RX4, 3, none, { frames := 0, cells := 0, slots := 0, locals := 0 }, false)
set_option maxHeartbeats 400000 in
set_option maxRecDepth 20000 in
theorem kX4_fixOn : ssOk mX4_fixOn 0 16 bX4_fixOn := (kSeq (M := mX4_fixOn) (kPF (M := mX4_fixOn) (kf := 2) (kR_n (M := mX4_fixOn) dX4_fixOn_0 rfl) (kC_ic (M := mX4_fixOn) (v := 2) dX4_fixOn_1 kc_iconst_2) dX4_fixOn_2 clX4 lkX4_27 (by decide) rfl rfl) (kSeq (M := mX4_fixOn) (kPF (M := mX4_fixOn) (kf := 5) (kR_n (M := mX4_fixOn) dX4_fixOn_5 rfl) (kL_n (M := mX4_fixOn) dX4_fixOn_6 rfl) dX4_fixOn_7 clX4 lkX4_30 (by decide) rfl rfl) (kSeq (M := mX4_fixOn) (kPF (M := mX4_fixOn) (kf := 6) (kR_n (M := mX4_fixOn) dX4_fixOn_10 rfl) (kL_n (M := mX4_fixOn) dX4_fixOn_11 rfl) dX4_fixOn_12 clX4 lkX4_33 (by decide) rfl rfl) (kRv (M := mX4_fixOn) dX4_fixOn_15))))
def fX4_fixOn : zFV := mV bX4_fixOn
theorem ctX4_fixOn : CtV yX4_fixOn cX4_fixOn 3 0 0 0 0 3 fX4_fixOn := ctV mdX4_fixOn (Nat.le_of_ble_eq_true rfl) kX4_fixOn
/-! TrophyPlates$Plate.depthOf -/
theorem mdX4_depthOf : zMd yX4_depthOf cX4_depthOf 2 (some .int) 1 := ⟨cdX4_depthOf, iniX4, ⟨by decide +kernel, by decide +kernel⟩, by decide +kernel, by decide +kernel⟩
def bX4_depthOf : zSS := sRi (eT (bZ z_eq (eL 1)) (eF 4 3 (rL 0)) (eF 4 4 (rL 0)))
abbrev mX4_depthOf : zM := (cX4_depthOf, RX4, 2, some .int, { frames := 0, cells := 0, slots := 0, locals := 0 }, false)
set_option maxHeartbeats 400000 in
set_option maxRecDepth 20000 in
theorem kX4_depthOf : ssOk mX4_depthOf 0 16 bX4_depthOf := (kRi (M := mX4_depthOf) (kT (M := mX4_depthOf) (kZ_eqF (M := mX4_depthOf) (kL_n (M := mX4_depthOf) dX4_depthOf_0 rfl) dX4_depthOf_1 (by decide) rfl) (kF (M := mX4_depthOf) (kf := 3) (kR_n (M := mX4_depthOf) dX4_depthOf_4 rfl) dX4_depthOf_5 clX4 lkX4_18 (by decide)) dX4_depthOf_8 (by decide) (kF (M := mX4_depthOf) (kf := 4) (kR_n (M := mX4_depthOf) dX4_depthOf_11 rfl) dX4_depthOf_12 clX4 lkX4_21 (by decide))) dX4_depthOf_15)
def fX4_depthOf : zFI := mI bX4_depthOf
theorem ctX4_depthOf : CtI yX4_depthOf cX4_depthOf 2 .int 0 0 2 fX4_depthOf := ctI mdX4_depthOf (Nat.le_of_ble_eq_true rfl) kX4_depthOf
/-! TrophyPlates$Plate.isBlank -/
theorem mdX4_isBlank : zMd yX4_isBlank cX4_isBlank 2 (some .boolean) 1 := ⟨cdX4_isBlank, iniX4, ⟨by decide +kernel, by decide +kernel⟩, by decide +kernel, by decide +kernel⟩
def bX4_isBlank : zSS := sRi (eB (bZ z_eq (eCV 4 (rL 0) (aI (eL 1) (aN)) fX4_depthOf)))
abbrev mX4_isBlank : zM := (cX4_isBlank, RX4, 2, some .boolean, { frames := 1, cells := 0, slots := 0, locals := 21 }, false)
set_option maxHeartbeats 400000 in
set_option maxRecDepth 20000 in
theorem kX4_isBlank : ssOk mX4_isBlank 0 14 bX4_isBlank := (kRi (M := mX4_isBlank) (kEB (M := mX4_isBlank) (kZ_eqF (M := mX4_isBlank) (kCV (M := mX4_isBlank) (ci := 4) (kR_n (M := mX4_isBlank) dX4_isBlank_0 rfl) (kaI (M := mX4_isBlank) (kL_n (M := mX4_isBlank) dX4_isBlank_1 rfl) (kaN (M := mX4_isBlank))) dX4_isBlank_2 ctX4_depthOf mdX4_depthOf imX4_depthOf seX4_depthOf clX4 mkX4_36 ⟨(Nat.le_of_ble_eq_true rfl), (Nat.le_of_ble_eq_true rfl)⟩ (Nat.le_of_ble_eq_true rfl)) dX4_isBlank_5 (by decide) rfl) dX4_isBlank_8 dX4_isBlank_9 (by decide) dX4_isBlank_12 rfl) dX4_isBlank_13)
def fX4_isBlank : zFI := mZ bX4_isBlank
theorem ctX4_isBlank : CtI yX4_isBlank cX4_isBlank 2 .boolean 1 21 2 fX4_isBlank := ctZ mdX4_isBlank (Nat.le_of_ble_eq_true rfl) kX4_isBlank
/-! TrophyPlates$Plate.engrave -/
theorem mdX4_engrave : zMd yX4_engrave cX4_engrave 3 (none) 2 := ⟨cdX4_engrave, iniX4, ⟨by decide +kernel, by decide +kernel⟩, by decide +kernel, by decide +kernel⟩
def bX4_engrave : zSS := sSeq (sIf (bZ z_eq (eL 1)) (sF 4 3 (rL 0) (eL 2)) (sF 4 4 (rL 0) (eL 2))) (sRv)
abbrev mX4_engrave : zM := (cX4_engrave, RX4, 3, none, { frames := 0, cells := 0, slots := 0, locals := 0 }, false)
set_option maxHeartbeats 400000 in
set_option maxRecDepth 20000 in
theorem kX4_engrave : ssOk mX4_engrave 0 18 bX4_engrave := (kSeq (M := mX4_engrave) (kIf (M := mX4_engrave) (kZ_eqF (M := mX4_engrave) (kL_n (M := mX4_engrave) dX4_engrave_0 rfl) dX4_engrave_1 (by decide) rfl) (kGo (M := mX4_engrave) (kPF (M := mX4_engrave) (kf := 3) (kR_n (M := mX4_engrave) dX4_engrave_4 rfl) (kL_n (M := mX4_engrave) dX4_engrave_5 rfl) dX4_engrave_6 clX4 lkX4_18 (by decide) rfl rfl) dX4_engrave_9 (by decide)) (kPF (M := mX4_engrave) (kf := 4) (kR_n (M := mX4_engrave) dX4_engrave_12 rfl) (kL_n (M := mX4_engrave) dX4_engrave_13 rfl) dX4_engrave_14 clX4 lkX4_21 (by decide) rfl rfl)) (kRv (M := mX4_engrave) dX4_engrave_17))
def fX4_engrave : zFV := mV bX4_engrave
theorem ctX4_engrave : CtV yX4_engrave cX4_engrave 3 0 0 0 0 3 fX4_engrave := ctV mdX4_engrave (Nat.le_of_ble_eq_true rfl) kX4_engrave
/-! TrophyPlates$Plate.grindOff -/
theorem mdX4_grindOff : zMd yX4_grindOff cX4_grindOff 2 (none) 1 := ⟨cdX4_grindOff, iniX4, ⟨by decide +kernel, by decide +kernel⟩, by decide +kernel, by decide +kernel⟩
def bX4_grindOff : zSS := sSeq (sFa (· - ·) 4 1 (rL 0) (eOp (· + ·) (eCV 4 (rL 0) (aI (eL 1) (aN)) fX4_depthOf) (eC 1))) (sSeq (sCV 4 (rL 0) (aI (eL 1) (aI (eC 0) (aN))) fX4_engrave) (sRv))
abbrev mX4_grindOff : zM := (cX4_grindOff, RX4, 2, none, { frames := 1, cells := 0, slots := 0, locals := 22 }, false)
set_option maxHeartbeats 400000 in
set_option maxRecDepth 20000 in
theorem kX4_grindOff : ssOk mX4_grindOff 0 23 bX4_grindOff := (kSeq (M := mX4_grindOff) (kPFaddsub (M := mX4_grindOff) (kf := 1) (Or.inr ⟨rfl, rfl⟩) (kR_n (M := mX4_grindOff) dX4_grindOff_0 rfl) dX4_grindOff_1 dX4_grindOff_2 (kAdd (M := mX4_grindOff) (kCV (M := mX4_grindOff) (ci := 4) (kR_n (M := mX4_grindOff) dX4_grindOff_5 rfl) (kaI (M := mX4_grindOff) (kL_n (M := mX4_grindOff) dX4_grindOff_6 rfl) (kaN (M := mX4_grindOff))) dX4_grindOff_7 ctX4_depthOf mdX4_depthOf imX4_depthOf seX4_depthOf clX4 mkX4_36 ⟨(Nat.le_of_ble_eq_true rfl), (Nat.le_of_ble_eq_true rfl)⟩ (Nat.le_of_ble_eq_true rfl)) (kC_ic (M := mX4_grindOff) (v := 1) dX4_grindOff_10 kc_iconst_1) dX4_grindOff_11) dX4_grindOff_12 dX4_grindOff_13 clX4 lkX4_15 lkX4_15 (by decide) rfl rfl) (kSeq (M := mX4_grindOff) (ksCV (M := mX4_grindOff) (ci := 4) (kR_n (M := mX4_grindOff) dX4_grindOff_16 rfl) (kaI (M := mX4_grindOff) (kL_n (M := mX4_grindOff) dX4_grindOff_17 rfl) (kaI (M := mX4_grindOff) (kC_ic (M := mX4_grindOff) (v := 0) dX4_grindOff_18 kc_iconst_0) (kaN (M := mX4_grindOff)))) dX4_grindOff_19 ctX4_engrave mdX4_engrave imX4_engrave seX4_engrave clX4 mkX4_40 ⟨(Nat.le_of_ble_eq_true rfl), (Nat.le_of_ble_eq_true rfl)⟩) (kRv (M := mX4_grindOff) dX4_grindOff_22)))
def fX4_grindOff : zFV := mV bX4_grindOff
theorem ctX4_grindOff : CtV yX4_grindOff cX4_grindOff 2 1 0 0 22 2 fX4_grindOff := ctV mdX4_grindOff (Nat.le_of_ble_eq_true rfl) kX4_grindOff
/-! TrophyPlates$Plate.bears -/
theorem mdX4_bears : zMd yX4_bears cX4_bears 2 (some .boolean) 1 := ⟨cdX4_bears, iniX4, ⟨by decide +kernel, by decide +kernel⟩, by decide +kernel, by decide +kernel⟩
def bX4_bears : zSS := sRi (eB (bCmp o_ge (eOp (· - ·) (eOp (· - ·) (eOp (· - ·) (eF 4 1 (rL 0)) (eF 4 3 (rL 0))) (eF 4 4 (rL 0))) (eL 1)) (eC 2)))
abbrev mX4_bears : zM := (cX4_bears, RX4, 2, some .boolean, { frames := 0, cells := 0, slots := 0, locals := 0 }, false)
set_option maxHeartbeats 400000 in
set_option maxRecDepth 20000 in
theorem kX4_bears : ssOk mX4_bears 0 26 bX4_bears := (kRi (M := mX4_bears) (kEB (M := mX4_bears) (kB_geF (M := mX4_bears) (kSub (M := mX4_bears) (kSub (M := mX4_bears) (kSub (M := mX4_bears) (kF (M := mX4_bears) (kf := 1) (kR_n (M := mX4_bears) dX4_bears_0 rfl) dX4_bears_1 clX4 lkX4_15 (by decide)) (kF (M := mX4_bears) (kf := 3) (kR_n (M := mX4_bears) dX4_bears_4 rfl) dX4_bears_5 clX4 lkX4_18 (by decide)) dX4_bears_8) (kF (M := mX4_bears) (kf := 4) (kR_n (M := mX4_bears) dX4_bears_9 rfl) dX4_bears_10 clX4 lkX4_21 (by decide)) dX4_bears_13) (kL_n (M := mX4_bears) dX4_bears_14 rfl) dX4_bears_15) (kC_ic (M := mX4_bears) (v := 2) dX4_bears_16 kc_iconst_2) dX4_bears_17 (by decide) rfl) dX4_bears_20 dX4_bears_21 (by decide) dX4_bears_24 rfl) dX4_bears_25)
def fX4_bears : zFI := mZ bX4_bears
theorem ctX4_bears : CtI yX4_bears cX4_bears 2 .boolean 0 0 2 fX4_bears := ctZ mdX4_bears (Nat.le_of_ble_eq_true rfl) kX4_bears
/-! TrophyPlates$Plate.bearsOnceGround -/
theorem mdX4_bearsOnceGround : zMd yX4_bearsOnceGround cX4_bearsOnceGround 2 (some .boolean) 1 := ⟨cdX4_bearsOnceGround, iniX4, ⟨by decide +kernel, by decide +kernel⟩, by decide +kernel, by decide +kernel⟩
def bX4_bearsOnceGround : zSS := sRi (eCV 4 (rL 0) (aI (eOp (· + ·) (eL 1) (eC 1)) (aN)) fX4_bears)
abbrev mX4_bearsOnceGround : zM := (cX4_bearsOnceGround, RX4, 2, some .boolean, { frames := 1, cells := 0, slots := 0, locals := 21 }, false)
set_option maxHeartbeats 400000 in
set_option maxRecDepth 20000 in
theorem kX4_bearsOnceGround : ssOk mX4_bearsOnceGround 0 8 bX4_bearsOnceGround := (kRi (M := mX4_bearsOnceGround) (kCV (M := mX4_bearsOnceGround) (ci := 4) (kR_n (M := mX4_bearsOnceGround) dX4_bearsOnceGround_0 rfl) (kaI (M := mX4_bearsOnceGround) (kAdd (M := mX4_bearsOnceGround) (kL_n (M := mX4_bearsOnceGround) dX4_bearsOnceGround_1 rfl) (kC_ic (M := mX4_bearsOnceGround) (v := 1) dX4_bearsOnceGround_2 kc_iconst_1) dX4_bearsOnceGround_3) (kaN (M := mX4_bearsOnceGround))) dX4_bearsOnceGround_4 ctX4_bears mdX4_bears imX4_bears seX4_bears clX4 mkX4_44 ⟨(Nat.le_of_ble_eq_true rfl), (Nat.le_of_ble_eq_true rfl)⟩ (Nat.le_of_ble_eq_true rfl)) dX4_bearsOnceGround_7)
def fX4_bearsOnceGround : zFI := mZ bX4_bearsOnceGround
theorem ctX4_bearsOnceGround : CtI yX4_bearsOnceGround cX4_bearsOnceGround 2 .boolean 1 21 2 fX4_bearsOnceGround := ctZ mdX4_bearsOnceGround (Nat.le_of_ble_eq_true rfl) kX4_bearsOnceGround
/-! TrophyPlates$Plate.isReady -/
theorem mdX4_isReady : zMd yX4_isReady cX4_isReady 3 (some .boolean) 2 := ⟨cdX4_isReady, iniX4, ⟨by decide +kernel, by decide +kernel⟩, by decide +kernel, by decide +kernel⟩
def bX4_isReady : zSS := sRi (eB (bAnd (bZ z_ne (eCV 4 (rL 0) (aI (eL 1) (aN)) fX4_isBlank)) (bZ z_ne (eCV 4 (rL 0) (aI (eL 2) (aN)) fX4_bears))))
abbrev mX4_isReady : zM := (cX4_isReady, RX4, 3, some .boolean, { frames := 2, cells := 0, slots := 0, locals := 42 }, false)
set_option maxHeartbeats 400000 in
set_option maxRecDepth 20000 in
theorem kX4_isReady : ssOk mX4_isReady 0 22 bX4_isReady := (kRi (M := mX4_isReady) (kEB (M := mX4_isReady) (kBand (M := mX4_isReady) (kZ_neF (M := mX4_isReady) (kCV (M := mX4_isReady) (ci := 4) (kR_n (M := mX4_isReady) dX4_isReady_0 rfl) (kaI (M := mX4_isReady) (kL_n (M := mX4_isReady) dX4_isReady_1 rfl) (kaN (M := mX4_isReady))) dX4_isReady_2 ctX4_isBlank mdX4_isBlank imX4_isBlank seX4_isBlank clX4 mkX4_48 ⟨(Nat.le_of_ble_eq_true rfl), (Nat.le_of_ble_eq_true rfl)⟩ (Nat.le_of_ble_eq_true rfl)) dX4_isReady_5 (by decide) rfl) (kZ_neF (M := mX4_isReady) (kCV (M := mX4_isReady) (ci := 4) (kR_n (M := mX4_isReady) dX4_isReady_8 rfl) (kaI (M := mX4_isReady) (kL_n (M := mX4_isReady) dX4_isReady_9 rfl) (kaN (M := mX4_isReady))) dX4_isReady_10 ctX4_bears mdX4_bears imX4_bears seX4_bears clX4 mkX4_44 ⟨(Nat.le_of_ble_eq_true rfl), (Nat.le_of_ble_eq_true rfl)⟩ (Nat.le_of_ble_eq_true rfl)) dX4_isReady_13 (by decide) rfl)) dX4_isReady_16 dX4_isReady_17 (by decide) dX4_isReady_20 rfl) dX4_isReady_21)
def fX4_isReady : zFI := mZ bX4_isReady
theorem ctX4_isReady : CtI yX4_isReady cX4_isReady 3 .boolean 2 42 3 fX4_isReady := ctZ mdX4_isReady (Nat.le_of_ble_eq_true rfl) kX4_isReady
/-! TrophyPlates$Plate.canBeGround -/
theorem mdX4_canBeGround : zMd yX4_canBeGround cX4_canBeGround 3 (some .boolean) 2 := ⟨cdX4_canBeGround, iniX4, ⟨by decide +kernel, by decide +kernel⟩, by decide +kernel, by decide +kernel⟩
def bX4_canBeGround : zSS := sRi (eB (bAnd (bNot (bZ z_ne (eCV 4 (rL 0) (aI (eL 1) (aN)) fX4_isBlank))) (bZ z_ne (eCV 4 (rL 0) (aI (eL 2) (aN)) fX4_bearsOnceGround))))
abbrev mX4_canBeGround : zM := (cX4_canBeGround, RX4, 3, some .boolean, { frames := 2, cells := 0, slots := 0, locals := 42 }, false)
set_option maxHeartbeats 400000 in
set_option maxRecDepth 20000 in
theorem kX4_canBeGround : ssOk mX4_canBeGround 0 22 bX4_canBeGround := (kRi (M := mX4_canBeGround) (kEB (M := mX4_canBeGround) (kBand (M := mX4_canBeGround) (kBnot (M := mX4_canBeGround) (kZ_neT (M := mX4_canBeGround) (kCV (M := mX4_canBeGround) (ci := 4) (kR_n (M := mX4_canBeGround) dX4_canBeGround_0 rfl) (kaI (M := mX4_canBeGround) (kL_n (M := mX4_canBeGround) dX4_canBeGround_1 rfl) (kaN (M := mX4_canBeGround))) dX4_canBeGround_2 ctX4_isBlank mdX4_isBlank imX4_isBlank seX4_isBlank clX4 mkX4_48 ⟨(Nat.le_of_ble_eq_true rfl), (Nat.le_of_ble_eq_true rfl)⟩ (Nat.le_of_ble_eq_true rfl)) dX4_canBeGround_5 (by decide) rfl)) (kZ_neF (M := mX4_canBeGround) (kCV (M := mX4_canBeGround) (ci := 4) (kR_n (M := mX4_canBeGround) dX4_canBeGround_8 rfl) (kaI (M := mX4_canBeGround) (kL_n (M := mX4_canBeGround) dX4_canBeGround_9 rfl) (kaN (M := mX4_canBeGround))) dX4_canBeGround_10 ctX4_bearsOnceGround mdX4_bearsOnceGround imX4_bearsOnceGround seX4_bearsOnceGround clX4 mkX4_51 ⟨(Nat.le_of_ble_eq_true rfl), (Nat.le_of_ble_eq_true rfl)⟩ (Nat.le_of_ble_eq_true rfl)) dX4_canBeGround_13 (by decide) rfl)) dX4_canBeGround_16 dX4_canBeGround_17 (by decide) dX4_canBeGround_20 rfl) dX4_canBeGround_21)
def fX4_canBeGround : zFI := mZ bX4_canBeGround
theorem ctX4_canBeGround : CtI yX4_canBeGround cX4_canBeGround 3 .boolean 2 42 3 fX4_canBeGround := ctZ mdX4_canBeGround (Nat.le_of_ble_eq_true rfl) kX4_canBeGround
/-! TrophyPlates$Plate.readySide -/
theorem mdX4_readySide : zMd yX4_readySide cX4_readySide 2 (some .int) 1 := ⟨cdX4_readySide, iniX4, ⟨by decide +kernel, by decide +kernel⟩, by decide +kernel, by decide +kernel⟩
def bX4_readySide : zSS := sSeq (sIf (bNot (bZ z_ne (eCV 4 (rL 0) (aI (eL 1) (aN)) fX4_bears))) (sRi (eC (-9))) sNop) (sSeq (sIf (bZ z_eq (eF 4 3 (rL 0))) (sRi (eC 0)) sNop) (sRi (eT (bZ z_eq (eF 4 4 (rL 0))) (eC 1) (eC (-9)))))
abbrev mX4_readySide : zM := (cX4_readySide, RX4, 2, some .int, { frames := 1, cells := 0, slots := 0, locals := 21 }, false)
set_option maxHeartbeats 400000 in
set_option maxRecDepth 20000 in
theorem kX4_readySide : ssOk mX4_readySide 0 34 bX4_readySide := (kSeq (M := mX4_readySide) (kIf (M := mX4_readySide) (kBnot (M := mX4_readySide) (kZ_neT (M := mX4_readySide) (kCV (M := mX4_readySide) (ci := 4) (kR_n (M := mX4_readySide) dX4_readySide_0 rfl) (kaI (M := mX4_readySide) (kL_n (M := mX4_readySide) dX4_readySide_1 rfl) (kaN (M := mX4_readySide))) dX4_readySide_2 ctX4_bears mdX4_bears imX4_bears seX4_bears clX4 mkX4_44 ⟨(Nat.le_of_ble_eq_true rfl), (Nat.le_of_ble_eq_true rfl)⟩ (Nat.le_of_ble_eq_true rfl)) dX4_readySide_5 (by decide) rfl)) (kRi (M := mX4_readySide) (kC_bi (M := mX4_readySide) (v := (-9)) dX4_readySide_8 kc_bipush_m9) dX4_readySide_10) (kNop (M := mX4_readySide))) (kSeq (M := mX4_readySide) (kIf (M := mX4_readySide) (kZ_eqF (M := mX4_readySide) (kF (M := mX4_readySide) (kf := 3) (kR_n (M := mX4_readySide) dX4_readySide_11 rfl) dX4_readySide_12 clX4 lkX4_18 (by decide)) dX4_readySide_15 (by decide) rfl) (kRi (M := mX4_readySide) (kC_ic (M := mX4_readySide) (v := 0) dX4_readySide_18 kc_iconst_0) dX4_readySide_19) (kNop (M := mX4_readySide))) (kRi (M := mX4_readySide) (kT (M := mX4_readySide) (kZ_eqF (M := mX4_readySide) (kF (M := mX4_readySide) (kf := 4) (kR_n (M := mX4_readySide) dX4_readySide_20 rfl) dX4_readySide_21 clX4 lkX4_21 (by decide)) dX4_readySide_24 (by decide) rfl) (kC_ic (M := mX4_readySide) (v := 1) dX4_readySide_27 kc_iconst_1) dX4_readySide_28 (by decide) (kC_bi (M := mX4_readySide) (v := (-9)) dX4_readySide_31 kc_bipush_m9)) dX4_readySide_33)))
def fX4_readySide : zFI := mI bX4_readySide
theorem ctX4_readySide : CtI yX4_readySide cX4_readySide 2 .int 1 21 2 fX4_readySide := ctI mdX4_readySide (Nat.le_of_ble_eq_true rfl) kX4_readySide
/-! TrophyPlates$Plate.sideToGrind -/
theorem mdX4_sideToGrind : zMd yX4_sideToGrind cX4_sideToGrind 2 (some .int) 1 := ⟨cdX4_sideToGrind, iniX4, ⟨by decide +kernel, by decide +kernel⟩, by decide +kernel, by decide +kernel⟩
def bX4_sideToGrind : zSS := sSeq (sIf (bNot (bZ z_ne (eCV 4 (rL 0) (aI (eL 1) (aN)) fX4_bearsOnceGround))) (sRi (eC (-9))) sNop) (sSeq (sIf (bZ z_ne (eF 4 3 (rL 0))) (sRi (eC 0)) sNop) (sRi (eT (bZ z_ne (eF 4 4 (rL 0))) (eC 1) (eC (-9)))))
abbrev mX4_sideToGrind : zM := (cX4_sideToGrind, RX4, 2, some .int, { frames := 2, cells := 0, slots := 0, locals := 42 }, false)
set_option maxHeartbeats 400000 in
set_option maxRecDepth 20000 in
theorem kX4_sideToGrind : ssOk mX4_sideToGrind 0 34 bX4_sideToGrind := (kSeq (M := mX4_sideToGrind) (kIf (M := mX4_sideToGrind) (kBnot (M := mX4_sideToGrind) (kZ_neT (M := mX4_sideToGrind) (kCV (M := mX4_sideToGrind) (ci := 4) (kR_n (M := mX4_sideToGrind) dX4_sideToGrind_0 rfl) (kaI (M := mX4_sideToGrind) (kL_n (M := mX4_sideToGrind) dX4_sideToGrind_1 rfl) (kaN (M := mX4_sideToGrind))) dX4_sideToGrind_2 ctX4_bearsOnceGround mdX4_bearsOnceGround imX4_bearsOnceGround seX4_bearsOnceGround clX4 mkX4_51 ⟨(Nat.le_of_ble_eq_true rfl), (Nat.le_of_ble_eq_true rfl)⟩ (Nat.le_of_ble_eq_true rfl)) dX4_sideToGrind_5 (by decide) rfl)) (kRi (M := mX4_sideToGrind) (kC_bi (M := mX4_sideToGrind) (v := (-9)) dX4_sideToGrind_8 kc_bipush_m9) dX4_sideToGrind_10) (kNop (M := mX4_sideToGrind))) (kSeq (M := mX4_sideToGrind) (kIf (M := mX4_sideToGrind) (kZ_neF (M := mX4_sideToGrind) (kF (M := mX4_sideToGrind) (kf := 3) (kR_n (M := mX4_sideToGrind) dX4_sideToGrind_11 rfl) dX4_sideToGrind_12 clX4 lkX4_18 (by decide)) dX4_sideToGrind_15 (by decide) rfl) (kRi (M := mX4_sideToGrind) (kC_ic (M := mX4_sideToGrind) (v := 0) dX4_sideToGrind_18 kc_iconst_0) dX4_sideToGrind_19) (kNop (M := mX4_sideToGrind))) (kRi (M := mX4_sideToGrind) (kT (M := mX4_sideToGrind) (kZ_neF (M := mX4_sideToGrind) (kF (M := mX4_sideToGrind) (kf := 4) (kR_n (M := mX4_sideToGrind) dX4_sideToGrind_20 rfl) dX4_sideToGrind_21 clX4 lkX4_21 (by decide)) dX4_sideToGrind_24 (by decide) rfl) (kC_ic (M := mX4_sideToGrind) (v := 1) dX4_sideToGrind_27 kc_iconst_1) dX4_sideToGrind_28 (by decide) (kC_bi (M := mX4_sideToGrind) (v := (-9)) dX4_sideToGrind_31 kc_bipush_m9)) dX4_sideToGrind_33)))
def fX4_sideToGrind : zFI := mI bX4_sideToGrind
theorem ctX4_sideToGrind : CtI yX4_sideToGrind cX4_sideToGrind 2 .int 2 42 2 fX4_sideToGrind := ctI mdX4_sideToGrind (Nat.le_of_ble_eq_true rfl) kX4_sideToGrind
/-! TrophyPlates$Plate.sideFor -/
theorem mdX4_sideFor : zMd yX4_sideFor cX4_sideFor 3 (some .int) 1 := ⟨cdX4_sideFor, iniX4, ⟨by decide +kernel, by decide +kernel⟩, by decide +kernel, by decide +kernel⟩
def bX4_sideFor : zSS := sSeq (sLi 2 (eCV 4 (rL 0) (aI (eL 1) (aN)) fX4_readySide)) (sRi (eT (bCmp o_eq (eL 2) (eC (-9))) (eCV 4 (rL 0) (aI (eL 1) (aN)) fX4_sideToGrind) (eL 2)))
abbrev mX4_sideFor : zM := (cX4_sideFor, RX4, 3, some .int, { frames := 3, cells := 0, slots := 0, locals := 63 }, false)
set_option maxHeartbeats 400000 in
set_option maxRecDepth 20000 in
theorem kX4_sideFor : ssOk mX4_sideFor 0 22 bX4_sideFor := (kSeq (M := mX4_sideFor) (kSi_n (M := mX4_sideFor) (kCV (M := mX4_sideFor) (ci := 4) (kR_n (M := mX4_sideFor) dX4_sideFor_0 rfl) (kaI (M := mX4_sideFor) (kL_n (M := mX4_sideFor) dX4_sideFor_1 rfl) (kaN (M := mX4_sideFor))) dX4_sideFor_2 ctX4_readySide mdX4_readySide imX4_readySide seX4_readySide clX4 mkX4_54 ⟨(Nat.le_of_ble_eq_true rfl), (Nat.le_of_ble_eq_true rfl)⟩ (Nat.le_of_ble_eq_true rfl)) dX4_sideFor_5 rfl (by decide)) (kRi (M := mX4_sideFor) (kT (M := mX4_sideFor) (kB_eqF (M := mX4_sideFor) (kL_n (M := mX4_sideFor) dX4_sideFor_6 rfl) (kC_bi (M := mX4_sideFor) (v := (-9)) dX4_sideFor_7 kc_bipush_m9) dX4_sideFor_9 (by decide) rfl) (kCV (M := mX4_sideFor) (ci := 4) (kR_n (M := mX4_sideFor) dX4_sideFor_12 rfl) (kaI (M := mX4_sideFor) (kL_n (M := mX4_sideFor) dX4_sideFor_13 rfl) (kaN (M := mX4_sideFor))) dX4_sideFor_14 ctX4_sideToGrind mdX4_sideToGrind imX4_sideToGrind seX4_sideToGrind clX4 mkX4_57 ⟨(Nat.le_of_ble_eq_true rfl), (Nat.le_of_ble_eq_true rfl)⟩ (Nat.le_of_ble_eq_true rfl)) dX4_sideFor_17 (by decide) (kL_n (M := mX4_sideFor) dX4_sideFor_20 rfl)) dX4_sideFor_21))
def fX4_sideFor : zFI := mI bX4_sideFor
theorem ctX4_sideFor : CtI yX4_sideFor cX4_sideFor 3 .int 3 63 2 fX4_sideFor := ctI mdX4_sideFor (Nat.le_of_ble_eq_true rfl) kX4_sideFor
/-! TrophyPlates$Plate.isBetterThan -/
theorem mdX4_isBetterThan : zMd yX4_isBetterThan cX4_isBetterThan 2 (some .boolean) 1 := ⟨cdX4_isBetterThan, iniX4, ⟨by decide +kernel, by decide +kernel⟩, by decide +kernel, by decide +kernel⟩
def bX4_isBetterThan : zSS := sRi (eB (bOr (bCmp o_lt (eF 4 0 (rL 0)) (eF 4 0 (rL 1))) (bAnd (bCmp o_eq (eF 4 0 (rL 0)) (eF 4 0 (rL 1))) (bCmp o_lt (eF 4 1 (rL 0)) (eF 4 1 (rL 1))))))
abbrev mX4_isBetterThan : zM := (cX4_isBetterThan, RX4, 2, some .boolean, { frames := 0, cells := 0, slots := 0, locals := 0 }, false)
set_option maxHeartbeats 400000 in
set_option maxRecDepth 20000 in
theorem kX4_isBetterThan : ssOk mX4_isBetterThan 0 39 bX4_isBetterThan := (kRi (M := mX4_isBetterThan) (kEB (M := mX4_isBetterThan) (kBor (M := mX4_isBetterThan) (kB_ltT (M := mX4_isBetterThan) (kF (M := mX4_isBetterThan) (kf := 0) (kR_n (M := mX4_isBetterThan) dX4_isBetterThan_0 rfl) dX4_isBetterThan_1 clX4 lkX4_9 (by decide)) (kF (M := mX4_isBetterThan) (kf := 0) (kR_n (M := mX4_isBetterThan) dX4_isBetterThan_4 rfl) dX4_isBetterThan_5 clX4 lkX4_9 (by decide)) dX4_isBetterThan_8 (by decide) rfl) (kBand (M := mX4_isBetterThan) (kB_eqF (M := mX4_isBetterThan) (kF (M := mX4_isBetterThan) (kf := 0) (kR_n (M := mX4_isBetterThan) dX4_isBetterThan_11 rfl) dX4_isBetterThan_12 clX4 lkX4_9 (by decide)) (kF (M := mX4_isBetterThan) (kf := 0) (kR_n (M := mX4_isBetterThan) dX4_isBetterThan_15 rfl) dX4_isBetterThan_16 clX4 lkX4_9 (by decide)) dX4_isBetterThan_19 (by decide) rfl) (kB_ltF (M := mX4_isBetterThan) (kF (M := mX4_isBetterThan) (kf := 1) (kR_n (M := mX4_isBetterThan) dX4_isBetterThan_22 rfl) dX4_isBetterThan_23 clX4 lkX4_15 (by decide)) (kF (M := mX4_isBetterThan) (kf := 1) (kR_n (M := mX4_isBetterThan) dX4_isBetterThan_26 rfl) dX4_isBetterThan_27 clX4 lkX4_15 (by decide)) dX4_isBetterThan_30 (by decide) rfl))) dX4_isBetterThan_33 dX4_isBetterThan_34 (by decide) dX4_isBetterThan_37 rfl) dX4_isBetterThan_38)
def fX4_isBetterThan : zFI := mZ bX4_isBetterThan
theorem ctX4_isBetterThan : CtI yX4_isBetterThan cX4_isBetterThan 2 .boolean 0 0 2 fX4_isBetterThan := ctZ mdX4_isBetterThan (Nat.le_of_ble_eq_true rfl) kX4_isBetterThan
/-! TrophyPlates$Plate.makeNew -/
theorem mdX4_makeNew : zMd yX4_makeNew cX4_makeNew 3 (none) 2 := ⟨cdX4_makeNew, iniX4, ⟨by decide +kernel, by decide +kernel⟩, by decide +kernel, by decide +kernel⟩
def bX4_makeNew : zSS := sSeq (sF 4 0 (rL 0) (eL 1)) (sSeq (sF 4 1 (rL 0) (eL 2)) (sSeq (sF 4 3 (rL 0) (eC 0)) (sSeq (sF 4 4 (rL 0) (eC 0)) (sSeq (sCV 4 (rL 0) (aN) fX4_putIntoDrawer) (sRv)))))
abbrev mX4_makeNew : zM := (cX4_makeNew, RX4, 3, none, { frames := 1, cells := 0, slots := 0, locals := 20 }, false)
set_option maxHeartbeats 400000 in
set_option maxRecDepth 20000 in
theorem kX4_makeNew : ssOk mX4_makeNew 0 25 bX4_makeNew := (kSeq (M := mX4_makeNew) (kPF (M := mX4_makeNew) (kf := 0) (kR_n (M := mX4_makeNew) dX4_makeNew_0 rfl) (kL_n (M := mX4_makeNew) dX4_makeNew_1 rfl) dX4_makeNew_2 clX4 lkX4_9 (by decide) rfl rfl) (kSeq (M := mX4_makeNew) (kPF (M := mX4_makeNew) (kf := 1) (kR_n (M := mX4_makeNew) dX4_makeNew_5 rfl) (kL_n (M := mX4_makeNew) dX4_makeNew_6 rfl) dX4_makeNew_7 clX4 lkX4_15 (by decide) rfl rfl) (kSeq (M := mX4_makeNew) (kPF (M := mX4_makeNew) (kf := 3) (kR_n (M := mX4_makeNew) dX4_makeNew_10 rfl) (kC_ic (M := mX4_makeNew) (v := 0) dX4_makeNew_11 kc_iconst_0) dX4_makeNew_12 clX4 lkX4_18 (by decide) rfl rfl) (kSeq (M := mX4_makeNew) (kPF (M := mX4_makeNew) (kf := 4) (kR_n (M := mX4_makeNew) dX4_makeNew_15 rfl) (kC_ic (M := mX4_makeNew) (v := 0) dX4_makeNew_16 kc_iconst_0) dX4_makeNew_17 clX4 lkX4_21 (by decide) rfl rfl) (kSeq (M := mX4_makeNew) (ksCV (M := mX4_makeNew) (ci := 4) (kR_n (M := mX4_makeNew) dX4_makeNew_20 rfl) (kaN (M := mX4_makeNew)) dX4_makeNew_21 ctX4_putIntoDrawer mdX4_putIntoDrawer imX4_putIntoDrawer seX4_putIntoDrawer clX4 mkX4_24 ⟨(Nat.le_of_ble_eq_true rfl), (Nat.le_of_ble_eq_true rfl)⟩) (kRv (M := mX4_makeNew) dX4_makeNew_24))))))
def fX4_makeNew : zFV := mV bX4_makeNew
theorem ctX4_makeNew : CtV yX4_makeNew cX4_makeNew 3 1 0 0 20 3 fX4_makeNew := ctV mdX4_makeNew (Nat.le_of_ble_eq_true rfl) kX4_makeNew
end
section
/-! TrophyPlates$Order.<init> -/
theorem mdX3_init : zMd yX3_init cX3_init 1 (none) 0 := ⟨cdX3_init, iniX3, ⟨by decide +kernel, by decide +kernel⟩, by decide +kernel, by decide +kernel⟩
def bX3_init : zSS := sSeq ((fun en h => (rL 0 en h).map fun _ => .inl (en, h))) (sFr 3 0 (rL 0) (rNw 2 [.null, .int 0] (aN) fX2_init))
abbrev mX3_init : zM := (cX3_init, RX3, 1, none, { frames := 2, cells := 2, slots := 14, locals := 32 }, true)
set_option maxHeartbeats 400000 in
set_option maxRecDepth 20000 in
theorem kX3_init : saOk mX3_init 0 15 2 14 bX3_init := (saSeq (M := mX3_init) (sa_ss (M := mX3_init) (saInit (M := mX3_init) dX3_init_0 dX3_init_1 okX3_1 imObj cdObj ⟨(Nat.le_of_ble_eq_true rfl), (Nat.le_of_ble_eq_true rfl)⟩)) (saFr (M := mX3_init) (kf := 0) (kR_n (M := mX3_init) dX3_init_4 rfl) (kNwN (M := mX3_init) (ci := 2) dX3_init_5 dX3_init_8 (kaN (M := mX3_init)) dX3_init_9 ctX2_init mdX2_init rfl imX2_init rfl clX2 (dvX2) clX3_7 is2 nkX3_9 ⟨(Nat.le_of_ble_eq_true rfl), (Nat.le_of_ble_eq_true rfl)⟩ (Nat.le_of_ble_eq_true rfl)) dX3_init_12 clX3 lkX3_10 (by decide) rfl rfl rfl (fun _ => rfl) (fun _ => rfl)))
def fX3_init : zFV := fun vs h => (bX3_init vs h).bind fun r => match r with
  | .inl q => some q.2
  | .inr _ => none
theorem ctX3_init : CtV yX3_init cX3_init 1 2 2 14 32 1 fX3_init := ctN mdX3_init (Nat.le_of_ble_eq_true rfl) rfl dX3_init_15 kX3_init
/-! TrophyPlates$Order.copyFrom -/
theorem mdX3_copyFrom : zMd yX3_copyFrom cX3_copyFrom 2 (none) 1 := ⟨cdX3_copyFrom, iniX3, ⟨by decide +kernel, by decide +kernel⟩, by decide +kernel, by decide +kernel⟩
def bX3_copyFrom : zSS := sSeq (sCV 2 (rF 3 0 (rL 0)) (aR (rF 3 0 (rL 1)) (aN)) fX2_copyFrom) (sSeq (sF 3 1 (rL 0) (eF 3 1 (rL 1))) (sSeq (sF 3 2 (rL 0) (eF 3 2 (rL 1))) (sSeq (sF 3 3 (rL 0) (eF 3 3 (rL 1))) (sSeq (sF 3 4 (rL 0) (eF 3 4 (rL 1))) (sSeq (sFz 3 5 (rL 0) (eF 3 5 (rL 1))) (sRv))))))
abbrev mX3_copyFrom : zM := (cX3_copyFrom, RX3, 2, none, { frames := 1, cells := 0, slots := 0, locals := 22 }, false)
set_option maxHeartbeats 400000 in
set_option maxRecDepth 20000 in
theorem kX3_copyFrom : ssOk mX3_copyFrom 0 52 bX3_copyFrom := (kSeq (M := mX3_copyFrom) (ksCV (M := mX3_copyFrom) (ci := 2) (kRF (M := mX3_copyFrom) (kf := 0) (kR_n (M := mX3_copyFrom) dX3_copyFrom_0 rfl) dX3_copyFrom_1 clX3 lkX3_10 (by decide)) (kaR (M := mX3_copyFrom) (kRF (M := mX3_copyFrom) (kf := 0) (kR_n (M := mX3_copyFrom) dX3_copyFrom_4 rfl) dX3_copyFrom_5 clX3 lkX3_10 (by decide)) (kaN (M := mX3_copyFrom))) dX3_copyFrom_8 ctX2_copyFrom mdX2_copyFrom imX2_copyFrom seX2_copyFrom clX2 mkX3_16 ⟨(Nat.le_of_ble_eq_true rfl), (Nat.le_of_ble_eq_true rfl)⟩) (kSeq (M := mX3_copyFrom) (kPF (M := mX3_copyFrom) (kf := 1) (kR_n (M := mX3_copyFrom) dX3_copyFrom_11 rfl) (kF (M := mX3_copyFrom) (kf := 1) (kR_n (M := mX3_copyFrom) dX3_copyFrom_12 rfl) dX3_copyFrom_13 clX3 lkX3_20 (by decide)) dX3_copyFrom_16 clX3 lkX3_20 (by decide) rfl rfl) (kSeq (M := mX3_copyFrom) (kPF (M := mX3_copyFrom) (kf := 2) (kR_n (M := mX3_copyFrom) dX3_copyFrom_19 rfl) (kF (M := mX3_copyFrom) (kf := 2) (kR_n (M := mX3_copyFrom) dX3_copyFrom_20 rfl) dX3_copyFrom_21 clX3 lkX3_24 (by decide)) dX3_copyFrom_24 clX3 lkX3_24 (by decide) rfl rfl) (kSeq (M := mX3_copyFrom) (kPF (M := mX3_copyFrom) (kf := 3) (kR_n (M := mX3_copyFrom) dX3_copyFrom_27 rfl) (kF (M := mX3_copyFrom) (kf := 3) (kR_n (M := mX3_copyFrom) dX3_copyFrom_28 rfl) dX3_copyFrom_29 clX3 lkX3_27 (by decide)) dX3_copyFrom_32 clX3 lkX3_27 (by decide) rfl rfl) (kSeq (M := mX3_copyFrom) (kPF (M := mX3_copyFrom) (kf := 4) (kR_n (M := mX3_copyFrom) dX3_copyFrom_35 rfl) (kF (M := mX3_copyFrom) (kf := 4) (kR_n (M := mX3_copyFrom) dX3_copyFrom_36 rfl) dX3_copyFrom_37 clX3 lkX3_30 (by decide)) dX3_copyFrom_40 clX3 lkX3_30 (by decide) rfl rfl) (kSeq (M := mX3_copyFrom) (kPFz (M := mX3_copyFrom) (kf := 5) (kR_n (M := mX3_copyFrom) dX3_copyFrom_43 rfl) (kF (M := mX3_copyFrom) (kf := 5) (kR_n (M := mX3_copyFrom) dX3_copyFrom_44 rfl) dX3_copyFrom_45 clX3 lkX3_33 (by decide)) dX3_copyFrom_48 clX3 lkX3_33 (by decide) rfl rfl) (kRv (M := mX3_copyFrom) dX3_copyFrom_51)))))))
def fX3_copyFrom : zFV := mV bX3_copyFrom
theorem ctX3_copyFrom : CtV yX3_copyFrom cX3_copyFrom 2 1 0 0 22 2 fX3_copyFrom := ctV mdX3_copyFrom (Nat.le_of_ble_eq_true rfl) kX3_copyFrom
/-! TrophyPlates$Order.nameLength -/
theorem mdX3_nameLength : zMd yX3_nameLength cX3_nameLength 1 (some .int) 0 := ⟨cdX3_nameLength, iniX3, ⟨by decide +kernel, by decide +kernel⟩, by decide +kernel, by decide +kernel⟩
def bX3_nameLength : zSS := sRi (eCV 2 (rF 3 0 (rL 0)) (aI (eF 3 3 (rL 0)) (aN)) fX2_lengthIn)
abbrev mX3_nameLength : zM := (cX3_nameLength, RX3, 1, some .int, { frames := 2, cells := 0, slots := 0, locals := 44 }, false)
set_option maxHeartbeats 400000 in
set_option maxRecDepth 20000 in
theorem kX3_nameLength : ssOk mX3_nameLength 0 12 bX3_nameLength := (kRi (M := mX3_nameLength) (kCV (M := mX3_nameLength) (ci := 2) (kRF (M := mX3_nameLength) (kf := 0) (kR_n (M := mX3_nameLength) dX3_nameLength_0 rfl) dX3_nameLength_1 clX3 lkX3_10 (by decide)) (kaI (M := mX3_nameLength) (kF (M := mX3_nameLength) (kf := 3) (kR_n (M := mX3_nameLength) dX3_nameLength_4 rfl) dX3_nameLength_5 clX3 lkX3_27 (by decide)) (kaN (M := mX3_nameLength))) dX3_nameLength_8 ctX2_lengthIn mdX2_lengthIn imX2_lengthIn seX2_lengthIn clX2 mkX3_37 ⟨(Nat.le_of_ble_eq_true rfl), (Nat.le_of_ble_eq_true rfl)⟩ (Nat.le_of_ble_eq_true rfl)) dX3_nameLength_11)
def fX3_nameLength : zFI := mI bX3_nameLength
theorem ctX3_nameLength : CtI yX3_nameLength cX3_nameLength 1 .int 2 44 1 fX3_nameLength := ctI mdX3_nameLength (Nat.le_of_ble_eq_true rfl) kX3_nameLength
/-! TrophyPlates$Order.effort -/
theorem mdX3_effort : zMd yX3_effort cX3_effort 1 (some .int) 0 := ⟨cdX3_effort, iniX3, ⟨by decide +kernel, by decide +kernel⟩, by decide +kernel, by decide +kernel⟩
def bX3_effort : zSS := sRi (eOp (· * ·) (eF 2 1 (rF 3 0 (rL 0))) (eOp (· + ·) (eF 3 3 (rL 0)) (eF 3 4 (rL 0))))
abbrev mX3_effort : zM := (cX3_effort, RX3, 1, some .int, { frames := 0, cells := 0, slots := 0, locals := 0 }, false)
set_option maxHeartbeats 400000 in
set_option maxRecDepth 20000 in
theorem kX3_effort : ssOk mX3_effort 0 18 bX3_effort := (kRi (M := mX3_effort) (kMul (M := mX3_effort) (kF (M := mX3_effort) (kf := 1) (kRF (M := mX3_effort) (kf := 0) (kR_n (M := mX3_effort) dX3_effort_0 rfl) dX3_effort_1 clX3 lkX3_10 (by decide)) dX3_effort_4 clX2 lkX3_41 (by decide)) (kAdd (M := mX3_effort) (kF (M := mX3_effort) (kf := 3) (kR_n (M := mX3_effort) dX3_effort_7 rfl) dX3_effort_8 clX3 lkX3_27 (by decide)) (kF (M := mX3_effort) (kf := 4) (kR_n (M := mX3_effort) dX3_effort_11 rfl) dX3_effort_12 clX3 lkX3_30 (by decide)) dX3_effort_15) dX3_effort_16) dX3_effort_17)
def fX3_effort : zFI := mI bX3_effort
theorem ctX3_effort : CtI yX3_effort cX3_effort 1 .int 0 0 1 fX3_effort := ctI mdX3_effort (Nat.le_of_ble_eq_true rfl) kX3_effort
end
section
/-! TrophyPlates$Shop.<init> -/
theorem mdX5_init : zMd yX5_init cX5_init 2 (none) 0 := ⟨cdX5_init, iniX5, ⟨by decide +kernel, by decide +kernel⟩, by decide +kernel, by decide +kernel⟩
def bX5_init : zSS := sSeq ((fun en h => (rL 0 en h).map fun _ => .inl (en, h))) (sSeq (sFr 5 0 (rL 0) (rNR 4 20 (eC 20))) (sSeq (sFr 5 1 (rL 0) (rNA 3 (eC 3))) (sSeq (sFr 5 2 (rL 0) (rNR 3 10 (eC 10))) (sSeq (sF 5 6 (rL 0) (eC (-9))) (sSeq (sF 5 7 (rL 0) (eC (-9))) (sSeq (sF 5 8 (rL 0) (eC (-9))) (sSeq (sF 5 9 (rL 0) (eC (-9))) (sSeq (sBlk (sSeq (sLi 1 (eC 0)) (sW 21 (bCmp o_lt (eL 1) (eC 20)) (sSeq (sQ 4 (rF 5 0 (rL 0)) (eL 1) (rNw 4 [.int 0, .int 0, .int 0, .int 0, .int 0, .int 0, .int 0] (aN) fX4_init)) (sInc 1 1))))) (sBlk (sSeq (sLi 1 (eC 0)) (sW 11 (bCmp o_lt (eL 1) (eC 10)) (sSeq (sQ 3 (rF 5 2 (rL 0)) (eL 1) (rNw 3 [.null, .int 0, .int 0, .int 0, .int 0, .int 0, .int 0] (aN) fX3_init)) (sInc 1 1)))))))))))))
abbrev mX5_init : zM := (cX5_init, RX5, 2, none, { frames := 3, cells := 57, slots := 411, locals := 52 }, true)
set_option maxHeartbeats 400000 in
set_option maxRecDepth 20000 in
theorem kX5_init : saOk mX5_init 0 107 57 411 bX5_init := (saSeq (M := mX5_init) (sa_ss (M := mX5_init) (saInit (M := mX5_init) dX5_init_0 dX5_init_1 okX5_3 imObj cdObj ⟨(Nat.le_of_ble_eq_true rfl), (Nat.le_of_ble_eq_true rfl)⟩)) (saSeq (M := mX5_init) (saFr (M := mX5_init) (kf := 0) (kR_n (M := mX5_init) dX5_init_4 rfl) (kNR (M := mX5_init) (ci := 4) (kC_bi (M := mX5_init) (v := 20) dX5_init_5 kc_bipush_20) dX5_init_7 (Nat.le_of_ble_eq_true rfl) ao4 clX5_9 (by first | exact Or.inl ⟨rfl, rfl⟩ | exact Or.inr (Or.inl ⟨rfl, rfl⟩) | exact Or.inr (Or.inr ⟨rfl, rfl⟩))) dX5_init_10 clX5 lkX5_11 (by decide) rfl rfl rfl (fun _ => rfl) (fun _ => rfl)) (saSeq (M := mX5_init) (saFr (M := mX5_init) (kf := 1) (kR_n (M := mX5_init) dX5_init_13 rfl) (kNA (M := mX5_init) (kC_ic (M := mX5_init) (v := 3) dX5_init_14 kc_iconst_3) dX5_init_15 (Nat.le_of_ble_eq_true rfl) acI) dX5_init_17 clX5 lkX5_17 (by decide) rfl rfl rfl (fun _ => rfl) (fun _ => rfl)) (saSeq (M := mX5_init) (saFr (M := mX5_init) (kf := 2) (kR_n (M := mX5_init) dX5_init_20 rfl) (kNR (M := mX5_init) (ci := 3) (kC_bi (M := mX5_init) (v := 10) dX5_init_21 kc_bipush_10) dX5_init_23 (Nat.le_of_ble_eq_true rfl) ao3 clX5_21 (by first | exact Or.inl ⟨rfl, rfl⟩ | exact Or.inr (Or.inl ⟨rfl, rfl⟩) | exact Or.inr (Or.inr ⟨rfl, rfl⟩))) dX5_init_26 clX5 lkX5_23 (by decide) rfl rfl rfl (fun _ => rfl) (fun _ => rfl)) (saSeq (M := mX5_init) (sa_ss (M := mX5_init) (kPF (M := mX5_init) (kf := 6) (kR_n (M := mX5_init) dX5_init_29 rfl) (kC_bi (M := mX5_init) (v := (-9)) dX5_init_30 kc_bipush_m9) dX5_init_32 clX5 lkX5_27 (by decide) rfl rfl)) (saSeq (M := mX5_init) (sa_ss (M := mX5_init) (kPF (M := mX5_init) (kf := 7) (kR_n (M := mX5_init) dX5_init_35 rfl) (kC_bi (M := mX5_init) (v := (-9)) dX5_init_36 kc_bipush_m9) dX5_init_38 clX5 lkX5_31 (by decide) rfl rfl)) (saSeq (M := mX5_init) (sa_ss (M := mX5_init) (kPF (M := mX5_init) (kf := 8) (kR_n (M := mX5_init) dX5_init_41 rfl) (kC_bi (M := mX5_init) (v := (-9)) dX5_init_42 kc_bipush_m9) dX5_init_44 clX5 lkX5_34 (by decide) rfl rfl)) (saSeq (M := mX5_init) (sa_ss (M := mX5_init) (kPF (M := mX5_init) (kf := 9) (kR_n (M := mX5_init) dX5_init_47 rfl) (kC_bi (M := mX5_init) (v := (-9)) dX5_init_48 kc_bipush_m9) dX5_init_50 clX5 lkX5_37 (by decide) rfl rfl)) (saSeq (M := mX5_init) (saBlk (M := mX5_init) (saSeq (M := mX5_init) (sa_ss (M := mX5_init) (kSi_n (M := mX5_init) (kC_ic (M := mX5_init) (v := 0) dX5_init_53 kc_iconst_0) dX5_init_54 rfl (by decide))) (saW (M := mX5_init) (kB_ltF (M := mX5_init) (kL_n (M := mX5_init) dX5_init_55 rfl) (kC_bi (M := mX5_init) (v := 20) dX5_init_56 kc_bipush_20) dX5_init_58 (by decide) rfl) (saGo (M := mX5_init) (saSeq (M := mX5_init) (saQ (M := mX5_init) (ci := 4) (kRF (M := mX5_init) (kf := 0) (kR_n (M := mX5_init) dX5_init_61 rfl) dX5_init_62 clX5 lkX5_11 (by decide)) (kL_n (M := mX5_init) dX5_init_65 rfl) (kNwN (M := mX5_init) (ci := 4) dX5_init_66 dX5_init_69 (kaN (M := mX5_init)) dX5_init_70 ctX4_init mdX4_init rfl imX4_init rfl clX4 (dvX4) clX5_9 is4 nkX5_40 ⟨(Nat.le_of_ble_eq_true rfl), (Nat.le_of_ble_eq_true rfl)⟩ (Nat.le_of_ble_eq_true rfl)) dX5_init_73 (by first | exact Or.inl ⟨rfl, rfl⟩ | exact Or.inr (Or.inl ⟨rfl, rfl⟩) | exact Or.inr (Or.inr ⟨rfl, rfl⟩)) clX4) (sa_ss (M := mX5_init) (kInc (M := mX5_init) (v := 1) dX5_init_74 kc_iconst_1 (by decide)))) dX5_init_77 (by decide)) 21))) (saBlk (M := mX5_init) (saSeq (M := mX5_init) (sa_ss (M := mX5_init) (kSi_n (M := mX5_init) (kC_ic (M := mX5_init) (v := 0) dX5_init_80 kc_iconst_0) dX5_init_81 rfl (by decide))) (saW (M := mX5_init) (kB_ltF (M := mX5_init) (kL_n (M := mX5_init) dX5_init_82 rfl) (kC_bi (M := mX5_init) (v := 10) dX5_init_83 kc_bipush_10) dX5_init_85 (by decide) rfl) (saGo (M := mX5_init) (saSeq (M := mX5_init) (saQ (M := mX5_init) (ci := 3) (kRF (M := mX5_init) (kf := 2) (kR_n (M := mX5_init) dX5_init_88 rfl) dX5_init_89 clX5 lkX5_23 (by decide)) (kL_n (M := mX5_init) dX5_init_92 rfl) (kNwN (M := mX5_init) (ci := 3) dX5_init_93 dX5_init_96 (kaN (M := mX5_init)) dX5_init_97 ctX3_init mdX3_init rfl imX3_init rfl clX3 (dvX3) clX5_21 is3 nkX5_41 ⟨(Nat.le_of_ble_eq_true rfl), (Nat.le_of_ble_eq_true rfl)⟩ (Nat.le_of_ble_eq_true rfl)) dX5_init_100 (by first | exact Or.inl ⟨rfl, rfl⟩ | exact Or.inr (Or.inl ⟨rfl, rfl⟩) | exact Or.inr (Or.inr ⟨rfl, rfl⟩)) clX3) (sa_ss (M := mX5_init) (kInc (M := mX5_init) (v := 1) dX5_init_101 kc_iconst_1 (by decide)))) dX5_init_104 (by decide)) 11))))))))))))
def fX5_init : zFV := fun vs h => (bX5_init vs h).bind fun r => match r with
  | .inl q => some q.2
  | .inr _ => none
theorem ctX5_init : CtV yX5_init cX5_init 2 3 57 411 52 1 fX5_init := ctN mdX5_init (Nat.le_of_ble_eq_true rfl) rfl dX5_init_107 kX5_init
/-! TrophyPlates$Shop.copyFrom -/
theorem mdX5_copyFrom : zMd yX5_copyFrom cX5_copyFrom 3 (none) 1 := ⟨cdX5_copyFrom, iniX5, ⟨by decide +kernel, by decide +kernel⟩, by decide +kernel, by decide +kernel⟩
def bX5_copyFrom : zSS := sSeq (sF 5 3 (rL 0) (eF 5 3 (rL 1))) (sSeq (sBlk (sSeq (sLi 2 (eC 0)) (sW 4000 (bCmp o_lt (eL 2) (eF 5 3 (rL 0))) (sSeq (sCV 4 (rQ 4 (rF 5 0 (rL 0)) (eL 2)) (aR (rQ 4 (rF 5 0 (rL 1)) (eL 2)) (aN)) fX4_copyFrom) (sInc 2 1))))) (sSeq (sF 5 4 (rL 0) (eF 5 4 (rL 1))) (sSeq (sBlk (sSeq (sLi 2 (eC 0)) (sW 4000 (bCmp o_lt (eL 2) (eF 5 4 (rL 0))) (sSeq (sA (rF 5 1 (rL 0)) (eL 2) (eA (rF 5 1 (rL 1)) (eL 2))) (sInc 2 1))))) (sSeq (sF 5 5 (rL 0) (eF 5 5 (rL 1))) (sSeq (sBlk (sSeq (sLi 2 (eC 0)) (sW 4000 (bCmp o_lt (eL 2) (eF 5 5 (rL 0))) (sSeq (sCV 3 (rQ 3 (rF 5 2 (rL 0)) (eL 2)) (aR (rQ 3 (rF 5 2 (rL 1)) (eL 2)) (aN)) fX3_copyFrom) (sInc 2 1))))) (sSeq (sF 5 6 (rL 0) (eF 5 6 (rL 1))) (sSeq (sF 5 7 (rL 0) (eF 5 7 (rL 1))) (sSeq (sF 5 8 (rL 0) (eF 5 8 (rL 1))) (sSeq (sF 5 9 (rL 0) (eF 5 9 (rL 1))) (sSeq (sF 5 10 (rL 0) (eF 5 10 (rL 1))) (sSeq (sF 5 11 (rL 0) (eF 5 11 (rL 1))) (sSeq (sF 5 12 (rL 0) (eF 5 12 (rL 1))) (sRv)))))))))))))
abbrev mX5_copyFrom : zM := (cX5_copyFrom, RX5, 3, none, { frames := 2, cells := 0, slots := 0, locals := 43 }, false)
set_option maxHeartbeats 400000 in
set_option maxRecDepth 20000 in
theorem kX5_copyFrom : ssOk mX5_copyFrom 0 171 bX5_copyFrom := (kSeq (M := mX5_copyFrom) (kPF (M := mX5_copyFrom) (kf := 3) (kR_n (M := mX5_copyFrom) dX5_copyFrom_0 rfl) (kF (M := mX5_copyFrom) (kf := 3) (kR_n (M := mX5_copyFrom) dX5_copyFrom_1 rfl) dX5_copyFrom_2 clX5 lkX5_42 (by decide)) dX5_copyFrom_5 clX5 lkX5_42 (by decide) rfl rfl) (kSeq (M := mX5_copyFrom) (kBlk (M := mX5_copyFrom) (kSeq (M := mX5_copyFrom) (kSi_n (M := mX5_copyFrom) (kC_ic (M := mX5_copyFrom) (v := 0) dX5_copyFrom_8 kc_iconst_0) dX5_copyFrom_9 rfl (by decide)) (kWn (M := mX5_copyFrom) (N := 4000) (kB_ltF (M := mX5_copyFrom) (kL_n (M := mX5_copyFrom) dX5_copyFrom_10 rfl) (kF (M := mX5_copyFrom) (kf := 3) (kR_n (M := mX5_copyFrom) dX5_copyFrom_11 rfl) dX5_copyFrom_12 clX5 lkX5_42 (by decide)) dX5_copyFrom_15 (by decide) rfl) (kGo (M := mX5_copyFrom) (kSeq (M := mX5_copyFrom) (ksCV (M := mX5_copyFrom) (ci := 4) (kQ (M := mX5_copyFrom) (ci := 4) (kRF (M := mX5_copyFrom) (kf := 0) (kR_n (M := mX5_copyFrom) dX5_copyFrom_18 rfl) dX5_copyFrom_19 clX5 lkX5_11 (by decide)) (kL_n (M := mX5_copyFrom) dX5_copyFrom_22 rfl) dX5_copyFrom_23 (by first | exact Or.inl ⟨rfl, rfl⟩ | exact Or.inr (Or.inl ⟨rfl, rfl⟩) | exact Or.inr (Or.inr ⟨rfl, rfl⟩))) (kaR (M := mX5_copyFrom) (kQ (M := mX5_copyFrom) (ci := 4) (kRF (M := mX5_copyFrom) (kf := 0) (kR_n (M := mX5_copyFrom) dX5_copyFrom_24 rfl) dX5_copyFrom_25 clX5 lkX5_11 (by decide)) (kL_n (M := mX5_copyFrom) dX5_copyFrom_28 rfl) dX5_copyFrom_29 (by first | exact Or.inl ⟨rfl, rfl⟩ | exact Or.inr (Or.inl ⟨rfl, rfl⟩) | exact Or.inr (Or.inr ⟨rfl, rfl⟩))) (kaN (M := mX5_copyFrom))) dX5_copyFrom_30 ctX4_copyFrom mdX4_copyFrom imX4_copyFrom seX4_copyFrom clX4 mkX5_45 ⟨(Nat.le_of_ble_eq_true rfl), (Nat.le_of_ble_eq_true rfl)⟩) (kInc (M := mX5_copyFrom) (v := 1) dX5_copyFrom_33 kc_iconst_1 (by decide))) dX5_copyFrom_36 (by decide))))) (kSeq (M := mX5_copyFrom) (kPF (M := mX5_copyFrom) (kf := 4) (kR_n (M := mX5_copyFrom) dX5_copyFrom_39 rfl) (kF (M := mX5_copyFrom) (kf := 4) (kR_n (M := mX5_copyFrom) dX5_copyFrom_40 rfl) dX5_copyFrom_41 clX5 lkX5_49 (by decide)) dX5_copyFrom_44 clX5 lkX5_49 (by decide) rfl rfl) (kSeq (M := mX5_copyFrom) (kBlk (M := mX5_copyFrom) (kSeq (M := mX5_copyFrom) (kSi_n (M := mX5_copyFrom) (kC_ic (M := mX5_copyFrom) (v := 0) dX5_copyFrom_47 kc_iconst_0) dX5_copyFrom_48 rfl (by decide)) (kWn (M := mX5_copyFrom) (N := 4000) (kB_ltF (M := mX5_copyFrom) (kL_n (M := mX5_copyFrom) dX5_copyFrom_49 rfl) (kF (M := mX5_copyFrom) (kf := 4) (kR_n (M := mX5_copyFrom) dX5_copyFrom_50 rfl) dX5_copyFrom_51 clX5 lkX5_49 (by decide)) dX5_copyFrom_54 (by decide) rfl) (kGo (M := mX5_copyFrom) (kSeq (M := mX5_copyFrom) (kPA (M := mX5_copyFrom) (kRF (M := mX5_copyFrom) (kf := 1) (kR_n (M := mX5_copyFrom) dX5_copyFrom_57 rfl) dX5_copyFrom_58 clX5 lkX5_17 (by decide)) (kL_n (M := mX5_copyFrom) dX5_copyFrom_61 rfl) (kA (M := mX5_copyFrom) (kRF (M := mX5_copyFrom) (kf := 1) (kR_n (M := mX5_copyFrom) dX5_copyFrom_62 rfl) dX5_copyFrom_63 clX5 lkX5_17 (by decide)) (kL_n (M := mX5_copyFrom) dX5_copyFrom_66 rfl) dX5_copyFrom_67) dX5_copyFrom_68) (kInc (M := mX5_copyFrom) (v := 1) dX5_copyFrom_69 kc_iconst_1 (by decide))) dX5_copyFrom_72 (by decide))))) (kSeq (M := mX5_copyFrom) (kPF (M := mX5_copyFrom) (kf := 5) (kR_n (M := mX5_copyFrom) dX5_copyFrom_75 rfl) (kF (M := mX5_copyFrom) (kf := 5) (kR_n (M := mX5_copyFrom) dX5_copyFrom_76 rfl) dX5_copyFrom_77 clX5 lkX5_52 (by decide)) dX5_copyFrom_80 clX5 lkX5_52 (by decide) rfl rfl) (kSeq (M := mX5_copyFrom) (kBlk (M := mX5_copyFrom) (kSeq (M := mX5_copyFrom) (kSi_n (M := mX5_copyFrom) (kC_ic (M := mX5_copyFrom) (v := 0) dX5_copyFrom_83 kc_iconst_0) dX5_copyFrom_84 rfl (by decide)) (kWn (M := mX5_copyFrom) (N := 4000) (kB_ltF (M := mX5_copyFrom) (kL_n (M := mX5_copyFrom) dX5_copyFrom_85 rfl) (kF (M := mX5_copyFrom) (kf := 5) (kR_n (M := mX5_copyFrom) dX5_copyFrom_86 rfl) dX5_copyFrom_87 clX5 lkX5_52 (by decide)) dX5_copyFrom_90 (by decide) rfl) (kGo (M := mX5_copyFrom) (kSeq (M := mX5_copyFrom) (ksCV (M := mX5_copyFrom) (ci := 3) (kQ (M := mX5_copyFrom) (ci := 3) (kRF (M := mX5_copyFrom) (kf := 2) (kR_n (M := mX5_copyFrom) dX5_copyFrom_93 rfl) dX5_copyFrom_94 clX5 lkX5_23 (by decide)) (kL_n (M := mX5_copyFrom) dX5_copyFrom_97 rfl) dX5_copyFrom_98 (by first | exact Or.inl ⟨rfl, rfl⟩ | exact Or.inr (Or.inl ⟨rfl, rfl⟩) | exact Or.inr (Or.inr ⟨rfl, rfl⟩))) (kaR (M := mX5_copyFrom) (kQ (M := mX5_copyFrom) (ci := 3) (kRF (M := mX5_copyFrom) (kf := 2) (kR_n (M := mX5_copyFrom) dX5_copyFrom_99 rfl) dX5_copyFrom_100 clX5 lkX5_23 (by decide)) (kL_n (M := mX5_copyFrom) dX5_copyFrom_103 rfl) dX5_copyFrom_104 (by first | exact Or.inl ⟨rfl, rfl⟩ | exact Or.inr (Or.inl ⟨rfl, rfl⟩) | exact Or.inr (Or.inr ⟨rfl, rfl⟩))) (kaN (M := mX5_copyFrom))) dX5_copyFrom_105 ctX3_copyFrom mdX3_copyFrom imX3_copyFrom seX3_copyFrom clX3 mkX5_55 ⟨(Nat.le_of_ble_eq_true rfl), (Nat.le_of_ble_eq_true rfl)⟩) (kInc (M := mX5_copyFrom) (v := 1) dX5_copyFrom_108 kc_iconst_1 (by decide))) dX5_copyFrom_111 (by decide))))) (kSeq (M := mX5_copyFrom) (kPF (M := mX5_copyFrom) (kf := 6) (kR_n (M := mX5_copyFrom) dX5_copyFrom_114 rfl) (kF (M := mX5_copyFrom) (kf := 6) (kR_n (M := mX5_copyFrom) dX5_copyFrom_115 rfl) dX5_copyFrom_116 clX5 lkX5_27 (by decide)) dX5_copyFrom_119 clX5 lkX5_27 (by decide) rfl rfl) (kSeq (M := mX5_copyFrom) (kPF (M := mX5_copyFrom) (kf := 7) (kR_n (M := mX5_copyFrom) dX5_copyFrom_122 rfl) (kF (M := mX5_copyFrom) (kf := 7) (kR_n (M := mX5_copyFrom) dX5_copyFrom_123 rfl) dX5_copyFrom_124 clX5 lkX5_31 (by decide)) dX5_copyFrom_127 clX5 lkX5_31 (by decide) rfl rfl) (kSeq (M := mX5_copyFrom) (kPF (M := mX5_copyFrom) (kf := 8) (kR_n (M := mX5_copyFrom) dX5_copyFrom_130 rfl) (kF (M := mX5_copyFrom) (kf := 8) (kR_n (M := mX5_copyFrom) dX5_copyFrom_131 rfl) dX5_copyFrom_132 clX5 lkX5_34 (by decide)) dX5_copyFrom_135 clX5 lkX5_34 (by decide) rfl rfl) (kSeq (M := mX5_copyFrom) (kPF (M := mX5_copyFrom) (kf := 9) (kR_n (M := mX5_copyFrom) dX5_copyFrom_138 rfl) (kF (M := mX5_copyFrom) (kf := 9) (kR_n (M := mX5_copyFrom) dX5_copyFrom_139 rfl) dX5_copyFrom_140 clX5 lkX5_37 (by decide)) dX5_copyFrom_143 clX5 lkX5_37 (by decide) rfl rfl) (kSeq (M := mX5_copyFrom) (kPF (M := mX5_copyFrom) (kf := 10) (kR_n (M := mX5_copyFrom) dX5_copyFrom_146 rfl) (kF (M := mX5_copyFrom) (kf := 10) (kR_n (M := mX5_copyFrom) dX5_copyFrom_147 rfl) dX5_copyFrom_148 clX5 lkX5_58 (by decide)) dX5_copyFrom_151 clX5 lkX5_58 (by decide) rfl rfl) (kSeq (M := mX5_copyFrom) (kPF (M := mX5_copyFrom) (kf := 11) (kR_n (M := mX5_copyFrom) dX5_copyFrom_154 rfl) (kF (M := mX5_copyFrom) (kf := 11) (kR_n (M := mX5_copyFrom) dX5_copyFrom_155 rfl) dX5_copyFrom_156 clX5 lkX5_61 (by decide)) dX5_copyFrom_159 clX5 lkX5_61 (by decide) rfl rfl) (kSeq (M := mX5_copyFrom) (kPF (M := mX5_copyFrom) (kf := 12) (kR_n (M := mX5_copyFrom) dX5_copyFrom_162 rfl) (kF (M := mX5_copyFrom) (kf := 12) (kR_n (M := mX5_copyFrom) dX5_copyFrom_163 rfl) dX5_copyFrom_164 clX5 lkX5_64 (by decide)) dX5_copyFrom_167 clX5 lkX5_64 (by decide) rfl rfl) (kRv (M := mX5_copyFrom) dX5_copyFrom_170))))))))))))))
def fX5_copyFrom : zFV := mV bX5_copyFrom
theorem ctX5_copyFrom : CtV yX5_copyFrom cX5_copyFrom 3 2 0 0 43 2 fX5_copyFrom := ctV mdX5_copyFrom (Nat.le_of_ble_eq_true rfl) kX5_copyFrom
/-! TrophyPlates$Shop.hasPlate -/
theorem mdX5_hasPlate : zMd yX5_hasPlate cX5_hasPlate 2 (some .boolean) 1 := ⟨cdX5_hasPlate, iniX5, ⟨by decide +kernel, by decide +kernel⟩, by decide +kernel, by decide +kernel⟩
def bX5_hasPlate : zSS := sRi (eB (bAnd (bZ z_ge (eL 1)) (bCmp o_lt (eL 1) (eF 5 3 (rL 0)))))
abbrev mX5_hasPlate : zM := (cX5_hasPlate, RX5, 2, some .boolean, { frames := 0, cells := 0, slots := 0, locals := 0 }, false)
set_option maxHeartbeats 400000 in
set_option maxRecDepth 20000 in
theorem kX5_hasPlate : ssOk mX5_hasPlate 0 18 bX5_hasPlate := (kRi (M := mX5_hasPlate) (kEB (M := mX5_hasPlate) (kBand (M := mX5_hasPlate) (kZ_geF (M := mX5_hasPlate) (kL_n (M := mX5_hasPlate) dX5_hasPlate_0 rfl) dX5_hasPlate_1 (by decide) rfl) (kB_ltF (M := mX5_hasPlate) (kL_n (M := mX5_hasPlate) dX5_hasPlate_4 rfl) (kF (M := mX5_hasPlate) (kf := 3) (kR_n (M := mX5_hasPlate) dX5_hasPlate_5 rfl) dX5_hasPlate_6 clX5 lkX5_42 (by decide)) dX5_hasPlate_9 (by decide) rfl)) dX5_hasPlate_12 dX5_hasPlate_13 (by decide) dX5_hasPlate_16 rfl) dX5_hasPlate_17)
def fX5_hasPlate : zFI := mZ bX5_hasPlate
theorem ctX5_hasPlate : CtI yX5_hasPlate cX5_hasPlate 2 .boolean 0 0 2 fX5_hasPlate := ctZ mdX5_hasPlate (Nat.le_of_ble_eq_true rfl) kX5_hasPlate
/-! TrophyPlates$Shop.hasShield -/
theorem mdX5_hasShield : zMd yX5_hasShield cX5_hasShield 2 (some .boolean) 1 := ⟨cdX5_hasShield, iniX5, ⟨by decide +kernel, by decide +kernel⟩, by decide +kernel, by decide +kernel⟩
def bX5_hasShield : zSS := sRi (eB (bAnd (bZ z_ge (eL 1)) (bCmp o_lt (eL 1) (eF 5 4 (rL 0)))))
abbrev mX5_hasShield : zM := (cX5_hasShield, RX5, 2, some .boolean, { frames := 0, cells := 0, slots := 0, locals := 0 }, false)
set_option maxHeartbeats 400000 in
set_option maxRecDepth 20000 in
theorem kX5_hasShield : ssOk mX5_hasShield 0 18 bX5_hasShield := (kRi (M := mX5_hasShield) (kEB (M := mX5_hasShield) (kBand (M := mX5_hasShield) (kZ_geF (M := mX5_hasShield) (kL_n (M := mX5_hasShield) dX5_hasShield_0 rfl) dX5_hasShield_1 (by decide) rfl) (kB_ltF (M := mX5_hasShield) (kL_n (M := mX5_hasShield) dX5_hasShield_4 rfl) (kF (M := mX5_hasShield) (kf := 4) (kR_n (M := mX5_hasShield) dX5_hasShield_5 rfl) dX5_hasShield_6 clX5 lkX5_49 (by decide)) dX5_hasShield_9 (by decide) rfl)) dX5_hasShield_12 dX5_hasShield_13 (by decide) dX5_hasShield_16 rfl) dX5_hasShield_17)
def fX5_hasShield : zFI := mZ bX5_hasShield
theorem ctX5_hasShield : CtI yX5_hasShield cX5_hasShield 2 .boolean 0 0 2 fX5_hasShield := ctZ mdX5_hasShield (Nat.le_of_ble_eq_true rfl) kX5_hasShield
/-! TrophyPlates$Shop.hasOrder -/
theorem mdX5_hasOrder : zMd yX5_hasOrder cX5_hasOrder 2 (some .boolean) 1 := ⟨cdX5_hasOrder, iniX5, ⟨by decide +kernel, by decide +kernel⟩, by decide +kernel, by decide +kernel⟩
def bX5_hasOrder : zSS := sRi (eB (bAnd (bZ z_ge (eL 1)) (bCmp o_lt (eL 1) (eF 5 5 (rL 0)))))
abbrev mX5_hasOrder : zM := (cX5_hasOrder, RX5, 2, some .boolean, { frames := 0, cells := 0, slots := 0, locals := 0 }, false)
set_option maxHeartbeats 400000 in
set_option maxRecDepth 20000 in
theorem kX5_hasOrder : ssOk mX5_hasOrder 0 18 bX5_hasOrder := (kRi (M := mX5_hasOrder) (kEB (M := mX5_hasOrder) (kBand (M := mX5_hasOrder) (kZ_geF (M := mX5_hasOrder) (kL_n (M := mX5_hasOrder) dX5_hasOrder_0 rfl) dX5_hasOrder_1 (by decide) rfl) (kB_ltF (M := mX5_hasOrder) (kL_n (M := mX5_hasOrder) dX5_hasOrder_4 rfl) (kF (M := mX5_hasOrder) (kf := 5) (kR_n (M := mX5_hasOrder) dX5_hasOrder_5 rfl) dX5_hasOrder_6 clX5 lkX5_52 (by decide)) dX5_hasOrder_9 (by decide) rfl)) dX5_hasOrder_12 dX5_hasOrder_13 (by decide) dX5_hasOrder_16 rfl) dX5_hasOrder_17)
def fX5_hasOrder : zFI := mZ bX5_hasOrder
theorem ctX5_hasOrder : CtI yX5_hasOrder cX5_hasOrder 2 .boolean 0 0 2 fX5_hasOrder := ctZ mdX5_hasOrder (Nat.le_of_ble_eq_true rfl) kX5_hasOrder
/-! TrophyPlates$Shop.isWorking -/
theorem mdX5_isWorking : zMd yX5_isWorking cX5_isWorking 1 (some .boolean) 0 := ⟨cdX5_isWorking, iniX5, ⟨by decide +kernel, by decide +kernel⟩, by decide +kernel, by decide +kernel⟩
def bX5_isWorking : zSS := sRi (eB (bAnd (bZ z_ne (eCV 5 (rL 0) (aI (eF 5 6 (rL 0)) (aN)) fX5_hasOrder)) (bZ z_ne (eCV 5 (rL 0) (aI (eF 5 7 (rL 0)) (aN)) fX5_hasPlate))))
abbrev mX5_isWorking : zM := (cX5_isWorking, RX5, 1, some .boolean, { frames := 1, cells := 0, slots := 0, locals := 21 }, false)
set_option maxHeartbeats 400000 in
set_option maxRecDepth 20000 in
theorem kX5_isWorking : ssOk mX5_isWorking 0 28 bX5_isWorking := (kRi (M := mX5_isWorking) (kEB (M := mX5_isWorking) (kBand (M := mX5_isWorking) (kZ_neF (M := mX5_isWorking) (kCV (M := mX5_isWorking) (ci := 5) (kR_n (M := mX5_isWorking) dX5_isWorking_0 rfl) (kaI (M := mX5_isWorking) (kF (M := mX5_isWorking) (kf := 6) (kR_n (M := mX5_isWorking) dX5_isWorking_1 rfl) dX5_isWorking_2 clX5 lkX5_27 (by decide)) (kaN (M := mX5_isWorking))) dX5_isWorking_5 ctX5_hasOrder mdX5_hasOrder imX5_hasOrder seX5_hasOrder clX5 mkX5_67 ⟨(Nat.le_of_ble_eq_true rfl), (Nat.le_of_ble_eq_true rfl)⟩ (Nat.le_of_ble_eq_true rfl)) dX5_isWorking_8 (by decide) rfl) (kZ_neF (M := mX5_isWorking) (kCV (M := mX5_isWorking) (ci := 5) (kR_n (M := mX5_isWorking) dX5_isWorking_11 rfl) (kaI (M := mX5_isWorking) (kF (M := mX5_isWorking) (kf := 7) (kR_n (M := mX5_isWorking) dX5_isWorking_12 rfl) dX5_isWorking_13 clX5 lkX5_31 (by decide)) (kaN (M := mX5_isWorking))) dX5_isWorking_16 ctX5_hasPlate mdX5_hasPlate imX5_hasPlate seX5_hasPlate clX5 mkX5_71 ⟨(Nat.le_of_ble_eq_true rfl), (Nat.le_of_ble_eq_true rfl)⟩ (Nat.le_of_ble_eq_true rfl)) dX5_isWorking_19 (by decide) rfl)) dX5_isWorking_22 dX5_isWorking_23 (by decide) dX5_isWorking_26 rfl) dX5_isWorking_27)
def fX5_isWorking : zFI := mZ bX5_isWorking
theorem ctX5_isWorking : CtI yX5_isWorking cX5_isWorking 1 .boolean 1 21 1 fX5_isWorking := ctZ mdX5_isWorking (Nat.le_of_ble_eq_true rfl) kX5_isWorking
/-! TrophyPlates$Shop.addPlate -/
theorem mdX5_addPlate : zMd yX5_addPlate cX5_addPlate 3 (some .int) 2 := ⟨cdX5_addPlate, iniX5, ⟨by decide +kernel, by decide +kernel⟩, by decide +kernel, by decide +kernel⟩
def bX5_addPlate : zSS := sSeq (sCV 4 (rQ 4 (rF 5 0 (rL 0)) (eF 5 3 (rL 0))) (aI (eL 1) (aI (eL 2) (aN))) fX4_makeNew) (sSeq (sFa (· + ·) 5 3 (rL 0) (eC 1)) (sRi (eOp (· - ·) (eF 5 3 (rL 0)) (eC 1))))
abbrev mX5_addPlate : zM := (cX5_addPlate, RX5, 3, some .int, { frames := 2, cells := 0, slots := 0, locals := 42 }, false)
set_option maxHeartbeats 400000 in
set_option maxRecDepth 20000 in
theorem kX5_addPlate : ssOk mX5_addPlate 0 31 bX5_addPlate := (kSeq (M := mX5_addPlate) (ksCV (M := mX5_addPlate) (ci := 4) (kQ (M := mX5_addPlate) (ci := 4) (kRF (M := mX5_addPlate) (kf := 0) (kR_n (M := mX5_addPlate) dX5_addPlate_0 rfl) dX5_addPlate_1 clX5 lkX5_11 (by decide)) (kF (M := mX5_addPlate) (kf := 3) (kR_n (M := mX5_addPlate) dX5_addPlate_4 rfl) dX5_addPlate_5 clX5 lkX5_42 (by decide)) dX5_addPlate_8 (by first | exact Or.inl ⟨rfl, rfl⟩ | exact Or.inr (Or.inl ⟨rfl, rfl⟩) | exact Or.inr (Or.inr ⟨rfl, rfl⟩))) (kaI (M := mX5_addPlate) (kL_n (M := mX5_addPlate) dX5_addPlate_9 rfl) (kaI (M := mX5_addPlate) (kL_n (M := mX5_addPlate) dX5_addPlate_10 rfl) (kaN (M := mX5_addPlate)))) dX5_addPlate_11 ctX4_makeNew mdX4_makeNew imX4_makeNew seX4_makeNew clX4 mkX5_74 ⟨(Nat.le_of_ble_eq_true rfl), (Nat.le_of_ble_eq_true rfl)⟩) (kSeq (M := mX5_addPlate) (kPFaddsub (M := mX5_addPlate) (kf := 3) (Or.inl ⟨rfl, rfl⟩) (kR_n (M := mX5_addPlate) dX5_addPlate_14 rfl) dX5_addPlate_15 dX5_addPlate_16 (kC_ic (M := mX5_addPlate) (v := 1) dX5_addPlate_19 kc_iconst_1) dX5_addPlate_20 dX5_addPlate_21 clX5 lkX5_42 lkX5_42 (by decide) rfl rfl) (kRi (M := mX5_addPlate) (kSub (M := mX5_addPlate) (kF (M := mX5_addPlate) (kf := 3) (kR_n (M := mX5_addPlate) dX5_addPlate_24 rfl) dX5_addPlate_25 clX5 lkX5_42 (by decide)) (kC_ic (M := mX5_addPlate) (v := 1) dX5_addPlate_28 kc_iconst_1) dX5_addPlate_29) dX5_addPlate_30)))
def fX5_addPlate : zFI := mI bX5_addPlate
theorem ctX5_addPlate : CtI yX5_addPlate cX5_addPlate 3 .int 2 42 3 fX5_addPlate := ctI mdX5_addPlate (Nat.le_of_ble_eq_true rfl) kX5_addPlate
/-! TrophyPlates$Shop.hangShield -/
theorem mdX5_hangShield : zMd yX5_hangShield cX5_hangShield 2 (some .int) 1 := ⟨cdX5_hangShield, iniX5, ⟨by decide +kernel, by decide +kernel⟩, by decide +kernel, by decide +kernel⟩
def bX5_hangShield : zSS := sSeq (sA (rF 5 1 (rL 0)) (eF 5 4 (rL 0)) (eL 1)) (sSeq (sFa (· + ·) 5 4 (rL 0) (eC 1)) (sRi (eOp (· - ·) (eF 5 4 (rL 0)) (eC 1))))
abbrev mX5_hangShield : zM := (cX5_hangShield, RX5, 2, some .int, { frames := 0, cells := 0, slots := 0, locals := 0 }, false)
set_option maxHeartbeats 400000 in
set_option maxRecDepth 20000 in
theorem kX5_hangShield : ssOk mX5_hangShield 0 27 bX5_hangShield := (kSeq (M := mX5_hangShield) (kPA (M := mX5_hangShield) (kRF (M := mX5_hangShield) (kf := 1) (kR_n (M := mX5_hangShield) dX5_hangShield_0 rfl) dX5_hangShield_1 clX5 lkX5_17 (by decide)) (kF (M := mX5_hangShield) (kf := 4) (kR_n (M := mX5_hangShield) dX5_hangShield_4 rfl) dX5_hangShield_5 clX5 lkX5_49 (by decide)) (kL_n (M := mX5_hangShield) dX5_hangShield_8 rfl) dX5_hangShield_9) (kSeq (M := mX5_hangShield) (kPFaddsub (M := mX5_hangShield) (kf := 4) (Or.inl ⟨rfl, rfl⟩) (kR_n (M := mX5_hangShield) dX5_hangShield_10 rfl) dX5_hangShield_11 dX5_hangShield_12 (kC_ic (M := mX5_hangShield) (v := 1) dX5_hangShield_15 kc_iconst_1) dX5_hangShield_16 dX5_hangShield_17 clX5 lkX5_49 lkX5_49 (by decide) rfl rfl) (kRi (M := mX5_hangShield) (kSub (M := mX5_hangShield) (kF (M := mX5_hangShield) (kf := 4) (kR_n (M := mX5_hangShield) dX5_hangShield_20 rfl) dX5_hangShield_21 clX5 lkX5_49 (by decide)) (kC_ic (M := mX5_hangShield) (v := 1) dX5_hangShield_24 kc_iconst_1) dX5_hangShield_25) dX5_hangShield_26)))
def fX5_hangShield : zFI := mI bX5_hangShield
theorem ctX5_hangShield : CtI yX5_hangShield cX5_hangShield 2 .int 0 0 2 fX5_hangShield := ctI mdX5_hangShield (Nat.le_of_ble_eq_true rfl) kX5_hangShield
/-! TrophyPlates$Shop.grindSide -/
theorem mdX5_grindSide : zMd yX5_grindSide cX5_grindSide 3 (none) 2 := ⟨cdX5_grindSide, iniX5, ⟨by decide +kernel, by decide +kernel⟩, by decide +kernel, by decide +kernel⟩
def bX5_grindSide : zSS := sSeq (sCV 4 (rL 1) (aI (eL 2) (aN)) fX4_grindOff) (sSeq (sFa (· + ·) 5 12 (rL 0) (eC 1)) (sRv))
abbrev mX5_grindSide : zM := (cX5_grindSide, RX5, 3, none, { frames := 2, cells := 0, slots := 0, locals := 43 }, false)
set_option maxHeartbeats 400000 in
set_option maxRecDepth 20000 in
theorem kX5_grindSide : ssOk mX5_grindSide 0 16 bX5_grindSide := (kSeq (M := mX5_grindSide) (ksCV (M := mX5_grindSide) (ci := 4) (kR_n (M := mX5_grindSide) dX5_grindSide_0 rfl) (kaI (M := mX5_grindSide) (kL_n (M := mX5_grindSide) dX5_grindSide_1 rfl) (kaN (M := mX5_grindSide))) dX5_grindSide_2 ctX4_grindOff mdX4_grindOff imX4_grindOff seX4_grindOff clX4 mkX5_78 ⟨(Nat.le_of_ble_eq_true rfl), (Nat.le_of_ble_eq_true rfl)⟩) (kSeq (M := mX5_grindSide) (kPFaddsub (M := mX5_grindSide) (kf := 12) (Or.inl ⟨rfl, rfl⟩) (kR_n (M := mX5_grindSide) dX5_grindSide_5 rfl) dX5_grindSide_6 dX5_grindSide_7 (kC_ic (M := mX5_grindSide) (v := 1) dX5_grindSide_10 kc_iconst_1) dX5_grindSide_11 dX5_grindSide_12 clX5 lkX5_64 lkX5_64 (by decide) rfl rfl) (kRv (M := mX5_grindSide) dX5_grindSide_15)))
def fX5_grindSide : zFV := mV bX5_grindSide
theorem ctX5_grindSide : CtV yX5_grindSide cX5_grindSide 3 2 0 0 43 3 fX5_grindSide := ctV mdX5_grindSide (Nat.le_of_ble_eq_true rfl) kX5_grindSide
/-! TrophyPlates$Shop.platesIn -/
theorem mdX5_platesIn : zMd yX5_platesIn cX5_platesIn 4 (some .int) 1 := ⟨cdX5_platesIn, iniX5, ⟨by decide +kernel, by decide +kernel⟩, by decide +kernel, by decide +kernel⟩
def bX5_platesIn : zSS := sSeq (sLi 2 (eC 0)) (sSeq (sBlk (sSeq (sLi 3 (eC 0)) (sW 4000 (bCmp o_lt (eL 3) (eF 5 3 (rL 0))) (sSeq (sIf (bCmp o_eq (eF 4 2 (rQ 4 (rF 5 0 (rL 0)) (eL 3))) (eL 1)) (sInc 2 1) sNop) (sInc 3 1))))) (sRi (eL 2)))
abbrev mX5_platesIn : zM := (cX5_platesIn, RX5, 4, some .int, { frames := 0, cells := 0, slots := 0, locals := 0 }, false)
set_option maxHeartbeats 400000 in
set_option maxRecDepth 20000 in
theorem kX5_platesIn : ssOk mX5_platesIn 0 36 bX5_platesIn := (kSeq (M := mX5_platesIn) (kSi_n (M := mX5_platesIn) (kC_ic (M := mX5_platesIn) (v := 0) dX5_platesIn_0 kc_iconst_0) dX5_platesIn_1 rfl (by decide)) (kSeq (M := mX5_platesIn) (kBlk (M := mX5_platesIn) (kSeq (M := mX5_platesIn) (kSi_n (M := mX5_platesIn) (kC_ic (M := mX5_platesIn) (v := 0) dX5_platesIn_2 kc_iconst_0) dX5_platesIn_3 rfl (by decide)) (kWn (M := mX5_platesIn) (N := 4000) (kB_ltF (M := mX5_platesIn) (kL_n (M := mX5_platesIn) dX5_platesIn_4 rfl) (kF (M := mX5_platesIn) (kf := 3) (kR_n (M := mX5_platesIn) dX5_platesIn_5 rfl) dX5_platesIn_6 clX5 lkX5_42 (by decide)) dX5_platesIn_9 (by decide) rfl) (kGo (M := mX5_platesIn) (kSeq (M := mX5_platesIn) (kIf (M := mX5_platesIn) (kB_eqF (M := mX5_platesIn) (kF (M := mX5_platesIn) (kf := 2) (kQ (M := mX5_platesIn) (ci := 4) (kRF (M := mX5_platesIn) (kf := 0) (kR_n (M := mX5_platesIn) dX5_platesIn_12 rfl) dX5_platesIn_13 clX5 lkX5_11 (by decide)) (kL_n (M := mX5_platesIn) dX5_platesIn_16 rfl) dX5_platesIn_17 (by first | exact Or.inl ⟨rfl, rfl⟩ | exact Or.inr (Or.inl ⟨rfl, rfl⟩) | exact Or.inr (Or.inr ⟨rfl, rfl⟩))) dX5_platesIn_18 clX4 lkX5_82 (by decide)) (kL_n (M := mX5_platesIn) dX5_platesIn_21 rfl) dX5_platesIn_22 (by decide) rfl) (kInc (M := mX5_platesIn) (v := 1) dX5_platesIn_25 kc_iconst_1 (by decide)) (kNop (M := mX5_platesIn))) (kInc (M := mX5_platesIn) (v := 1) dX5_platesIn_28 kc_iconst_1 (by decide))) dX5_platesIn_31 (by decide))))) (kRi (M := mX5_platesIn) (kL_n (M := mX5_platesIn) dX5_platesIn_34 rfl) dX5_platesIn_35)))
def fX5_platesIn : zFI := mI bX5_platesIn
theorem ctX5_platesIn : CtI yX5_platesIn cX5_platesIn 4 .int 0 0 2 fX5_platesIn := ctI mdX5_platesIn (Nat.le_of_ble_eq_true rfl) kX5_platesIn
/-! TrophyPlates$Shop.platesOn -/
theorem mdX5_platesOn : zMd yX5_platesOn cX5_platesOn 4 (some .int) 1 := ⟨cdX5_platesOn, iniX5, ⟨by decide +kernel, by decide +kernel⟩, by decide +kernel, by decide +kernel⟩
def bX5_platesOn : zSS := sSeq (sLi 2 (eC 0)) (sSeq (sBlk (sSeq (sLi 3 (eC 0)) (sW 4000 (bCmp o_lt (eL 3) (eF 5 3 (rL 0))) (sSeq (sIf (bCmp o_eq (eF 4 5 (rQ 4 (rF 5 0 (rL 0)) (eL 3))) (eL 1)) (sInc 2 1) sNop) (sInc 3 1))))) (sRi (eL 2)))
abbrev mX5_platesOn : zM := (cX5_platesOn, RX5, 4, some .int, { frames := 0, cells := 0, slots := 0, locals := 0 }, false)
set_option maxHeartbeats 400000 in
set_option maxRecDepth 20000 in
theorem kX5_platesOn : ssOk mX5_platesOn 0 36 bX5_platesOn := (kSeq (M := mX5_platesOn) (kSi_n (M := mX5_platesOn) (kC_ic (M := mX5_platesOn) (v := 0) dX5_platesOn_0 kc_iconst_0) dX5_platesOn_1 rfl (by decide)) (kSeq (M := mX5_platesOn) (kBlk (M := mX5_platesOn) (kSeq (M := mX5_platesOn) (kSi_n (M := mX5_platesOn) (kC_ic (M := mX5_platesOn) (v := 0) dX5_platesOn_2 kc_iconst_0) dX5_platesOn_3 rfl (by decide)) (kWn (M := mX5_platesOn) (N := 4000) (kB_ltF (M := mX5_platesOn) (kL_n (M := mX5_platesOn) dX5_platesOn_4 rfl) (kF (M := mX5_platesOn) (kf := 3) (kR_n (M := mX5_platesOn) dX5_platesOn_5 rfl) dX5_platesOn_6 clX5 lkX5_42 (by decide)) dX5_platesOn_9 (by decide) rfl) (kGo (M := mX5_platesOn) (kSeq (M := mX5_platesOn) (kIf (M := mX5_platesOn) (kB_eqF (M := mX5_platesOn) (kF (M := mX5_platesOn) (kf := 5) (kQ (M := mX5_platesOn) (ci := 4) (kRF (M := mX5_platesOn) (kf := 0) (kR_n (M := mX5_platesOn) dX5_platesOn_12 rfl) dX5_platesOn_13 clX5 lkX5_11 (by decide)) (kL_n (M := mX5_platesOn) dX5_platesOn_16 rfl) dX5_platesOn_17 (by first | exact Or.inl ⟨rfl, rfl⟩ | exact Or.inr (Or.inl ⟨rfl, rfl⟩) | exact Or.inr (Or.inr ⟨rfl, rfl⟩))) dX5_platesOn_18 clX4 lkX5_85 (by decide)) (kL_n (M := mX5_platesOn) dX5_platesOn_21 rfl) dX5_platesOn_22 (by decide) rfl) (kInc (M := mX5_platesOn) (v := 1) dX5_platesOn_25 kc_iconst_1 (by decide)) (kNop (M := mX5_platesOn))) (kInc (M := mX5_platesOn) (v := 1) dX5_platesOn_28 kc_iconst_1 (by decide))) dX5_platesOn_31 (by decide))))) (kRi (M := mX5_platesOn) (kL_n (M := mX5_platesOn) dX5_platesOn_34 rfl) dX5_platesOn_35)))
def fX5_platesOn : zFI := mI bX5_platesOn
theorem ctX5_platesOn : CtI yX5_platesOn cX5_platesOn 4 .int 0 0 2 fX5_platesOn := ctI mdX5_platesOn (Nat.le_of_ble_eq_true rfl) kX5_platesOn
/-! TrophyPlates$Shop.plateOfYear -/
theorem mdX5_plateOfYear : zMd yX5_plateOfYear cX5_plateOfYear 4 (some .int) 2 := ⟨cdX5_plateOfYear, iniX5, ⟨by decide +kernel, by decide +kernel⟩, by decide +kernel, by decide +kernel⟩
def bX5_plateOfYear : zSS := sSeq (sBlk (sSeq (sLi 3 (eC 0)) (sW 4000 (bCmp o_lt (eL 3) (eF 5 3 (rL 0))) (sSeq (sIf (bAnd (bCmp o_eq (eF 4 5 (rQ 4 (rF 5 0 (rL 0)) (eL 3))) (eL 1)) (bCmp o_eq (eF 4 6 (rQ 4 (rF 5 0 (rL 0)) (eL 3))) (eL 2))) (sRi (eL 3)) sNop) (sInc 3 1))))) (sRi (eC (-9)))
abbrev mX5_plateOfYear : zM := (cX5_plateOfYear, RX5, 4, some .int, { frames := 0, cells := 0, slots := 0, locals := 0 }, false)
set_option maxHeartbeats 400000 in
set_option maxRecDepth 20000 in
theorem kX5_plateOfYear : ssOk mX5_plateOfYear 0 47 bX5_plateOfYear := (kSeq (M := mX5_plateOfYear) (kBlk (M := mX5_plateOfYear) (kSeq (M := mX5_plateOfYear) (kSi_n (M := mX5_plateOfYear) (kC_ic (M := mX5_plateOfYear) (v := 0) dX5_plateOfYear_0 kc_iconst_0) dX5_plateOfYear_1 rfl (by decide)) (kWn (M := mX5_plateOfYear) (N := 4000) (kB_ltF (M := mX5_plateOfYear) (kL_n (M := mX5_plateOfYear) dX5_plateOfYear_2 rfl) (kF (M := mX5_plateOfYear) (kf := 3) (kR_n (M := mX5_plateOfYear) dX5_plateOfYear_3 rfl) dX5_plateOfYear_4 clX5 lkX5_42 (by decide)) dX5_plateOfYear_7 (by decide) rfl) (kGo (M := mX5_plateOfYear) (kSeq (M := mX5_plateOfYear) (kIf (M := mX5_plateOfYear) (kBand (M := mX5_plateOfYear) (kB_eqF (M := mX5_plateOfYear) (kF (M := mX5_plateOfYear) (kf := 5) (kQ (M := mX5_plateOfYear) (ci := 4) (kRF (M := mX5_plateOfYear) (kf := 0) (kR_n (M := mX5_plateOfYear) dX5_plateOfYear_10 rfl) dX5_plateOfYear_11 clX5 lkX5_11 (by decide)) (kL_n (M := mX5_plateOfYear) dX5_plateOfYear_14 rfl) dX5_plateOfYear_15 (by first | exact Or.inl ⟨rfl, rfl⟩ | exact Or.inr (Or.inl ⟨rfl, rfl⟩) | exact Or.inr (Or.inr ⟨rfl, rfl⟩))) dX5_plateOfYear_16 clX4 lkX5_85 (by decide)) (kL_n (M := mX5_plateOfYear) dX5_plateOfYear_19 rfl) dX5_plateOfYear_20 (by decide) rfl) (kB_eqF (M := mX5_plateOfYear) (kF (M := mX5_plateOfYear) (kf := 6) (kQ (M := mX5_plateOfYear) (ci := 4) (kRF (M := mX5_plateOfYear) (kf := 0) (kR_n (M := mX5_plateOfYear) dX5_plateOfYear_23 rfl) dX5_plateOfYear_24 clX5 lkX5_11 (by decide)) (kL_n (M := mX5_plateOfYear) dX5_plateOfYear_27 rfl) dX5_plateOfYear_28 (by first | exact Or.inl ⟨rfl, rfl⟩ | exact Or.inr (Or.inl ⟨rfl, rfl⟩) | exact Or.inr (Or.inr ⟨rfl, rfl⟩))) dX5_plateOfYear_29 clX4 lkX5_88 (by decide)) (kL_n (M := mX5_plateOfYear) dX5_plateOfYear_32 rfl) dX5_plateOfYear_33 (by decide) rfl)) (kRi (M := mX5_plateOfYear) (kL_n (M := mX5_plateOfYear) dX5_plateOfYear_36 rfl) dX5_plateOfYear_37) (kNop (M := mX5_plateOfYear))) (kInc (M := mX5_plateOfYear) (v := 1) dX5_plateOfYear_38 kc_iconst_1 (by decide))) dX5_plateOfYear_41 (by decide))))) (kRi (M := mX5_plateOfYear) (kC_bi (M := mX5_plateOfYear) (v := (-9)) dX5_plateOfYear_44 kc_bipush_m9) dX5_plateOfYear_46))
def fX5_plateOfYear : zFI := mI bX5_plateOfYear
theorem ctX5_plateOfYear : CtI yX5_plateOfYear cX5_plateOfYear 4 .int 0 0 3 fX5_plateOfYear := ctI mdX5_plateOfYear (Nat.le_of_ble_eq_true rfl) kX5_plateOfYear
/-! TrophyPlates$Shop.earliestYear -/
theorem mdX5_earliestYear : zMd yX5_earliestYear cX5_earliestYear 5 (some .int) 1 := ⟨cdX5_earliestYear, iniX5, ⟨by decide +kernel, by decide +kernel⟩, by decide +kernel, by decide +kernel⟩
def bX5_earliestYear : zSS := sSeq (sLi 2 (eC (-9))) (sSeq (sBlk (sSeq (sLi 3 (eC 0)) (sW 4000 (bCmp o_lt (eL 3) (eF 5 3 (rL 0))) (sSeq (sSeq (sLi 4 (eF 4 6 (rQ 4 (rF 5 0 (rL 0)) (eL 3)))) (sIf (bAnd (bCmp o_eq (eF 4 5 (rQ 4 (rF 5 0 (rL 0)) (eL 3))) (eL 1)) (bOr (bCmp o_eq (eL 2) (eC (-9))) (bCmp o_lt (eL 4) (eL 2)))) (sLi 2 (eL 4)) sNop)) (sInc 3 1))))) (sRi (eL 2)))
abbrev mX5_earliestYear : zM := (cX5_earliestYear, RX5, 5, some .int, { frames := 0, cells := 0, slots := 0, locals := 0 }, false)
set_option maxHeartbeats 400000 in
set_option maxRecDepth 20000 in
theorem kX5_earliestYear : ssOk mX5_earliestYear 0 60 bX5_earliestYear := (kSeq (M := mX5_earliestYear) (kSi_n (M := mX5_earliestYear) (kC_bi (M := mX5_earliestYear) (v := (-9)) dX5_earliestYear_0 kc_bipush_m9) dX5_earliestYear_2 rfl (by decide)) (kSeq (M := mX5_earliestYear) (kBlk (M := mX5_earliestYear) (kSeq (M := mX5_earliestYear) (kSi_n (M := mX5_earliestYear) (kC_ic (M := mX5_earliestYear) (v := 0) dX5_earliestYear_3 kc_iconst_0) dX5_earliestYear_4 rfl (by decide)) (kWn (M := mX5_earliestYear) (N := 4000) (kB_ltF (M := mX5_earliestYear) (kL_n (M := mX5_earliestYear) dX5_earliestYear_5 rfl) (kF (M := mX5_earliestYear) (kf := 3) (kR_n (M := mX5_earliestYear) dX5_earliestYear_6 rfl) dX5_earliestYear_7 clX5 lkX5_42 (by decide)) dX5_earliestYear_10 (by decide) rfl) (kGo (M := mX5_earliestYear) (kSeq (M := mX5_earliestYear) (kSeq (M := mX5_earliestYear) (kSi (M := mX5_earliestYear) (kF (M := mX5_earliestYear) (kf := 6) (kQ (M := mX5_earliestYear) (ci := 4) (kRF (M := mX5_earliestYear) (kf := 0) (kR_n (M := mX5_earliestYear) dX5_earliestYear_13 rfl) dX5_earliestYear_14 clX5 lkX5_11 (by decide)) (kL_n (M := mX5_earliestYear) dX5_earliestYear_17 rfl) dX5_earliestYear_18 (by first | exact Or.inl ⟨rfl, rfl⟩ | exact Or.inr (Or.inl ⟨rfl, rfl⟩) | exact Or.inr (Or.inr ⟨rfl, rfl⟩))) dX5_earliestYear_19 clX4 lkX5_88 (by decide)) dX5_earliestYear_22 (by decide)) (kIf (M := mX5_earliestYear) (kBand (M := mX5_earliestYear) (kB_eqF (M := mX5_earliestYear) (kF (M := mX5_earliestYear) (kf := 5) (kQ (M := mX5_earliestYear) (ci := 4) (kRF (M := mX5_earliestYear) (kf := 0) (kR_n (M := mX5_earliestYear) dX5_earliestYear_24 rfl) dX5_earliestYear_25 clX5 lkX5_11 (by decide)) (kL_n (M := mX5_earliestYear) dX5_earliestYear_28 rfl) dX5_earliestYear_29 (by first | exact Or.inl ⟨rfl, rfl⟩ | exact Or.inr (Or.inl ⟨rfl, rfl⟩) | exact Or.inr (Or.inr ⟨rfl, rfl⟩))) dX5_earliestYear_30 clX4 lkX5_85 (by decide)) (kL_n (M := mX5_earliestYear) dX5_earliestYear_33 rfl) dX5_earliestYear_34 (by decide) rfl) (kBor (M := mX5_earliestYear) (kB_eqT (M := mX5_earliestYear) (kL_n (M := mX5_earliestYear) dX5_earliestYear_37 rfl) (kC_bi (M := mX5_earliestYear) (v := (-9)) dX5_earliestYear_38 kc_bipush_m9) dX5_earliestYear_40 (by decide) rfl) (kB_ltF (M := mX5_earliestYear) (kL (M := mX5_earliestYear) dX5_earliestYear_43) (kL_n (M := mX5_earliestYear) dX5_earliestYear_45 rfl) dX5_earliestYear_46 (by decide) rfl))) (kSi_n (M := mX5_earliestYear) (kL (M := mX5_earliestYear) dX5_earliestYear_49) dX5_earliestYear_51 rfl (by decide)) (kNop (M := mX5_earliestYear)))) (kInc (M := mX5_earliestYear) (v := 1) dX5_earliestYear_52 kc_iconst_1 (by decide))) dX5_earliestYear_55 (by decide))))) (kRi (M := mX5_earliestYear) (kL_n (M := mX5_earliestYear) dX5_earliestYear_58 rfl) dX5_earliestYear_59)))
def fX5_earliestYear : zFI := mI bX5_earliestYear
theorem ctX5_earliestYear : CtI yX5_earliestYear cX5_earliestYear 5 .int 0 0 2 fX5_earliestYear := ctI mdX5_earliestYear (Nat.le_of_ble_eq_true rfl) kX5_earliestYear
/-! TrophyPlates$Shop.latestYear -/
theorem mdX5_latestYear : zMd yX5_latestYear cX5_latestYear 5 (some .int) 1 := ⟨cdX5_latestYear, iniX5, ⟨by decide +kernel, by decide +kernel⟩, by decide +kernel, by decide +kernel⟩
def bX5_latestYear : zSS := sSeq (sLi 2 (eC (-9))) (sSeq (sBlk (sSeq (sLi 3 (eC 0)) (sW 4000 (bCmp o_lt (eL 3) (eF 5 3 (rL 0))) (sSeq (sSeq (sLi 4 (eF 4 6 (rQ 4 (rF 5 0 (rL 0)) (eL 3)))) (sIf (bAnd (bCmp o_eq (eF 4 5 (rQ 4 (rF 5 0 (rL 0)) (eL 3))) (eL 1)) (bOr (bCmp o_eq (eL 2) (eC (-9))) (bCmp o_gt (eL 4) (eL 2)))) (sLi 2 (eL 4)) sNop)) (sInc 3 1))))) (sRi (eL 2)))
abbrev mX5_latestYear : zM := (cX5_latestYear, RX5, 5, some .int, { frames := 0, cells := 0, slots := 0, locals := 0 }, false)
set_option maxHeartbeats 400000 in
set_option maxRecDepth 20000 in
theorem kX5_latestYear : ssOk mX5_latestYear 0 60 bX5_latestYear := (kSeq (M := mX5_latestYear) (kSi_n (M := mX5_latestYear) (kC_bi (M := mX5_latestYear) (v := (-9)) dX5_latestYear_0 kc_bipush_m9) dX5_latestYear_2 rfl (by decide)) (kSeq (M := mX5_latestYear) (kBlk (M := mX5_latestYear) (kSeq (M := mX5_latestYear) (kSi_n (M := mX5_latestYear) (kC_ic (M := mX5_latestYear) (v := 0) dX5_latestYear_3 kc_iconst_0) dX5_latestYear_4 rfl (by decide)) (kWn (M := mX5_latestYear) (N := 4000) (kB_ltF (M := mX5_latestYear) (kL_n (M := mX5_latestYear) dX5_latestYear_5 rfl) (kF (M := mX5_latestYear) (kf := 3) (kR_n (M := mX5_latestYear) dX5_latestYear_6 rfl) dX5_latestYear_7 clX5 lkX5_42 (by decide)) dX5_latestYear_10 (by decide) rfl) (kGo (M := mX5_latestYear) (kSeq (M := mX5_latestYear) (kSeq (M := mX5_latestYear) (kSi (M := mX5_latestYear) (kF (M := mX5_latestYear) (kf := 6) (kQ (M := mX5_latestYear) (ci := 4) (kRF (M := mX5_latestYear) (kf := 0) (kR_n (M := mX5_latestYear) dX5_latestYear_13 rfl) dX5_latestYear_14 clX5 lkX5_11 (by decide)) (kL_n (M := mX5_latestYear) dX5_latestYear_17 rfl) dX5_latestYear_18 (by first | exact Or.inl ⟨rfl, rfl⟩ | exact Or.inr (Or.inl ⟨rfl, rfl⟩) | exact Or.inr (Or.inr ⟨rfl, rfl⟩))) dX5_latestYear_19 clX4 lkX5_88 (by decide)) dX5_latestYear_22 (by decide)) (kIf (M := mX5_latestYear) (kBand (M := mX5_latestYear) (kB_eqF (M := mX5_latestYear) (kF (M := mX5_latestYear) (kf := 5) (kQ (M := mX5_latestYear) (ci := 4) (kRF (M := mX5_latestYear) (kf := 0) (kR_n (M := mX5_latestYear) dX5_latestYear_24 rfl) dX5_latestYear_25 clX5 lkX5_11 (by decide)) (kL_n (M := mX5_latestYear) dX5_latestYear_28 rfl) dX5_latestYear_29 (by first | exact Or.inl ⟨rfl, rfl⟩ | exact Or.inr (Or.inl ⟨rfl, rfl⟩) | exact Or.inr (Or.inr ⟨rfl, rfl⟩))) dX5_latestYear_30 clX4 lkX5_85 (by decide)) (kL_n (M := mX5_latestYear) dX5_latestYear_33 rfl) dX5_latestYear_34 (by decide) rfl) (kBor (M := mX5_latestYear) (kB_eqT (M := mX5_latestYear) (kL_n (M := mX5_latestYear) dX5_latestYear_37 rfl) (kC_bi (M := mX5_latestYear) (v := (-9)) dX5_latestYear_38 kc_bipush_m9) dX5_latestYear_40 (by decide) rfl) (kB_gtF (M := mX5_latestYear) (kL (M := mX5_latestYear) dX5_latestYear_43) (kL_n (M := mX5_latestYear) dX5_latestYear_45 rfl) dX5_latestYear_46 (by decide) rfl))) (kSi_n (M := mX5_latestYear) (kL (M := mX5_latestYear) dX5_latestYear_49) dX5_latestYear_51 rfl (by decide)) (kNop (M := mX5_latestYear)))) (kInc (M := mX5_latestYear) (v := 1) dX5_latestYear_52 kc_iconst_1 (by decide))) dX5_latestYear_55 (by decide))))) (kRi (M := mX5_latestYear) (kL_n (M := mX5_latestYear) dX5_latestYear_58 rfl) dX5_latestYear_59)))
def fX5_latestYear : zFI := mI bX5_latestYear
theorem ctX5_latestYear : CtI yX5_latestYear cX5_latestYear 5 .int 0 0 2 fX5_latestYear := ctI mdX5_latestYear (Nat.le_of_ble_eq_true rfl) kX5_latestYear
/-! TrophyPlates$Shop.yearsLeftOut -/
theorem mdX5_yearsLeftOut : zMd yX5_yearsLeftOut cX5_yearsLeftOut 3 (some .int) 1 := ⟨cdX5_yearsLeftOut, iniX5, ⟨by decide +kernel, by decide +kernel⟩, by decide +kernel, by decide +kernel⟩
def bX5_yearsLeftOut : zSS := sSeq (sLi 2 (eCV 5 (rL 0) (aI (eL 1) (aN)) fX5_platesOn)) (sRi (eT (bZ z_eq (eL 2)) (eC 0) (eOp (· - ·) (eOp (· + ·) (eOp (· - ·) (eCV 5 (rL 0) (aI (eL 1) (aN)) fX5_latestYear) (eCV 5 (rL 0) (aI (eL 1) (aN)) fX5_earliestYear)) (eC 1)) (eL 2))))
abbrev mX5_yearsLeftOut : zM := (cX5_yearsLeftOut, RX5, 3, some .int, { frames := 1, cells := 0, slots := 0, locals := 24 }, false)
set_option maxHeartbeats 400000 in
set_option maxRecDepth 20000 in
theorem kX5_yearsLeftOut : ssOk mX5_yearsLeftOut 0 30 bX5_yearsLeftOut := (kSeq (M := mX5_yearsLeftOut) (kSi_n (M := mX5_yearsLeftOut) (kCV (M := mX5_yearsLeftOut) (ci := 5) (kR_n (M := mX5_yearsLeftOut) dX5_yearsLeftOut_0 rfl) (kaI (M := mX5_yearsLeftOut) (kL_n (M := mX5_yearsLeftOut) dX5_yearsLeftOut_1 rfl) (kaN (M := mX5_yearsLeftOut))) dX5_yearsLeftOut_2 ctX5_platesOn mdX5_platesOn imX5_platesOn seX5_platesOn clX5 mkX5_91 ⟨(Nat.le_of_ble_eq_true rfl), (Nat.le_of_ble_eq_true rfl)⟩ (Nat.le_of_ble_eq_true rfl)) dX5_yearsLeftOut_5 rfl (by decide)) (kRi (M := mX5_yearsLeftOut) (kT (M := mX5_yearsLeftOut) (kZ_eqF (M := mX5_yearsLeftOut) (kL_n (M := mX5_yearsLeftOut) dX5_yearsLeftOut_6 rfl) dX5_yearsLeftOut_7 (by decide) rfl) (kC_ic (M := mX5_yearsLeftOut) (v := 0) dX5_yearsLeftOut_10 kc_iconst_0) dX5_yearsLeftOut_11 (by decide) (kSub (M := mX5_yearsLeftOut) (kAdd (M := mX5_yearsLeftOut) (kSub (M := mX5_yearsLeftOut) (kCV (M := mX5_yearsLeftOut) (ci := 5) (kR_n (M := mX5_yearsLeftOut) dX5_yearsLeftOut_14 rfl) (kaI (M := mX5_yearsLeftOut) (kL_n (M := mX5_yearsLeftOut) dX5_yearsLeftOut_15 rfl) (kaN (M := mX5_yearsLeftOut))) dX5_yearsLeftOut_16 ctX5_latestYear mdX5_latestYear imX5_latestYear seX5_latestYear clX5 mkX5_95 ⟨(Nat.le_of_ble_eq_true rfl), (Nat.le_of_ble_eq_true rfl)⟩ (Nat.le_of_ble_eq_true rfl)) (kCV (M := mX5_yearsLeftOut) (ci := 5) (kR_n (M := mX5_yearsLeftOut) dX5_yearsLeftOut_19 rfl) (kaI (M := mX5_yearsLeftOut) (kL_n (M := mX5_yearsLeftOut) dX5_yearsLeftOut_20 rfl) (kaN (M := mX5_yearsLeftOut))) dX5_yearsLeftOut_21 ctX5_earliestYear mdX5_earliestYear imX5_earliestYear seX5_earliestYear clX5 mkX5_98 ⟨(Nat.le_of_ble_eq_true rfl), (Nat.le_of_ble_eq_true rfl)⟩ (Nat.le_of_ble_eq_true rfl)) dX5_yearsLeftOut_24) (kC_ic (M := mX5_yearsLeftOut) (v := 1) dX5_yearsLeftOut_25 kc_iconst_1) dX5_yearsLeftOut_26) (kL_n (M := mX5_yearsLeftOut) dX5_yearsLeftOut_27 rfl) dX5_yearsLeftOut_28)) dX5_yearsLeftOut_29))
def fX5_yearsLeftOut : zFI := mI bX5_yearsLeftOut
theorem ctX5_yearsLeftOut : CtI yX5_yearsLeftOut cX5_yearsLeftOut 3 .int 1 24 2 fX5_yearsLeftOut := ctI mdX5_yearsLeftOut (Nat.le_of_ble_eq_true rfl) kX5_yearsLeftOut
/-! TrophyPlates$Shop.fixPlate -/
theorem mdX5_fixPlate : zMd yX5_fixPlate cX5_fixPlate 5 (none) 3 := ⟨cdX5_fixPlate, iniX5, ⟨by decide +kernel, by decide +kernel⟩, by decide +kernel, by decide +kernel⟩
def bX5_fixPlate : zSS := sSeq (sCV 4 (rL 1) (aI (eL 2) (aI (eL 3) (aN))) fX4_fixOn) (sSeq (sIf (bAnd (bZ z_ne (eCV 5 (rL 0) (aI (eL 2) (aN)) fX5_hasShield)) (bCmp o_gt (eCV 5 (rL 0) (aI (eL 2) (aN)) fX5_platesOn) (eA (rF 5 1 (rL 0)) (eL 2)))) (sSeq (sLi 4 (eCV 5 (rL 0) (aI (eL 2) (aI (eCV 5 (rL 0) (aI (eL 2) (aN)) fX5_earliestYear) (aN))) fX5_plateOfYear)) (sIf (bZ z_ne (eCV 5 (rL 0) (aI (eL 4) (aN)) fX5_hasPlate)) (sCV 4 (rQ 4 (rF 5 0 (rL 0)) (eL 4)) (aN) fX4_putIntoDrawer) sNop)) sNop) (sRv))
abbrev mX5_fixPlate : zM := (cX5_fixPlate, RX5, 5, none, { frames := 1, cells := 0, slots := 0, locals := 24 }, false)
set_option maxHeartbeats 400000 in
set_option maxRecDepth 20000 in
theorem kX5_fixPlate : ssOk mX5_fixPlate 0 60 bX5_fixPlate := (kSeq (M := mX5_fixPlate) (ksCV (M := mX5_fixPlate) (ci := 4) (kR_n (M := mX5_fixPlate) dX5_fixPlate_0 rfl) (kaI (M := mX5_fixPlate) (kL_n (M := mX5_fixPlate) dX5_fixPlate_1 rfl) (kaI (M := mX5_fixPlate) (kL_n (M := mX5_fixPlate) dX5_fixPlate_2 rfl) (kaN (M := mX5_fixPlate)))) dX5_fixPlate_3 ctX4_fixOn mdX4_fixOn imX4_fixOn seX4_fixOn clX4 mkX5_101 ⟨(Nat.le_of_ble_eq_true rfl), (Nat.le_of_ble_eq_true rfl)⟩) (kSeq (M := mX5_fixPlate) (kIf (M := mX5_fixPlate) (kBand (M := mX5_fixPlate) (kZ_neF (M := mX5_fixPlate) (kCV (M := mX5_fixPlate) (ci := 5) (kR_n (M := mX5_fixPlate) dX5_fixPlate_6 rfl) (kaI (M := mX5_fixPlate) (kL_n (M := mX5_fixPlate) dX5_fixPlate_7 rfl) (kaN (M := mX5_fixPlate))) dX5_fixPlate_8 ctX5_hasShield mdX5_hasShield imX5_hasShield seX5_hasShield clX5 mkX5_104 ⟨(Nat.le_of_ble_eq_true rfl), (Nat.le_of_ble_eq_true rfl)⟩ (Nat.le_of_ble_eq_true rfl)) dX5_fixPlate_11 (by decide) rfl) (kB_gtF (M := mX5_fixPlate) (kCV (M := mX5_fixPlate) (ci := 5) (kR_n (M := mX5_fixPlate) dX5_fixPlate_14 rfl) (kaI (M := mX5_fixPlate) (kL_n (M := mX5_fixPlate) dX5_fixPlate_15 rfl) (kaN (M := mX5_fixPlate))) dX5_fixPlate_16 ctX5_platesOn mdX5_platesOn imX5_platesOn seX5_platesOn clX5 mkX5_91 ⟨(Nat.le_of_ble_eq_true rfl), (Nat.le_of_ble_eq_true rfl)⟩ (Nat.le_of_ble_eq_true rfl)) (kA (M := mX5_fixPlate) (kRF (M := mX5_fixPlate) (kf := 1) (kR_n (M := mX5_fixPlate) dX5_fixPlate_19 rfl) dX5_fixPlate_20 clX5 lkX5_17 (by decide)) (kL_n (M := mX5_fixPlate) dX5_fixPlate_23 rfl) dX5_fixPlate_24) dX5_fixPlate_25 (by decide) rfl)) (kSeq (M := mX5_fixPlate) (kSi (M := mX5_fixPlate) (kCV (M := mX5_fixPlate) (ci := 5) (kR_n (M := mX5_fixPlate) dX5_fixPlate_28 rfl) (kaI (M := mX5_fixPlate) (kL_n (M := mX5_fixPlate) dX5_fixPlate_29 rfl) (kaI (M := mX5_fixPlate) (kCV (M := mX5_fixPlate) (ci := 5) (kR_n (M := mX5_fixPlate) dX5_fixPlate_30 rfl) (kaI (M := mX5_fixPlate) (kL_n (M := mX5_fixPlate) dX5_fixPlate_31 rfl) (kaN (M := mX5_fixPlate))) dX5_fixPlate_32 ctX5_earliestYear mdX5_earliestYear imX5_earliestYear seX5_earliestYear clX5 mkX5_98 ⟨(Nat.le_of_ble_eq_true rfl), (Nat.le_of_ble_eq_true rfl)⟩ (Nat.le_of_ble_eq_true rfl)) (kaN (M := mX5_fixPlate)))) dX5_fixPlate_35 ctX5_plateOfYear mdX5_plateOfYear imX5_plateOfYear seX5_plateOfYear clX5 mkX5_107 ⟨(Nat.le_of_ble_eq_true rfl), (Nat.le_of_ble_eq_true rfl)⟩ (Nat.le_of_ble_eq_true rfl)) dX5_fixPlate_38 (by decide)) (kIf (M := mX5_fixPlate) (kZ_neF (M := mX5_fixPlate) (kCV (M := mX5_fixPlate) (ci := 5) (kR_n (M := mX5_fixPlate) dX5_fixPlate_40 rfl) (kaI (M := mX5_fixPlate) (kL (M := mX5_fixPlate) dX5_fixPlate_41) (kaN (M := mX5_fixPlate))) dX5_fixPlate_43 ctX5_hasPlate mdX5_hasPlate imX5_hasPlate seX5_hasPlate clX5 mkX5_71 ⟨(Nat.le_of_ble_eq_true rfl), (Nat.le_of_ble_eq_true rfl)⟩ (Nat.le_of_ble_eq_true rfl)) dX5_fixPlate_46 (by decide) rfl) (ksCV (M := mX5_fixPlate) (ci := 4) (kQ (M := mX5_fixPlate) (ci := 4) (kRF (M := mX5_fixPlate) (kf := 0) (kR_n (M := mX5_fixPlate) dX5_fixPlate_49 rfl) dX5_fixPlate_50 clX5 lkX5_11 (by decide)) (kL (M := mX5_fixPlate) dX5_fixPlate_53) dX5_fixPlate_55 (by first | exact Or.inl ⟨rfl, rfl⟩ | exact Or.inr (Or.inl ⟨rfl, rfl⟩) | exact Or.inr (Or.inr ⟨rfl, rfl⟩))) (kaN (M := mX5_fixPlate)) dX5_fixPlate_56 ctX4_putIntoDrawer mdX4_putIntoDrawer imX4_putIntoDrawer seX4_putIntoDrawer clX4 mkX5_111 ⟨(Nat.le_of_ble_eq_true rfl), (Nat.le_of_ble_eq_true rfl)⟩) (kNop (M := mX5_fixPlate)))) (kNop (M := mX5_fixPlate))) (kRv (M := mX5_fixPlate) dX5_fixPlate_59)))
def fX5_fixPlate : zFV := mV bX5_fixPlate
theorem ctX5_fixPlate : CtV yX5_fixPlate cX5_fixPlate 5 1 0 0 24 4 fX5_fixPlate := ctV mdX5_fixPlate (Nat.le_of_ble_eq_true rfl) kX5_fixPlate
/-! TrophyPlates$Shop.bestPlate -/
theorem mdX5_bestPlate : zMd yX5_bestPlate cX5_bestPlate 9 (some .int) 3 := ⟨cdX5_bestPlate, iniX5, ⟨by decide +kernel, by decide +kernel⟩, by decide +kernel, by decide +kernel⟩
def bX5_bestPlate : zSS := sSeq (sLi 4 (eC (-9))) (sSeq (sBlk (sSeq (sLi 5 (eC 0)) (sW 4000 (bCmp o_lt (eL 5) (eF 5 3 (rL 0))) (sSeq (sSeq (sLr 6 (rQ 4 (rF 5 0 (rL 0)) (eL 5))) (sSeq (sLi 7 (eT (bZ z_ne (eL 3)) (eCV 4 (rL 6) (aI (eL 2) (aN)) fX4_sideToGrind) (eCV 4 (rL 6) (aI (eL 2) (aN)) fX4_readySide))) (sSeq (sLi 8 (eB (bAnd (bAnd (bZ z_eq (eF 4 2 (rL 6))) (bCmp o_ge (eF 4 0 (rL 6)) (eL 1))) (bCmp o_ne (eL 7) (eC (-9)))))) (sIf (bAnd (bZ z_ne (eL 8)) (bOr (bCmp o_eq (eL 4) (eC (-9))) (bZ z_ne (eCV 4 (rL 6) (aR (rQ 4 (rF 5 0 (rL 0)) (eL 4)) (aN)) fX4_isBetterThan)))) (sLi 4 (eL 5)) sNop)))) (sInc 5 1))))) (sRi (eL 4)))
abbrev mX5_bestPlate : zM := (cX5_bestPlate, RX5, 9, some .int, { frames := 3, cells := 0, slots := 0, locals := 63 }, false)
set_option maxHeartbeats 400000 in
set_option maxRecDepth 20000 in
theorem kX5_bestPlate : ssOk mX5_bestPlate 0 117 bX5_bestPlate := (kSeq (M := mX5_bestPlate) (kSi (M := mX5_bestPlate) (kC_bi (M := mX5_bestPlate) (v := (-9)) dX5_bestPlate_0 kc_bipush_m9) dX5_bestPlate_2 (by decide)) (kSeq (M := mX5_bestPlate) (kBlk (M := mX5_bestPlate) (kSeq (M := mX5_bestPlate) (kSi (M := mX5_bestPlate) (kC_ic (M := mX5_bestPlate) (v := 0) dX5_bestPlate_4 kc_iconst_0) dX5_bestPlate_5 (by decide)) (kWn (M := mX5_bestPlate) (N := 4000) (kB_ltF (M := mX5_bestPlate) (kL (M := mX5_bestPlate) dX5_bestPlate_7) (kF (M := mX5_bestPlate) (kf := 3) (kR_n (M := mX5_bestPlate) dX5_bestPlate_9 rfl) dX5_bestPlate_10 clX5 lkX5_42 (by decide)) dX5_bestPlate_13 (by decide) rfl) (kGo (M := mX5_bestPlate) (kSeq (M := mX5_bestPlate) (kSeq (M := mX5_bestPlate) (kSr (M := mX5_bestPlate) (kQ (M := mX5_bestPlate) (ci := 4) (kRF (M := mX5_bestPlate) (kf := 0) (kR_n (M := mX5_bestPlate) dX5_bestPlate_16 rfl) dX5_bestPlate_17 clX5 lkX5_11 (by decide)) (kL (M := mX5_bestPlate) dX5_bestPlate_20) dX5_bestPlate_22 (by first | exact Or.inl ⟨rfl, rfl⟩ | exact Or.inr (Or.inl ⟨rfl, rfl⟩) | exact Or.inr (Or.inr ⟨rfl, rfl⟩))) dX5_bestPlate_23 (by decide)) (kSeq (M := mX5_bestPlate) (kSi (M := mX5_bestPlate) (kT (M := mX5_bestPlate) (kZ_neF (M := mX5_bestPlate) (kL_n (M := mX5_bestPlate) dX5_bestPlate_25 rfl) dX5_bestPlate_26 (by decide) rfl) (kCV (M := mX5_bestPlate) (ci := 4) (kR (M := mX5_bestPlate) dX5_bestPlate_29) (kaI (M := mX5_bestPlate) (kL_n (M := mX5_bestPlate) dX5_bestPlate_31 rfl) (kaN (M := mX5_bestPlate))) dX5_bestPlate_32 ctX4_sideToGrind mdX4_sideToGrind imX4_sideToGrind seX4_sideToGrind clX4 mkX5_118 ⟨(Nat.le_of_ble_eq_true rfl), (Nat.le_of_ble_eq_true rfl)⟩ (Nat.le_of_ble_eq_true rfl)) dX5_bestPlate_35 (by decide) (kCV (M := mX5_bestPlate) (ci := 4) (kR (M := mX5_bestPlate) dX5_bestPlate_38) (kaI (M := mX5_bestPlate) (kL_n (M := mX5_bestPlate) dX5_bestPlate_40 rfl) (kaN (M := mX5_bestPlate))) dX5_bestPlate_41 ctX4_readySide mdX4_readySide imX4_readySide seX4_readySide clX4 mkX5_121 ⟨(Nat.le_of_ble_eq_true rfl), (Nat.le_of_ble_eq_true rfl)⟩ (Nat.le_of_ble_eq_true rfl))) dX5_bestPlate_44 (by decide)) (kSeq (M := mX5_bestPlate) (kSi (M := mX5_bestPlate) (kEB (M := mX5_bestPlate) (kBand (M := mX5_bestPlate) (kBand (M := mX5_bestPlate) (kZ_eqF (M := mX5_bestPlate) (kF (M := mX5_bestPlate) (kf := 2) (kR (M := mX5_bestPlate) dX5_bestPlate_46) dX5_bestPlate_48 clX4 lkX5_82 (by decide)) dX5_bestPlate_51 (by decide) rfl) (kB_geF (M := mX5_bestPlate) (kF (M := mX5_bestPlate) (kf := 0) (kR (M := mX5_bestPlate) dX5_bestPlate_54) dX5_bestPlate_56 clX4 lkX5_124 (by decide)) (kL_n (M := mX5_bestPlate) dX5_bestPlate_59 rfl) dX5_bestPlate_60 (by decide) rfl)) (kB_neF (M := mX5_bestPlate) (kL (M := mX5_bestPlate) dX5_bestPlate_63) (kC_bi (M := mX5_bestPlate) (v := (-9)) dX5_bestPlate_65 kc_bipush_m9) dX5_bestPlate_67 (by decide) rfl)) dX5_bestPlate_70 dX5_bestPlate_71 (by decide) dX5_bestPlate_74 rfl) dX5_bestPlate_75 (by decide)) (kIf (M := mX5_bestPlate) (kBand (M := mX5_bestPlate) (kZ_neF (M := mX5_bestPlate) (kL (M := mX5_bestPlate) dX5_bestPlate_77) dX5_bestPlate_79 (by decide) rfl) (kBor (M := mX5_bestPlate) (kB_eqT (M := mX5_bestPlate) (kL (M := mX5_bestPlate) dX5_bestPlate_82) (kC_bi (M := mX5_bestPlate) (v := (-9)) dX5_bestPlate_84 kc_bipush_m9) dX5_bestPlate_86 (by decide) rfl) (kZ_neF (M := mX5_bestPlate) (kCV (M := mX5_bestPlate) (ci := 4) (kR (M := mX5_bestPlate) dX5_bestPlate_89) (kaR (M := mX5_bestPlate) (kQ (M := mX5_bestPlate) (ci := 4) (kRF (M := mX5_bestPlate) (kf := 0) (kR_n (M := mX5_bestPlate) dX5_bestPlate_91 rfl) dX5_bestPlate_92 clX5 lkX5_11 (by decide)) (kL (M := mX5_bestPlate) dX5_bestPlate_95) dX5_bestPlate_97 (by first | exact Or.inl ⟨rfl, rfl⟩ | exact Or.inr (Or.inl ⟨rfl, rfl⟩) | exact Or.inr (Or.inr ⟨rfl, rfl⟩))) (kaN (M := mX5_bestPlate))) dX5_bestPlate_98 ctX4_isBetterThan mdX4_isBetterThan imX4_isBetterThan seX4_isBetterThan clX4 mkX5_127 ⟨(Nat.le_of_ble_eq_true rfl), (Nat.le_of_ble_eq_true rfl)⟩ (Nat.le_of_ble_eq_true rfl)) dX5_bestPlate_101 (by decide) rfl))) (kSi (M := mX5_bestPlate) (kL (M := mX5_bestPlate) dX5_bestPlate_104) dX5_bestPlate_106 (by decide)) (kNop (M := mX5_bestPlate)))))) (kInc (M := mX5_bestPlate) (v := 1) dX5_bestPlate_108 kc_iconst_1 (by decide))) dX5_bestPlate_111 (by decide))))) (kRi (M := mX5_bestPlate) (kL (M := mX5_bestPlate) dX5_bestPlate_114) dX5_bestPlate_116)))
def fX5_bestPlate : zFI := mI bX5_bestPlate
theorem ctX5_bestPlate : CtI yX5_bestPlate cX5_bestPlate 9 .int 3 63 4 fX5_bestPlate := ctI mdX5_bestPlate (Nat.le_of_ble_eq_true rfl) kX5_bestPlate
/-! TrophyPlates$Shop.rushes -/
theorem mdX5_rushes : zMd yX5_rushes cX5_rushes 3 (some .int) 0 := ⟨cdX5_rushes, iniX5, ⟨by decide +kernel, by decide +kernel⟩, by decide +kernel, by decide +kernel⟩
def bX5_rushes : zSS := sSeq (sLi 1 (eC 0)) (sSeq (sBlk (sSeq (sLi 2 (eC 0)) (sW 4000 (bCmp o_lt (eL 2) (eF 5 5 (rL 0))) (sSeq (sIf (bZ z_ne (eF 3 5 (rQ 3 (rF 5 2 (rL 0)) (eL 2)))) (sInc 1 1) sNop) (sInc 2 1))))) (sRi (eL 1)))
abbrev mX5_rushes : zM := (cX5_rushes, RX5, 3, some .int, { frames := 0, cells := 0, slots := 0, locals := 0 }, false)
set_option maxHeartbeats 400000 in
set_option maxRecDepth 20000 in
theorem kX5_rushes : ssOk mX5_rushes 0 35 bX5_rushes := (kSeq (M := mX5_rushes) (kSi_n (M := mX5_rushes) (kC_ic (M := mX5_rushes) (v := 0) dX5_rushes_0 kc_iconst_0) dX5_rushes_1 rfl (by decide)) (kSeq (M := mX5_rushes) (kBlk (M := mX5_rushes) (kSeq (M := mX5_rushes) (kSi_n (M := mX5_rushes) (kC_ic (M := mX5_rushes) (v := 0) dX5_rushes_2 kc_iconst_0) dX5_rushes_3 rfl (by decide)) (kWn (M := mX5_rushes) (N := 4000) (kB_ltF (M := mX5_rushes) (kL_n (M := mX5_rushes) dX5_rushes_4 rfl) (kF (M := mX5_rushes) (kf := 5) (kR_n (M := mX5_rushes) dX5_rushes_5 rfl) dX5_rushes_6 clX5 lkX5_52 (by decide)) dX5_rushes_9 (by decide) rfl) (kGo (M := mX5_rushes) (kSeq (M := mX5_rushes) (kIf (M := mX5_rushes) (kZ_neF (M := mX5_rushes) (kF (M := mX5_rushes) (kf := 5) (kQ (M := mX5_rushes) (ci := 3) (kRF (M := mX5_rushes) (kf := 2) (kR_n (M := mX5_rushes) dX5_rushes_12 rfl) dX5_rushes_13 clX5 lkX5_23 (by decide)) (kL_n (M := mX5_rushes) dX5_rushes_16 rfl) dX5_rushes_17 (by first | exact Or.inl ⟨rfl, rfl⟩ | exact Or.inr (Or.inl ⟨rfl, rfl⟩) | exact Or.inr (Or.inr ⟨rfl, rfl⟩))) dX5_rushes_18 clX3 lkX5_131 (by decide)) dX5_rushes_21 (by decide) rfl) (kInc (M := mX5_rushes) (v := 1) dX5_rushes_24 kc_iconst_1 (by decide)) (kNop (M := mX5_rushes))) (kInc (M := mX5_rushes) (v := 1) dX5_rushes_27 kc_iconst_1 (by decide))) dX5_rushes_30 (by decide))))) (kRi (M := mX5_rushes) (kL_n (M := mX5_rushes) dX5_rushes_33 rfl) dX5_rushes_34)))
def fX5_rushes : zFI := mI bX5_rushes
theorem ctX5_rushes : CtI yX5_rushes cX5_rushes 3 .int 0 0 1 fX5_rushes := ctI mdX5_rushes (Nat.le_of_ble_eq_true rfl) kX5_rushes
/-! TrophyPlates$Shop.isOrdered -/
theorem mdX5_isOrdered : zMd yX5_isOrdered cX5_isOrdered 4 (some .boolean) 2 := ⟨cdX5_isOrdered, iniX5, ⟨by decide +kernel, by decide +kernel⟩, by decide +kernel, by decide +kernel⟩
def bX5_isOrdered : zSS := sSeq (sBlk (sSeq (sLi 3 (eC 0)) (sW 4000 (bCmp o_lt (eL 3) (eF 5 5 (rL 0))) (sSeq (sIf (bAnd (bCmp o_eq (eF 3 1 (rQ 3 (rF 5 2 (rL 0)) (eL 3))) (eL 1)) (bCmp o_eq (eF 3 2 (rQ 3 (rF 5 2 (rL 0)) (eL 3))) (eL 2))) (sRi (eC 1)) sNop) (sInc 3 1))))) (sRi (eC 0))
abbrev mX5_isOrdered : zM := (cX5_isOrdered, RX5, 4, some .boolean, { frames := 0, cells := 0, slots := 0, locals := 0 }, false)
set_option maxHeartbeats 400000 in
set_option maxRecDepth 20000 in
theorem kX5_isOrdered : ssOk mX5_isOrdered 0 46 bX5_isOrdered := (kSeq (M := mX5_isOrdered) (kBlk (M := mX5_isOrdered) (kSeq (M := mX5_isOrdered) (kSi_n (M := mX5_isOrdered) (kC_ic (M := mX5_isOrdered) (v := 0) dX5_isOrdered_0 kc_iconst_0) dX5_isOrdered_1 rfl (by decide)) (kWn (M := mX5_isOrdered) (N := 4000) (kB_ltF (M := mX5_isOrdered) (kL_n (M := mX5_isOrdered) dX5_isOrdered_2 rfl) (kF (M := mX5_isOrdered) (kf := 5) (kR_n (M := mX5_isOrdered) dX5_isOrdered_3 rfl) dX5_isOrdered_4 clX5 lkX5_52 (by decide)) dX5_isOrdered_7 (by decide) rfl) (kGo (M := mX5_isOrdered) (kSeq (M := mX5_isOrdered) (kIf (M := mX5_isOrdered) (kBand (M := mX5_isOrdered) (kB_eqF (M := mX5_isOrdered) (kF (M := mX5_isOrdered) (kf := 1) (kQ (M := mX5_isOrdered) (ci := 3) (kRF (M := mX5_isOrdered) (kf := 2) (kR_n (M := mX5_isOrdered) dX5_isOrdered_10 rfl) dX5_isOrdered_11 clX5 lkX5_23 (by decide)) (kL_n (M := mX5_isOrdered) dX5_isOrdered_14 rfl) dX5_isOrdered_15 (by first | exact Or.inl ⟨rfl, rfl⟩ | exact Or.inr (Or.inl ⟨rfl, rfl⟩) | exact Or.inr (Or.inr ⟨rfl, rfl⟩))) dX5_isOrdered_16 clX3 lkX5_135 (by decide)) (kL_n (M := mX5_isOrdered) dX5_isOrdered_19 rfl) dX5_isOrdered_20 (by decide) rfl) (kB_eqF (M := mX5_isOrdered) (kF (M := mX5_isOrdered) (kf := 2) (kQ (M := mX5_isOrdered) (ci := 3) (kRF (M := mX5_isOrdered) (kf := 2) (kR_n (M := mX5_isOrdered) dX5_isOrdered_23 rfl) dX5_isOrdered_24 clX5 lkX5_23 (by decide)) (kL_n (M := mX5_isOrdered) dX5_isOrdered_27 rfl) dX5_isOrdered_28 (by first | exact Or.inl ⟨rfl, rfl⟩ | exact Or.inr (Or.inl ⟨rfl, rfl⟩) | exact Or.inr (Or.inr ⟨rfl, rfl⟩))) dX5_isOrdered_29 clX3 lkX5_136 (by decide)) (kL_n (M := mX5_isOrdered) dX5_isOrdered_32 rfl) dX5_isOrdered_33 (by decide) rfl)) (kRi (M := mX5_isOrdered) (kC_ic (M := mX5_isOrdered) (v := 1) dX5_isOrdered_36 kc_iconst_1) dX5_isOrdered_37) (kNop (M := mX5_isOrdered))) (kInc (M := mX5_isOrdered) (v := 1) dX5_isOrdered_38 kc_iconst_1 (by decide))) dX5_isOrdered_41 (by decide))))) (kRi (M := mX5_isOrdered) (kC_ic (M := mX5_isOrdered) (v := 0) dX5_isOrdered_44 kc_iconst_0) dX5_isOrdered_45))
def fX5_isOrdered : zFI := mZ bX5_isOrdered
theorem ctX5_isOrdered : CtI yX5_isOrdered cX5_isOrdered 4 .boolean 0 0 3 fX5_isOrdered := ctZ mdX5_isOrdered (Nat.le_of_ble_eq_true rfl) kX5_isOrdered
/-! TrophyPlates$Shop.moveAhead -/
theorem mdX5_moveAhead : zMd yX5_moveAhead cX5_moveAhead 5 (none) 2 := ⟨cdX5_moveAhead, iniX5, ⟨by decide +kernel, by decide +kernel⟩, by decide +kernel, by decide +kernel⟩
def bX5_moveAhead : zSS := sSeq (sLr 3 (rQ 3 (rF 5 2 (rL 0)) (eL 1))) (sSeq (sBlk (sSeq (sLi 4 (eL 1)) (sW 4000 (bCmp o_gt (eL 4) (eL 2)) (sSeq (sQ 3 (rF 5 2 (rL 0)) (eL 4) (rQ 3 (rF 5 2 (rL 0)) (eOp (· - ·) (eL 4) (eC 1)))) (sInc 4 (-1)))))) (sSeq (sQ 3 (rF 5 2 (rL 0)) (eL 2) (rL 3)) (sSeq (sIf (bCmp o_eq (eF 5 6 (rL 0)) (eL 1)) (sF 5 6 (rL 0) (eL 2)) (sIf (bAnd (bCmp o_ge (eF 5 6 (rL 0)) (eL 2)) (bCmp o_lt (eF 5 6 (rL 0)) (eL 1))) (sFa (· + ·) 5 6 (rL 0) (eC 1)) sNop)) (sRv))))
abbrev mX5_moveAhead : zM := (cX5_moveAhead, RX5, 5, none, { frames := 0, cells := 0, slots := 0, locals := 0 }, false)
set_option maxHeartbeats 400000 in
set_option maxRecDepth 20000 in
theorem kX5_moveAhead : ssOk mX5_moveAhead 0 88 bX5_moveAhead := (kSeq (M := mX5_moveAhead) (kSr_n (M := mX5_moveAhead) (kQ (M := mX5_moveAhead) (ci := 3) (kRF (M := mX5_moveAhead) (kf := 2) (kR_n (M := mX5_moveAhead) dX5_moveAhead_0 rfl) dX5_moveAhead_1 clX5 lkX5_23 (by decide)) (kL_n (M := mX5_moveAhead) dX5_moveAhead_4 rfl) dX5_moveAhead_5 (by first | exact Or.inl ⟨rfl, rfl⟩ | exact Or.inr (Or.inl ⟨rfl, rfl⟩) | exact Or.inr (Or.inr ⟨rfl, rfl⟩))) dX5_moveAhead_6 rfl (by decide)) (kSeq (M := mX5_moveAhead) (kBlk (M := mX5_moveAhead) (kSeq (M := mX5_moveAhead) (kSi (M := mX5_moveAhead) (kL_n (M := mX5_moveAhead) dX5_moveAhead_7 rfl) dX5_moveAhead_8 (by decide)) (kWn (M := mX5_moveAhead) (N := 4000) (kB_gtF (M := mX5_moveAhead) (kL (M := mX5_moveAhead) dX5_moveAhead_10) (kL_n (M := mX5_moveAhead) dX5_moveAhead_12 rfl) dX5_moveAhead_13 (by decide) rfl) (kGo (M := mX5_moveAhead) (kSeq (M := mX5_moveAhead) (kPQ (M := mX5_moveAhead) (ci := 3) (kRF (M := mX5_moveAhead) (kf := 2) (kR_n (M := mX5_moveAhead) dX5_moveAhead_16 rfl) dX5_moveAhead_17 clX5 lkX5_23 (by decide)) (kL (M := mX5_moveAhead) dX5_moveAhead_20) (kQ (M := mX5_moveAhead) (ci := 3) (kRF (M := mX5_moveAhead) (kf := 2) (kR_n (M := mX5_moveAhead) dX5_moveAhead_22 rfl) dX5_moveAhead_23 clX5 lkX5_23 (by decide)) (kSub (M := mX5_moveAhead) (kL (M := mX5_moveAhead) dX5_moveAhead_26) (kC_ic (M := mX5_moveAhead) (v := 1) dX5_moveAhead_28 kc_iconst_1) dX5_moveAhead_29) dX5_moveAhead_30 (by first | exact Or.inl ⟨rfl, rfl⟩ | exact Or.inr (Or.inl ⟨rfl, rfl⟩) | exact Or.inr (Or.inr ⟨rfl, rfl⟩))) dX5_moveAhead_31 (by first | exact Or.inl ⟨rfl, rfl⟩ | exact Or.inr (Or.inl ⟨rfl, rfl⟩) | exact Or.inr (Or.inr ⟨rfl, rfl⟩)) clX3) (kInc (M := mX5_moveAhead) (v := (-1)) dX5_moveAhead_32 kc_iconst_m1 (by decide))) dX5_moveAhead_35 (by decide))))) (kSeq (M := mX5_moveAhead) (kPQ (M := mX5_moveAhead) (ci := 3) (kRF (M := mX5_moveAhead) (kf := 2) (kR_n (M := mX5_moveAhead) dX5_moveAhead_38 rfl) dX5_moveAhead_39 clX5 lkX5_23 (by decide)) (kL_n (M := mX5_moveAhead) dX5_moveAhead_42 rfl) (kR_n (M := mX5_moveAhead) dX5_moveAhead_43 rfl) dX5_moveAhead_44 (by first | exact Or.inl ⟨rfl, rfl⟩ | exact Or.inr (Or.inl ⟨rfl, rfl⟩) | exact Or.inr (Or.inr ⟨rfl, rfl⟩)) clX3) (kSeq (M := mX5_moveAhead) (kIf (M := mX5_moveAhead) (kB_eqF (M := mX5_moveAhead) (kF (M := mX5_moveAhead) (kf := 6) (kR_n (M := mX5_moveAhead) dX5_moveAhead_45 rfl) dX5_moveAhead_46 clX5 lkX5_27 (by decide)) (kL_n (M := mX5_moveAhead) dX5_moveAhead_49 rfl) dX5_moveAhead_50 (by decide) rfl) (kGo (M := mX5_moveAhead) (kPF (M := mX5_moveAhead) (kf := 6) (kR_n (M := mX5_moveAhead) dX5_moveAhead_53 rfl) (kL_n (M := mX5_moveAhead) dX5_moveAhead_54 rfl) dX5_moveAhead_55 clX5 lkX5_27 (by decide) rfl rfl) dX5_moveAhead_58 (by decide)) (kIf (M := mX5_moveAhead) (kBand (M := mX5_moveAhead) (kB_geF (M := mX5_moveAhead) (kF (M := mX5_moveAhead) (kf := 6) (kR_n (M := mX5_moveAhead) dX5_moveAhead_61 rfl) dX5_moveAhead_62 clX5 lkX5_27 (by decide)) (kL_n (M := mX5_moveAhead) dX5_moveAhead_65 rfl) dX5_moveAhead_66 (by decide) rfl) (kB_ltF (M := mX5_moveAhead) (kF (M := mX5_moveAhead) (kf := 6) (kR_n (M := mX5_moveAhead) dX5_moveAhead_69 rfl) dX5_moveAhead_70 clX5 lkX5_27 (by decide)) (kL_n (M := mX5_moveAhead) dX5_moveAhead_73 rfl) dX5_moveAhead_74 (by decide) rfl)) (kPFaddsub (M := mX5_moveAhead) (kf := 6) (Or.inl ⟨rfl, rfl⟩) (kR_n (M := mX5_moveAhead) dX5_moveAhead_77 rfl) dX5_moveAhead_78 dX5_moveAhead_79 (kC_ic (M := mX5_moveAhead) (v := 1) dX5_moveAhead_82 kc_iconst_1) dX5_moveAhead_83 dX5_moveAhead_84 clX5 lkX5_27 lkX5_27 (by decide) rfl rfl) (kNop (M := mX5_moveAhead)))) (kRv (M := mX5_moveAhead) dX5_moveAhead_87)))))
def fX5_moveAhead : zFV := mV bX5_moveAhead
theorem ctX5_moveAhead : CtV yX5_moveAhead cX5_moveAhead 5 0 0 0 0 3 fX5_moveAhead := ctV mdX5_moveAhead (Nat.le_of_ble_eq_true rfl) kX5_moveAhead
/-! TrophyPlates$Shop.removeOrder -/
theorem mdX5_removeOrder : zMd yX5_removeOrder cX5_removeOrder 4 (none) 1 := ⟨cdX5_removeOrder, iniX5, ⟨by decide +kernel, by decide +kernel⟩, by decide +kernel, by decide +kernel⟩
def bX5_removeOrder : zSS := sSeq (sLr 2 (rQ 3 (rF 5 2 (rL 0)) (eL 1))) (sSeq (sBlk (sSeq (sLi 3 (eL 1)) (sW 4000 (bCmp o_lt (eL 3) (eOp (· - ·) (eF 5 5 (rL 0)) (eC 1))) (sSeq (sQ 3 (rF 5 2 (rL 0)) (eL 3) (rQ 3 (rF 5 2 (rL 0)) (eOp (· + ·) (eL 3) (eC 1)))) (sInc 3 1))))) (sSeq (sFa (· - ·) 5 5 (rL 0) (eC 1)) (sSeq (sQ 3 (rF 5 2 (rL 0)) (eF 5 5 (rL 0)) (rL 2)) (sSeq (sIf (bCmp o_gt (eF 5 6 (rL 0)) (eL 1)) (sFa (· - ·) 5 6 (rL 0) (eC 1)) sNop) (sRv)))))
abbrev mX5_removeOrder : zM := (cX5_removeOrder, RX5, 4, none, { frames := 0, cells := 0, slots := 0, locals := 0 }, false)
set_option maxHeartbeats 400000 in
set_option maxRecDepth 20000 in
theorem kX5_removeOrder : ssOk mX5_removeOrder 0 78 bX5_removeOrder := (kSeq (M := mX5_removeOrder) (kSr_n (M := mX5_removeOrder) (kQ (M := mX5_removeOrder) (ci := 3) (kRF (M := mX5_removeOrder) (kf := 2) (kR_n (M := mX5_removeOrder) dX5_removeOrder_0 rfl) dX5_removeOrder_1 clX5 lkX5_23 (by decide)) (kL_n (M := mX5_removeOrder) dX5_removeOrder_4 rfl) dX5_removeOrder_5 (by first | exact Or.inl ⟨rfl, rfl⟩ | exact Or.inr (Or.inl ⟨rfl, rfl⟩) | exact Or.inr (Or.inr ⟨rfl, rfl⟩))) dX5_removeOrder_6 rfl (by decide)) (kSeq (M := mX5_removeOrder) (kBlk (M := mX5_removeOrder) (kSeq (M := mX5_removeOrder) (kSi_n (M := mX5_removeOrder) (kL_n (M := mX5_removeOrder) dX5_removeOrder_7 rfl) dX5_removeOrder_8 rfl (by decide)) (kWn (M := mX5_removeOrder) (N := 4000) (kB_ltF (M := mX5_removeOrder) (kL_n (M := mX5_removeOrder) dX5_removeOrder_9 rfl) (kSub (M := mX5_removeOrder) (kF (M := mX5_removeOrder) (kf := 5) (kR_n (M := mX5_removeOrder) dX5_removeOrder_10 rfl) dX5_removeOrder_11 clX5 lkX5_52 (by decide)) (kC_ic (M := mX5_removeOrder) (v := 1) dX5_removeOrder_14 kc_iconst_1) dX5_removeOrder_15) dX5_removeOrder_16 (by decide) rfl) (kGo (M := mX5_removeOrder) (kSeq (M := mX5_removeOrder) (kPQ (M := mX5_removeOrder) (ci := 3) (kRF (M := mX5_removeOrder) (kf := 2) (kR_n (M := mX5_removeOrder) dX5_removeOrder_19 rfl) dX5_removeOrder_20 clX5 lkX5_23 (by decide)) (kL_n (M := mX5_removeOrder) dX5_removeOrder_23 rfl) (kQ (M := mX5_removeOrder) (ci := 3) (kRF (M := mX5_removeOrder) (kf := 2) (kR_n (M := mX5_removeOrder) dX5_removeOrder_24 rfl) dX5_removeOrder_25 clX5 lkX5_23 (by decide)) (kAdd (M := mX5_removeOrder) (kL_n (M := mX5_removeOrder) dX5_removeOrder_28 rfl) (kC_ic (M := mX5_removeOrder) (v := 1) dX5_removeOrder_29 kc_iconst_1) dX5_removeOrder_30) dX5_removeOrder_31 (by first | exact Or.inl ⟨rfl, rfl⟩ | exact Or.inr (Or.inl ⟨rfl, rfl⟩) | exact Or.inr (Or.inr ⟨rfl, rfl⟩))) dX5_removeOrder_32 (by first | exact Or.inl ⟨rfl, rfl⟩ | exact Or.inr (Or.inl ⟨rfl, rfl⟩) | exact Or.inr (Or.inr ⟨rfl, rfl⟩)) clX3) (kInc (M := mX5_removeOrder) (v := 1) dX5_removeOrder_33 kc_iconst_1 (by decide))) dX5_removeOrder_36 (by decide))))) (kSeq (M := mX5_removeOrder) (kPFaddsub (M := mX5_removeOrder) (kf := 5) (Or.inr ⟨rfl, rfl⟩) (kR_n (M := mX5_removeOrder) dX5_removeOrder_39 rfl) dX5_removeOrder_40 dX5_removeOrder_41 (kC_ic (M := mX5_removeOrder) (v := 1) dX5_removeOrder_44 kc_iconst_1) dX5_removeOrder_45 dX5_removeOrder_46 clX5 lkX5_52 lkX5_52 (by decide) rfl rfl) (kSeq (M := mX5_removeOrder) (kPQ (M := mX5_removeOrder) (ci := 3) (kRF (M := mX5_removeOrder) (kf := 2) (kR_n (M := mX5_removeOrder) dX5_removeOrder_49 rfl) dX5_removeOrder_50 clX5 lkX5_23 (by decide)) (kF (M := mX5_removeOrder) (kf := 5) (kR_n (M := mX5_removeOrder) dX5_removeOrder_53 rfl) dX5_removeOrder_54 clX5 lkX5_52 (by decide)) (kR_n (M := mX5_removeOrder) dX5_removeOrder_57 rfl) dX5_removeOrder_58 (by first | exact Or.inl ⟨rfl, rfl⟩ | exact Or.inr (Or.inl ⟨rfl, rfl⟩) | exact Or.inr (Or.inr ⟨rfl, rfl⟩)) clX3) (kSeq (M := mX5_removeOrder) (kIf (M := mX5_removeOrder) (kB_gtF (M := mX5_removeOrder) (kF (M := mX5_removeOrder) (kf := 6) (kR_n (M := mX5_removeOrder) dX5_removeOrder_59 rfl) dX5_removeOrder_60 clX5 lkX5_27 (by decide)) (kL_n (M := mX5_removeOrder) dX5_removeOrder_63 rfl) dX5_removeOrder_64 (by decide) rfl) (kPFaddsub (M := mX5_removeOrder) (kf := 6) (Or.inr ⟨rfl, rfl⟩) (kR_n (M := mX5_removeOrder) dX5_removeOrder_67 rfl) dX5_removeOrder_68 dX5_removeOrder_69 (kC_ic (M := mX5_removeOrder) (v := 1) dX5_removeOrder_72 kc_iconst_1) dX5_removeOrder_73 dX5_removeOrder_74 clX5 lkX5_27 lkX5_27 (by decide) rfl rfl) (kNop (M := mX5_removeOrder))) (kRv (M := mX5_removeOrder) dX5_removeOrder_77))))))
def fX5_removeOrder : zFV := mV bX5_removeOrder
theorem ctX5_removeOrder : CtV yX5_removeOrder cX5_removeOrder 4 0 0 0 0 2 fX5_removeOrder := ctV mdX5_removeOrder (Nat.le_of_ble_eq_true rfl) kX5_removeOrder
/-! TrophyPlates$Shop.stopWork -/
theorem mdX5_stopWork : zMd yX5_stopWork cX5_stopWork 1 (none) 0 := ⟨cdX5_stopWork, iniX5, ⟨by decide +kernel, by decide +kernel⟩, by decide +kernel, by decide +kernel⟩
def bX5_stopWork : zSS := sSeq (sF 5 6 (rL 0) (eC (-9))) (sSeq (sF 5 7 (rL 0) (eC (-9))) (sSeq (sF 5 8 (rL 0) (eC (-9))) (sSeq (sF 5 9 (rL 0) (eC (-9))) (sRv))))
abbrev mX5_stopWork : zM := (cX5_stopWork, RX5, 1, none, { frames := 0, cells := 0, slots := 0, locals := 0 }, false)
set_option maxHeartbeats 400000 in
set_option maxRecDepth 20000 in
theorem kX5_stopWork : ssOk mX5_stopWork 0 25 bX5_stopWork := (kSeq (M := mX5_stopWork) (kPF (M := mX5_stopWork) (kf := 6) (kR_n (M := mX5_stopWork) dX5_stopWork_0 rfl) (kC_bi (M := mX5_stopWork) (v := (-9)) dX5_stopWork_1 kc_bipush_m9) dX5_stopWork_3 clX5 lkX5_27 (by decide) rfl rfl) (kSeq (M := mX5_stopWork) (kPF (M := mX5_stopWork) (kf := 7) (kR_n (M := mX5_stopWork) dX5_stopWork_6 rfl) (kC_bi (M := mX5_stopWork) (v := (-9)) dX5_stopWork_7 kc_bipush_m9) dX5_stopWork_9 clX5 lkX5_31 (by decide) rfl rfl) (kSeq (M := mX5_stopWork) (kPF (M := mX5_stopWork) (kf := 8) (kR_n (M := mX5_stopWork) dX5_stopWork_12 rfl) (kC_bi (M := mX5_stopWork) (v := (-9)) dX5_stopWork_13 kc_bipush_m9) dX5_stopWork_15 clX5 lkX5_34 (by decide) rfl rfl) (kSeq (M := mX5_stopWork) (kPF (M := mX5_stopWork) (kf := 9) (kR_n (M := mX5_stopWork) dX5_stopWork_18 rfl) (kC_bi (M := mX5_stopWork) (v := (-9)) dX5_stopWork_19 kc_bipush_m9) dX5_stopWork_21 clX5 lkX5_37 (by decide) rfl rfl) (kRv (M := mX5_stopWork) dX5_stopWork_24)))))
def fX5_stopWork : zFV := mV bX5_stopWork
theorem ctX5_stopWork : CtV yX5_stopWork cX5_stopWork 1 0 0 0 0 1 fX5_stopWork := ctV mdX5_stopWork (Nat.le_of_ble_eq_true rfl) kX5_stopWork
/-! TrophyPlates$Shop.beginOrder -/
theorem mdX5_beginOrder : zMd yX5_beginOrder cX5_beginOrder 4 (none) 2 := ⟨cdX5_beginOrder, iniX5, ⟨by decide +kernel, by decide +kernel⟩, by decide +kernel, by decide +kernel⟩
def bX5_beginOrder : zSS := sSeq (sLr 3 (rQ 4 (rF 5 0 (rL 0)) (eL 2))) (sSeq (sF 5 6 (rL 0) (eL 1)) (sSeq (sF 5 7 (rL 0) (eL 2)) (sSeq (sF 5 8 (rL 0) (eCV 4 (rL 3) (aI (eF 3 4 (rQ 3 (rF 5 2 (rL 0)) (eL 1))) (aN)) fX4_sideFor)) (sSeq (sF 5 9 (rL 0) (eCV 3 (rQ 3 (rF 5 2 (rL 0)) (eL 1)) (aN) fX3_effort)) (sSeq (sF 4 2 (rL 3) (eC 1)) (sSeq (sIf (bNot (bZ z_ne (eCV 4 (rL 3) (aI (eF 5 8 (rL 0)) (aN)) fX4_isBlank))) (sSeq (sCV 5 (rL 0) (aR (rL 3) (aI (eF 5 8 (rL 0)) (aN))) fX5_grindSide) (sFa (· + ·) 5 9 (rL 0) (eC 10))) sNop) (sRv)))))))
abbrev mX5_beginOrder : zM := (cX5_beginOrder, RX5, 4, none, { frames := 4, cells := 0, slots := 0, locals := 85 }, false)
set_option maxHeartbeats 400000 in
set_option maxRecDepth 20000 in
theorem kX5_beginOrder : ssOk mX5_beginOrder 0 84 bX5_beginOrder := (kSeq (M := mX5_beginOrder) (kSr_n (M := mX5_beginOrder) (kQ (M := mX5_beginOrder) (ci := 4) (kRF (M := mX5_beginOrder) (kf := 0) (kR_n (M := mX5_beginOrder) dX5_beginOrder_0 rfl) dX5_beginOrder_1 clX5 lkX5_11 (by decide)) (kL_n (M := mX5_beginOrder) dX5_beginOrder_4 rfl) dX5_beginOrder_5 (by first | exact Or.inl ⟨rfl, rfl⟩ | exact Or.inr (Or.inl ⟨rfl, rfl⟩) | exact Or.inr (Or.inr ⟨rfl, rfl⟩))) dX5_beginOrder_6 rfl (by decide)) (kSeq (M := mX5_beginOrder) (kPF (M := mX5_beginOrder) (kf := 6) (kR_n (M := mX5_beginOrder) dX5_beginOrder_7 rfl) (kL_n (M := mX5_beginOrder) dX5_beginOrder_8 rfl) dX5_beginOrder_9 clX5 lkX5_27 (by decide) rfl rfl) (kSeq (M := mX5_beginOrder) (kPF (M := mX5_beginOrder) (kf := 7) (kR_n (M := mX5_beginOrder) dX5_beginOrder_12 rfl) (kL_n (M := mX5_beginOrder) dX5_beginOrder_13 rfl) dX5_beginOrder_14 clX5 lkX5_31 (by decide) rfl rfl) (kSeq (M := mX5_beginOrder) (kPF (M := mX5_beginOrder) (kf := 8) (kR_n (M := mX5_beginOrder) dX5_beginOrder_17 rfl) (kCV (M := mX5_beginOrder) (ci := 4) (kR_n (M := mX5_beginOrder) dX5_beginOrder_18 rfl) (kaI (M := mX5_beginOrder) (kF (M := mX5_beginOrder) (kf := 4) (kQ (M := mX5_beginOrder) (ci := 3) (kRF (M := mX5_beginOrder) (kf := 2) (kR_n (M := mX5_beginOrder) dX5_beginOrder_19 rfl) dX5_beginOrder_20 clX5 lkX5_23 (by decide)) (kL_n (M := mX5_beginOrder) dX5_beginOrder_23 rfl) dX5_beginOrder_24 (by first | exact Or.inl ⟨rfl, rfl⟩ | exact Or.inr (Or.inl ⟨rfl, rfl⟩) | exact Or.inr (Or.inr ⟨rfl, rfl⟩))) dX5_beginOrder_25 clX3 lkX5_168 (by decide)) (kaN (M := mX5_beginOrder))) dX5_beginOrder_28 ctX4_sideFor mdX4_sideFor imX4_sideFor seX4_sideFor clX4 mkX5_177 ⟨(Nat.le_of_ble_eq_true rfl), (Nat.le_of_ble_eq_true rfl)⟩ (Nat.le_of_ble_eq_true rfl)) dX5_beginOrder_31 clX5 lkX5_34 (by decide) rfl rfl) (kSeq (M := mX5_beginOrder) (kPF (M := mX5_beginOrder) (kf := 9) (kR_n (M := mX5_beginOrder) dX5_beginOrder_34 rfl) (kCV (M := mX5_beginOrder) (ci := 3) (kQ (M := mX5_beginOrder) (ci := 3) (kRF (M := mX5_beginOrder) (kf := 2) (kR_n (M := mX5_beginOrder) dX5_beginOrder_35 rfl) dX5_beginOrder_36 clX5 lkX5_23 (by decide)) (kL_n (M := mX5_beginOrder) dX5_beginOrder_39 rfl) dX5_beginOrder_40 (by first | exact Or.inl ⟨rfl, rfl⟩ | exact Or.inr (Or.inl ⟨rfl, rfl⟩) | exact Or.inr (Or.inr ⟨rfl, rfl⟩))) (kaN (M := mX5_beginOrder)) dX5_beginOrder_41 ctX3_effort mdX3_effort imX3_effort seX3_effort clX3 mkX5_180 ⟨(Nat.le_of_ble_eq_true rfl), (Nat.le_of_ble_eq_true rfl)⟩ (Nat.le_of_ble_eq_true rfl)) dX5_beginOrder_44 clX5 lkX5_37 (by decide) rfl rfl) (kSeq (M := mX5_beginOrder) (kPF (M := mX5_beginOrder) (kf := 2) (kR_n (M := mX5_beginOrder) dX5_beginOrder_47 rfl) (kC_ic (M := mX5_beginOrder) (v := 1) dX5_beginOrder_48 kc_iconst_1) dX5_beginOrder_49 clX4 lkX5_82 (by decide) rfl rfl) (kSeq (M := mX5_beginOrder) (kIf (M := mX5_beginOrder) (kBnot (M := mX5_beginOrder) (kZ_neT (M := mX5_beginOrder) (kCV (M := mX5_beginOrder) (ci := 4) (kR_n (M := mX5_beginOrder) dX5_beginOrder_52 rfl) (kaI (M := mX5_beginOrder) (kF (M := mX5_beginOrder) (kf := 8) (kR_n (M := mX5_beginOrder) dX5_beginOrder_53 rfl) dX5_beginOrder_54 clX5 lkX5_34 (by decide)) (kaN (M := mX5_beginOrder))) dX5_beginOrder_57 ctX4_isBlank mdX4_isBlank imX4_isBlank seX4_isBlank clX4 mkX5_183 ⟨(Nat.le_of_ble_eq_true rfl), (Nat.le_of_ble_eq_true rfl)⟩ (Nat.le_of_ble_eq_true rfl)) dX5_beginOrder_60 (by decide) rfl)) (kSeq (M := mX5_beginOrder) (ksCV (M := mX5_beginOrder) (ci := 5) (kR_n (M := mX5_beginOrder) dX5_beginOrder_63 rfl) (kaR (M := mX5_beginOrder) (kR_n (M := mX5_beginOrder) dX5_beginOrder_64 rfl) (kaI (M := mX5_beginOrder) (kF (M := mX5_beginOrder) (kf := 8) (kR_n (M := mX5_beginOrder) dX5_beginOrder_65 rfl) dX5_beginOrder_66 clX5 lkX5_34 (by decide)) (kaN (M := mX5_beginOrder)))) dX5_beginOrder_69 ctX5_grindSide mdX5_grindSide imX5_grindSide seX5_grindSide clX5 mkX5_186 ⟨(Nat.le_of_ble_eq_true rfl), (Nat.le_of_ble_eq_true rfl)⟩) (kPFaddsub (M := mX5_beginOrder) (kf := 9) (Or.inl ⟨rfl, rfl⟩) (kR_n (M := mX5_beginOrder) dX5_beginOrder_72 rfl) dX5_beginOrder_73 dX5_beginOrder_74 (kC_bi (M := mX5_beginOrder) (v := 10) dX5_beginOrder_77 kc_bipush_10) dX5_beginOrder_79 dX5_beginOrder_80 clX5 lkX5_37 lkX5_37 (by decide) rfl rfl)) (kNop (M := mX5_beginOrder))) (kRv (M := mX5_beginOrder) dX5_beginOrder_83))))))))
def fX5_beginOrder : zFV := mV bX5_beginOrder
theorem ctX5_beginOrder : CtV yX5_beginOrder cX5_beginOrder 4 4 0 0 85 3 fX5_beginOrder := ctV mdX5_beginOrder (Nat.le_of_ble_eq_true rfl) kX5_beginOrder
/-! TrophyPlates$Shop.finishOrder -/
theorem mdX5_finishOrder : zMd yX5_finishOrder cX5_finishOrder 4 (none) 0 := ⟨cdX5_finishOrder, iniX5, ⟨by decide +kernel, by decide +kernel⟩, by decide +kernel, by decide +kernel⟩
def bX5_finishOrder : zSS := sSeq (sIf (bNot (bZ z_ne (eCV 5 (rL 0) (aN) fX5_isWorking))) (sRv) sNop) (sSeq (sLr 1 (rQ 3 (rF 5 2 (rL 0)) (eF 5 6 (rL 0)))) (sSeq (sLr 2 (rQ 4 (rF 5 0 (rL 0)) (eF 5 7 (rL 0)))) (sSeq (sCV 4 (rL 2) (aI (eF 5 8 (rL 0)) (aI (eF 3 4 (rL 1)) (aN))) fX4_engrave) (sSeq (sCV 5 (rL 0) (aR (rL 2) (aI (eF 3 1 (rL 1)) (aI (eF 3 2 (rL 1)) (aN)))) fX5_fixPlate) (sSeq (sLi 3 (eF 5 6 (rL 0))) (sSeq (sCV 5 (rL 0) (aN) fX5_stopWork) (sSeq (sCV 5 (rL 0) (aI (eL 3) (aN)) fX5_removeOrder) (sSeq (sFa (· + ·) 5 10 (rL 0) (eC 1)) (sRv)))))))))
abbrev mX5_finishOrder : zM := (cX5_finishOrder, RX5, 4, none, { frames := 2, cells := 0, slots := 0, locals := 48 }, false)
set_option maxHeartbeats 400000 in
set_option maxRecDepth 20000 in
theorem kX5_finishOrder : ssOk mX5_finishOrder 0 78 bX5_finishOrder := (kSeq (M := mX5_finishOrder) (kIf (M := mX5_finishOrder) (kBnot (M := mX5_finishOrder) (kZ_neT (M := mX5_finishOrder) (kCV (M := mX5_finishOrder) (ci := 5) (kR_n (M := mX5_finishOrder) dX5_finishOrder_0 rfl) (kaN (M := mX5_finishOrder)) dX5_finishOrder_1 ctX5_isWorking mdX5_isWorking imX5_isWorking seX5_isWorking clX5 mkX5_144 ⟨(Nat.le_of_ble_eq_true rfl), (Nat.le_of_ble_eq_true rfl)⟩ (Nat.le_of_ble_eq_true rfl)) dX5_finishOrder_4 (by decide) rfl)) (kRv (M := mX5_finishOrder) dX5_finishOrder_7) (kNop (M := mX5_finishOrder))) (kSeq (M := mX5_finishOrder) (kSr_n (M := mX5_finishOrder) (kQ (M := mX5_finishOrder) (ci := 3) (kRF (M := mX5_finishOrder) (kf := 2) (kR_n (M := mX5_finishOrder) dX5_finishOrder_8 rfl) dX5_finishOrder_9 clX5 lkX5_23 (by decide)) (kF (M := mX5_finishOrder) (kf := 6) (kR_n (M := mX5_finishOrder) dX5_finishOrder_12 rfl) dX5_finishOrder_13 clX5 lkX5_27 (by decide)) dX5_finishOrder_16 (by first | exact Or.inl ⟨rfl, rfl⟩ | exact Or.inr (Or.inl ⟨rfl, rfl⟩) | exact Or.inr (Or.inr ⟨rfl, rfl⟩))) dX5_finishOrder_17 rfl (by decide)) (kSeq (M := mX5_finishOrder) (kSr_n (M := mX5_finishOrder) (kQ (M := mX5_finishOrder) (ci := 4) (kRF (M := mX5_finishOrder) (kf := 0) (kR_n (M := mX5_finishOrder) dX5_finishOrder_18 rfl) dX5_finishOrder_19 clX5 lkX5_11 (by decide)) (kF (M := mX5_finishOrder) (kf := 7) (kR_n (M := mX5_finishOrder) dX5_finishOrder_22 rfl) dX5_finishOrder_23 clX5 lkX5_31 (by decide)) dX5_finishOrder_26 (by first | exact Or.inl ⟨rfl, rfl⟩ | exact Or.inr (Or.inl ⟨rfl, rfl⟩) | exact Or.inr (Or.inr ⟨rfl, rfl⟩))) dX5_finishOrder_27 rfl (by decide)) (kSeq (M := mX5_finishOrder) (ksCV (M := mX5_finishOrder) (ci := 4) (kR_n (M := mX5_finishOrder) dX5_finishOrder_28 rfl) (kaI (M := mX5_finishOrder) (kF (M := mX5_finishOrder) (kf := 8) (kR_n (M := mX5_finishOrder) dX5_finishOrder_29 rfl) dX5_finishOrder_30 clX5 lkX5_34 (by decide)) (kaI (M := mX5_finishOrder) (kF (M := mX5_finishOrder) (kf := 4) (kR_n (M := mX5_finishOrder) dX5_finishOrder_33 rfl) dX5_finishOrder_34 clX3 lkX5_168 (by decide)) (kaN (M := mX5_finishOrder)))) dX5_finishOrder_37 ctX4_engrave mdX4_engrave imX4_engrave seX4_engrave clX4 mkX5_190 ⟨(Nat.le_of_ble_eq_true rfl), (Nat.le_of_ble_eq_true rfl)⟩) (kSeq (M := mX5_finishOrder) (ksCV (M := mX5_finishOrder) (ci := 5) (kR_n (M := mX5_finishOrder) dX5_finishOrder_40 rfl) (kaR (M := mX5_finishOrder) (kR_n (M := mX5_finishOrder) dX5_finishOrder_41 rfl) (kaI (M := mX5_finishOrder) (kF (M := mX5_finishOrder) (kf := 1) (kR_n (M := mX5_finishOrder) dX5_finishOrder_42 rfl) dX5_finishOrder_43 clX3 lkX5_135 (by decide)) (kaI (M := mX5_finishOrder) (kF (M := mX5_finishOrder) (kf := 2) (kR_n (M := mX5_finishOrder) dX5_finishOrder_46 rfl) dX5_finishOrder_47 clX3 lkX5_136 (by decide)) (kaN (M := mX5_finishOrder))))) dX5_finishOrder_50 ctX5_fixPlate mdX5_fixPlate imX5_fixPlate seX5_fixPlate clX5 mkX5_193 ⟨(Nat.le_of_ble_eq_true rfl), (Nat.le_of_ble_eq_true rfl)⟩) (kSeq (M := mX5_finishOrder) (kSi_n (M := mX5_finishOrder) (kF (M := mX5_finishOrder) (kf := 6) (kR_n (M := mX5_finishOrder) dX5_finishOrder_53 rfl) dX5_finishOrder_54 clX5 lkX5_27 (by decide)) dX5_finishOrder_57 rfl (by decide)) (kSeq (M := mX5_finishOrder) (ksCV (M := mX5_finishOrder) (ci := 5) (kR_n (M := mX5_finishOrder) dX5_finishOrder_58 rfl) (kaN (M := mX5_finishOrder)) dX5_finishOrder_59 ctX5_stopWork mdX5_stopWork imX5_stopWork seX5_stopWork clX5 mkX5_148 ⟨(Nat.le_of_ble_eq_true rfl), (Nat.le_of_ble_eq_true rfl)⟩) (kSeq (M := mX5_finishOrder) (ksCV (M := mX5_finishOrder) (ci := 5) (kR_n (M := mX5_finishOrder) dX5_finishOrder_62 rfl) (kaI (M := mX5_finishOrder) (kL_n (M := mX5_finishOrder) dX5_finishOrder_63 rfl) (kaN (M := mX5_finishOrder))) dX5_finishOrder_64 ctX5_removeOrder mdX5_removeOrder imX5_removeOrder seX5_removeOrder clX5 mkX5_151 ⟨(Nat.le_of_ble_eq_true rfl), (Nat.le_of_ble_eq_true rfl)⟩) (kSeq (M := mX5_finishOrder) (kPFaddsub (M := mX5_finishOrder) (kf := 10) (Or.inl ⟨rfl, rfl⟩) (kR_n (M := mX5_finishOrder) dX5_finishOrder_67 rfl) dX5_finishOrder_68 dX5_finishOrder_69 (kC_ic (M := mX5_finishOrder) (v := 1) dX5_finishOrder_72 kc_iconst_1) dX5_finishOrder_73 dX5_finishOrder_74 clX5 lkX5_58 lkX5_58 (by decide) rfl rfl) (kRv (M := mX5_finishOrder) dX5_finishOrder_77))))))))))
def fX5_finishOrder : zFV := mV bX5_finishOrder
theorem ctX5_finishOrder : CtV yX5_finishOrder cX5_finishOrder 4 2 0 0 48 1 fX5_finishOrder := ctV mdX5_finishOrder (Nat.le_of_ble_eq_true rfl) kX5_finishOrder
/-! TrophyPlates$Shop.misspell -/
theorem mdX5_misspell : zMd yX5_misspell cX5_misspell 4 (some .int) 0 := ⟨cdX5_misspell, iniX5, ⟨by decide +kernel, by decide +kernel⟩, by decide +kernel, by decide +kernel⟩
def bX5_misspell : zSS := sSeq (sIf (bNot (bZ z_ne (eCV 5 (rL 0) (aN) fX5_isWorking))) (sRi (eC (-2))) sNop) (sSeq (sLr 1 (rQ 3 (rF 5 2 (rL 0)) (eF 5 6 (rL 0)))) (sSeq (sLr 2 (rQ 4 (rF 5 0 (rL 0)) (eF 5 7 (rL 0)))) (sSeq (sCV 4 (rL 2) (aI (eF 5 8 (rL 0)) (aI (eF 3 4 (rL 1)) (aN))) fX4_engrave) (sSeq (sFa (· + ·) 5 11 (rL 0) (eC 1)) (sSeq (sLi 3 (eT (bZ z_eq (eF 5 8 (rL 0))) (eC 1) (eC 0))) (sSeq (sIf (bZ z_ne (eCV 4 (rL 2) (aI (eL 3) (aI (eF 3 4 (rL 1)) (aN))) fX4_isReady)) (sSeq (sF 5 8 (rL 0) (eL 3)) (sSeq (sF 5 9 (rL 0) (eCV 3 (rL 1) (aN) fX3_effort)) (sRi (eC 1)))) sNop) (sSeq (sIf (bZ z_ne (eCV 4 (rL 2) (aI (eF 5 8 (rL 0)) (aI (eF 3 4 (rL 1)) (aN))) fX4_canBeGround)) (sSeq (sCV 5 (rL 0) (aR (rL 2) (aI (eF 5 8 (rL 0)) (aN))) fX5_grindSide) (sSeq (sF 5 9 (rL 0) (eOp (· + ·) (eCV 3 (rL 1) (aN) fX3_effort) (eC 10))) (sRi (eC 2)))) sNop) (sSeq (sF 4 2 (rL 2) (eC 3)) (sSeq (sCV 5 (rL 0) (aN) fX5_stopWork) (sRi (eC 3)))))))))))
abbrev mX5_misspell : zM := (cX5_misspell, RX5, 4, some .int, { frames := 3, cells := 0, slots := 0, locals := 65 }, false)
set_option maxHeartbeats 400000 in
set_option maxRecDepth 20000 in
theorem kX5_misspell : ssOk mX5_misspell 0 140 bX5_misspell := (kSeq (M := mX5_misspell) (kIf (M := mX5_misspell) (kBnot (M := mX5_misspell) (kZ_neT (M := mX5_misspell) (kCV (M := mX5_misspell) (ci := 5) (kR_n (M := mX5_misspell) dX5_misspell_0 rfl) (kaN (M := mX5_misspell)) dX5_misspell_1 ctX5_isWorking mdX5_isWorking imX5_isWorking seX5_isWorking clX5 mkX5_144 ⟨(Nat.le_of_ble_eq_true rfl), (Nat.le_of_ble_eq_true rfl)⟩ (Nat.le_of_ble_eq_true rfl)) dX5_misspell_4 (by decide) rfl)) (kRi (M := mX5_misspell) (kC_bi (M := mX5_misspell) (v := (-2)) dX5_misspell_7 kc_bipush_m2) dX5_misspell_9) (kNop (M := mX5_misspell))) (kSeq (M := mX5_misspell) (kSr_n (M := mX5_misspell) (kQ (M := mX5_misspell) (ci := 3) (kRF (M := mX5_misspell) (kf := 2) (kR_n (M := mX5_misspell) dX5_misspell_10 rfl) dX5_misspell_11 clX5 lkX5_23 (by decide)) (kF (M := mX5_misspell) (kf := 6) (kR_n (M := mX5_misspell) dX5_misspell_14 rfl) dX5_misspell_15 clX5 lkX5_27 (by decide)) dX5_misspell_18 (by first | exact Or.inl ⟨rfl, rfl⟩ | exact Or.inr (Or.inl ⟨rfl, rfl⟩) | exact Or.inr (Or.inr ⟨rfl, rfl⟩))) dX5_misspell_19 rfl (by decide)) (kSeq (M := mX5_misspell) (kSr_n (M := mX5_misspell) (kQ (M := mX5_misspell) (ci := 4) (kRF (M := mX5_misspell) (kf := 0) (kR_n (M := mX5_misspell) dX5_misspell_20 rfl) dX5_misspell_21 clX5 lkX5_11 (by decide)) (kF (M := mX5_misspell) (kf := 7) (kR_n (M := mX5_misspell) dX5_misspell_24 rfl) dX5_misspell_25 clX5 lkX5_31 (by decide)) dX5_misspell_28 (by first | exact Or.inl ⟨rfl, rfl⟩ | exact Or.inr (Or.inl ⟨rfl, rfl⟩) | exact Or.inr (Or.inr ⟨rfl, rfl⟩))) dX5_misspell_29 rfl (by decide)) (kSeq (M := mX5_misspell) (ksCV (M := mX5_misspell) (ci := 4) (kR_n (M := mX5_misspell) dX5_misspell_30 rfl) (kaI (M := mX5_misspell) (kF (M := mX5_misspell) (kf := 8) (kR_n (M := mX5_misspell) dX5_misspell_31 rfl) dX5_misspell_32 clX5 lkX5_34 (by decide)) (kaI (M := mX5_misspell) (kF (M := mX5_misspell) (kf := 4) (kR_n (M := mX5_misspell) dX5_misspell_35 rfl) dX5_misspell_36 clX3 lkX5_168 (by decide)) (kaN (M := mX5_misspell)))) dX5_misspell_39 ctX4_engrave mdX4_engrave imX4_engrave seX4_engrave clX4 mkX5_190 ⟨(Nat.le_of_ble_eq_true rfl), (Nat.le_of_ble_eq_true rfl)⟩) (kSeq (M := mX5_misspell) (kPFaddsub (M := mX5_misspell) (kf := 11) (Or.inl ⟨rfl, rfl⟩) (kR_n (M := mX5_misspell) dX5_misspell_42 rfl) dX5_misspell_43 dX5_misspell_44 (kC_ic (M := mX5_misspell) (v := 1) dX5_misspell_47 kc_iconst_1) dX5_misspell_48 dX5_misspell_49 clX5 lkX5_61 lkX5_61 (by decide) rfl rfl) (kSeq (M := mX5_misspell) (kSi_n (M := mX5_misspell) (kT (M := mX5_misspell) (kZ_eqF (M := mX5_misspell) (kF (M := mX5_misspell) (kf := 8) (kR_n (M := mX5_misspell) dX5_misspell_52 rfl) dX5_misspell_53 clX5 lkX5_34 (by decide)) dX5_misspell_56 (by decide) rfl) (kC_ic (M := mX5_misspell) (v := 1) dX5_misspell_59 kc_iconst_1) dX5_misspell_60 (by decide) (kC_ic (M := mX5_misspell) (v := 0) dX5_misspell_63 kc_iconst_0)) dX5_misspell_64 rfl (by decide)) (kSeq (M := mX5_misspell) (kIf (M := mX5_misspell) (kZ_neF (M := mX5_misspell) (kCV (M := mX5_misspell) (ci := 4) (kR_n (M := mX5_misspell) dX5_misspell_65 rfl) (kaI (M := mX5_misspell) (kL_n (M := mX5_misspell) dX5_misspell_66 rfl) (kaI (M := mX5_misspell) (kF (M := mX5_misspell) (kf := 4) (kR_n (M := mX5_misspell) dX5_misspell_67 rfl) dX5_misspell_68 clX3 lkX5_168 (by decide)) (kaN (M := mX5_misspell)))) dX5_misspell_71 ctX4_isReady mdX4_isReady imX4_isReady seX4_isReady clX4 mkX5_197 ⟨(Nat.le_of_ble_eq_true rfl), (Nat.le_of_ble_eq_true rfl)⟩ (Nat.le_of_ble_eq_true rfl)) dX5_misspell_74 (by decide) rfl) (kSeq (M := mX5_misspell) (kPF (M := mX5_misspell) (kf := 8) (kR_n (M := mX5_misspell) dX5_misspell_77 rfl) (kL_n (M := mX5_misspell) dX5_misspell_78 rfl) dX5_misspell_79 clX5 lkX5_34 (by decide) rfl rfl) (kSeq (M := mX5_misspell) (kPF (M := mX5_misspell) (kf := 9) (kR_n (M := mX5_misspell) dX5_misspell_82 rfl) (kCV (M := mX5_misspell) (ci := 3) (kR_n (M := mX5_misspell) dX5_misspell_83 rfl) (kaN (M := mX5_misspell)) dX5_misspell_84 ctX3_effort mdX3_effort imX3_effort seX3_effort clX3 mkX5_180 ⟨(Nat.le_of_ble_eq_true rfl), (Nat.le_of_ble_eq_true rfl)⟩ (Nat.le_of_ble_eq_true rfl)) dX5_misspell_87 clX5 lkX5_37 (by decide) rfl rfl) (kRi (M := mX5_misspell) (kC_ic (M := mX5_misspell) (v := 1) dX5_misspell_90 kc_iconst_1) dX5_misspell_91))) (kNop (M := mX5_misspell))) (kSeq (M := mX5_misspell) (kIf (M := mX5_misspell) (kZ_neF (M := mX5_misspell) (kCV (M := mX5_misspell) (ci := 4) (kR_n (M := mX5_misspell) dX5_misspell_92 rfl) (kaI (M := mX5_misspell) (kF (M := mX5_misspell) (kf := 8) (kR_n (M := mX5_misspell) dX5_misspell_93 rfl) dX5_misspell_94 clX5 lkX5_34 (by decide)) (kaI (M := mX5_misspell) (kF (M := mX5_misspell) (kf := 4) (kR_n (M := mX5_misspell) dX5_misspell_97 rfl) dX5_misspell_98 clX3 lkX5_168 (by decide)) (kaN (M := mX5_misspell)))) dX5_misspell_101 ctX4_canBeGround mdX4_canBeGround imX4_canBeGround seX4_canBeGround clX4 mkX5_201 ⟨(Nat.le_of_ble_eq_true rfl), (Nat.le_of_ble_eq_true rfl)⟩ (Nat.le_of_ble_eq_true rfl)) dX5_misspell_104 (by decide) rfl) (kSeq (M := mX5_misspell) (ksCV (M := mX5_misspell) (ci := 5) (kR_n (M := mX5_misspell) dX5_misspell_107 rfl) (kaR (M := mX5_misspell) (kR_n (M := mX5_misspell) dX5_misspell_108 rfl) (kaI (M := mX5_misspell) (kF (M := mX5_misspell) (kf := 8) (kR_n (M := mX5_misspell) dX5_misspell_109 rfl) dX5_misspell_110 clX5 lkX5_34 (by decide)) (kaN (M := mX5_misspell)))) dX5_misspell_113 ctX5_grindSide mdX5_grindSide imX5_grindSide seX5_grindSide clX5 mkX5_186 ⟨(Nat.le_of_ble_eq_true rfl), (Nat.le_of_ble_eq_true rfl)⟩) (kSeq (M := mX5_misspell) (kPF (M := mX5_misspell) (kf := 9) (kR_n (M := mX5_misspell) dX5_misspell_116 rfl) (kAdd (M := mX5_misspell) (kCV (M := mX5_misspell) (ci := 3) (kR_n (M := mX5_misspell) dX5_misspell_117 rfl) (kaN (M := mX5_misspell)) dX5_misspell_118 ctX3_effort mdX3_effort imX3_effort seX3_effort clX3 mkX5_180 ⟨(Nat.le_of_ble_eq_true rfl), (Nat.le_of_ble_eq_true rfl)⟩ (Nat.le_of_ble_eq_true rfl)) (kC_bi (M := mX5_misspell) (v := 10) dX5_misspell_121 kc_bipush_10) dX5_misspell_123) dX5_misspell_124 clX5 lkX5_37 (by decide) rfl rfl) (kRi (M := mX5_misspell) (kC_ic (M := mX5_misspell) (v := 2) dX5_misspell_127 kc_iconst_2) dX5_misspell_128))) (kNop (M := mX5_misspell))) (kSeq (M := mX5_misspell) (kPF (M := mX5_misspell) (kf := 2) (kR_n (M := mX5_misspell) dX5_misspell_129 rfl) (kC_ic (M := mX5_misspell) (v := 3) dX5_misspell_130 kc_iconst_3) dX5_misspell_131 clX4 lkX5_82 (by decide) rfl rfl) (kSeq (M := mX5_misspell) (ksCV (M := mX5_misspell) (ci := 5) (kR_n (M := mX5_misspell) dX5_misspell_134 rfl) (kaN (M := mX5_misspell)) dX5_misspell_135 ctX5_stopWork mdX5_stopWork imX5_stopWork seX5_stopWork clX5 mkX5_148 ⟨(Nat.le_of_ble_eq_true rfl), (Nat.le_of_ble_eq_true rfl)⟩) (kRi (M := mX5_misspell) (kC_ic (M := mX5_misspell) (v := 3) dX5_misspell_138 kc_iconst_3) dX5_misspell_139)))))))))))
def fX5_misspell : zFI := mI bX5_misspell
theorem ctX5_misspell : CtI yX5_misspell cX5_misspell 4 .int 3 65 1 fX5_misspell := ctI mdX5_misspell (Nat.le_of_ble_eq_true rfl) kX5_misspell
/-! TrophyPlates$Shop.findPlate -/
theorem mdX5_findPlate : zMd yX5_findPlate cX5_findPlate 4 (some .int) 2 := ⟨cdX5_findPlate, iniX5, ⟨by decide +kernel, by decide +kernel⟩, by decide +kernel, by decide +kernel⟩
def bX5_findPlate : zSS := sSeq (sLi 3 (eCV 5 (rL 0) (aI (eL 1) (aI (eL 2) (aI (eC 0) (aN)))) fX5_bestPlate)) (sRi (eT (bCmp o_eq (eL 3) (eC (-9))) (eCV 5 (rL 0) (aI (eL 1) (aI (eL 2) (aI (eC 1) (aN)))) fX5_bestPlate) (eL 3)))
abbrev mX5_findPlate : zM := (cX5_findPlate, RX5, 4, some .int, { frames := 4, cells := 0, slots := 0, locals := 91 }, false)
set_option maxHeartbeats 400000 in
set_option maxRecDepth 20000 in
theorem kX5_findPlate : ssOk mX5_findPlate 0 26 bX5_findPlate := (kSeq (M := mX5_findPlate) (kSi_n (M := mX5_findPlate) (kCV (M := mX5_findPlate) (ci := 5) (kR_n (M := mX5_findPlate) dX5_findPlate_0 rfl) (kaI (M := mX5_findPlate) (kL_n (M := mX5_findPlate) dX5_findPlate_1 rfl) (kaI (M := mX5_findPlate) (kL_n (M := mX5_findPlate) dX5_findPlate_2 rfl) (kaI (M := mX5_findPlate) (kC_ic (M := mX5_findPlate) (v := 0) dX5_findPlate_3 kc_iconst_0) (kaN (M := mX5_findPlate))))) dX5_findPlate_4 ctX5_bestPlate mdX5_bestPlate imX5_bestPlate seX5_bestPlate clX5 mkX5_114 ⟨(Nat.le_of_ble_eq_true rfl), (Nat.le_of_ble_eq_true rfl)⟩ (Nat.le_of_ble_eq_true rfl)) dX5_findPlate_7 rfl (by decide)) (kRi (M := mX5_findPlate) (kT (M := mX5_findPlate) (kB_eqF (M := mX5_findPlate) (kL_n (M := mX5_findPlate) dX5_findPlate_8 rfl) (kC_bi (M := mX5_findPlate) (v := (-9)) dX5_findPlate_9 kc_bipush_m9) dX5_findPlate_11 (by decide) rfl) (kCV (M := mX5_findPlate) (ci := 5) (kR_n (M := mX5_findPlate) dX5_findPlate_14 rfl) (kaI (M := mX5_findPlate) (kL_n (M := mX5_findPlate) dX5_findPlate_15 rfl) (kaI (M := mX5_findPlate) (kL_n (M := mX5_findPlate) dX5_findPlate_16 rfl) (kaI (M := mX5_findPlate) (kC_ic (M := mX5_findPlate) (v := 1) dX5_findPlate_17 kc_iconst_1) (kaN (M := mX5_findPlate))))) dX5_findPlate_18 ctX5_bestPlate mdX5_bestPlate imX5_bestPlate seX5_bestPlate clX5 mkX5_114 ⟨(Nat.le_of_ble_eq_true rfl), (Nat.le_of_ble_eq_true rfl)⟩ (Nat.le_of_ble_eq_true rfl)) dX5_findPlate_21 (by decide) (kL_n (M := mX5_findPlate) dX5_findPlate_24 rfl)) dX5_findPlate_25))
def fX5_findPlate : zFI := mI bX5_findPlate
theorem ctX5_findPlate : CtI yX5_findPlate cX5_findPlate 4 .int 4 91 3 fX5_findPlate := ctI mdX5_findPlate (Nat.le_of_ble_eq_true rfl) kX5_findPlate
/-! TrophyPlates$Shop.takeInOrder -/
theorem mdX5_takeInOrder : zMd yX5_takeInOrder cX5_takeInOrder 3 (some .int) 0 := ⟨cdX5_takeInOrder, iniX5, ⟨by decide +kernel, by decide +kernel⟩, by decide +kernel, by decide +kernel⟩
def bX5_takeInOrder : zSS := sSeq (sLi 1 (eF 5 5 (rL 0))) (sSeq (sLi 2 (eT (bZ z_ne (eF 3 5 (rQ 3 (rF 5 2 (rL 0)) (eL 1)))) (eCV 5 (rL 0) (aN) fX5_rushes) (eL 1))) (sSeq (sFa (· + ·) 5 5 (rL 0) (eC 1)) (sSeq (sCV 5 (rL 0) (aI (eL 1) (aI (eL 2) (aN))) fX5_moveAhead) (sRi (eL 2)))))
abbrev mX5_takeInOrder : zM := (cX5_takeInOrder, RX5, 3, some .int, { frames := 1, cells := 0, slots := 0, locals := 24 }, false)
set_option maxHeartbeats 400000 in
set_option maxRecDepth 20000 in
theorem kX5_takeInOrder : ssOk mX5_takeInOrder 0 44 bX5_takeInOrder := (kSeq (M := mX5_takeInOrder) (kSi_n (M := mX5_takeInOrder) (kF (M := mX5_takeInOrder) (kf := 5) (kR_n (M := mX5_takeInOrder) dX5_takeInOrder_0 rfl) dX5_takeInOrder_1 clX5 lkX5_52 (by decide)) dX5_takeInOrder_4 rfl (by decide)) (kSeq (M := mX5_takeInOrder) (kSi_n (M := mX5_takeInOrder) (kT (M := mX5_takeInOrder) (kZ_neF (M := mX5_takeInOrder) (kF (M := mX5_takeInOrder) (kf := 5) (kQ (M := mX5_takeInOrder) (ci := 3) (kRF (M := mX5_takeInOrder) (kf := 2) (kR_n (M := mX5_takeInOrder) dX5_takeInOrder_5 rfl) dX5_takeInOrder_6 clX5 lkX5_23 (by decide)) (kL_n (M := mX5_takeInOrder) dX5_takeInOrder_9 rfl) dX5_takeInOrder_10 (by first | exact Or.inl ⟨rfl, rfl⟩ | exact Or.inr (Or.inl ⟨rfl, rfl⟩) | exact Or.inr (Or.inr ⟨rfl, rfl⟩))) dX5_takeInOrder_11 clX3 lkX5_131 (by decide)) dX5_takeInOrder_14 (by decide) rfl) (kCV (M := mX5_takeInOrder) (ci := 5) (kR_n (M := mX5_takeInOrder) dX5_takeInOrder_17 rfl) (kaN (M := mX5_takeInOrder)) dX5_takeInOrder_18 ctX5_rushes mdX5_rushes imX5_rushes seX5_rushes clX5 mkX5_137 ⟨(Nat.le_of_ble_eq_true rfl), (Nat.le_of_ble_eq_true rfl)⟩ (Nat.le_of_ble_eq_true rfl)) dX5_takeInOrder_21 (by decide) (kL_n (M := mX5_takeInOrder) dX5_takeInOrder_24 rfl)) dX5_takeInOrder_25 rfl (by decide)) (kSeq (M := mX5_takeInOrder) (kPFaddsub (M := mX5_takeInOrder) (kf := 5) (Or.inl ⟨rfl, rfl⟩) (kR_n (M := mX5_takeInOrder) dX5_takeInOrder_26 rfl) dX5_takeInOrder_27 dX5_takeInOrder_28 (kC_ic (M := mX5_takeInOrder) (v := 1) dX5_takeInOrder_31 kc_iconst_1) dX5_takeInOrder_32 dX5_takeInOrder_33 clX5 lkX5_52 lkX5_52 (by decide) rfl rfl) (kSeq (M := mX5_takeInOrder) (ksCV (M := mX5_takeInOrder) (ci := 5) (kR_n (M := mX5_takeInOrder) dX5_takeInOrder_36 rfl) (kaI (M := mX5_takeInOrder) (kL_n (M := mX5_takeInOrder) dX5_takeInOrder_37 rfl) (kaI (M := mX5_takeInOrder) (kL_n (M := mX5_takeInOrder) dX5_takeInOrder_38 rfl) (kaN (M := mX5_takeInOrder)))) dX5_takeInOrder_39 ctX5_moveAhead mdX5_moveAhead imX5_moveAhead seX5_moveAhead clX5 mkX5_141 ⟨(Nat.le_of_ble_eq_true rfl), (Nat.le_of_ble_eq_true rfl)⟩) (kRi (M := mX5_takeInOrder) (kL_n (M := mX5_takeInOrder) dX5_takeInOrder_42 rfl) dX5_takeInOrder_43)))))
def fX5_takeInOrder : zFI := mI bX5_takeInOrder
theorem ctX5_takeInOrder : CtI yX5_takeInOrder cX5_takeInOrder 3 .int 1 24 1 fX5_takeInOrder := ctI mdX5_takeInOrder (Nat.le_of_ble_eq_true rfl) kX5_takeInOrder
/-! TrophyPlates$Shop.makeRush -/
theorem mdX5_makeRush : zMd yX5_makeRush cX5_makeRush 3 (some .int) 1 := ⟨cdX5_makeRush, iniX5, ⟨by decide +kernel, by decide +kernel⟩, by decide +kernel, by decide +kernel⟩
def bX5_makeRush : zSS := sSeq (sLi 2 (eCV 5 (rL 0) (aN) fX5_rushes)) (sSeq (sFz 3 5 (rQ 3 (rF 5 2 (rL 0)) (eL 1)) (eC 1)) (sSeq (sCV 5 (rL 0) (aI (eL 1) (aI (eL 2) (aN))) fX5_moveAhead) (sRi (eL 2))))
abbrev mX5_makeRush : zM := (cX5_makeRush, RX5, 3, some .int, { frames := 1, cells := 0, slots := 0, locals := 24 }, false)
set_option maxHeartbeats 400000 in
set_option maxRecDepth 20000 in
theorem kX5_makeRush : ssOk mX5_makeRush 0 23 bX5_makeRush := (kSeq (M := mX5_makeRush) (kSi_n (M := mX5_makeRush) (kCV (M := mX5_makeRush) (ci := 5) (kR_n (M := mX5_makeRush) dX5_makeRush_0 rfl) (kaN (M := mX5_makeRush)) dX5_makeRush_1 ctX5_rushes mdX5_rushes imX5_rushes seX5_rushes clX5 mkX5_137 ⟨(Nat.le_of_ble_eq_true rfl), (Nat.le_of_ble_eq_true rfl)⟩ (Nat.le_of_ble_eq_true rfl)) dX5_makeRush_4 rfl (by decide)) (kSeq (M := mX5_makeRush) (kPFz (M := mX5_makeRush) (kf := 5) (kQ (M := mX5_makeRush) (ci := 3) (kRF (M := mX5_makeRush) (kf := 2) (kR_n (M := mX5_makeRush) dX5_makeRush_5 rfl) dX5_makeRush_6 clX5 lkX5_23 (by decide)) (kL_n (M := mX5_makeRush) dX5_makeRush_9 rfl) dX5_makeRush_10 (by first | exact Or.inl ⟨rfl, rfl⟩ | exact Or.inr (Or.inl ⟨rfl, rfl⟩) | exact Or.inr (Or.inr ⟨rfl, rfl⟩))) (kC_ic (M := mX5_makeRush) (v := 1) dX5_makeRush_11 kc_iconst_1) dX5_makeRush_12 clX3 lkX5_131 (by decide) rfl rfl) (kSeq (M := mX5_makeRush) (ksCV (M := mX5_makeRush) (ci := 5) (kR_n (M := mX5_makeRush) dX5_makeRush_15 rfl) (kaI (M := mX5_makeRush) (kL_n (M := mX5_makeRush) dX5_makeRush_16 rfl) (kaI (M := mX5_makeRush) (kL_n (M := mX5_makeRush) dX5_makeRush_17 rfl) (kaN (M := mX5_makeRush)))) dX5_makeRush_18 ctX5_moveAhead mdX5_moveAhead imX5_moveAhead seX5_moveAhead clX5 mkX5_141 ⟨(Nat.le_of_ble_eq_true rfl), (Nat.le_of_ble_eq_true rfl)⟩) (kRi (M := mX5_makeRush) (kL_n (M := mX5_makeRush) dX5_makeRush_21 rfl) dX5_makeRush_22))))
def fX5_makeRush : zFI := mI bX5_makeRush
theorem ctX5_makeRush : CtI yX5_makeRush cX5_makeRush 3 .int 1 24 2 fX5_makeRush := ctI mdX5_makeRush (Nat.le_of_ble_eq_true rfl) kX5_makeRush
/-! TrophyPlates$Shop.dropOrder -/
theorem mdX5_dropOrder : zMd yX5_dropOrder cX5_dropOrder 2 (none) 1 := ⟨cdX5_dropOrder, iniX5, ⟨by decide +kernel, by decide +kernel⟩, by decide +kernel, by decide +kernel⟩
def bX5_dropOrder : zSS := sSeq (sIf (bAnd (bCmp o_eq (eL 1) (eF 5 6 (rL 0))) (bZ z_ne (eCV 5 (rL 0) (aN) fX5_isWorking))) (sSeq (sCV 4 (rQ 4 (rF 5 0 (rL 0)) (eF 5 7 (rL 0))) (aN) fX4_putIntoDrawer) (sCV 5 (rL 0) (aN) fX5_stopWork)) sNop) (sSeq (sCV 5 (rL 0) (aI (eL 1) (aN)) fX5_removeOrder) (sRv))
abbrev mX5_dropOrder : zM := (cX5_dropOrder, RX5, 2, none, { frames := 2, cells := 0, slots := 0, locals := 41 }, false)
set_option maxHeartbeats 400000 in
set_option maxRecDepth 20000 in
theorem kX5_dropOrder : ssOk mX5_dropOrder 0 37 bX5_dropOrder := (kSeq (M := mX5_dropOrder) (kIf (M := mX5_dropOrder) (kBand (M := mX5_dropOrder) (kB_eqF (M := mX5_dropOrder) (kL_n (M := mX5_dropOrder) dX5_dropOrder_0 rfl) (kF (M := mX5_dropOrder) (kf := 6) (kR_n (M := mX5_dropOrder) dX5_dropOrder_1 rfl) dX5_dropOrder_2 clX5 lkX5_27 (by decide)) dX5_dropOrder_5 (by decide) rfl) (kZ_neF (M := mX5_dropOrder) (kCV (M := mX5_dropOrder) (ci := 5) (kR_n (M := mX5_dropOrder) dX5_dropOrder_8 rfl) (kaN (M := mX5_dropOrder)) dX5_dropOrder_9 ctX5_isWorking mdX5_isWorking imX5_isWorking seX5_isWorking clX5 mkX5_144 ⟨(Nat.le_of_ble_eq_true rfl), (Nat.le_of_ble_eq_true rfl)⟩ (Nat.le_of_ble_eq_true rfl)) dX5_dropOrder_12 (by decide) rfl)) (kSeq (M := mX5_dropOrder) (ksCV (M := mX5_dropOrder) (ci := 4) (kQ (M := mX5_dropOrder) (ci := 4) (kRF (M := mX5_dropOrder) (kf := 0) (kR_n (M := mX5_dropOrder) dX5_dropOrder_15 rfl) dX5_dropOrder_16 clX5 lkX5_11 (by decide)) (kF (M := mX5_dropOrder) (kf := 7) (kR_n (M := mX5_dropOrder) dX5_dropOrder_19 rfl) dX5_dropOrder_20 clX5 lkX5_31 (by decide)) dX5_dropOrder_23 (by first | exact Or.inl ⟨rfl, rfl⟩ | exact Or.inr (Or.inl ⟨rfl, rfl⟩) | exact Or.inr (Or.inr ⟨rfl, rfl⟩))) (kaN (M := mX5_dropOrder)) dX5_dropOrder_24 ctX4_putIntoDrawer mdX4_putIntoDrawer imX4_putIntoDrawer seX4_putIntoDrawer clX4 mkX5_111 ⟨(Nat.le_of_ble_eq_true rfl), (Nat.le_of_ble_eq_true rfl)⟩) (ksCV (M := mX5_dropOrder) (ci := 5) (kR_n (M := mX5_dropOrder) dX5_dropOrder_27 rfl) (kaN (M := mX5_dropOrder)) dX5_dropOrder_28 ctX5_stopWork mdX5_stopWork imX5_stopWork seX5_stopWork clX5 mkX5_148 ⟨(Nat.le_of_ble_eq_true rfl), (Nat.le_of_ble_eq_true rfl)⟩)) (kNop (M := mX5_dropOrder))) (kSeq (M := mX5_dropOrder) (ksCV (M := mX5_dropOrder) (ci := 5) (kR_n (M := mX5_dropOrder) dX5_dropOrder_31 rfl) (kaI (M := mX5_dropOrder) (kL_n (M := mX5_dropOrder) dX5_dropOrder_32 rfl) (kaN (M := mX5_dropOrder))) dX5_dropOrder_33 ctX5_removeOrder mdX5_removeOrder imX5_removeOrder seX5_removeOrder clX5 mkX5_151 ⟨(Nat.le_of_ble_eq_true rfl), (Nat.le_of_ble_eq_true rfl)⟩) (kRv (M := mX5_dropOrder) dX5_dropOrder_36)))
def fX5_dropOrder : zFV := mV bX5_dropOrder
theorem ctX5_dropOrder : CtV yX5_dropOrder cX5_dropOrder 2 2 0 0 41 2 fX5_dropOrder := ctV mdX5_dropOrder (Nat.le_of_ble_eq_true rfl) kX5_dropOrder
/-! TrophyPlates$Shop.takesUpWork -/
theorem mdX5_takesUpWork : zMd yX5_takesUpWork cX5_takesUpWork 3 (some .boolean) 0 := ⟨cdX5_takesUpWork, iniX5, ⟨by decide +kernel, by decide +kernel⟩, by decide +kernel, by decide +kernel⟩
def bX5_takesUpWork : zSS := sSeq (sBlk (sSeq (sLi 1 (eC 0)) (sW 4000 (bAnd (bCmp o_lt (eL 1) (eF 5 5 (rL 0))) (bNot (bZ z_ne (eCV 5 (rL 0) (aN) fX5_isWorking)))) (sSeq (sSeq (sLi 2 (eCV 5 (rL 0) (aI (eCV 3 (rQ 3 (rF 5 2 (rL 0)) (eL 1)) (aN) fX3_nameLength) (aI (eF 3 4 (rQ 3 (rF 5 2 (rL 0)) (eL 1))) (aN))) fX5_findPlate)) (sIf (bZ z_ne (eCV 5 (rL 0) (aI (eL 2) (aN)) fX5_hasPlate)) (sCV 5 (rL 0) (aI (eL 1) (aI (eL 2) (aN))) fX5_beginOrder) sNop)) (sInc 1 1))))) (sRi (eCV 5 (rL 0) (aN) fX5_isWorking))
abbrev mX5_takesUpWork : zM := (cX5_takesUpWork, RX5, 3, some .boolean, { frames := 5, cells := 0, slots := 0, locals := 114 }, false)
set_option maxHeartbeats 400000 in
set_option maxRecDepth 20000 in
theorem kX5_takesUpWork : ssOk mX5_takesUpWork 0 65 bX5_takesUpWork := (kSeq (M := mX5_takesUpWork) (kBlk (M := mX5_takesUpWork) (kSeq (M := mX5_takesUpWork) (kSi_n (M := mX5_takesUpWork) (kC_ic (M := mX5_takesUpWork) (v := 0) dX5_takesUpWork_0 kc_iconst_0) dX5_takesUpWork_1 rfl (by decide)) (kWn (M := mX5_takesUpWork) (N := 4000) (kBand (M := mX5_takesUpWork) (kB_ltF (M := mX5_takesUpWork) (kL_n (M := mX5_takesUpWork) dX5_takesUpWork_2 rfl) (kF (M := mX5_takesUpWork) (kf := 5) (kR_n (M := mX5_takesUpWork) dX5_takesUpWork_3 rfl) dX5_takesUpWork_4 clX5 lkX5_52 (by decide)) dX5_takesUpWork_7 (by decide) rfl) (kBnot (M := mX5_takesUpWork) (kZ_neT (M := mX5_takesUpWork) (kCV (M := mX5_takesUpWork) (ci := 5) (kR_n (M := mX5_takesUpWork) dX5_takesUpWork_10 rfl) (kaN (M := mX5_takesUpWork)) dX5_takesUpWork_11 ctX5_isWorking mdX5_isWorking imX5_isWorking seX5_isWorking clX5 mkX5_144 ⟨(Nat.le_of_ble_eq_true rfl), (Nat.le_of_ble_eq_true rfl)⟩ (Nat.le_of_ble_eq_true rfl)) dX5_takesUpWork_14 (by decide) rfl))) (kGo (M := mX5_takesUpWork) (kSeq (M := mX5_takesUpWork) (kSeq (M := mX5_takesUpWork) (kSi_n (M := mX5_takesUpWork) (kCV (M := mX5_takesUpWork) (ci := 5) (kR_n (M := mX5_takesUpWork) dX5_takesUpWork_17 rfl) (kaI (M := mX5_takesUpWork) (kCV (M := mX5_takesUpWork) (ci := 3) (kQ (M := mX5_takesUpWork) (ci := 3) (kRF (M := mX5_takesUpWork) (kf := 2) (kR_n (M := mX5_takesUpWork) dX5_takesUpWork_18 rfl) dX5_takesUpWork_19 clX5 lkX5_23 (by decide)) (kL_n (M := mX5_takesUpWork) dX5_takesUpWork_22 rfl) dX5_takesUpWork_23 (by first | exact Or.inl ⟨rfl, rfl⟩ | exact Or.inr (Or.inl ⟨rfl, rfl⟩) | exact Or.inr (Or.inr ⟨rfl, rfl⟩))) (kaN (M := mX5_takesUpWork)) dX5_takesUpWork_24 ctX3_nameLength mdX3_nameLength imX3_nameLength seX3_nameLength clX3 mkX5_165 ⟨(Nat.le_of_ble_eq_true rfl), (Nat.le_of_ble_eq_true rfl)⟩ (Nat.le_of_ble_eq_true rfl)) (kaI (M := mX5_takesUpWork) (kF (M := mX5_takesUpWork) (kf := 4) (kQ (M := mX5_takesUpWork) (ci := 3) (kRF (M := mX5_takesUpWork) (kf := 2) (kR_n (M := mX5_takesUpWork) dX5_takesUpWork_27 rfl) dX5_takesUpWork_28 clX5 lkX5_23 (by decide)) (kL_n (M := mX5_takesUpWork) dX5_takesUpWork_31 rfl) dX5_takesUpWork_32 (by first | exact Or.inl ⟨rfl, rfl⟩ | exact Or.inr (Or.inl ⟨rfl, rfl⟩) | exact Or.inr (Or.inr ⟨rfl, rfl⟩))) dX5_takesUpWork_33 clX3 lkX5_168 (by decide)) (kaN (M := mX5_takesUpWork)))) dX5_takesUpWork_36 ctX5_findPlate mdX5_findPlate imX5_findPlate seX5_findPlate clX5 mkX5_171 ⟨(Nat.le_of_ble_eq_true rfl), (Nat.le_of_ble_eq_true rfl)⟩ (Nat.le_of_ble_eq_true rfl)) dX5_takesUpWork_39 rfl (by decide)) (kIf (M := mX5_takesUpWork) (kZ_neF (M := mX5_takesUpWork) (kCV (M := mX5_takesUpWork) (ci := 5) (kR_n (M := mX5_takesUpWork) dX5_takesUpWork_40 rfl) (kaI (M := mX5_takesUpWork) (kL_n (M := mX5_takesUpWork) dX5_takesUpWork_41 rfl) (kaN (M := mX5_takesUpWork))) dX5_takesUpWork_42 ctX5_hasPlate mdX5_hasPlate imX5_hasPlate seX5_hasPlate clX5 mkX5_71 ⟨(Nat.le_of_ble_eq_true rfl), (Nat.le_of_ble_eq_true rfl)⟩ (Nat.le_of_ble_eq_true rfl)) dX5_takesUpWork_45 (by decide) rfl) (ksCV (M := mX5_takesUpWork) (ci := 5) (kR_n (M := mX5_takesUpWork) dX5_takesUpWork_48 rfl) (kaI (M := mX5_takesUpWork) (kL_n (M := mX5_takesUpWork) dX5_takesUpWork_49 rfl) (kaI (M := mX5_takesUpWork) (kL_n (M := mX5_takesUpWork) dX5_takesUpWork_50 rfl) (kaN (M := mX5_takesUpWork)))) dX5_takesUpWork_51 ctX5_beginOrder mdX5_beginOrder imX5_beginOrder seX5_beginOrder clX5 mkX5_174 ⟨(Nat.le_of_ble_eq_true rfl), (Nat.le_of_ble_eq_true rfl)⟩) (kNop (M := mX5_takesUpWork)))) (kInc (M := mX5_takesUpWork) (v := 1) dX5_takesUpWork_54 kc_iconst_1 (by decide))) dX5_takesUpWork_57 (by decide))))) (kRi (M := mX5_takesUpWork) (kCV (M := mX5_takesUpWork) (ci := 5) (kR_n (M := mX5_takesUpWork) dX5_takesUpWork_60 rfl) (kaN (M := mX5_takesUpWork)) dX5_takesUpWork_61 ctX5_isWorking mdX5_isWorking imX5_isWorking seX5_isWorking clX5 mkX5_144 ⟨(Nat.le_of_ble_eq_true rfl), (Nat.le_of_ble_eq_true rfl)⟩ (Nat.le_of_ble_eq_true rfl)) dX5_takesUpWork_64))
def fX5_takesUpWork : zFI := mZ bX5_takesUpWork
theorem ctX5_takesUpWork : CtI yX5_takesUpWork cX5_takesUpWork 3 .boolean 5 114 1 fX5_takesUpWork := ctZ mdX5_takesUpWork (Nat.le_of_ble_eq_true rfl) kX5_takesUpWork
/-! TrophyPlates$Shop.spendMinutes -/
theorem mdX5_spendMinutes : zMd yX5_spendMinutes cX5_spendMinutes 6 (some .int) 1 := ⟨cdX5_spendMinutes, iniX5, ⟨by decide +kernel, by decide +kernel⟩, by decide +kernel, by decide +kernel⟩
def bX5_spendMinutes : zSS := sSeq (sLi 2 (eF 5 10 (rL 0))) (sSeq (sLi 3 (eL 1)) (sSeq (sBlk (sSeq (sLi 4 (eC 0)) (sW 4000 (bAnd (bAnd (bCmp o_le (eL 4) (eC 10)) (bZ z_gt (eL 3))) (bZ z_ne (eCV 5 (rL 0) (aN) fX5_takesUpWork))) (sSeq (sSeq (sLi 5 (eMin (eL 3) (eF 5 9 (rL 0)))) (sSeq (sLi 3 (eOp (· - ·) (eL 3) (eL 5))) (sSeq (sFa (· - ·) 5 9 (rL 0) (eL 5)) (sIf (bZ z_eq (eF 5 9 (rL 0))) (sCV 5 (rL 0) (aN) fX5_finishOrder) sNop)))) (sInc 4 1))))) (sRi (eOp (· - ·) (eF 5 10 (rL 0)) (eL 2)))))
abbrev mX5_spendMinutes : zM := (cX5_spendMinutes, RX5, 6, some .int, { frames := 6, cells := 0, slots := 0, locals := 136 }, false)
set_option maxHeartbeats 400000 in
set_option maxRecDepth 20000 in
theorem kX5_spendMinutes : ssOk mX5_spendMinutes 0 78 bX5_spendMinutes := (kSeq (M := mX5_spendMinutes) (kSi_n (M := mX5_spendMinutes) (kF (M := mX5_spendMinutes) (kf := 10) (kR_n (M := mX5_spendMinutes) dX5_spendMinutes_0 rfl) dX5_spendMinutes_1 clX5 lkX5_58 (by decide)) dX5_spendMinutes_4 rfl (by decide)) (kSeq (M := mX5_spendMinutes) (kSi_n (M := mX5_spendMinutes) (kL_n (M := mX5_spendMinutes) dX5_spendMinutes_5 rfl) dX5_spendMinutes_6 rfl (by decide)) (kSeq (M := mX5_spendMinutes) (kBlk (M := mX5_spendMinutes) (kSeq (M := mX5_spendMinutes) (kSi (M := mX5_spendMinutes) (kC_ic (M := mX5_spendMinutes) (v := 0) dX5_spendMinutes_7 kc_iconst_0) dX5_spendMinutes_8 (by decide)) (kWn (M := mX5_spendMinutes) (N := 4000) (kBand (M := mX5_spendMinutes) (kBand (M := mX5_spendMinutes) (kB_leF (M := mX5_spendMinutes) (kL (M := mX5_spendMinutes) dX5_spendMinutes_10) (kC_bi (M := mX5_spendMinutes) (v := 10) dX5_spendMinutes_12 kc_bipush_10) dX5_spendMinutes_14 (by decide) rfl) (kZ_gtF (M := mX5_spendMinutes) (kL_n (M := mX5_spendMinutes) dX5_spendMinutes_17 rfl) dX5_spendMinutes_18 (by decide) rfl)) (kZ_neF (M := mX5_spendMinutes) (kCV (M := mX5_spendMinutes) (ci := 5) (kR_n (M := mX5_spendMinutes) dX5_spendMinutes_21 rfl) (kaN (M := mX5_spendMinutes)) dX5_spendMinutes_22 ctX5_takesUpWork mdX5_takesUpWork imX5_takesUpWork seX5_takesUpWork clX5 mkX5_154 ⟨(Nat.le_of_ble_eq_true rfl), (Nat.le_of_ble_eq_true rfl)⟩ (Nat.le_of_ble_eq_true rfl)) dX5_spendMinutes_25 (by decide) rfl)) (kGo (M := mX5_spendMinutes) (kSeq (M := mX5_spendMinutes) (kSeq (M := mX5_spendMinutes) (kSi (M := mX5_spendMinutes) (kMin (M := mX5_spendMinutes) (kL_n (M := mX5_spendMinutes) dX5_spendMinutes_28 rfl) (kF (M := mX5_spendMinutes) (kf := 9) (kR_n (M := mX5_spendMinutes) dX5_spendMinutes_29 rfl) dX5_spendMinutes_30 clX5 lkX5_37 (by decide)) dX5_spendMinutes_33 mkX5_157 stMin inMin cdMin ⟨(Nat.le_of_ble_eq_true rfl), (Nat.le_of_ble_eq_true rfl)⟩) dX5_spendMinutes_36 (by decide)) (kSeq (M := mX5_spendMinutes) (kSi_n (M := mX5_spendMinutes) (kSub (M := mX5_spendMinutes) (kL_n (M := mX5_spendMinutes) dX5_spendMinutes_38 rfl) (kL (M := mX5_spendMinutes) dX5_spendMinutes_39) dX5_spendMinutes_41) dX5_spendMinutes_42 rfl (by decide)) (kSeq (M := mX5_spendMinutes) (kPFaddsub (M := mX5_spendMinutes) (kf := 9) (Or.inr ⟨rfl, rfl⟩) (kR_n (M := mX5_spendMinutes) dX5_spendMinutes_43 rfl) dX5_spendMinutes_44 dX5_spendMinutes_45 (kL (M := mX5_spendMinutes) dX5_spendMinutes_48) dX5_spendMinutes_50 dX5_spendMinutes_51 clX5 lkX5_37 lkX5_37 (by decide) rfl rfl) (kIf (M := mX5_spendMinutes) (kZ_eqF (M := mX5_spendMinutes) (kF (M := mX5_spendMinutes) (kf := 9) (kR_n (M := mX5_spendMinutes) dX5_spendMinutes_54 rfl) dX5_spendMinutes_55 clX5 lkX5_37 (by decide)) dX5_spendMinutes_58 (by decide) rfl) (ksCV (M := mX5_spendMinutes) (ci := 5) (kR_n (M := mX5_spendMinutes) dX5_spendMinutes_61 rfl) (kaN (M := mX5_spendMinutes)) dX5_spendMinutes_62 ctX5_finishOrder mdX5_finishOrder imX5_finishOrder seX5_finishOrder clX5 mkX5_162 ⟨(Nat.le_of_ble_eq_true rfl), (Nat.le_of_ble_eq_true rfl)⟩) (kNop (M := mX5_spendMinutes)))))) (kInc (M := mX5_spendMinutes) (v := 1) dX5_spendMinutes_65 kc_iconst_1 (by decide))) dX5_spendMinutes_68 (by decide))))) (kRi (M := mX5_spendMinutes) (kSub (M := mX5_spendMinutes) (kF (M := mX5_spendMinutes) (kf := 10) (kR_n (M := mX5_spendMinutes) dX5_spendMinutes_71 rfl) dX5_spendMinutes_72 clX5 lkX5_58 (by decide)) (kL_n (M := mX5_spendMinutes) dX5_spendMinutes_75 rfl) dX5_spendMinutes_76) dX5_spendMinutes_77))))
def fX5_spendMinutes : zFI := mI bX5_spendMinutes
theorem ctX5_spendMinutes : CtI yX5_spendMinutes cX5_spendMinutes 6 .int 6 136 2 fX5_spendMinutes := ctI mdX5_spendMinutes (Nat.le_of_ble_eq_true rfl) kX5_spendMinutes
end
section
/-! TrophyPlates$Forecast.<init> -/
theorem mdX0_init : zMd yX0_init cX0_init 2 (none) 1 := ⟨cdX0_init, iniX0, ⟨by decide +kernel, by decide +kernel⟩, by decide +kernel, by decide +kernel⟩
def bX0_init : zSS := sSeq ((fun en h => (rL 0 en h).map fun _ => .inl (en, h))) (sSeq (sFr 0 1 (rL 0) (rNA 10 (eC 10))) (sFr 0 0 (rL 0) (rL 1)))
abbrev mX0_init : zM := (cX0_init, RX0, 2, none, { frames := 1, cells := 1, slots := 10, locals := 12 }, true)
set_option maxHeartbeats 400000 in
set_option maxRecDepth 20000 in
theorem kX0_init : saOk mX0_init 0 17 1 10 bX0_init := (saSeq (M := mX0_init) (sa_ss (M := mX0_init) (saInit (M := mX0_init) dX0_init_0 dX0_init_1 okX0_3 imObj cdObj ⟨(Nat.le_of_ble_eq_true rfl), (Nat.le_of_ble_eq_true rfl)⟩)) (saSeq (M := mX0_init) (saFr (M := mX0_init) (kf := 1) (kR_n (M := mX0_init) dX0_init_4 rfl) (kNA (M := mX0_init) (kC_bi (M := mX0_init) (v := 10) dX0_init_5 kc_bipush_10) dX0_init_7 (Nat.le_of_ble_eq_true rfl) acI) dX0_init_9 clX0 lkX0_9 (by decide) rfl rfl rfl (fun _ => rfl) (fun _ => rfl)) (saFr (M := mX0_init) (kf := 0) (kR_n (M := mX0_init) dX0_init_12 rfl) (rn_er (M := mX0_init) (kR_n (M := mX0_init) dX0_init_13 rfl)) dX0_init_14 clX0 lkX0_15 (by decide) rfl rfl rfl (fun _ => rfl) (fun _ => rfl))))
def fX0_init : zFV := fun vs h => (bX0_init vs h).bind fun r => match r with
  | .inl q => some q.2
  | .inr _ => none
theorem ctX0_init : CtV yX0_init cX0_init 2 1 1 10 12 2 fX0_init := ctN mdX0_init (Nat.le_of_ble_eq_true rfl) rfl dX0_init_17 kX0_init
/-! TrophyPlates$Forecast.foresee -/
theorem mdX0_foresee : zMd yX0_foresee cX0_foresee 5 (none) 2 := ⟨cdX0_foresee, iniX0, ⟨by decide +kernel, by decide +kernel⟩, by decide +kernel, by decide +kernel⟩
def bX0_foresee : zSS := sSeq (sCV 5 (rF 0 0 (rL 0)) (aR (rL 1) (aN)) fX5_copyFrom) (sSeq (sBlk (sSeq (sLi 3 (eC 0)) (sW 4000 (bCmp o_lt (eL 3) (eC 10)) (sSeq (sSeq (sF 3 6 (rQ 3 (rF 5 2 (rF 0 0 (rL 0))) (eL 3)) (eL 3)) (sA (rF 0 1 (rL 0)) (eL 3) (eC (-9)))) (sInc 3 1))))) (sSeq (sIf (bZ z_ne (eCV 5 (rF 0 0 (rL 0)) (aI (eL 2) (aN)) fX5_hasOrder)) (sPop (eCV 5 (rF 0 0 (rL 0)) (aI (eL 2) (aN)) fX5_makeRush)) sNop) (sSeq (sLi 3 (eC 0)) (sSeq (sBlk (sSeq (sLi 4 (eC 0)) (sW 4000 (bAnd (bCmp o_lt (eL 4) (eC 10)) (bZ z_ne (eCV 5 (rF 0 0 (rL 0)) (aN) fX5_takesUpWork))) (sSeq (sSeq (sLi 3 (eOp (· + ·) (eL 3) (eF 5 9 (rF 0 0 (rL 0))))) (sSeq (sA (rF 0 1 (rL 0)) (eF 3 6 (rQ 3 (rF 5 2 (rF 0 0 (rL 0))) (eF 5 6 (rF 0 0 (rL 0))))) (eL 3)) (sCV 5 (rF 0 0 (rL 0)) (aN) fX5_finishOrder))) (sInc 4 1))))) (sRv)))))
abbrev mX0_foresee : zM := (cX0_foresee, RX0, 5, none, { frames := 6, cells := 0, slots := 0, locals := 136 }, false)
set_option maxHeartbeats 400000 in
set_option maxRecDepth 20000 in
theorem kX0_foresee : ssOk mX0_foresee 0 133 bX0_foresee := (kSeq (M := mX0_foresee) (ksCV (M := mX0_foresee) (ci := 5) (kRF (M := mX0_foresee) (kf := 0) (kR_n (M := mX0_foresee) dX0_foresee_0 rfl) dX0_foresee_1 clX0 lkX0_15 (by decide)) (kaR (M := mX0_foresee) (kR_n (M := mX0_foresee) dX0_foresee_4 rfl) (kaN (M := mX0_foresee))) dX0_foresee_5 ctX5_copyFrom mdX5_copyFrom imX5_copyFrom seX5_copyFrom clX5 mkX0_19 ⟨(Nat.le_of_ble_eq_true rfl), (Nat.le_of_ble_eq_true rfl)⟩) (kSeq (M := mX0_foresee) (kBlk (M := mX0_foresee) (kSeq (M := mX0_foresee) (kSi_n (M := mX0_foresee) (kC_ic (M := mX0_foresee) (v := 0) dX0_foresee_8 kc_iconst_0) dX0_foresee_9 rfl (by decide)) (kWn (M := mX0_foresee) (N := 4000) (kB_ltF (M := mX0_foresee) (kL_n (M := mX0_foresee) dX0_foresee_10 rfl) (kC_bi (M := mX0_foresee) (v := 10) dX0_foresee_11 kc_bipush_10) dX0_foresee_13 (by decide) rfl) (kGo (M := mX0_foresee) (kSeq (M := mX0_foresee) (kSeq (M := mX0_foresee) (kPF (M := mX0_foresee) (kf := 6) (kQ (M := mX0_foresee) (ci := 3) (kRF (M := mX0_foresee) (kf := 2) (kRF (M := mX0_foresee) (kf := 0) (kR_n (M := mX0_foresee) dX0_foresee_16 rfl) dX0_foresee_17 clX0 lkX0_15 (by decide)) dX0_foresee_20 clX5 lkX0_25 (by decide)) (kL_n (M := mX0_foresee) dX0_foresee_23 rfl) dX0_foresee_24 (by first | exact Or.inl ⟨rfl, rfl⟩ | exact Or.inr (Or.inl ⟨rfl, rfl⟩) | exact Or.inr (Or.inr ⟨rfl, rfl⟩))) (kL_n (M := mX0_foresee) dX0_foresee_25 rfl) dX0_foresee_26 clX3 lkX0_29 (by decide) rfl rfl) (kPA (M := mX0_foresee) (kRF (M := mX0_foresee) (kf := 1) (kR_n (M := mX0_foresee) dX0_foresee_29 rfl) dX0_foresee_30 clX0 lkX0_9 (by decide)) (kL_n (M := mX0_foresee) dX0_foresee_33 rfl) (kC_bi (M := mX0_foresee) (v := (-9)) dX0_foresee_34 kc_bipush_m9) dX0_foresee_36)) (kInc (M := mX0_foresee) (v := 1) dX0_foresee_37 kc_iconst_1 (by decide))) dX0_foresee_40 (by decide))))) (kSeq (M := mX0_foresee) (kIf (M := mX0_foresee) (kZ_neF (M := mX0_foresee) (kCV (M := mX0_foresee) (ci := 5) (kRF (M := mX0_foresee) (kf := 0) (kR_n (M := mX0_foresee) dX0_foresee_43 rfl) dX0_foresee_44 clX0 lkX0_15 (by decide)) (kaI (M := mX0_foresee) (kL_n (M := mX0_foresee) dX0_foresee_47 rfl) (kaN (M := mX0_foresee))) dX0_foresee_48 ctX5_hasOrder mdX5_hasOrder imX5_hasOrder seX5_hasOrder clX5 mkX0_35 ⟨(Nat.le_of_ble_eq_true rfl), (Nat.le_of_ble_eq_true rfl)⟩ (Nat.le_of_ble_eq_true rfl)) dX0_foresee_51 (by decide) rfl) (kPop (M := mX0_foresee) (kCV (M := mX0_foresee) (ci := 5) (kRF (M := mX0_foresee) (kf := 0) (kR_n (M := mX0_foresee) dX0_foresee_54 rfl) dX0_foresee_55 clX0 lkX0_15 (by decide)) (kaI (M := mX0_foresee) (kL_n (M := mX0_foresee) dX0_foresee_58 rfl) (kaN (M := mX0_foresee))) dX0_foresee_59 ctX5_makeRush mdX5_makeRush imX5_makeRush seX5_makeRush clX5 mkX0_39 ⟨(Nat.le_of_ble_eq_true rfl), (Nat.le_of_ble_eq_true rfl)⟩ (Nat.le_of_ble_eq_true rfl)) dX0_foresee_62) (kNop (M := mX0_foresee))) (kSeq (M := mX0_foresee) (kSi_n (M := mX0_foresee) (kC_ic (M := mX0_foresee) (v := 0) dX0_foresee_63 kc_iconst_0) dX0_foresee_64 rfl (by decide)) (kSeq (M := mX0_foresee) (kBlk (M := mX0_foresee) (kSeq (M := mX0_foresee) (kSi (M := mX0_foresee) (kC_ic (M := mX0_foresee) (v := 0) dX0_foresee_65 kc_iconst_0) dX0_foresee_66 (by decide)) (kWn (M := mX0_foresee) (N := 4000) (kBand (M := mX0_foresee) (kB_ltF (M := mX0_foresee) (kL (M := mX0_foresee) dX0_foresee_68) (kC_bi (M := mX0_foresee) (v := 10) dX0_foresee_70 kc_bipush_10) dX0_foresee_72 (by decide) rfl) (kZ_neF (M := mX0_foresee) (kCV (M := mX0_foresee) (ci := 5) (kRF (M := mX0_foresee) (kf := 0) (kR_n (M := mX0_foresee) dX0_foresee_75 rfl) dX0_foresee_76 clX0 lkX0_15 (by decide)) (kaN (M := mX0_foresee)) dX0_foresee_79 ctX5_takesUpWork mdX5_takesUpWork imX5_takesUpWork seX5_takesUpWork clX5 mkX0_43 ⟨(Nat.le_of_ble_eq_true rfl), (Nat.le_of_ble_eq_true rfl)⟩ (Nat.le_of_ble_eq_true rfl)) dX0_foresee_82 (by decide) rfl)) (kGo (M := mX0_foresee) (kSeq (M := mX0_foresee) (kSeq (M := mX0_foresee) (kSi_n (M := mX0_foresee) (kAdd (M := mX0_foresee) (kL_n (M := mX0_foresee) dX0_foresee_85 rfl) (kF (M := mX0_foresee) (kf := 9) (kRF (M := mX0_foresee) (kf := 0) (kR_n (M := mX0_foresee) dX0_foresee_86 rfl) dX0_foresee_87 clX0 lkX0_15 (by decide)) dX0_foresee_90 clX5 lkX0_47 (by decide)) dX0_foresee_93) dX0_foresee_94 rfl (by decide)) (kSeq (M := mX0_foresee) (kPA (M := mX0_foresee) (kRF (M := mX0_foresee) (kf := 1) (kR_n (M := mX0_foresee) dX0_foresee_95 rfl) dX0_foresee_96 clX0 lkX0_9 (by decide)) (kF (M := mX0_foresee) (kf := 6) (kQ (M := mX0_foresee) (ci := 3) (kRF (M := mX0_foresee) (kf := 2) (kRF (M := mX0_foresee) (kf := 0) (kR_n (M := mX0_foresee) dX0_foresee_99 rfl) dX0_foresee_100 clX0 lkX0_15 (by decide)) dX0_foresee_103 clX5 lkX0_25 (by decide)) (kF (M := mX0_foresee) (kf := 6) (kRF (M := mX0_foresee) (kf := 0) (kR_n (M := mX0_foresee) dX0_foresee_106 rfl) dX0_foresee_107 clX0 lkX0_15 (by decide)) dX0_foresee_110 clX5 lkX0_50 (by decide)) dX0_foresee_113 (by first | exact Or.inl ⟨rfl, rfl⟩ | exact Or.inr (Or.inl ⟨rfl, rfl⟩) | exact Or.inr (Or.inr ⟨rfl, rfl⟩))) dX0_foresee_114 clX3 lkX0_29 (by decide)) (kL_n (M := mX0_foresee) dX0_foresee_117 rfl) dX0_foresee_118) (ksCV (M := mX0_foresee) (ci := 5) (kRF (M := mX0_foresee) (kf := 0) (kR_n (M := mX0_foresee) dX0_foresee_119 rfl) dX0_foresee_120 clX0 lkX0_15 (by decide)) (kaN (M := mX0_foresee)) dX0_foresee_123 ctX5_finishOrder mdX5_finishOrder imX5_finishOrder seX5_finishOrder clX5 mkX0_53 ⟨(Nat.le_of_ble_eq_true rfl), (Nat.le_of_ble_eq_true rfl)⟩))) (kInc (M := mX0_foresee) (v := 1) dX0_foresee_126 kc_iconst_1 (by decide))) dX0_foresee_129 (by decide))))) (kRv (M := mX0_foresee) dX0_foresee_132))))))
def fX0_foresee : zFV := mV bX0_foresee
theorem ctX0_foresee : CtV yX0_foresee cX0_foresee 5 6 0 0 136 3 fX0_foresee := ctV mdX0_foresee (Nat.le_of_ble_eq_true rfl) kX0_foresee
end
section
/-! TrophyPlates$History.<init> -/
theorem mdX1_init : zMd yX1_init cX1_init 2 (none) 0 := ⟨cdX1_init, iniX1, ⟨by decide +kernel, by decide +kernel⟩, by decide +kernel, by decide +kernel⟩
def bX1_init : zSS := sSeq ((fun en h => (rL 0 en h).map fun _ => .inl (en, h))) (sSeq (sFr 1 0 (rL 0) (rNR 5 5 (eC 5))) (sBlk (sSeq (sLi 1 (eC 0)) (sW 6 (bCmp o_lt (eL 1) (eC 5)) (sSeq (sQ 5 (rF 1 0 (rL 0)) (eL 1) (rNw 5 [.null, .null, .null, .int 0, .int 0, .int 0, .int 0, .int 0, .int 0, .int 0, .int 0, .int 0, .int 0] (aN) fX5_init)) (sInc 1 1))))))
abbrev mX1_init : zM := (cX1_init, RX1, 2, none, { frames := 4, cells := 349, slots := 2549, locals := 73 }, true)
set_option maxHeartbeats 400000 in
set_option maxRecDepth 20000 in
theorem kX1_init : saOk mX1_init 0 38 349 2549 bX1_init := (saSeq (M := mX1_init) (sa_ss (M := mX1_init) (saInit (M := mX1_init) dX1_init_0 dX1_init_1 okX1_3 imObj cdObj ⟨(Nat.le_of_ble_eq_true rfl), (Nat.le_of_ble_eq_true rfl)⟩)) (saSeq (M := mX1_init) (saFr (M := mX1_init) (kf := 0) (kR_n (M := mX1_init) dX1_init_4 rfl) (kNR (M := mX1_init) (ci := 5) (kC_ic (M := mX1_init) (v := 5) dX1_init_5 kc_iconst_5) dX1_init_6 (Nat.le_of_ble_eq_true rfl) ao5 clX1_9 (by first | exact Or.inl ⟨rfl, rfl⟩ | exact Or.inr (Or.inl ⟨rfl, rfl⟩) | exact Or.inr (Or.inr ⟨rfl, rfl⟩))) dX1_init_9 clX1 lkX1_11 (by decide) rfl rfl rfl (fun _ => rfl) (fun _ => rfl)) (saBlk (M := mX1_init) (saSeq (M := mX1_init) (sa_ss (M := mX1_init) (kSi_n (M := mX1_init) (kC_ic (M := mX1_init) (v := 0) dX1_init_12 kc_iconst_0) dX1_init_13 rfl (by decide))) (saW (M := mX1_init) (kB_ltF (M := mX1_init) (kL_n (M := mX1_init) dX1_init_14 rfl) (kC_ic (M := mX1_init) (v := 5) dX1_init_15 kc_iconst_5) dX1_init_16 (by decide) rfl) (saGo (M := mX1_init) (saSeq (M := mX1_init) (saQ (M := mX1_init) (ci := 5) (kRF (M := mX1_init) (kf := 0) (kR_n (M := mX1_init) dX1_init_19 rfl) dX1_init_20 clX1 lkX1_11 (by decide)) (kL_n (M := mX1_init) dX1_init_23 rfl) (kNw (M := mX1_init) (ci := 5) dX1_init_24 dX1_init_27 (kaN (M := mX1_init)) dX1_init_28 ctX5_init mdX5_init rfl imX5_init rfl clX5 (dvX5) clX1_9 is5 mkX1_17 ⟨(Nat.le_of_ble_eq_true rfl), (Nat.le_of_ble_eq_true rfl)⟩ (Nat.le_of_ble_eq_true rfl)) dX1_init_31 (by first | exact Or.inl ⟨rfl, rfl⟩ | exact Or.inr (Or.inl ⟨rfl, rfl⟩) | exact Or.inr (Or.inr ⟨rfl, rfl⟩)) clX5) (sa_ss (M := mX1_init) (kInc (M := mX1_init) (v := 1) dX1_init_32 kc_iconst_1 (by decide)))) dX1_init_35 (by decide)) 6)))))
def fX1_init : zFV := fun vs h => (bX1_init vs h).bind fun r => match r with
  | .inl q => some q.2
  | .inr _ => none
theorem ctX1_init : CtV yX1_init cX1_init 2 4 349 2549 73 1 fX1_init := ctN mdX1_init (Nat.le_of_ble_eq_true rfl) rfl dX1_init_38 kX1_init
/-! TrophyPlates$History.dropOldest -/
theorem mdX1_dropOldest : zMd yX1_dropOldest cX1_dropOldest 3 (none) 0 := ⟨cdX1_dropOldest, iniX1, ⟨by decide +kernel, by decide +kernel⟩, by decide +kernel, by decide +kernel⟩
def bX1_dropOldest : zSS := sSeq (sLr 1 (rQ 5 (rF 1 0 (rL 0)) (eC 0))) (sSeq (sBlk (sSeq (sLi 2 (eC 1)) (sW 4000 (bCmp o_lt (eL 2) (eC 5)) (sSeq (sQ 5 (rF 1 0 (rL 0)) (eOp (· - ·) (eL 2) (eC 1)) (rQ 5 (rF 1 0 (rL 0)) (eL 2))) (sInc 2 1))))) (sSeq (sQ 5 (rF 1 0 (rL 0)) (eC 4) (rL 1)) (sSeq (sFa (· - ·) 1 1 (rL 0) (eC 1)) (sRv))))
abbrev mX1_dropOldest : zM := (cX1_dropOldest, RX1, 3, none, { frames := 0, cells := 0, slots := 0, locals := 0 }, false)
set_option maxHeartbeats 400000 in
set_option maxRecDepth 20000 in
theorem kX1_dropOldest : ssOk mX1_dropOldest 0 52 bX1_dropOldest := (kSeq (M := mX1_dropOldest) (kSr_n (M := mX1_dropOldest) (kQ (M := mX1_dropOldest) (ci := 5) (kRF (M := mX1_dropOldest) (kf := 0) (kR_n (M := mX1_dropOldest) dX1_dropOldest_0 rfl) dX1_dropOldest_1 clX1 lkX1_11 (by decide)) (kC_ic (M := mX1_dropOldest) (v := 0) dX1_dropOldest_4 kc_iconst_0) dX1_dropOldest_5 (by first | exact Or.inl ⟨rfl, rfl⟩ | exact Or.inr (Or.inl ⟨rfl, rfl⟩) | exact Or.inr (Or.inr ⟨rfl, rfl⟩))) dX1_dropOldest_6 rfl (by decide)) (kSeq (M := mX1_dropOldest) (kBlk (M := mX1_dropOldest) (kSeq (M := mX1_dropOldest) (kSi_n (M := mX1_dropOldest) (kC_ic (M := mX1_dropOldest) (v := 1) dX1_dropOldest_7 kc_iconst_1) dX1_dropOldest_8 rfl (by decide)) (kWn (M := mX1_dropOldest) (N := 4000) (kB_ltF (M := mX1_dropOldest) (kL_n (M := mX1_dropOldest) dX1_dropOldest_9 rfl) (kC_ic (M := mX1_dropOldest) (v := 5) dX1_dropOldest_10 kc_iconst_5) dX1_dropOldest_11 (by decide) rfl) (kGo (M := mX1_dropOldest) (kSeq (M := mX1_dropOldest) (kPQ (M := mX1_dropOldest) (ci := 5) (kRF (M := mX1_dropOldest) (kf := 0) (kR_n (M := mX1_dropOldest) dX1_dropOldest_14 rfl) dX1_dropOldest_15 clX1 lkX1_11 (by decide)) (kSub (M := mX1_dropOldest) (kL_n (M := mX1_dropOldest) dX1_dropOldest_18 rfl) (kC_ic (M := mX1_dropOldest) (v := 1) dX1_dropOldest_19 kc_iconst_1) dX1_dropOldest_20) (kQ (M := mX1_dropOldest) (ci := 5) (kRF (M := mX1_dropOldest) (kf := 0) (kR_n (M := mX1_dropOldest) dX1_dropOldest_21 rfl) dX1_dropOldest_22 clX1 lkX1_11 (by decide)) (kL_n (M := mX1_dropOldest) dX1_dropOldest_25 rfl) dX1_dropOldest_26 (by first | exact Or.inl ⟨rfl, rfl⟩ | exact Or.inr (Or.inl ⟨rfl, rfl⟩) | exact Or.inr (Or.inr ⟨rfl, rfl⟩))) dX1_dropOldest_27 (by first | exact Or.inl ⟨rfl, rfl⟩ | exact Or.inr (Or.inl ⟨rfl, rfl⟩) | exact Or.inr (Or.inr ⟨rfl, rfl⟩)) clX5) (kInc (M := mX1_dropOldest) (v := 1) dX1_dropOldest_28 kc_iconst_1 (by decide))) dX1_dropOldest_31 (by decide))))) (kSeq (M := mX1_dropOldest) (kPQ (M := mX1_dropOldest) (ci := 5) (kRF (M := mX1_dropOldest) (kf := 0) (kR_n (M := mX1_dropOldest) dX1_dropOldest_34 rfl) dX1_dropOldest_35 clX1 lkX1_11 (by decide)) (kC_ic (M := mX1_dropOldest) (v := 4) dX1_dropOldest_38 kc_iconst_4) (kR_n (M := mX1_dropOldest) dX1_dropOldest_39 rfl) dX1_dropOldest_40 (by first | exact Or.inl ⟨rfl, rfl⟩ | exact Or.inr (Or.inl ⟨rfl, rfl⟩) | exact Or.inr (Or.inr ⟨rfl, rfl⟩)) clX5) (kSeq (M := mX1_dropOldest) (kPFaddsub (M := mX1_dropOldest) (kf := 1) (Or.inr ⟨rfl, rfl⟩) (kR_n (M := mX1_dropOldest) dX1_dropOldest_41 rfl) dX1_dropOldest_42 dX1_dropOldest_43 (kC_ic (M := mX1_dropOldest) (v := 1) dX1_dropOldest_46 kc_iconst_1) dX1_dropOldest_47 dX1_dropOldest_48 clX1 lkX1_18 lkX1_18 (by decide) rfl rfl) (kRv (M := mX1_dropOldest) dX1_dropOldest_51)))))
def fX1_dropOldest : zFV := mV bX1_dropOldest
theorem ctX1_dropOldest : CtV yX1_dropOldest cX1_dropOldest 3 0 0 0 0 1 fX1_dropOldest := ctV mdX1_dropOldest (Nat.le_of_ble_eq_true rfl) kX1_dropOldest
/-! TrophyPlates$History.restoreLatest -/
theorem mdX1_restoreLatest : zMd yX1_restoreLatest cX1_restoreLatest 2 (none) 1 := ⟨cdX1_restoreLatest, iniX1, ⟨by decide +kernel, by decide +kernel⟩, by decide +kernel, by decide +kernel⟩
def bX1_restoreLatest : zSS := sSeq (sIf (bZ z_gt (eF 1 1 (rL 0))) (sSeq (sFa (· - ·) 1 1 (rL 0) (eC 1)) (sCV 5 (rL 1) (aR (rQ 5 (rF 1 0 (rL 0)) (eF 1 1 (rL 0))) (aN)) fX5_copyFrom)) sNop) (sRv)
abbrev mX1_restoreLatest : zM := (cX1_restoreLatest, RX1, 2, none, { frames := 3, cells := 0, slots := 0, locals := 65 }, false)
set_option maxHeartbeats 400000 in
set_option maxRecDepth 20000 in
theorem kX1_restoreLatest : ssOk mX1_restoreLatest 0 31 bX1_restoreLatest := (kSeq (M := mX1_restoreLatest) (kIf (M := mX1_restoreLatest) (kZ_gtF (M := mX1_restoreLatest) (kF (M := mX1_restoreLatest) (kf := 1) (kR_n (M := mX1_restoreLatest) dX1_restoreLatest_0 rfl) dX1_restoreLatest_1 clX1 lkX1_18 (by decide)) dX1_restoreLatest_4 (by decide) rfl) (kSeq (M := mX1_restoreLatest) (kPFaddsub (M := mX1_restoreLatest) (kf := 1) (Or.inr ⟨rfl, rfl⟩) (kR_n (M := mX1_restoreLatest) dX1_restoreLatest_7 rfl) dX1_restoreLatest_8 dX1_restoreLatest_9 (kC_ic (M := mX1_restoreLatest) (v := 1) dX1_restoreLatest_12 kc_iconst_1) dX1_restoreLatest_13 dX1_restoreLatest_14 clX1 lkX1_18 lkX1_18 (by decide) rfl rfl) (ksCV (M := mX1_restoreLatest) (ci := 5) (kR_n (M := mX1_restoreLatest) dX1_restoreLatest_17 rfl) (kaR (M := mX1_restoreLatest) (kQ (M := mX1_restoreLatest) (ci := 5) (kRF (M := mX1_restoreLatest) (kf := 0) (kR_n (M := mX1_restoreLatest) dX1_restoreLatest_18 rfl) dX1_restoreLatest_19 clX1 lkX1_11 (by decide)) (kF (M := mX1_restoreLatest) (kf := 1) (kR_n (M := mX1_restoreLatest) dX1_restoreLatest_22 rfl) dX1_restoreLatest_23 clX1 lkX1_18 (by decide)) dX1_restoreLatest_26 (by first | exact Or.inl ⟨rfl, rfl⟩ | exact Or.inr (Or.inl ⟨rfl, rfl⟩) | exact Or.inr (Or.inr ⟨rfl, rfl⟩))) (kaN (M := mX1_restoreLatest))) dX1_restoreLatest_27 ctX5_copyFrom mdX5_copyFrom imX5_copyFrom seX5_copyFrom clX5 mkX1_25 ⟨(Nat.le_of_ble_eq_true rfl), (Nat.le_of_ble_eq_true rfl)⟩)) (kNop (M := mX1_restoreLatest))) (kRv (M := mX1_restoreLatest) dX1_restoreLatest_30))
def fX1_restoreLatest : zFV := mV bX1_restoreLatest
theorem ctX1_restoreLatest : CtV yX1_restoreLatest cX1_restoreLatest 2 3 0 0 65 2 fX1_restoreLatest := ctV mdX1_restoreLatest (Nat.le_of_ble_eq_true rfl) kX1_restoreLatest
/-! TrophyPlates$History.record -/
theorem mdX1_record : zMd yX1_record cX1_record 2 (none) 1 := ⟨cdX1_record, iniX1, ⟨by decide +kernel, by decide +kernel⟩, by decide +kernel, by decide +kernel⟩
def bX1_record : zSS := sSeq (sIf (bCmp o_ge (eF 1 1 (rL 0)) (eC 5)) (sCV 1 (rL 0) (aN) fX1_dropOldest) sNop) (sSeq (sCV 5 (rQ 5 (rF 1 0 (rL 0)) (eF 1 1 (rL 0))) (aR (rL 1) (aN)) fX5_copyFrom) (sSeq (sFa (· + ·) 1 1 (rL 0) (eC 1)) (sRv)))
abbrev mX1_record : zM := (cX1_record, RX1, 2, none, { frames := 3, cells := 0, slots := 0, locals := 65 }, false)
set_option maxHeartbeats 400000 in
set_option maxRecDepth 20000 in
theorem kX1_record : ssOk mX1_record 0 36 bX1_record := (kSeq (M := mX1_record) (kIf (M := mX1_record) (kB_geF (M := mX1_record) (kF (M := mX1_record) (kf := 1) (kR_n (M := mX1_record) dX1_record_0 rfl) dX1_record_1 clX1 lkX1_18 (by decide)) (kC_ic (M := mX1_record) (v := 5) dX1_record_4 kc_iconst_5) dX1_record_5 (by decide) rfl) (ksCV (M := mX1_record) (ci := 1) (kR_n (M := mX1_record) dX1_record_8 rfl) (kaN (M := mX1_record)) dX1_record_9 ctX1_dropOldest mdX1_dropOldest imX1_dropOldest seX1_dropOldest clX1 mkX1_22 ⟨(Nat.le_of_ble_eq_true rfl), (Nat.le_of_ble_eq_true rfl)⟩) (kNop (M := mX1_record))) (kSeq (M := mX1_record) (ksCV (M := mX1_record) (ci := 5) (kQ (M := mX1_record) (ci := 5) (kRF (M := mX1_record) (kf := 0) (kR_n (M := mX1_record) dX1_record_12 rfl) dX1_record_13 clX1 lkX1_11 (by decide)) (kF (M := mX1_record) (kf := 1) (kR_n (M := mX1_record) dX1_record_16 rfl) dX1_record_17 clX1 lkX1_18 (by decide)) dX1_record_20 (by first | exact Or.inl ⟨rfl, rfl⟩ | exact Or.inr (Or.inl ⟨rfl, rfl⟩) | exact Or.inr (Or.inr ⟨rfl, rfl⟩))) (kaR (M := mX1_record) (kR_n (M := mX1_record) dX1_record_21 rfl) (kaN (M := mX1_record))) dX1_record_22 ctX5_copyFrom mdX5_copyFrom imX5_copyFrom seX5_copyFrom clX5 mkX1_25 ⟨(Nat.le_of_ble_eq_true rfl), (Nat.le_of_ble_eq_true rfl)⟩) (kSeq (M := mX1_record) (kPFaddsub (M := mX1_record) (kf := 1) (Or.inl ⟨rfl, rfl⟩) (kR_n (M := mX1_record) dX1_record_25 rfl) dX1_record_26 dX1_record_27 (kC_ic (M := mX1_record) (v := 1) dX1_record_30 kc_iconst_1) dX1_record_31 dX1_record_32 clX1 lkX1_18 lkX1_18 (by decide) rfl rfl) (kRv (M := mX1_record) dX1_record_35))))
def fX1_record : zFV := mV bX1_record
theorem ctX1_record : CtV yX1_record cX1_record 2 3 0 0 65 2 fX1_record := ctV mdX1_record (Nat.le_of_ble_eq_true rfl) kX1_record
end
section
/-! TrophyPlates.<init> -/
theorem mdX6_init : zMd yX6_init cX6_init 2 (none) 0 := ⟨cdX6_init, iniX6, ⟨by decide +kernel, by decide +kernel⟩, by decide +kernel, by decide +kernel⟩
def bX6_init : zSS := sSeq ((fun en h => (rL 0 en h).map fun _ => .inl (en, h))) (sSeq (sFr 6 0 (rL 0) (rNw 5 [.null, .null, .null, .int 0, .int 0, .int 0, .int 0, .int 0, .int 0, .int 0, .int 0, .int 0, .int 0] (aN) fX5_init)) (sSeq (sFr 6 1 (rL 0) (rNw 1 [.null, .int 0] (aN) fX1_init)) (sSeq (sFr 6 2 (rL 0) (rNw 2 [.null, .int 0] (aN) fX2_init)) (sSeq (sLr 1 (rNw 5 [.null, .null, .null, .int 0, .int 0, .int 0, .int 0, .int 0, .int 0, .int 0, .int 0, .int 0, .int 0] (aN) fX5_init)) (sSeq (sFr 6 3 (rL 0) (rNw 0 [.null, .null] (aR (rL 1) (aN)) fX0_init)) (sFr 6 4 (rL 0) (rNw 0 [.null, .null] (aR (rL 1) (aN)) fX0_init)))))))
abbrev mX6_init : zM := (cX6_init, RX6, 2, none, { frames := 5, cells := 472, slots := 3437, locals := 94 }, true)
set_option maxHeartbeats 400000 in
set_option maxRecDepth 20000 in
theorem kX6_init : saOk mX6_init 0 69 472 3437 bX6_init := (saSeq (M := mX6_init) (sa_ss (M := mX6_init) (saInit (M := mX6_init) dX6_init_0 dX6_init_1 okX6_1 imObj cdObj ⟨(Nat.le_of_ble_eq_true rfl), (Nat.le_of_ble_eq_true rfl)⟩)) (saSeq (M := mX6_init) (saFr (M := mX6_init) (kf := 0) (kR_n (M := mX6_init) dX6_init_4 rfl) (kNw (M := mX6_init) (ci := 5) dX6_init_5 dX6_init_8 (kaN (M := mX6_init)) dX6_init_9 ctX5_init mdX5_init rfl imX5_init rfl clX5 (dvX5) clX6_7 is5 mkX6_9 ⟨(Nat.le_of_ble_eq_true rfl), (Nat.le_of_ble_eq_true rfl)⟩ (Nat.le_of_ble_eq_true rfl)) dX6_init_12 clX6 lkX6_10 (by decide) rfl rfl rfl (fun _ => rfl) (fun _ => rfl)) (saSeq (M := mX6_init) (saFr (M := mX6_init) (kf := 1) (kR_n (M := mX6_init) dX6_init_15 rfl) (kNw (M := mX6_init) (ci := 1) dX6_init_16 dX6_init_19 (kaN (M := mX6_init)) dX6_init_20 ctX1_init mdX1_init rfl imX1_init rfl clX1 (dvX1) clX6_16 is1 mkX6_18 ⟨(Nat.le_of_ble_eq_true rfl), (Nat.le_of_ble_eq_true rfl)⟩ (Nat.le_of_ble_eq_true rfl)) dX6_init_23 clX6 lkX6_19 (by decide) rfl rfl rfl (fun _ => rfl) (fun _ => rfl)) (saSeq (M := mX6_init) (saFr (M := mX6_init) (kf := 2) (kR_n (M := mX6_init) dX6_init_26 rfl) (kNwN (M := mX6_init) (ci := 2) dX6_init_27 dX6_init_30 (kaN (M := mX6_init)) dX6_init_31 ctX2_init mdX2_init rfl imX2_init rfl clX2 (dvX2) clX6_23 is2 nkX6_25 ⟨(Nat.le_of_ble_eq_true rfl), (Nat.le_of_ble_eq_true rfl)⟩ (Nat.le_of_ble_eq_true rfl)) dX6_init_34 clX6 lkX6_26 (by decide) rfl rfl rfl (fun _ => rfl) (fun _ => rfl)) (saSeq (M := mX6_init) (saLr_n (M := mX6_init) (kNw (M := mX6_init) (ci := 5) dX6_init_37 dX6_init_40 (kaN (M := mX6_init)) dX6_init_41 ctX5_init mdX5_init rfl imX5_init rfl clX5 (dvX5) clX6_7 is5 mkX6_9 ⟨(Nat.le_of_ble_eq_true rfl), (Nat.le_of_ble_eq_true rfl)⟩ (Nat.le_of_ble_eq_true rfl)) dX6_init_44 rfl (by decide)) (saSeq (M := mX6_init) (saFr (M := mX6_init) (kf := 3) (kR_n (M := mX6_init) dX6_init_45 rfl) (kNw (M := mX6_init) (ci := 0) dX6_init_46 dX6_init_49 (kaR (M := mX6_init) (kR_n (M := mX6_init) dX6_init_50 rfl) (kaN (M := mX6_init))) dX6_init_51 ctX0_init mdX0_init rfl imX0_init rfl clX0 (dvX0) clX6_30 is0 mkX6_32 ⟨(Nat.le_of_ble_eq_true rfl), (Nat.le_of_ble_eq_true rfl)⟩ (Nat.le_of_ble_eq_true rfl)) dX6_init_54 clX6 lkX6_35 (by decide) rfl rfl rfl (fun _ => rfl) (fun _ => rfl)) (saFr (M := mX6_init) (kf := 4) (kR_n (M := mX6_init) dX6_init_57 rfl) (kNw (M := mX6_init) (ci := 0) dX6_init_58 dX6_init_61 (kaR (M := mX6_init) (kR_n (M := mX6_init) dX6_init_62 rfl) (kaN (M := mX6_init))) dX6_init_63 ctX0_init mdX0_init rfl imX0_init rfl clX0 (dvX0) clX6_30 is0 mkX6_32 ⟨(Nat.le_of_ble_eq_true rfl), (Nat.le_of_ble_eq_true rfl)⟩ (Nat.le_of_ble_eq_true rfl)) dX6_init_66 clX6 lkX6_39 (by decide) rfl rfl rfl (fun _ => rfl) (fun _ => rfl))))))))
def fX6_init : zFV := fun vs h => (bX6_init vs h).bind fun r => match r with
  | .inl q => some q.2
  | .inr _ => none
theorem ctX6_init : CtV yX6_init cX6_init 2 5 472 3437 94 1 fX6_init := ctN mdX6_init (Nat.le_of_ble_eq_true rfl) rfl dX6_init_69 kX6_init
/-! TrophyPlates.spoil -/
theorem mdX6_spoil : zMd yX6_spoil cX6_spoil 3 (some .int) 1 := ⟨cdX6_spoil, iniX6, ⟨by decide +kernel, by decide +kernel⟩, by decide +kernel, by decide +kernel⟩
def bX6_spoil : zSS := sSeq (sIf (bNot (bZ z_ne (eCV 5 (rF 6 0 (rL 0)) (aI (eL 1) (aN)) fX5_hasPlate))) (sRi (eC (-1))) sNop) (sSeq (sLr 2 (rQ 4 (rF 5 0 (rF 6 0 (rL 0))) (eL 1))) (sSeq (sIf (bZ z_ne (eF 4 2 (rL 2))) (sRi (eC (-2))) sNop) (sSeq (sCV 1 (rF 6 1 (rL 0)) (aR (rF 6 0 (rL 0)) (aN)) fX1_record) (sSeq (sF 4 2 (rL 2) (eC 3)) (sRi (eCV 5 (rF 6 0 (rL 0)) (aI (eC 3) (aN)) fX5_platesIn))))))
abbrev mX6_spoil : zM := (cX6_spoil, RX6, 3, some .int, { frames := 4, cells := 0, slots := 0, locals := 86 }, false)
set_option maxHeartbeats 400000 in
set_option maxRecDepth 20000 in
theorem kX6_spoil : ssOk mX6_spoil 0 58 bX6_spoil := (kSeq (M := mX6_spoil) (kIf (M := mX6_spoil) (kBnot (M := mX6_spoil) (kZ_neT (M := mX6_spoil) (kCV (M := mX6_spoil) (ci := 5) (kRF (M := mX6_spoil) (kf := 0) (kR_n (M := mX6_spoil) dX6_spoil_0 rfl) dX6_spoil_1 clX6 lkX6_10 (by decide)) (kaI (M := mX6_spoil) (kL_n (M := mX6_spoil) dX6_spoil_4 rfl) (kaN (M := mX6_spoil))) dX6_spoil_5 ctX5_hasPlate mdX5_hasPlate imX5_hasPlate seX5_hasPlate clX5 mkX6_57 ⟨(Nat.le_of_ble_eq_true rfl), (Nat.le_of_ble_eq_true rfl)⟩ (Nat.le_of_ble_eq_true rfl)) dX6_spoil_8 (by decide) rfl)) (kRi (M := mX6_spoil) (kC_ic (M := mX6_spoil) (v := (-1)) dX6_spoil_11 kc_iconst_m1) dX6_spoil_12) (kNop (M := mX6_spoil))) (kSeq (M := mX6_spoil) (kSr_n (M := mX6_spoil) (kQ (M := mX6_spoil) (ci := 4) (kRF (M := mX6_spoil) (kf := 0) (kRF (M := mX6_spoil) (kf := 0) (kR_n (M := mX6_spoil) dX6_spoil_13 rfl) dX6_spoil_14 clX6 lkX6_10 (by decide)) dX6_spoil_17 clX5 lkX6_61 (by decide)) (kL_n (M := mX6_spoil) dX6_spoil_20 rfl) dX6_spoil_21 (by first | exact Or.inl ⟨rfl, rfl⟩ | exact Or.inr (Or.inl ⟨rfl, rfl⟩) | exact Or.inr (Or.inr ⟨rfl, rfl⟩))) dX6_spoil_22 rfl (by decide)) (kSeq (M := mX6_spoil) (kIf (M := mX6_spoil) (kZ_neF (M := mX6_spoil) (kF (M := mX6_spoil) (kf := 2) (kR_n (M := mX6_spoil) dX6_spoil_23 rfl) dX6_spoil_24 clX4 lkX6_65 (by decide)) dX6_spoil_27 (by decide) rfl) (kRi (M := mX6_spoil) (kC_bi (M := mX6_spoil) (v := (-2)) dX6_spoil_30 kc_bipush_m2) dX6_spoil_32) (kNop (M := mX6_spoil))) (kSeq (M := mX6_spoil) (ksCV (M := mX6_spoil) (ci := 1) (kRF (M := mX6_spoil) (kf := 1) (kR_n (M := mX6_spoil) dX6_spoil_33 rfl) dX6_spoil_34 clX6 lkX6_19 (by decide)) (kaR (M := mX6_spoil) (kRF (M := mX6_spoil) (kf := 0) (kR_n (M := mX6_spoil) dX6_spoil_37 rfl) dX6_spoil_38 clX6 lkX6_10 (by decide)) (kaN (M := mX6_spoil))) dX6_spoil_41 ctX1_record mdX1_record imX1_record seX1_record clX1 mkX6_50 ⟨(Nat.le_of_ble_eq_true rfl), (Nat.le_of_ble_eq_true rfl)⟩) (kSeq (M := mX6_spoil) (kPF (M := mX6_spoil) (kf := 2) (kR_n (M := mX6_spoil) dX6_spoil_44 rfl) (kC_ic (M := mX6_spoil) (v := 3) dX6_spoil_45 kc_iconst_3) dX6_spoil_46 clX4 lkX6_65 (by decide) rfl rfl) (kRi (M := mX6_spoil) (kCV (M := mX6_spoil) (ci := 5) (kRF (M := mX6_spoil) (kf := 0) (kR_n (M := mX6_spoil) dX6_spoil_49 rfl) dX6_spoil_50 clX6 lkX6_10 (by decide)) (kaI (M := mX6_spoil) (kC_ic (M := mX6_spoil) (v := 3) dX6_spoil_53 kc_iconst_3) (kaN (M := mX6_spoil))) dX6_spoil_54 ctX5_platesIn mdX5_platesIn imX5_platesIn seX5_platesIn clX5 mkX6_70 ⟨(Nat.le_of_ble_eq_true rfl), (Nat.le_of_ble_eq_true rfl)⟩ (Nat.le_of_ble_eq_true rfl)) dX6_spoil_57))))))
def fX6_spoil : zFI := mI bX6_spoil
theorem ctX6_spoil : CtI yX6_spoil cX6_spoil 3 .int 4 86 2 fX6_spoil := ctI mdX6_spoil (Nat.le_of_ble_eq_true rfl) kX6_spoil
/-! TrophyPlates.clearText -/
theorem mdX6_clearText : zMd yX6_clearText cX6_clearText 2 (some .int) 0 := ⟨cdX6_clearText, iniX6, ⟨by decide +kernel, by decide +kernel⟩, by decide +kernel, by decide +kernel⟩
def bX6_clearText : zSS := sSeq (sLi 1 (eF 2 1 (rF 6 2 (rL 0)))) (sSeq (sF 2 1 (rF 6 2 (rL 0)) (eC 0)) (sRi (eL 1)))
abbrev mX6_clearText : zM := (cX6_clearText, RX6, 2, some .int, { frames := 0, cells := 0, slots := 0, locals := 0 }, false)
set_option maxHeartbeats 400000 in
set_option maxRecDepth 20000 in
theorem kX6_clearText : ssOk mX6_clearText 0 18 bX6_clearText := (kSeq (M := mX6_clearText) (kSi_n (M := mX6_clearText) (kF (M := mX6_clearText) (kf := 1) (kRF (M := mX6_clearText) (kf := 2) (kR_n (M := mX6_clearText) dX6_clearText_0 rfl) dX6_clearText_1 clX6 lkX6_26 (by decide)) dX6_clearText_4 clX2 lkX6_103 (by decide)) dX6_clearText_7 rfl (by decide)) (kSeq (M := mX6_clearText) (kPF (M := mX6_clearText) (kf := 1) (kRF (M := mX6_clearText) (kf := 2) (kR_n (M := mX6_clearText) dX6_clearText_8 rfl) dX6_clearText_9 clX6 lkX6_26 (by decide)) (kC_ic (M := mX6_clearText) (v := 0) dX6_clearText_12 kc_iconst_0) dX6_clearText_13 clX2 lkX6_103 (by decide) rfl rfl) (kRi (M := mX6_clearText) (kL_n (M := mX6_clearText) dX6_clearText_16 rfl) dX6_clearText_17)))
def fX6_clearText : zFI := mI bX6_clearText
theorem ctX6_clearText : CtI yX6_clearText cX6_clearText 2 .int 0 0 1 fX6_clearText := ctI mdX6_clearText (Nat.le_of_ble_eq_true rfl) kX6_clearText
/-! TrophyPlates.hurry -/
theorem mdX6_hurry : zMd yX6_hurry cX6_hurry 2 (some .int) 1 := ⟨cdX6_hurry, iniX6, ⟨by decide +kernel, by decide +kernel⟩, by decide +kernel, by decide +kernel⟩
def bX6_hurry : zSS := sSeq (sIf (bNot (bZ z_ne (eCV 5 (rF 6 0 (rL 0)) (aI (eL 1) (aN)) fX5_hasOrder))) (sRi (eC (-1))) sNop) (sSeq (sIf (bZ z_ne (eF 3 5 (rQ 3 (rF 5 2 (rF 6 0 (rL 0))) (eL 1)))) (sRi (eC (-2))) sNop) (sSeq (sCV 1 (rF 6 1 (rL 0)) (aR (rF 6 0 (rL 0)) (aN)) fX1_record) (sRi (eCV 5 (rF 6 0 (rL 0)) (aI (eL 1) (aN)) fX5_makeRush))))
abbrev mX6_hurry : zM := (cX6_hurry, RX6, 2, some .int, { frames := 4, cells := 0, slots := 0, locals := 86 }, false)
set_option maxHeartbeats 400000 in
set_option maxRecDepth 20000 in
theorem kX6_hurry : ssOk mX6_hurry 0 51 bX6_hurry := (kSeq (M := mX6_hurry) (kIf (M := mX6_hurry) (kBnot (M := mX6_hurry) (kZ_neT (M := mX6_hurry) (kCV (M := mX6_hurry) (ci := 5) (kRF (M := mX6_hurry) (kf := 0) (kR_n (M := mX6_hurry) dX6_hurry_0 rfl) dX6_hurry_1 clX6 lkX6_10 (by decide)) (kaI (M := mX6_hurry) (kL_n (M := mX6_hurry) dX6_hurry_4 rfl) (kaN (M := mX6_hurry))) dX6_hurry_5 ctX5_hasOrder mdX5_hasOrder imX5_hasOrder seX5_hasOrder clX5 mkX6_155 ⟨(Nat.le_of_ble_eq_true rfl), (Nat.le_of_ble_eq_true rfl)⟩ (Nat.le_of_ble_eq_true rfl)) dX6_hurry_8 (by decide) rfl)) (kRi (M := mX6_hurry) (kC_ic (M := mX6_hurry) (v := (-1)) dX6_hurry_11 kc_iconst_m1) dX6_hurry_12) (kNop (M := mX6_hurry))) (kSeq (M := mX6_hurry) (kIf (M := mX6_hurry) (kZ_neF (M := mX6_hurry) (kF (M := mX6_hurry) (kf := 5) (kQ (M := mX6_hurry) (ci := 3) (kRF (M := mX6_hurry) (kf := 2) (kRF (M := mX6_hurry) (kf := 0) (kR_n (M := mX6_hurry) dX6_hurry_13 rfl) dX6_hurry_14 clX6 lkX6_10 (by decide)) dX6_hurry_17 clX5 lkX6_122 (by decide)) (kL_n (M := mX6_hurry) dX6_hurry_20 rfl) dX6_hurry_21 (by first | exact Or.inl ⟨rfl, rfl⟩ | exact Or.inr (Or.inl ⟨rfl, rfl⟩) | exact Or.inr (Or.inr ⟨rfl, rfl⟩))) dX6_hurry_22 clX3 lkX6_147 (by decide)) dX6_hurry_25 (by decide) rfl) (kRi (M := mX6_hurry) (kC_bi (M := mX6_hurry) (v := (-2)) dX6_hurry_28 kc_bipush_m2) dX6_hurry_30) (kNop (M := mX6_hurry))) (kSeq (M := mX6_hurry) (ksCV (M := mX6_hurry) (ci := 1) (kRF (M := mX6_hurry) (kf := 1) (kR_n (M := mX6_hurry) dX6_hurry_31 rfl) dX6_hurry_32 clX6 lkX6_19 (by decide)) (kaR (M := mX6_hurry) (kRF (M := mX6_hurry) (kf := 0) (kR_n (M := mX6_hurry) dX6_hurry_35 rfl) dX6_hurry_36 clX6 lkX6_10 (by decide)) (kaN (M := mX6_hurry))) dX6_hurry_39 ctX1_record mdX1_record imX1_record seX1_record clX1 mkX6_50 ⟨(Nat.le_of_ble_eq_true rfl), (Nat.le_of_ble_eq_true rfl)⟩) (kRi (M := mX6_hurry) (kCV (M := mX6_hurry) (ci := 5) (kRF (M := mX6_hurry) (kf := 0) (kR_n (M := mX6_hurry) dX6_hurry_42 rfl) dX6_hurry_43 clX6 lkX6_10 (by decide)) (kaI (M := mX6_hurry) (kL_n (M := mX6_hurry) dX6_hurry_46 rfl) (kaN (M := mX6_hurry))) dX6_hurry_47 ctX5_makeRush mdX5_makeRush imX5_makeRush seX5_makeRush clX5 mkX6_158 ⟨(Nat.le_of_ble_eq_true rfl), (Nat.le_of_ble_eq_true rfl)⟩ (Nat.le_of_ble_eq_true rfl)) dX6_hurry_50))))
def fX6_hurry : zFI := mI bX6_hurry
theorem ctX6_hurry : CtI yX6_hurry cX6_hurry 2 .int 4 86 2 fX6_hurry := ctI mdX6_hurry (Nat.le_of_ble_eq_true rfl) kX6_hurry
/-! TrophyPlates.cancel -/
theorem mdX6_cancel : zMd yX6_cancel cX6_cancel 2 (some .int) 1 := ⟨cdX6_cancel, iniX6, ⟨by decide +kernel, by decide +kernel⟩, by decide +kernel, by decide +kernel⟩
def bX6_cancel : zSS := sSeq (sIf (bNot (bZ z_ne (eCV 5 (rF 6 0 (rL 0)) (aI (eL 1) (aN)) fX5_hasOrder))) (sRi (eC (-1))) sNop) (sSeq (sCV 1 (rF 6 1 (rL 0)) (aR (rF 6 0 (rL 0)) (aN)) fX1_record) (sSeq (sCV 5 (rF 6 0 (rL 0)) (aI (eL 1) (aN)) fX5_dropOrder) (sRi (eF 5 5 (rF 6 0 (rL 0))))))
abbrev mX6_cancel : zM := (cX6_cancel, RX6, 2, some .int, { frames := 4, cells := 0, slots := 0, locals := 86 }, false)
set_option maxHeartbeats 400000 in
set_option maxRecDepth 20000 in
theorem kX6_cancel : ssOk mX6_cancel 0 40 bX6_cancel := (kSeq (M := mX6_cancel) (kIf (M := mX6_cancel) (kBnot (M := mX6_cancel) (kZ_neT (M := mX6_cancel) (kCV (M := mX6_cancel) (ci := 5) (kRF (M := mX6_cancel) (kf := 0) (kR_n (M := mX6_cancel) dX6_cancel_0 rfl) dX6_cancel_1 clX6 lkX6_10 (by decide)) (kaI (M := mX6_cancel) (kL_n (M := mX6_cancel) dX6_cancel_4 rfl) (kaN (M := mX6_cancel))) dX6_cancel_5 ctX5_hasOrder mdX5_hasOrder imX5_hasOrder seX5_hasOrder clX5 mkX6_155 ⟨(Nat.le_of_ble_eq_true rfl), (Nat.le_of_ble_eq_true rfl)⟩ (Nat.le_of_ble_eq_true rfl)) dX6_cancel_8 (by decide) rfl)) (kRi (M := mX6_cancel) (kC_ic (M := mX6_cancel) (v := (-1)) dX6_cancel_11 kc_iconst_m1) dX6_cancel_12) (kNop (M := mX6_cancel))) (kSeq (M := mX6_cancel) (ksCV (M := mX6_cancel) (ci := 1) (kRF (M := mX6_cancel) (kf := 1) (kR_n (M := mX6_cancel) dX6_cancel_13 rfl) dX6_cancel_14 clX6 lkX6_19 (by decide)) (kaR (M := mX6_cancel) (kRF (M := mX6_cancel) (kf := 0) (kR_n (M := mX6_cancel) dX6_cancel_17 rfl) dX6_cancel_18 clX6 lkX6_10 (by decide)) (kaN (M := mX6_cancel))) dX6_cancel_21 ctX1_record mdX1_record imX1_record seX1_record clX1 mkX6_50 ⟨(Nat.le_of_ble_eq_true rfl), (Nat.le_of_ble_eq_true rfl)⟩) (kSeq (M := mX6_cancel) (ksCV (M := mX6_cancel) (ci := 5) (kRF (M := mX6_cancel) (kf := 0) (kR_n (M := mX6_cancel) dX6_cancel_24 rfl) dX6_cancel_25 clX6 lkX6_10 (by decide)) (kaI (M := mX6_cancel) (kL_n (M := mX6_cancel) dX6_cancel_28 rfl) (kaN (M := mX6_cancel))) dX6_cancel_29 ctX5_dropOrder mdX5_dropOrder imX5_dropOrder seX5_dropOrder clX5 mkX6_161 ⟨(Nat.le_of_ble_eq_true rfl), (Nat.le_of_ble_eq_true rfl)⟩) (kRi (M := mX6_cancel) (kF (M := mX6_cancel) (kf := 5) (kRF (M := mX6_cancel) (kf := 0) (kR_n (M := mX6_cancel) dX6_cancel_32 rfl) dX6_cancel_33 clX6 lkX6_10 (by decide)) dX6_cancel_36 clX5 lkX6_119 (by decide)) dX6_cancel_39))))
def fX6_cancel : zFI := mI bX6_cancel
theorem ctX6_cancel : CtI yX6_cancel cX6_cancel 2 .int 4 86 2 fX6_cancel := ctI mdX6_cancel (Nat.le_of_ble_eq_true rfl) kX6_cancel
/-! TrophyPlates.slip -/
theorem mdX6_slip : zMd yX6_slip cX6_slip 1 (some .int) 0 := ⟨cdX6_slip, iniX6, ⟨by decide +kernel, by decide +kernel⟩, by decide +kernel, by decide +kernel⟩
def bX6_slip : zSS := sSeq (sIf (bNot (bZ z_ne (eCV 5 (rF 6 0 (rL 0)) (aN) fX5_isWorking))) (sRi (eC (-2))) sNop) (sSeq (sCV 1 (rF 6 1 (rL 0)) (aR (rF 6 0 (rL 0)) (aN)) fX1_record) (sRi (eCV 5 (rF 6 0 (rL 0)) (aN) fX5_misspell)))
abbrev mX6_slip : zM := (cX6_slip, RX6, 1, some .int, { frames := 4, cells := 0, slots := 0, locals := 88 }, false)
set_option maxHeartbeats 400000 in
set_option maxRecDepth 20000 in
theorem kX6_slip : ssOk mX6_slip 0 32 bX6_slip := (kSeq (M := mX6_slip) (kIf (M := mX6_slip) (kBnot (M := mX6_slip) (kZ_neT (M := mX6_slip) (kCV (M := mX6_slip) (ci := 5) (kRF (M := mX6_slip) (kf := 0) (kR_n (M := mX6_slip) dX6_slip_0 rfl) dX6_slip_1 clX6 lkX6_10 (by decide)) (kaN (M := mX6_slip)) dX6_slip_4 ctX5_isWorking mdX5_isWorking imX5_isWorking seX5_isWorking clX5 mkX6_167 ⟨(Nat.le_of_ble_eq_true rfl), (Nat.le_of_ble_eq_true rfl)⟩ (Nat.le_of_ble_eq_true rfl)) dX6_slip_7 (by decide) rfl)) (kRi (M := mX6_slip) (kC_bi (M := mX6_slip) (v := (-2)) dX6_slip_10 kc_bipush_m2) dX6_slip_12) (kNop (M := mX6_slip))) (kSeq (M := mX6_slip) (ksCV (M := mX6_slip) (ci := 1) (kRF (M := mX6_slip) (kf := 1) (kR_n (M := mX6_slip) dX6_slip_13 rfl) dX6_slip_14 clX6 lkX6_19 (by decide)) (kaR (M := mX6_slip) (kRF (M := mX6_slip) (kf := 0) (kR_n (M := mX6_slip) dX6_slip_17 rfl) dX6_slip_18 clX6 lkX6_10 (by decide)) (kaN (M := mX6_slip))) dX6_slip_21 ctX1_record mdX1_record imX1_record seX1_record clX1 mkX6_50 ⟨(Nat.le_of_ble_eq_true rfl), (Nat.le_of_ble_eq_true rfl)⟩) (kRi (M := mX6_slip) (kCV (M := mX6_slip) (ci := 5) (kRF (M := mX6_slip) (kf := 0) (kR_n (M := mX6_slip) dX6_slip_24 rfl) dX6_slip_25 clX6 lkX6_10 (by decide)) (kaN (M := mX6_slip)) dX6_slip_28 ctX5_misspell mdX5_misspell imX5_misspell seX5_misspell clX5 mkX6_171 ⟨(Nat.le_of_ble_eq_true rfl), (Nat.le_of_ble_eq_true rfl)⟩ (Nat.le_of_ble_eq_true rfl)) dX6_slip_31)))
def fX6_slip : zFI := mI bX6_slip
theorem ctX6_slip : CtI yX6_slip cX6_slip 1 .int 4 88 1 fX6_slip := ctI mdX6_slip (Nat.le_of_ble_eq_true rfl) kX6_slip
/-! TrophyPlates.undo -/
theorem mdX6_undo : zMd yX6_undo cX6_undo 1 (some .int) 0 := ⟨cdX6_undo, iniX6, ⟨by decide +kernel, by decide +kernel⟩, by decide +kernel, by decide +kernel⟩
def bX6_undo : zSS := sSeq (sIf (bZ z_le (eF 1 1 (rF 6 1 (rL 0)))) (sRi (eC (-2))) sNop) (sSeq (sCV 1 (rF 6 1 (rL 0)) (aR (rF 6 0 (rL 0)) (aN)) fX1_restoreLatest) (sRi (eF 1 1 (rF 6 1 (rL 0)))))
abbrev mX6_undo : zM := (cX6_undo, RX6, 1, some .int, { frames := 4, cells := 0, slots := 0, locals := 86 }, false)
set_option maxHeartbeats 400000 in
set_option maxRecDepth 20000 in
theorem kX6_undo : ssOk mX6_undo 0 32 bX6_undo := (kSeq (M := mX6_undo) (kIf (M := mX6_undo) (kZ_leF (M := mX6_undo) (kF (M := mX6_undo) (kf := 1) (kRF (M := mX6_undo) (kf := 1) (kR_n (M := mX6_undo) dX6_undo_0 rfl) dX6_undo_1 clX6 lkX6_19 (by decide)) dX6_undo_4 clX1 lkX6_174 (by decide)) dX6_undo_7 (by decide) rfl) (kRi (M := mX6_undo) (kC_bi (M := mX6_undo) (v := (-2)) dX6_undo_10 kc_bipush_m2) dX6_undo_12) (kNop (M := mX6_undo))) (kSeq (M := mX6_undo) (ksCV (M := mX6_undo) (ci := 1) (kRF (M := mX6_undo) (kf := 1) (kR_n (M := mX6_undo) dX6_undo_13 rfl) dX6_undo_14 clX6 lkX6_19 (by decide)) (kaR (M := mX6_undo) (kRF (M := mX6_undo) (kf := 0) (kR_n (M := mX6_undo) dX6_undo_17 rfl) dX6_undo_18 clX6 lkX6_10 (by decide)) (kaN (M := mX6_undo))) dX6_undo_21 ctX1_restoreLatest mdX1_restoreLatest imX1_restoreLatest seX1_restoreLatest clX1 mkX6_177 ⟨(Nat.le_of_ble_eq_true rfl), (Nat.le_of_ble_eq_true rfl)⟩) (kRi (M := mX6_undo) (kF (M := mX6_undo) (kf := 1) (kRF (M := mX6_undo) (kf := 1) (kR_n (M := mX6_undo) dX6_undo_24 rfl) dX6_undo_25 clX6 lkX6_19 (by decide)) dX6_undo_28 clX1 lkX6_174 (by decide)) dX6_undo_31)))
def fX6_undo : zFI := mI bX6_undo
theorem ctX6_undo : CtI yX6_undo cX6_undo 1 .int 4 86 1 fX6_undo := ctI mdX6_undo (Nat.le_of_ble_eq_true rfl) kX6_undo
/-! TrophyPlates.count -/
theorem mdX6_count : zMd yX6_count cX6_count 2 (some .int) 1 := ⟨cdX6_count, iniX6, ⟨by decide +kernel, by decide +kernel⟩, by decide +kernel, by decide +kernel⟩
def bX6_count : zSS := sSw 0 15 (eL 1) [(sRi (eCV 5 (rF 6 0 (rL 0)) (aI (eL 1) (aN)) fX5_platesIn)), (sRi (eCV 5 (rF 6 0 (rL 0)) (aI (eL 1) (aN)) fX5_platesIn)), (sRi (eCV 5 (rF 6 0 (rL 0)) (aI (eL 1) (aN)) fX5_platesIn)), (sRi (eCV 5 (rF 6 0 (rL 0)) (aI (eL 1) (aN)) fX5_platesIn)), (sRi (eF 5 3 (rF 6 0 (rL 0)))), (sRi (eF 5 4 (rF 6 0 (rL 0)))), (sRi (eF 5 5 (rF 6 0 (rL 0)))), (sRi (eCV 5 (rF 6 0 (rL 0)) (aN) fX5_rushes)), (sRi (eF 5 6 (rF 6 0 (rL 0)))), (sRi (eF 5 9 (rF 6 0 (rL 0)))), (sRi (eF 5 7 (rF 6 0 (rL 0)))), (sRi (eF 5 10 (rF 6 0 (rL 0)))), (sRi (eF 5 11 (rF 6 0 (rL 0)))), (sRi (eF 5 12 (rF 6 0 (rL 0)))), (sRi (eF 1 1 (rF 6 1 (rL 0)))), (sRi (eF 2 1 (rF 6 2 (rL 0))))] (sRi (eC (-1)))
abbrev mX6_count : zM := (cX6_count, RX6, 2, some .int, { frames := 1, cells := 0, slots := 0, locals := 23 }, false)
set_option maxHeartbeats 400000 in
set_option maxRecDepth 20000 in
theorem kX6_count : ssOk mX6_count 0 187 bX6_count := (kSw (M := mX6_count) (kL_n (M := mX6_count) dX6_count_0 rfl) dX6_count_1 (by decide) (pD := 185) (kRi (M := mX6_count) (kC_ic (M := mX6_count) (v := (-1)) dX6_count_185 kc_iconst_m1) dX6_count_186) (⟨⟨80, by decide, (kRi (M := mX6_count) (kCV (M := mX6_count) (ci := 5) (kRF (M := mX6_count) (kf := 0) (kR_n (M := mX6_count) dX6_count_80 rfl) dX6_count_81 clX6 lkX6_10 (by decide)) (kaI (M := mX6_count) (kL_n (M := mX6_count) dX6_count_84 rfl) (kaN (M := mX6_count))) dX6_count_85 ctX5_platesIn mdX5_platesIn imX5_platesIn seX5_platesIn clX5 mkX6_70 ⟨(Nat.le_of_ble_eq_true rfl), (Nat.le_of_ble_eq_true rfl)⟩ (Nat.le_of_ble_eq_true rfl)) dX6_count_88)⟩, ⟨⟨80, by decide, (kRi (M := mX6_count) (kCV (M := mX6_count) (ci := 5) (kRF (M := mX6_count) (kf := 0) (kR_n (M := mX6_count) dX6_count_80 rfl) dX6_count_81 clX6 lkX6_10 (by decide)) (kaI (M := mX6_count) (kL_n (M := mX6_count) dX6_count_84 rfl) (kaN (M := mX6_count))) dX6_count_85 ctX5_platesIn mdX5_platesIn imX5_platesIn seX5_platesIn clX5 mkX6_70 ⟨(Nat.le_of_ble_eq_true rfl), (Nat.le_of_ble_eq_true rfl)⟩ (Nat.le_of_ble_eq_true rfl)) dX6_count_88)⟩, ⟨⟨80, by decide, (kRi (M := mX6_count) (kCV (M := mX6_count) (ci := 5) (kRF (M := mX6_count) (kf := 0) (kR_n (M := mX6_count) dX6_count_80 rfl) dX6_count_81 clX6 lkX6_10 (by decide)) (kaI (M := mX6_count) (kL_n (M := mX6_count) dX6_count_84 rfl) (kaN (M := mX6_count))) dX6_count_85 ctX5_platesIn mdX5_platesIn imX5_platesIn seX5_platesIn clX5 mkX6_70 ⟨(Nat.le_of_ble_eq_true rfl), (Nat.le_of_ble_eq_true rfl)⟩ (Nat.le_of_ble_eq_true rfl)) dX6_count_88)⟩, ⟨⟨80, by decide, (kRi (M := mX6_count) (kCV (M := mX6_count) (ci := 5) (kRF (M := mX6_count) (kf := 0) (kR_n (M := mX6_count) dX6_count_80 rfl) dX6_count_81 clX6 lkX6_10 (by decide)) (kaI (M := mX6_count) (kL_n (M := mX6_count) dX6_count_84 rfl) (kaN (M := mX6_count))) dX6_count_85 ctX5_platesIn mdX5_platesIn imX5_platesIn seX5_platesIn clX5 mkX6_70 ⟨(Nat.le_of_ble_eq_true rfl), (Nat.le_of_ble_eq_true rfl)⟩ (Nat.le_of_ble_eq_true rfl)) dX6_count_88)⟩, ⟨⟨89, by decide, (kRi (M := mX6_count) (kF (M := mX6_count) (kf := 3) (kRF (M := mX6_count) (kf := 0) (kR_n (M := mX6_count) dX6_count_89 rfl) dX6_count_90 clX6 lkX6_10 (by decide)) dX6_count_93 clX5 lkX6_46 (by decide)) dX6_count_96)⟩, ⟨⟨97, by decide, (kRi (M := mX6_count) (kF (M := mX6_count) (kf := 4) (kRF (M := mX6_count) (kf := 0) (kR_n (M := mX6_count) dX6_count_97 rfl) dX6_count_98 clX6 lkX6_10 (by decide)) dX6_count_101 clX5 lkX6_85 (by decide)) dX6_count_104)⟩, ⟨⟨105, by decide, (kRi (M := mX6_count) (kF (M := mX6_count) (kf := 5) (kRF (M := mX6_count) (kf := 0) (kR_n (M := mX6_count) dX6_count_105 rfl) dX6_count_106 clX6 lkX6_10 (by decide)) dX6_count_109 clX5 lkX6_119 (by decide)) dX6_count_112)⟩, ⟨⟨113, by decide, (kRi (M := mX6_count) (kCV (M := mX6_count) (ci := 5) (kRF (M := mX6_count) (kf := 0) (kR_n (M := mX6_count) dX6_count_113 rfl) dX6_count_114 clX6 lkX6_10 (by decide)) (kaN (M := mX6_count)) dX6_count_117 ctX5_rushes mdX5_rushes imX5_rushes seX5_rushes clX5 mkX6_180 ⟨(Nat.le_of_ble_eq_true rfl), (Nat.le_of_ble_eq_true rfl)⟩ (Nat.le_of_ble_eq_true rfl)) dX6_count_120)⟩, ⟨⟨121, by decide, (kRi (M := mX6_count) (kF (M := mX6_count) (kf := 6) (kRF (M := mX6_count) (kf := 0) (kR_n (M := mX6_count) dX6_count_121 rfl) dX6_count_122 clX6 lkX6_10 (by decide)) dX6_count_125 clX5 lkX6_183 (by decide)) dX6_count_128)⟩, ⟨⟨129, by decide, (kRi (M := mX6_count) (kF (M := mX6_count) (kf := 9) (kRF (M := mX6_count) (kf := 0) (kR_n (M := mX6_count) dX6_count_129 rfl) dX6_count_130 clX6 lkX6_10 (by decide)) dX6_count_133 clX5 lkX6_186 (by decide)) dX6_count_136)⟩, ⟨⟨137, by decide, (kRi (M := mX6_count) (kF (M := mX6_count) (kf := 7) (kRF (M := mX6_count) (kf := 0) (kR_n (M := mX6_count) dX6_count_137 rfl) dX6_count_138 clX6 lkX6_10 (by decide)) dX6_count_141 clX5 lkX6_189 (by decide)) dX6_count_144)⟩, ⟨⟨145, by decide, (kRi (M := mX6_count) (kF (M := mX6_count) (kf := 10) (kRF (M := mX6_count) (kf := 0) (kR_n (M := mX6_count) dX6_count_145 rfl) dX6_count_146 clX6 lkX6_10 (by decide)) dX6_count_149 clX5 lkX6_192 (by decide)) dX6_count_152)⟩, ⟨⟨153, by decide, (kRi (M := mX6_count) (kF (M := mX6_count) (kf := 11) (kRF (M := mX6_count) (kf := 0) (kR_n (M := mX6_count) dX6_count_153 rfl) dX6_count_154 clX6 lkX6_10 (by decide)) dX6_count_157 clX5 lkX6_195 (by decide)) dX6_count_160)⟩, ⟨⟨161, by decide, (kRi (M := mX6_count) (kF (M := mX6_count) (kf := 12) (kRF (M := mX6_count) (kf := 0) (kR_n (M := mX6_count) dX6_count_161 rfl) dX6_count_162 clX6 lkX6_10 (by decide)) dX6_count_165 clX5 lkX6_198 (by decide)) dX6_count_168)⟩, ⟨⟨169, by decide, (kRi (M := mX6_count) (kF (M := mX6_count) (kf := 1) (kRF (M := mX6_count) (kf := 1) (kR_n (M := mX6_count) dX6_count_169 rfl) dX6_count_170 clX6 lkX6_19 (by decide)) dX6_count_173 clX1 lkX6_174 (by decide)) dX6_count_176)⟩, ⟨⟨177, by decide, (kRi (M := mX6_count) (kF (M := mX6_count) (kf := 1) (kRF (M := mX6_count) (kf := 2) (kR_n (M := mX6_count) dX6_count_177 rfl) dX6_count_178 clX6 lkX6_26 (by decide)) dX6_count_181 clX2 lkX6_103 (by decide)) dX6_count_184)⟩, trivial⟩⟩⟩⟩⟩⟩⟩⟩⟩⟩⟩⟩⟩⟩⟩⟩) (by decide))
def fX6_count : zFI := mI bX6_count
theorem ctX6_count : CtI yX6_count cX6_count 2 .int 1 23 2 fX6_count := ctI mdX6_count (Nat.le_of_ble_eq_true rfl) kX6_count
/-! TrophyPlates.plate -/
theorem mdX6_plate : zMd yX6_plate cX6_plate 4 (some .int) 2 := ⟨cdX6_plate, iniX6, ⟨by decide +kernel, by decide +kernel⟩, by decide +kernel, by decide +kernel⟩
def bX6_plate : zSS := sSeq (sIf (bNot (bZ z_ne (eCV 5 (rF 6 0 (rL 0)) (aI (eL 1) (aN)) fX5_hasPlate))) (sRi (eC (-1))) sNop) (sSeq (sLr 3 (rQ 4 (rF 5 0 (rF 6 0 (rL 0))) (eL 1))) (sSw 0 6 (eL 2) [(sRi (eF 4 0 (rL 3))), (sRi (eF 4 1 (rL 3))), (sRi (eF 4 2 (rL 3))), (sRi (eF 4 3 (rL 3))), (sRi (eF 4 4 (rL 3))), (sRi (eF 4 5 (rL 3))), (sRi (eF 4 6 (rL 3)))] (sRi (eC (-1)))))
abbrev mX6_plate : zM := (cX6_plate, RX6, 4, some .int, { frames := 1, cells := 0, slots := 0, locals := 21 }, false)
set_option maxHeartbeats 400000 in
set_option maxRecDepth 20000 in
theorem kX6_plate : ssOk mX6_plate 0 105 bX6_plate := (kSeq (M := mX6_plate) (kIf (M := mX6_plate) (kBnot (M := mX6_plate) (kZ_neT (M := mX6_plate) (kCV (M := mX6_plate) (ci := 5) (kRF (M := mX6_plate) (kf := 0) (kR_n (M := mX6_plate) dX6_plate_0 rfl) dX6_plate_1 clX6 lkX6_10 (by decide)) (kaI (M := mX6_plate) (kL_n (M := mX6_plate) dX6_plate_4 rfl) (kaN (M := mX6_plate))) dX6_plate_5 ctX5_hasPlate mdX5_hasPlate imX5_hasPlate seX5_hasPlate clX5 mkX6_57 ⟨(Nat.le_of_ble_eq_true rfl), (Nat.le_of_ble_eq_true rfl)⟩ (Nat.le_of_ble_eq_true rfl)) dX6_plate_8 (by decide) rfl)) (kRi (M := mX6_plate) (kC_ic (M := mX6_plate) (v := (-1)) dX6_plate_11 kc_iconst_m1) dX6_plate_12) (kNop (M := mX6_plate))) (kSeq (M := mX6_plate) (kSr_n (M := mX6_plate) (kQ (M := mX6_plate) (ci := 4) (kRF (M := mX6_plate) (kf := 0) (kRF (M := mX6_plate) (kf := 0) (kR_n (M := mX6_plate) dX6_plate_13 rfl) dX6_plate_14 clX6 lkX6_10 (by decide)) dX6_plate_17 clX5 lkX6_61 (by decide)) (kL_n (M := mX6_plate) dX6_plate_20 rfl) dX6_plate_21 (by first | exact Or.inl ⟨rfl, rfl⟩ | exact Or.inr (Or.inl ⟨rfl, rfl⟩) | exact Or.inr (Or.inr ⟨rfl, rfl⟩))) dX6_plate_22 rfl (by decide)) (kSw (M := mX6_plate) (kL_n (M := mX6_plate) dX6_plate_23 rfl) dX6_plate_24 (by decide) (pD := 103) (kRi (M := mX6_plate) (kC_ic (M := mX6_plate) (v := (-1)) dX6_plate_103 kc_iconst_m1) dX6_plate_104) (⟨⟨68, by decide, (kRi (M := mX6_plate) (kF (M := mX6_plate) (kf := 0) (kR_n (M := mX6_plate) dX6_plate_68 rfl) dX6_plate_69 clX4 lkX6_201 (by decide)) dX6_plate_72)⟩, ⟨⟨73, by decide, (kRi (M := mX6_plate) (kF (M := mX6_plate) (kf := 1) (kR_n (M := mX6_plate) dX6_plate_73 rfl) dX6_plate_74 clX4 lkX6_82 (by decide)) dX6_plate_77)⟩, ⟨⟨78, by decide, (kRi (M := mX6_plate) (kF (M := mX6_plate) (kf := 2) (kR_n (M := mX6_plate) dX6_plate_78 rfl) dX6_plate_79 clX4 lkX6_65 (by decide)) dX6_plate_82)⟩, ⟨⟨83, by decide, (kRi (M := mX6_plate) (kF (M := mX6_plate) (kf := 3) (kR_n (M := mX6_plate) dX6_plate_83 rfl) dX6_plate_84 clX4 lkX6_204 (by decide)) dX6_plate_87)⟩, ⟨⟨88, by decide, (kRi (M := mX6_plate) (kF (M := mX6_plate) (kf := 4) (kR_n (M := mX6_plate) dX6_plate_88 rfl) dX6_plate_89 clX4 lkX6_207 (by decide)) dX6_plate_92)⟩, ⟨⟨93, by decide, (kRi (M := mX6_plate) (kF (M := mX6_plate) (kf := 5) (kR_n (M := mX6_plate) dX6_plate_93 rfl) dX6_plate_94 clX4 lkX6_210 (by decide)) dX6_plate_97)⟩, ⟨⟨98, by decide, (kRi (M := mX6_plate) (kF (M := mX6_plate) (kf := 6) (kR_n (M := mX6_plate) dX6_plate_98 rfl) dX6_plate_99 clX4 lkX6_211 (by decide)) dX6_plate_102)⟩, trivial⟩⟩⟩⟩⟩⟩⟩) (by decide))))
def fX6_plate : zFI := mI bX6_plate
theorem ctX6_plate : CtI yX6_plate cX6_plate 4 .int 1 21 3 fX6_plate := ctI mdX6_plate (Nat.le_of_ble_eq_true rfl) kX6_plate
/-! TrophyPlates.shield -/
theorem mdX6_shield : zMd yX6_shield cX6_shield 3 (some .int) 2 := ⟨cdX6_shield, iniX6, ⟨by decide +kernel, by decide +kernel⟩, by decide +kernel, by decide +kernel⟩
def bX6_shield : zSS := sSeq (sIf (bNot (bZ z_ne (eCV 5 (rF 6 0 (rL 0)) (aI (eL 1) (aN)) fX5_hasShield))) (sRi (eC (-1))) sNop) (sSw 0 4 (eL 2) [(sRi (eA (rF 5 1 (rF 6 0 (rL 0))) (eL 1))), (sRi (eCV 5 (rF 6 0 (rL 0)) (aI (eL 1) (aN)) fX5_platesOn)), (sRi (eCV 5 (rF 6 0 (rL 0)) (aI (eL 1) (aN)) fX5_earliestYear)), (sRi (eCV 5 (rF 6 0 (rL 0)) (aI (eL 1) (aN)) fX5_latestYear)), (sRi (eCV 5 (rF 6 0 (rL 0)) (aI (eL 1) (aN)) fX5_yearsLeftOut))] (sRi (eC (-1))))
abbrev mX6_shield : zM := (cX6_shield, RX6, 3, some .int, { frames := 2, cells := 0, slots := 0, locals := 46 }, false)
set_option maxHeartbeats 400000 in
set_option maxRecDepth 20000 in
theorem kX6_shield : ssOk mX6_shield 0 96 bX6_shield := (kSeq (M := mX6_shield) (kIf (M := mX6_shield) (kBnot (M := mX6_shield) (kZ_neT (M := mX6_shield) (kCV (M := mX6_shield) (ci := 5) (kRF (M := mX6_shield) (kf := 0) (kR_n (M := mX6_shield) dX6_shield_0 rfl) dX6_shield_1 clX6 lkX6_10 (by decide)) (kaI (M := mX6_shield) (kL_n (M := mX6_shield) dX6_shield_4 rfl) (kaN (M := mX6_shield))) dX6_shield_5 ctX5_hasShield mdX5_hasShield imX5_hasShield seX5_hasShield clX5 mkX6_91 ⟨(Nat.le_of_ble_eq_true rfl), (Nat.le_of_ble_eq_true rfl)⟩ (Nat.le_of_ble_eq_true rfl)) dX6_shield_8 (by decide) rfl)) (kRi (M := mX6_shield) (kC_ic (M := mX6_shield) (v := (-1)) dX6_shield_11 kc_iconst_m1) dX6_shield_12) (kNop (M := mX6_shield))) (kSw (M := mX6_shield) (kL_n (M := mX6_shield) dX6_shield_13 rfl) dX6_shield_14 (by decide) (pD := 94) (kRi (M := mX6_shield) (kC_ic (M := mX6_shield) (v := (-1)) dX6_shield_94 kc_iconst_m1) dX6_shield_95) (⟨⟨48, by decide, (kRi (M := mX6_shield) (kA (M := mX6_shield) (kRF (M := mX6_shield) (kf := 1) (kRF (M := mX6_shield) (kf := 0) (kR_n (M := mX6_shield) dX6_shield_48 rfl) dX6_shield_49 clX6 lkX6_10 (by decide)) dX6_shield_52 clX5 lkX6_212 (by decide)) (kL_n (M := mX6_shield) dX6_shield_55 rfl) dX6_shield_56) dX6_shield_57)⟩, ⟨⟨58, by decide, (kRi (M := mX6_shield) (kCV (M := mX6_shield) (ci := 5) (kRF (M := mX6_shield) (kf := 0) (kR_n (M := mX6_shield) dX6_shield_58 rfl) dX6_shield_59 clX6 lkX6_10 (by decide)) (kaI (M := mX6_shield) (kL_n (M := mX6_shield) dX6_shield_62 rfl) (kaN (M := mX6_shield))) dX6_shield_63 ctX5_platesOn mdX5_platesOn imX5_platesOn seX5_platesOn clX5 mkX6_216 ⟨(Nat.le_of_ble_eq_true rfl), (Nat.le_of_ble_eq_true rfl)⟩ (Nat.le_of_ble_eq_true rfl)) dX6_shield_66)⟩, ⟨⟨67, by decide, (kRi (M := mX6_shield) (kCV (M := mX6_shield) (ci := 5) (kRF (M := mX6_shield) (kf := 0) (kR_n (M := mX6_shield) dX6_shield_67 rfl) dX6_shield_68 clX6 lkX6_10 (by decide)) (kaI (M := mX6_shield) (kL_n (M := mX6_shield) dX6_shield_71 rfl) (kaN (M := mX6_shield))) dX6_shield_72 ctX5_earliestYear mdX5_earliestYear imX5_earliestYear seX5_earliestYear clX5 mkX6_219 ⟨(Nat.le_of_ble_eq_true rfl), (Nat.le_of_ble_eq_true rfl)⟩ (Nat.le_of_ble_eq_true rfl)) dX6_shield_75)⟩, ⟨⟨76, by decide, (kRi (M := mX6_shield) (kCV (M := mX6_shield) (ci := 5) (kRF (M := mX6_shield) (kf := 0) (kR_n (M := mX6_shield) dX6_shield_76 rfl) dX6_shield_77 clX6 lkX6_10 (by decide)) (kaI (M := mX6_shield) (kL_n (M := mX6_shield) dX6_shield_80 rfl) (kaN (M := mX6_shield))) dX6_shield_81 ctX5_latestYear mdX5_latestYear imX5_latestYear seX5_latestYear clX5 mkX6_222 ⟨(Nat.le_of_ble_eq_true rfl), (Nat.le_of_ble_eq_true rfl)⟩ (Nat.le_of_ble_eq_true rfl)) dX6_shield_84)⟩, ⟨⟨85, by decide, (kRi (M := mX6_shield) (kCV (M := mX6_shield) (ci := 5) (kRF (M := mX6_shield) (kf := 0) (kR_n (M := mX6_shield) dX6_shield_85 rfl) dX6_shield_86 clX6 lkX6_10 (by decide)) (kaI (M := mX6_shield) (kL_n (M := mX6_shield) dX6_shield_89 rfl) (kaN (M := mX6_shield))) dX6_shield_90 ctX5_yearsLeftOut mdX5_yearsLeftOut imX5_yearsLeftOut seX5_yearsLeftOut clX5 mkX6_225 ⟨(Nat.le_of_ble_eq_true rfl), (Nat.le_of_ble_eq_true rfl)⟩ (Nat.le_of_ble_eq_true rfl)) dX6_shield_93)⟩, trivial⟩⟩⟩⟩⟩) (by decide)))
def fX6_shield : zFI := mI bX6_shield
theorem ctX6_shield : CtI yX6_shield cX6_shield 3 .int 2 46 3 fX6_shield := ctI mdX6_shield (Nat.le_of_ble_eq_true rfl) kX6_shield
/-! TrophyPlates.orderOf -/
theorem mdX6_orderOf : zMd yX6_orderOf cX6_orderOf 4 (some .int) 2 := ⟨cdX6_orderOf, iniX6, ⟨by decide +kernel, by decide +kernel⟩, by decide +kernel, by decide +kernel⟩
def bX6_orderOf : zSS := sSeq (sIf (bNot (bZ z_ne (eCV 5 (rF 6 0 (rL 0)) (aI (eL 1) (aN)) fX5_hasOrder))) (sRi (eC (-1))) sNop) (sSeq (sLr 3 (rQ 3 (rF 5 2 (rF 6 0 (rL 0))) (eL 1))) (sSw 0 7 (eL 2) [(sRi (eF 3 1 (rL 3))), (sRi (eF 3 2 (rL 3))), (sRi (eF 3 3 (rL 3))), (sRi (eF 3 4 (rL 3))), (sRi (eT (bZ z_ne (eF 3 5 (rL 3))) (eC 1) (eC 0))), (sRi (eF 2 1 (rF 3 0 (rL 3)))), (sRi (eCV 3 (rL 3) (aN) fX3_nameLength)), (sRi (eCV 3 (rL 3) (aN) fX3_effort))] (sRi (eC (-1)))))
abbrev mX6_orderOf : zM := (cX6_orderOf, RX6, 4, some .int, { frames := 3, cells := 0, slots := 0, locals := 64 }, false)
set_option maxHeartbeats 400000 in
set_option maxRecDepth 20000 in
theorem kX6_orderOf : ssOk mX6_orderOf 0 125 bX6_orderOf := (kSeq (M := mX6_orderOf) (kIf (M := mX6_orderOf) (kBnot (M := mX6_orderOf) (kZ_neT (M := mX6_orderOf) (kCV (M := mX6_orderOf) (ci := 5) (kRF (M := mX6_orderOf) (kf := 0) (kR_n (M := mX6_orderOf) dX6_orderOf_0 rfl) dX6_orderOf_1 clX6 lkX6_10 (by decide)) (kaI (M := mX6_orderOf) (kL_n (M := mX6_orderOf) dX6_orderOf_4 rfl) (kaN (M := mX6_orderOf))) dX6_orderOf_5 ctX5_hasOrder mdX5_hasOrder imX5_hasOrder seX5_hasOrder clX5 mkX6_155 ⟨(Nat.le_of_ble_eq_true rfl), (Nat.le_of_ble_eq_true rfl)⟩ (Nat.le_of_ble_eq_true rfl)) dX6_orderOf_8 (by decide) rfl)) (kRi (M := mX6_orderOf) (kC_ic (M := mX6_orderOf) (v := (-1)) dX6_orderOf_11 kc_iconst_m1) dX6_orderOf_12) (kNop (M := mX6_orderOf))) (kSeq (M := mX6_orderOf) (kSr_n (M := mX6_orderOf) (kQ (M := mX6_orderOf) (ci := 3) (kRF (M := mX6_orderOf) (kf := 2) (kRF (M := mX6_orderOf) (kf := 0) (kR_n (M := mX6_orderOf) dX6_orderOf_13 rfl) dX6_orderOf_14 clX6 lkX6_10 (by decide)) dX6_orderOf_17 clX5 lkX6_122 (by decide)) (kL_n (M := mX6_orderOf) dX6_orderOf_20 rfl) dX6_orderOf_21 (by first | exact Or.inl ⟨rfl, rfl⟩ | exact Or.inr (Or.inl ⟨rfl, rfl⟩) | exact Or.inr (Or.inr ⟨rfl, rfl⟩))) dX6_orderOf_22 rfl (by decide)) (kSw (M := mX6_orderOf) (kL_n (M := mX6_orderOf) dX6_orderOf_23 rfl) dX6_orderOf_24 (by decide) (pD := 123) (kRi (M := mX6_orderOf) (kC_ic (M := mX6_orderOf) (v := (-1)) dX6_orderOf_123 kc_iconst_m1) dX6_orderOf_124) (⟨⟨72, by decide, (kRi (M := mX6_orderOf) (kF (M := mX6_orderOf) (kf := 1) (kR_n (M := mX6_orderOf) dX6_orderOf_72 rfl) dX6_orderOf_73 clX3 lkX6_135 (by decide)) dX6_orderOf_76)⟩, ⟨⟨77, by decide, (kRi (M := mX6_orderOf) (kF (M := mX6_orderOf) (kf := 2) (kR_n (M := mX6_orderOf) dX6_orderOf_77 rfl) dX6_orderOf_78 clX3 lkX6_138 (by decide)) dX6_orderOf_81)⟩, ⟨⟨82, by decide, (kRi (M := mX6_orderOf) (kF (M := mX6_orderOf) (kf := 3) (kR_n (M := mX6_orderOf) dX6_orderOf_82 rfl) dX6_orderOf_83 clX3 lkX6_141 (by decide)) dX6_orderOf_86)⟩, ⟨⟨87, by decide, (kRi (M := mX6_orderOf) (kF (M := mX6_orderOf) (kf := 4) (kR_n (M := mX6_orderOf) dX6_orderOf_87 rfl) dX6_orderOf_88 clX3 lkX6_144 (by decide)) dX6_orderOf_91)⟩, ⟨⟨92, by decide, (kRi (M := mX6_orderOf) (kT (M := mX6_orderOf) (kZ_neF (M := mX6_orderOf) (kF (M := mX6_orderOf) (kf := 5) (kR_n (M := mX6_orderOf) dX6_orderOf_92 rfl) dX6_orderOf_93 clX3 lkX6_147 (by decide)) dX6_orderOf_96 (by decide) rfl) (kC_ic (M := mX6_orderOf) (v := 1) dX6_orderOf_99 kc_iconst_1) dX6_orderOf_100 (by decide) (kC_ic (M := mX6_orderOf) (v := 0) dX6_orderOf_103 kc_iconst_0)) dX6_orderOf_104)⟩, ⟨⟨105, by decide, (kRi (M := mX6_orderOf) (kF (M := mX6_orderOf) (kf := 1) (kRF (M := mX6_orderOf) (kf := 0) (kR_n (M := mX6_orderOf) dX6_orderOf_105 rfl) dX6_orderOf_106 clX3 lkX6_126 (by decide)) dX6_orderOf_109 clX2 lkX6_103 (by decide)) dX6_orderOf_112)⟩, ⟨⟨113, by decide, (kRi (M := mX6_orderOf) (kCV (M := mX6_orderOf) (ci := 3) (kR_n (M := mX6_orderOf) dX6_orderOf_113 rfl) (kaN (M := mX6_orderOf)) dX6_orderOf_114 ctX3_nameLength mdX3_nameLength imX3_nameLength seX3_nameLength clX3 mkX6_228 ⟨(Nat.le_of_ble_eq_true rfl), (Nat.le_of_ble_eq_true rfl)⟩ (Nat.le_of_ble_eq_true rfl)) dX6_orderOf_117)⟩, ⟨⟨118, by decide, (kRi (M := mX6_orderOf) (kCV (M := mX6_orderOf) (ci := 3) (kR_n (M := mX6_orderOf) dX6_orderOf_118 rfl) (kaN (M := mX6_orderOf)) dX6_orderOf_119 ctX3_effort mdX3_effort imX3_effort seX3_effort clX3 mkX6_231 ⟨(Nat.le_of_ble_eq_true rfl), (Nat.le_of_ble_eq_true rfl)⟩ (Nat.le_of_ble_eq_true rfl)) dX6_orderOf_122)⟩, trivial⟩⟩⟩⟩⟩⟩⟩⟩) (by decide))))
def fX6_orderOf : zFI := mI bX6_orderOf
theorem ctX6_orderOf : CtI yX6_orderOf cX6_orderOf 4 .int 3 64 3 fX6_orderOf := ctI mdX6_orderOf (Nat.le_of_ble_eq_true rfl) kX6_orderOf
/-! TrophyPlates.letter -/
theorem mdX6_letter : zMd yX6_letter cX6_letter 4 (some .int) 2 := ⟨cdX6_letter, iniX6, ⟨by decide +kernel, by decide +kernel⟩, by decide +kernel, by decide +kernel⟩
def bX6_letter : zSS := sSeq (sIf (bOr (bNot (bZ z_ne (eCV 5 (rF 6 0 (rL 0)) (aI (eL 1) (aN)) fX5_hasOrder))) (bZ z_lt (eL 2))) (sRi (eC (-1))) sNop) (sSeq (sLr 3 (rF 3 0 (rQ 3 (rF 5 2 (rF 6 0 (rL 0))) (eL 1)))) (sRi (eT (bCmp o_lt (eL 2) (eF 2 1 (rL 3))) (eA (rF 2 0 (rL 3)) (eL 2)) (eC (-9)))))
abbrev mX6_letter : zM := (cX6_letter, RX6, 4, some .int, { frames := 1, cells := 0, slots := 0, locals := 21 }, false)
set_option maxHeartbeats 400000 in
set_option maxRecDepth 20000 in
theorem kX6_letter : ssOk mX6_letter 0 50 bX6_letter := (kSeq (M := mX6_letter) (kIf (M := mX6_letter) (kBor (M := mX6_letter) (kBnot (M := mX6_letter) (kZ_neF (M := mX6_letter) (kCV (M := mX6_letter) (ci := 5) (kRF (M := mX6_letter) (kf := 0) (kR_n (M := mX6_letter) dX6_letter_0 rfl) dX6_letter_1 clX6 lkX6_10 (by decide)) (kaI (M := mX6_letter) (kL_n (M := mX6_letter) dX6_letter_4 rfl) (kaN (M := mX6_letter))) dX6_letter_5 ctX5_hasOrder mdX5_hasOrder imX5_hasOrder seX5_hasOrder clX5 mkX6_155 ⟨(Nat.le_of_ble_eq_true rfl), (Nat.le_of_ble_eq_true rfl)⟩ (Nat.le_of_ble_eq_true rfl)) dX6_letter_8 (by decide) rfl)) (kZ_ltF (M := mX6_letter) (kL_n (M := mX6_letter) dX6_letter_11 rfl) dX6_letter_12 (by decide) rfl)) (kRi (M := mX6_letter) (kC_ic (M := mX6_letter) (v := (-1)) dX6_letter_15 kc_iconst_m1) dX6_letter_16) (kNop (M := mX6_letter))) (kSeq (M := mX6_letter) (kSr_n (M := mX6_letter) (kRF (M := mX6_letter) (kf := 0) (kQ (M := mX6_letter) (ci := 3) (kRF (M := mX6_letter) (kf := 2) (kRF (M := mX6_letter) (kf := 0) (kR_n (M := mX6_letter) dX6_letter_17 rfl) dX6_letter_18 clX6 lkX6_10 (by decide)) dX6_letter_21 clX5 lkX6_122 (by decide)) (kL_n (M := mX6_letter) dX6_letter_24 rfl) dX6_letter_25 (by first | exact Or.inl ⟨rfl, rfl⟩ | exact Or.inr (Or.inl ⟨rfl, rfl⟩) | exact Or.inr (Or.inr ⟨rfl, rfl⟩))) dX6_letter_26 clX3 lkX6_126 (by decide)) dX6_letter_29 rfl (by decide)) (kRi (M := mX6_letter) (kT (M := mX6_letter) (kB_ltF (M := mX6_letter) (kL_n (M := mX6_letter) dX6_letter_30 rfl) (kF (M := mX6_letter) (kf := 1) (kR_n (M := mX6_letter) dX6_letter_31 rfl) dX6_letter_32 clX2 lkX6_103 (by decide)) dX6_letter_35 (by decide) rfl) (kA (M := mX6_letter) (kRF (M := mX6_letter) (kf := 0) (kR_n (M := mX6_letter) dX6_letter_38 rfl) dX6_letter_39 clX2 lkX6_234 (by decide)) (kL_n (M := mX6_letter) dX6_letter_42 rfl) dX6_letter_43) dX6_letter_44 (by decide) (kC_bi (M := mX6_letter) (v := (-9)) dX6_letter_47 kc_bipush_m9)) dX6_letter_49)))
def fX6_letter : zFI := mI bX6_letter
theorem ctX6_letter : CtI yX6_letter cX6_letter 4 .int 1 21 3 fX6_letter := ctI mdX6_letter (Nat.le_of_ble_eq_true rfl) kX6_letter
/-! TrophyPlates.doneIn -/
theorem mdX6_doneIn : zMd yX6_doneIn cX6_doneIn 2 (some .int) 1 := ⟨cdX6_doneIn, iniX6, ⟨by decide +kernel, by decide +kernel⟩, by decide +kernel, by decide +kernel⟩
def bX6_doneIn : zSS := sSeq (sIf (bNot (bZ z_ne (eCV 5 (rF 6 0 (rL 0)) (aI (eL 1) (aN)) fX5_hasOrder))) (sRi (eC (-1))) sNop) (sSeq (sCV 0 (rF 6 3 (rL 0)) (aR (rF 6 0 (rL 0)) (aI (eC (-9)) (aN))) fX0_foresee) (sRi (eA (rF 0 1 (rF 6 3 (rL 0))) (eL 1))))
abbrev mX6_doneIn : zM := (cX6_doneIn, RX6, 2, some .int, { frames := 7, cells := 0, slots := 0, locals := 160 }, false)
set_option maxHeartbeats 400000 in
set_option maxRecDepth 20000 in
theorem kX6_doneIn : ssOk mX6_doneIn 0 36 bX6_doneIn := (kSeq (M := mX6_doneIn) (kIf (M := mX6_doneIn) (kBnot (M := mX6_doneIn) (kZ_neT (M := mX6_doneIn) (kCV (M := mX6_doneIn) (ci := 5) (kRF (M := mX6_doneIn) (kf := 0) (kR_n (M := mX6_doneIn) dX6_doneIn_0 rfl) dX6_doneIn_1 clX6 lkX6_10 (by decide)) (kaI (M := mX6_doneIn) (kL_n (M := mX6_doneIn) dX6_doneIn_4 rfl) (kaN (M := mX6_doneIn))) dX6_doneIn_5 ctX5_hasOrder mdX5_hasOrder imX5_hasOrder seX5_hasOrder clX5 mkX6_155 ⟨(Nat.le_of_ble_eq_true rfl), (Nat.le_of_ble_eq_true rfl)⟩ (Nat.le_of_ble_eq_true rfl)) dX6_doneIn_8 (by decide) rfl)) (kRi (M := mX6_doneIn) (kC_ic (M := mX6_doneIn) (v := (-1)) dX6_doneIn_11 kc_iconst_m1) dX6_doneIn_12) (kNop (M := mX6_doneIn))) (kSeq (M := mX6_doneIn) (ksCV (M := mX6_doneIn) (ci := 0) (kRF (M := mX6_doneIn) (kf := 3) (kR_n (M := mX6_doneIn) dX6_doneIn_13 rfl) dX6_doneIn_14 clX6 lkX6_35 (by decide)) (kaR (M := mX6_doneIn) (kRF (M := mX6_doneIn) (kf := 0) (kR_n (M := mX6_doneIn) dX6_doneIn_17 rfl) dX6_doneIn_18 clX6 lkX6_10 (by decide)) (kaI (M := mX6_doneIn) (kC_bi (M := mX6_doneIn) (v := (-9)) dX6_doneIn_21 kc_bipush_m9) (kaN (M := mX6_doneIn)))) dX6_doneIn_23 ctX0_foresee mdX0_foresee imX0_foresee seX0_foresee clX0 mkX6_249 ⟨(Nat.le_of_ble_eq_true rfl), (Nat.le_of_ble_eq_true rfl)⟩) (kRi (M := mX6_doneIn) (kA (M := mX6_doneIn) (kRF (M := mX6_doneIn) (kf := 1) (kRF (M := mX6_doneIn) (kf := 3) (kR_n (M := mX6_doneIn) dX6_doneIn_26 rfl) dX6_doneIn_27 clX6 lkX6_35 (by decide)) dX6_doneIn_30 clX0 lkX6_253 (by decide)) (kL_n (M := mX6_doneIn) dX6_doneIn_33 rfl) dX6_doneIn_34) dX6_doneIn_35)))
def fX6_doneIn : zFI := mI bX6_doneIn
theorem ctX6_doneIn : CtI yX6_doneIn cX6_doneIn 2 .int 7 160 2 fX6_doneIn := ctI mdX6_doneIn (Nat.le_of_ble_eq_true rfl) kX6_doneIn
/-! TrophyPlates.isWithin -/
theorem mdX6_isWithin : zMd yX6_isWithin cX6_isWithin 3 (some .boolean) 3 := ⟨cdX6_isWithin, iniX6, ⟨by decide +kernel, by decide +kernel⟩, by decide +kernel, by decide +kernel⟩
def bX6_isWithin : zSS := sRi (eB (bAnd (bCmp o_ge (eL 0) (eL 1)) (bCmp o_le (eL 0) (eL 2))))
abbrev mX6_isWithin : zM := (cX6_isWithin, RX6, 3, some .boolean, { frames := 0, cells := 0, slots := 0, locals := 0 }, false)
set_option maxHeartbeats 400000 in
set_option maxRecDepth 20000 in
theorem kX6_isWithin : ssOk mX6_isWithin 0 16 bX6_isWithin := (kRi (M := mX6_isWithin) (kEB (M := mX6_isWithin) (kBand (M := mX6_isWithin) (kB_geF (M := mX6_isWithin) (kL_n (M := mX6_isWithin) dX6_isWithin_0 rfl) (kL_n (M := mX6_isWithin) dX6_isWithin_1 rfl) dX6_isWithin_2 (by decide) rfl) (kB_leF (M := mX6_isWithin) (kL_n (M := mX6_isWithin) dX6_isWithin_5 rfl) (kL_n (M := mX6_isWithin) dX6_isWithin_6 rfl) dX6_isWithin_7 (by decide) rfl)) dX6_isWithin_10 dX6_isWithin_11 (by decide) dX6_isWithin_14 rfl) dX6_isWithin_15)
def fX6_isWithin : zFI := mZ bX6_isWithin
theorem ctX6_isWithin : CtI yX6_isWithin cX6_isWithin 3 .boolean 0 0 3 fX6_isWithin := ctZ mdX6_isWithin (Nat.le_of_ble_eq_true rfl) kX6_isWithin
/-! TrophyPlates.isYear -/
theorem mdX6_isYear : zMd yX6_isYear cX6_isYear 1 (some .boolean) 1 := ⟨cdX6_isYear, iniX6, ⟨by decide +kernel, by decide +kernel⟩, by decide +kernel, by decide +kernel⟩
def bX6_isYear : zSS := sRi (eCS (aI (eL 0) (aI (eC 1) (aI (eC 999) (aN)))) fX6_isWithin)
abbrev mX6_isYear : zM := (cX6_isYear, RX6, 1, some .boolean, { frames := 1, cells := 0, slots := 0, locals := 22 }, false)
set_option maxHeartbeats 400000 in
set_option maxRecDepth 20000 in
theorem kX6_isYear : ssOk mX6_isYear 0 9 bX6_isYear := (kRi (M := mX6_isYear) (kCS (M := mX6_isYear) (kaI (M := mX6_isYear) (kL_n (M := mX6_isYear) dX6_isYear_0 rfl) (kaI (M := mX6_isYear) (kC_ic (M := mX6_isYear) (v := 1) dX6_isYear_1 kc_iconst_1) (kaI (M := mX6_isYear) (kC_si (M := mX6_isYear) (v := 999) dX6_isYear_2 kc_sipush_999) (kaN (M := mX6_isYear))))) dX6_isYear_5 ctX6_isWithin mdX6_isWithin stX6_isWithin mkX6_42 ⟨(Nat.le_of_ble_eq_true rfl), (Nat.le_of_ble_eq_true rfl)⟩ (Nat.le_of_ble_eq_true rfl)) dX6_isYear_8)
def fX6_isYear : zFI := mZ bX6_isYear
theorem ctX6_isYear : CtI yX6_isYear cX6_isYear 1 .boolean 1 22 1 fX6_isYear := ctZ mdX6_isYear (Nat.le_of_ble_eq_true rfl) kX6_isYear
/-! TrophyPlates.isSize -/
theorem mdX6_isSize : zMd yX6_isSize cX6_isSize 1 (some .boolean) 1 := ⟨cdX6_isSize, iniX6, ⟨by decide +kernel, by decide +kernel⟩, by decide +kernel, by decide +kernel⟩
def bX6_isSize : zSS := sRi (eCS (aI (eL 0) (aI (eC 1) (aI (eC 4) (aN)))) fX6_isWithin)
abbrev mX6_isSize : zM := (cX6_isSize, RX6, 1, some .boolean, { frames := 1, cells := 0, slots := 0, locals := 22 }, false)
set_option maxHeartbeats 400000 in
set_option maxRecDepth 20000 in
theorem kX6_isSize : ssOk mX6_isSize 0 7 bX6_isSize := (kRi (M := mX6_isSize) (kCS (M := mX6_isSize) (kaI (M := mX6_isSize) (kL_n (M := mX6_isSize) dX6_isSize_0 rfl) (kaI (M := mX6_isSize) (kC_ic (M := mX6_isSize) (v := 1) dX6_isSize_1 kc_iconst_1) (kaI (M := mX6_isSize) (kC_ic (M := mX6_isSize) (v := 4) dX6_isSize_2 kc_iconst_4) (kaN (M := mX6_isSize))))) dX6_isSize_3 ctX6_isWithin mdX6_isWithin stX6_isWithin mkX6_42 ⟨(Nat.le_of_ble_eq_true rfl), (Nat.le_of_ble_eq_true rfl)⟩ (Nat.le_of_ble_eq_true rfl)) dX6_isSize_6)
def fX6_isSize : zFI := mZ bX6_isSize
theorem ctX6_isSize : CtI yX6_isSize cX6_isSize 1 .boolean 1 22 1 fX6_isSize := ctZ mdX6_isSize (Nat.le_of_ble_eq_true rfl) kX6_isSize
/-! TrophyPlates.isDepth -/
theorem mdX6_isDepth : zMd yX6_isDepth cX6_isDepth 1 (some .boolean) 1 := ⟨cdX6_isDepth, iniX6, ⟨by decide +kernel, by decide +kernel⟩, by decide +kernel, by decide +kernel⟩
def bX6_isDepth : zSS := sRi (eCS (aI (eL 0) (aI (eC 1) (aI (eC 5) (aN)))) fX6_isWithin)
abbrev mX6_isDepth : zM := (cX6_isDepth, RX6, 1, some .boolean, { frames := 1, cells := 0, slots := 0, locals := 22 }, false)
set_option maxHeartbeats 400000 in
set_option maxRecDepth 20000 in
theorem kX6_isDepth : ssOk mX6_isDepth 0 7 bX6_isDepth := (kRi (M := mX6_isDepth) (kCS (M := mX6_isDepth) (kaI (M := mX6_isDepth) (kL_n (M := mX6_isDepth) dX6_isDepth_0 rfl) (kaI (M := mX6_isDepth) (kC_ic (M := mX6_isDepth) (v := 1) dX6_isDepth_1 kc_iconst_1) (kaI (M := mX6_isDepth) (kC_ic (M := mX6_isDepth) (v := 5) dX6_isDepth_2 kc_iconst_5) (kaN (M := mX6_isDepth))))) dX6_isDepth_3 ctX6_isWithin mdX6_isWithin stX6_isWithin mkX6_42 ⟨(Nat.le_of_ble_eq_true rfl), (Nat.le_of_ble_eq_true rfl)⟩ (Nat.le_of_ble_eq_true rfl)) dX6_isDepth_6)
def fX6_isDepth : zFI := mZ bX6_isDepth
theorem ctX6_isDepth : CtI yX6_isDepth cX6_isDepth 1 .boolean 1 22 1 fX6_isDepth := ctZ mdX6_isDepth (Nat.le_of_ble_eq_true rfl) kX6_isDepth
/-! TrophyPlates.cut -/
theorem mdX6_cut : zMd yX6_cut cX6_cut 3 (some .int) 2 := ⟨cdX6_cut, iniX6, ⟨by decide +kernel, by decide +kernel⟩, by decide +kernel, by decide +kernel⟩
def bX6_cut : zSS := sSeq (sIf (bOr (bNot (bZ z_ne (eCS (aI (eL 1) (aI (eC 10) (aI (eC 200) (aN)))) fX6_isWithin))) (bNot (bZ z_ne (eCS (aI (eL 2) (aI (eC 5) (aI (eC 30) (aN)))) fX6_isWithin)))) (sRi (eC (-1))) sNop) (sSeq (sIf (bCmp o_ge (eF 5 3 (rF 6 0 (rL 0))) (eC 20)) (sRi (eC (-3))) sNop) (sSeq (sCV 1 (rF 6 1 (rL 0)) (aR (rF 6 0 (rL 0)) (aN)) fX1_record) (sRi (eCV 5 (rF 6 0 (rL 0)) (aI (eL 1) (aI (eL 2) (aN))) fX5_addPlate))))
abbrev mX6_cut : zM := (cX6_cut, RX6, 3, some .int, { frames := 4, cells := 0, slots := 0, locals := 86 }, false)
set_option maxHeartbeats 400000 in
set_option maxRecDepth 20000 in
theorem kX6_cut : ssOk mX6_cut 0 60 bX6_cut := (kSeq (M := mX6_cut) (kIf (M := mX6_cut) (kBor (M := mX6_cut) (kBnot (M := mX6_cut) (kZ_neF (M := mX6_cut) (kCS (M := mX6_cut) (kaI (M := mX6_cut) (kL_n (M := mX6_cut) dX6_cut_0 rfl) (kaI (M := mX6_cut) (kC_bi (M := mX6_cut) (v := 10) dX6_cut_1 kc_bipush_10) (kaI (M := mX6_cut) (kC_si (M := mX6_cut) (v := 200) dX6_cut_3 kc_sipush_200) (kaN (M := mX6_cut))))) dX6_cut_6 ctX6_isWithin mdX6_isWithin stX6_isWithin mkX6_42 ⟨(Nat.le_of_ble_eq_true rfl), (Nat.le_of_ble_eq_true rfl)⟩ (Nat.le_of_ble_eq_true rfl)) dX6_cut_9 (by decide) rfl)) (kBnot (M := mX6_cut) (kZ_neT (M := mX6_cut) (kCS (M := mX6_cut) (kaI (M := mX6_cut) (kL_n (M := mX6_cut) dX6_cut_12 rfl) (kaI (M := mX6_cut) (kC_ic (M := mX6_cut) (v := 5) dX6_cut_13 kc_iconst_5) (kaI (M := mX6_cut) (kC_bi (M := mX6_cut) (v := 30) dX6_cut_14 kc_bipush_30) (kaN (M := mX6_cut))))) dX6_cut_16 ctX6_isWithin mdX6_isWithin stX6_isWithin mkX6_42 ⟨(Nat.le_of_ble_eq_true rfl), (Nat.le_of_ble_eq_true rfl)⟩ (Nat.le_of_ble_eq_true rfl)) dX6_cut_19 (by decide) rfl))) (kRi (M := mX6_cut) (kC_ic (M := mX6_cut) (v := (-1)) dX6_cut_22 kc_iconst_m1) dX6_cut_23) (kNop (M := mX6_cut))) (kSeq (M := mX6_cut) (kIf (M := mX6_cut) (kB_geF (M := mX6_cut) (kF (M := mX6_cut) (kf := 3) (kRF (M := mX6_cut) (kf := 0) (kR_n (M := mX6_cut) dX6_cut_24 rfl) dX6_cut_25 clX6 lkX6_10 (by decide)) dX6_cut_28 clX5 lkX6_46 (by decide)) (kC_bi (M := mX6_cut) (v := 20) dX6_cut_31 kc_bipush_20) dX6_cut_33 (by decide) rfl) (kRi (M := mX6_cut) (kC_bi (M := mX6_cut) (v := (-3)) dX6_cut_36 kc_bipush_m3) dX6_cut_38) (kNop (M := mX6_cut))) (kSeq (M := mX6_cut) (ksCV (M := mX6_cut) (ci := 1) (kRF (M := mX6_cut) (kf := 1) (kR_n (M := mX6_cut) dX6_cut_39 rfl) dX6_cut_40 clX6 lkX6_19 (by decide)) (kaR (M := mX6_cut) (kRF (M := mX6_cut) (kf := 0) (kR_n (M := mX6_cut) dX6_cut_43 rfl) dX6_cut_44 clX6 lkX6_10 (by decide)) (kaN (M := mX6_cut))) dX6_cut_47 ctX1_record mdX1_record imX1_record seX1_record clX1 mkX6_50 ⟨(Nat.le_of_ble_eq_true rfl), (Nat.le_of_ble_eq_true rfl)⟩) (kRi (M := mX6_cut) (kCV (M := mX6_cut) (ci := 5) (kRF (M := mX6_cut) (kf := 0) (kR_n (M := mX6_cut) dX6_cut_50 rfl) dX6_cut_51 clX6 lkX6_10 (by decide)) (kaI (M := mX6_cut) (kL_n (M := mX6_cut) dX6_cut_54 rfl) (kaI (M := mX6_cut) (kL_n (M := mX6_cut) dX6_cut_55 rfl) (kaN (M := mX6_cut)))) dX6_cut_56 ctX5_addPlate mdX5_addPlate imX5_addPlate seX5_addPlate clX5 mkX6_53 ⟨(Nat.le_of_ble_eq_true rfl), (Nat.le_of_ble_eq_true rfl)⟩ (Nat.le_of_ble_eq_true rfl)) dX6_cut_59))))
def fX6_cut : zFI := mI bX6_cut
theorem ctX6_cut : CtI yX6_cut cX6_cut 3 .int 4 86 3 fX6_cut := ctI mdX6_cut (Nat.le_of_ble_eq_true rfl) kX6_cut
/-! TrophyPlates.grind -/
theorem mdX6_grind : zMd yX6_grind cX6_grind 4 (some .int) 2 := ⟨cdX6_grind, iniX6, ⟨by decide +kernel, by decide +kernel⟩, by decide +kernel, by decide +kernel⟩
def bX6_grind : zSS := sSeq (sIf (bOr (bNot (bZ z_ne (eCV 5 (rF 6 0 (rL 0)) (aI (eL 1) (aN)) fX5_hasPlate))) (bNot (bZ z_ne (eCS (aI (eL 2) (aI (eC 0) (aI (eC 1) (aN)))) fX6_isWithin)))) (sRi (eC (-1))) sNop) (sSeq (sLr 3 (rQ 4 (rF 5 0 (rF 6 0 (rL 0))) (eL 1))) (sSeq (sIf (bOr (bZ z_ne (eF 4 2 (rL 3))) (bNot (bZ z_ne (eCV 4 (rL 3) (aI (eL 2) (aI (eC 0) (aN))) fX4_canBeGround)))) (sRi (eC (-2))) sNop) (sSeq (sCV 1 (rF 6 1 (rL 0)) (aR (rF 6 0 (rL 0)) (aN)) fX1_record) (sSeq (sCV 5 (rF 6 0 (rL 0)) (aR (rL 3) (aI (eL 2) (aN))) fX5_grindSide) (sRi (eF 4 1 (rL 3)))))))
abbrev mX6_grind : zM := (cX6_grind, RX6, 4, some .int, { frames := 4, cells := 0, slots := 0, locals := 86 }, false)
set_option maxHeartbeats 400000 in
set_option maxRecDepth 20000 in
theorem kX6_grind : ssOk mX6_grind 0 76 bX6_grind := (kSeq (M := mX6_grind) (kIf (M := mX6_grind) (kBor (M := mX6_grind) (kBnot (M := mX6_grind) (kZ_neF (M := mX6_grind) (kCV (M := mX6_grind) (ci := 5) (kRF (M := mX6_grind) (kf := 0) (kR_n (M := mX6_grind) dX6_grind_0 rfl) dX6_grind_1 clX6 lkX6_10 (by decide)) (kaI (M := mX6_grind) (kL_n (M := mX6_grind) dX6_grind_4 rfl) (kaN (M := mX6_grind))) dX6_grind_5 ctX5_hasPlate mdX5_hasPlate imX5_hasPlate seX5_hasPlate clX5 mkX6_57 ⟨(Nat.le_of_ble_eq_true rfl), (Nat.le_of_ble_eq_true rfl)⟩ (Nat.le_of_ble_eq_true rfl)) dX6_grind_8 (by decide) rfl)) (kBnot (M := mX6_grind) (kZ_neT (M := mX6_grind) (kCS (M := mX6_grind) (kaI (M := mX6_grind) (kL_n (M := mX6_grind) dX6_grind_11 rfl) (kaI (M := mX6_grind) (kC_ic (M := mX6_grind) (v := 0) dX6_grind_12 kc_iconst_0) (kaI (M := mX6_grind) (kC_ic (M := mX6_grind) (v := 1) dX6_grind_13 kc_iconst_1) (kaN (M := mX6_grind))))) dX6_grind_14 ctX6_isWithin mdX6_isWithin stX6_isWithin mkX6_42 ⟨(Nat.le_of_ble_eq_true rfl), (Nat.le_of_ble_eq_true rfl)⟩ (Nat.le_of_ble_eq_true rfl)) dX6_grind_17 (by decide) rfl))) (kRi (M := mX6_grind) (kC_ic (M := mX6_grind) (v := (-1)) dX6_grind_20 kc_iconst_m1) dX6_grind_21) (kNop (M := mX6_grind))) (kSeq (M := mX6_grind) (kSr_n (M := mX6_grind) (kQ (M := mX6_grind) (ci := 4) (kRF (M := mX6_grind) (kf := 0) (kRF (M := mX6_grind) (kf := 0) (kR_n (M := mX6_grind) dX6_grind_22 rfl) dX6_grind_23 clX6 lkX6_10 (by decide)) dX6_grind_26 clX5 lkX6_61 (by decide)) (kL_n (M := mX6_grind) dX6_grind_29 rfl) dX6_grind_30 (by first | exact Or.inl ⟨rfl, rfl⟩ | exact Or.inr (Or.inl ⟨rfl, rfl⟩) | exact Or.inr (Or.inr ⟨rfl, rfl⟩))) dX6_grind_31 rfl (by decide)) (kSeq (M := mX6_grind) (kIf (M := mX6_grind) (kBor (M := mX6_grind) (kZ_neT (M := mX6_grind) (kF (M := mX6_grind) (kf := 2) (kR_n (M := mX6_grind) dX6_grind_32 rfl) dX6_grind_33 clX4 lkX6_65 (by decide)) dX6_grind_36 (by decide) rfl) (kBnot (M := mX6_grind) (kZ_neT (M := mX6_grind) (kCV (M := mX6_grind) (ci := 4) (kR_n (M := mX6_grind) dX6_grind_39 rfl) (kaI (M := mX6_grind) (kL_n (M := mX6_grind) dX6_grind_40 rfl) (kaI (M := mX6_grind) (kC_ic (M := mX6_grind) (v := 0) dX6_grind_41 kc_iconst_0) (kaN (M := mX6_grind)))) dX6_grind_42 ctX4_canBeGround mdX4_canBeGround imX4_canBeGround seX4_canBeGround clX4 mkX6_74 ⟨(Nat.le_of_ble_eq_true rfl), (Nat.le_of_ble_eq_true rfl)⟩ (Nat.le_of_ble_eq_true rfl)) dX6_grind_45 (by decide) rfl))) (kRi (M := mX6_grind) (kC_bi (M := mX6_grind) (v := (-2)) dX6_grind_48 kc_bipush_m2) dX6_grind_50) (kNop (M := mX6_grind))) (kSeq (M := mX6_grind) (ksCV (M := mX6_grind) (ci := 1) (kRF (M := mX6_grind) (kf := 1) (kR_n (M := mX6_grind) dX6_grind_51 rfl) dX6_grind_52 clX6 lkX6_19 (by decide)) (kaR (M := mX6_grind) (kRF (M := mX6_grind) (kf := 0) (kR_n (M := mX6_grind) dX6_grind_55 rfl) dX6_grind_56 clX6 lkX6_10 (by decide)) (kaN (M := mX6_grind))) dX6_grind_59 ctX1_record mdX1_record imX1_record seX1_record clX1 mkX6_50 ⟨(Nat.le_of_ble_eq_true rfl), (Nat.le_of_ble_eq_true rfl)⟩) (kSeq (M := mX6_grind) (ksCV (M := mX6_grind) (ci := 5) (kRF (M := mX6_grind) (kf := 0) (kR_n (M := mX6_grind) dX6_grind_62 rfl) dX6_grind_63 clX6 lkX6_10 (by decide)) (kaR (M := mX6_grind) (kR_n (M := mX6_grind) dX6_grind_66 rfl) (kaI (M := mX6_grind) (kL_n (M := mX6_grind) dX6_grind_67 rfl) (kaN (M := mX6_grind)))) dX6_grind_68 ctX5_grindSide mdX5_grindSide imX5_grindSide seX5_grindSide clX5 mkX6_78 ⟨(Nat.le_of_ble_eq_true rfl), (Nat.le_of_ble_eq_true rfl)⟩) (kRi (M := mX6_grind) (kF (M := mX6_grind) (kf := 1) (kR_n (M := mX6_grind) dX6_grind_71 rfl) dX6_grind_72 clX4 lkX6_82 (by decide)) dX6_grind_75))))))
def fX6_grind : zFI := mI bX6_grind
theorem ctX6_grind : CtI yX6_grind cX6_grind 4 .int 4 86 3 fX6_grind := ctI mdX6_grind (Nat.le_of_ble_eq_true rfl) kX6_grind
/-! TrophyPlates.addShield -/
theorem mdX6_addShield : zMd yX6_addShield cX6_addShield 2 (some .int) 1 := ⟨cdX6_addShield, iniX6, ⟨by decide +kernel, by decide +kernel⟩, by decide +kernel, by decide +kernel⟩
def bX6_addShield : zSS := sSeq (sIf (bNot (bZ z_ne (eCS (aI (eL 1) (aI (eC 2) (aI (eC 6) (aN)))) fX6_isWithin))) (sRi (eC (-1))) sNop) (sSeq (sIf (bCmp o_ge (eF 5 4 (rF 6 0 (rL 0))) (eC 3)) (sRi (eC (-3))) sNop) (sSeq (sCV 1 (rF 6 1 (rL 0)) (aR (rF 6 0 (rL 0)) (aN)) fX1_record) (sRi (eCV 5 (rF 6 0 (rL 0)) (aI (eL 1) (aN)) fX5_hangShield))))
abbrev mX6_addShield : zM := (cX6_addShield, RX6, 2, some .int, { frames := 4, cells := 0, slots := 0, locals := 86 }, false)
set_option maxHeartbeats 400000 in
set_option maxRecDepth 20000 in
theorem kX6_addShield : ssOk mX6_addShield 0 46 bX6_addShield := (kSeq (M := mX6_addShield) (kIf (M := mX6_addShield) (kBnot (M := mX6_addShield) (kZ_neT (M := mX6_addShield) (kCS (M := mX6_addShield) (kaI (M := mX6_addShield) (kL_n (M := mX6_addShield) dX6_addShield_0 rfl) (kaI (M := mX6_addShield) (kC_ic (M := mX6_addShield) (v := 2) dX6_addShield_1 kc_iconst_2) (kaI (M := mX6_addShield) (kC_bi (M := mX6_addShield) (v := 6) dX6_addShield_2 kc_bipush_6) (kaN (M := mX6_addShield))))) dX6_addShield_4 ctX6_isWithin mdX6_isWithin stX6_isWithin mkX6_42 ⟨(Nat.le_of_ble_eq_true rfl), (Nat.le_of_ble_eq_true rfl)⟩ (Nat.le_of_ble_eq_true rfl)) dX6_addShield_7 (by decide) rfl)) (kRi (M := mX6_addShield) (kC_ic (M := mX6_addShield) (v := (-1)) dX6_addShield_10 kc_iconst_m1) dX6_addShield_11) (kNop (M := mX6_addShield))) (kSeq (M := mX6_addShield) (kIf (M := mX6_addShield) (kB_geF (M := mX6_addShield) (kF (M := mX6_addShield) (kf := 4) (kRF (M := mX6_addShield) (kf := 0) (kR_n (M := mX6_addShield) dX6_addShield_12 rfl) dX6_addShield_13 clX6 lkX6_10 (by decide)) dX6_addShield_16 clX5 lkX6_85 (by decide)) (kC_ic (M := mX6_addShield) (v := 3) dX6_addShield_19 kc_iconst_3) dX6_addShield_20 (by decide) rfl) (kRi (M := mX6_addShield) (kC_bi (M := mX6_addShield) (v := (-3)) dX6_addShield_23 kc_bipush_m3) dX6_addShield_25) (kNop (M := mX6_addShield))) (kSeq (M := mX6_addShield) (ksCV (M := mX6_addShield) (ci := 1) (kRF (M := mX6_addShield) (kf := 1) (kR_n (M := mX6_addShield) dX6_addShield_26 rfl) dX6_addShield_27 clX6 lkX6_19 (by decide)) (kaR (M := mX6_addShield) (kRF (M := mX6_addShield) (kf := 0) (kR_n (M := mX6_addShield) dX6_addShield_30 rfl) dX6_addShield_31 clX6 lkX6_10 (by decide)) (kaN (M := mX6_addShield))) dX6_addShield_34 ctX1_record mdX1_record imX1_record seX1_record clX1 mkX6_50 ⟨(Nat.le_of_ble_eq_true rfl), (Nat.le_of_ble_eq_true rfl)⟩) (kRi (M := mX6_addShield) (kCV (M := mX6_addShield) (ci := 5) (kRF (M := mX6_addShield) (kf := 0) (kR_n (M := mX6_addShield) dX6_addShield_37 rfl) dX6_addShield_38 clX6 lkX6_10 (by decide)) (kaI (M := mX6_addShield) (kL_n (M := mX6_addShield) dX6_addShield_41 rfl) (kaN (M := mX6_addShield))) dX6_addShield_42 ctX5_hangShield mdX5_hangShield imX5_hangShield seX5_hangShield clX5 mkX6_88 ⟨(Nat.le_of_ble_eq_true rfl), (Nat.le_of_ble_eq_true rfl)⟩ (Nat.le_of_ble_eq_true rfl)) dX6_addShield_45))))
def fX6_addShield : zFI := mI bX6_addShield
theorem ctX6_addShield : CtI yX6_addShield cX6_addShield 2 .int 4 86 2 fX6_addShield := ctI mdX6_addShield (Nat.le_of_ble_eq_true rfl) kX6_addShield
/-! TrophyPlates.takeOff -/
theorem mdX6_takeOff : zMd yX6_takeOff cX6_takeOff 4 (some .int) 2 := ⟨cdX6_takeOff, iniX6, ⟨by decide +kernel, by decide +kernel⟩, by decide +kernel, by decide +kernel⟩
def bX6_takeOff : zSS := sSeq (sIf (bOr (bNot (bZ z_ne (eCV 5 (rF 6 0 (rL 0)) (aI (eL 1) (aN)) fX5_hasShield))) (bNot (bZ z_ne (eCS (aI (eL 2) (aN)) fX6_isYear)))) (sRi (eC (-1))) sNop) (sSeq (sLi 3 (eCV 5 (rF 6 0 (rL 0)) (aI (eL 1) (aI (eL 2) (aN))) fX5_plateOfYear)) (sSeq (sIf (bNot (bZ z_ne (eCV 5 (rF 6 0 (rL 0)) (aI (eL 3) (aN)) fX5_hasPlate))) (sRi (eC (-2))) sNop) (sSeq (sCV 1 (rF 6 1 (rL 0)) (aR (rF 6 0 (rL 0)) (aN)) fX1_record) (sSeq (sCV 4 (rQ 4 (rF 5 0 (rF 6 0 (rL 0))) (eL 3)) (aN) fX4_putIntoDrawer) (sRi (eL 3))))))
abbrev mX6_takeOff : zM := (cX6_takeOff, RX6, 4, some .int, { frames := 4, cells := 0, slots := 0, locals := 86 }, false)
set_option maxHeartbeats 400000 in
set_option maxRecDepth 20000 in
theorem kX6_takeOff : ssOk mX6_takeOff 0 69 bX6_takeOff := (kSeq (M := mX6_takeOff) (kIf (M := mX6_takeOff) (kBor (M := mX6_takeOff) (kBnot (M := mX6_takeOff) (kZ_neF (M := mX6_takeOff) (kCV (M := mX6_takeOff) (ci := 5) (kRF (M := mX6_takeOff) (kf := 0) (kR_n (M := mX6_takeOff) dX6_takeOff_0 rfl) dX6_takeOff_1 clX6 lkX6_10 (by decide)) (kaI (M := mX6_takeOff) (kL_n (M := mX6_takeOff) dX6_takeOff_4 rfl) (kaN (M := mX6_takeOff))) dX6_takeOff_5 ctX5_hasShield mdX5_hasShield imX5_hasShield seX5_hasShield clX5 mkX6_91 ⟨(Nat.le_of_ble_eq_true rfl), (Nat.le_of_ble_eq_true rfl)⟩ (Nat.le_of_ble_eq_true rfl)) dX6_takeOff_8 (by decide) rfl)) (kBnot (M := mX6_takeOff) (kZ_neT (M := mX6_takeOff) (kCS (M := mX6_takeOff) (kaI (M := mX6_takeOff) (kL_n (M := mX6_takeOff) dX6_takeOff_11 rfl) (kaN (M := mX6_takeOff))) dX6_takeOff_12 ctX6_isYear mdX6_isYear stX6_isYear mkX6_94 ⟨(Nat.le_of_ble_eq_true rfl), (Nat.le_of_ble_eq_true rfl)⟩ (Nat.le_of_ble_eq_true rfl)) dX6_takeOff_15 (by decide) rfl))) (kRi (M := mX6_takeOff) (kC_ic (M := mX6_takeOff) (v := (-1)) dX6_takeOff_18 kc_iconst_m1) dX6_takeOff_19) (kNop (M := mX6_takeOff))) (kSeq (M := mX6_takeOff) (kSi_n (M := mX6_takeOff) (kCV (M := mX6_takeOff) (ci := 5) (kRF (M := mX6_takeOff) (kf := 0) (kR_n (M := mX6_takeOff) dX6_takeOff_20 rfl) dX6_takeOff_21 clX6 lkX6_10 (by decide)) (kaI (M := mX6_takeOff) (kL_n (M := mX6_takeOff) dX6_takeOff_24 rfl) (kaI (M := mX6_takeOff) (kL_n (M := mX6_takeOff) dX6_takeOff_25 rfl) (kaN (M := mX6_takeOff)))) dX6_takeOff_26 ctX5_plateOfYear mdX5_plateOfYear imX5_plateOfYear seX5_plateOfYear clX5 mkX6_97 ⟨(Nat.le_of_ble_eq_true rfl), (Nat.le_of_ble_eq_true rfl)⟩ (Nat.le_of_ble_eq_true rfl)) dX6_takeOff_29 rfl (by decide)) (kSeq (M := mX6_takeOff) (kIf (M := mX6_takeOff) (kBnot (M := mX6_takeOff) (kZ_neT (M := mX6_takeOff) (kCV (M := mX6_takeOff) (ci := 5) (kRF (M := mX6_takeOff) (kf := 0) (kR_n (M := mX6_takeOff) dX6_takeOff_30 rfl) dX6_takeOff_31 clX6 lkX6_10 (by decide)) (kaI (M := mX6_takeOff) (kL_n (M := mX6_takeOff) dX6_takeOff_34 rfl) (kaN (M := mX6_takeOff))) dX6_takeOff_35 ctX5_hasPlate mdX5_hasPlate imX5_hasPlate seX5_hasPlate clX5 mkX6_57 ⟨(Nat.le_of_ble_eq_true rfl), (Nat.le_of_ble_eq_true rfl)⟩ (Nat.le_of_ble_eq_true rfl)) dX6_takeOff_38 (by decide) rfl)) (kRi (M := mX6_takeOff) (kC_bi (M := mX6_takeOff) (v := (-2)) dX6_takeOff_41 kc_bipush_m2) dX6_takeOff_43) (kNop (M := mX6_takeOff))) (kSeq (M := mX6_takeOff) (ksCV (M := mX6_takeOff) (ci := 1) (kRF (M := mX6_takeOff) (kf := 1) (kR_n (M := mX6_takeOff) dX6_takeOff_44 rfl) dX6_takeOff_45 clX6 lkX6_19 (by decide)) (kaR (M := mX6_takeOff) (kRF (M := mX6_takeOff) (kf := 0) (kR_n (M := mX6_takeOff) dX6_takeOff_48 rfl) dX6_takeOff_49 clX6 lkX6_10 (by decide)) (kaN (M := mX6_takeOff))) dX6_takeOff_52 ctX1_record mdX1_record imX1_record seX1_record clX1 mkX6_50 ⟨(Nat.le_of_ble_eq_true rfl), (Nat.le_of_ble_eq_true rfl)⟩) (kSeq (M := mX6_takeOff) (ksCV (M := mX6_takeOff) (ci := 4) (kQ (M := mX6_takeOff) (ci := 4) (kRF (M := mX6_takeOff) (kf := 0) (kRF (M := mX6_takeOff) (kf := 0) (kR_n (M := mX6_takeOff) dX6_takeOff_55 rfl) dX6_takeOff_56 clX6 lkX6_10 (by decide)) dX6_takeOff_59 clX5 lkX6_61 (by decide)) (kL_n (M := mX6_takeOff) dX6_takeOff_62 rfl) dX6_takeOff_63 (by first | exact Or.inl ⟨rfl, rfl⟩ | exact Or.inr (Or.inl ⟨rfl, rfl⟩) | exact Or.inr (Or.inr ⟨rfl, rfl⟩))) (kaN (M := mX6_takeOff)) dX6_takeOff_64 ctX4_putIntoDrawer mdX4_putIntoDrawer imX4_putIntoDrawer seX4_putIntoDrawer clX4 mkX6_100 ⟨(Nat.le_of_ble_eq_true rfl), (Nat.le_of_ble_eq_true rfl)⟩) (kRi (M := mX6_takeOff) (kL_n (M := mX6_takeOff) dX6_takeOff_67 rfl) dX6_takeOff_68))))))
def fX6_takeOff : zFI := mI bX6_takeOff
theorem ctX6_takeOff : CtI yX6_takeOff cX6_takeOff 4 .int 4 86 3 fX6_takeOff := ctI mdX6_takeOff (Nat.le_of_ble_eq_true rfl) kX6_takeOff
/-! TrophyPlates.append -/
theorem mdX6_append : zMd yX6_append cX6_append 2 (some .int) 1 := ⟨cdX6_append, iniX6, ⟨by decide +kernel, by decide +kernel⟩, by decide +kernel, by decide +kernel⟩
def bX6_append : zSS := sSeq (sIf (bNot (bZ z_ne (eCS (aI (eL 1) (aI (eC 97) (aI (eC 122) (aN)))) fX6_isWithin))) (sRi (eC (-1))) sNop) (sSeq (sIf (bCmp o_ge (eF 2 1 (rF 6 2 (rL 0))) (eC 12)) (sRi (eC (-3))) sNop) (sSeq (sCV 2 (rF 6 2 (rL 0)) (aI (eL 1) (aN)) fX2_add) (sRi (eF 2 1 (rF 6 2 (rL 0))))))
abbrev mX6_append : zM := (cX6_append, RX6, 2, some .int, { frames := 1, cells := 0, slots := 0, locals := 22 }, false)
set_option maxHeartbeats 400000 in
set_option maxRecDepth 20000 in
theorem kX6_append : ssOk mX6_append 0 44 bX6_append := (kSeq (M := mX6_append) (kIf (M := mX6_append) (kBnot (M := mX6_append) (kZ_neT (M := mX6_append) (kCS (M := mX6_append) (kaI (M := mX6_append) (kL_n (M := mX6_append) dX6_append_0 rfl) (kaI (M := mX6_append) (kC_bi (M := mX6_append) (v := 97) dX6_append_1 kc_bipush_97) (kaI (M := mX6_append) (kC_bi (M := mX6_append) (v := 122) dX6_append_3 kc_bipush_122) (kaN (M := mX6_append))))) dX6_append_5 ctX6_isWithin mdX6_isWithin stX6_isWithin mkX6_42 ⟨(Nat.le_of_ble_eq_true rfl), (Nat.le_of_ble_eq_true rfl)⟩ (Nat.le_of_ble_eq_true rfl)) dX6_append_8 (by decide) rfl)) (kRi (M := mX6_append) (kC_ic (M := mX6_append) (v := (-1)) dX6_append_11 kc_iconst_m1) dX6_append_12) (kNop (M := mX6_append))) (kSeq (M := mX6_append) (kIf (M := mX6_append) (kB_geF (M := mX6_append) (kF (M := mX6_append) (kf := 1) (kRF (M := mX6_append) (kf := 2) (kR_n (M := mX6_append) dX6_append_13 rfl) dX6_append_14 clX6 lkX6_26 (by decide)) dX6_append_17 clX2 lkX6_103 (by decide)) (kC_bi (M := mX6_append) (v := 12) dX6_append_20 kc_bipush_12) dX6_append_22 (by decide) rfl) (kRi (M := mX6_append) (kC_bi (M := mX6_append) (v := (-3)) dX6_append_25 kc_bipush_m3) dX6_append_27) (kNop (M := mX6_append))) (kSeq (M := mX6_append) (ksCV (M := mX6_append) (ci := 2) (kRF (M := mX6_append) (kf := 2) (kR_n (M := mX6_append) dX6_append_28 rfl) dX6_append_29 clX6 lkX6_26 (by decide)) (kaI (M := mX6_append) (kL_n (M := mX6_append) dX6_append_32 rfl) (kaN (M := mX6_append))) dX6_append_33 ctX2_add mdX2_add imX2_add seX2_add clX2 mkX6_106 ⟨(Nat.le_of_ble_eq_true rfl), (Nat.le_of_ble_eq_true rfl)⟩) (kRi (M := mX6_append) (kF (M := mX6_append) (kf := 1) (kRF (M := mX6_append) (kf := 2) (kR_n (M := mX6_append) dX6_append_36 rfl) dX6_append_37 clX6 lkX6_26 (by decide)) dX6_append_40 clX2 lkX6_103 (by decide)) dX6_append_43))))
def fX6_append : zFI := mI bX6_append
theorem ctX6_append : CtI yX6_append cX6_append 2 .int 1 22 2 fX6_append := ctI mdX6_append (Nat.le_of_ble_eq_true rfl) kX6_append
/-! TrophyPlates.order -/
theorem mdX6_order : zMd yX6_order cX6_order 7 (some .int) 5 := ⟨cdX6_order, iniX6, ⟨by decide +kernel, by decide +kernel⟩, by decide +kernel, by decide +kernel⟩
def bX6_order : zSS := sSeq (sIf (bOr (bOr (bOr (bOr (bNot (bZ z_ne (eCV 5 (rF 6 0 (rL 0)) (aI (eL 1) (aN)) fX5_hasShield))) (bNot (bZ z_ne (eCS (aI (eL 2) (aN)) fX6_isYear)))) (bNot (bZ z_ne (eCS (aI (eL 3) (aN)) fX6_isSize)))) (bNot (bZ z_ne (eCS (aI (eL 4) (aN)) fX6_isDepth)))) (bNot (bZ z_ne (eCS (aI (eL 5) (aI (eC 0) (aI (eC 1) (aN)))) fX6_isWithin)))) (sRi (eC (-1))) sNop) (sSeq (sIf (bOr (bOr (bZ z_eq (eF 2 1 (rF 6 2 (rL 0)))) (bCmp o_ne (eCV 5 (rF 6 0 (rL 0)) (aI (eL 1) (aI (eL 2) (aN))) fX5_plateOfYear) (eC (-9)))) (bZ z_ne (eCV 5 (rF 6 0 (rL 0)) (aI (eL 1) (aI (eL 2) (aN))) fX5_isOrdered))) (sRi (eC (-2))) sNop) (sSeq (sIf (bCmp o_ge (eF 5 5 (rF 6 0 (rL 0))) (eC 10)) (sRi (eC (-3))) sNop) (sSeq (sCV 1 (rF 6 1 (rL 0)) (aR (rF 6 0 (rL 0)) (aN)) fX1_record) (sSeq (sLr 6 (rQ 3 (rF 5 2 (rF 6 0 (rL 0))) (eF 5 5 (rF 6 0 (rL 0))))) (sSeq (sCV 2 (rF 3 0 (rL 6)) (aR (rF 6 2 (rL 0)) (aN)) fX2_copyFrom) (sSeq (sF 3 1 (rL 6) (eL 1)) (sSeq (sF 3 2 (rL 6) (eL 2)) (sSeq (sF 3 3 (rL 6) (eL 3)) (sSeq (sF 3 4 (rL 6) (eL 4)) (sSeq (sFz 3 5 (rL 6) (eB (bCmp o_eq (eL 5) (eC 1)))) (sSeq (sF 2 1 (rF 6 2 (rL 0)) (eC 0)) (sRi (eCV 5 (rF 6 0 (rL 0)) (aN) fX5_takeInOrder)))))))))))))
abbrev mX6_order : zM := (cX6_order, RX6, 7, some .int, { frames := 4, cells := 0, slots := 0, locals := 86 }, false)
set_option maxHeartbeats 400000 in
set_option maxRecDepth 20000 in
theorem kX6_order : ssOk mX6_order 0 196 bX6_order := (kSeq (M := mX6_order) (kIf (M := mX6_order) (kBor (M := mX6_order) (kBor (M := mX6_order) (kBor (M := mX6_order) (kBor (M := mX6_order) (kBnot (M := mX6_order) (kZ_neF (M := mX6_order) (kCV (M := mX6_order) (ci := 5) (kRF (M := mX6_order) (kf := 0) (kR_n (M := mX6_order) dX6_order_0 rfl) dX6_order_1 clX6 lkX6_10 (by decide)) (kaI (M := mX6_order) (kL_n (M := mX6_order) dX6_order_4 rfl) (kaN (M := mX6_order))) dX6_order_5 ctX5_hasShield mdX5_hasShield imX5_hasShield seX5_hasShield clX5 mkX6_91 ⟨(Nat.le_of_ble_eq_true rfl), (Nat.le_of_ble_eq_true rfl)⟩ (Nat.le_of_ble_eq_true rfl)) dX6_order_8 (by decide) rfl)) (kBnot (M := mX6_order) (kZ_neF (M := mX6_order) (kCS (M := mX6_order) (kaI (M := mX6_order) (kL_n (M := mX6_order) dX6_order_11 rfl) (kaN (M := mX6_order))) dX6_order_12 ctX6_isYear mdX6_isYear stX6_isYear mkX6_94 ⟨(Nat.le_of_ble_eq_true rfl), (Nat.le_of_ble_eq_true rfl)⟩ (Nat.le_of_ble_eq_true rfl)) dX6_order_15 (by decide) rfl))) (kBnot (M := mX6_order) (kZ_neF (M := mX6_order) (kCS (M := mX6_order) (kaI (M := mX6_order) (kL_n (M := mX6_order) dX6_order_18 rfl) (kaN (M := mX6_order))) dX6_order_19 ctX6_isSize mdX6_isSize stX6_isSize mkX6_110 ⟨(Nat.le_of_ble_eq_true rfl), (Nat.le_of_ble_eq_true rfl)⟩ (Nat.le_of_ble_eq_true rfl)) dX6_order_22 (by decide) rfl))) (kBnot (M := mX6_order) (kZ_neF (M := mX6_order) (kCS (M := mX6_order) (kaI (M := mX6_order) (kL (M := mX6_order) dX6_order_25) (kaN (M := mX6_order))) dX6_order_27 ctX6_isDepth mdX6_isDepth stX6_isDepth mkX6_113 ⟨(Nat.le_of_ble_eq_true rfl), (Nat.le_of_ble_eq_true rfl)⟩ (Nat.le_of_ble_eq_true rfl)) dX6_order_30 (by decide) rfl))) (kBnot (M := mX6_order) (kZ_neT (M := mX6_order) (kCS (M := mX6_order) (kaI (M := mX6_order) (kL (M := mX6_order) dX6_order_33) (kaI (M := mX6_order) (kC_ic (M := mX6_order) (v := 0) dX6_order_35 kc_iconst_0) (kaI (M := mX6_order) (kC_ic (M := mX6_order) (v := 1) dX6_order_36 kc_iconst_1) (kaN (M := mX6_order))))) dX6_order_37 ctX6_isWithin mdX6_isWithin stX6_isWithin mkX6_42 ⟨(Nat.le_of_ble_eq_true rfl), (Nat.le_of_ble_eq_true rfl)⟩ (Nat.le_of_ble_eq_true rfl)) dX6_order_40 (by decide) rfl))) (kRi (M := mX6_order) (kC_ic (M := mX6_order) (v := (-1)) dX6_order_43 kc_iconst_m1) dX6_order_44) (kNop (M := mX6_order))) (kSeq (M := mX6_order) (kIf (M := mX6_order) (kBor (M := mX6_order) (kBor (M := mX6_order) (kZ_eqT (M := mX6_order) (kF (M := mX6_order) (kf := 1) (kRF (M := mX6_order) (kf := 2) (kR_n (M := mX6_order) dX6_order_45 rfl) dX6_order_46 clX6 lkX6_26 (by decide)) dX6_order_49 clX2 lkX6_103 (by decide)) dX6_order_52 (by decide) rfl) (kB_neT (M := mX6_order) (kCV (M := mX6_order) (ci := 5) (kRF (M := mX6_order) (kf := 0) (kR_n (M := mX6_order) dX6_order_55 rfl) dX6_order_56 clX6 lkX6_10 (by decide)) (kaI (M := mX6_order) (kL_n (M := mX6_order) dX6_order_59 rfl) (kaI (M := mX6_order) (kL_n (M := mX6_order) dX6_order_60 rfl) (kaN (M := mX6_order)))) dX6_order_61 ctX5_plateOfYear mdX5_plateOfYear imX5_plateOfYear seX5_plateOfYear clX5 mkX6_97 ⟨(Nat.le_of_ble_eq_true rfl), (Nat.le_of_ble_eq_true rfl)⟩ (Nat.le_of_ble_eq_true rfl)) (kC_bi (M := mX6_order) (v := (-9)) dX6_order_64 kc_bipush_m9) dX6_order_66 (by decide) rfl)) (kZ_neF (M := mX6_order) (kCV (M := mX6_order) (ci := 5) (kRF (M := mX6_order) (kf := 0) (kR_n (M := mX6_order) dX6_order_69 rfl) dX6_order_70 clX6 lkX6_10 (by decide)) (kaI (M := mX6_order) (kL_n (M := mX6_order) dX6_order_73 rfl) (kaI (M := mX6_order) (kL_n (M := mX6_order) dX6_order_74 rfl) (kaN (M := mX6_order)))) dX6_order_75 ctX5_isOrdered mdX5_isOrdered imX5_isOrdered seX5_isOrdered clX5 mkX6_116 ⟨(Nat.le_of_ble_eq_true rfl), (Nat.le_of_ble_eq_true rfl)⟩ (Nat.le_of_ble_eq_true rfl)) dX6_order_78 (by decide) rfl)) (kRi (M := mX6_order) (kC_bi (M := mX6_order) (v := (-2)) dX6_order_81 kc_bipush_m2) dX6_order_83) (kNop (M := mX6_order))) (kSeq (M := mX6_order) (kIf (M := mX6_order) (kB_geF (M := mX6_order) (kF (M := mX6_order) (kf := 5) (kRF (M := mX6_order) (kf := 0) (kR_n (M := mX6_order) dX6_order_84 rfl) dX6_order_85 clX6 lkX6_10 (by decide)) dX6_order_88 clX5 lkX6_119 (by decide)) (kC_bi (M := mX6_order) (v := 10) dX6_order_91 kc_bipush_10) dX6_order_93 (by decide) rfl) (kRi (M := mX6_order) (kC_bi (M := mX6_order) (v := (-3)) dX6_order_96 kc_bipush_m3) dX6_order_98) (kNop (M := mX6_order))) (kSeq (M := mX6_order) (ksCV (M := mX6_order) (ci := 1) (kRF (M := mX6_order) (kf := 1) (kR_n (M := mX6_order) dX6_order_99 rfl) dX6_order_100 clX6 lkX6_19 (by decide)) (kaR (M := mX6_order) (kRF (M := mX6_order) (kf := 0) (kR_n (M := mX6_order) dX6_order_103 rfl) dX6_order_104 clX6 lkX6_10 (by decide)) (kaN (M := mX6_order))) dX6_order_107 ctX1_record mdX1_record imX1_record seX1_record clX1 mkX6_50 ⟨(Nat.le_of_ble_eq_true rfl), (Nat.le_of_ble_eq_true rfl)⟩) (kSeq (M := mX6_order) (kSr (M := mX6_order) (kQ (M := mX6_order) (ci := 3) (kRF (M := mX6_order) (kf := 2) (kRF (M := mX6_order) (kf := 0) (kR_n (M := mX6_order) dX6_order_110 rfl) dX6_order_111 clX6 lkX6_10 (by decide)) dX6_order_114 clX5 lkX6_122 (by decide)) (kF (M := mX6_order) (kf := 5) (kRF (M := mX6_order) (kf := 0) (kR_n (M := mX6_order) dX6_order_117 rfl) dX6_order_118 clX6 lkX6_10 (by decide)) dX6_order_121 clX5 lkX6_119 (by decide)) dX6_order_124 (by first | exact Or.inl ⟨rfl, rfl⟩ | exact Or.inr (Or.inl ⟨rfl, rfl⟩) | exact Or.inr (Or.inr ⟨rfl, rfl⟩))) dX6_order_125 (by decide)) (kSeq (M := mX6_order) (ksCV (M := mX6_order) (ci := 2) (kRF (M := mX6_order) (kf := 0) (kR (M := mX6_order) dX6_order_127) dX6_order_129 clX3 lkX6_126 (by decide)) (kaR (M := mX6_order) (kRF (M := mX6_order) (kf := 2) (kR_n (M := mX6_order) dX6_order_132 rfl) dX6_order_133 clX6 lkX6_26 (by decide)) (kaN (M := mX6_order))) dX6_order_136 ctX2_copyFrom mdX2_copyFrom imX2_copyFrom seX2_copyFrom clX2 mkX6_131 ⟨(Nat.le_of_ble_eq_true rfl), (Nat.le_of_ble_eq_true rfl)⟩) (kSeq (M := mX6_order) (kPF (M := mX6_order) (kf := 1) (kR (M := mX6_order) dX6_order_139) (kL_n (M := mX6_order) dX6_order_141 rfl) dX6_order_142 clX3 lkX6_135 (by decide) rfl rfl) (kSeq (M := mX6_order) (kPF (M := mX6_order) (kf := 2) (kR (M := mX6_order) dX6_order_145) (kL_n (M := mX6_order) dX6_order_147 rfl) dX6_order_148 clX3 lkX6_138 (by decide) rfl rfl) (kSeq (M := mX6_order) (kPF (M := mX6_order) (kf := 3) (kR (M := mX6_order) dX6_order_151) (kL_n (M := mX6_order) dX6_order_153 rfl) dX6_order_154 clX3 lkX6_141 (by decide) rfl rfl) (kSeq (M := mX6_order) (kPF (M := mX6_order) (kf := 4) (kR (M := mX6_order) dX6_order_157) (kL (M := mX6_order) dX6_order_159) dX6_order_161 clX3 lkX6_144 (by decide) rfl rfl) (kSeq (M := mX6_order) (kPFz (M := mX6_order) (kf := 5) (kR (M := mX6_order) dX6_order_164) (kEB (M := mX6_order) (kB_eqF (M := mX6_order) (kL (M := mX6_order) dX6_order_166) (kC_ic (M := mX6_order) (v := 1) dX6_order_168 kc_iconst_1) dX6_order_169 (by decide) rfl) dX6_order_172 dX6_order_173 (by decide) dX6_order_176 rfl) dX6_order_177 clX3 lkX6_147 (by decide) rfl rfl) (kSeq (M := mX6_order) (kPF (M := mX6_order) (kf := 1) (kRF (M := mX6_order) (kf := 2) (kR_n (M := mX6_order) dX6_order_180 rfl) dX6_order_181 clX6 lkX6_26 (by decide)) (kC_ic (M := mX6_order) (v := 0) dX6_order_184 kc_iconst_0) dX6_order_185 clX2 lkX6_103 (by decide) rfl rfl) (kRi (M := mX6_order) (kCV (M := mX6_order) (ci := 5) (kRF (M := mX6_order) (kf := 0) (kR_n (M := mX6_order) dX6_order_188 rfl) dX6_order_189 clX6 lkX6_10 (by decide)) (kaN (M := mX6_order)) dX6_order_192 ctX5_takeInOrder mdX5_takeInOrder imX5_takeInOrder seX5_takeInOrder clX5 mkX6_151 ⟨(Nat.le_of_ble_eq_true rfl), (Nat.le_of_ble_eq_true rfl)⟩ (Nat.le_of_ble_eq_true rfl)) dX6_order_195)))))))))))))
def fX6_order : zFI := mI bX6_order
theorem ctX6_order : CtI yX6_order cX6_order 7 .int 4 86 6 fX6_order := ctI mdX6_order (Nat.le_of_ble_eq_true rfl) kX6_order
/-! TrophyPlates.work -/
theorem mdX6_work : zMd yX6_work cX6_work 2 (some .int) 1 := ⟨cdX6_work, iniX6, ⟨by decide +kernel, by decide +kernel⟩, by decide +kernel, by decide +kernel⟩
def bX6_work : zSS := sSeq (sIf (bNot (bZ z_ne (eCS (aI (eL 1) (aI (eC 1) (aI (eC 600) (aN)))) fX6_isWithin))) (sRi (eC (-1))) sNop) (sSeq (sCV 1 (rF 6 1 (rL 0)) (aR (rF 6 0 (rL 0)) (aN)) fX1_record) (sRi (eCV 5 (rF 6 0 (rL 0)) (aI (eL 1) (aN)) fX5_spendMinutes)))
abbrev mX6_work : zM := (cX6_work, RX6, 2, some .int, { frames := 7, cells := 0, slots := 0, locals := 161 }, false)
set_option maxHeartbeats 400000 in
set_option maxRecDepth 20000 in
theorem kX6_work : ssOk mX6_work 0 33 bX6_work := (kSeq (M := mX6_work) (kIf (M := mX6_work) (kBnot (M := mX6_work) (kZ_neT (M := mX6_work) (kCS (M := mX6_work) (kaI (M := mX6_work) (kL_n (M := mX6_work) dX6_work_0 rfl) (kaI (M := mX6_work) (kC_ic (M := mX6_work) (v := 1) dX6_work_1 kc_iconst_1) (kaI (M := mX6_work) (kC_si (M := mX6_work) (v := 600) dX6_work_2 kc_sipush_600) (kaN (M := mX6_work))))) dX6_work_5 ctX6_isWithin mdX6_isWithin stX6_isWithin mkX6_42 ⟨(Nat.le_of_ble_eq_true rfl), (Nat.le_of_ble_eq_true rfl)⟩ (Nat.le_of_ble_eq_true rfl)) dX6_work_8 (by decide) rfl)) (kRi (M := mX6_work) (kC_ic (M := mX6_work) (v := (-1)) dX6_work_11 kc_iconst_m1) dX6_work_12) (kNop (M := mX6_work))) (kSeq (M := mX6_work) (ksCV (M := mX6_work) (ci := 1) (kRF (M := mX6_work) (kf := 1) (kR_n (M := mX6_work) dX6_work_13 rfl) dX6_work_14 clX6 lkX6_19 (by decide)) (kaR (M := mX6_work) (kRF (M := mX6_work) (kf := 0) (kR_n (M := mX6_work) dX6_work_17 rfl) dX6_work_18 clX6 lkX6_10 (by decide)) (kaN (M := mX6_work))) dX6_work_21 ctX1_record mdX1_record imX1_record seX1_record clX1 mkX6_50 ⟨(Nat.le_of_ble_eq_true rfl), (Nat.le_of_ble_eq_true rfl)⟩) (kRi (M := mX6_work) (kCV (M := mX6_work) (ci := 5) (kRF (M := mX6_work) (kf := 0) (kR_n (M := mX6_work) dX6_work_24 rfl) dX6_work_25 clX6 lkX6_10 (by decide)) (kaI (M := mX6_work) (kL_n (M := mX6_work) dX6_work_28 rfl) (kaN (M := mX6_work))) dX6_work_29 ctX5_spendMinutes mdX5_spendMinutes imX5_spendMinutes seX5_spendMinutes clX5 mkX6_164 ⟨(Nat.le_of_ble_eq_true rfl), (Nat.le_of_ble_eq_true rfl)⟩ (Nat.le_of_ble_eq_true rfl)) dX6_work_32)))
def fX6_work : zFI := mI bX6_work
theorem ctX6_work : CtI yX6_work cX6_work 2 .int 7 161 2 fX6_work := ctI mdX6_work (Nat.le_of_ble_eq_true rfl) kX6_work
/-! TrophyPlates.plateFor -/
theorem mdX6_plateFor : zMd yX6_plateFor cX6_plateFor 3 (some .int) 2 := ⟨cdX6_plateFor, iniX6, ⟨by decide +kernel, by decide +kernel⟩, by decide +kernel, by decide +kernel⟩
def bX6_plateFor : zSS := sSeq (sIf (bOr (bNot (bZ z_ne (eCV 5 (rF 6 0 (rL 0)) (aI (eL 1) (aN)) fX5_hasShield))) (bNot (bZ z_ne (eCS (aI (eL 2) (aN)) fX6_isYear)))) (sRi (eC (-1))) sNop) (sRi (eCV 5 (rF 6 0 (rL 0)) (aI (eL 1) (aI (eL 2) (aN))) fX5_plateOfYear))
abbrev mX6_plateFor : zM := (cX6_plateFor, RX6, 3, some .int, { frames := 2, cells := 0, slots := 0, locals := 42 }, false)
set_option maxHeartbeats 400000 in
set_option maxRecDepth 20000 in
theorem kX6_plateFor : ssOk mX6_plateFor 0 30 bX6_plateFor := (kSeq (M := mX6_plateFor) (kIf (M := mX6_plateFor) (kBor (M := mX6_plateFor) (kBnot (M := mX6_plateFor) (kZ_neF (M := mX6_plateFor) (kCV (M := mX6_plateFor) (ci := 5) (kRF (M := mX6_plateFor) (kf := 0) (kR_n (M := mX6_plateFor) dX6_plateFor_0 rfl) dX6_plateFor_1 clX6 lkX6_10 (by decide)) (kaI (M := mX6_plateFor) (kL_n (M := mX6_plateFor) dX6_plateFor_4 rfl) (kaN (M := mX6_plateFor))) dX6_plateFor_5 ctX5_hasShield mdX5_hasShield imX5_hasShield seX5_hasShield clX5 mkX6_91 ⟨(Nat.le_of_ble_eq_true rfl), (Nat.le_of_ble_eq_true rfl)⟩ (Nat.le_of_ble_eq_true rfl)) dX6_plateFor_8 (by decide) rfl)) (kBnot (M := mX6_plateFor) (kZ_neT (M := mX6_plateFor) (kCS (M := mX6_plateFor) (kaI (M := mX6_plateFor) (kL_n (M := mX6_plateFor) dX6_plateFor_11 rfl) (kaN (M := mX6_plateFor))) dX6_plateFor_12 ctX6_isYear mdX6_isYear stX6_isYear mkX6_94 ⟨(Nat.le_of_ble_eq_true rfl), (Nat.le_of_ble_eq_true rfl)⟩ (Nat.le_of_ble_eq_true rfl)) dX6_plateFor_15 (by decide) rfl))) (kRi (M := mX6_plateFor) (kC_ic (M := mX6_plateFor) (v := (-1)) dX6_plateFor_18 kc_iconst_m1) dX6_plateFor_19) (kNop (M := mX6_plateFor))) (kRi (M := mX6_plateFor) (kCV (M := mX6_plateFor) (ci := 5) (kRF (M := mX6_plateFor) (kf := 0) (kR_n (M := mX6_plateFor) dX6_plateFor_20 rfl) dX6_plateFor_21 clX6 lkX6_10 (by decide)) (kaI (M := mX6_plateFor) (kL_n (M := mX6_plateFor) dX6_plateFor_24 rfl) (kaI (M := mX6_plateFor) (kL_n (M := mX6_plateFor) dX6_plateFor_25 rfl) (kaN (M := mX6_plateFor)))) dX6_plateFor_26 ctX5_plateOfYear mdX5_plateOfYear imX5_plateOfYear seX5_plateOfYear clX5 mkX6_97 ⟨(Nat.le_of_ble_eq_true rfl), (Nat.le_of_ble_eq_true rfl)⟩ (Nat.le_of_ble_eq_true rfl)) dX6_plateFor_29))
def fX6_plateFor : zFI := mI bX6_plateFor
theorem ctX6_plateFor : CtI yX6_plateFor cX6_plateFor 3 .int 2 42 3 fX6_plateFor := ctI mdX6_plateFor (Nat.le_of_ble_eq_true rfl) kX6_plateFor
/-! TrophyPlates.lengthOf -/
theorem mdX6_lengthOf : zMd yX6_lengthOf cX6_lengthOf 2 (some .int) 1 := ⟨cdX6_lengthOf, iniX6, ⟨by decide +kernel, by decide +kernel⟩, by decide +kernel, by decide +kernel⟩
def bX6_lengthOf : zSS := sRi (eT (bZ z_ne (eCS (aI (eL 1) (aN)) fX6_isSize)) (eCV 2 (rF 6 2 (rL 0)) (aI (eL 1) (aN)) fX2_lengthIn) (eC (-1)))
abbrev mX6_lengthOf : zM := (cX6_lengthOf, RX6, 2, some .int, { frames := 2, cells := 0, slots := 0, locals := 44 }, false)
set_option maxHeartbeats 400000 in
set_option maxRecDepth 20000 in
theorem kX6_lengthOf : ssOk mX6_lengthOf 0 20 bX6_lengthOf := (kRi (M := mX6_lengthOf) (kT (M := mX6_lengthOf) (kZ_neF (M := mX6_lengthOf) (kCS (M := mX6_lengthOf) (kaI (M := mX6_lengthOf) (kL_n (M := mX6_lengthOf) dX6_lengthOf_0 rfl) (kaN (M := mX6_lengthOf))) dX6_lengthOf_1 ctX6_isSize mdX6_isSize stX6_isSize mkX6_110 ⟨(Nat.le_of_ble_eq_true rfl), (Nat.le_of_ble_eq_true rfl)⟩ (Nat.le_of_ble_eq_true rfl)) dX6_lengthOf_4 (by decide) rfl) (kCV (M := mX6_lengthOf) (ci := 2) (kRF (M := mX6_lengthOf) (kf := 2) (kR_n (M := mX6_lengthOf) dX6_lengthOf_7 rfl) dX6_lengthOf_8 clX6 lkX6_26 (by decide)) (kaI (M := mX6_lengthOf) (kL_n (M := mX6_lengthOf) dX6_lengthOf_11 rfl) (kaN (M := mX6_lengthOf))) dX6_lengthOf_12 ctX2_lengthIn mdX2_lengthIn imX2_lengthIn seX2_lengthIn clX2 mkX6_237 ⟨(Nat.le_of_ble_eq_true rfl), (Nat.le_of_ble_eq_true rfl)⟩ (Nat.le_of_ble_eq_true rfl)) dX6_lengthOf_15 (by decide) (kC_ic (M := mX6_lengthOf) (v := (-1)) dX6_lengthOf_18 kc_iconst_m1)) dX6_lengthOf_19)
def fX6_lengthOf : zFI := mI bX6_lengthOf
theorem ctX6_lengthOf : CtI yX6_lengthOf cX6_lengthOf 2 .int 2 44 2 fX6_lengthOf := ctI mdX6_lengthOf (Nat.le_of_ble_eq_true rfl) kX6_lengthOf
end
section
/-! TrophyPlatesLaw.cell -/
theorem mdL_cell : zMd yL_cell cL_cell 2 (some .int) 2 := ⟨cdL_cell, iniL, ⟨by decide +kernel, by decide +kernel⟩, by decide +kernel, by decide +kernel⟩
def bL_cell : zSS := sRi (eT (bCmp o_lt (eL 1) (eSL (rL 0))) (eS (rL 0) (eL 1)) (eOp (· * ·) (eOp (· * ·) (eC 7919) (eOp (· + ·) (eL 1) (eC 3))) (eOp (· + ·) (eL 1) (eC 11))))
abbrev mL_cell : zM := (cL_cell, RL, 2, some .int, { frames := 0, cells := 0, slots := 0, locals := 0 }, false)
set_option maxHeartbeats 400000 in
set_option maxRecDepth 20000 in
theorem kL_cell : ssOk mL_cell 0 25 bL_cell := (kRi (M := mL_cell) (kT (M := mL_cell) (kB_ltF (M := mL_cell) (kL_n (M := mL_cell) dL_cell_0 rfl) (kSL (M := mL_cell) (kR_n (M := mL_cell) dL_cell_1 rfl) dL_cell_2) dL_cell_3 (by decide) rfl) (kS (M := mL_cell) (kR_n (M := mL_cell) dL_cell_6 rfl) (kL_n (M := mL_cell) dL_cell_7 rfl) dL_cell_8) dL_cell_9 (by decide) (kMul (M := mL_cell) (kMul (M := mL_cell) (kC_si (M := mL_cell) (v := 7919) dL_cell_12 kc_sipush_7919) (kAdd (M := mL_cell) (kL_n (M := mL_cell) dL_cell_15 rfl) (kC_ic (M := mL_cell) (v := 3) dL_cell_16 kc_iconst_3) dL_cell_17) dL_cell_18) (kAdd (M := mL_cell) (kL_n (M := mL_cell) dL_cell_19 rfl) (kC_bi (M := mL_cell) (v := 11) dL_cell_20 kc_bipush_11) dL_cell_22) dL_cell_23)) dL_cell_24)
def fL_cell : zFI := mI bL_cell
theorem ctL_cell : CtI yL_cell cL_cell 2 .int 0 0 2 fL_cell := ctI mdL_cell (Nat.le_of_ble_eq_true rfl) kL_cell
/-! TrophyPlatesLaw.low -/
theorem mdL_low : zMd yL_low cL_low 2 (some .int) 2 := ⟨cdL_low, iniL, ⟨by decide +kernel, by decide +kernel⟩, by decide +kernel, by decide +kernel⟩
def bL_low : zSS := sRi (eRem (eOp (· &&& ·) (eL 0) (eC 2147483647)) (eL 1))
abbrev mL_low : zM := (cL_low, RL, 2, some .int, { frames := 0, cells := 0, slots := 0, locals := 0 }, false)
set_option maxHeartbeats 400000 in
set_option maxRecDepth 20000 in
theorem kL_low : ssOk mL_low 0 7 bL_low := (kRi (M := mL_low) (kRem (M := mL_low) (kAnd (M := mL_low) (kL_n (M := mL_low) dL_low_0 rfl) (kC_ldc (M := mL_low) dL_low_1 ckL_7) dL_low_3) (kL_n (M := mL_low) dL_low_4 rfl) dL_low_5) dL_low_6)
def fL_low : zFI := mI bL_low
theorem ctL_low : CtI yL_low cL_low 2 .int 0 0 2 fL_low := ctI mdL_low (Nat.le_of_ble_eq_true rfl) kL_low
/-! TrophyPlatesLaw.digest -/
theorem mdL_digest : zMd yL_digest cL_digest 5 (some .long) 1 := ⟨cdL_digest, iniL, ⟨by decide +kernel, by decide +kernel⟩, by decide +kernel, by decide +kernel⟩
def bL_digest : zSS := sSeq (sLj 1 (jC 13)) (sSeq (sBlk (sSeq (sLi 3 (eC 0)) (sW 4000 (bCmp o_lt (eL 3) (eC 14)) (sSeq (sLj 1 (jOp (· + ·) (jOp (· * ·) (jC 31) (jL 1)) (jI (eCV 6 (rL 0) (aI (eL 3) (aN)) fX6_count)))) (sInc 3 1))))) (sSeq (sBlk (sSeq (sLi 3 (eC 0)) (sW 4000 (bCmp o_lt (eL 3) (eCV 6 (rL 0) (aI (eC 4) (aN)) fX6_count)) (sSeq (sBlk (sSeq (sLi 4 (eC 0)) (sW 4000 (bCmp o_lt (eL 4) (eC 7)) (sSeq (sLj 1 (jOp (· + ·) (jOp (· * ·) (jC 31) (jL 1)) (jI (eCV 6 (rL 0) (aI (eL 3) (aI (eL 4) (aN))) fX6_plate)))) (sInc 4 1))))) (sInc 3 1))))) (sSeq (sBlk (sSeq (sLi 3 (eC 0)) (sW 4000 (bCmp o_lt (eL 3) (eCV 6 (rL 0) (aI (eC 6) (aN)) fX6_count)) (sSeq (sSeq (sBlk (sSeq (sLi 4 (eC 0)) (sW 4000 (bCmp o_lt (eL 4) (eC 8)) (sSeq (sLj 1 (jOp (· + ·) (jOp (· * ·) (jC 31) (jL 1)) (jI (eCV 6 (rL 0) (aI (eL 3) (aI (eL 4) (aN))) fX6_orderOf)))) (sInc 4 1))))) (sLj 1 (jOp (· + ·) (jOp (· + ·) (jOp (· * ·) (jC 31) (jL 1)) (jI (eCV 6 (rL 0) (aI (eL 3) (aI (eC 0) (aN))) fX6_letter))) (jOp (· * ·) (jC 97) (jI (eCV 6 (rL 0) (aI (eL 3) (aI (eC 1) (aN))) fX6_letter)))))) (sInc 3 1))))) (sBlk (sSeq (sLi 3 (eC 0)) (sW 4000 (bCmp o_lt (eL 3) (eCV 6 (rL 0) (aI (eC 5) (aN)) fX6_count)) (sSeq (sBlk (sSeq (sLi 4 (eC 0)) (sW 4000 (bCmp o_lt (eL 4) (eC 5)) (sSeq (sLj 1 (jOp (· + ·) (jOp (· * ·) (jC 31) (jL 1)) (jI (eCV 6 (rL 0) (aI (eL 3) (aI (eL 4) (aN))) fX6_shield)))) (sInc 4 1))))) (sInc 3 1))))))))
abbrev mL_digest : zM := (cL_digest, RL, 5, some .long, { frames := 4, cells := 0, slots := 0, locals := 87 }, false)
set_option maxHeartbeats 400000 in
set_option maxRecDepth 20000 in
theorem kL_digest : ssOk mL_digest 0 201 bL_digest := (kSeq (M := mL_digest) (kSj_n (M := mL_digest) (kJC (M := mL_digest) dL_digest_0 cjL_8) dL_digest_3 rfl (by decide)) (kSeq (M := mL_digest) (kBlk (M := mL_digest) (kSeq (M := mL_digest) (kSi_n (M := mL_digest) (kC_ic (M := mL_digest) (v := 0) dL_digest_4 kc_iconst_0) dL_digest_5 rfl (by decide)) (kWn (M := mL_digest) (N := 4000) (kB_ltF (M := mL_digest) (kL_n (M := mL_digest) dL_digest_6 rfl) (kC_bi (M := mL_digest) (v := 14) dL_digest_7 kc_bipush_14) dL_digest_9 (by decide) rfl) (kGo (M := mL_digest) (kSeq (M := mL_digest) (kSj_n (M := mL_digest) (kJAdd (M := mL_digest) (kJMul (M := mL_digest) (kJC (M := mL_digest) dL_digest_12 cjL_10) (kJL_n (M := mL_digest) dL_digest_15 rfl) dL_digest_16) (kJI (M := mL_digest) (kCV (M := mL_digest) (ci := 6) (kR_n (M := mL_digest) dL_digest_17 rfl) (kaI (M := mL_digest) (kL_n (M := mL_digest) dL_digest_18 rfl) (kaN (M := mL_digest))) dL_digest_19 ctX6_count mdX6_count imX6_count seX6_count clX6 mkL_12 ⟨(Nat.le_of_ble_eq_true rfl), (Nat.le_of_ble_eq_true rfl)⟩ (Nat.le_of_ble_eq_true rfl)) dL_digest_22) dL_digest_23) dL_digest_24 rfl (by decide)) (kInc (M := mL_digest) (v := 1) dL_digest_25 kc_iconst_1 (by decide))) dL_digest_28 (by decide))))) (kSeq (M := mL_digest) (kBlk (M := mL_digest) (kSeq (M := mL_digest) (kSi_n (M := mL_digest) (kC_ic (M := mL_digest) (v := 0) dL_digest_31 kc_iconst_0) dL_digest_32 rfl (by decide)) (kWn (M := mL_digest) (N := 4000) (kB_ltF (M := mL_digest) (kL_n (M := mL_digest) dL_digest_33 rfl) (kCV (M := mL_digest) (ci := 6) (kR_n (M := mL_digest) dL_digest_34 rfl) (kaI (M := mL_digest) (kC_ic (M := mL_digest) (v := 4) dL_digest_35 kc_iconst_4) (kaN (M := mL_digest))) dL_digest_36 ctX6_count mdX6_count imX6_count seX6_count clX6 mkL_12 ⟨(Nat.le_of_ble_eq_true rfl), (Nat.le_of_ble_eq_true rfl)⟩ (Nat.le_of_ble_eq_true rfl)) dL_digest_39 (by decide) rfl) (kGo (M := mL_digest) (kSeq (M := mL_digest) (kBlk (M := mL_digest) (kSeq (M := mL_digest) (kSi (M := mL_digest) (kC_ic (M := mL_digest) (v := 0) dL_digest_42 kc_iconst_0) dL_digest_43 (by decide)) (kWn (M := mL_digest) (N := 4000) (kB_ltF (M := mL_digest) (kL (M := mL_digest) dL_digest_45) (kC_bi (M := mL_digest) (v := 7) dL_digest_47 kc_bipush_7) dL_digest_49 (by decide) rfl) (kGo (M := mL_digest) (kSeq (M := mL_digest) (kSj_n (M := mL_digest) (kJAdd (M := mL_digest) (kJMul (M := mL_digest) (kJC (M := mL_digest) dL_digest_52 cjL_10) (kJL_n (M := mL_digest) dL_digest_55 rfl) dL_digest_56) (kJI (M := mL_digest) (kCV (M := mL_digest) (ci := 6) (kR_n (M := mL_digest) dL_digest_57 rfl) (kaI (M := mL_digest) (kL_n (M := mL_digest) dL_digest_58 rfl) (kaI (M := mL_digest) (kL (M := mL_digest) dL_digest_59) (kaN (M := mL_digest)))) dL_digest_61 ctX6_plate mdX6_plate imX6_plate seX6_plate clX6 mkL_18 ⟨(Nat.le_of_ble_eq_true rfl), (Nat.le_of_ble_eq_true rfl)⟩ (Nat.le_of_ble_eq_true rfl)) dL_digest_64) dL_digest_65) dL_digest_66 rfl (by decide)) (kInc (M := mL_digest) (v := 1) dL_digest_67 kc_iconst_1 (by decide))) dL_digest_70 (by decide))))) (kInc (M := mL_digest) (v := 1) dL_digest_73 kc_iconst_1 (by decide))) dL_digest_76 (by decide))))) (kSeq (M := mL_digest) (kBlk (M := mL_digest) (kSeq (M := mL_digest) (kSi_n (M := mL_digest) (kC_ic (M := mL_digest) (v := 0) dL_digest_79 kc_iconst_0) dL_digest_80 rfl (by decide)) (kWn (M := mL_digest) (N := 4000) (kB_ltF (M := mL_digest) (kL_n (M := mL_digest) dL_digest_81 rfl) (kCV (M := mL_digest) (ci := 6) (kR_n (M := mL_digest) dL_digest_82 rfl) (kaI (M := mL_digest) (kC_bi (M := mL_digest) (v := 6) dL_digest_83 kc_bipush_6) (kaN (M := mL_digest))) dL_digest_85 ctX6_count mdX6_count imX6_count seX6_count clX6 mkL_12 ⟨(Nat.le_of_ble_eq_true rfl), (Nat.le_of_ble_eq_true rfl)⟩ (Nat.le_of_ble_eq_true rfl)) dL_digest_88 (by decide) rfl) (kGo (M := mL_digest) (kSeq (M := mL_digest) (kSeq (M := mL_digest) (kBlk (M := mL_digest) (kSeq (M := mL_digest) (kSi (M := mL_digest) (kC_ic (M := mL_digest) (v := 0) dL_digest_91 kc_iconst_0) dL_digest_92 (by decide)) (kWn (M := mL_digest) (N := 4000) (kB_ltF (M := mL_digest) (kL (M := mL_digest) dL_digest_94) (kC_bi (M := mL_digest) (v := 8) dL_digest_96 kc_bipush_8) dL_digest_98 (by decide) rfl) (kGo (M := mL_digest) (kSeq (M := mL_digest) (kSj_n (M := mL_digest) (kJAdd (M := mL_digest) (kJMul (M := mL_digest) (kJC (M := mL_digest) dL_digest_101 cjL_10) (kJL_n (M := mL_digest) dL_digest_104 rfl) dL_digest_105) (kJI (M := mL_digest) (kCV (M := mL_digest) (ci := 6) (kR_n (M := mL_digest) dL_digest_106 rfl) (kaI (M := mL_digest) (kL_n (M := mL_digest) dL_digest_107 rfl) (kaI (M := mL_digest) (kL (M := mL_digest) dL_digest_108) (kaN (M := mL_digest)))) dL_digest_110 ctX6_orderOf mdX6_orderOf imX6_orderOf seX6_orderOf clX6 mkL_22 ⟨(Nat.le_of_ble_eq_true rfl), (Nat.le_of_ble_eq_true rfl)⟩ (Nat.le_of_ble_eq_true rfl)) dL_digest_113) dL_digest_114) dL_digest_115 rfl (by decide)) (kInc (M := mL_digest) (v := 1) dL_digest_116 kc_iconst_1 (by decide))) dL_digest_119 (by decide))))) (kSj_n (M := mL_digest) (kJAdd (M := mL_digest) (kJAdd (M := mL_digest) (kJMul (M := mL_digest) (kJC (M := mL_digest) dL_digest_122 cjL_10) (kJL_n (M := mL_digest) dL_digest_125 rfl) dL_digest_126) (kJI (M := mL_digest) (kCV (M := mL_digest) (ci := 6) (kR_n (M := mL_digest) dL_digest_127 rfl) (kaI (M := mL_digest) (kL_n (M := mL_digest) dL_digest_128 rfl) (kaI (M := mL_digest) (kC_ic (M := mL_digest) (v := 0) dL_digest_129 kc_iconst_0) (kaN (M := mL_digest)))) dL_digest_130 ctX6_letter mdX6_letter imX6_letter seX6_letter clX6 mkL_25 ⟨(Nat.le_of_ble_eq_true rfl), (Nat.le_of_ble_eq_true rfl)⟩ (Nat.le_of_ble_eq_true rfl)) dL_digest_133) dL_digest_134) (kJMul (M := mL_digest) (kJC (M := mL_digest) dL_digest_135 cjL_28) (kJI (M := mL_digest) (kCV (M := mL_digest) (ci := 6) (kR_n (M := mL_digest) dL_digest_138 rfl) (kaI (M := mL_digest) (kL_n (M := mL_digest) dL_digest_139 rfl) (kaI (M := mL_digest) (kC_ic (M := mL_digest) (v := 1) dL_digest_140 kc_iconst_1) (kaN (M := mL_digest)))) dL_digest_141 ctX6_letter mdX6_letter imX6_letter seX6_letter clX6 mkL_25 ⟨(Nat.le_of_ble_eq_true rfl), (Nat.le_of_ble_eq_true rfl)⟩ (Nat.le_of_ble_eq_true rfl)) dL_digest_144) dL_digest_145) dL_digest_146) dL_digest_147 rfl (by decide))) (kInc (M := mL_digest) (v := 1) dL_digest_148 kc_iconst_1 (by decide))) dL_digest_151 (by decide))))) (kBlk (M := mL_digest) (kSeq (M := mL_digest) (kSi_n (M := mL_digest) (kC_ic (M := mL_digest) (v := 0) dL_digest_154 kc_iconst_0) dL_digest_155 rfl (by decide)) (kWn (M := mL_digest) (N := 4000) (kB_ltF (M := mL_digest) (kL_n (M := mL_digest) dL_digest_156 rfl) (kCV (M := mL_digest) (ci := 6) (kR_n (M := mL_digest) dL_digest_157 rfl) (kaI (M := mL_digest) (kC_ic (M := mL_digest) (v := 5) dL_digest_158 kc_iconst_5) (kaN (M := mL_digest))) dL_digest_159 ctX6_count mdX6_count imX6_count seX6_count clX6 mkL_12 ⟨(Nat.le_of_ble_eq_true rfl), (Nat.le_of_ble_eq_true rfl)⟩ (Nat.le_of_ble_eq_true rfl)) dL_digest_162 (by decide) rfl) (kGo (M := mL_digest) (kSeq (M := mL_digest) (kBlk (M := mL_digest) (kSeq (M := mL_digest) (kSi (M := mL_digest) (kC_ic (M := mL_digest) (v := 0) dL_digest_165 kc_iconst_0) dL_digest_166 (by decide)) (kWn (M := mL_digest) (N := 4000) (kB_ltF (M := mL_digest) (kL (M := mL_digest) dL_digest_168) (kC_ic (M := mL_digest) (v := 5) dL_digest_170 kc_iconst_5) dL_digest_171 (by decide) rfl) (kGo (M := mL_digest) (kSeq (M := mL_digest) (kSj_n (M := mL_digest) (kJAdd (M := mL_digest) (kJMul (M := mL_digest) (kJC (M := mL_digest) dL_digest_174 cjL_10) (kJL_n (M := mL_digest) dL_digest_177 rfl) dL_digest_178) (kJI (M := mL_digest) (kCV (M := mL_digest) (ci := 6) (kR_n (M := mL_digest) dL_digest_179 rfl) (kaI (M := mL_digest) (kL_n (M := mL_digest) dL_digest_180 rfl) (kaI (M := mL_digest) (kL (M := mL_digest) dL_digest_181) (kaN (M := mL_digest)))) dL_digest_183 ctX6_shield mdX6_shield imX6_shield seX6_shield clX6 mkL_30 ⟨(Nat.le_of_ble_eq_true rfl), (Nat.le_of_ble_eq_true rfl)⟩ (Nat.le_of_ble_eq_true rfl)) dL_digest_186) dL_digest_187) dL_digest_188 rfl (by decide)) (kInc (M := mL_digest) (v := 1) dL_digest_189 kc_iconst_1 (by decide))) dL_digest_192 (by decide))))) (kInc (M := mL_digest) (v := 1) dL_digest_195 kc_iconst_1 (by decide))) dL_digest_198 (by decide)))))))))
def jL_digest : zEJ := jL 1
theorem kjL_digest : elOk mL_digest 0 201 202 jL_digest := (kJL_n (M := mL_digest) dL_digest_201 rfl)
def fL_digest : zFJ := mJ bL_digest jL_digest
theorem ctL_digest : CtJ yL_digest cL_digest 5 4 87 1 fL_digest := ctJ mdL_digest (Nat.le_of_ble_eq_true rfl) kL_digest kjL_digest dL_digest_202
/-! TrophyPlatesLaw.act -/
theorem mdL_act : zMd yL_act cL_act 5 (some .int) 2 := ⟨cdL_act, iniL, ⟨by decide +kernel, by decide +kernel⟩, by decide +kernel, by decide +kernel⟩
def bL_act : zSS := sSeq (sLi 2 (eCS (aI (eOp o_shr (eL 1) (eC 5)) (aI (eCV 6 (rL 0) (aI (eC 4) (aN)) fX6_count) (aN))) fL_low)) (sSeq (sLi 3 (eCS (aI (eOp o_shr (eL 1) (eC 5)) (aI (eOp (· + ·) (eCV 6 (rL 0) (aI (eC 6) (aN)) fX6_count) (eC 1)) (aN))) fL_low)) (sSw 0 12 (eOp (· &&& ·) (eL 1) (eC 15)) [(sRi (eCV 6 (rL 0) (aI (eOp (· + ·) (eC 15) (eCS (aI (eOp o_shr (eL 1) (eC 4)) (aI (eC 100) (aN))) fL_low)) (aI (eOp (· + ·) (eC 5) (eCS (aI (eOp o_shr (eL 1) (eC 12)) (aI (eC 14) (aN))) fL_low)) (aN))) fX6_cut)), (sSeq (sBlk (sSeq (sLi 4 (eOp (· + ·) (eC 1) (eCS (aI (eOp o_shr (eL 1) (eC 20)) (aI (eC 5) (aN))) fL_low))) (sW 4000 (bZ z_gt (eL 4)) (sSeq (sPop (eCV 6 (rL 0) (aI (eOp (· + ·) (eC 97) (eCS (aI (eOp (· + ·) (eL 1) (eOp (· * ·) (eC 3) (eL 4))) (aI (eC 26) (aN))) fL_low)) (aN)) fX6_append)) (sInc 4 (-1)))))) (sRi (eCV 6 (rL 0) (aI (eCS (aI (eOp o_shr (eL 1) (eC 5)) (aI (eCV 6 (rL 0) (aI (eC 5) (aN)) fX6_count) (aN))) fL_low) (aI (eOp (· + ·) (eC 1) (eCS (aI (eOp o_shr (eL 1) (eC 8)) (aI (eC 12) (aN))) fL_low)) (aI (eOp (· + ·) (eC 1) (eCS (aI (eOp o_shr (eL 1) (eC 12)) (aI (eC 3) (aN))) fL_low)) (aI (eOp (· + ·) (eC 1) (eCS (aI (eOp o_shr (eL 1) (eC 14)) (aI (eC 4) (aN))) fL_low)) (aI (eOp (· &&& ·) (eOp o_shr (eL 1) (eC 17)) (eC 1)) (aN)))))) fX6_order))), (sSeq (sBlk (sSeq (sLi 4 (eOp (· + ·) (eC 1) (eCS (aI (eOp o_shr (eL 1) (eC 20)) (aI (eC 5) (aN))) fL_low))) (sW 4000 (bZ z_gt (eL 4)) (sSeq (sPop (eCV 6 (rL 0) (aI (eOp (· + ·) (eC 97) (eCS (aI (eOp (· + ·) (eL 1) (eOp (· * ·) (eC 3) (eL 4))) (aI (eC 26) (aN))) fL_low)) (aN)) fX6_append)) (sInc 4 (-1)))))) (sRi (eCV 6 (rL 0) (aI (eCS (aI (eOp o_shr (eL 1) (eC 5)) (aI (eCV 6 (rL 0) (aI (eC 5) (aN)) fX6_count) (aN))) fL_low) (aI (eOp (· + ·) (eC 1) (eCS (aI (eOp o_shr (eL 1) (eC 8)) (aI (eC 12) (aN))) fL_low)) (aI (eOp (· + ·) (eC 1) (eCS (aI (eOp o_shr (eL 1) (eC 12)) (aI (eC 3) (aN))) fL_low)) (aI (eOp (· + ·) (eC 1) (eCS (aI (eOp o_shr (eL 1) (eC 14)) (aI (eC 4) (aN))) fL_low)) (aI (eOp (· &&& ·) (eOp o_shr (eL 1) (eC 17)) (eC 1)) (aN)))))) fX6_order))), (sSeq (sBlk (sSeq (sLi 4 (eOp (· + ·) (eC 1) (eCS (aI (eOp o_shr (eL 1) (eC 20)) (aI (eC 5) (aN))) fL_low))) (sW 4000 (bZ z_gt (eL 4)) (sSeq (sPop (eCV 6 (rL 0) (aI (eOp (· + ·) (eC 97) (eCS (aI (eOp (· + ·) (eL 1) (eOp (· * ·) (eC 3) (eL 4))) (aI (eC 26) (aN))) fL_low)) (aN)) fX6_append)) (sInc 4 (-1)))))) (sRi (eCV 6 (rL 0) (aI (eCS (aI (eOp o_shr (eL 1) (eC 5)) (aI (eCV 6 (rL 0) (aI (eC 5) (aN)) fX6_count) (aN))) fL_low) (aI (eOp (· + ·) (eC 1) (eCS (aI (eOp o_shr (eL 1) (eC 8)) (aI (eC 12) (aN))) fL_low)) (aI (eOp (· + ·) (eC 1) (eCS (aI (eOp o_shr (eL 1) (eC 12)) (aI (eC 3) (aN))) fL_low)) (aI (eOp (· + ·) (eC 1) (eCS (aI (eOp o_shr (eL 1) (eC 14)) (aI (eC 4) (aN))) fL_low)) (aI (eOp (· &&& ·) (eOp o_shr (eL 1) (eC 17)) (eC 1)) (aN)))))) fX6_order))), (sSeq (sBlk (sSeq (sLi 4 (eOp (· + ·) (eC 1) (eCS (aI (eOp o_shr (eL 1) (eC 20)) (aI (eC 5) (aN))) fL_low))) (sW 4000 (bZ z_gt (eL 4)) (sSeq (sPop (eCV 6 (rL 0) (aI (eOp (· + ·) (eC 97) (eCS (aI (eOp (· + ·) (eL 1) (eOp (· * ·) (eC 3) (eL 4))) (aI (eC 26) (aN))) fL_low)) (aN)) fX6_append)) (sInc 4 (-1)))))) (sRi (eCV 6 (rL 0) (aI (eCS (aI (eOp o_shr (eL 1) (eC 5)) (aI (eCV 6 (rL 0) (aI (eC 5) (aN)) fX6_count) (aN))) fL_low) (aI (eOp (· + ·) (eC 1) (eCS (aI (eOp o_shr (eL 1) (eC 8)) (aI (eC 12) (aN))) fL_low)) (aI (eOp (· + ·) (eC 1) (eCS (aI (eOp o_shr (eL 1) (eC 12)) (aI (eC 3) (aN))) fL_low)) (aI (eOp (· + ·) (eC 1) (eCS (aI (eOp o_shr (eL 1) (eC 14)) (aI (eC 4) (aN))) fL_low)) (aI (eOp (· &&& ·) (eOp o_shr (eL 1) (eC 17)) (eC 1)) (aN)))))) fX6_order))), (sRi (eCV 6 (rL 0) (aI (eL 3) (aN)) fX6_hurry)), (sRi (eCV 6 (rL 0) (aI (eL 3) (aN)) fX6_cancel)), (sRi (eCV 6 (rL 0) (aI (eL 2) (aI (eOp (· &&& ·) (eOp o_shr (eL 1) (eC 4)) (eC 1)) (aN))) fX6_grind)), (sRi (eCV 6 (rL 0) (aI (eL 2) (aN)) fX6_spoil)), (sRi (eCV 6 (rL 0) (aI (eCS (aI (eOp o_shr (eL 1) (eC 5)) (aI (eCV 6 (rL 0) (aI (eC 5) (aN)) fX6_count) (aN))) fL_low) (aI (eOp (· + ·) (eC 1) (eCS (aI (eOp o_shr (eL 1) (eC 8)) (aI (eC 12) (aN))) fL_low)) (aN))) fX6_takeOff)), (sRi (eCV 6 (rL 0) (aN) fX6_slip)), (sRi (eCV 6 (rL 0) (aN) fX6_slip)), (sRi (eCV 6 (rL 0) (aI (eOp (· + ·) (eC 1) (eCS (aI (eOp o_shr (eL 1) (eC 5)) (aI (eC 9) (aN))) fL_low)) (aN)) fX6_work))] (sRi (eCV 6 (rL 0) (aI (eOp (· + ·) (eC 20) (eCS (aI (eOp o_shr (eL 1) (eC 5)) (aI (eC 60) (aN))) fL_low)) (aN)) fX6_work))))
abbrev mL_act : zM := (cL_act, RL, 5, some .int, { frames := 8, cells := 0, slots := 0, locals := 182 }, false)
set_option maxHeartbeats 400000 in
set_option maxRecDepth 20000 in
theorem kL_act : ssOk mL_act 0 310 bL_act := (kSeq (M := mL_act) (kSi_n (M := mL_act) (kCS (M := mL_act) (kaI (M := mL_act) (kShr (M := mL_act) (kL_n (M := mL_act) dL_act_0 rfl) (kC_ic (M := mL_act) (v := 5) dL_act_1 kc_iconst_5) dL_act_2) (kaI (M := mL_act) (kCV (M := mL_act) (ci := 6) (kR_n (M := mL_act) dL_act_3 rfl) (kaI (M := mL_act) (kC_ic (M := mL_act) (v := 4) dL_act_4 kc_iconst_4) (kaN (M := mL_act))) dL_act_5 ctX6_count mdX6_count imX6_count seX6_count clX6 mkL_12 ⟨(Nat.le_of_ble_eq_true rfl), (Nat.le_of_ble_eq_true rfl)⟩ (Nat.le_of_ble_eq_true rfl)) (kaN (M := mL_act)))) dL_act_8 ctL_low mdL_low stL_low mkL_33 ⟨(Nat.le_of_ble_eq_true rfl), (Nat.le_of_ble_eq_true rfl)⟩ (Nat.le_of_ble_eq_true rfl)) dL_act_11 rfl (by decide)) (kSeq (M := mL_act) (kSi_n (M := mL_act) (kCS (M := mL_act) (kaI (M := mL_act) (kShr (M := mL_act) (kL_n (M := mL_act) dL_act_12 rfl) (kC_ic (M := mL_act) (v := 5) dL_act_13 kc_iconst_5) dL_act_14) (kaI (M := mL_act) (kAdd (M := mL_act) (kCV (M := mL_act) (ci := 6) (kR_n (M := mL_act) dL_act_15 rfl) (kaI (M := mL_act) (kC_bi (M := mL_act) (v := 6) dL_act_16 kc_bipush_6) (kaN (M := mL_act))) dL_act_18 ctX6_count mdX6_count imX6_count seX6_count clX6 mkL_12 ⟨(Nat.le_of_ble_eq_true rfl), (Nat.le_of_ble_eq_true rfl)⟩ (Nat.le_of_ble_eq_true rfl)) (kC_ic (M := mL_act) (v := 1) dL_act_21 kc_iconst_1) dL_act_22) (kaN (M := mL_act)))) dL_act_23 ctL_low mdL_low stL_low mkL_33 ⟨(Nat.le_of_ble_eq_true rfl), (Nat.le_of_ble_eq_true rfl)⟩ (Nat.le_of_ble_eq_true rfl)) dL_act_26 rfl (by decide)) (kSw (M := mL_act) (kAnd (M := mL_act) (kL_n (M := mL_act) dL_act_27 rfl) (kC_bi (M := mL_act) (v := 15) dL_act_28 kc_bipush_15) dL_act_30) dL_act_31 (by decide) (pD := 294) (kRi (M := mL_act) (kCV (M := mL_act) (ci := 6) (kR_n (M := mL_act) dL_act_294 rfl) (kaI (M := mL_act) (kAdd (M := mL_act) (kC_bi (M := mL_act) (v := 20) dL_act_295 kc_bipush_20) (kCS (M := mL_act) (kaI (M := mL_act) (kShr (M := mL_act) (kL_n (M := mL_act) dL_act_297 rfl) (kC_ic (M := mL_act) (v := 5) dL_act_298 kc_iconst_5) dL_act_299) (kaI (M := mL_act) (kC_bi (M := mL_act) (v := 60) dL_act_300 kc_bipush_60) (kaN (M := mL_act)))) dL_act_302 ctL_low mdL_low stL_low mkL_33 ⟨(Nat.le_of_ble_eq_true rfl), (Nat.le_of_ble_eq_true rfl)⟩ (Nat.le_of_ble_eq_true rfl)) dL_act_305) (kaN (M := mL_act))) dL_act_306 ctX6_work mdX6_work imX6_work seX6_work clX6 mkL_67 ⟨(Nat.le_of_ble_eq_true rfl), (Nat.le_of_ble_eq_true rfl)⟩ (Nat.le_of_ble_eq_true rfl)) dL_act_309) (⟨⟨96, by decide, (kRi (M := mL_act) (kCV (M := mL_act) (ci := 6) (kR_n (M := mL_act) dL_act_96 rfl) (kaI (M := mL_act) (kAdd (M := mL_act) (kC_bi (M := mL_act) (v := 15) dL_act_97 kc_bipush_15) (kCS (M := mL_act) (kaI (M := mL_act) (kShr (M := mL_act) (kL_n (M := mL_act) dL_act_99 rfl) (kC_ic (M := mL_act) (v := 4) dL_act_100 kc_iconst_4) dL_act_101) (kaI (M := mL_act) (kC_bi (M := mL_act) (v := 100) dL_act_102 kc_bipush_100) (kaN (M := mL_act)))) dL_act_104 ctL_low mdL_low stL_low mkL_33 ⟨(Nat.le_of_ble_eq_true rfl), (Nat.le_of_ble_eq_true rfl)⟩ (Nat.le_of_ble_eq_true rfl)) dL_act_107) (kaI (M := mL_act) (kAdd (M := mL_act) (kC_ic (M := mL_act) (v := 5) dL_act_108 kc_iconst_5) (kCS (M := mL_act) (kaI (M := mL_act) (kShr (M := mL_act) (kL_n (M := mL_act) dL_act_109 rfl) (kC_bi (M := mL_act) (v := 12) dL_act_110 kc_bipush_12) dL_act_112) (kaI (M := mL_act) (kC_bi (M := mL_act) (v := 14) dL_act_113 kc_bipush_14) (kaN (M := mL_act)))) dL_act_115 ctL_low mdL_low stL_low mkL_33 ⟨(Nat.le_of_ble_eq_true rfl), (Nat.le_of_ble_eq_true rfl)⟩ (Nat.le_of_ble_eq_true rfl)) dL_act_118) (kaN (M := mL_act)))) dL_act_119 ctX6_cut mdX6_cut imX6_cut seX6_cut clX6 mkL_38 ⟨(Nat.le_of_ble_eq_true rfl), (Nat.le_of_ble_eq_true rfl)⟩ (Nat.le_of_ble_eq_true rfl)) dL_act_122)⟩, ⟨⟨123, by decide, (kSeq (M := mL_act) (kBlk (M := mL_act) (kSeq (M := mL_act) (kSi (M := mL_act) (kAdd (M := mL_act) (kC_ic (M := mL_act) (v := 1) dL_act_123 kc_iconst_1) (kCS (M := mL_act) (kaI (M := mL_act) (kShr (M := mL_act) (kL_n (M := mL_act) dL_act_124 rfl) (kC_bi (M := mL_act) (v := 20) dL_act_125 kc_bipush_20) dL_act_127) (kaI (M := mL_act) (kC_ic (M := mL_act) (v := 5) dL_act_128 kc_iconst_5) (kaN (M := mL_act)))) dL_act_129 ctL_low mdL_low stL_low mkL_33 ⟨(Nat.le_of_ble_eq_true rfl), (Nat.le_of_ble_eq_true rfl)⟩ (Nat.le_of_ble_eq_true rfl)) dL_act_132) dL_act_133 (by decide)) (kWn (M := mL_act) (N := 4000) (kZ_gtF (M := mL_act) (kL (M := mL_act) dL_act_135) dL_act_137 (by decide) rfl) (kGo (M := mL_act) (kSeq (M := mL_act) (kPop (M := mL_act) (kCV (M := mL_act) (ci := 6) (kR_n (M := mL_act) dL_act_140 rfl) (kaI (M := mL_act) (kAdd (M := mL_act) (kC_bi (M := mL_act) (v := 97) dL_act_141 kc_bipush_97) (kCS (M := mL_act) (kaI (M := mL_act) (kAdd (M := mL_act) (kL_n (M := mL_act) dL_act_143 rfl) (kMul (M := mL_act) (kC_ic (M := mL_act) (v := 3) dL_act_144 kc_iconst_3) (kL (M := mL_act) dL_act_145) dL_act_147) dL_act_148) (kaI (M := mL_act) (kC_bi (M := mL_act) (v := 26) dL_act_149 kc_bipush_26) (kaN (M := mL_act)))) dL_act_151 ctL_low mdL_low stL_low mkL_33 ⟨(Nat.le_of_ble_eq_true rfl), (Nat.le_of_ble_eq_true rfl)⟩ (Nat.le_of_ble_eq_true rfl)) dL_act_154) (kaN (M := mL_act))) dL_act_155 ctX6_append mdX6_append imX6_append seX6_append clX6 mkL_41 ⟨(Nat.le_of_ble_eq_true rfl), (Nat.le_of_ble_eq_true rfl)⟩ (Nat.le_of_ble_eq_true rfl)) dL_act_158) (kInc (M := mL_act) (v := (-1)) dL_act_159 kc_iconst_m1 (by decide))) dL_act_162 (by decide))))) (kRi (M := mL_act) (kCV (M := mL_act) (ci := 6) (kR_n (M := mL_act) dL_act_165 rfl) (kaI (M := mL_act) (kCS (M := mL_act) (kaI (M := mL_act) (kShr (M := mL_act) (kL_n (M := mL_act) dL_act_166 rfl) (kC_ic (M := mL_act) (v := 5) dL_act_167 kc_iconst_5) dL_act_168) (kaI (M := mL_act) (kCV (M := mL_act) (ci := 6) (kR_n (M := mL_act) dL_act_169 rfl) (kaI (M := mL_act) (kC_ic (M := mL_act) (v := 5) dL_act_170 kc_iconst_5) (kaN (M := mL_act))) dL_act_171 ctX6_count mdX6_count imX6_count seX6_count clX6 mkL_12 ⟨(Nat.le_of_ble_eq_true rfl), (Nat.le_of_ble_eq_true rfl)⟩ (Nat.le_of_ble_eq_true rfl)) (kaN (M := mL_act)))) dL_act_174 ctL_low mdL_low stL_low mkL_33 ⟨(Nat.le_of_ble_eq_true rfl), (Nat.le_of_ble_eq_true rfl)⟩ (Nat.le_of_ble_eq_true rfl)) (kaI (M := mL_act) (kAdd (M := mL_act) (kC_ic (M := mL_act) (v := 1) dL_act_177 kc_iconst_1) (kCS (M := mL_act) (kaI (M := mL_act) (kShr (M := mL_act) (kL_n (M := mL_act) dL_act_178 rfl) (kC_bi (M := mL_act) (v := 8) dL_act_179 kc_bipush_8) dL_act_181) (kaI (M := mL_act) (kC_bi (M := mL_act) (v := 12) dL_act_182 kc_bipush_12) (kaN (M := mL_act)))) dL_act_184 ctL_low mdL_low stL_low mkL_33 ⟨(Nat.le_of_ble_eq_true rfl), (Nat.le_of_ble_eq_true rfl)⟩ (Nat.le_of_ble_eq_true rfl)) dL_act_187) (kaI (M := mL_act) (kAdd (M := mL_act) (kC_ic (M := mL_act) (v := 1) dL_act_188 kc_iconst_1) (kCS (M := mL_act) (kaI (M := mL_act) (kShr (M := mL_act) (kL_n (M := mL_act) dL_act_189 rfl) (kC_bi (M := mL_act) (v := 12) dL_act_190 kc_bipush_12) dL_act_192) (kaI (M := mL_act) (kC_ic (M := mL_act) (v := 3) dL_act_193 kc_iconst_3) (kaN (M := mL_act)))) dL_act_194 ctL_low mdL_low stL_low mkL_33 ⟨(Nat.le_of_ble_eq_true rfl), (Nat.le_of_ble_eq_true rfl)⟩ (Nat.le_of_ble_eq_true rfl)) dL_act_197) (kaI (M := mL_act) (kAdd (M := mL_act) (kC_ic (M := mL_act) (v := 1) dL_act_198 kc_iconst_1) (kCS (M := mL_act) (kaI (M := mL_act) (kShr (M := mL_act) (kL_n (M := mL_act) dL_act_199 rfl) (kC_bi (M := mL_act) (v := 14) dL_act_200 kc_bipush_14) dL_act_202) (kaI (M := mL_act) (kC_ic (M := mL_act) (v := 4) dL_act_203 kc_iconst_4) (kaN (M := mL_act)))) dL_act_204 ctL_low mdL_low stL_low mkL_33 ⟨(Nat.le_of_ble_eq_true rfl), (Nat.le_of_ble_eq_true rfl)⟩ (Nat.le_of_ble_eq_true rfl)) dL_act_207) (kaI (M := mL_act) (kAnd (M := mL_act) (kShr (M := mL_act) (kL_n (M := mL_act) dL_act_208 rfl) (kC_bi (M := mL_act) (v := 17) dL_act_209 kc_bipush_17) dL_act_211) (kC_ic (M := mL_act) (v := 1) dL_act_212 kc_iconst_1) dL_act_213) (kaN (M := mL_act))))))) dL_act_214 ctX6_order mdX6_order imX6_order seX6_order clX6 mkL_44 ⟨(Nat.le_of_ble_eq_true rfl), (Nat.le_of_ble_eq_true rfl)⟩ (Nat.le_of_ble_eq_true rfl)) dL_act_217))⟩, ⟨⟨123, by decide, (kSeq (M := mL_act) (kBlk (M := mL_act) (kSeq (M := mL_act) (kSi (M := mL_act) (kAdd (M := mL_act) (kC_ic (M := mL_act) (v := 1) dL_act_123 kc_iconst_1) (kCS (M := mL_act) (kaI (M := mL_act) (kShr (M := mL_act) (kL_n (M := mL_act) dL_act_124 rfl) (kC_bi (M := mL_act) (v := 20) dL_act_125 kc_bipush_20) dL_act_127) (kaI (M := mL_act) (kC_ic (M := mL_act) (v := 5) dL_act_128 kc_iconst_5) (kaN (M := mL_act)))) dL_act_129 ctL_low mdL_low stL_low mkL_33 ⟨(Nat.le_of_ble_eq_true rfl), (Nat.le_of_ble_eq_true rfl)⟩ (Nat.le_of_ble_eq_true rfl)) dL_act_132) dL_act_133 (by decide)) (kWn (M := mL_act) (N := 4000) (kZ_gtF (M := mL_act) (kL (M := mL_act) dL_act_135) dL_act_137 (by decide) rfl) (kGo (M := mL_act) (kSeq (M := mL_act) (kPop (M := mL_act) (kCV (M := mL_act) (ci := 6) (kR_n (M := mL_act) dL_act_140 rfl) (kaI (M := mL_act) (kAdd (M := mL_act) (kC_bi (M := mL_act) (v := 97) dL_act_141 kc_bipush_97) (kCS (M := mL_act) (kaI (M := mL_act) (kAdd (M := mL_act) (kL_n (M := mL_act) dL_act_143 rfl) (kMul (M := mL_act) (kC_ic (M := mL_act) (v := 3) dL_act_144 kc_iconst_3) (kL (M := mL_act) dL_act_145) dL_act_147) dL_act_148) (kaI (M := mL_act) (kC_bi (M := mL_act) (v := 26) dL_act_149 kc_bipush_26) (kaN (M := mL_act)))) dL_act_151 ctL_low mdL_low stL_low mkL_33 ⟨(Nat.le_of_ble_eq_true rfl), (Nat.le_of_ble_eq_true rfl)⟩ (Nat.le_of_ble_eq_true rfl)) dL_act_154) (kaN (M := mL_act))) dL_act_155 ctX6_append mdX6_append imX6_append seX6_append clX6 mkL_41 ⟨(Nat.le_of_ble_eq_true rfl), (Nat.le_of_ble_eq_true rfl)⟩ (Nat.le_of_ble_eq_true rfl)) dL_act_158) (kInc (M := mL_act) (v := (-1)) dL_act_159 kc_iconst_m1 (by decide))) dL_act_162 (by decide))))) (kRi (M := mL_act) (kCV (M := mL_act) (ci := 6) (kR_n (M := mL_act) dL_act_165 rfl) (kaI (M := mL_act) (kCS (M := mL_act) (kaI (M := mL_act) (kShr (M := mL_act) (kL_n (M := mL_act) dL_act_166 rfl) (kC_ic (M := mL_act) (v := 5) dL_act_167 kc_iconst_5) dL_act_168) (kaI (M := mL_act) (kCV (M := mL_act) (ci := 6) (kR_n (M := mL_act) dL_act_169 rfl) (kaI (M := mL_act) (kC_ic (M := mL_act) (v := 5) dL_act_170 kc_iconst_5) (kaN (M := mL_act))) dL_act_171 ctX6_count mdX6_count imX6_count seX6_count clX6 mkL_12 ⟨(Nat.le_of_ble_eq_true rfl), (Nat.le_of_ble_eq_true rfl)⟩ (Nat.le_of_ble_eq_true rfl)) (kaN (M := mL_act)))) dL_act_174 ctL_low mdL_low stL_low mkL_33 ⟨(Nat.le_of_ble_eq_true rfl), (Nat.le_of_ble_eq_true rfl)⟩ (Nat.le_of_ble_eq_true rfl)) (kaI (M := mL_act) (kAdd (M := mL_act) (kC_ic (M := mL_act) (v := 1) dL_act_177 kc_iconst_1) (kCS (M := mL_act) (kaI (M := mL_act) (kShr (M := mL_act) (kL_n (M := mL_act) dL_act_178 rfl) (kC_bi (M := mL_act) (v := 8) dL_act_179 kc_bipush_8) dL_act_181) (kaI (M := mL_act) (kC_bi (M := mL_act) (v := 12) dL_act_182 kc_bipush_12) (kaN (M := mL_act)))) dL_act_184 ctL_low mdL_low stL_low mkL_33 ⟨(Nat.le_of_ble_eq_true rfl), (Nat.le_of_ble_eq_true rfl)⟩ (Nat.le_of_ble_eq_true rfl)) dL_act_187) (kaI (M := mL_act) (kAdd (M := mL_act) (kC_ic (M := mL_act) (v := 1) dL_act_188 kc_iconst_1) (kCS (M := mL_act) (kaI (M := mL_act) (kShr (M := mL_act) (kL_n (M := mL_act) dL_act_189 rfl) (kC_bi (M := mL_act) (v := 12) dL_act_190 kc_bipush_12) dL_act_192) (kaI (M := mL_act) (kC_ic (M := mL_act) (v := 3) dL_act_193 kc_iconst_3) (kaN (M := mL_act)))) dL_act_194 ctL_low mdL_low stL_low mkL_33 ⟨(Nat.le_of_ble_eq_true rfl), (Nat.le_of_ble_eq_true rfl)⟩ (Nat.le_of_ble_eq_true rfl)) dL_act_197) (kaI (M := mL_act) (kAdd (M := mL_act) (kC_ic (M := mL_act) (v := 1) dL_act_198 kc_iconst_1) (kCS (M := mL_act) (kaI (M := mL_act) (kShr (M := mL_act) (kL_n (M := mL_act) dL_act_199 rfl) (kC_bi (M := mL_act) (v := 14) dL_act_200 kc_bipush_14) dL_act_202) (kaI (M := mL_act) (kC_ic (M := mL_act) (v := 4) dL_act_203 kc_iconst_4) (kaN (M := mL_act)))) dL_act_204 ctL_low mdL_low stL_low mkL_33 ⟨(Nat.le_of_ble_eq_true rfl), (Nat.le_of_ble_eq_true rfl)⟩ (Nat.le_of_ble_eq_true rfl)) dL_act_207) (kaI (M := mL_act) (kAnd (M := mL_act) (kShr (M := mL_act) (kL_n (M := mL_act) dL_act_208 rfl) (kC_bi (M := mL_act) (v := 17) dL_act_209 kc_bipush_17) dL_act_211) (kC_ic (M := mL_act) (v := 1) dL_act_212 kc_iconst_1) dL_act_213) (kaN (M := mL_act))))))) dL_act_214 ctX6_order mdX6_order imX6_order seX6_order clX6 mkL_44 ⟨(Nat.le_of_ble_eq_true rfl), (Nat.le_of_ble_eq_true rfl)⟩ (Nat.le_of_ble_eq_true rfl)) dL_act_217))⟩, ⟨⟨123, by decide, (kSeq (M := mL_act) (kBlk (M := mL_act) (kSeq (M := mL_act) (kSi (M := mL_act) (kAdd (M := mL_act) (kC_ic (M := mL_act) (v := 1) dL_act_123 kc_iconst_1) (kCS (M := mL_act) (kaI (M := mL_act) (kShr (M := mL_act) (kL_n (M := mL_act) dL_act_124 rfl) (kC_bi (M := mL_act) (v := 20) dL_act_125 kc_bipush_20) dL_act_127) (kaI (M := mL_act) (kC_ic (M := mL_act) (v := 5) dL_act_128 kc_iconst_5) (kaN (M := mL_act)))) dL_act_129 ctL_low mdL_low stL_low mkL_33 ⟨(Nat.le_of_ble_eq_true rfl), (Nat.le_of_ble_eq_true rfl)⟩ (Nat.le_of_ble_eq_true rfl)) dL_act_132) dL_act_133 (by decide)) (kWn (M := mL_act) (N := 4000) (kZ_gtF (M := mL_act) (kL (M := mL_act) dL_act_135) dL_act_137 (by decide) rfl) (kGo (M := mL_act) (kSeq (M := mL_act) (kPop (M := mL_act) (kCV (M := mL_act) (ci := 6) (kR_n (M := mL_act) dL_act_140 rfl) (kaI (M := mL_act) (kAdd (M := mL_act) (kC_bi (M := mL_act) (v := 97) dL_act_141 kc_bipush_97) (kCS (M := mL_act) (kaI (M := mL_act) (kAdd (M := mL_act) (kL_n (M := mL_act) dL_act_143 rfl) (kMul (M := mL_act) (kC_ic (M := mL_act) (v := 3) dL_act_144 kc_iconst_3) (kL (M := mL_act) dL_act_145) dL_act_147) dL_act_148) (kaI (M := mL_act) (kC_bi (M := mL_act) (v := 26) dL_act_149 kc_bipush_26) (kaN (M := mL_act)))) dL_act_151 ctL_low mdL_low stL_low mkL_33 ⟨(Nat.le_of_ble_eq_true rfl), (Nat.le_of_ble_eq_true rfl)⟩ (Nat.le_of_ble_eq_true rfl)) dL_act_154) (kaN (M := mL_act))) dL_act_155 ctX6_append mdX6_append imX6_append seX6_append clX6 mkL_41 ⟨(Nat.le_of_ble_eq_true rfl), (Nat.le_of_ble_eq_true rfl)⟩ (Nat.le_of_ble_eq_true rfl)) dL_act_158) (kInc (M := mL_act) (v := (-1)) dL_act_159 kc_iconst_m1 (by decide))) dL_act_162 (by decide))))) (kRi (M := mL_act) (kCV (M := mL_act) (ci := 6) (kR_n (M := mL_act) dL_act_165 rfl) (kaI (M := mL_act) (kCS (M := mL_act) (kaI (M := mL_act) (kShr (M := mL_act) (kL_n (M := mL_act) dL_act_166 rfl) (kC_ic (M := mL_act) (v := 5) dL_act_167 kc_iconst_5) dL_act_168) (kaI (M := mL_act) (kCV (M := mL_act) (ci := 6) (kR_n (M := mL_act) dL_act_169 rfl) (kaI (M := mL_act) (kC_ic (M := mL_act) (v := 5) dL_act_170 kc_iconst_5) (kaN (M := mL_act))) dL_act_171 ctX6_count mdX6_count imX6_count seX6_count clX6 mkL_12 ⟨(Nat.le_of_ble_eq_true rfl), (Nat.le_of_ble_eq_true rfl)⟩ (Nat.le_of_ble_eq_true rfl)) (kaN (M := mL_act)))) dL_act_174 ctL_low mdL_low stL_low mkL_33 ⟨(Nat.le_of_ble_eq_true rfl), (Nat.le_of_ble_eq_true rfl)⟩ (Nat.le_of_ble_eq_true rfl)) (kaI (M := mL_act) (kAdd (M := mL_act) (kC_ic (M := mL_act) (v := 1) dL_act_177 kc_iconst_1) (kCS (M := mL_act) (kaI (M := mL_act) (kShr (M := mL_act) (kL_n (M := mL_act) dL_act_178 rfl) (kC_bi (M := mL_act) (v := 8) dL_act_179 kc_bipush_8) dL_act_181) (kaI (M := mL_act) (kC_bi (M := mL_act) (v := 12) dL_act_182 kc_bipush_12) (kaN (M := mL_act)))) dL_act_184 ctL_low mdL_low stL_low mkL_33 ⟨(Nat.le_of_ble_eq_true rfl), (Nat.le_of_ble_eq_true rfl)⟩ (Nat.le_of_ble_eq_true rfl)) dL_act_187) (kaI (M := mL_act) (kAdd (M := mL_act) (kC_ic (M := mL_act) (v := 1) dL_act_188 kc_iconst_1) (kCS (M := mL_act) (kaI (M := mL_act) (kShr (M := mL_act) (kL_n (M := mL_act) dL_act_189 rfl) (kC_bi (M := mL_act) (v := 12) dL_act_190 kc_bipush_12) dL_act_192) (kaI (M := mL_act) (kC_ic (M := mL_act) (v := 3) dL_act_193 kc_iconst_3) (kaN (M := mL_act)))) dL_act_194 ctL_low mdL_low stL_low mkL_33 ⟨(Nat.le_of_ble_eq_true rfl), (Nat.le_of_ble_eq_true rfl)⟩ (Nat.le_of_ble_eq_true rfl)) dL_act_197) (kaI (M := mL_act) (kAdd (M := mL_act) (kC_ic (M := mL_act) (v := 1) dL_act_198 kc_iconst_1) (kCS (M := mL_act) (kaI (M := mL_act) (kShr (M := mL_act) (kL_n (M := mL_act) dL_act_199 rfl) (kC_bi (M := mL_act) (v := 14) dL_act_200 kc_bipush_14) dL_act_202) (kaI (M := mL_act) (kC_ic (M := mL_act) (v := 4) dL_act_203 kc_iconst_4) (kaN (M := mL_act)))) dL_act_204 ctL_low mdL_low stL_low mkL_33 ⟨(Nat.le_of_ble_eq_true rfl), (Nat.le_of_ble_eq_true rfl)⟩ (Nat.le_of_ble_eq_true rfl)) dL_act_207) (kaI (M := mL_act) (kAnd (M := mL_act) (kShr (M := mL_act) (kL_n (M := mL_act) dL_act_208 rfl) (kC_bi (M := mL_act) (v := 17) dL_act_209 kc_bipush_17) dL_act_211) (kC_ic (M := mL_act) (v := 1) dL_act_212 kc_iconst_1) dL_act_213) (kaN (M := mL_act))))))) dL_act_214 ctX6_order mdX6_order imX6_order seX6_order clX6 mkL_44 ⟨(Nat.le_of_ble_eq_true rfl), (Nat.le_of_ble_eq_true rfl)⟩ (Nat.le_of_ble_eq_true rfl)) dL_act_217))⟩, ⟨⟨123, by decide, (kSeq (M := mL_act) (kBlk (M := mL_act) (kSeq (M := mL_act) (kSi (M := mL_act) (kAdd (M := mL_act) (kC_ic (M := mL_act) (v := 1) dL_act_123 kc_iconst_1) (kCS (M := mL_act) (kaI (M := mL_act) (kShr (M := mL_act) (kL_n (M := mL_act) dL_act_124 rfl) (kC_bi (M := mL_act) (v := 20) dL_act_125 kc_bipush_20) dL_act_127) (kaI (M := mL_act) (kC_ic (M := mL_act) (v := 5) dL_act_128 kc_iconst_5) (kaN (M := mL_act)))) dL_act_129 ctL_low mdL_low stL_low mkL_33 ⟨(Nat.le_of_ble_eq_true rfl), (Nat.le_of_ble_eq_true rfl)⟩ (Nat.le_of_ble_eq_true rfl)) dL_act_132) dL_act_133 (by decide)) (kWn (M := mL_act) (N := 4000) (kZ_gtF (M := mL_act) (kL (M := mL_act) dL_act_135) dL_act_137 (by decide) rfl) (kGo (M := mL_act) (kSeq (M := mL_act) (kPop (M := mL_act) (kCV (M := mL_act) (ci := 6) (kR_n (M := mL_act) dL_act_140 rfl) (kaI (M := mL_act) (kAdd (M := mL_act) (kC_bi (M := mL_act) (v := 97) dL_act_141 kc_bipush_97) (kCS (M := mL_act) (kaI (M := mL_act) (kAdd (M := mL_act) (kL_n (M := mL_act) dL_act_143 rfl) (kMul (M := mL_act) (kC_ic (M := mL_act) (v := 3) dL_act_144 kc_iconst_3) (kL (M := mL_act) dL_act_145) dL_act_147) dL_act_148) (kaI (M := mL_act) (kC_bi (M := mL_act) (v := 26) dL_act_149 kc_bipush_26) (kaN (M := mL_act)))) dL_act_151 ctL_low mdL_low stL_low mkL_33 ⟨(Nat.le_of_ble_eq_true rfl), (Nat.le_of_ble_eq_true rfl)⟩ (Nat.le_of_ble_eq_true rfl)) dL_act_154) (kaN (M := mL_act))) dL_act_155 ctX6_append mdX6_append imX6_append seX6_append clX6 mkL_41 ⟨(Nat.le_of_ble_eq_true rfl), (Nat.le_of_ble_eq_true rfl)⟩ (Nat.le_of_ble_eq_true rfl)) dL_act_158) (kInc (M := mL_act) (v := (-1)) dL_act_159 kc_iconst_m1 (by decide))) dL_act_162 (by decide))))) (kRi (M := mL_act) (kCV (M := mL_act) (ci := 6) (kR_n (M := mL_act) dL_act_165 rfl) (kaI (M := mL_act) (kCS (M := mL_act) (kaI (M := mL_act) (kShr (M := mL_act) (kL_n (M := mL_act) dL_act_166 rfl) (kC_ic (M := mL_act) (v := 5) dL_act_167 kc_iconst_5) dL_act_168) (kaI (M := mL_act) (kCV (M := mL_act) (ci := 6) (kR_n (M := mL_act) dL_act_169 rfl) (kaI (M := mL_act) (kC_ic (M := mL_act) (v := 5) dL_act_170 kc_iconst_5) (kaN (M := mL_act))) dL_act_171 ctX6_count mdX6_count imX6_count seX6_count clX6 mkL_12 ⟨(Nat.le_of_ble_eq_true rfl), (Nat.le_of_ble_eq_true rfl)⟩ (Nat.le_of_ble_eq_true rfl)) (kaN (M := mL_act)))) dL_act_174 ctL_low mdL_low stL_low mkL_33 ⟨(Nat.le_of_ble_eq_true rfl), (Nat.le_of_ble_eq_true rfl)⟩ (Nat.le_of_ble_eq_true rfl)) (kaI (M := mL_act) (kAdd (M := mL_act) (kC_ic (M := mL_act) (v := 1) dL_act_177 kc_iconst_1) (kCS (M := mL_act) (kaI (M := mL_act) (kShr (M := mL_act) (kL_n (M := mL_act) dL_act_178 rfl) (kC_bi (M := mL_act) (v := 8) dL_act_179 kc_bipush_8) dL_act_181) (kaI (M := mL_act) (kC_bi (M := mL_act) (v := 12) dL_act_182 kc_bipush_12) (kaN (M := mL_act)))) dL_act_184 ctL_low mdL_low stL_low mkL_33 ⟨(Nat.le_of_ble_eq_true rfl), (Nat.le_of_ble_eq_true rfl)⟩ (Nat.le_of_ble_eq_true rfl)) dL_act_187) (kaI (M := mL_act) (kAdd (M := mL_act) (kC_ic (M := mL_act) (v := 1) dL_act_188 kc_iconst_1) (kCS (M := mL_act) (kaI (M := mL_act) (kShr (M := mL_act) (kL_n (M := mL_act) dL_act_189 rfl) (kC_bi (M := mL_act) (v := 12) dL_act_190 kc_bipush_12) dL_act_192) (kaI (M := mL_act) (kC_ic (M := mL_act) (v := 3) dL_act_193 kc_iconst_3) (kaN (M := mL_act)))) dL_act_194 ctL_low mdL_low stL_low mkL_33 ⟨(Nat.le_of_ble_eq_true rfl), (Nat.le_of_ble_eq_true rfl)⟩ (Nat.le_of_ble_eq_true rfl)) dL_act_197) (kaI (M := mL_act) (kAdd (M := mL_act) (kC_ic (M := mL_act) (v := 1) dL_act_198 kc_iconst_1) (kCS (M := mL_act) (kaI (M := mL_act) (kShr (M := mL_act) (kL_n (M := mL_act) dL_act_199 rfl) (kC_bi (M := mL_act) (v := 14) dL_act_200 kc_bipush_14) dL_act_202) (kaI (M := mL_act) (kC_ic (M := mL_act) (v := 4) dL_act_203 kc_iconst_4) (kaN (M := mL_act)))) dL_act_204 ctL_low mdL_low stL_low mkL_33 ⟨(Nat.le_of_ble_eq_true rfl), (Nat.le_of_ble_eq_true rfl)⟩ (Nat.le_of_ble_eq_true rfl)) dL_act_207) (kaI (M := mL_act) (kAnd (M := mL_act) (kShr (M := mL_act) (kL_n (M := mL_act) dL_act_208 rfl) (kC_bi (M := mL_act) (v := 17) dL_act_209 kc_bipush_17) dL_act_211) (kC_ic (M := mL_act) (v := 1) dL_act_212 kc_iconst_1) dL_act_213) (kaN (M := mL_act))))))) dL_act_214 ctX6_order mdX6_order imX6_order seX6_order clX6 mkL_44 ⟨(Nat.le_of_ble_eq_true rfl), (Nat.le_of_ble_eq_true rfl)⟩ (Nat.le_of_ble_eq_true rfl)) dL_act_217))⟩, ⟨⟨218, by decide, (kRi (M := mL_act) (kCV (M := mL_act) (ci := 6) (kR_n (M := mL_act) dL_act_218 rfl) (kaI (M := mL_act) (kL_n (M := mL_act) dL_act_219 rfl) (kaN (M := mL_act))) dL_act_220 ctX6_hurry mdX6_hurry imX6_hurry seX6_hurry clX6 mkL_48 ⟨(Nat.le_of_ble_eq_true rfl), (Nat.le_of_ble_eq_true rfl)⟩ (Nat.le_of_ble_eq_true rfl)) dL_act_223)⟩, ⟨⟨224, by decide, (kRi (M := mL_act) (kCV (M := mL_act) (ci := 6) (kR_n (M := mL_act) dL_act_224 rfl) (kaI (M := mL_act) (kL_n (M := mL_act) dL_act_225 rfl) (kaN (M := mL_act))) dL_act_226 ctX6_cancel mdX6_cancel imX6_cancel seX6_cancel clX6 mkL_51 ⟨(Nat.le_of_ble_eq_true rfl), (Nat.le_of_ble_eq_true rfl)⟩ (Nat.le_of_ble_eq_true rfl)) dL_act_229)⟩, ⟨⟨230, by decide, (kRi (M := mL_act) (kCV (M := mL_act) (ci := 6) (kR_n (M := mL_act) dL_act_230 rfl) (kaI (M := mL_act) (kL_n (M := mL_act) dL_act_231 rfl) (kaI (M := mL_act) (kAnd (M := mL_act) (kShr (M := mL_act) (kL_n (M := mL_act) dL_act_232 rfl) (kC_ic (M := mL_act) (v := 4) dL_act_233 kc_iconst_4) dL_act_234) (kC_ic (M := mL_act) (v := 1) dL_act_235 kc_iconst_1) dL_act_236) (kaN (M := mL_act)))) dL_act_237 ctX6_grind mdX6_grind imX6_grind seX6_grind clX6 mkL_54 ⟨(Nat.le_of_ble_eq_true rfl), (Nat.le_of_ble_eq_true rfl)⟩ (Nat.le_of_ble_eq_true rfl)) dL_act_240)⟩, ⟨⟨241, by decide, (kRi (M := mL_act) (kCV (M := mL_act) (ci := 6) (kR_n (M := mL_act) dL_act_241 rfl) (kaI (M := mL_act) (kL_n (M := mL_act) dL_act_242 rfl) (kaN (M := mL_act))) dL_act_243 ctX6_spoil mdX6_spoil imX6_spoil seX6_spoil clX6 mkL_57 ⟨(Nat.le_of_ble_eq_true rfl), (Nat.le_of_ble_eq_true rfl)⟩ (Nat.le_of_ble_eq_true rfl)) dL_act_246)⟩, ⟨⟨247, by decide, (kRi (M := mL_act) (kCV (M := mL_act) (ci := 6) (kR_n (M := mL_act) dL_act_247 rfl) (kaI (M := mL_act) (kCS (M := mL_act) (kaI (M := mL_act) (kShr (M := mL_act) (kL_n (M := mL_act) dL_act_248 rfl) (kC_ic (M := mL_act) (v := 5) dL_act_249 kc_iconst_5) dL_act_250) (kaI (M := mL_act) (kCV (M := mL_act) (ci := 6) (kR_n (M := mL_act) dL_act_251 rfl) (kaI (M := mL_act) (kC_ic (M := mL_act) (v := 5) dL_act_252 kc_iconst_5) (kaN (M := mL_act))) dL_act_253 ctX6_count mdX6_count imX6_count seX6_count clX6 mkL_12 ⟨(Nat.le_of_ble_eq_true rfl), (Nat.le_of_ble_eq_true rfl)⟩ (Nat.le_of_ble_eq_true rfl)) (kaN (M := mL_act)))) dL_act_256 ctL_low mdL_low stL_low mkL_33 ⟨(Nat.le_of_ble_eq_true rfl), (Nat.le_of_ble_eq_true rfl)⟩ (Nat.le_of_ble_eq_true rfl)) (kaI (M := mL_act) (kAdd (M := mL_act) (kC_ic (M := mL_act) (v := 1) dL_act_259 kc_iconst_1) (kCS (M := mL_act) (kaI (M := mL_act) (kShr (M := mL_act) (kL_n (M := mL_act) dL_act_260 rfl) (kC_bi (M := mL_act) (v := 8) dL_act_261 kc_bipush_8) dL_act_263) (kaI (M := mL_act) (kC_bi (M := mL_act) (v := 12) dL_act_264 kc_bipush_12) (kaN (M := mL_act)))) dL_act_266 ctL_low mdL_low stL_low mkL_33 ⟨(Nat.le_of_ble_eq_true rfl), (Nat.le_of_ble_eq_true rfl)⟩ (Nat.le_of_ble_eq_true rfl)) dL_act_269) (kaN (M := mL_act)))) dL_act_270 ctX6_takeOff mdX6_takeOff imX6_takeOff seX6_takeOff clX6 mkL_60 ⟨(Nat.le_of_ble_eq_true rfl), (Nat.le_of_ble_eq_true rfl)⟩ (Nat.le_of_ble_eq_true rfl)) dL_act_273)⟩, ⟨⟨274, by decide, (kRi (M := mL_act) (kCV (M := mL_act) (ci := 6) (kR_n (M := mL_act) dL_act_274 rfl) (kaN (M := mL_act)) dL_act_275 ctX6_slip mdX6_slip imX6_slip seX6_slip clX6 mkL_63 ⟨(Nat.le_of_ble_eq_true rfl), (Nat.le_of_ble_eq_true rfl)⟩ (Nat.le_of_ble_eq_true rfl)) dL_act_278)⟩, ⟨⟨274, by decide, (kRi (M := mL_act) (kCV (M := mL_act) (ci := 6) (kR_n (M := mL_act) dL_act_274 rfl) (kaN (M := mL_act)) dL_act_275 ctX6_slip mdX6_slip imX6_slip seX6_slip clX6 mkL_63 ⟨(Nat.le_of_ble_eq_true rfl), (Nat.le_of_ble_eq_true rfl)⟩ (Nat.le_of_ble_eq_true rfl)) dL_act_278)⟩, ⟨⟨279, by decide, (kRi (M := mL_act) (kCV (M := mL_act) (ci := 6) (kR_n (M := mL_act) dL_act_279 rfl) (kaI (M := mL_act) (kAdd (M := mL_act) (kC_ic (M := mL_act) (v := 1) dL_act_280 kc_iconst_1) (kCS (M := mL_act) (kaI (M := mL_act) (kShr (M := mL_act) (kL_n (M := mL_act) dL_act_281 rfl) (kC_ic (M := mL_act) (v := 5) dL_act_282 kc_iconst_5) dL_act_283) (kaI (M := mL_act) (kC_bi (M := mL_act) (v := 9) dL_act_284 kc_bipush_9) (kaN (M := mL_act)))) dL_act_286 ctL_low mdL_low stL_low mkL_33 ⟨(Nat.le_of_ble_eq_true rfl), (Nat.le_of_ble_eq_true rfl)⟩ (Nat.le_of_ble_eq_true rfl)) dL_act_289) (kaN (M := mL_act))) dL_act_290 ctX6_work mdX6_work imX6_work seX6_work clX6 mkL_67 ⟨(Nat.le_of_ble_eq_true rfl), (Nat.le_of_ble_eq_true rfl)⟩ (Nat.le_of_ble_eq_true rfl)) dL_act_293)⟩, trivial⟩⟩⟩⟩⟩⟩⟩⟩⟩⟩⟩⟩⟩) (by decide))))
def fL_act : zFI := mI bL_act
theorem ctL_act : CtI yL_act cL_act 5 .int 8 182 2 fL_act := ctI mdL_act (Nat.le_of_ble_eq_true rfl) kL_act
/-! TrophyPlatesLaw.isRight -/
theorem mdL_isRight : zMd yL_isRight cL_isRight 7 (some .boolean) 1 := ⟨cdL_isRight, iniL, ⟨by decide +kernel, by decide +kernel⟩, by decide +kernel, by decide +kernel⟩
def bL_isRight : zSS := sSeq (sLi 1 (eC 0)) (sSeq (sLi 2 (eC 0)) (sSeq (sBlk (sSeq (sLi 3 (eC 0)) (sW 4000 (bCmp o_lt (eL 3) (eCV 6 (rL 0) (aI (eC 5) (aN)) fX6_count)) (sSeq (sSeq (sLi 4 (eC 0)) (sSeq (sBlk (sSeq (sLi 5 (eC 1)) (sW 4000 (bCmp o_lt (eL 5) (eC 13)) (sSeq (sSeq (sLi 6 (eCV 6 (rL 0) (aI (eL 3) (aI (eL 5) (aN))) fX6_plateFor)) (sSeq (sLi 4 (eOp (· + ·) (eL 4) (eT (bZ z_ge (eL 6)) (eC 1) (eC 0)))) (sIf (bAnd (bZ z_ge (eL 6)) (bOr (bOr (bCmp o_ne (eCV 6 (rL 0) (aI (eL 6) (aI (eC 2) (aN))) fX6_plate) (eC 2)) (bCmp o_ne (eCV 6 (rL 0) (aI (eL 6) (aI (eC 5) (aN))) fX6_plate) (eL 3))) (bCmp o_ne (eCV 6 (rL 0) (aI (eL 6) (aI (eC 6) (aN))) fX6_plate) (eL 5)))) (sRi (eC 0)) sNop))) (sInc 5 1))))) (sSeq (sLi 5 (eCV 6 (rL 0) (aI (eL 3) (aI (eC 2) (aN))) fX6_shield)) (sSeq (sLi 6 (eCV 6 (rL 0) (aI (eL 3) (aI (eC 3) (aN))) fX6_shield)) (sSeq (sIf (bOr (bOr (bOr (bCmp o_ne (eL 4) (eCV 6 (rL 0) (aI (eL 3) (aI (eC 1) (aN))) fX6_shield)) (bCmp o_gt (eL 4) (eCV 6 (rL 0) (aI (eL 3) (aI (eC 0) (aN))) fX6_shield))) (bCmp o_ne (eCV 6 (rL 0) (aI (eL 3) (aI (eC 4) (aN))) fX6_shield) (eT (bZ z_eq (eL 4)) (eC 0) (eOp (· - ·) (eOp (· + ·) (eOp (· - ·) (eL 6) (eL 5)) (eC 1)) (eL 4))))) (bAnd (bZ z_gt (eL 4)) (bOr (bZ z_lt (eCV 6 (rL 0) (aI (eL 3) (aI (eL 5) (aN))) fX6_plateFor)) (bZ z_lt (eCV 6 (rL 0) (aI (eL 3) (aI (eL 6) (aN))) fX6_plateFor))))) (sRi (eC 0)) sNop) (sSeq (sLi 1 (eOp (· + ·) (eL 1) (eL 4))) (sLi 2 (eOp (· + ·) (eL 2) (eCV 6 (rL 0) (aI (eL 3) (aI (eC 0) (aN))) fX6_shield))))))))) (sInc 3 1))))) (sSeq (sBlk (sSeq (sLi 3 (eC 0)) (sW 4000 (bCmp o_lt (eL 3) (eCV 6 (rL 0) (aI (eC 4) (aN)) fX6_count)) (sSeq (sSeq (sLi 4 (eCV 6 (rL 0) (aI (eL 3) (aI (eC 2) (aN))) fX6_plate)) (sIf (bOr (bOr (bAnd (bCmp o_ne (eL 4) (eC 3)) (bCmp o_lt (eCV 6 (rL 0) (aI (eL 3) (aI (eC 1) (aN))) fX6_plate) (eOp (· + ·) (eOp (· + ·) (eC 2) (eCV 6 (rL 0) (aI (eL 3) (aI (eC 3) (aN))) fX6_plate)) (eCV 6 (rL 0) (aI (eL 3) (aI (eC 4) (aN))) fX6_plate)))) (bAnd (bCmp o_eq (eL 4) (eC 1)) (bCmp o_ne (eCV 6 (rL 0) (aI (eC 10) (aN)) fX6_count) (eL 3)))) (bCmp o_ne (eB (bCmp o_eq (eL 4) (eC 2))) (eB (bZ z_ge (eCV 6 (rL 0) (aI (eL 3) (aI (eC 5) (aN))) fX6_plate))))) (sRi (eC 0)) sNop)) (sInc 3 1))))) (sSeq (sLi 3 (eC 0)) (sSeq (sBlk (sSeq (sLi 4 (eC 0)) (sW 4000 (bCmp o_lt (eL 4) (eCV 6 (rL 0) (aI (eC 6) (aN)) fX6_count)) (sSeq (sSeq (sLi 3 (eOp (· + ·) (eL 3) (eCV 6 (rL 0) (aI (eL 4) (aI (eC 4) (aN))) fX6_orderOf))) (sSeq (sIf (bOr (bOr (bAnd (bZ z_gt (eL 4)) (bCmp o_gt (eCV 6 (rL 0) (aI (eL 4) (aI (eC 4) (aN))) fX6_orderOf) (eCV 6 (rL 0) (aI (eOp (· - ·) (eL 4) (eC 1)) (aI (eC 4) (aN))) fX6_orderOf))) (bZ z_ge (eCV 6 (rL 0) (aI (eCV 6 (rL 0) (aI (eL 4) (aI (eC 0) (aN))) fX6_orderOf) (aI (eCV 6 (rL 0) (aI (eL 4) (aI (eC 1) (aN))) fX6_orderOf) (aN))) fX6_plateFor))) (bCmp o_ne (eCV 6 (rL 0) (aI (eL 4) (aI (eC 7) (aN))) fX6_orderOf) (eOp (· * ·) (eCV 6 (rL 0) (aI (eL 4) (aI (eC 5) (aN))) fX6_orderOf) (eOp (· + ·) (eCV 6 (rL 0) (aI (eL 4) (aI (eC 2) (aN))) fX6_orderOf) (eCV 6 (rL 0) (aI (eL 4) (aI (eC 3) (aN))) fX6_orderOf))))) (sRi (eC 0)) sNop) (sBlk (sSeq (sLi 5 (eC 0)) (sW 4000 (bCmp o_lt (eL 5) (eL 4)) (sSeq (sIf (bAnd (bCmp o_eq (eCV 6 (rL 0) (aI (eL 5) (aI (eC 0) (aN))) fX6_orderOf) (eCV 6 (rL 0) (aI (eL 4) (aI (eC 0) (aN))) fX6_orderOf)) (bCmp o_eq (eCV 6 (rL 0) (aI (eL 5) (aI (eC 1) (aN))) fX6_orderOf) (eCV 6 (rL 0) (aI (eL 4) (aI (eC 1) (aN))) fX6_orderOf))) (sRi (eC 0)) sNop) (sInc 5 1))))))) (sInc 4 1))))) (sSeq (sLi 4 (eB (bZ z_ge (eCV 6 (rL 0) (aI (eC 8) (aN)) fX6_count)))) (sRi (eB (bAnd (bAnd (bAnd (bAnd (bAnd (bAnd (bCmp o_eq (eL 1) (eCV 6 (rL 0) (aI (eC 2) (aN)) fX6_count)) (bCmp o_ge (eL 2) (eL 1))) (bCmp o_eq (eL 3) (eCV 6 (rL 0) (aI (eC 7) (aN)) fX6_count))) (bCmp o_eq (eOp (· + ·) (eOp (· + ·) (eOp (· + ·) (eCV 6 (rL 0) (aI (eC 0) (aN)) fX6_count) (eCV 6 (rL 0) (aI (eC 1) (aN)) fX6_count)) (eCV 6 (rL 0) (aI (eC 2) (aN)) fX6_count)) (eCV 6 (rL 0) (aI (eC 3) (aN)) fX6_count)) (eCV 6 (rL 0) (aI (eC 4) (aN)) fX6_count))) (bCmp o_eq (eCV 6 (rL 0) (aI (eC 1) (aN)) fX6_count) (eT (bZ z_ne (eL 4)) (eC 1) (eC 0)))) (bCmp o_eq (eL 4) (eB (bZ z_gt (eCV 6 (rL 0) (aI (eC 9) (aN)) fX6_count))))) (bCmp o_eq (eL 4) (eB (bZ z_ge (eCV 6 (rL 0) (aI (eC 10) (aN)) fX6_count)))))))))))))
abbrev mL_isRight : zM := (cL_isRight, RL, 7, some .boolean, { frames := 4, cells := 0, slots := 0, locals := 87 }, false)
set_option maxHeartbeats 400000 in
set_option maxRecDepth 20000 in
theorem kL_isRight : ssOk mL_isRight 0 612 bL_isRight := (kSeq (M := mL_isRight) (kSi_n (M := mL_isRight) (kC_ic (M := mL_isRight) (v := 0) dL_isRight_0 kc_iconst_0) dL_isRight_1 rfl (by decide)) (kSeq (M := mL_isRight) (kSi_n (M := mL_isRight) (kC_ic (M := mL_isRight) (v := 0) dL_isRight_2 kc_iconst_0) dL_isRight_3 rfl (by decide)) (kSeq (M := mL_isRight) (kBlk (M := mL_isRight) (kSeq (M := mL_isRight) (kSi_n (M := mL_isRight) (kC_ic (M := mL_isRight) (v := 0) dL_isRight_4 kc_iconst_0) dL_isRight_5 rfl (by decide)) (kWn (M := mL_isRight) (N := 4000) (kB_ltF (M := mL_isRight) (kL_n (M := mL_isRight) dL_isRight_6 rfl) (kCV (M := mL_isRight) (ci := 6) (kR_n (M := mL_isRight) dL_isRight_7 rfl) (kaI (M := mL_isRight) (kC_ic (M := mL_isRight) (v := 5) dL_isRight_8 kc_iconst_5) (kaN (M := mL_isRight))) dL_isRight_9 ctX6_count mdX6_count imX6_count seX6_count clX6 mkL_12 ⟨(Nat.le_of_ble_eq_true rfl), (Nat.le_of_ble_eq_true rfl)⟩ (Nat.le_of_ble_eq_true rfl)) dL_isRight_12 (by decide) rfl) (kGo (M := mL_isRight) (kSeq (M := mL_isRight) (kSeq (M := mL_isRight) (kSi (M := mL_isRight) (kC_ic (M := mL_isRight) (v := 0) dL_isRight_15 kc_iconst_0) dL_isRight_16 (by decide)) (kSeq (M := mL_isRight) (kBlk (M := mL_isRight) (kSeq (M := mL_isRight) (kSi (M := mL_isRight) (kC_ic (M := mL_isRight) (v := 1) dL_isRight_18 kc_iconst_1) dL_isRight_19 (by decide)) (kWn (M := mL_isRight) (N := 4000) (kB_ltF (M := mL_isRight) (kL (M := mL_isRight) dL_isRight_21) (kC_bi (M := mL_isRight) (v := 13) dL_isRight_23 kc_bipush_13) dL_isRight_25 (by decide) rfl) (kGo (M := mL_isRight) (kSeq (M := mL_isRight) (kSeq (M := mL_isRight) (kSi (M := mL_isRight) (kCV (M := mL_isRight) (ci := 6) (kR_n (M := mL_isRight) dL_isRight_28 rfl) (kaI (M := mL_isRight) (kL_n (M := mL_isRight) dL_isRight_29 rfl) (kaI (M := mL_isRight) (kL (M := mL_isRight) dL_isRight_30) (kaN (M := mL_isRight)))) dL_isRight_32 ctX6_plateFor mdX6_plateFor imX6_plateFor seX6_plateFor clX6 mkL_70 ⟨(Nat.le_of_ble_eq_true rfl), (Nat.le_of_ble_eq_true rfl)⟩ (Nat.le_of_ble_eq_true rfl)) dL_isRight_35 (by decide)) (kSeq (M := mL_isRight) (kSi (M := mL_isRight) (kAdd (M := mL_isRight) (kL (M := mL_isRight) dL_isRight_37) (kT (M := mL_isRight) (kZ_geF (M := mL_isRight) (kL (M := mL_isRight) dL_isRight_39) dL_isRight_41 (by decide) rfl) (kC_ic (M := mL_isRight) (v := 1) dL_isRight_44 kc_iconst_1) dL_isRight_45 (by decide) (kC_ic (M := mL_isRight) (v := 0) dL_isRight_48 kc_iconst_0)) dL_isRight_49) dL_isRight_50 (by decide)) (kIf (M := mL_isRight) (kBand (M := mL_isRight) (kZ_geF (M := mL_isRight) (kL (M := mL_isRight) dL_isRight_52) dL_isRight_54 (by decide) rfl) (kBor (M := mL_isRight) (kBor (M := mL_isRight) (kB_neT (M := mL_isRight) (kCV (M := mL_isRight) (ci := 6) (kR_n (M := mL_isRight) dL_isRight_57 rfl) (kaI (M := mL_isRight) (kL (M := mL_isRight) dL_isRight_58) (kaI (M := mL_isRight) (kC_ic (M := mL_isRight) (v := 2) dL_isRight_60 kc_iconst_2) (kaN (M := mL_isRight)))) dL_isRight_61 ctX6_plate mdX6_plate imX6_plate seX6_plate clX6 mkL_18 ⟨(Nat.le_of_ble_eq_true rfl), (Nat.le_of_ble_eq_true rfl)⟩ (Nat.le_of_ble_eq_true rfl)) (kC_ic (M := mL_isRight) (v := 2) dL_isRight_64 kc_iconst_2) dL_isRight_65 (by decide) rfl) (kB_neT (M := mL_isRight) (kCV (M := mL_isRight) (ci := 6) (kR_n (M := mL_isRight) dL_isRight_68 rfl) (kaI (M := mL_isRight) (kL (M := mL_isRight) dL_isRight_69) (kaI (M := mL_isRight) (kC_ic (M := mL_isRight) (v := 5) dL_isRight_71 kc_iconst_5) (kaN (M := mL_isRight)))) dL_isRight_72 ctX6_plate mdX6_plate imX6_plate seX6_plate clX6 mkL_18 ⟨(Nat.le_of_ble_eq_true rfl), (Nat.le_of_ble_eq_true rfl)⟩ (Nat.le_of_ble_eq_true rfl)) (kL_n (M := mL_isRight) dL_isRight_75 rfl) dL_isRight_76 (by decide) rfl)) (kB_neF (M := mL_isRight) (kCV (M := mL_isRight) (ci := 6) (kR_n (M := mL_isRight) dL_isRight_79 rfl) (kaI (M := mL_isRight) (kL (M := mL_isRight) dL_isRight_80) (kaI (M := mL_isRight) (kC_bi (M := mL_isRight) (v := 6) dL_isRight_82 kc_bipush_6) (kaN (M := mL_isRight)))) dL_isRight_84 ctX6_plate mdX6_plate imX6_plate seX6_plate clX6 mkL_18 ⟨(Nat.le_of_ble_eq_true rfl), (Nat.le_of_ble_eq_true rfl)⟩ (Nat.le_of_ble_eq_true rfl)) (kL (M := mL_isRight) dL_isRight_87) dL_isRight_89 (by decide) rfl))) (kRi (M := mL_isRight) (kC_ic (M := mL_isRight) (v := 0) dL_isRight_92 kc_iconst_0) dL_isRight_93) (kNop (M := mL_isRight))))) (kInc (M := mL_isRight) (v := 1) dL_isRight_94 kc_iconst_1 (by decide))) dL_isRight_97 (by decide))))) (kSeq (M := mL_isRight) (kSi (M := mL_isRight) (kCV (M := mL_isRight) (ci := 6) (kR_n (M := mL_isRight) dL_isRight_100 rfl) (kaI (M := mL_isRight) (kL_n (M := mL_isRight) dL_isRight_101 rfl) (kaI (M := mL_isRight) (kC_ic (M := mL_isRight) (v := 2) dL_isRight_102 kc_iconst_2) (kaN (M := mL_isRight)))) dL_isRight_103 ctX6_shield mdX6_shield imX6_shield seX6_shield clX6 mkL_30 ⟨(Nat.le_of_ble_eq_true rfl), (Nat.le_of_ble_eq_true rfl)⟩ (Nat.le_of_ble_eq_true rfl)) dL_isRight_106 (by decide)) (kSeq (M := mL_isRight) (kSi (M := mL_isRight) (kCV (M := mL_isRight) (ci := 6) (kR_n (M := mL_isRight) dL_isRight_108 rfl) (kaI (M := mL_isRight) (kL_n (M := mL_isRight) dL_isRight_109 rfl) (kaI (M := mL_isRight) (kC_ic (M := mL_isRight) (v := 3) dL_isRight_110 kc_iconst_3) (kaN (M := mL_isRight)))) dL_isRight_111 ctX6_shield mdX6_shield imX6_shield seX6_shield clX6 mkL_30 ⟨(Nat.le_of_ble_eq_true rfl), (Nat.le_of_ble_eq_true rfl)⟩ (Nat.le_of_ble_eq_true rfl)) dL_isRight_114 (by decide)) (kSeq (M := mL_isRight) (kIf (M := mL_isRight) (kBor (M := mL_isRight) (kBor (M := mL_isRight) (kBor (M := mL_isRight) (kB_neT (M := mL_isRight) (kL (M := mL_isRight) dL_isRight_116) (kCV (M := mL_isRight) (ci := 6) (kR_n (M := mL_isRight) dL_isRight_118 rfl) (kaI (M := mL_isRight) (kL_n (M := mL_isRight) dL_isRight_119 rfl) (kaI (M := mL_isRight) (kC_ic (M := mL_isRight) (v := 1) dL_isRight_120 kc_iconst_1) (kaN (M := mL_isRight)))) dL_isRight_121 ctX6_shield mdX6_shield imX6_shield seX6_shield clX6 mkL_30 ⟨(Nat.le_of_ble_eq_true rfl), (Nat.le_of_ble_eq_true rfl)⟩ (Nat.le_of_ble_eq_true rfl)) dL_isRight_124 (by decide) rfl) (kB_gtT (M := mL_isRight) (kL (M := mL_isRight) dL_isRight_127) (kCV (M := mL_isRight) (ci := 6) (kR_n (M := mL_isRight) dL_isRight_129 rfl) (kaI (M := mL_isRight) (kL_n (M := mL_isRight) dL_isRight_130 rfl) (kaI (M := mL_isRight) (kC_ic (M := mL_isRight) (v := 0) dL_isRight_131 kc_iconst_0) (kaN (M := mL_isRight)))) dL_isRight_132 ctX6_shield mdX6_shield imX6_shield seX6_shield clX6 mkL_30 ⟨(Nat.le_of_ble_eq_true rfl), (Nat.le_of_ble_eq_true rfl)⟩ (Nat.le_of_ble_eq_true rfl)) dL_isRight_135 (by decide) rfl)) (kB_neT (M := mL_isRight) (kCV (M := mL_isRight) (ci := 6) (kR_n (M := mL_isRight) dL_isRight_138 rfl) (kaI (M := mL_isRight) (kL_n (M := mL_isRight) dL_isRight_139 rfl) (kaI (M := mL_isRight) (kC_ic (M := mL_isRight) (v := 4) dL_isRight_140 kc_iconst_4) (kaN (M := mL_isRight)))) dL_isRight_141 ctX6_shield mdX6_shield imX6_shield seX6_shield clX6 mkL_30 ⟨(Nat.le_of_ble_eq_true rfl), (Nat.le_of_ble_eq_true rfl)⟩ (Nat.le_of_ble_eq_true rfl)) (kT (M := mL_isRight) (kZ_eqF (M := mL_isRight) (kL (M := mL_isRight) dL_isRight_144) dL_isRight_146 (by decide) rfl) (kC_ic (M := mL_isRight) (v := 0) dL_isRight_149 kc_iconst_0) dL_isRight_150 (by decide) (kSub (M := mL_isRight) (kAdd (M := mL_isRight) (kSub (M := mL_isRight) (kL (M := mL_isRight) dL_isRight_153) (kL (M := mL_isRight) dL_isRight_155) dL_isRight_157) (kC_ic (M := mL_isRight) (v := 1) dL_isRight_158 kc_iconst_1) dL_isRight_159) (kL (M := mL_isRight) dL_isRight_160) dL_isRight_162)) dL_isRight_163 (by decide) rfl)) (kBand (M := mL_isRight) (kZ_gtF (M := mL_isRight) (kL (M := mL_isRight) dL_isRight_166) dL_isRight_168 (by decide) rfl) (kBor (M := mL_isRight) (kZ_ltT (M := mL_isRight) (kCV (M := mL_isRight) (ci := 6) (kR_n (M := mL_isRight) dL_isRight_171 rfl) (kaI (M := mL_isRight) (kL_n (M := mL_isRight) dL_isRight_172 rfl) (kaI (M := mL_isRight) (kL (M := mL_isRight) dL_isRight_173) (kaN (M := mL_isRight)))) dL_isRight_175 ctX6_plateFor mdX6_plateFor imX6_plateFor seX6_plateFor clX6 mkL_70 ⟨(Nat.le_of_ble_eq_true rfl), (Nat.le_of_ble_eq_true rfl)⟩ (Nat.le_of_ble_eq_true rfl)) dL_isRight_178 (by decide) rfl) (kZ_ltF (M := mL_isRight) (kCV (M := mL_isRight) (ci := 6) (kR_n (M := mL_isRight) dL_isRight_181 rfl) (kaI (M := mL_isRight) (kL_n (M := mL_isRight) dL_isRight_182 rfl) (kaI (M := mL_isRight) (kL (M := mL_isRight) dL_isRight_183) (kaN (M := mL_isRight)))) dL_isRight_185 ctX6_plateFor mdX6_plateFor imX6_plateFor seX6_plateFor clX6 mkL_70 ⟨(Nat.le_of_ble_eq_true rfl), (Nat.le_of_ble_eq_true rfl)⟩ (Nat.le_of_ble_eq_true rfl)) dL_isRight_188 (by decide) rfl)))) (kRi (M := mL_isRight) (kC_ic (M := mL_isRight) (v := 0) dL_isRight_191 kc_iconst_0) dL_isRight_192) (kNop (M := mL_isRight))) (kSeq (M := mL_isRight) (kSi_n (M := mL_isRight) (kAdd (M := mL_isRight) (kL_n (M := mL_isRight) dL_isRight_193 rfl) (kL (M := mL_isRight) dL_isRight_194) dL_isRight_196) dL_isRight_197 rfl (by decide)) (kSi_n (M := mL_isRight) (kAdd (M := mL_isRight) (kL_n (M := mL_isRight) dL_isRight_198 rfl) (kCV (M := mL_isRight) (ci := 6) (kR_n (M := mL_isRight) dL_isRight_199 rfl) (kaI (M := mL_isRight) (kL_n (M := mL_isRight) dL_isRight_200 rfl) (kaI (M := mL_isRight) (kC_ic (M := mL_isRight) (v := 0) dL_isRight_201 kc_iconst_0) (kaN (M := mL_isRight)))) dL_isRight_202 ctX6_shield mdX6_shield imX6_shield seX6_shield clX6 mkL_30 ⟨(Nat.le_of_ble_eq_true rfl), (Nat.le_of_ble_eq_true rfl)⟩ (Nat.le_of_ble_eq_true rfl)) dL_isRight_205) dL_isRight_206 rfl (by decide)))))))) (kInc (M := mL_isRight) (v := 1) dL_isRight_207 kc_iconst_1 (by decide))) dL_isRight_210 (by decide))))) (kSeq (M := mL_isRight) (kBlk (M := mL_isRight) (kSeq (M := mL_isRight) (kSi_n (M := mL_isRight) (kC_ic (M := mL_isRight) (v := 0) dL_isRight_213 kc_iconst_0) dL_isRight_214 rfl (by decide)) (kWn (M := mL_isRight) (N := 4000) (kB_ltF (M := mL_isRight) (kL_n (M := mL_isRight) dL_isRight_215 rfl) (kCV (M := mL_isRight) (ci := 6) (kR_n (M := mL_isRight) dL_isRight_216 rfl) (kaI (M := mL_isRight) (kC_ic (M := mL_isRight) (v := 4) dL_isRight_217 kc_iconst_4) (kaN (M := mL_isRight))) dL_isRight_218 ctX6_count mdX6_count imX6_count seX6_count clX6 mkL_12 ⟨(Nat.le_of_ble_eq_true rfl), (Nat.le_of_ble_eq_true rfl)⟩ (Nat.le_of_ble_eq_true rfl)) dL_isRight_221 (by decide) rfl) (kGo (M := mL_isRight) (kSeq (M := mL_isRight) (kSeq (M := mL_isRight) (kSi (M := mL_isRight) (kCV (M := mL_isRight) (ci := 6) (kR_n (M := mL_isRight) dL_isRight_224 rfl) (kaI (M := mL_isRight) (kL_n (M := mL_isRight) dL_isRight_225 rfl) (kaI (M := mL_isRight) (kC_ic (M := mL_isRight) (v := 2) dL_isRight_226 kc_iconst_2) (kaN (M := mL_isRight)))) dL_isRight_227 ctX6_plate mdX6_plate imX6_plate seX6_plate clX6 mkL_18 ⟨(Nat.le_of_ble_eq_true rfl), (Nat.le_of_ble_eq_true rfl)⟩ (Nat.le_of_ble_eq_true rfl)) dL_isRight_230 (by decide)) (kIf (M := mL_isRight) (kBor (M := mL_isRight) (kBor (M := mL_isRight) (kBand (M := mL_isRight) (kB_neF (M := mL_isRight) (kL (M := mL_isRight) dL_isRight_232) (kC_ic (M := mL_isRight) (v := 3) dL_isRight_234 kc_iconst_3) dL_isRight_235 (by decide) rfl) (kB_ltT (M := mL_isRight) (kCV (M := mL_isRight) (ci := 6) (kR_n (M := mL_isRight) dL_isRight_238 rfl) (kaI (M := mL_isRight) (kL_n (M := mL_isRight) dL_isRight_239 rfl) (kaI (M := mL_isRight) (kC_ic (M := mL_isRight) (v := 1) dL_isRight_240 kc_iconst_1) (kaN (M := mL_isRight)))) dL_isRight_241 ctX6_plate mdX6_plate imX6_plate seX6_plate clX6 mkL_18 ⟨(Nat.le_of_ble_eq_true rfl), (Nat.le_of_ble_eq_true rfl)⟩ (Nat.le_of_ble_eq_true rfl)) (kAdd (M := mL_isRight) (kAdd (M := mL_isRight) (kC_ic (M := mL_isRight) (v := 2) dL_isRight_244 kc_iconst_2) (kCV (M := mL_isRight) (ci := 6) (kR_n (M := mL_isRight) dL_isRight_245 rfl) (kaI (M := mL_isRight) (kL_n (M := mL_isRight) dL_isRight_246 rfl) (kaI (M := mL_isRight) (kC_ic (M := mL_isRight) (v := 3) dL_isRight_247 kc_iconst_3) (kaN (M := mL_isRight)))) dL_isRight_248 ctX6_plate mdX6_plate imX6_plate seX6_plate clX6 mkL_18 ⟨(Nat.le_of_ble_eq_true rfl), (Nat.le_of_ble_eq_true rfl)⟩ (Nat.le_of_ble_eq_true rfl)) dL_isRight_251) (kCV (M := mL_isRight) (ci := 6) (kR_n (M := mL_isRight) dL_isRight_252 rfl) (kaI (M := mL_isRight) (kL_n (M := mL_isRight) dL_isRight_253 rfl) (kaI (M := mL_isRight) (kC_ic (M := mL_isRight) (v := 4) dL_isRight_254 kc_iconst_4) (kaN (M := mL_isRight)))) dL_isRight_255 ctX6_plate mdX6_plate imX6_plate seX6_plate clX6 mkL_18 ⟨(Nat.le_of_ble_eq_true rfl), (Nat.le_of_ble_eq_true rfl)⟩ (Nat.le_of_ble_eq_true rfl)) dL_isRight_258) dL_isRight_259 (by decide) rfl)) (kBand (M := mL_isRight) (kB_eqF (M := mL_isRight) (kL (M := mL_isRight) dL_isRight_262) (kC_ic (M := mL_isRight) (v := 1) dL_isRight_264 kc_iconst_1) dL_isRight_265 (by decide) rfl) (kB_neT (M := mL_isRight) (kCV (M := mL_isRight) (ci := 6) (kR_n (M := mL_isRight) dL_isRight_268 rfl) (kaI (M := mL_isRight) (kC_bi (M := mL_isRight) (v := 10) dL_isRight_269 kc_bipush_10) (kaN (M := mL_isRight))) dL_isRight_271 ctX6_count mdX6_count imX6_count seX6_count clX6 mkL_12 ⟨(Nat.le_of_ble_eq_true rfl), (Nat.le_of_ble_eq_true rfl)⟩ (Nat.le_of_ble_eq_true rfl)) (kL_n (M := mL_isRight) dL_isRight_274 rfl) dL_isRight_275 (by decide) rfl))) (kB_neF (M := mL_isRight) (kEB (M := mL_isRight) (kB_eqF (M := mL_isRight) (kL (M := mL_isRight) dL_isRight_278) (kC_ic (M := mL_isRight) (v := 2) dL_isRight_280 kc_iconst_2) dL_isRight_281 (by decide) rfl) dL_isRight_284 dL_isRight_285 (by decide) dL_isRight_288 rfl) (kEB (M := mL_isRight) (kZ_geF (M := mL_isRight) (kCV (M := mL_isRight) (ci := 6) (kR_n (M := mL_isRight) dL_isRight_289 rfl) (kaI (M := mL_isRight) (kL_n (M := mL_isRight) dL_isRight_290 rfl) (kaI (M := mL_isRight) (kC_ic (M := mL_isRight) (v := 5) dL_isRight_291 kc_iconst_5) (kaN (M := mL_isRight)))) dL_isRight_292 ctX6_plate mdX6_plate imX6_plate seX6_plate clX6 mkL_18 ⟨(Nat.le_of_ble_eq_true rfl), (Nat.le_of_ble_eq_true rfl)⟩ (Nat.le_of_ble_eq_true rfl)) dL_isRight_295 (by decide) rfl) dL_isRight_298 dL_isRight_299 (by decide) dL_isRight_302 rfl) dL_isRight_303 (by decide) rfl)) (kRi (M := mL_isRight) (kC_ic (M := mL_isRight) (v := 0) dL_isRight_306 kc_iconst_0) dL_isRight_307) (kNop (M := mL_isRight)))) (kInc (M := mL_isRight) (v := 1) dL_isRight_308 kc_iconst_1 (by decide))) dL_isRight_311 (by decide))))) (kSeq (M := mL_isRight) (kSi_n (M := mL_isRight) (kC_ic (M := mL_isRight) (v := 0) dL_isRight_314 kc_iconst_0) dL_isRight_315 rfl (by decide)) (kSeq (M := mL_isRight) (kBlk (M := mL_isRight) (kSeq (M := mL_isRight) (kSi (M := mL_isRight) (kC_ic (M := mL_isRight) (v := 0) dL_isRight_316 kc_iconst_0) dL_isRight_317 (by decide)) (kWn (M := mL_isRight) (N := 4000) (kB_ltF (M := mL_isRight) (kL (M := mL_isRight) dL_isRight_319) (kCV (M := mL_isRight) (ci := 6) (kR_n (M := mL_isRight) dL_isRight_321 rfl) (kaI (M := mL_isRight) (kC_bi (M := mL_isRight) (v := 6) dL_isRight_322 kc_bipush_6) (kaN (M := mL_isRight))) dL_isRight_324 ctX6_count mdX6_count imX6_count seX6_count clX6 mkL_12 ⟨(Nat.le_of_ble_eq_true rfl), (Nat.le_of_ble_eq_true rfl)⟩ (Nat.le_of_ble_eq_true rfl)) dL_isRight_327 (by decide) rfl) (kGo (M := mL_isRight) (kSeq (M := mL_isRight) (kSeq (M := mL_isRight) (kSi_n (M := mL_isRight) (kAdd (M := mL_isRight) (kL_n (M := mL_isRight) dL_isRight_330 rfl) (kCV (M := mL_isRight) (ci := 6) (kR_n (M := mL_isRight) dL_isRight_331 rfl) (kaI (M := mL_isRight) (kL (M := mL_isRight) dL_isRight_332) (kaI (M := mL_isRight) (kC_ic (M := mL_isRight) (v := 4) dL_isRight_334 kc_iconst_4) (kaN (M := mL_isRight)))) dL_isRight_335 ctX6_orderOf mdX6_orderOf imX6_orderOf seX6_orderOf clX6 mkL_22 ⟨(Nat.le_of_ble_eq_true rfl), (Nat.le_of_ble_eq_true rfl)⟩ (Nat.le_of_ble_eq_true rfl)) dL_isRight_338) dL_isRight_339 rfl (by decide)) (kSeq (M := mL_isRight) (kIf (M := mL_isRight) (kBor (M := mL_isRight) (kBor (M := mL_isRight) (kBand (M := mL_isRight) (kZ_gtF (M := mL_isRight) (kL (M := mL_isRight) dL_isRight_340) dL_isRight_342 (by decide) rfl) (kB_gtT (M := mL_isRight) (kCV (M := mL_isRight) (ci := 6) (kR_n (M := mL_isRight) dL_isRight_345 rfl) (kaI (M := mL_isRight) (kL (M := mL_isRight) dL_isRight_346) (kaI (M := mL_isRight) (kC_ic (M := mL_isRight) (v := 4) dL_isRight_348 kc_iconst_4) (kaN (M := mL_isRight)))) dL_isRight_349 ctX6_orderOf mdX6_orderOf imX6_orderOf seX6_orderOf clX6 mkL_22 ⟨(Nat.le_of_ble_eq_true rfl), (Nat.le_of_ble_eq_true rfl)⟩ (Nat.le_of_ble_eq_true rfl)) (kCV (M := mL_isRight) (ci := 6) (kR_n (M := mL_isRight) dL_isRight_352 rfl) (kaI (M := mL_isRight) (kSub (M := mL_isRight) (kL (M := mL_isRight) dL_isRight_353) (kC_ic (M := mL_isRight) (v := 1) dL_isRight_355 kc_iconst_1) dL_isRight_356) (kaI (M := mL_isRight) (kC_ic (M := mL_isRight) (v := 4) dL_isRight_357 kc_iconst_4) (kaN (M := mL_isRight)))) dL_isRight_358 ctX6_orderOf mdX6_orderOf imX6_orderOf seX6_orderOf clX6 mkL_22 ⟨(Nat.le_of_ble_eq_true rfl), (Nat.le_of_ble_eq_true rfl)⟩ (Nat.le_of_ble_eq_true rfl)) dL_isRight_361 (by decide) rfl)) (kZ_geT (M := mL_isRight) (kCV (M := mL_isRight) (ci := 6) (kR_n (M := mL_isRight) dL_isRight_364 rfl) (kaI (M := mL_isRight) (kCV (M := mL_isRight) (ci := 6) (kR_n (M := mL_isRight) dL_isRight_365 rfl) (kaI (M := mL_isRight) (kL (M := mL_isRight) dL_isRight_366) (kaI (M := mL_isRight) (kC_ic (M := mL_isRight) (v := 0) dL_isRight_368 kc_iconst_0) (kaN (M := mL_isRight)))) dL_isRight_369 ctX6_orderOf mdX6_orderOf imX6_orderOf seX6_orderOf clX6 mkL_22 ⟨(Nat.le_of_ble_eq_true rfl), (Nat.le_of_ble_eq_true rfl)⟩ (Nat.le_of_ble_eq_true rfl)) (kaI (M := mL_isRight) (kCV (M := mL_isRight) (ci := 6) (kR_n (M := mL_isRight) dL_isRight_372 rfl) (kaI (M := mL_isRight) (kL (M := mL_isRight) dL_isRight_373) (kaI (M := mL_isRight) (kC_ic (M := mL_isRight) (v := 1) dL_isRight_375 kc_iconst_1) (kaN (M := mL_isRight)))) dL_isRight_376 ctX6_orderOf mdX6_orderOf imX6_orderOf seX6_orderOf clX6 mkL_22 ⟨(Nat.le_of_ble_eq_true rfl), (Nat.le_of_ble_eq_true rfl)⟩ (Nat.le_of_ble_eq_true rfl)) (kaN (M := mL_isRight)))) dL_isRight_379 ctX6_plateFor mdX6_plateFor imX6_plateFor seX6_plateFor clX6 mkL_70 ⟨(Nat.le_of_ble_eq_true rfl), (Nat.le_of_ble_eq_true rfl)⟩ (Nat.le_of_ble_eq_true rfl)) dL_isRight_382 (by decide) rfl)) (kB_neF (M := mL_isRight) (kCV (M := mL_isRight) (ci := 6) (kR_n (M := mL_isRight) dL_isRight_385 rfl) (kaI (M := mL_isRight) (kL (M := mL_isRight) dL_isRight_386) (kaI (M := mL_isRight) (kC_bi (M := mL_isRight) (v := 7) dL_isRight_388 kc_bipush_7) (kaN (M := mL_isRight)))) dL_isRight_390 ctX6_orderOf mdX6_orderOf imX6_orderOf seX6_orderOf clX6 mkL_22 ⟨(Nat.le_of_ble_eq_true rfl), (Nat.le_of_ble_eq_true rfl)⟩ (Nat.le_of_ble_eq_true rfl)) (kMul (M := mL_isRight) (kCV (M := mL_isRight) (ci := 6) (kR_n (M := mL_isRight) dL_isRight_393 rfl) (kaI (M := mL_isRight) (kL (M := mL_isRight) dL_isRight_394) (kaI (M := mL_isRight) (kC_ic (M := mL_isRight) (v := 5) dL_isRight_396 kc_iconst_5) (kaN (M := mL_isRight)))) dL_isRight_397 ctX6_orderOf mdX6_orderOf imX6_orderOf seX6_orderOf clX6 mkL_22 ⟨(Nat.le_of_ble_eq_true rfl), (Nat.le_of_ble_eq_true rfl)⟩ (Nat.le_of_ble_eq_true rfl)) (kAdd (M := mL_isRight) (kCV (M := mL_isRight) (ci := 6) (kR_n (M := mL_isRight) dL_isRight_400 rfl) (kaI (M := mL_isRight) (kL (M := mL_isRight) dL_isRight_401) (kaI (M := mL_isRight) (kC_ic (M := mL_isRight) (v := 2) dL_isRight_403 kc_iconst_2) (kaN (M := mL_isRight)))) dL_isRight_404 ctX6_orderOf mdX6_orderOf imX6_orderOf seX6_orderOf clX6 mkL_22 ⟨(Nat.le_of_ble_eq_true rfl), (Nat.le_of_ble_eq_true rfl)⟩ (Nat.le_of_ble_eq_true rfl)) (kCV (M := mL_isRight) (ci := 6) (kR_n (M := mL_isRight) dL_isRight_407 rfl) (kaI (M := mL_isRight) (kL (M := mL_isRight) dL_isRight_408) (kaI (M := mL_isRight) (kC_ic (M := mL_isRight) (v := 3) dL_isRight_410 kc_iconst_3) (kaN (M := mL_isRight)))) dL_isRight_411 ctX6_orderOf mdX6_orderOf imX6_orderOf seX6_orderOf clX6 mkL_22 ⟨(Nat.le_of_ble_eq_true rfl), (Nat.le_of_ble_eq_true rfl)⟩ (Nat.le_of_ble_eq_true rfl)) dL_isRight_414) dL_isRight_415) dL_isRight_416 (by decide) rfl)) (kRi (M := mL_isRight) (kC_ic (M := mL_isRight) (v := 0) dL_isRight_419 kc_iconst_0) dL_isRight_420) (kNop (M := mL_isRight))) (kBlk (M := mL_isRight) (kSeq (M := mL_isRight) (kSi (M := mL_isRight) (kC_ic (M := mL_isRight) (v := 0) dL_isRight_421 kc_iconst_0) dL_isRight_422 (by decide)) (kWn (M := mL_isRight) (N := 4000) (kB_ltF (M := mL_isRight) (kL (M := mL_isRight) dL_isRight_424) (kL (M := mL_isRight) dL_isRight_426) dL_isRight_428 (by decide) rfl) (kGo (M := mL_isRight) (kSeq (M := mL_isRight) (kIf (M := mL_isRight) (kBand (M := mL_isRight) (kB_eqF (M := mL_isRight) (kCV (M := mL_isRight) (ci := 6) (kR_n (M := mL_isRight) dL_isRight_431 rfl) (kaI (M := mL_isRight) (kL (M := mL_isRight) dL_isRight_432) (kaI (M := mL_isRight) (kC_ic (M := mL_isRight) (v := 0) dL_isRight_434 kc_iconst_0) (kaN (M := mL_isRight)))) dL_isRight_435 ctX6_orderOf mdX6_orderOf imX6_orderOf seX6_orderOf clX6 mkL_22 ⟨(Nat.le_of_ble_eq_true rfl), (Nat.le_of_ble_eq_true rfl)⟩ (Nat.le_of_ble_eq_true rfl)) (kCV (M := mL_isRight) (ci := 6) (kR_n (M := mL_isRight) dL_isRight_438 rfl) (kaI (M := mL_isRight) (kL (M := mL_isRight) dL_isRight_439) (kaI (M := mL_isRight) (kC_ic (M := mL_isRight) (v := 0) dL_isRight_441 kc_iconst_0) (kaN (M := mL_isRight)))) dL_isRight_442 ctX6_orderOf mdX6_orderOf imX6_orderOf seX6_orderOf clX6 mkL_22 ⟨(Nat.le_of_ble_eq_true rfl), (Nat.le_of_ble_eq_true rfl)⟩ (Nat.le_of_ble_eq_true rfl)) dL_isRight_445 (by decide) rfl) (kB_eqF (M := mL_isRight) (kCV (M := mL_isRight) (ci := 6) (kR_n (M := mL_isRight) dL_isRight_448 rfl) (kaI (M := mL_isRight) (kL (M := mL_isRight) dL_isRight_449) (kaI (M := mL_isRight) (kC_ic (M := mL_isRight) (v := 1) dL_isRight_451 kc_iconst_1) (kaN (M := mL_isRight)))) dL_isRight_452 ctX6_orderOf mdX6_orderOf imX6_orderOf seX6_orderOf clX6 mkL_22 ⟨(Nat.le_of_ble_eq_true rfl), (Nat.le_of_ble_eq_true rfl)⟩ (Nat.le_of_ble_eq_true rfl)) (kCV (M := mL_isRight) (ci := 6) (kR_n (M := mL_isRight) dL_isRight_455 rfl) (kaI (M := mL_isRight) (kL (M := mL_isRight) dL_isRight_456) (kaI (M := mL_isRight) (kC_ic (M := mL_isRight) (v := 1) dL_isRight_458 kc_iconst_1) (kaN (M := mL_isRight)))) dL_isRight_459 ctX6_orderOf mdX6_orderOf imX6_orderOf seX6_orderOf clX6 mkL_22 ⟨(Nat.le_of_ble_eq_true rfl), (Nat.le_of_ble_eq_true rfl)⟩ (Nat.le_of_ble_eq_true rfl)) dL_isRight_462 (by decide) rfl)) (kRi (M := mL_isRight) (kC_ic (M := mL_isRight) (v := 0) dL_isRight_465 kc_iconst_0) dL_isRight_466) (kNop (M := mL_isRight))) (kInc (M := mL_isRight) (v := 1) dL_isRight_467 kc_iconst_1 (by decide))) dL_isRight_470 (by decide))))))) (kInc (M := mL_isRight) (v := 1) dL_isRight_473 kc_iconst_1 (by decide))) dL_isRight_476 (by decide))))) (kSeq (M := mL_isRight) (kSi (M := mL_isRight) (kEB (M := mL_isRight) (kZ_geF (M := mL_isRight) (kCV (M := mL_isRight) (ci := 6) (kR_n (M := mL_isRight) dL_isRight_479 rfl) (kaI (M := mL_isRight) (kC_bi (M := mL_isRight) (v := 8) dL_isRight_480 kc_bipush_8) (kaN (M := mL_isRight))) dL_isRight_482 ctX6_count mdX6_count imX6_count seX6_count clX6 mkL_12 ⟨(Nat.le_of_ble_eq_true rfl), (Nat.le_of_ble_eq_true rfl)⟩ (Nat.le_of_ble_eq_true rfl)) dL_isRight_485 (by decide) rfl) dL_isRight_488 dL_isRight_489 (by decide) dL_isRight_492 rfl) dL_isRight_493 (by decide)) (kRi (M := mL_isRight) (kEB (M := mL_isRight) (kBand (M := mL_isRight) (kBand (M := mL_isRight) (kBand (M := mL_isRight) (kBand (M := mL_isRight) (kBand (M := mL_isRight) (kBand (M := mL_isRight) (kB_eqF (M := mL_isRight) (kL_n (M := mL_isRight) dL_isRight_495 rfl) (kCV (M := mL_isRight) (ci := 6) (kR_n (M := mL_isRight) dL_isRight_496 rfl) (kaI (M := mL_isRight) (kC_ic (M := mL_isRight) (v := 2) dL_isRight_497 kc_iconst_2) (kaN (M := mL_isRight))) dL_isRight_498 ctX6_count mdX6_count imX6_count seX6_count clX6 mkL_12 ⟨(Nat.le_of_ble_eq_true rfl), (Nat.le_of_ble_eq_true rfl)⟩ (Nat.le_of_ble_eq_true rfl)) dL_isRight_501 (by decide) rfl) (kB_geF (M := mL_isRight) (kL_n (M := mL_isRight) dL_isRight_504 rfl) (kL_n (M := mL_isRight) dL_isRight_505 rfl) dL_isRight_506 (by decide) rfl)) (kB_eqF (M := mL_isRight) (kL_n (M := mL_isRight) dL_isRight_509 rfl) (kCV (M := mL_isRight) (ci := 6) (kR_n (M := mL_isRight) dL_isRight_510 rfl) (kaI (M := mL_isRight) (kC_bi (M := mL_isRight) (v := 7) dL_isRight_511 kc_bipush_7) (kaN (M := mL_isRight))) dL_isRight_513 ctX6_count mdX6_count imX6_count seX6_count clX6 mkL_12 ⟨(Nat.le_of_ble_eq_true rfl), (Nat.le_of_ble_eq_true rfl)⟩ (Nat.le_of_ble_eq_true rfl)) dL_isRight_516 (by decide) rfl)) (kB_eqF (M := mL_isRight) (kAdd (M := mL_isRight) (kAdd (M := mL_isRight) (kAdd (M := mL_isRight) (kCV (M := mL_isRight) (ci := 6) (kR_n (M := mL_isRight) dL_isRight_519 rfl) (kaI (M := mL_isRight) (kC_ic (M := mL_isRight) (v := 0) dL_isRight_520 kc_iconst_0) (kaN (M := mL_isRight))) dL_isRight_521 ctX6_count mdX6_count imX6_count seX6_count clX6 mkL_12 ⟨(Nat.le_of_ble_eq_true rfl), (Nat.le_of_ble_eq_true rfl)⟩ (Nat.le_of_ble_eq_true rfl)) (kCV (M := mL_isRight) (ci := 6) (kR_n (M := mL_isRight) dL_isRight_524 rfl) (kaI (M := mL_isRight) (kC_ic (M := mL_isRight) (v := 1) dL_isRight_525 kc_iconst_1) (kaN (M := mL_isRight))) dL_isRight_526 ctX6_count mdX6_count imX6_count seX6_count clX6 mkL_12 ⟨(Nat.le_of_ble_eq_true rfl), (Nat.le_of_ble_eq_true rfl)⟩ (Nat.le_of_ble_eq_true rfl)) dL_isRight_529) (kCV (M := mL_isRight) (ci := 6) (kR_n (M := mL_isRight) dL_isRight_530 rfl) (kaI (M := mL_isRight) (kC_ic (M := mL_isRight) (v := 2) dL_isRight_531 kc_iconst_2) (kaN (M := mL_isRight))) dL_isRight_532 ctX6_count mdX6_count imX6_count seX6_count clX6 mkL_12 ⟨(Nat.le_of_ble_eq_true rfl), (Nat.le_of_ble_eq_true rfl)⟩ (Nat.le_of_ble_eq_true rfl)) dL_isRight_535) (kCV (M := mL_isRight) (ci := 6) (kR_n (M := mL_isRight) dL_isRight_536 rfl) (kaI (M := mL_isRight) (kC_ic (M := mL_isRight) (v := 3) dL_isRight_537 kc_iconst_3) (kaN (M := mL_isRight))) dL_isRight_538 ctX6_count mdX6_count imX6_count seX6_count clX6 mkL_12 ⟨(Nat.le_of_ble_eq_true rfl), (Nat.le_of_ble_eq_true rfl)⟩ (Nat.le_of_ble_eq_true rfl)) dL_isRight_541) (kCV (M := mL_isRight) (ci := 6) (kR_n (M := mL_isRight) dL_isRight_542 rfl) (kaI (M := mL_isRight) (kC_ic (M := mL_isRight) (v := 4) dL_isRight_543 kc_iconst_4) (kaN (M := mL_isRight))) dL_isRight_544 ctX6_count mdX6_count imX6_count seX6_count clX6 mkL_12 ⟨(Nat.le_of_ble_eq_true rfl), (Nat.le_of_ble_eq_true rfl)⟩ (Nat.le_of_ble_eq_true rfl)) dL_isRight_547 (by decide) rfl)) (kB_eqF (M := mL_isRight) (kCV (M := mL_isRight) (ci := 6) (kR_n (M := mL_isRight) dL_isRight_550 rfl) (kaI (M := mL_isRight) (kC_ic (M := mL_isRight) (v := 1) dL_isRight_551 kc_iconst_1) (kaN (M := mL_isRight))) dL_isRight_552 ctX6_count mdX6_count imX6_count seX6_count clX6 mkL_12 ⟨(Nat.le_of_ble_eq_true rfl), (Nat.le_of_ble_eq_true rfl)⟩ (Nat.le_of_ble_eq_true rfl)) (kT (M := mL_isRight) (kZ_neF (M := mL_isRight) (kL (M := mL_isRight) dL_isRight_555) dL_isRight_557 (by decide) rfl) (kC_ic (M := mL_isRight) (v := 1) dL_isRight_560 kc_iconst_1) dL_isRight_561 (by decide) (kC_ic (M := mL_isRight) (v := 0) dL_isRight_564 kc_iconst_0)) dL_isRight_565 (by decide) rfl)) (kB_eqF (M := mL_isRight) (kL (M := mL_isRight) dL_isRight_568) (kEB (M := mL_isRight) (kZ_gtF (M := mL_isRight) (kCV (M := mL_isRight) (ci := 6) (kR_n (M := mL_isRight) dL_isRight_570 rfl) (kaI (M := mL_isRight) (kC_bi (M := mL_isRight) (v := 9) dL_isRight_571 kc_bipush_9) (kaN (M := mL_isRight))) dL_isRight_573 ctX6_count mdX6_count imX6_count seX6_count clX6 mkL_12 ⟨(Nat.le_of_ble_eq_true rfl), (Nat.le_of_ble_eq_true rfl)⟩ (Nat.le_of_ble_eq_true rfl)) dL_isRight_576 (by decide) rfl) dL_isRight_579 dL_isRight_580 (by decide) dL_isRight_583 rfl) dL_isRight_584 (by decide) rfl)) (kB_eqF (M := mL_isRight) (kL (M := mL_isRight) dL_isRight_587) (kEB (M := mL_isRight) (kZ_geF (M := mL_isRight) (kCV (M := mL_isRight) (ci := 6) (kR_n (M := mL_isRight) dL_isRight_589 rfl) (kaI (M := mL_isRight) (kC_bi (M := mL_isRight) (v := 10) dL_isRight_590 kc_bipush_10) (kaN (M := mL_isRight))) dL_isRight_592 ctX6_count mdX6_count imX6_count seX6_count clX6 mkL_12 ⟨(Nat.le_of_ble_eq_true rfl), (Nat.le_of_ble_eq_true rfl)⟩ (Nat.le_of_ble_eq_true rfl)) dL_isRight_595 (by decide) rfl) dL_isRight_598 dL_isRight_599 (by decide) dL_isRight_602 rfl) dL_isRight_603 (by decide) rfl)) dL_isRight_606 dL_isRight_607 (by decide) dL_isRight_610 rfl) dL_isRight_611))))))))
def fL_isRight : zFI := mZ bL_isRight
theorem ctL_isRight : CtI yL_isRight cL_isRight 7 .boolean 4 87 1 fL_isRight := ctZ mdL_isRight (Nat.le_of_ble_eq_true rfl) kL_isRight
/-! TrophyPlatesLaw.isDone -/
theorem mdL_isDone : zMd yL_isDone cL_isDone 7 (some .boolean) 6 := ⟨cdL_isDone, iniL, ⟨by decide +kernel, by decide +kernel⟩, by decide +kernel, by decide +kernel⟩
def bL_isDone : zSS := sSeq (sLi 6 (eOp (· &&& ·) (eL 1) (eC 15))) (sSeq (sIf (bZ z_lt (eL 2)) (sRi (eB (bAnd (bAnd (bCmp o_eq (eCV 6 (rL 0) (aI (eC 11) (aN)) fX6_count) (eL 3)) (bCmp o_eq (eCV 6 (rL 0) (aI (eC 6) (aN)) fX6_count) (eL 4))) (bCmp o_eq (eCV 6 (rL 0) (aI (eC 12) (aN)) fX6_count) (eL 5))))) sNop) (sSeq (sIf (bCmp o_gt (eL 6) (eC 11)) (sRi (eB (bAnd (bCmp o_eq (eCV 6 (rL 0) (aI (eC 11) (aN)) fX6_count) (eOp (· + ·) (eL 3) (eL 2))) (bCmp o_eq (eCV 6 (rL 0) (aI (eC 6) (aN)) fX6_count) (eOp (· - ·) (eL 4) (eL 2)))))) sNop) (sSeq (sIf (bOr (bCmp o_eq (eL 6) (eC 10)) (bCmp o_eq (eL 6) (eC 11))) (sRi (eB (bAnd (bAnd (bCmp o_eq (eCV 6 (rL 0) (aI (eC 12) (aN)) fX6_count) (eOp (· + ·) (eL 5) (eC 1))) (bCmp o_eq (eB (bZ z_lt (eCV 6 (rL 0) (aI (eC 8) (aN)) fX6_count))) (eB (bCmp o_eq (eL 2) (eC 3))))) (bCmp o_eq (eCV 6 (rL 0) (aI (eC 6) (aN)) fX6_count) (eL 4))))) sNop) (sSeq (sIf (bCmp o_eq (eL 6) (eC 5)) (sRi (eB (bAnd (bCmp o_eq (eCV 6 (rL 0) (aI (eL 2) (aI (eC 4) (aN))) fX6_orderOf) (eC 1)) (bCmp o_eq (eCV 6 (rL 0) (aI (eC 7) (aN)) fX6_count) (eOp (· + ·) (eL 2) (eC 1)))))) sNop) (sSeq (sIf (bCmp o_eq (eL 6) (eC 6)) (sRi (eB (bAnd (bCmp o_eq (eL 2) (eOp (· - ·) (eL 4) (eC 1))) (bCmp o_eq (eCV 6 (rL 0) (aI (eC 6) (aN)) fX6_count) (eL 2))))) sNop) (sRi (eB (bOr (bOr (bZ z_eq (eL 6)) (bCmp o_gt (eL 6) (eC 4))) (bAnd (bAnd (bCmp o_eq (eCV 6 (rL 0) (aI (eC 6) (aN)) fX6_count) (eOp (· + ·) (eL 4) (eC 1))) (bCmp o_eq (eCV 6 (rL 0) (aI (eL 2) (aI (eC 4) (aN))) fX6_orderOf) (eOp (· &&& ·) (eOp o_shr (eL 1) (eC 17)) (eC 1)))) (bZ z_eq (eCV 6 (rL 0) (aI (eC 15) (aN)) fX6_count)))))))))))
abbrev mL_isDone : zM := (cL_isDone, RL, 7, some .boolean, { frames := 4, cells := 0, slots := 0, locals := 87 }, false)
set_option maxHeartbeats 400000 in
set_option maxRecDepth 20000 in
theorem kL_isDone : ssOk mL_isDone 0 276 bL_isDone := (kSeq (M := mL_isDone) (kSi (M := mL_isDone) (kAnd (M := mL_isDone) (kL_n (M := mL_isDone) dL_isDone_0 rfl) (kC_bi (M := mL_isDone) (v := 15) dL_isDone_1 kc_bipush_15) dL_isDone_3) dL_isDone_4 (by decide)) (kSeq (M := mL_isDone) (kIf (M := mL_isDone) (kZ_ltF (M := mL_isDone) (kL_n (M := mL_isDone) dL_isDone_6 rfl) dL_isDone_7 (by decide) rfl) (kRi (M := mL_isDone) (kEB (M := mL_isDone) (kBand (M := mL_isDone) (kBand (M := mL_isDone) (kB_eqF (M := mL_isDone) (kCV (M := mL_isDone) (ci := 6) (kR_n (M := mL_isDone) dL_isDone_10 rfl) (kaI (M := mL_isDone) (kC_bi (M := mL_isDone) (v := 11) dL_isDone_11 kc_bipush_11) (kaN (M := mL_isDone))) dL_isDone_13 ctX6_count mdX6_count imX6_count seX6_count clX6 mkL_12 ⟨(Nat.le_of_ble_eq_true rfl), (Nat.le_of_ble_eq_true rfl)⟩ (Nat.le_of_ble_eq_true rfl)) (kL_n (M := mL_isDone) dL_isDone_16 rfl) dL_isDone_17 (by decide) rfl) (kB_eqF (M := mL_isDone) (kCV (M := mL_isDone) (ci := 6) (kR_n (M := mL_isDone) dL_isDone_20 rfl) (kaI (M := mL_isDone) (kC_bi (M := mL_isDone) (v := 6) dL_isDone_21 kc_bipush_6) (kaN (M := mL_isDone))) dL_isDone_23 ctX6_count mdX6_count imX6_count seX6_count clX6 mkL_12 ⟨(Nat.le_of_ble_eq_true rfl), (Nat.le_of_ble_eq_true rfl)⟩ (Nat.le_of_ble_eq_true rfl)) (kL (M := mL_isDone) dL_isDone_26) dL_isDone_28 (by decide) rfl)) (kB_eqF (M := mL_isDone) (kCV (M := mL_isDone) (ci := 6) (kR_n (M := mL_isDone) dL_isDone_31 rfl) (kaI (M := mL_isDone) (kC_bi (M := mL_isDone) (v := 12) dL_isDone_32 kc_bipush_12) (kaN (M := mL_isDone))) dL_isDone_34 ctX6_count mdX6_count imX6_count seX6_count clX6 mkL_12 ⟨(Nat.le_of_ble_eq_true rfl), (Nat.le_of_ble_eq_true rfl)⟩ (Nat.le_of_ble_eq_true rfl)) (kL (M := mL_isDone) dL_isDone_37) dL_isDone_39 (by decide) rfl)) dL_isDone_42 dL_isDone_43 (by decide) dL_isDone_46 rfl) dL_isDone_47) (kNop (M := mL_isDone))) (kSeq (M := mL_isDone) (kIf (M := mL_isDone) (kB_gtF (M := mL_isDone) (kL (M := mL_isDone) dL_isDone_48) (kC_bi (M := mL_isDone) (v := 11) dL_isDone_50 kc_bipush_11) dL_isDone_52 (by decide) rfl) (kRi (M := mL_isDone) (kEB (M := mL_isDone) (kBand (M := mL_isDone) (kB_eqF (M := mL_isDone) (kCV (M := mL_isDone) (ci := 6) (kR_n (M := mL_isDone) dL_isDone_55 rfl) (kaI (M := mL_isDone) (kC_bi (M := mL_isDone) (v := 11) dL_isDone_56 kc_bipush_11) (kaN (M := mL_isDone))) dL_isDone_58 ctX6_count mdX6_count imX6_count seX6_count clX6 mkL_12 ⟨(Nat.le_of_ble_eq_true rfl), (Nat.le_of_ble_eq_true rfl)⟩ (Nat.le_of_ble_eq_true rfl)) (kAdd (M := mL_isDone) (kL_n (M := mL_isDone) dL_isDone_61 rfl) (kL_n (M := mL_isDone) dL_isDone_62 rfl) dL_isDone_63) dL_isDone_64 (by decide) rfl) (kB_eqF (M := mL_isDone) (kCV (M := mL_isDone) (ci := 6) (kR_n (M := mL_isDone) dL_isDone_67 rfl) (kaI (M := mL_isDone) (kC_bi (M := mL_isDone) (v := 6) dL_isDone_68 kc_bipush_6) (kaN (M := mL_isDone))) dL_isDone_70 ctX6_count mdX6_count imX6_count seX6_count clX6 mkL_12 ⟨(Nat.le_of_ble_eq_true rfl), (Nat.le_of_ble_eq_true rfl)⟩ (Nat.le_of_ble_eq_true rfl)) (kSub (M := mL_isDone) (kL (M := mL_isDone) dL_isDone_73) (kL_n (M := mL_isDone) dL_isDone_75 rfl) dL_isDone_76) dL_isDone_77 (by decide) rfl)) dL_isDone_80 dL_isDone_81 (by decide) dL_isDone_84 rfl) dL_isDone_85) (kNop (M := mL_isDone))) (kSeq (M := mL_isDone) (kIf (M := mL_isDone) (kBor (M := mL_isDone) (kB_eqT (M := mL_isDone) (kL (M := mL_isDone) dL_isDone_86) (kC_bi (M := mL_isDone) (v := 10) dL_isDone_88 kc_bipush_10) dL_isDone_90 (by decide) rfl) (kB_eqF (M := mL_isDone) (kL (M := mL_isDone) dL_isDone_93) (kC_bi (M := mL_isDone) (v := 11) dL_isDone_95 kc_bipush_11) dL_isDone_97 (by decide) rfl)) (kRi (M := mL_isDone) (kEB (M := mL_isDone) (kBand (M := mL_isDone) (kBand (M := mL_isDone) (kB_eqF (M := mL_isDone) (kCV (M := mL_isDone) (ci := 6) (kR_n (M := mL_isDone) dL_isDone_100 rfl) (kaI (M := mL_isDone) (kC_bi (M := mL_isDone) (v := 12) dL_isDone_101 kc_bipush_12) (kaN (M := mL_isDone))) dL_isDone_103 ctX6_count mdX6_count imX6_count seX6_count clX6 mkL_12 ⟨(Nat.le_of_ble_eq_true rfl), (Nat.le_of_ble_eq_true rfl)⟩ (Nat.le_of_ble_eq_true rfl)) (kAdd (M := mL_isDone) (kL (M := mL_isDone) dL_isDone_106) (kC_ic (M := mL_isDone) (v := 1) dL_isDone_108 kc_iconst_1) dL_isDone_109) dL_isDone_110 (by decide) rfl) (kB_eqF (M := mL_isDone) (kEB (M := mL_isDone) (kZ_ltF (M := mL_isDone) (kCV (M := mL_isDone) (ci := 6) (kR_n (M := mL_isDone) dL_isDone_113 rfl) (kaI (M := mL_isDone) (kC_bi (M := mL_isDone) (v := 8) dL_isDone_114 kc_bipush_8) (kaN (M := mL_isDone))) dL_isDone_116 ctX6_count mdX6_count imX6_count seX6_count clX6 mkL_12 ⟨(Nat.le_of_ble_eq_true rfl), (Nat.le_of_ble_eq_true rfl)⟩ (Nat.le_of_ble_eq_true rfl)) dL_isDone_119 (by decide) rfl) dL_isDone_122 dL_isDone_123 (by decide) dL_isDone_126 rfl) (kEB (M := mL_isDone) (kB_eqF (M := mL_isDone) (kL_n (M := mL_isDone) dL_isDone_127 rfl) (kC_ic (M := mL_isDone) (v := 3) dL_isDone_128 kc_iconst_3) dL_isDone_129 (by decide) rfl) dL_isDone_132 dL_isDone_133 (by decide) dL_isDone_136 rfl) dL_isDone_137 (by decide) rfl)) (kB_eqF (M := mL_isDone) (kCV (M := mL_isDone) (ci := 6) (kR_n (M := mL_isDone) dL_isDone_140 rfl) (kaI (M := mL_isDone) (kC_bi (M := mL_isDone) (v := 6) dL_isDone_141 kc_bipush_6) (kaN (M := mL_isDone))) dL_isDone_143 ctX6_count mdX6_count imX6_count seX6_count clX6 mkL_12 ⟨(Nat.le_of_ble_eq_true rfl), (Nat.le_of_ble_eq_true rfl)⟩ (Nat.le_of_ble_eq_true rfl)) (kL (M := mL_isDone) dL_isDone_146) dL_isDone_148 (by decide) rfl)) dL_isDone_151 dL_isDone_152 (by decide) dL_isDone_155 rfl) dL_isDone_156) (kNop (M := mL_isDone))) (kSeq (M := mL_isDone) (kIf (M := mL_isDone) (kB_eqF (M := mL_isDone) (kL (M := mL_isDone) dL_isDone_157) (kC_ic (M := mL_isDone) (v := 5) dL_isDone_159 kc_iconst_5) dL_isDone_160 (by decide) rfl) (kRi (M := mL_isDone) (kEB (M := mL_isDone) (kBand (M := mL_isDone) (kB_eqF (M := mL_isDone) (kCV (M := mL_isDone) (ci := 6) (kR_n (M := mL_isDone) dL_isDone_163 rfl) (kaI (M := mL_isDone) (kL_n (M := mL_isDone) dL_isDone_164 rfl) (kaI (M := mL_isDone) (kC_ic (M := mL_isDone) (v := 4) dL_isDone_165 kc_iconst_4) (kaN (M := mL_isDone)))) dL_isDone_166 ctX6_orderOf mdX6_orderOf imX6_orderOf seX6_orderOf clX6 mkL_22 ⟨(Nat.le_of_ble_eq_true rfl), (Nat.le_of_ble_eq_true rfl)⟩ (Nat.le_of_ble_eq_true rfl)) (kC_ic (M := mL_isDone) (v := 1) dL_isDone_169 kc_iconst_1) dL_isDone_170 (by decide) rfl) (kB_eqF (M := mL_isDone) (kCV (M := mL_isDone) (ci := 6) (kR_n (M := mL_isDone) dL_isDone_173 rfl) (kaI (M := mL_isDone) (kC_bi (M := mL_isDone) (v := 7) dL_isDone_174 kc_bipush_7) (kaN (M := mL_isDone))) dL_isDone_176 ctX6_count mdX6_count imX6_count seX6_count clX6 mkL_12 ⟨(Nat.le_of_ble_eq_true rfl), (Nat.le_of_ble_eq_true rfl)⟩ (Nat.le_of_ble_eq_true rfl)) (kAdd (M := mL_isDone) (kL_n (M := mL_isDone) dL_isDone_179 rfl) (kC_ic (M := mL_isDone) (v := 1) dL_isDone_180 kc_iconst_1) dL_isDone_181) dL_isDone_182 (by decide) rfl)) dL_isDone_185 dL_isDone_186 (by decide) dL_isDone_189 rfl) dL_isDone_190) (kNop (M := mL_isDone))) (kSeq (M := mL_isDone) (kIf (M := mL_isDone) (kB_eqF (M := mL_isDone) (kL (M := mL_isDone) dL_isDone_191) (kC_bi (M := mL_isDone) (v := 6) dL_isDone_193 kc_bipush_6) dL_isDone_195 (by decide) rfl) (kRi (M := mL_isDone) (kEB (M := mL_isDone) (kBand (M := mL_isDone) (kB_eqF (M := mL_isDone) (kL_n (M := mL_isDone) dL_isDone_198 rfl) (kSub (M := mL_isDone) (kL (M := mL_isDone) dL_isDone_199) (kC_ic (M := mL_isDone) (v := 1) dL_isDone_201 kc_iconst_1) dL_isDone_202) dL_isDone_203 (by decide) rfl) (kB_eqF (M := mL_isDone) (kCV (M := mL_isDone) (ci := 6) (kR_n (M := mL_isDone) dL_isDone_206 rfl) (kaI (M := mL_isDone) (kC_bi (M := mL_isDone) (v := 6) dL_isDone_207 kc_bipush_6) (kaN (M := mL_isDone))) dL_isDone_209 ctX6_count mdX6_count imX6_count seX6_count clX6 mkL_12 ⟨(Nat.le_of_ble_eq_true rfl), (Nat.le_of_ble_eq_true rfl)⟩ (Nat.le_of_ble_eq_true rfl)) (kL_n (M := mL_isDone) dL_isDone_212 rfl) dL_isDone_213 (by decide) rfl)) dL_isDone_216 dL_isDone_217 (by decide) dL_isDone_220 rfl) dL_isDone_221) (kNop (M := mL_isDone))) (kRi (M := mL_isDone) (kEB (M := mL_isDone) (kBor (M := mL_isDone) (kBor (M := mL_isDone) (kZ_eqT (M := mL_isDone) (kL (M := mL_isDone) dL_isDone_222) dL_isDone_224 (by decide) rfl) (kB_gtT (M := mL_isDone) (kL (M := mL_isDone) dL_isDone_227) (kC_ic (M := mL_isDone) (v := 4) dL_isDone_229 kc_iconst_4) dL_isDone_230 (by decide) rfl)) (kBand (M := mL_isDone) (kBand (M := mL_isDone) (kB_eqF (M := mL_isDone) (kCV (M := mL_isDone) (ci := 6) (kR_n (M := mL_isDone) dL_isDone_233 rfl) (kaI (M := mL_isDone) (kC_bi (M := mL_isDone) (v := 6) dL_isDone_234 kc_bipush_6) (kaN (M := mL_isDone))) dL_isDone_236 ctX6_count mdX6_count imX6_count seX6_count clX6 mkL_12 ⟨(Nat.le_of_ble_eq_true rfl), (Nat.le_of_ble_eq_true rfl)⟩ (Nat.le_of_ble_eq_true rfl)) (kAdd (M := mL_isDone) (kL (M := mL_isDone) dL_isDone_239) (kC_ic (M := mL_isDone) (v := 1) dL_isDone_241 kc_iconst_1) dL_isDone_242) dL_isDone_243 (by decide) rfl) (kB_eqF (M := mL_isDone) (kCV (M := mL_isDone) (ci := 6) (kR_n (M := mL_isDone) dL_isDone_246 rfl) (kaI (M := mL_isDone) (kL_n (M := mL_isDone) dL_isDone_247 rfl) (kaI (M := mL_isDone) (kC_ic (M := mL_isDone) (v := 4) dL_isDone_248 kc_iconst_4) (kaN (M := mL_isDone)))) dL_isDone_249 ctX6_orderOf mdX6_orderOf imX6_orderOf seX6_orderOf clX6 mkL_22 ⟨(Nat.le_of_ble_eq_true rfl), (Nat.le_of_ble_eq_true rfl)⟩ (Nat.le_of_ble_eq_true rfl)) (kAnd (M := mL_isDone) (kShr (M := mL_isDone) (kL_n (M := mL_isDone) dL_isDone_252 rfl) (kC_bi (M := mL_isDone) (v := 17) dL_isDone_253 kc_bipush_17) dL_isDone_255) (kC_ic (M := mL_isDone) (v := 1) dL_isDone_256 kc_iconst_1) dL_isDone_257) dL_isDone_258 (by decide) rfl)) (kZ_eqF (M := mL_isDone) (kCV (M := mL_isDone) (ci := 6) (kR_n (M := mL_isDone) dL_isDone_261 rfl) (kaI (M := mL_isDone) (kC_bi (M := mL_isDone) (v := 15) dL_isDone_262 kc_bipush_15) (kaN (M := mL_isDone))) dL_isDone_264 ctX6_count mdX6_count imX6_count seX6_count clX6 mkL_12 ⟨(Nat.le_of_ble_eq_true rfl), (Nat.le_of_ble_eq_true rfl)⟩ (Nat.le_of_ble_eq_true rfl)) dL_isDone_267 (by decide) rfl))) dL_isDone_270 dL_isDone_271 (by decide) dL_isDone_274 rfl) dL_isDone_275)))))))
def fL_isDone : zFI := mZ bL_isDone
theorem ctL_isDone : CtI yL_isDone cL_isDone 7 .boolean 4 87 6 fL_isDone := ctZ mdL_isDone (Nat.le_of_ble_eq_true rfl) kL_isDone
/-! TrophyPlatesLaw.isForecast -/
theorem mdL_isForecast : zMd yL_isForecast cL_isForecast 13 (some .boolean) 1 := ⟨cdL_isForecast, iniL, ⟨by decide +kernel, by decide +kernel⟩, by decide +kernel, by decide +kernel⟩
def bL_isForecast : zSS := sSeq (sBlk (sSeq (sLi 1 (eC 0)) (sW 4000 (bCmp o_lt (eL 1) (eCV 6 (rL 0) (aI (eC 6) (aN)) fX6_count)) (sSeq (sSeq (sLi 2 (eCV 6 (rL 0) (aI (eL 1) (aN)) fX6_doneIn)) (sIf (bAnd (bZ z_gt (eL 2)) (bCmp o_le (eL 2) (eC 600))) (sSeq (sLi 3 (eCV 6 (rL 0) (aI (eL 1) (aI (eC 0) (aN))) fX6_orderOf)) (sSeq (sLi 4 (eCV 6 (rL 0) (aI (eL 1) (aI (eC 1) (aN))) fX6_orderOf)) (sSeq (sLi 5 (eCV 6 (rL 0) (aI (eL 1) (aI (eC 3) (aN))) fX6_orderOf)) (sSeq (sLi 6 (eCV 6 (rL 0) (aI (eL 3) (aI (eC 2) (aN))) fX6_shield)) (sSeq (sLi 7 (eB (bCmp o_eq (eCV 6 (rL 0) (aI (eL 3) (aI (eC 1) (aN))) fX6_shield) (eCV 6 (rL 0) (aI (eL 3) (aI (eC 0) (aN))) fX6_shield)))) (sSeq (sLj 8 (jCS (aR (rL 0) (aN)) fL_digest)) (sSeq (sLi 10 (eCV 6 (rL 0) (aI (eL 2) (aN)) fX6_work)) (sSeq (sLi 11 (eCV 6 (rL 0) (aI (eL 3) (aI (eL 4) (aN))) fX6_plateFor)) (sSeq (sLi 12 (eB (bAnd (bZ z_ge (eL 11)) (bOr (bCmp o_eq (eCV 6 (rL 0) (aI (eL 11) (aI (eC 3) (aN))) fX6_plate) (eL 5)) (bCmp o_eq (eCV 6 (rL 0) (aI (eL 11) (aI (eC 4) (aN))) fX6_plate) (eL 5)))))) (sSeq (sIf (bOr (bCmp o_lt (eL 10) (eC 1)) (bAnd (bAnd (bNot (bZ z_ne (eL 12))) (bNot (bAnd (bZ z_ne (eL 7)) (bCmp o_lt (eL 4) (eL 6))))) (bCmp o_lt (eCV 6 (rL 0) (aI (eL 3) (aI (eC 1) (aN))) fX6_shield) (eCV 6 (rL 0) (aI (eL 3) (aI (eC 0) (aN))) fX6_shield)))) (sRi (eC 0)) sNop) (sSeq (sPop (eCV 6 (rL 0) (aN) fX6_undo)) (sIf (bOr (bZ z_ne (jCmp (jCS (aR (rL 0) (aN)) fL_digest) (jL 8))) (bCmp o_ne (eCV 6 (rL 0) (aI (eL 1) (aN)) fX6_doneIn) (eL 2))) (sRi (eC 0)) sNop)))))))))))) sNop)) (sInc 1 1))))) (sRi (eC 1))
abbrev mL_isForecast : zM := (cL_isForecast, RL, 13, some .boolean, { frames := 8, cells := 0, slots := 0, locals := 182 }, false)
set_option maxHeartbeats 400000 in
set_option maxRecDepth 20000 in
theorem kL_isForecast : ssOk mL_isForecast 0 214 bL_isForecast := (kSeq (M := mL_isForecast) (kBlk (M := mL_isForecast) (kSeq (M := mL_isForecast) (kSi_n (M := mL_isForecast) (kC_ic (M := mL_isForecast) (v := 0) dL_isForecast_0 kc_iconst_0) dL_isForecast_1 rfl (by decide)) (kWn (M := mL_isForecast) (N := 4000) (kB_ltF (M := mL_isForecast) (kL_n (M := mL_isForecast) dL_isForecast_2 rfl) (kCV (M := mL_isForecast) (ci := 6) (kR_n (M := mL_isForecast) dL_isForecast_3 rfl) (kaI (M := mL_isForecast) (kC_bi (M := mL_isForecast) (v := 6) dL_isForecast_4 kc_bipush_6) (kaN (M := mL_isForecast))) dL_isForecast_6 ctX6_count mdX6_count imX6_count seX6_count clX6 mkL_12 ⟨(Nat.le_of_ble_eq_true rfl), (Nat.le_of_ble_eq_true rfl)⟩ (Nat.le_of_ble_eq_true rfl)) dL_isForecast_9 (by decide) rfl) (kGo (M := mL_isForecast) (kSeq (M := mL_isForecast) (kSeq (M := mL_isForecast) (kSi_n (M := mL_isForecast) (kCV (M := mL_isForecast) (ci := 6) (kR_n (M := mL_isForecast) dL_isForecast_12 rfl) (kaI (M := mL_isForecast) (kL_n (M := mL_isForecast) dL_isForecast_13 rfl) (kaN (M := mL_isForecast))) dL_isForecast_14 ctX6_doneIn mdX6_doneIn imX6_doneIn seX6_doneIn clX6 mkL_73 ⟨(Nat.le_of_ble_eq_true rfl), (Nat.le_of_ble_eq_true rfl)⟩ (Nat.le_of_ble_eq_true rfl)) dL_isForecast_17 rfl (by decide)) (kIf (M := mL_isForecast) (kBand (M := mL_isForecast) (kZ_gtF (M := mL_isForecast) (kL_n (M := mL_isForecast) dL_isForecast_18 rfl) dL_isForecast_19 (by decide) rfl) (kB_leF (M := mL_isForecast) (kL_n (M := mL_isForecast) dL_isForecast_22 rfl) (kC_si (M := mL_isForecast) (v := 600) dL_isForecast_23 kc_sipush_600) dL_isForecast_26 (by decide) rfl)) (kSeq (M := mL_isForecast) (kSi_n (M := mL_isForecast) (kCV (M := mL_isForecast) (ci := 6) (kR_n (M := mL_isForecast) dL_isForecast_29 rfl) (kaI (M := mL_isForecast) (kL_n (M := mL_isForecast) dL_isForecast_30 rfl) (kaI (M := mL_isForecast) (kC_ic (M := mL_isForecast) (v := 0) dL_isForecast_31 kc_iconst_0) (kaN (M := mL_isForecast)))) dL_isForecast_32 ctX6_orderOf mdX6_orderOf imX6_orderOf seX6_orderOf clX6 mkL_22 ⟨(Nat.le_of_ble_eq_true rfl), (Nat.le_of_ble_eq_true rfl)⟩ (Nat.le_of_ble_eq_true rfl)) dL_isForecast_35 rfl (by decide)) (kSeq (M := mL_isForecast) (kSi (M := mL_isForecast) (kCV (M := mL_isForecast) (ci := 6) (kR_n (M := mL_isForecast) dL_isForecast_36 rfl) (kaI (M := mL_isForecast) (kL_n (M := mL_isForecast) dL_isForecast_37 rfl) (kaI (M := mL_isForecast) (kC_ic (M := mL_isForecast) (v := 1) dL_isForecast_38 kc_iconst_1) (kaN (M := mL_isForecast)))) dL_isForecast_39 ctX6_orderOf mdX6_orderOf imX6_orderOf seX6_orderOf clX6 mkL_22 ⟨(Nat.le_of_ble_eq_true rfl), (Nat.le_of_ble_eq_true rfl)⟩ (Nat.le_of_ble_eq_true rfl)) dL_isForecast_42 (by decide)) (kSeq (M := mL_isForecast) (kSi (M := mL_isForecast) (kCV (M := mL_isForecast) (ci := 6) (kR_n (M := mL_isForecast) dL_isForecast_44 rfl) (kaI (M := mL_isForecast) (kL_n (M := mL_isForecast) dL_isForecast_45 rfl) (kaI (M := mL_isForecast) (kC_ic (M := mL_isForecast) (v := 3) dL_isForecast_46 kc_iconst_3) (kaN (M := mL_isForecast)))) dL_isForecast_47 ctX6_orderOf mdX6_orderOf imX6_orderOf seX6_orderOf clX6 mkL_22 ⟨(Nat.le_of_ble_eq_true rfl), (Nat.le_of_ble_eq_true rfl)⟩ (Nat.le_of_ble_eq_true rfl)) dL_isForecast_50 (by decide)) (kSeq (M := mL_isForecast) (kSi (M := mL_isForecast) (kCV (M := mL_isForecast) (ci := 6) (kR_n (M := mL_isForecast) dL_isForecast_52 rfl) (kaI (M := mL_isForecast) (kL_n (M := mL_isForecast) dL_isForecast_53 rfl) (kaI (M := mL_isForecast) (kC_ic (M := mL_isForecast) (v := 2) dL_isForecast_54 kc_iconst_2) (kaN (M := mL_isForecast)))) dL_isForecast_55 ctX6_shield mdX6_shield imX6_shield seX6_shield clX6 mkL_30 ⟨(Nat.le_of_ble_eq_true rfl), (Nat.le_of_ble_eq_true rfl)⟩ (Nat.le_of_ble_eq_true rfl)) dL_isForecast_58 (by decide)) (kSeq (M := mL_isForecast) (kSi (M := mL_isForecast) (kEB (M := mL_isForecast) (kB_eqF (M := mL_isForecast) (kCV (M := mL_isForecast) (ci := 6) (kR_n (M := mL_isForecast) dL_isForecast_60 rfl) (kaI (M := mL_isForecast) (kL_n (M := mL_isForecast) dL_isForecast_61 rfl) (kaI (M := mL_isForecast) (kC_ic (M := mL_isForecast) (v := 1) dL_isForecast_62 kc_iconst_1) (kaN (M := mL_isForecast)))) dL_isForecast_63 ctX6_shield mdX6_shield imX6_shield seX6_shield clX6 mkL_30 ⟨(Nat.le_of_ble_eq_true rfl), (Nat.le_of_ble_eq_true rfl)⟩ (Nat.le_of_ble_eq_true rfl)) (kCV (M := mL_isForecast) (ci := 6) (kR_n (M := mL_isForecast) dL_isForecast_66 rfl) (kaI (M := mL_isForecast) (kL_n (M := mL_isForecast) dL_isForecast_67 rfl) (kaI (M := mL_isForecast) (kC_ic (M := mL_isForecast) (v := 0) dL_isForecast_68 kc_iconst_0) (kaN (M := mL_isForecast)))) dL_isForecast_69 ctX6_shield mdX6_shield imX6_shield seX6_shield clX6 mkL_30 ⟨(Nat.le_of_ble_eq_true rfl), (Nat.le_of_ble_eq_true rfl)⟩ (Nat.le_of_ble_eq_true rfl)) dL_isForecast_72 (by decide) rfl) dL_isForecast_75 dL_isForecast_76 (by decide) dL_isForecast_79 rfl) dL_isForecast_80 (by decide)) (kSeq (M := mL_isForecast) (kSj (M := mL_isForecast) (kJCS (M := mL_isForecast) (kaR (M := mL_isForecast) (kR_n (M := mL_isForecast) dL_isForecast_82 rfl) (kaN (M := mL_isForecast))) dL_isForecast_83 ctL_digest mdL_digest stL_digest mkL_76 ⟨(Nat.le_of_ble_eq_true rfl), (Nat.le_of_ble_eq_true rfl)⟩ (Nat.le_of_ble_eq_true rfl)) dL_isForecast_86 (by decide)) (kSeq (M := mL_isForecast) (kSi (M := mL_isForecast) (kCV (M := mL_isForecast) (ci := 6) (kR_n (M := mL_isForecast) dL_isForecast_88 rfl) (kaI (M := mL_isForecast) (kL_n (M := mL_isForecast) dL_isForecast_89 rfl) (kaN (M := mL_isForecast))) dL_isForecast_90 ctX6_work mdX6_work imX6_work seX6_work clX6 mkL_67 ⟨(Nat.le_of_ble_eq_true rfl), (Nat.le_of_ble_eq_true rfl)⟩ (Nat.le_of_ble_eq_true rfl)) dL_isForecast_93 (by decide)) (kSeq (M := mL_isForecast) (kSi (M := mL_isForecast) (kCV (M := mL_isForecast) (ci := 6) (kR_n (M := mL_isForecast) dL_isForecast_95 rfl) (kaI (M := mL_isForecast) (kL_n (M := mL_isForecast) dL_isForecast_96 rfl) (kaI (M := mL_isForecast) (kL (M := mL_isForecast) dL_isForecast_97) (kaN (M := mL_isForecast)))) dL_isForecast_99 ctX6_plateFor mdX6_plateFor imX6_plateFor seX6_plateFor clX6 mkL_70 ⟨(Nat.le_of_ble_eq_true rfl), (Nat.le_of_ble_eq_true rfl)⟩ (Nat.le_of_ble_eq_true rfl)) dL_isForecast_102 (by decide)) (kSeq (M := mL_isForecast) (kSi (M := mL_isForecast) (kEB (M := mL_isForecast) (kBand (M := mL_isForecast) (kZ_geF (M := mL_isForecast) (kL (M := mL_isForecast) dL_isForecast_104) dL_isForecast_106 (by decide) rfl) (kBor (M := mL_isForecast) (kB_eqT (M := mL_isForecast) (kCV (M := mL_isForecast) (ci := 6) (kR_n (M := mL_isForecast) dL_isForecast_109 rfl) (kaI (M := mL_isForecast) (kL (M := mL_isForecast) dL_isForecast_110) (kaI (M := mL_isForecast) (kC_ic (M := mL_isForecast) (v := 3) dL_isForecast_112 kc_iconst_3) (kaN (M := mL_isForecast)))) dL_isForecast_113 ctX6_plate mdX6_plate imX6_plate seX6_plate clX6 mkL_18 ⟨(Nat.le_of_ble_eq_true rfl), (Nat.le_of_ble_eq_true rfl)⟩ (Nat.le_of_ble_eq_true rfl)) (kL (M := mL_isForecast) dL_isForecast_116) dL_isForecast_118 (by decide) rfl) (kB_eqF (M := mL_isForecast) (kCV (M := mL_isForecast) (ci := 6) (kR_n (M := mL_isForecast) dL_isForecast_121 rfl) (kaI (M := mL_isForecast) (kL (M := mL_isForecast) dL_isForecast_122) (kaI (M := mL_isForecast) (kC_ic (M := mL_isForecast) (v := 4) dL_isForecast_124 kc_iconst_4) (kaN (M := mL_isForecast)))) dL_isForecast_125 ctX6_plate mdX6_plate imX6_plate seX6_plate clX6 mkL_18 ⟨(Nat.le_of_ble_eq_true rfl), (Nat.le_of_ble_eq_true rfl)⟩ (Nat.le_of_ble_eq_true rfl)) (kL (M := mL_isForecast) dL_isForecast_128) dL_isForecast_130 (by decide) rfl))) dL_isForecast_133 dL_isForecast_134 (by decide) dL_isForecast_137 rfl) dL_isForecast_138 (by decide)) (kSeq (M := mL_isForecast) (kIf (M := mL_isForecast) (kBor (M := mL_isForecast) (kB_ltT (M := mL_isForecast) (kL (M := mL_isForecast) dL_isForecast_140) (kC_ic (M := mL_isForecast) (v := 1) dL_isForecast_142 kc_iconst_1) dL_isForecast_143 (by decide) rfl) (kBand (M := mL_isForecast) (kBand (M := mL_isForecast) (kBnot (M := mL_isForecast) (kZ_neT (M := mL_isForecast) (kL (M := mL_isForecast) dL_isForecast_146) dL_isForecast_148 (by decide) rfl)) (kBnot (M := mL_isForecast) (kBand (M := mL_isForecast) (kZ_neF (M := mL_isForecast) (kL (M := mL_isForecast) dL_isForecast_151) dL_isForecast_153 (by decide) rfl) (kB_ltT (M := mL_isForecast) (kL (M := mL_isForecast) dL_isForecast_156) (kL (M := mL_isForecast) dL_isForecast_158) dL_isForecast_160 (by decide) rfl)))) (kB_ltF (M := mL_isForecast) (kCV (M := mL_isForecast) (ci := 6) (kR_n (M := mL_isForecast) dL_isForecast_163 rfl) (kaI (M := mL_isForecast) (kL_n (M := mL_isForecast) dL_isForecast_164 rfl) (kaI (M := mL_isForecast) (kC_ic (M := mL_isForecast) (v := 1) dL_isForecast_165 kc_iconst_1) (kaN (M := mL_isForecast)))) dL_isForecast_166 ctX6_shield mdX6_shield imX6_shield seX6_shield clX6 mkL_30 ⟨(Nat.le_of_ble_eq_true rfl), (Nat.le_of_ble_eq_true rfl)⟩ (Nat.le_of_ble_eq_true rfl)) (kCV (M := mL_isForecast) (ci := 6) (kR_n (M := mL_isForecast) dL_isForecast_169 rfl) (kaI (M := mL_isForecast) (kL_n (M := mL_isForecast) dL_isForecast_170 rfl) (kaI (M := mL_isForecast) (kC_ic (M := mL_isForecast) (v := 0) dL_isForecast_171 kc_iconst_0) (kaN (M := mL_isForecast)))) dL_isForecast_172 ctX6_shield mdX6_shield imX6_shield seX6_shield clX6 mkL_30 ⟨(Nat.le_of_ble_eq_true rfl), (Nat.le_of_ble_eq_true rfl)⟩ (Nat.le_of_ble_eq_true rfl)) dL_isForecast_175 (by decide) rfl))) (kRi (M := mL_isForecast) (kC_ic (M := mL_isForecast) (v := 0) dL_isForecast_178 kc_iconst_0) dL_isForecast_179) (kNop (M := mL_isForecast))) (kSeq (M := mL_isForecast) (kPop (M := mL_isForecast) (kCV (M := mL_isForecast) (ci := 6) (kR_n (M := mL_isForecast) dL_isForecast_180 rfl) (kaN (M := mL_isForecast)) dL_isForecast_181 ctX6_undo mdX6_undo imX6_undo seX6_undo clX6 mkL_80 ⟨(Nat.le_of_ble_eq_true rfl), (Nat.le_of_ble_eq_true rfl)⟩ (Nat.le_of_ble_eq_true rfl)) dL_isForecast_184) (kIf (M := mL_isForecast) (kBor (M := mL_isForecast) (kZ_neT (M := mL_isForecast) (kJCmp (M := mL_isForecast) (kJCS (M := mL_isForecast) (kaR (M := mL_isForecast) (kR_n (M := mL_isForecast) dL_isForecast_185 rfl) (kaN (M := mL_isForecast))) dL_isForecast_186 ctL_digest mdL_digest stL_digest mkL_76 ⟨(Nat.le_of_ble_eq_true rfl), (Nat.le_of_ble_eq_true rfl)⟩ (Nat.le_of_ble_eq_true rfl)) (kJL (M := mL_isForecast) dL_isForecast_189) dL_isForecast_191) dL_isForecast_192 (by decide) rfl) (kB_neF (M := mL_isForecast) (kCV (M := mL_isForecast) (ci := 6) (kR_n (M := mL_isForecast) dL_isForecast_195 rfl) (kaI (M := mL_isForecast) (kL_n (M := mL_isForecast) dL_isForecast_196 rfl) (kaN (M := mL_isForecast))) dL_isForecast_197 ctX6_doneIn mdX6_doneIn imX6_doneIn seX6_doneIn clX6 mkL_73 ⟨(Nat.le_of_ble_eq_true rfl), (Nat.le_of_ble_eq_true rfl)⟩ (Nat.le_of_ble_eq_true rfl)) (kL_n (M := mL_isForecast) dL_isForecast_200 rfl) dL_isForecast_201 (by decide) rfl)) (kRi (M := mL_isForecast) (kC_ic (M := mL_isForecast) (v := 0) dL_isForecast_204 kc_iconst_0) dL_isForecast_205) (kNop (M := mL_isForecast)))))))))))))) (kNop (M := mL_isForecast)))) (kInc (M := mL_isForecast) (v := 1) dL_isForecast_206 kc_iconst_1 (by decide))) dL_isForecast_209 (by decide))))) (kRi (M := mL_isForecast) (kC_ic (M := mL_isForecast) (v := 1) dL_isForecast_212 kc_iconst_1) dL_isForecast_213))
def fL_isForecast : zFI := mZ bL_isForecast
theorem ctL_isForecast : CtI yL_isForecast cL_isForecast 13 .boolean 8 182 1 fL_isForecast := ctZ mdL_isForecast (Nat.le_of_ble_eq_true rfl) kL_isForecast
end
section
/-! TrophyPlatesLaw.law -/
abbrev mL : zM := (cL_law, RL, 11, ret, room_1, false)
def bL1 : zSS := sLr 1 (rNw 6 [.null, .null, .null, .null, .null] (aN) fX6_init)
def bL2 : zSS := sSeq (sLi 2 (eCS (aR (rL 0) (aI (eC 0) (aN))) fL_cell)) (sSeq (sPop (eCV 6 (rL 1) (aI (eOp (· + ·) (eC 2) (eCS (aI (eL 2) (aI (eC 3) (aN))) fL_low)) (aN)) fX6_addShield)) (sSeq (sPop (eCV 6 (rL 1) (aI (eC 2) (aN)) fX6_addShield)) (sSeq (sBlk (sSeq (sLi 3 (eC 0)) (sW 4000 (bCmp o_lt (eL 3) (eC 4)) (sSeq (sPop (eCV 6 (rL 1) (aI (eOp (· + ·) (eC 20) (eCS (aI (eOp o_shr (eL 2) (eOp (· * ·) (eC 3) (eL 3))) (aI (eC 90) (aN))) fL_low)) (aI (eOp (· + ·) (eC 6) (eCS (aI (eOp o_shr (eL 2) (eOp (· * ·) (eC 4) (eL 3))) (aI (eC 12) (aN))) fL_low)) (aN))) fX6_cut)) (sInc 3 1))))) (sSeq (sBlk (sSeq (sLi 3 (eC 1)) (sW 4000 (bCmp o_lt (eL 3) (eC 18)) (sSeq (sSeq (sLi 4 (eCS (aR (rL 0) (aI (eL 3) (aN))) fL_cell)) (sSeq (sLj 5 (jCS (aR (rL 1) (aN)) fL_digest)) (sSeq (sLi 7 (eCV 6 (rL 1) (aI (eC 11) (aN)) fX6_count)) (sSeq (sLi 8 (eCV 6 (rL 1) (aI (eC 6) (aN)) fX6_count)) (sSeq (sLi 9 (eCV 6 (rL 1) (aI (eC 12) (aN)) fX6_count)) (sSeq (sPop (eCV 6 (rL 1) (aN) fX6_clearText)) (sSeq (sLi 10 (eCS (aR (rL 1) (aI (eL 4) (aN))) fL_act)) (sSeq (sIf (bOr (bNot (bZ z_ne (eCS (aR (rL 1) (aI (eL 4) (aI (eL 10) (aI (eL 7) (aI (eL 8) (aI (eL 9) (aN))))))) fL_isDone))) (bAnd (bZ z_lt (eL 10)) (bZ z_ne (jCmp (jCS (aR (rL 1) (aN)) fL_digest) (jL 5))))) (sRi (eC 0)) sNop) (sSeq (sIf (bAnd (bZ z_ge (eL 10)) (bCmp o_eq (eOp (· &&& ·) (eL 3) (eC 3)) (eC 1))) (sSeq (sPop (eCV 6 (rL 1) (aN) fX6_undo)) (sSeq (sIf (bZ z_ne (jCmp (jCS (aR (rL 1) (aN)) fL_digest) (jL 5))) (sRi (eC 0)) sNop) (sSeq (sPop (eCV 6 (rL 1) (aN) fX6_clearText)) (sIf (bCmp o_ne (eCS (aR (rL 1) (aI (eL 4) (aN))) fL_act) (eL 10)) (sRi (eC 0)) sNop)))) sNop) (sIf (bAnd (bZ z_eq (eOp (· &&& ·) (eL 3) (eC 1))) (bNot (bZ z_ne (eCS (aR (rL 1) (aN)) fL_isRight)))) (sRi (eC 0)) sNop)))))))))) (sInc 3 1))))) (sSeq (sPop (eCV 6 (rL 1) (aN) fX6_clearText)) (sSeq (sLj 3 (jCS (aR (rL 1) (aN)) fL_digest)) (sSeq (sIf (bOr (bOr (bOr (bOr (bOr (bOr (bOr (bOr (bCmp o_ne (eCV 6 (rL 1) (aI (eC 9) (aI (eC 5) (aN))) fX6_cut) (eC (-1))) (bCmp o_ne (eCV 6 (rL 1) (aI (eC 7) (aN)) fX6_addShield) (eC (-1)))) (bCmp o_ne (eCV 6 (rL 1) (aI (eC 65) (aN)) fX6_append) (eC (-1)))) (bCmp o_ne (eCV 6 (rL 1) (aI (eC 0) (aN)) fX6_work) (eC (-1)))) (bCmp o_ne (eCV 6 (rL 1) (aI (eC 2) (aI (eC 1) (aI (eC 1) (aI (eC 1) (aI (eC 0) (aN)))))) fX6_order) (eC (-1)))) (bCmp o_ne (eCV 6 (rL 1) (aI (eC 20) (aI (eC 0) (aN))) fX6_plate) (eC (-1)))) (bCmp o_ne (eCV 6 (rL 1) (aI (eC 10) (aN)) fX6_doneIn) (eC (-1)))) (bZ z_ne (eCV 6 (rL 1) (aI (eC 1) (aN)) fX6_lengthOf))) (bZ z_ne (jCmp (jCS (aR (rL 1) (aN)) fL_digest) (jL 3)))) (sRi (eC 0)) sNop) (sRi (eB (bAnd (bZ z_ne (eCS (aR (rL 1) (aN)) fL_isRight)) (bZ z_ne (eCS (aR (rL 1) (aN)) fL_isForecast))))))))))))
set_option maxHeartbeats 1000000 in
set_option maxRecDepth 20000 in
theorem kL1 : saOk mL 0 8 473 3442 bL1 := (saLr_n (M := mL) (kNw (M := mL) (ci := 6) dL_law_0 dL_law_3 (kaN (M := mL)) dL_law_4 ctX6_init mdX6_init rfl imX6_init rfl clX6 (dvX6) clL_13 is6 mkL_83 ⟨(Nat.le_of_ble_eq_true rfl), (Nat.le_of_ble_eq_true rfl)⟩ (Nat.le_of_ble_eq_true rfl)) dL_law_7 rfl (by decide))
set_option maxHeartbeats 2000000 in
set_option maxRecDepth 20000 in
theorem kL2 : ssOk mL 8 359 bL2 := (kSeq (M := mL) (kSi_n (M := mL) (kCS (M := mL) (kaR (M := mL) (kR_n (M := mL) dL_law_8 rfl) (kaI (M := mL) (kC_ic (M := mL) (v := 0) dL_law_9 kc_iconst_0) (kaN (M := mL)))) dL_law_10 ctL_cell mdL_cell stL_cell mkL_84 ⟨(Nat.le_of_ble_eq_true rfl), (Nat.le_of_ble_eq_true rfl)⟩ (Nat.le_of_ble_eq_true rfl)) dL_law_13 rfl (by decide)) (kSeq (M := mL) (kPop (M := mL) (kCV (M := mL) (ci := 6) (kR_n (M := mL) dL_law_14 rfl) (kaI (M := mL) (kAdd (M := mL) (kC_ic (M := mL) (v := 2) dL_law_15 kc_iconst_2) (kCS (M := mL) (kaI (M := mL) (kL_n (M := mL) dL_law_16 rfl) (kaI (M := mL) (kC_ic (M := mL) (v := 3) dL_law_17 kc_iconst_3) (kaN (M := mL)))) dL_law_18 ctL_low mdL_low stL_low mkL_33 ⟨(Nat.le_of_ble_eq_true rfl), (Nat.le_of_ble_eq_true rfl)⟩ (Nat.le_of_ble_eq_true rfl)) dL_law_21) (kaN (M := mL))) dL_law_22 ctX6_addShield mdX6_addShield imX6_addShield seX6_addShield clX6 mkL_88 ⟨(Nat.le_of_ble_eq_true rfl), (Nat.le_of_ble_eq_true rfl)⟩ (Nat.le_of_ble_eq_true rfl)) dL_law_25) (kSeq (M := mL) (kPop (M := mL) (kCV (M := mL) (ci := 6) (kR_n (M := mL) dL_law_26 rfl) (kaI (M := mL) (kC_ic (M := mL) (v := 2) dL_law_27 kc_iconst_2) (kaN (M := mL))) dL_law_28 ctX6_addShield mdX6_addShield imX6_addShield seX6_addShield clX6 mkL_88 ⟨(Nat.le_of_ble_eq_true rfl), (Nat.le_of_ble_eq_true rfl)⟩ (Nat.le_of_ble_eq_true rfl)) dL_law_31) (kSeq (M := mL) (kBlk (M := mL) (kSeq (M := mL) (kSi_n (M := mL) (kC_ic (M := mL) (v := 0) dL_law_32 kc_iconst_0) dL_law_33 rfl (by decide)) (kWn (M := mL) (N := 4000) (kB_ltF (M := mL) (kL_n (M := mL) dL_law_34 rfl) (kC_ic (M := mL) (v := 4) dL_law_35 kc_iconst_4) dL_law_36 (by decide) rfl) (kGo (M := mL) (kSeq (M := mL) (kPop (M := mL) (kCV (M := mL) (ci := 6) (kR_n (M := mL) dL_law_39 rfl) (kaI (M := mL) (kAdd (M := mL) (kC_bi (M := mL) (v := 20) dL_law_40 kc_bipush_20) (kCS (M := mL) (kaI (M := mL) (kShr (M := mL) (kL_n (M := mL) dL_law_42 rfl) (kMul (M := mL) (kC_ic (M := mL) (v := 3) dL_law_43 kc_iconst_3) (kL_n (M := mL) dL_law_44 rfl) dL_law_45) dL_law_46) (kaI (M := mL) (kC_bi (M := mL) (v := 90) dL_law_47 kc_bipush_90) (kaN (M := mL)))) dL_law_49 ctL_low mdL_low stL_low mkL_33 ⟨(Nat.le_of_ble_eq_true rfl), (Nat.le_of_ble_eq_true rfl)⟩ (Nat.le_of_ble_eq_true rfl)) dL_law_52) (kaI (M := mL) (kAdd (M := mL) (kC_bi (M := mL) (v := 6) dL_law_53 kc_bipush_6) (kCS (M := mL) (kaI (M := mL) (kShr (M := mL) (kL_n (M := mL) dL_law_55 rfl) (kMul (M := mL) (kC_ic (M := mL) (v := 4) dL_law_56 kc_iconst_4) (kL_n (M := mL) dL_law_57 rfl) dL_law_58) dL_law_59) (kaI (M := mL) (kC_bi (M := mL) (v := 12) dL_law_60 kc_bipush_12) (kaN (M := mL)))) dL_law_62 ctL_low mdL_low stL_low mkL_33 ⟨(Nat.le_of_ble_eq_true rfl), (Nat.le_of_ble_eq_true rfl)⟩ (Nat.le_of_ble_eq_true rfl)) dL_law_65) (kaN (M := mL)))) dL_law_66 ctX6_cut mdX6_cut imX6_cut seX6_cut clX6 mkL_38 ⟨(Nat.le_of_ble_eq_true rfl), (Nat.le_of_ble_eq_true rfl)⟩ (Nat.le_of_ble_eq_true rfl)) dL_law_69) (kInc (M := mL) (v := 1) dL_law_70 kc_iconst_1 (by decide))) dL_law_73 (by decide))))) (kSeq (M := mL) (kBlk (M := mL) (kSeq (M := mL) (kSi_n (M := mL) (kC_ic (M := mL) (v := 1) dL_law_76 kc_iconst_1) dL_law_77 rfl (by decide)) (kWn (M := mL) (N := 4000) (kB_ltF (M := mL) (kL_n (M := mL) dL_law_78 rfl) (kC_bi (M := mL) (v := 18) dL_law_79 kc_bipush_18) dL_law_81 (by decide) rfl) (kGo (M := mL) (kSeq (M := mL) (kSeq (M := mL) (kSi (M := mL) (kCS (M := mL) (kaR (M := mL) (kR_n (M := mL) dL_law_84 rfl) (kaI (M := mL) (kL_n (M := mL) dL_law_85 rfl) (kaN (M := mL)))) dL_law_86 ctL_cell mdL_cell stL_cell mkL_84 ⟨(Nat.le_of_ble_eq_true rfl), (Nat.le_of_ble_eq_true rfl)⟩ (Nat.le_of_ble_eq_true rfl)) dL_law_89 (by decide)) (kSeq (M := mL) (kSj (M := mL) (kJCS (M := mL) (kaR (M := mL) (kR_n (M := mL) dL_law_91 rfl) (kaN (M := mL))) dL_law_92 ctL_digest mdL_digest stL_digest mkL_76 ⟨(Nat.le_of_ble_eq_true rfl), (Nat.le_of_ble_eq_true rfl)⟩ (Nat.le_of_ble_eq_true rfl)) dL_law_95 (by decide)) (kSeq (M := mL) (kSi (M := mL) (kCV (M := mL) (ci := 6) (kR_n (M := mL) dL_law_97 rfl) (kaI (M := mL) (kC_bi (M := mL) (v := 11) dL_law_98 kc_bipush_11) (kaN (M := mL))) dL_law_100 ctX6_count mdX6_count imX6_count seX6_count clX6 mkL_12 ⟨(Nat.le_of_ble_eq_true rfl), (Nat.le_of_ble_eq_true rfl)⟩ (Nat.le_of_ble_eq_true rfl)) dL_law_103 (by decide)) (kSeq (M := mL) (kSi (M := mL) (kCV (M := mL) (ci := 6) (kR_n (M := mL) dL_law_105 rfl) (kaI (M := mL) (kC_bi (M := mL) (v := 6) dL_law_106 kc_bipush_6) (kaN (M := mL))) dL_law_108 ctX6_count mdX6_count imX6_count seX6_count clX6 mkL_12 ⟨(Nat.le_of_ble_eq_true rfl), (Nat.le_of_ble_eq_true rfl)⟩ (Nat.le_of_ble_eq_true rfl)) dL_law_111 (by decide)) (kSeq (M := mL) (kSi (M := mL) (kCV (M := mL) (ci := 6) (kR_n (M := mL) dL_law_113 rfl) (kaI (M := mL) (kC_bi (M := mL) (v := 12) dL_law_114 kc_bipush_12) (kaN (M := mL))) dL_law_116 ctX6_count mdX6_count imX6_count seX6_count clX6 mkL_12 ⟨(Nat.le_of_ble_eq_true rfl), (Nat.le_of_ble_eq_true rfl)⟩ (Nat.le_of_ble_eq_true rfl)) dL_law_119 (by decide)) (kSeq (M := mL) (kPop (M := mL) (kCV (M := mL) (ci := 6) (kR_n (M := mL) dL_law_121 rfl) (kaN (M := mL)) dL_law_122 ctX6_clearText mdX6_clearText imX6_clearText seX6_clearText clX6 mkL_91 ⟨(Nat.le_of_ble_eq_true rfl), (Nat.le_of_ble_eq_true rfl)⟩ (Nat.le_of_ble_eq_true rfl)) dL_law_125) (kSeq (M := mL) (kSi (M := mL) (kCS (M := mL) (kaR (M := mL) (kR_n (M := mL) dL_law_126 rfl) (kaI (M := mL) (kL (M := mL) dL_law_127) (kaN (M := mL)))) dL_law_129 ctL_act mdL_act stL_act mkL_94 ⟨(Nat.le_of_ble_eq_true rfl), (Nat.le_of_ble_eq_true rfl)⟩ (Nat.le_of_ble_eq_true rfl)) dL_law_132 (by decide)) (kSeq (M := mL) (kIf (M := mL) (kBor (M := mL) (kBnot (M := mL) (kZ_neF (M := mL) (kCS (M := mL) (kaR (M := mL) (kR_n (M := mL) dL_law_134 rfl) (kaI (M := mL) (kL (M := mL) dL_law_135) (kaI (M := mL) (kL (M := mL) dL_law_137) (kaI (M := mL) (kL (M := mL) dL_law_139) (kaI (M := mL) (kL (M := mL) dL_law_141) (kaI (M := mL) (kL (M := mL) dL_law_143) (kaN (M := mL)))))))) dL_law_145 ctL_isDone mdL_isDone stL_isDone mkL_98 ⟨(Nat.le_of_ble_eq_true rfl), (Nat.le_of_ble_eq_true rfl)⟩ (Nat.le_of_ble_eq_true rfl)) dL_law_148 (by decide) rfl)) (kBand (M := mL) (kZ_ltF (M := mL) (kL (M := mL) dL_law_151) dL_law_153 (by decide) rfl) (kZ_neF (M := mL) (kJCmp (M := mL) (kJCS (M := mL) (kaR (M := mL) (kR_n (M := mL) dL_law_156 rfl) (kaN (M := mL))) dL_law_157 ctL_digest mdL_digest stL_digest mkL_76 ⟨(Nat.le_of_ble_eq_true rfl), (Nat.le_of_ble_eq_true rfl)⟩ (Nat.le_of_ble_eq_true rfl)) (kJL (M := mL) dL_law_160) dL_law_162) dL_law_163 (by decide) rfl))) (kRi (M := mL) (kC_ic (M := mL) (v := 0) dL_law_166 kc_iconst_0) dL_law_167) (kNop (M := mL))) (kSeq (M := mL) (kIf (M := mL) (kBand (M := mL) (kZ_geF (M := mL) (kL (M := mL) dL_law_168) dL_law_170 (by decide) rfl) (kB_eqF (M := mL) (kAnd (M := mL) (kL_n (M := mL) dL_law_173 rfl) (kC_ic (M := mL) (v := 3) dL_law_174 kc_iconst_3) dL_law_175) (kC_ic (M := mL) (v := 1) dL_law_176 kc_iconst_1) dL_law_177 (by decide) rfl)) (kSeq (M := mL) (kPop (M := mL) (kCV (M := mL) (ci := 6) (kR_n (M := mL) dL_law_180 rfl) (kaN (M := mL)) dL_law_181 ctX6_undo mdX6_undo imX6_undo seX6_undo clX6 mkL_80 ⟨(Nat.le_of_ble_eq_true rfl), (Nat.le_of_ble_eq_true rfl)⟩ (Nat.le_of_ble_eq_true rfl)) dL_law_184) (kSeq (M := mL) (kIf (M := mL) (kZ_neF (M := mL) (kJCmp (M := mL) (kJCS (M := mL) (kaR (M := mL) (kR_n (M := mL) dL_law_185 rfl) (kaN (M := mL))) dL_law_186 ctL_digest mdL_digest stL_digest mkL_76 ⟨(Nat.le_of_ble_eq_true rfl), (Nat.le_of_ble_eq_true rfl)⟩ (Nat.le_of_ble_eq_true rfl)) (kJL (M := mL) dL_law_189) dL_law_191) dL_law_192 (by decide) rfl) (kRi (M := mL) (kC_ic (M := mL) (v := 0) dL_law_195 kc_iconst_0) dL_law_196) (kNop (M := mL))) (kSeq (M := mL) (kPop (M := mL) (kCV (M := mL) (ci := 6) (kR_n (M := mL) dL_law_197 rfl) (kaN (M := mL)) dL_law_198 ctX6_clearText mdX6_clearText imX6_clearText seX6_clearText clX6 mkL_91 ⟨(Nat.le_of_ble_eq_true rfl), (Nat.le_of_ble_eq_true rfl)⟩ (Nat.le_of_ble_eq_true rfl)) dL_law_201) (kIf (M := mL) (kB_neF (M := mL) (kCS (M := mL) (kaR (M := mL) (kR_n (M := mL) dL_law_202 rfl) (kaI (M := mL) (kL (M := mL) dL_law_203) (kaN (M := mL)))) dL_law_205 ctL_act mdL_act stL_act mkL_94 ⟨(Nat.le_of_ble_eq_true rfl), (Nat.le_of_ble_eq_true rfl)⟩ (Nat.le_of_ble_eq_true rfl)) (kL (M := mL) dL_law_208) dL_law_210 (by decide) rfl) (kRi (M := mL) (kC_ic (M := mL) (v := 0) dL_law_213 kc_iconst_0) dL_law_214) (kNop (M := mL)))))) (kNop (M := mL))) (kIf (M := mL) (kBand (M := mL) (kZ_eqF (M := mL) (kAnd (M := mL) (kL_n (M := mL) dL_law_215 rfl) (kC_ic (M := mL) (v := 1) dL_law_216 kc_iconst_1) dL_law_217) dL_law_218 (by decide) rfl) (kBnot (M := mL) (kZ_neT (M := mL) (kCS (M := mL) (kaR (M := mL) (kR_n (M := mL) dL_law_221 rfl) (kaN (M := mL))) dL_law_222 ctL_isRight mdL_isRight stL_isRight mkL_102 ⟨(Nat.le_of_ble_eq_true rfl), (Nat.le_of_ble_eq_true rfl)⟩ (Nat.le_of_ble_eq_true rfl)) dL_law_225 (by decide) rfl))) (kRi (M := mL) (kC_ic (M := mL) (v := 0) dL_law_228 kc_iconst_0) dL_law_229) (kNop (M := mL)))))))))))) (kInc (M := mL) (v := 1) dL_law_230 kc_iconst_1 (by decide))) dL_law_233 (by decide))))) (kSeq (M := mL) (kPop (M := mL) (kCV (M := mL) (ci := 6) (kR_n (M := mL) dL_law_236 rfl) (kaN (M := mL)) dL_law_237 ctX6_clearText mdX6_clearText imX6_clearText seX6_clearText clX6 mkL_91 ⟨(Nat.le_of_ble_eq_true rfl), (Nat.le_of_ble_eq_true rfl)⟩ (Nat.le_of_ble_eq_true rfl)) dL_law_240) (kSeq (M := mL) (kSj_n (M := mL) (kJCS (M := mL) (kaR (M := mL) (kR_n (M := mL) dL_law_241 rfl) (kaN (M := mL))) dL_law_242 ctL_digest mdL_digest stL_digest mkL_76 ⟨(Nat.le_of_ble_eq_true rfl), (Nat.le_of_ble_eq_true rfl)⟩ (Nat.le_of_ble_eq_true rfl)) dL_law_245 rfl (by decide)) (kSeq (M := mL) (kIf (M := mL) (kBor (M := mL) (kBor (M := mL) (kBor (M := mL) (kBor (M := mL) (kBor (M := mL) (kBor (M := mL) (kBor (M := mL) (kBor (M := mL) (kB_neT (M := mL) (kCV (M := mL) (ci := 6) (kR_n (M := mL) dL_law_246 rfl) (kaI (M := mL) (kC_bi (M := mL) (v := 9) dL_law_247 kc_bipush_9) (kaI (M := mL) (kC_ic (M := mL) (v := 5) dL_law_249 kc_iconst_5) (kaN (M := mL)))) dL_law_250 ctX6_cut mdX6_cut imX6_cut seX6_cut clX6 mkL_38 ⟨(Nat.le_of_ble_eq_true rfl), (Nat.le_of_ble_eq_true rfl)⟩ (Nat.le_of_ble_eq_true rfl)) (kC_ic (M := mL) (v := (-1)) dL_law_253 kc_iconst_m1) dL_law_254 (by decide) rfl) (kB_neT (M := mL) (kCV (M := mL) (ci := 6) (kR_n (M := mL) dL_law_257 rfl) (kaI (M := mL) (kC_bi (M := mL) (v := 7) dL_law_258 kc_bipush_7) (kaN (M := mL))) dL_law_260 ctX6_addShield mdX6_addShield imX6_addShield seX6_addShield clX6 mkL_88 ⟨(Nat.le_of_ble_eq_true rfl), (Nat.le_of_ble_eq_true rfl)⟩ (Nat.le_of_ble_eq_true rfl)) (kC_ic (M := mL) (v := (-1)) dL_law_263 kc_iconst_m1) dL_law_264 (by decide) rfl)) (kB_neT (M := mL) (kCV (M := mL) (ci := 6) (kR_n (M := mL) dL_law_267 rfl) (kaI (M := mL) (kC_bi (M := mL) (v := 65) dL_law_268 kc_bipush_65) (kaN (M := mL))) dL_law_270 ctX6_append mdX6_append imX6_append seX6_append clX6 mkL_41 ⟨(Nat.le_of_ble_eq_true rfl), (Nat.le_of_ble_eq_true rfl)⟩ (Nat.le_of_ble_eq_true rfl)) (kC_ic (M := mL) (v := (-1)) dL_law_273 kc_iconst_m1) dL_law_274 (by decide) rfl)) (kB_neT (M := mL) (kCV (M := mL) (ci := 6) (kR_n (M := mL) dL_law_277 rfl) (kaI (M := mL) (kC_ic (M := mL) (v := 0) dL_law_278 kc_iconst_0) (kaN (M := mL))) dL_law_279 ctX6_work mdX6_work imX6_work seX6_work clX6 mkL_67 ⟨(Nat.le_of_ble_eq_true rfl), (Nat.le_of_ble_eq_true rfl)⟩ (Nat.le_of_ble_eq_true rfl)) (kC_ic (M := mL) (v := (-1)) dL_law_282 kc_iconst_m1) dL_law_283 (by decide) rfl)) (kB_neT (M := mL) (kCV (M := mL) (ci := 6) (kR_n (M := mL) dL_law_286 rfl) (kaI (M := mL) (kC_ic (M := mL) (v := 2) dL_law_287 kc_iconst_2) (kaI (M := mL) (kC_ic (M := mL) (v := 1) dL_law_288 kc_iconst_1) (kaI (M := mL) (kC_ic (M := mL) (v := 1) dL_law_289 kc_iconst_1) (kaI (M := mL) (kC_ic (M := mL) (v := 1) dL_law_290 kc_iconst_1) (kaI (M := mL) (kC_ic (M := mL) (v := 0) dL_law_291 kc_iconst_0) (kaN (M := mL))))))) dL_law_292 ctX6_order mdX6_order imX6_order seX6_order clX6 mkL_44 ⟨(Nat.le_of_ble_eq_true rfl), (Nat.le_of_ble_eq_true rfl)⟩ (Nat.le_of_ble_eq_true rfl)) (kC_ic (M := mL) (v := (-1)) dL_law_295 kc_iconst_m1) dL_law_296 (by decide) rfl)) (kB_neT (M := mL) (kCV (M := mL) (ci := 6) (kR_n (M := mL) dL_law_299 rfl) (kaI (M := mL) (kC_bi (M := mL) (v := 20) dL_law_300 kc_bipush_20) (kaI (M := mL) (kC_ic (M := mL) (v := 0) dL_law_302 kc_iconst_0) (kaN (M := mL)))) dL_law_303 ctX6_plate mdX6_plate imX6_plate seX6_plate clX6 mkL_18 ⟨(Nat.le_of_ble_eq_true rfl), (Nat.le_of_ble_eq_true rfl)⟩ (Nat.le_of_ble_eq_true rfl)) (kC_ic (M := mL) (v := (-1)) dL_law_306 kc_iconst_m1) dL_law_307 (by decide) rfl)) (kB_neT (M := mL) (kCV (M := mL) (ci := 6) (kR_n (M := mL) dL_law_310 rfl) (kaI (M := mL) (kC_bi (M := mL) (v := 10) dL_law_311 kc_bipush_10) (kaN (M := mL))) dL_law_313 ctX6_doneIn mdX6_doneIn imX6_doneIn seX6_doneIn clX6 mkL_73 ⟨(Nat.le_of_ble_eq_true rfl), (Nat.le_of_ble_eq_true rfl)⟩ (Nat.le_of_ble_eq_true rfl)) (kC_ic (M := mL) (v := (-1)) dL_law_316 kc_iconst_m1) dL_law_317 (by decide) rfl)) (kZ_neT (M := mL) (kCV (M := mL) (ci := 6) (kR_n (M := mL) dL_law_320 rfl) (kaI (M := mL) (kC_ic (M := mL) (v := 1) dL_law_321 kc_iconst_1) (kaN (M := mL))) dL_law_322 ctX6_lengthOf mdX6_lengthOf imX6_lengthOf seX6_lengthOf clX6 mkL_106 ⟨(Nat.le_of_ble_eq_true rfl), (Nat.le_of_ble_eq_true rfl)⟩ (Nat.le_of_ble_eq_true rfl)) dL_law_325 (by decide) rfl)) (kZ_neF (M := mL) (kJCmp (M := mL) (kJCS (M := mL) (kaR (M := mL) (kR_n (M := mL) dL_law_328 rfl) (kaN (M := mL))) dL_law_329 ctL_digest mdL_digest stL_digest mkL_76 ⟨(Nat.le_of_ble_eq_true rfl), (Nat.le_of_ble_eq_true rfl)⟩ (Nat.le_of_ble_eq_true rfl)) (kJL_n (M := mL) dL_law_332 rfl) dL_law_333) dL_law_334 (by decide) rfl)) (kRi (M := mL) (kC_ic (M := mL) (v := 0) dL_law_337 kc_iconst_0) dL_law_338) (kNop (M := mL))) (kRi (M := mL) (kEB (M := mL) (kBand (M := mL) (kZ_neF (M := mL) (kCS (M := mL) (kaR (M := mL) (kR_n (M := mL) dL_law_339 rfl) (kaN (M := mL))) dL_law_340 ctL_isRight mdL_isRight stL_isRight mkL_102 ⟨(Nat.le_of_ble_eq_true rfl), (Nat.le_of_ble_eq_true rfl)⟩ (Nat.le_of_ble_eq_true rfl)) dL_law_343 (by decide) rfl) (kZ_neF (M := mL) (kCS (M := mL) (kaR (M := mL) (kR_n (M := mL) dL_law_346 rfl) (kaN (M := mL))) dL_law_347 ctL_isForecast mdL_isForecast stL_isForecast mkL_109 ⟨(Nat.le_of_ble_eq_true rfl), (Nat.le_of_ble_eq_true rfl)⟩ (Nat.le_of_ble_eq_true rfl)) dL_law_350 (by decide) rfl)) dL_law_353 dL_law_354 (by decide) dL_law_357 rfl) dL_law_358)))))))))
end
