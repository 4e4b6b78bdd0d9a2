/-! ===== BEGIN words of one list among another's, by their places ===== -/
theorem goodIn_r {big : List Cond} (ws : List Cond) (ps : List Nat) (hp : ws = ps.filterMap (fun i => big[i]?)) (h : ws.all goodWord = true) : GoodIn big ws := by
  intro w hw
  have h1 := List.all_eq_true.mp h w hw
  rw [hp] at hw
  obtain ⟨i, -, hi⟩ := List.mem_filterMap.mp hw
  have hm : w ∈ big := by first | exact List.mem_of_getElem? hi | exact List.getElem?_mem hi
  exact ⟨hm, good_of_word h1⟩
theorem goodIn_app {big a b : List Cond} (ha : GoodIn big a) (hb : GoodIn big b) : GoodIn big (a ++ b) := fun w h => (List.mem_append.mp h).elim (ha w) (hb w)
theorem goodIn_ca {big a b : List Cond} {c : Cond} (ha : GoodIn big (c :: a)) (hb : GoodIn big b) : GoodIn big (c :: (a ++ b)) := fun w h => (List.mem_cons.mp h).elim (fun e => ha w (List.mem_cons.mpr (Or.inl e))) (fun h => (List.mem_append.mp h).elim (fun h => ha w (List.mem_cons.mpr (Or.inr h))) (hb w))
theorem goodIn_sub {big ws : List Cond} (hm : ∀ w ∈ ws, w ∈ big) (h : ws.all goodWord = true) : GoodIn big ws := fun w hw => ⟨hm w hw, good_of_word (List.all_eq_true.mp h w hw)⟩
/-! ===== END ===== -/

/-! ===== BEGIN printed: names, fields, word lists, decode rows ===== -/
def RX0 : String := "DripsOnBelow$Front"
def TX0 : u_T := fun k => match k with
  | 0 => ("DripsOnBelow$Front", "storeys", "I", false)
  | 1 => ("DripsOnBelow$Front", "stacks", "I", false)
  | 2 => ("DripsOnBelow$Front", "wind", "I", false)
  | 3 => ("DripsOnBelow$Front", "saucer", "[I", true)
  | 4 => ("DripsOnBelow$Front", "holds", "[I", true)
  | 5 => ("DripsOnBelow$Front", "awning", "[I", true)
  | 6 => ("DripsOnBelow$Front", "washing", "[I", true)
  | 7 => ("DripsOnBelow$Front", "hung", "[I", true)
  | 8 => ("DripsOnBelow$Front", "lives", "[I", true)
  | _ => ("DripsOnBelow$Front", "home", "[I", true)
def tyX0 : Nat → FieldType := fun k => match k with
  | 0 => .int
  | 1 => .int
  | 2 => .int
  | 3 => .array .int
  | 4 => .array .int
  | 5 => .array .int
  | 6 => .array .int
  | 7 => .array .int
  | 8 => .array .int
  | _ => .array .int
abbrev wsX00 : List Cond := u_ws RX0 TX0 10
theorem nmX0 : ∀ a, a < 10 → ∀ b, b < 10 → a ≠ b → (TX0 a).2.1 ≠ (TX0 b).2.1 := by decide +kernel
theorem tyX0_ok : ∀ k, k < 10 → parseFieldDescriptor (TX0 k).2.2.1 = some (tyX0 k) := by decide +kernel
abbrev cX0_init : ByteArray := prog_2_method_1_code
def yX0_init : MethodName := ⟨RX0, "<init>", "()V"⟩
abbrev cX0_build : ByteArray := prog_2_method_2_code
def yX0_build : MethodName := ⟨RX0, "build", "(II)V"⟩
abbrev cX0_copyFrom : ByteArray := prog_2_method_3_code
def yX0_copyFrom : MethodName := ⟨RX0, "copyFrom", "(LDripsOnBelow$Front;)V"⟩
abbrev cX0_tenants : ByteArray := prog_2_method_4_code
def yX0_tenants : MethodName := ⟨RX0, "tenants", "()I"⟩
abbrev cX0_place : ByteArray := prog_2_method_5_code
def yX0_place : MethodName := ⟨RX0, "place", "(II)I"⟩
abbrev cX0_placeOf : ByteArray := prog_2_method_6_code
def yX0_placeOf : MethodName := ⟨RX0, "placeOf", "(I)I"⟩
abbrev cX0_flatAt : ByteArray := prog_2_method_7_code
def yX0_flatAt : MethodName := ⟨RX0, "flatAt", "(I)I"⟩
abbrev cX0_settle : ByteArray := prog_2_method_8_code
def yX0_settle : MethodName := ⟨RX0, "settle", "(II)V"⟩
abbrev cX0_change : ByteArray := prog_2_method_9_code
def yX0_change : MethodName := ⟨RX0, "change", "(II)V"⟩
abbrev cX0_ring : ByteArray := prog_2_method_10_code
def yX0_ring : MethodName := ⟨RX0, "ring", "(III)V"⟩
abbrev cX0_setSaucer : ByteArray := prog_2_method_11_code
def yX0_setSaucer : MethodName := ⟨RX0, "setSaucer", "(II)V"⟩
abbrev cX0_setWashing : ByteArray := prog_2_method_12_code
def yX0_setWashing : MethodName := ⟨RX0, "setWashing", "(III)V"⟩
abbrev cX0_dry : ByteArray := prog_2_method_13_code
def yX0_dry : MethodName := ⟨RX0, "dry", "()V"⟩
def RX1 : String := "DripsOnBelow$Habits"
def TX1 : u_T := fun k => match k with
  | 0 => ("DripsOnBelow$Habits", "count", "I", false)
  | 1 => ("DripsOnBelow$Habits", "who", "[I", true)
  | 2 => ("DripsOnBelow$Habits", "kind", "[I", true)
  | 3 => ("DripsOnBelow$Habits", "figure", "[I", true)
  | _ => ("DripsOnBelow$Habits", "hour", "[I", true)
def tyX1 : Nat → FieldType := fun k => match k with
  | 0 => .int
  | 1 => .array .int
  | 2 => .array .int
  | 3 => .array .int
  | _ => .array .int
abbrev wsX10 : List Cond := u_ws RX1 TX1 5
theorem nmX1 : ∀ a, a < 5 → ∀ b, b < 5 → a ≠ b → (TX1 a).2.1 ≠ (TX1 b).2.1 := by decide +kernel
theorem tyX1_ok : ∀ k, k < 5 → parseFieldDescriptor (TX1 k).2.2.1 = some (tyX1 k) := by decide +kernel
abbrev cX1_init : ByteArray := prog_3_method_1_code
def yX1_init : MethodName := ⟨RX1, "<init>", "()V"⟩
abbrev cX1_add : ByteArray := prog_3_method_2_code
def yX1_add : MethodName := ⟨RX1, "add", "(IIII)V"⟩
abbrev cX1_copyFrom : ByteArray := prog_3_method_3_code
def yX1_copyFrom : MethodName := ⟨RX1, "copyFrom", "(LDripsOnBelow$Habits;)V"⟩
abbrev cX1_countOf : ByteArray := prog_3_method_4_code
def yX1_countOf : MethodName := ⟨RX1, "countOf", "(I)I"⟩
abbrev cX1_putOff : ByteArray := prog_3_method_5_code
def yX1_putOff : MethodName := ⟨RX1, "putOff", "(II)V"⟩
abbrev cX1_raise : ByteArray := prog_3_method_6_code
def yX1_raise : MethodName := ⟨RX1, "raise", "(I)V"⟩
def RX2 : String := "DripsOnBelow$House"
def TX2 : u_T := fun k => match k with
  | 0 => ("DripsOnBelow$House", "front", "LDripsOnBelow$Front;", true)
  | 1 => ("DripsOnBelow$House", "habits", "LDripsOnBelow$Habits;", true)
  | 2 => ("DripsOnBelow$House", "ledger", "LDripsOnBelow$Ledger;", true)
  | 3 => ("DripsOnBelow$House", "way", "LDripsOnBelow$Way;", true)
  | _ => ("DripsOnBelow$House", "weeks", "I", false)
def tyX2 : Nat → FieldType := fun k => match k with
  | 0 => .object "DripsOnBelow$Front"
  | 1 => .object "DripsOnBelow$Habits"
  | 2 => .object "DripsOnBelow$Ledger"
  | 3 => .object "DripsOnBelow$Way"
  | _ => .int
abbrev wsX20 : List Cond := u_ws RX2 TX2 5
theorem nmX2 : ∀ a, a < 5 → ∀ b, b < 5 → a ≠ b → (TX2 a).2.1 ≠ (TX2 b).2.1 := by decide +kernel
theorem tyX2_ok : ∀ k, k < 5 → parseFieldDescriptor (TX2 k).2.2.1 = some (tyX2 k) := by decide +kernel
abbrev cX2_init : ByteArray := prog_4_method_1_code
def yX2_init : MethodName := ⟨RX2, "<init>", "()V"⟩
abbrev cX2_copyFrom : ByteArray := prog_4_method_2_code
def yX2_copyFrom : MethodName := ⟨RX2, "copyFrom", "(LDripsOnBelow$House;)V"⟩
abbrev cX2_build : ByteArray := prog_4_method_3_code
def yX2_build : MethodName := ⟨RX2, "build", "(II)V"⟩
abbrev cX2_follow : ByteArray := prog_4_method_4_code
def yX2_follow : MethodName := ⟨RX2, "follow", "(I)LDripsOnBelow$Way;"⟩
abbrev cX2_trace : ByteArray := prog_4_method_5_code
def yX2_trace : MethodName := ⟨RX2, "trace", "(I)LDripsOnBelow$Way;"⟩
abbrev cX2_harmAt : ByteArray := prog_4_method_6_code
def yX2_harmAt : MethodName := ⟨RX2, "harmAt", "(II)I"⟩
abbrev cX2_fall : ByteArray := prog_4_method_7_code
def yX2_fall : MethodName := ⟨RX2, "fall", "(I)V"⟩
abbrev cX2_spendWeek : ByteArray := prog_4_method_8_code
def yX2_spendWeek : MethodName := ⟨RX2, "spendWeek", "()I"⟩
abbrev cX2_takeRevenge : ByteArray := prog_4_method_9_code
def yX2_takeRevenge : MethodName := ⟨RX2, "takeRevenge", "()V"⟩
def RX3 : String := "DripsOnBelow$Ledger"
def TX3 : u_T := fun k => match k with
  | 0 => ("DripsOnBelow$Ledger", "harm", "[I", true)
  | 1 => ("DripsOnBelow$Ledger", "anger", "[I", true)
  | 2 => ("DripsOnBelow$Ledger", "done", "[I", true)
  | 3 => ("DripsOnBelow$Ledger", "doers", "[I", true)
  | _ => ("DripsOnBelow$Ledger", "all", "I", false)
def tyX3 : Nat → FieldType := fun k => match k with
  | 0 => .array .int
  | 1 => .array .int
  | 2 => .array .int
  | 3 => .array .int
  | _ => .int
abbrev wsX30 : List Cond := u_ws RX3 TX3 5
theorem nmX3 : ∀ a, a < 5 → ∀ b, b < 5 → a ≠ b → (TX3 a).2.1 ≠ (TX3 b).2.1 := by decide +kernel
theorem tyX3_ok : ∀ k, k < 5 → parseFieldDescriptor (TX3 k).2.2.1 = some (tyX3 k) := by decide +kernel
abbrev cX3_init : ByteArray := prog_5_method_1_code
def yX3_init : MethodName := ⟨RX3, "<init>", "()V"⟩
abbrev cX3_pair : ByteArray := prog_5_method_2_code
def yX3_pair : MethodName := ⟨RX3, "pair", "(II)I"⟩
abbrev cX3_clear : ByteArray := prog_5_method_3_code
def yX3_clear : MethodName := ⟨RX3, "clear", "()V"⟩
abbrev cX3_copyFrom : ByteArray := prog_5_method_4_code
def yX3_copyFrom : MethodName := ⟨RX3, "copyFrom", "(LDripsOnBelow$Ledger;)V"⟩
abbrev cX3_beginWeek : ByteArray := prog_5_method_5_code
def yX3_beginWeek : MethodName := ⟨RX3, "beginWeek", "()V"⟩
abbrev cX3_note : ByteArray := prog_5_method_6_code
def yX3_note : MethodName := ⟨RX3, "note", "(III)V"⟩
abbrev cX3_isAngry : ByteArray := prog_5_method_7_code
def yX3_isAngry : MethodName := ⟨RX3, "isAngry", "(I)Z"⟩
def RX4 : String := "DripsOnBelow$Letters"
def TX4 : u_T := fun k => match k with
  | 0 => ("DripsOnBelow$Letters", "text", "[I", true)
  | _ => ("DripsOnBelow$Letters", "count", "I", false)
def tyX4 : Nat → FieldType := fun k => match k with
  | 0 => .array .int
  | _ => .int
abbrev wsX40 : List Cond := u_ws RX4 TX4 2
theorem nmX4 : ∀ a, a < 2 → ∀ b, b < 2 → a ≠ b → (TX4 a).2.1 ≠ (TX4 b).2.1 := by decide +kernel
theorem tyX4_ok : ∀ k, k < 2 → parseFieldDescriptor (TX4 k).2.2.1 = some (tyX4 k) := by decide +kernel
abbrev cX4_init : ByteArray := prog_6_method_1_code
def yX4_init : MethodName := ⟨RX4, "<init>", "()V"⟩
abbrev cX4_add : ByteArray := prog_6_method_2_code
def yX4_add : MethodName := ⟨RX4, "add", "(I)I"⟩
abbrev cX4_letter : ByteArray := prog_6_method_3_code
def yX4_letter : MethodName := ⟨RX4, "letter", "(I)I"⟩
abbrev cX4_digit : ByteArray := prog_6_method_4_code
def yX4_digit : MethodName := ⟨RX4, "digit", "(I)I"⟩
abbrev cX4_sign : ByteArray := prog_6_method_5_code
def yX4_sign : MethodName := ⟨RX4, "sign", "(I)I"⟩
abbrev cX4_tell : ByteArray := prog_6_method_6_code
def yX4_tell : MethodName := ⟨RX4, "tell", "(LDripsOnBelow$House;)I"⟩
abbrev cX4_formFault : ByteArray := prog_6_method_7_code
def yX4_formFault : MethodName := ⟨RX4, "formFault", "()I"⟩
abbrev cX4_statementEnd : ByteArray := prog_6_method_8_code
def yX4_statementEnd : MethodName := ⟨RX4, "statementEnd", "(I)I"⟩
abbrev cX4_formOf : ByteArray := prog_6_method_9_code
def yX4_formOf : MethodName := ⟨RX4, "formOf", "(I)Ljava/lang/String;"⟩
abbrev cX4_lengthOf : ByteArray := prog_6_method_10_code
def yX4_lengthOf : MethodName := ⟨RX4, "lengthOf", "(CI)I"⟩
abbrev cX4_hoursFrom : ByteArray := prog_6_method_11_code
def yX4_hoursFrom : MethodName := ⟨RX4, "hoursFrom", "(I)I"⟩
abbrev cX4_carryOut : ByteArray := prog_6_method_12_code
def yX4_carryOut : MethodName := ⟨RX4, "carryOut", "(ILDripsOnBelow$House;)Z"⟩
abbrev cX4_carryOutFront : ByteArray := prog_6_method_13_code
def yX4_carryOutFront : MethodName := ⟨RX4, "carryOutFront", "(ILDripsOnBelow$House;)Z"⟩
abbrev cX4_carryOutHabit : ByteArray := prog_6_method_14_code
def yX4_carryOutHabit : MethodName := ⟨RX4, "carryOutHabit", "(ILDripsOnBelow$House;)Z"⟩
abbrev cX4_hourBits : ByteArray := prog_6_method_15_code
def yX4_hourBits : MethodName := ⟨RX4, "hourBits", "(I)I"⟩
def RX5 : String := "DripsOnBelow$Way"
def TX5 : u_T := fun k => match k with
  | 0 => ("DripsOnBelow$Way", "places", "[I", true)
  | 1 => ("DripsOnBelow$Way", "comes", "[I", true)
  | 2 => ("DripsOnBelow$Way", "stays", "[I", true)
  | _ => ("DripsOnBelow$Way", "count", "I", false)
def tyX5 : Nat → FieldType := fun k => match k with
  | 0 => .array .int
  | 1 => .array .int
  | 2 => .array .int
  | _ => .int
abbrev wsX50 : List Cond := u_ws RX5 TX5 4
theorem nmX5 : ∀ a, a < 4 → ∀ b, b < 4 → a ≠ b → (TX5 a).2.1 ≠ (TX5 b).2.1 := by decide +kernel
theorem tyX5_ok : ∀ k, k < 4 → parseFieldDescriptor (TX5 k).2.2.1 = some (tyX5 k) := by decide +kernel
abbrev cX5_init : ByteArray := prog_7_method_1_code
def yX5_init : MethodName := ⟨RX5, "<init>", "()V"⟩
abbrev cX5_trace : ByteArray := prog_7_method_2_code
def yX5_trace : MethodName := ⟨RX5, "trace", "(LDripsOnBelow$Front;LDripsOnBelow$Habits;I)V"⟩
abbrev cX5_hold : ByteArray := prog_7_method_3_code
def yX5_hold : MethodName := ⟨RX5, "hold", "(LDripsOnBelow$Front;LDripsOnBelow$Habits;I)V"⟩
abbrev cX5_next : ByteArray := prog_7_method_4_code
def yX5_next : MethodName := ⟨RX5, "next", "(LDripsOnBelow$Front;II)I"⟩
abbrev cX5_room : ByteArray := prog_7_method_5_code
def yX5_room : MethodName := ⟨RX5, "room", "(LDripsOnBelow$Front;II)I"⟩
abbrev cX5_comesTo : ByteArray := prog_7_method_6_code
def yX5_comesTo : MethodName := ⟨RX5, "comesTo", "(I)Z"⟩
def RX6 : String := "DripsOnBelow"
def TX6 : u_T := fun k => match k with
  | 0 => ("DripsOnBelow", "now", "LDripsOnBelow$House;", true)
  | 1 => ("DripsOnBelow", "taken", "LDripsOnBelow$House;", true)
  | 2 => ("DripsOnBelow", "trial", "LDripsOnBelow$House;", true)
  | 3 => ("DripsOnBelow", "letters", "LDripsOnBelow$Letters;", true)
  | 4 => ("DripsOnBelow", "told", "[I", true)
  | 5 => ("DripsOnBelow", "refusals", "[I", true)
  | 6 => ("DripsOnBelow", "before", "[I", true)
  | 7 => ("DripsOnBelow", "tolds", "I", false)
  | _ => ("DripsOnBelow", "isTaken", "Z", false)
def tyX6 : Nat → FieldType := fun k => match k with
  | 0 => .object "DripsOnBelow$House"
  | 1 => .object "DripsOnBelow$House"
  | 2 => .object "DripsOnBelow$House"
  | 3 => .object "DripsOnBelow$Letters"
  | 4 => .array .int
  | 5 => .array .int
  | 6 => .array .int
  | 7 => .int
  | _ => .boolean
abbrev wsX60 : List Cond := u_ws RX6 TX6 9
theorem nmX6 : ∀ a, a < 9 → ∀ b, b < 9 → a ≠ b → (TX6 a).2.1 ≠ (TX6 b).2.1 := by decide +kernel
theorem tyX6_ok : ∀ k, k < 9 → parseFieldDescriptor (TX6 k).2.2.1 = some (tyX6 k) := by decide +kernel
abbrev cX6_init : ByteArray := prog_1_method_1_code
def yX6_init : MethodName := ⟨RX6, "<init>", "()V"⟩
abbrev cX6_get : ByteArray := prog_1_method_2_code
def yX6_get : MethodName := ⟨RX6, "get", "([II)I"⟩
abbrev cX6_set : ByteArray := prog_1_method_3_code
def yX6_set : MethodName := ⟨RX6, "set", "([III)V"⟩
abbrev cX6_copy : ByteArray := prog_1_method_4_code
def yX6_copy : MethodName := ⟨RX6, "copy", "([I[I)V"⟩
abbrev cX6_sum : ByteArray := prog_1_method_5_code
def yX6_sum : MethodName := ⟨RX6, "sum", "([I)I"⟩
abbrev cX6_within : ByteArray := prog_1_method_6_code
def yX6_within : MethodName := ⟨RX6, "within", "(III)Z"⟩
abbrev cX6_refuse : ByteArray := prog_1_method_7_code
def yX6_refuse : MethodName := ⟨RX6, "refuse", "(I)I"⟩
abbrev cX6_isTenant : ByteArray := prog_1_method_8_code
def yX6_isTenant : MethodName := ⟨RX6, "isTenant", "(I)Z"⟩
abbrev cX6_isHabit : ByteArray := prog_1_method_9_code
def yX6_isHabit : MethodName := ⟨RX6, "isHabit", "(I)Z"⟩
abbrev cX6_isHour : ByteArray := prog_1_method_10_code
def yX6_isHour : MethodName := ⟨RX6, "isHour", "(I)Z"⟩
abbrev cX6_tryAnew : ByteArray := prog_1_method_11_code
def yX6_tryAnew : MethodName := ⟨RX6, "tryAnew", "()V"⟩
abbrev cX6_tryAsIs : ByteArray := prog_1_method_12_code
def yX6_tryAsIs : MethodName := ⟨RX6, "tryAsIs", "()I"⟩
abbrev cX6_tryHour : ByteArray := prog_1_method_13_code
def yX6_tryHour : MethodName := ⟨RX6, "tryHour", "(II)I"⟩
abbrev cX6_tryQuiet : ByteArray := prog_1_method_14_code
def yX6_tryQuiet : MethodName := ⟨RX6, "tryQuiet", "(II)I"⟩
abbrev cX6_tryAwning : ByteArray := prog_1_method_15_code
def yX6_tryAwning : MethodName := ⟨RX6, "tryAwning", "(II)I"⟩
abbrev cX6_doneTo : ByteArray := prog_1_method_16_code
def yX6_doneTo : MethodName := ⟨RX6, "doneTo", "(I)I"⟩
abbrev cX6_gain : ByteArray := prog_1_method_17_code
def yX6_gain : MethodName := ⟨RX6, "gain", "(I)I"⟩
abbrev cX6_feed : ByteArray := prog_1_method_18_code
def yX6_feed : MethodName := ⟨RX6, "feed", "(I)I"⟩
abbrev cX6_front : ByteArray := prog_1_method_19_code
def yX6_front : MethodName := ⟨RX6, "front", "()I"⟩
abbrev cX6_flat : ByteArray := prog_1_method_20_code
def yX6_flat : MethodName := ⟨RX6, "flat", "(II)I"⟩
abbrev cX6_tenant : ByteArray := prog_1_method_21_code
def yX6_tenant : MethodName := ⟨RX6, "tenant", "(II)I"⟩
abbrev cX6_anger : ByteArray := prog_1_method_22_code
def yX6_anger : MethodName := ⟨RX6, "anger", "(II)I"⟩
abbrev cX6_habit : ByteArray := prog_1_method_23_code
def yX6_habit : MethodName := ⟨RX6, "habit", "(II)I"⟩
abbrev cX6_count : ByteArray := prog_1_method_24_code
def yX6_count : MethodName := ⟨RX6, "count", "(I)I"⟩
abbrev cX6_put : ByteArray := prog_1_method_25_code
def yX6_put : MethodName := ⟨RX6, "put", "(II)I"⟩
abbrev cX6_saucer : ByteArray := prog_1_method_26_code
def yX6_saucer : MethodName := ⟨RX6, "saucer", "(II)I"⟩
abbrev cX6_awning : ByteArray := prog_1_method_27_code
def yX6_awning : MethodName := ⟨RX6, "awning", "(II)I"⟩
abbrev cX6_wash : ByteArray := prog_1_method_28_code
def yX6_wash : MethodName := ⟨RX6, "wash", "(III)I"⟩
abbrev cX6_wind : ByteArray := prog_1_method_29_code
def yX6_wind : MethodName := ⟨RX6, "wind", "(I)I"⟩
abbrev cX6_move : ByteArray := prog_1_method_30_code
def yX6_move : MethodName := ⟨RX6, "move", "(II)I"⟩
abbrev cX6_rain : ByteArray := prog_1_method_31_code
def yX6_rain : MethodName := ⟨RX6, "rain", "()I"⟩
abbrev cX6_week : ByteArray := prog_1_method_32_code
def yX6_week : MethodName := ⟨RX6, "week", "()I"⟩
abbrev cX6_steps : ByteArray := prog_1_method_33_code
def yX6_steps : MethodName := ⟨RX6, "steps", "(II)I"⟩
abbrev cX6_down : ByteArray := prog_1_method_34_code
def yX6_down : MethodName := ⟨RX6, "down", "(I)I"⟩
abbrev cX6_whom : ByteArray := prog_1_method_35_code
def yX6_whom : MethodName := ⟨RX6, "whom", "(II)I"⟩
abbrev cX6_does : ByteArray := prog_1_method_36_code
def yX6_does : MethodName := ⟨RX6, "does", "(II)I"⟩
abbrev cX6_harmed : ByteArray := prog_1_method_37_code
def yX6_harmed : MethodName := ⟨RX6, "harmed", "(II)I"⟩
abbrev cX6_least : ByteArray := prog_1_method_38_code
def yX6_least : MethodName := ⟨RX6, "least", "(II)I"⟩
abbrev cX6_hours : ByteArray := prog_1_method_39_code
def yX6_hours : MethodName := ⟨RX6, "hours", "(III)I"⟩
abbrev cX6_quiet : ByteArray := prog_1_method_40_code
def yX6_quiet : MethodName := ⟨RX6, "quiet", "(II)I"⟩
abbrev cX6_rule : ByteArray := prog_1_method_41_code
def yX6_rule : MethodName := ⟨RX6, "rule", "()I"⟩
abbrev cX6_hang : ByteArray := prog_1_method_42_code
def yX6_hang : MethodName := ⟨RX6, "hang", "(I)I"⟩
abbrev cX6_big : ByteArray := prog_1_method_43_code
def yX6_big : MethodName := ⟨RX6, "big", "(I)I"⟩
abbrev cX6_leads : ByteArray := prog_1_method_44_code
def yX6_leads : MethodName := ⟨RX6, "leads", "(I)I"⟩
abbrev cX6_whose : ByteArray := prog_1_method_45_code
def yX6_whose : MethodName := ⟨RX6, "whose", "(II)I"⟩
abbrev cX6_deal : ByteArray := prog_1_method_46_code
def yX6_deal : MethodName := ⟨RX6, "deal", "(II)I"⟩
abbrev cX6_pays : ByteArray := prog_1_method_47_code
def yX6_pays : MethodName := ⟨RX6, "pays", "(III)I"⟩
abbrev cX6_climbs : ByteArray := prog_1_method_48_code
def yX6_climbs : MethodName := ⟨RX6, "climbs", "()I"⟩
abbrev cX6_worth : ByteArray := prog_1_method_49_code
def yX6_worth : MethodName := ⟨RX6, "worth", "(I)I"⟩
abbrev cX6_swaps : ByteArray := prog_1_method_50_code
def yX6_swaps : MethodName := ⟨RX6, "swaps", "(I)I"⟩
abbrev cX6_pairs : ByteArray := prog_1_method_51_code
def yX6_pairs : MethodName := ⟨RX6, "pairs", "(Z)I"⟩
abbrev cX6_rings : ByteArray := prog_1_method_52_code
def yX6_rings : MethodName := ⟨RX6, "rings", "()I"⟩
abbrev cX6_peg : ByteArray := prog_1_method_53_code
def yX6_peg : MethodName := ⟨RX6, "peg", "(III)J"⟩
abbrev cX6_row : ByteArray := prog_1_method_54_code
def yX6_row : MethodName := ⟨RX6, "row", "(I)I"⟩
abbrev cX6_judge : ByteArray := prog_1_method_55_code
def yX6_judge : MethodName := ⟨RX6, "judge", "()I"⟩
abbrev cX6_seeds : ByteArray := prog_1_method_56_code
def yX6_seeds : MethodName := ⟨RX6, "seeds", "(II)I"⟩
abbrev cX6_image : ByteArray := prog_1_method_57_code
def yX6_image : MethodName := ⟨RX6, "image", "()I"⟩
abbrev cX6_restore : ByteArray := prog_1_method_58_code
def yX6_restore : MethodName := ⟨RX6, "restore", "()I"⟩
def RX7 : String := "DripsOnBelowModel"
def TX7 : u_T := fun k => match k with
  | 0 => ("DripsOnBelowModel", "storeys", "I", false)
  | 1 => ("DripsOnBelowModel", "stacks", "I", false)
  | 2 => ("DripsOnBelowModel", "blows", "I", false)
  | 3 => ("DripsOnBelowModel", "weeks", "I", false)
  | 4 => ("DripsOnBelowModel", "habits", "I", false)
  | 5 => ("DripsOnBelowModel", "saucers", "[I", true)
  | 6 => ("DripsOnBelowModel", "holds", "[I", true)
  | 7 => ("DripsOnBelowModel", "awnings", "[I", true)
  | 8 => ("DripsOnBelowModel", "washings", "[I", true)
  | 9 => ("DripsOnBelowModel", "hungs", "[I", true)
  | 10 => ("DripsOnBelowModel", "flatOf", "[I", true)
  | 11 => ("DripsOnBelowModel", "harms", "[I", true)
  | 12 => ("DripsOnBelowModel", "latest", "[I", true)
  | 13 => ("DripsOnBelowModel", "angers", "[I", true)
  | 14 => ("DripsOnBelowModel", "habitOf", "[I", true)
  | 15 => ("DripsOnBelowModel", "kinds", "[I", true)
  | 16 => ("DripsOnBelowModel", "figures", "[I", true)
  | 17 => ("DripsOnBelowModel", "times", "[I", true)
  | 18 => ("DripsOnBelowModel", "thrown", "I", false)
  | 19 => ("DripsOnBelowModel", "refusals", "[I", true)
  | 20 => ("DripsOnBelowModel", "held", "[I", true)
  | 21 => ("DripsOnBelowModel", "harmed0", "[I", true)
  | 22 => ("DripsOnBelowModel", "harmedBy", "[I", true)
  | 23 => ("DripsOnBelowModel", "wayFlats", "[I", true)
  | 24 => ("DripsOnBelowModel", "wayMany", "I", false)
  | 25 => ("DripsOnBelowModel", "letters", "[I", true)
  | 26 => ("DripsOnBelowModel", "letterMany", "I", false)
  | 27 => ("DripsOnBelowModel", "at", "I", false)
  | 28 => ("DripsOnBelowModel", "isBad", "Z", false)
  | 29 => ("DripsOnBelowModel", "statements", "I", false)
  | 30 => ("DripsOnBelowModel", "placeOf", "[I", true)
  | 31 => ("DripsOnBelowModel", "letterOf", "[I", true)
  | 32 => ("DripsOnBelowModel", "told", "[I", true)
  | 33 => ("DripsOnBelowModel", "kept", "[I", true)
  | 34 => ("DripsOnBelowModel", "imaged", "[I", true)
  | 35 => ("DripsOnBelowModel", "hasImage", "Z", false)
  | 36 => ("DripsOnBelowModel", "place", "I", false)
  | 37 => ("DripsOnBelowModel", "isTaking", "Z", false)
  | 38 => ("DripsOnBelowModel", "keptIn", "[I", false)
  | 39 => ("DripsOnBelowModel", "timesWere", "[I", true)
  | 40 => ("DripsOnBelowModel", "harmWas", "[I", true)
  | 41 => ("DripsOnBelowModel", "row", "[I", true)
  | _ => ("DripsOnBelowModel", "rowMany", "I", false)
def tyX7 : Nat → FieldType := fun k => match k with
  | 0 => .int
  | 1 => .int
  | 2 => .int
  | 3 => .int
  | 4 => .int
  | 5 => .array .int
  | 6 => .array .int
  | 7 => .array .int
  | 8 => .array .int
  | 9 => .array .int
  | 10 => .array .int
  | 11 => .array .int
  | 12 => .array .int
  | 13 => .array .int
  | 14 => .array .int
  | 15 => .array .int
  | 16 => .array .int
  | 17 => .array .int
  | 18 => .int
  | 19 => .array .int
  | 20 => .array .int
  | 21 => .array .int
  | 22 => .array .int
  | 23 => .array .int
  | 24 => .int
  | 25 => .array .int
  | 26 => .int
  | 27 => .int
  | 28 => .boolean
  | 29 => .int
  | 30 => .array .int
  | 31 => .array .int
  | 32 => .array .int
  | 33 => .array .int
  | 34 => .array .int
  | 35 => .boolean
  | 36 => .int
  | 37 => .boolean
  | 38 => .array .int
  | 39 => .array .int
  | 40 => .array .int
  | 41 => .array .int
  | _ => .int
abbrev wsX70 : List Cond := u_ws RX7 TX7 43
theorem nmX7 : ∀ a, a < 43 → ∀ b, b < 43 → a ≠ b → (TX7 a).2.1 ≠ (TX7 b).2.1 := by decide +kernel
theorem tyX7_ok : ∀ k, k < 43 → parseFieldDescriptor (TX7 k).2.2.1 = some (tyX7 k) := by decide +kernel
abbrev cX7_init : ByteArray := prog_9_method_1_code
def yX7_init : MethodName := ⟨RX7, "<init>", "()V"⟩
abbrev cX7_in : ByteArray := prog_9_method_3_code
def yX7_in : MethodName := ⟨RX7, "in", "(JJJ)Z"⟩
abbrev cX7_clearAll : ByteArray := prog_9_method_4_code
def yX7_clearAll : MethodName := ⟨RX7, "clearAll", "()V"⟩
abbrev cX7_refuse : ByteArray := prog_9_method_5_code
def yX7_refuse : MethodName := ⟨RX7, "refuse", "(I)I"⟩
abbrev cX7_tenants : ByteArray := prog_9_method_6_code
def yX7_tenants : MethodName := ⟨RX7, "tenants", "()I"⟩
abbrev cX7_flatAt : ByteArray := prog_9_method_7_code
def yX7_flatAt : MethodName := ⟨RX7, "flatAt", "(I)I"⟩
abbrev cX7_toldAs : ByteArray := prog_9_method_8_code
def yX7_toldAs : MethodName := ⟨RX7, "toldAs", "(I)I"⟩
abbrev cX7_isTenant : ByteArray := prog_9_method_9_code
def yX7_isTenant : MethodName := ⟨RX7, "isTenant", "(I)Z"⟩
abbrev cX7_areTenants : ByteArray := prog_9_method_10_code
def yX7_areTenants : MethodName := ⟨RX7, "areTenants", "(II)Z"⟩
abbrev cX7_isHabit : ByteArray := prog_9_method_11_code
def yX7_isHabit : MethodName := ⟨RX7, "isHabit", "(I)Z"⟩
abbrev cX7_livesIn : ByteArray := prog_9_method_12_code
def yX7_livesIn : MethodName := ⟨RX7, "livesIn", "(I)I"⟩
abbrev cX7_nextOf : ByteArray := prog_9_method_13_code
def yX7_nextOf : MethodName := ⟨RX7, "nextOf", "(II)I"⟩
abbrev cX7_lesser : ByteArray := prog_9_method_14_code
def yX7_lesser : MethodName := ⟨RX7, "lesser", "(II)I"⟩
abbrev cX7_harmOf : ByteArray := prog_9_method_15_code
def yX7_harmOf : MethodName := ⟨RX7, "harmOf", "(IIII)I"⟩
abbrev cX7_beginMind : ByteArray := prog_9_method_16_code
def yX7_beginMind : MethodName := ⟨RX7, "beginMind", "()V"⟩
abbrev cX7_clearHarm : ByteArray := prog_9_method_17_code
def yX7_clearHarm : MethodName := ⟨RX7, "clearHarm", "()V"⟩
abbrev cX7_keptAt : ByteArray := prog_9_method_18_code
def yX7_keptAt : MethodName := ⟨RX7, "keptAt", "(III)I"⟩
abbrev cX7_fall : ByteArray := prog_9_method_19_code
def yX7_fall : MethodName := ⟨RX7, "fall", "(I)V"⟩
abbrev cX7_sumHarm : ByteArray := prog_9_method_20_code
def yX7_sumHarm : MethodName := ⟨RX7, "sumHarm", "()I"⟩
abbrev cX7_weekOn : ByteArray := prog_9_method_21_code
def yX7_weekOn : MethodName := ⟨RX7, "weekOn", "()I"⟩
abbrev cX7_oneWeek : ByteArray := prog_9_method_22_code
def yX7_oneWeek : MethodName := ⟨RX7, "oneWeek", "()I"⟩
abbrev cX7_oneWeekOf : ByteArray := prog_9_method_23_code
def yX7_oneWeekOf : MethodName := ⟨RX7, "oneWeekOf", "(I)I"⟩
abbrev cX7_keepWeek : ByteArray := prog_9_method_24_code
def yX7_keepWeek : MethodName := ⟨RX7, "keepWeek", "()V"⟩
abbrev cX7_feed : ByteArray := prog_9_method_25_code
def yX7_feed : MethodName := ⟨RX7, "feed", "(I)I"⟩
abbrev cX7_here : ByteArray := prog_9_method_26_code
def yX7_here : MethodName := ⟨RX7, "here", "()I"⟩
abbrev cX7_readDigit : ByteArray := prog_9_method_27_code
def yX7_readDigit : MethodName := ⟨RX7, "readDigit", "()I"⟩
abbrev cX7_readTwo : ByteArray := prog_9_method_28_code
def yX7_readTwo : MethodName := ⟨RX7, "readTwo", "()I"⟩
abbrev cX7_readSign : ByteArray := prog_9_method_29_code
def yX7_readSign : MethodName := ⟨RX7, "readSign", "()I"⟩
abbrev cX7_readHours : ByteArray := prog_9_method_30_code
def yX7_readHours : MethodName := ⟨RX7, "readHours", "()I"⟩
abbrev cX7_readTenant : ByteArray := prog_9_method_31_code
def yX7_readTenant : MethodName := ⟨RX7, "readTenant", "()I"⟩
abbrev cX7_readStatement : ByteArray := prog_9_method_32_code
def yX7_readStatement : MethodName := ⟨RX7, "readStatement", "()V"⟩
abbrev cX7_frontComes : ByteArray := prog_9_method_33_code
def yX7_frontComes : MethodName := ⟨RX7, "frontComes", "(II)Z"⟩
abbrev cX7_habitComes : ByteArray := prog_9_method_34_code
def yX7_habitComes : MethodName := ⟨RX7, "habitComes", "(I)Z"⟩
abbrev cX7_saucerIs : ByteArray := prog_9_method_35_code
def yX7_saucerIs : MethodName := ⟨RX7, "saucerIs", "(II)V"⟩
abbrev cX7_flatComes : ByteArray := prog_9_method_36_code
def yX7_flatComes : MethodName := ⟨RX7, "flatComes", "(II)Z"⟩
abbrev cX7_comes : ByteArray := prog_9_method_37_code
def yX7_comes : MethodName := ⟨RX7, "comes", "(I)Z"⟩
abbrev cX7_front : ByteArray := prog_9_method_38_code
def yX7_front : MethodName := ⟨RX7, "front", "()I"⟩
abbrev cX7_carry : ByteArray := prog_9_method_39_code
def yX7_carry : MethodName := ⟨RX7, "carry", "(I)I"⟩
abbrev cX7_carryAll : ByteArray := prog_9_method_40_code
def yX7_carryAll : MethodName := ⟨RX7, "carryAll", "([IZ)V"⟩
abbrev cX7_image : ByteArray := prog_9_method_41_code
def yX7_image : MethodName := ⟨RX7, "image", "()I"⟩
abbrev cX7_restore : ByteArray := prog_9_method_42_code
def yX7_restore : MethodName := ⟨RX7, "restore", "()I"⟩
abbrev cX7_flat : ByteArray := prog_9_method_43_code
def yX7_flat : MethodName := ⟨RX7, "flat", "(II)I"⟩
abbrev cX7_habitsOf : ByteArray := prog_9_method_44_code
def yX7_habitsOf : MethodName := ⟨RX7, "habitsOf", "(I)I"⟩
abbrev cX7_tenant : ByteArray := prog_9_method_45_code
def yX7_tenant : MethodName := ⟨RX7, "tenant", "(II)I"⟩
abbrev cX7_anger : ByteArray := prog_9_method_46_code
def yX7_anger : MethodName := ⟨RX7, "anger", "(II)I"⟩
abbrev cX7_habit : ByteArray := prog_9_method_47_code
def yX7_habit : MethodName := ⟨RX7, "habit", "(II)I"⟩
abbrev cX7_isTime : ByteArray := prog_9_method_48_code
def yX7_isTime : MethodName := ⟨RX7, "isTime", "(I)Z"⟩
abbrev cX7_put : ByteArray := prog_9_method_49_code
def yX7_put : MethodName := ⟨RX7, "put", "(II)I"⟩
abbrev cX7_wrongNumber : ByteArray := prog_9_method_50_code
def yX7_wrongNumber : MethodName := ⟨RX7, "wrongNumber", "(III)I"⟩
abbrev cX7_saucer : ByteArray := prog_9_method_51_code
def yX7_saucer : MethodName := ⟨RX7, "saucer", "(II)I"⟩
abbrev cX7_awning : ByteArray := prog_9_method_52_code
def yX7_awning : MethodName := ⟨RX7, "awning", "(II)I"⟩
abbrev cX7_wash : ByteArray := prog_9_method_53_code
def yX7_wash : MethodName := ⟨RX7, "wash", "(III)I"⟩
abbrev cX7_wind : ByteArray := prog_9_method_54_code
def yX7_wind : MethodName := ⟨RX7, "wind", "(I)I"⟩
abbrev cX7_change : ByteArray := prog_9_method_55_code
def yX7_change : MethodName := ⟨RX7, "change", "(II)V"⟩
abbrev cX7_move : ByteArray := prog_9_method_56_code
def yX7_move : MethodName := ⟨RX7, "move", "(II)I"⟩
abbrev cX7_rain : ByteArray := prog_9_method_57_code
def yX7_rain : MethodName := ⟨RX7, "rain", "()I"⟩
abbrev cX7_week : ByteArray := prog_9_method_58_code
def yX7_week : MethodName := ⟨RX7, "week", "()I"⟩
abbrev cX7_fallAlone : ByteArray := prog_9_method_59_code
def yX7_fallAlone : MethodName := ⟨RX7, "fallAlone", "(I)V"⟩
abbrev cX7_steps : ByteArray := prog_9_method_60_code
def yX7_steps : MethodName := ⟨RX7, "steps", "(II)I"⟩
abbrev cX7_down : ByteArray := prog_9_method_61_code
def yX7_down : MethodName := ⟨RX7, "down", "(I)I"⟩
abbrev cX7_comesTo : ByteArray := prog_9_method_62_code
def yX7_comesTo : MethodName := ⟨RX7, "comesTo", "(II)Z"⟩
abbrev cX7_whom : ByteArray := prog_9_method_63_code
def yX7_whom : MethodName := ⟨RX7, "whom", "(II)I"⟩
abbrev cX7_does : ByteArray := prog_9_method_64_code
def yX7_does : MethodName := ⟨RX7, "does", "(II)I"⟩
abbrev cX7_harmed : ByteArray := prog_9_method_65_code
def yX7_harmed : MethodName := ⟨RX7, "harmed", "(II)I"⟩
abbrev cX7_least : ByteArray := prog_9_method_66_code
def yX7_least : MethodName := ⟨RX7, "least", "(II)I"⟩
abbrev cX7_hours : ByteArray := prog_9_method_67_code
def yX7_hours : MethodName := ⟨RX7, "hours", "(III)I"⟩
abbrev cX7_keepTimes : ByteArray := prog_9_method_68_code
def yX7_keepTimes : MethodName := ⟨RX7, "keepTimes", "()V"⟩
abbrev cX7_timesBack : ByteArray := prog_9_method_69_code
def yX7_timesBack : MethodName := ⟨RX7, "timesBack", "()V"⟩
abbrev cX7_quietHarm : ByteArray := prog_9_method_70_code
def yX7_quietHarm : MethodName := ⟨RX7, "quietHarm", "(II)I"⟩
abbrev cX7_quiet : ByteArray := prog_9_method_71_code
def yX7_quiet : MethodName := ⟨RX7, "quiet", "(II)I"⟩
abbrev cX7_rule : ByteArray := prog_9_method_72_code
def yX7_rule : MethodName := ⟨RX7, "rule", "()I"⟩
abbrev cX7_hang : ByteArray := prog_9_method_73_code
def yX7_hang : MethodName := ⟨RX7, "hang", "(I)I"⟩
abbrev cX7_big : ByteArray := prog_9_method_74_code
def yX7_big : MethodName := ⟨RX7, "big", "(I)I"⟩
abbrev cX7_leads : ByteArray := prog_9_method_75_code
def yX7_leads : MethodName := ⟨RX7, "leads", "(I)I"⟩
abbrev cX7_keepHarm : ByteArray := prog_9_method_76_code
def yX7_keepHarm : MethodName := ⟨RX7, "keepHarm", "()V"⟩
abbrev cX7_whose : ByteArray := prog_9_method_77_code
def yX7_whose : MethodName := ⟨RX7, "whose", "(II)I"⟩
abbrev cX7_weekBoth : ByteArray := prog_9_method_78_code
def yX7_weekBoth : MethodName := ⟨RX7, "weekBoth", "(II)V"⟩
abbrev cX7_deal : ByteArray := prog_9_method_79_code
def yX7_deal : MethodName := ⟨RX7, "deal", "(II)I"⟩
abbrev cX7_pays : ByteArray := prog_9_method_80_code
def yX7_pays : MethodName := ⟨RX7, "pays", "(III)I"⟩
abbrev cX7_isAngry : ByteArray := prog_9_method_81_code
def yX7_isAngry : MethodName := ⟨RX7, "isAngry", "(I)Z"⟩
abbrev cX7_revenge : ByteArray := prog_9_method_82_code
def yX7_revenge : MethodName := ⟨RX7, "revenge", "()V"⟩
abbrev cX7_climbs : ByteArray := prog_9_method_83_code
def yX7_climbs : MethodName := ⟨RX7, "climbs", "()I"⟩
abbrev cX7_worth : ByteArray := prog_9_method_84_code
def yX7_worth : MethodName := ⟨RX7, "worth", "(I)I"⟩
abbrev cX7_haveLess : ByteArray := prog_9_method_85_code
def yX7_haveLess : MethodName := ⟨RX7, "haveLess", "(II)Z"⟩
abbrev cX7_pairsOf : ByteArray := prog_9_method_86_code
def yX7_pairsOf : MethodName := ⟨RX7, "pairsOf", "(I)I"⟩
abbrev cX7_isRing : ByteArray := prog_9_method_87_code
def yX7_isRing : MethodName := ⟨RX7, "isRing", "(III)Z"⟩
abbrev cX7_ringsOf : ByteArray := prog_9_method_88_code
def yX7_ringsOf : MethodName := ⟨RX7, "ringsOf", "()I"⟩
abbrev cX7_swaps : ByteArray := prog_9_method_89_code
def yX7_swaps : MethodName := ⟨RX7, "swaps", "(I)I"⟩
abbrev cX7_divisor : ByteArray := prog_9_method_90_code
def yX7_divisor : MethodName := ⟨RX7, "divisor", "(II)I"⟩
abbrev cX7_peg : ByteArray := prog_9_method_91_code
def yX7_peg : MethodName := ⟨RX7, "peg", "(III)J"⟩
abbrev cX7_row : ByteArray := prog_9_method_92_code
def yX7_row : MethodName := ⟨RX7, "row", "(I)I"⟩
abbrev cX7_judge : ByteArray := prog_9_method_93_code
def yX7_judge : MethodName := ⟨RX7, "judge", "()I"⟩
abbrev cX7_seeds : ByteArray := prog_9_method_94_code
def yX7_seeds : MethodName := ⟨RX7, "seeds", "(II)I"⟩
abbrev cX7_sumOf : ByteArray := prog_9_method_95_code
def yX7_sumOf : MethodName := ⟨RX7, "sumOf", "([II)I"⟩
abbrev cX7_count : ByteArray := prog_9_method_96_code
def yX7_count : MethodName := ⟨RX7, "count", "(I)I"⟩
def RJx145de : String := "java/io/Serializable"
def TJx145de : u_T := fun k => match k with
  | _ => ("", "", "", false)
def tyJx145de : Nat → FieldType := fun k => match k with
  | _ => .int
abbrev wsJx145de0 : List Cond := u_ws RJx145de TJx145de 0
theorem nmJx145de : ∀ a, a < 0 → ∀ b, b < 0 → a ≠ b → (TJx145de a).2.1 ≠ (TJx145de b).2.1 := by decide +kernel
theorem tyJx145de_ok : ∀ k, k < 0 → parseFieldDescriptor (TJx145de k).2.2.1 = some (tyJx145de k) := by decide +kernel
def RJx9f9b0 : String := "java/lang/CharSequence"
def TJx9f9b0 : u_T := fun k => match k with
  | _ => ("", "", "", false)
def tyJx9f9b0 : Nat → FieldType := fun k => match k with
  | _ => .int
abbrev wsJx9f9b00 : List Cond := u_ws RJx9f9b0 TJx9f9b0 0
theorem nmJx9f9b0 : ∀ a, a < 0 → ∀ b, b < 0 → a ≠ b → (TJx9f9b0 a).2.1 ≠ (TJx9f9b0 b).2.1 := by decide +kernel
theorem tyJx9f9b0_ok : ∀ k, k < 0 → parseFieldDescriptor (TJx9f9b0 k).2.2.1 = some (tyJx9f9b0 k) := by decide +kernel
def RJxb160c : String := "java/lang/Comparable"
def TJxb160c : u_T := fun k => match k with
  | _ => ("", "", "", false)
def tyJxb160c : Nat → FieldType := fun k => match k with
  | _ => .int
abbrev wsJxb160c0 : List Cond := u_ws RJxb160c TJxb160c 0
theorem nmJxb160c : ∀ a, a < 0 → ∀ b, b < 0 → a ≠ b → (TJxb160c a).2.1 ≠ (TJxb160c b).2.1 := by decide +kernel
theorem tyJxb160c_ok : ∀ k, k < 0 → parseFieldDescriptor (TJxb160c k).2.2.1 = some (tyJxb160c k) := by decide +kernel
def RJ9 : String := "java/lang/Math"
def TJ9 : u_T := fun k => match k with
  | _ => ("", "", "", false)
def tyJ9 : Nat → FieldType := fun k => match k with
  | _ => .int
abbrev wsJ90 : List Cond := u_ws RJ9 TJ9 0
theorem nmJ9 : ∀ a, a < 0 → ∀ b, b < 0 → a ≠ b → (TJ9 a).2.1 ≠ (TJ9 b).2.1 := by decide +kernel
theorem tyJ9_ok : ∀ k, k < 0 → parseFieldDescriptor (TJ9 k).2.2.1 = some (tyJ9 k) := by decide +kernel
abbrev cJ9_abs_0f7a4 : ByteArray := prog_10_method_59_code
def yJ9_abs_0f7a4 : MethodName := ⟨RJ9, "abs", "(I)I"⟩
abbrev cJ9_max_7cf53 : ByteArray := prog_10_method_65_code
def yJ9_max_7cf53 : MethodName := ⟨RJ9, "max", "(II)I"⟩
abbrev cJ9_min_7cf53 : ByteArray := prog_10_method_69_code
def yJ9_min_7cf53 : MethodName := ⟨RJ9, "min", "(II)I"⟩
def RJ0 : String := "java/lang/String"
def TJ0 : u_T := fun k => match k with
  | _ => ("", "", "", false)
def tyJ0 : Nat → FieldType := fun k => match k with
  | _ => .int
abbrev wsJ00 : List Cond := u_ws RJ0 TJ0 0
theorem nmJ0 : ∀ a, a < 0 → ∀ b, b < 0 → a ≠ b → (TJ0 a).2.1 ≠ (TJ0 b).2.1 := by decide +kernel
theorem tyJ0_ok : ∀ k, k < 0 → parseFieldDescriptor (TJ0 k).2.2.1 = some (tyJ0 k) := by decide +kernel
abbrev cJ0_length_8abf5 : ByteArray := prog_11_method_54_code
def yJ0_length_8abf5 : MethodName := ⟨RJ0, "length", "()I"⟩
abbrev cJ0_isEmpty_aae02 : ByteArray := prog_11_method_55_code
def yJ0_isEmpty_aae02 : MethodName := ⟨RJ0, "isEmpty", "()Z"⟩
abbrev cJ0_charAt_5068e : ByteArray := prog_11_method_56_code
def yJ0_charAt_5068e : MethodName := ⟨RJ0, "charAt", "(I)C"⟩
abbrev cJ0_coder_7d493 : ByteArray := prog_11_method_152_code
def yJ0_coder_7d493 : MethodName := ⟨RJ0, "coder", "()B"⟩
abbrev cJ0_isLatin1_aae02 : ByteArray := prog_11_method_154_code
def yJ0_isLatin1_aae02 : MethodName := ⟨RJ0, "isLatin1", "()Z"⟩
abbrev cJ0_checkIndex_df160 : ByteArray := prog_11_method_155_code
def yJ0_checkIndex_df160 : MethodName := ⟨RJ0, "checkIndex", "(II)V"⟩
def RJ1 : String := "java/lang/StringLatin1"
def TJ1 : u_T := fun k => match k with
  | _ => ("", "", "", false)
def tyJ1 : Nat → FieldType := fun k => match k with
  | _ => .int
abbrev wsJ10 : List Cond := u_ws RJ1 TJ1 0
theorem nmJ1 : ∀ a, a < 0 → ∀ b, b < 0 → a ≠ b → (TJ1 a).2.1 ≠ (TJ1 b).2.1 := by decide +kernel
theorem tyJ1_ok : ∀ k, k < 0 → parseFieldDescriptor (TJ1 k).2.2.1 = some (tyJ1 k) := by decide +kernel
abbrev cJ1_charAt_3b067 : ByteArray := prog_12_method_2_code
def yJ1_charAt_3b067 : MethodName := ⟨RJ1, "charAt", "([BI)C"⟩
def RJ2 : String := "java/lang/StringUTF16"
def TJ2 : u_T := fun k => match k with
  | _ => ("", "", "", false)
def tyJ2 : Nat → FieldType := fun k => match k with
  | _ => .int
abbrev wsJ20 : List Cond := u_ws RJ2 TJ2 0
theorem nmJ2 : ∀ a, a < 0 → ∀ b, b < 0 → a ≠ b → (TJ2 a).2.1 ≠ (TJ2 b).2.1 := by decide +kernel
theorem tyJ2_ok : ∀ k, k < 0 → parseFieldDescriptor (TJ2 k).2.2.1 = some (tyJ2 k) := by decide +kernel
abbrev cJ2_getChar_3b067 : ByteArray := prog_13_method_5_code
def yJ2_getChar_3b067 : MethodName := ⟨RJ2, "getChar", "([BI)C"⟩
abbrev cJ2_length_9d52b : ByteArray := prog_13_method_6_code
def yJ2_length_9d52b : MethodName := ⟨RJ2, "length", "([B)I"⟩
abbrev cJ2_charAt_3b067 : ByteArray := prog_13_method_83_code
def yJ2_charAt_3b067 : MethodName := ⟨RJ2, "charAt", "([BI)C"⟩
abbrev cJ2_checkIndex_2214a : ByteArray := prog_13_method_91_code
def yJ2_checkIndex_2214a : MethodName := ⟨RJ2, "checkIndex", "(I[B)V"⟩
def RJ10 : String := "java/lang/System"
def TJ10 : u_T := fun k => match k with
  | _ => ("", "", "", false)
def tyJ10 : Nat → FieldType := fun k => match k with
  | _ => .int
abbrev wsJ100 : List Cond := u_ws RJ10 TJ10 0
theorem nmJ10 : ∀ a, a < 0 → ∀ b, b < 0 → a ≠ b → (TJ10 a).2.1 ≠ (TJ10 b).2.1 := by decide +kernel
theorem tyJ10_ok : ∀ k, k < 0 → parseFieldDescriptor (TJ10 k).2.2.1 = some (tyJ10 k) := by decide +kernel
def RJxfd54e : String := "java/lang/constant/Constable"
def TJxfd54e : u_T := fun k => match k with
  | _ => ("", "", "", false)
def tyJxfd54e : Nat → FieldType := fun k => match k with
  | _ => .int
abbrev wsJxfd54e0 : List Cond := u_ws RJxfd54e TJxfd54e 0
theorem nmJxfd54e : ∀ a, a < 0 → ∀ b, b < 0 → a ≠ b → (TJxfd54e a).2.1 ≠ (TJxfd54e b).2.1 := by decide +kernel
theorem tyJxfd54e_ok : ∀ k, k < 0 → parseFieldDescriptor (TJxfd54e k).2.2.1 = some (tyJxfd54e k) := by decide +kernel
def RJx3cf43 : String := "java/lang/constant/ConstantDesc"
def TJx3cf43 : u_T := fun k => match k with
  | _ => ("", "", "", false)
def tyJx3cf43 : Nat → FieldType := fun k => match k with
  | _ => .int
abbrev wsJx3cf430 : List Cond := u_ws RJx3cf43 TJx3cf43 0
theorem nmJx3cf43 : ∀ a, a < 0 → ∀ b, b < 0 → a ≠ b → (TJx3cf43 a).2.1 ≠ (TJx3cf43 b).2.1 := by decide +kernel
theorem tyJx3cf43_ok : ∀ k, k < 0 → parseFieldDescriptor (TJx3cf43 k).2.2.1 = some (tyJx3cf43 k) := by decide +kernel
def RJ7 : String := "java/util/Arrays"
def TJ7 : u_T := fun k => match k with
  | _ => ("", "", "", false)
def tyJ7 : Nat → FieldType := fun k => match k with
  | _ => .int
abbrev wsJ70 : List Cond := u_ws RJ7 TJ7 0
theorem nmJ7 : ∀ a, a < 0 → ∀ b, b < 0 → a ≠ b → (TJ7 a).2.1 ≠ (TJ7 b).2.1 := by decide +kernel
theorem tyJ7_ok : ∀ k, k < 0 → parseFieldDescriptor (TJ7 k).2.2.1 = some (tyJ7 k) := by decide +kernel
abbrev cJ7_fill_53178 : ByteArray := prog_15_method_103_code
def yJ7_fill_53178 : MethodName := ⟨RJ7, "fill", "([II)V"⟩
def RJ3 : String := "jdk/internal/util/Preconditions"
def TJ3 : u_T := fun k => match k with
  | _ => ("", "", "", false)
def tyJ3 : Nat → FieldType := fun k => match k with
  | _ => .int
abbrev wsJ30 : List Cond := u_ws RJ3 TJ3 0
theorem nmJ3 : ∀ a, a < 0 → ∀ b, b < 0 → a ≠ b → (TJ3 a).2.1 ≠ (TJ3 b).2.1 := by decide +kernel
theorem tyJ3_ok : ∀ k, k < 0 → parseFieldDescriptor (TJ3 k).2.2.1 = some (tyJ3 k) := by decide +kernel
abbrev cJ3_checkIndex_8e157 : ByteArray := prog_16_method_11_code
def yJ3_checkIndex_8e157 : MethodName := ⟨RJ3, "checkIndex", "(IILjava/util/function/BiFunction;)I"⟩
def RL : String := "DripsOnBelowLaw"
abbrev cL_law : ByteArray := code
def yL_law : MethodName := ⟨RL, "law", "([I)Z"⟩
abbrev vwCl : List vw_C := [(RX0, TX0, 10), (RX1, TX1, 5), (RX2, TX2, 5), (RX3, TX3, 5), (RX4, TX4, 2), (RX5, TX5, 4), (RX6, TX6, 9), (RX7, TX7, 43)]
/-- the words that stay: those of the tables that a callee may be given -/
def TT : List Cond := lw_tbl.filter goodWord
theorem tt_mem {w : Cond} (i : Nat) (h : lw_tbl[i]? = some w) (hg : goodWord w = true) : w ∈ TT := List.mem_filter.mpr ⟨List.mem_of_getElem? h, hg⟩
theorem tt_good : GoodIn TT TT := fun w h => ⟨h, good_of_word (List.mem_filter.mp h).2⟩
theorem tt_lw : ∀ w ∈ TT, w ∈ lw_tbl := fun _ h => (List.mem_filter.mp h).1
theorem tt_sub {ws : List Cond} (ps : List Nat) (hp : ws = ps.filterMap (fun i => lw_tbl[i]?)) (h : ws.all goodWord = true) : ∀ w ∈ ws, w ∈ TT := by
  intro w hw
  have h1 := List.all_eq_true.mp h w hw
  rw [hp] at hw
  obtain ⟨i, -, hi⟩ := List.mem_filterMap.mp hw
  exact List.mem_filter.mpr ⟨List.mem_of_getElem? hi, h1⟩
theorem inTX0 : ∀ w ∈ u_ws RX0 TX0 10, w ∈ TT := tt_sub [141, 143, 145, 147, 149, 151, 153, 155, 157, 159] (by decide +kernel) (by decide +kernel)
theorem inTX1 : ∀ w ∈ u_ws RX1 TX1 5, w ∈ TT := tt_sub [187, 189, 191, 193, 195] (by decide +kernel) (by decide +kernel)
theorem inTX2 : ∀ w ∈ u_ws RX2 TX2 5, w ∈ TT := tt_sub [260, 262, 264, 266, 268] (by decide +kernel) (by decide +kernel)
theorem inTX3 : ∀ w ∈ u_ws RX3 TX3 5, w ∈ TT := tt_sub [213, 215, 217, 219, 221] (by decide +kernel) (by decide +kernel)
theorem inTX4 : ∀ w ∈ u_ws RX4 TX4 2, w ∈ TT := tt_sub [280, 282] (by decide +kernel) (by decide +kernel)
theorem inTX5 : ∀ w ∈ u_ws RX5 TX5 4, w ∈ TT := tt_sub [240, 242, 244, 246] (by decide +kernel) (by decide +kernel)
theorem inTX6 : ∀ w ∈ u_ws RX6 TX6 9, w ∈ TT := tt_sub [294, 296, 298, 300, 302, 304, 306, 308, 310] (by decide +kernel) (by decide +kernel)
theorem inTX7 : ∀ w ∈ u_ws RX7 TX7 43, w ∈ TT := tt_sub [890, 892, 894, 896, 898, 900, 902, 904, 906, 908, 910, 912, 914, 916, 918, 920, 922, 924, 926, 928, 930, 932, 934, 936, 938, 940, 942, 944, 946, 948, 950, 952, 954, 956, 958, 960, 962, 964, 966, 968, 970, 972, 974] (by decide +kernel) (by decide +kernel)
