section
-- ===== PART A: goes FIRST, ahead of the names: the tables' words, and 'selects' of the private methods out of them =====
/-- a private method of a class that the tables say can be made, by its rows of tables_1 -/
def lw_okq (q : MethodName × Nat) : Prop := (q.1.cls ≠ "java/lang/invoke/MethodHandle" ∧ q.1.cls ≠ "java/lang/invoke/VarHandle") ∧ Cond.instantiable q.1.cls q.2 ∈ tables_1 ∧ Cond.privateMethod q.1 ∈ tables_1 ∧ Cond.instanceMethod q.1 ∈ tables_1
theorem lw_p0 : lw_okq (⟨"WalkFrames$History", "dropOldest", "()V"⟩, 2) := ⟨⟨by decide +kernel, by decide +kernel⟩, List.mem_of_getElem? (i := 173) (by decide +kernel), List.mem_of_getElem? (i := 271) (by decide +kernel), List.mem_of_getElem? (i := 272) (by decide +kernel)⟩
theorem lw_p1 : lw_okq (⟨"WalkFrames$Letters", "isAt", "(III)Z"⟩, 9) := ⟨⟨by decide +kernel, by decide +kernel⟩, List.mem_of_getElem? (i := 53) (by decide +kernel), List.mem_of_getElem? (i := 355) (by decide +kernel), List.mem_of_getElem? (i := 356) (by decide +kernel)⟩
theorem lw_p2 : lw_okq (⟨"WalkFrames$Letters", "insertByCode", "(ILWalkFrames$Line;)V"⟩, 9) := ⟨⟨by decide +kernel, by decide +kernel⟩, List.mem_of_getElem? (i := 53) (by decide +kernel), List.mem_of_getElem? (i := 363) (by decide +kernel), List.mem_of_getElem? (i := 364) (by decide +kernel)⟩
theorem lw_p3 : lw_okq (⟨"WalkFrames$Letters", "hasGreaterCode", "(II)Z"⟩, 9) := ⟨⟨by decide +kernel, by decide +kernel⟩, List.mem_of_getElem? (i := 53) (by decide +kernel), List.mem_of_getElem? (i := 375) (by decide +kernel), List.mem_of_getElem? (i := 376) (by decide +kernel)⟩
theorem lw_p4 : lw_okq (⟨"WalkFrames$RangeText", "readRange", "()V"⟩, 8) := ⟨⟨by decide +kernel, by decide +kernel⟩, List.mem_of_getElem? (i := 190) (by decide +kernel), List.mem_of_getElem? (i := 424) (by decide +kernel), List.mem_of_getElem? (i := 425) (by decide +kernel)⟩
theorem lw_p5 : lw_okq (⟨"WalkFrames$RangeText", "readNumber", "()I"⟩, 8) := ⟨⟨by decide +kernel, by decide +kernel⟩, List.mem_of_getElem? (i := 190) (by decide +kernel), List.mem_of_getElem? (i := 428) (by decide +kernel), List.mem_of_getElem? (i := 429) (by decide +kernel)⟩
theorem lw_p6 : lw_okq (⟨"WalkFrames$RangeText", "readDigit", "(C)I"⟩, 8) := ⟨⟨by decide +kernel, by decide +kernel⟩, List.mem_of_getElem? (i := 190) (by decide +kernel), List.mem_of_getElem? (i := 432) (by decide +kernel), List.mem_of_getElem? (i := 433) (by decide +kernel)⟩
theorem lw_p7 : lw_okq (⟨"WalkFrames$RangeText", "isNextIn", "(CC)Z"⟩, 8) := ⟨⟨by decide +kernel, by decide +kernel⟩, List.mem_of_getElem? (i := 190) (by decide +kernel), List.mem_of_getElem? (i := 436) (by decide +kernel), List.mem_of_getElem? (i := 437) (by decide +kernel)⟩
theorem lw_p8 : lw_okq (⟨"WalkFrames$RangeText", "readSign", "(C)V"⟩, 8) := ⟨⟨by decide +kernel, by decide +kernel⟩, List.mem_of_getElem? (i := 190) (by decide +kernel), List.mem_of_getElem? (i := 440) (by decide +kernel), List.mem_of_getElem? (i := 441) (by decide +kernel)⟩
theorem lw_p9 : lw_okq (⟨"WalkFrames$Letters", "addFromBag", "(IILWalkFrames$Line;)V"⟩, 9) := ⟨⟨by decide +kernel, by decide +kernel⟩, List.mem_of_getElem? (i := 53) (by decide +kernel), List.mem_of_getElem? (i := 500) (by decide +kernel), List.mem_of_getElem? (i := 501) (by decide +kernel)⟩
theorem lw_p10 : lw_okq (⟨"WalkFrames$Office", "sort", "(I)Z"⟩, 8) := ⟨⟨by decide +kernel, by decide +kernel⟩, List.mem_of_getElem? (i := 27) (by decide +kernel), List.mem_of_getElem? (i := 529) (by decide +kernel), List.mem_of_getElem? (i := 530) (by decide +kernel)⟩
theorem lw_p11 : lw_okq (⟨"WalkFrames$Office", "frameFor", "(I)I"⟩, 8) := ⟨⟨by decide +kernel, by decide +kernel⟩, List.mem_of_getElem? (i := 27) (by decide +kernel), List.mem_of_getElem? (i := 533) (by decide +kernel), List.mem_of_getElem? (i := 534) (by decide +kernel)⟩
theorem lw_p12 : lw_okq (⟨"WalkFrames$Office", "walkWithMostFree", "()I"⟩, 8) := ⟨⟨by decide +kernel, by decide +kernel⟩, List.mem_of_getElem? (i := 27) (by decide +kernel), List.mem_of_getElem? (i := 551) (by decide +kernel), List.mem_of_getElem? (i := 552) (by decide +kernel)⟩
theorem lw_p13 : lw_okq (⟨"WalkFrames$Office", "countBelonging", "(LWalkFrames$Line;I)I"⟩, 8) := ⟨⟨by decide +kernel, by decide +kernel⟩, List.mem_of_getElem? (i := 27) (by decide +kernel), List.mem_of_getElem? (i := 655) (by decide +kernel), List.mem_of_getElem? (i := 656) (by decide +kernel)⟩
theorem lw_p14 : lw_okq (⟨"WalkFrames$Office", "putBack", "(II)V"⟩, 8) := ⟨⟨by decide +kernel, by decide +kernel⟩, List.mem_of_getElem? (i := 27) (by decide +kernel), List.mem_of_getElem? (i := 672) (by decide +kernel), List.mem_of_getElem? (i := 673) (by decide +kernel)⟩
def lw_privs_1 : List (MethodName × Nat) := [(⟨"WalkFrames$History", "dropOldest", "()V"⟩, 2), (⟨"WalkFrames$Letters", "isAt", "(III)Z"⟩, 9), (⟨"WalkFrames$Letters", "insertByCode", "(ILWalkFrames$Line;)V"⟩, 9), (⟨"WalkFrames$Letters", "hasGreaterCode", "(II)Z"⟩, 9), (⟨"WalkFrames$RangeText", "readRange", "()V"⟩, 8), (⟨"WalkFrames$RangeText", "readNumber", "()I"⟩, 8), (⟨"WalkFrames$RangeText", "readDigit", "(C)I"⟩, 8), (⟨"WalkFrames$RangeText", "isNextIn", "(CC)Z"⟩, 8), (⟨"WalkFrames$RangeText", "readSign", "(C)V"⟩, 8), (⟨"WalkFrames$Letters", "addFromBag", "(IILWalkFrames$Line;)V"⟩, 9), (⟨"WalkFrames$Office", "sort", "(I)Z"⟩, 8), (⟨"WalkFrames$Office", "frameFor", "(I)I"⟩, 8), (⟨"WalkFrames$Office", "walkWithMostFree", "()I"⟩, 8), (⟨"WalkFrames$Office", "countBelonging", "(LWalkFrames$Line;I)I"⟩, 8), (⟨"WalkFrames$Office", "putBack", "(II)V"⟩, 8)]
theorem lw_r1 : ∀ q ∈ lw_privs_1, lw_okq q := List.forall_mem_cons.mpr ⟨lw_p0, List.forall_mem_cons.mpr ⟨lw_p1, List.forall_mem_cons.mpr ⟨lw_p2, List.forall_mem_cons.mpr ⟨lw_p3, List.forall_mem_cons.mpr ⟨lw_p4, List.forall_mem_cons.mpr ⟨lw_p5, List.forall_mem_cons.mpr ⟨lw_p6, List.forall_mem_cons.mpr ⟨lw_p7, List.forall_mem_cons.mpr ⟨lw_p8, List.forall_mem_cons.mpr ⟨lw_p9, List.forall_mem_cons.mpr ⟨lw_p10, List.forall_mem_cons.mpr ⟨lw_p11, List.forall_mem_cons.mpr ⟨lw_p12, List.forall_mem_cons.mpr ⟨lw_p13, List.forall_mem_cons.mpr ⟨lw_p14, fun _ h => absurd h List.not_mem_nil⟩⟩⟩⟩⟩⟩⟩⟩⟩⟩⟩⟩⟩⟩⟩
def lw_privs : List (MethodName × Nat) := lw_privs_1
def lw_tbl : List Cond := k2_sels lw_privs ++ tables_1
theorem lw_privs_ok : ∀ q ∈ lw_privs, lw_okq q := lw_r1
def RX0 : String := "WalkFrames$Carriers"
def TX0 : u_T := fun k => match k with
  | 0 => ("WalkFrames$Carriers", "walk", "[I", true)
  | 1 => ("WalkFrames$Carriers", "out", "[Z", true)
  | 2 => ("WalkFrames$Carriers", "delivered", "[I", true)
  | _ => ("WalkFrames$Carriers", "roundsMade", "[I", true)
def tyX0 : Nat → FieldType := fun k => match k with
  | 0 => .array .int
  | 1 => .array .boolean
  | 2 => .array .int
  | _ => .array .int
abbrev wsX00 : List Cond := u_ws RX0 TX0 4
theorem nmX0 : ∀ a, a < 4 → ∀ b, b < 4 → a ≠ b → (TX0 a).2.1 ≠ (TX0 b).2.1 := by decide +kernel
theorem tyX0_ok : ∀ k, k < 4 → parseFieldDescriptor (TX0 k).2.2.1 = some (tyX0 k) := by decide +kernel
def RX1 : String := "WalkFrames$History"
def TX1 : u_T := fun k => match k with
  | 0 => ("WalkFrames$History", "moments", "[LWalkFrames$Moment;", true)
  | _ => ("WalkFrames$History", "depth", "I", false)
def tyX1 : Nat → FieldType := fun k => match k with
  | 0 => .array (.object "WalkFrames$Moment")
  | _ => .int
abbrev wsX10 : List Cond := u_ws RX1 TX1 2
theorem nmX1 : ∀ a, a < 2 → ∀ b, b < 2 → a ≠ b → (TX1 a).2.1 ≠ (TX1 b).2.1 := by decide +kernel
theorem tyX1_ok : ∀ k, k < 2 → parseFieldDescriptor (TX1 k).2.2.1 = some (tyX1 k) := by decide +kernel
def RX2 : String := "WalkFrames$Letters"
def TX2 : u_T := fun k => match k with
  | 0 => ("WalkFrames$Letters", "code", "[I", true)
  | 1 => ("WalkFrames$Letters", "category", "[I", true)
  | 2 => ("WalkFrames$Letters", "misroutes", "[I", true)
  | 3 => ("WalkFrames$Letters", "place", "[I", true)
  | 4 => ("WalkFrames$Letters", "keeper", "[I", true)
  | 5 => ("WalkFrames$Letters", "came", "[I", true)
  | 6 => ("WalkFrames$Letters", "ended", "[I", true)
  | 7 => ("WalkFrames$Letters", "framed", "[I", true)
  | _ => ("WalkFrames$Letters", "count", "I", false)
def tyX2 : Nat → FieldType := fun k => match k with
  | 0 => .array .int
  | 1 => .array .int
  | 2 => .array .int
  | 3 => .array .int
  | 4 => .array .int
  | 5 => .array .int
  | 6 => .array .int
  | 7 => .array .int
  | _ => .int
abbrev wsX20 : List Cond := u_ws RX2 TX2 9
theorem nmX2 : ∀ a, a < 9 → ∀ b, b < 9 → a ≠ b → (TX2 a).2.1 ≠ (TX2 b).2.1 := by decide +kernel
theorem tyX2_ok : ∀ k, k < 9 → parseFieldDescriptor (TX2 k).2.2.1 = some (tyX2 k) := by decide +kernel
def RX3 : String := "WalkFrames$Line"
def TX3 : u_T := fun k => match k with
  | 0 => ("WalkFrames$Line", "letters", "[I", true)
  | _ => ("WalkFrames$Line", "size", "I", false)
def tyX3 : Nat → FieldType := fun k => match k with
  | 0 => .array .int
  | _ => .int
abbrev wsX30 : List Cond := u_ws RX3 TX3 2
theorem nmX3 : ∀ a, a < 2 → ∀ b, b < 2 → a ≠ b → (TX3 a).2.1 ≠ (TX3 b).2.1 := by decide +kernel
theorem tyX3_ok : ∀ k, k < 2 → parseFieldDescriptor (TX3 k).2.2.1 = some (tyX3 k) := by decide +kernel
def RX4 : String := "WalkFrames$Moment"
def TX4 : u_T := fun k => match k with
  | 0 => ("WalkFrames$Moment", "office", "LWalkFrames$Office;", true)
  | 1 => ("WalkFrames$Moment", "slots", "[LWalkFrames$Office;", true)
  | _ => ("WalkFrames$Moment", "filled", "[Z", true)
def tyX4 : Nat → FieldType := fun k => match k with
  | 0 => .object "WalkFrames$Office"
  | 1 => .array (.object "WalkFrames$Office")
  | _ => .array .boolean
abbrev wsX40 : List Cond := u_ws RX4 TX4 3
theorem nmX4 : ∀ a, a < 3 → ∀ b, b < 3 → a ≠ b → (TX4 a).2.1 ≠ (TX4 b).2.1 := by decide +kernel
theorem tyX4_ok : ∀ k, k < 3 → parseFieldDescriptor (TX4 k).2.2.1 = some (tyX4 k) := by decide +kernel
def RX5 : String := "WalkFrames$Office"
def TX5 : u_T := fun k => match k with
  | 0 => ("WalkFrames$Office", "ranges", "LWalkFrames$Ranges;", true)
  | 1 => ("WalkFrames$Office", "letters", "LWalkFrames$Letters;", true)
  | 2 => ("WalkFrames$Office", "carriers", "LWalkFrames$Carriers;", true)
  | 3 => ("WalkFrames$Office", "holes", "[I", true)
  | 4 => ("WalkFrames$Office", "hour", "I", false)
  | 5 => ("WalkFrames$Office", "rule", "I", false)
  | 6 => ("WalkFrames$Office", "speed", "I", false)
  | _ => ("WalkFrames$Office", "load", "I", false)
def tyX5 : Nat → FieldType := fun k => match k with
  | 0 => .object "WalkFrames$Ranges"
  | 1 => .object "WalkFrames$Letters"
  | 2 => .object "WalkFrames$Carriers"
  | 3 => .array .int
  | 4 => .int
  | 5 => .int
  | 6 => .int
  | _ => .int
abbrev wsX50 : List Cond := u_ws RX5 TX5 8
theorem nmX5 : ∀ a, a < 8 → ∀ b, b < 8 → a ≠ b → (TX5 a).2.1 ≠ (TX5 b).2.1 := by decide +kernel
theorem tyX5_ok : ∀ k, k < 8 → parseFieldDescriptor (TX5 k).2.2.1 = some (tyX5 k) := by decide +kernel
def RX6 : String := "WalkFrames$RangeText"
def TX6 : u_T := fun k => match k with
  | 0 => ("WalkFrames$RangeText", "signs", "[C", true)
  | 1 => ("WalkFrames$RangeText", "length", "I", false)
  | 2 => ("WalkFrames$RangeText", "from", "[I", true)
  | 3 => ("WalkFrames$RangeText", "to", "[I", true)
  | 4 => ("WalkFrames$RangeText", "walk", "[I", true)
  | 5 => ("WalkFrames$RangeText", "ranges", "I", false)
  | 6 => ("WalkFrames$RangeText", "next", "I", false)
  | _ => ("WalkFrames$RangeText", "broken", "Z", false)
def tyX6 : Nat → FieldType := fun k => match k with
  | 0 => .array .char
  | 1 => .int
  | 2 => .array .int
  | 3 => .array .int
  | 4 => .array .int
  | 5 => .int
  | 6 => .int
  | _ => .boolean
abbrev wsX60 : List Cond := u_ws RX6 TX6 8
theorem nmX6 : ∀ a, a < 8 → ∀ b, b < 8 → a ≠ b → (TX6 a).2.1 ≠ (TX6 b).2.1 := by decide +kernel
theorem tyX6_ok : ∀ k, k < 8 → parseFieldDescriptor (TX6 k).2.2.1 = some (tyX6 k) := by decide +kernel
def RX7 : String := "WalkFrames$Ranges"
def TX7 : u_T := fun k => match k with
  | _ => ("WalkFrames$Ranges", "walk", "[I", true)
def tyX7 : Nat → FieldType := fun k => match k with
  | _ => .array .int
abbrev wsX70 : List Cond := u_ws RX7 TX7 1
theorem nmX7 : ∀ a, a < 1 → ∀ b, b < 1 → a ≠ b → (TX7 a).2.1 ≠ (TX7 b).2.1 := by decide +kernel
theorem tyX7_ok : ∀ k, k < 1 → parseFieldDescriptor (TX7 k).2.2.1 = some (tyX7 k) := by decide +kernel
def RX8 : String := "WalkFrames"
def TX8 : u_T := fun k => match k with
  | 0 => ("WalkFrames", "now", "LWalkFrames$Moment;", true)
  | 1 => ("WalkFrames", "history", "LWalkFrames$History;", true)
  | 2 => ("WalkFrames", "text", "LWalkFrames$RangeText;", true)
  | 3 => ("WalkFrames", "trial", "LWalkFrames$Office;", true)
  | _ => ("WalkFrames", "line", "LWalkFrames$Line;", true)
def tyX8 : Nat → FieldType := fun k => match k with
  | 0 => .object "WalkFrames$Moment"
  | 1 => .object "WalkFrames$History"
  | 2 => .object "WalkFrames$RangeText"
  | 3 => .object "WalkFrames$Office"
  | _ => .object "WalkFrames$Line"
abbrev wsX80 : List Cond := u_ws RX8 TX8 5
theorem nmX8 : ∀ a, a < 5 → ∀ b, b < 5 → a ≠ b → (TX8 a).2.1 ≠ (TX8 b).2.1 := by decide +kernel
theorem tyX8_ok : ∀ k, k < 5 → parseFieldDescriptor (TX8 k).2.2.1 = some (tyX8 k) := by decide +kernel
def RL : String := "WalkFramesLaw"
abbrev cX0_init : ByteArray := prog_2_method_1_code
def yX0_init : MethodName := ⟨RX0, "<init>", "()V"⟩
abbrev cX0_copyFrom : ByteArray := prog_2_method_2_code
def yX0_copyFrom : MethodName := ⟨RX0, "copyFrom", "(LWalkFrames$Carriers;)V"⟩
abbrev cX0_ofWalk : ByteArray := prog_2_method_3_code
def yX0_ofWalk : MethodName := ⟨RX0, "ofWalk", "(I)I"⟩
abbrev cX0_countOut : ByteArray := prog_2_method_4_code
def yX0_countOut : MethodName := ⟨RX0, "countOut", "()I"⟩
abbrev cX0_countRounds : ByteArray := prog_2_method_5_code
def yX0_countRounds : MethodName := ⟨RX0, "countRounds", "()I"⟩
abbrev cX0_roundsOn : ByteArray := prog_2_method_6_code
def yX0_roundsOn : MethodName := ⟨RX0, "roundsOn", "(II)I"⟩
abbrev cX0_knows : ByteArray := prog_2_method_7_code
def yX0_knows : MethodName := ⟨RX0, "knows", "(II)Z"⟩
abbrev cX0_endRound : ByteArray := prog_2_method_8_code
def yX0_endRound : MethodName := ⟨RX0, "endRound", "(II)V"⟩
abbrev cX0_bestWithoutWalk : ByteArray := prog_2_method_9_code
def yX0_bestWithoutWalk : MethodName := ⟨RX0, "bestWithoutWalk", "(I)I"⟩
abbrev cX1_init : ByteArray := prog_3_method_1_code
def yX1_init : MethodName := ⟨RX1, "<init>", "()V"⟩
abbrev cX1_remember : ByteArray := prog_3_method_2_code
def yX1_remember : MethodName := ⟨RX1, "remember", "(LWalkFrames$Moment;)V"⟩
abbrev cX1_dropOldest : ByteArray := prog_3_method_3_code
def yX1_dropOldest : MethodName := ⟨RX1, "dropOldest", "()V"⟩
abbrev cX1_giveBack : ByteArray := prog_3_method_4_code
def yX1_giveBack : MethodName := ⟨RX1, "giveBack", "(LWalkFrames$Moment;)V"⟩
abbrev cX2_init : ByteArray := prog_4_method_1_code
def yX2_init : MethodName := ⟨RX2, "<init>", "()V"⟩
abbrev cX2_copyFrom : ByteArray := prog_4_method_2_code
def yX2_copyFrom : MethodName := ⟨RX2, "copyFrom", "(LWalkFrames$Letters;)V"⟩
abbrev cX2_has : ByteArray := prog_4_method_3_code
def yX2_has : MethodName := ⟨RX2, "has", "(I)Z"⟩
abbrev cX2_add : ByteArray := prog_4_method_4_code
def yX2_add : MethodName := ⟨RX2, "add", "(III)V"⟩
abbrev cX2_moveTo : ByteArray := prog_4_method_5_code
def yX2_moveTo : MethodName := ⟨RX2, "moveTo", "(III)V"⟩
abbrev cX2_finish : ByteArray := prog_4_method_6_code
def yX2_finish : MethodName := ⟨RX2, "finish", "(III)V"⟩
abbrev cX2_misroute : ByteArray := prog_4_method_7_code
def yX2_misroute : MethodName := ⟨RX2, "misroute", "(II)V"⟩
abbrev cX2_isFirstClass : ByteArray := prog_4_method_8_code
def yX2_isFirstClass : MethodName := ⟨RX2, "isFirstClass", "(I)Z"⟩
abbrev cX2_emptyOverflow : ByteArray := prog_4_method_9_code
def yX2_emptyOverflow : MethodName := ⟨RX2, "emptyOverflow", "()V"⟩
abbrev cX2_countIn : ByteArray := prog_4_method_10_code
def yX2_countIn : MethodName := ⟨RX2, "countIn", "(I)I"⟩
abbrev cX2_countInHand : ByteArray := prog_4_method_11_code
def yX2_countInHand : MethodName := ⟨RX2, "countInHand", "(I)I"⟩
abbrev cX2_countFirstClass : ByteArray := prog_4_method_12_code
def yX2_countFirstClass : MethodName := ⟨RX2, "countFirstClass", "(I)I"⟩
abbrev cX2_countMisroutes : ByteArray := prog_4_method_13_code
def yX2_countMisroutes : MethodName := ⟨RX2, "countMisroutes", "()I"⟩
abbrev cX2_displaceSecondClass : ByteArray := prog_4_method_14_code
def yX2_displaceSecondClass : MethodName := ⟨RX2, "displaceSecondClass", "(I)Z"⟩
abbrev cX2_listBag : ByteArray := prog_4_method_15_code
def yX2_listBag : MethodName := ⟨RX2, "listBag", "(LWalkFrames$Line;)V"⟩
abbrev cX2_addFromBag : ByteArray := prog_4_method_16_code
def yX2_addFromBag : MethodName := ⟨RX2, "addFromBag", "(IILWalkFrames$Line;)V"⟩
abbrev cX2_listByCode : ByteArray := prog_4_method_17_code
def yX2_listByCode : MethodName := ⟨RX2, "listByCode", "(IILWalkFrames$Line;)V"⟩
abbrev cX2_insertByCode : ByteArray := prog_4_method_18_code
def yX2_insertByCode : MethodName := ⟨RX2, "insertByCode", "(ILWalkFrames$Line;)V"⟩
abbrev cX2_hasGreaterCode : ByteArray := prog_4_method_19_code
def yX2_hasGreaterCode : MethodName := ⟨RX2, "hasGreaterCode", "(II)Z"⟩
abbrev cX2_isAt : ByteArray := prog_4_method_20_code
def yX2_isAt : MethodName := ⟨RX2, "isAt", "(III)Z"⟩
abbrev cX3_init : ByteArray := prog_5_method_1_code
def yX3_init : MethodName := ⟨RX3, "<init>", "()V"⟩
abbrev cX3_addLast : ByteArray := prog_5_method_2_code
def yX3_addLast : MethodName := ⟨RX3, "addLast", "(I)V"⟩
abbrev cX3_swapWithPrevious : ByteArray := prog_5_method_3_code
def yX3_swapWithPrevious : MethodName := ⟨RX3, "swapWithPrevious", "(I)V"⟩
abbrev cX3_letterAt : ByteArray := prog_5_method_4_code
def yX3_letterAt : MethodName := ⟨RX3, "letterAt", "(I)I"⟩
abbrev cX4_init : ByteArray := prog_6_method_1_code
def yX4_init : MethodName := ⟨RX4, "<init>", "()V"⟩
abbrev cX4_copyFrom : ByteArray := prog_6_method_2_code
def yX4_copyFrom : MethodName := ⟨RX4, "copyFrom", "(LWalkFrames$Moment;)V"⟩
abbrev cX4_fillSlot : ByteArray := prog_6_method_3_code
def yX4_fillSlot : MethodName := ⟨RX4, "fillSlot", "(I)V"⟩
abbrev cX4_countSnapshots : ByteArray := prog_6_method_4_code
def yX4_countSnapshots : MethodName := ⟨RX4, "countSnapshots", "()I"⟩
abbrev cX5_init : ByteArray := prog_7_method_1_code
def yX5_init : MethodName := ⟨RX5, "<init>", "()V"⟩
abbrev cX5_copyFrom : ByteArray := prog_7_method_2_code
def yX5_copyFrom : MethodName := ⟨RX5, "copyFrom", "(LWalkFrames$Office;)V"⟩
abbrev cX5_number : ByteArray := prog_7_method_3_code
def yX5_number : MethodName := ⟨RX5, "number", "(I)I"⟩
abbrev cX5_changeNumber : ByteArray := prog_7_method_4_code
def yX5_changeNumber : MethodName := ⟨RX5, "changeNumber", "(II)V"⟩
abbrev cX5_walkOf : ByteArray := prog_7_method_5_code
def yX5_walkOf : MethodName := ⟨RX5, "walkOf", "(I)I"⟩
abbrev cX5_freeHoles : ByteArray := prog_7_method_6_code
def yX5_freeHoles : MethodName := ⟨RX5, "freeHoles", "(I)I"⟩
abbrev cX5_countStrayLetters : ByteArray := prog_7_method_7_code
def yX5_countStrayLetters : MethodName := ⟨RX5, "countStrayLetters", "()I"⟩
abbrev cX5_isCleared : ByteArray := prog_7_method_8_code
def yX5_isCleared : MethodName := ⟨RX5, "isCleared", "()Z"⟩
abbrev cX5_passHour : ByteArray := prog_7_method_9_code
def yX5_passHour : MethodName := ⟨RX5, "passHour", "(LWalkFrames$Line;)I"⟩
abbrev cX5_sort : ByteArray := prog_7_method_10_code
def yX5_sort : MethodName := ⟨RX5, "sort", "(I)Z"⟩
abbrev cX5_frameFor : ByteArray := prog_7_method_11_code
def yX5_frameFor : MethodName := ⟨RX5, "frameFor", "(I)I"⟩
abbrev cX5_walkWithMostFree : ByteArray := prog_7_method_12_code
def yX5_walkWithMostFree : MethodName := ⟨RX5, "walkWithMostFree", "()I"⟩
abbrev cX5_canGoOut : ByteArray := prog_7_method_13_code
def yX5_canGoOut : MethodName := ⟨RX5, "canGoOut", "(I)Z"⟩
abbrev cX5_sendOut : ByteArray := prog_7_method_14_code
def yX5_sendOut : MethodName := ⟨RX5, "sendOut", "(ILWalkFrames$Line;)I"⟩
abbrev cX5_bringBack : ByteArray := prog_7_method_15_code
def yX5_bringBack : MethodName := ⟨RX5, "bringBack", "(ILWalkFrames$Line;)I"⟩
abbrev cX5_countBelonging : ByteArray := prog_7_method_16_code
def yX5_countBelonging : MethodName := ⟨RX5, "countBelonging", "(LWalkFrames$Line;I)I"⟩
abbrev cX5_putBack : ByteArray := prog_7_method_17_code
def yX5_putBack : MethodName := ⟨RX5, "putBack", "(II)V"⟩
abbrev cX6_init : ByteArray := prog_8_method_1_code
def yX6_init : MethodName := ⟨RX6, "<init>", "()V"⟩
abbrev cX6_read : ByteArray := prog_8_method_4_code
def yX6_read : MethodName := ⟨RX6, "read", "()I"⟩
abbrev cX6_readRange : ByteArray := prog_8_method_5_code
def yX6_readRange : MethodName := ⟨RX6, "readRange", "()V"⟩
abbrev cX6_readNumber : ByteArray := prog_8_method_6_code
def yX6_readNumber : MethodName := ⟨RX6, "readNumber", "()I"⟩
abbrev cX6_readDigit : ByteArray := prog_8_method_7_code
def yX6_readDigit : MethodName := ⟨RX6, "readDigit", "(C)I"⟩
abbrev cX6_readSign : ByteArray := prog_8_method_8_code
def yX6_readSign : MethodName := ⟨RX6, "readSign", "(C)V"⟩
abbrev cX6_isNextIn : ByteArray := prog_8_method_9_code
def yX6_isNextIn : MethodName := ⟨RX6, "isNextIn", "(CC)Z"⟩
abbrev cX6_hasReversedRange : ByteArray := prog_8_method_10_code
def yX6_hasReversedRange : MethodName := ⟨RX6, "hasReversedRange", "()Z"⟩
abbrev cX7_init : ByteArray := prog_9_method_1_code
def yX7_init : MethodName := ⟨RX7, "<init>", "()V"⟩
abbrev cX7_copyFrom : ByteArray := prog_9_method_2_code
def yX7_copyFrom : MethodName := ⟨RX7, "copyFrom", "(LWalkFrames$Ranges;)V"⟩
abbrev cX7_walkOf : ByteArray := prog_9_method_3_code
def yX7_walkOf : MethodName := ⟨RX7, "walkOf", "(I)I"⟩
abbrev cX7_give : ByteArray := prog_9_method_4_code
def yX7_give : MethodName := ⟨RX7, "give", "(III)V"⟩
abbrev cX7_countStretches : ByteArray := prog_9_method_5_code
def yX7_countStretches : MethodName := ⟨RX7, "countStretches", "()I"⟩
abbrev cX7_firstCode : ByteArray := prog_9_method_6_code
def yX7_firstCode : MethodName := ⟨RX7, "firstCode", "(I)I"⟩
abbrev cX7_lastCode : ByteArray := prog_9_method_7_code
def yX7_lastCode : MethodName := ⟨RX7, "lastCode", "(I)I"⟩
abbrev cX8_init : ByteArray := prog_1_method_1_code
def yX8_init : MethodName := ⟨RX8, "<init>", "()V"⟩
abbrev cX8_post : ByteArray := prog_1_method_2_code
def yX8_post : MethodName := ⟨RX8, "post", "(III)I"⟩
abbrev cX8_hour : ByteArray := prog_1_method_3_code
def yX8_hour : MethodName := ⟨RX8, "hour", "()I"⟩
abbrev cX8_setRange : ByteArray := prog_1_method_4_code
def yX8_setRange : MethodName := ⟨RX8, "setRange", "(III)I"⟩
abbrev cX8_set : ByteArray := prog_1_method_5_code
def yX8_set : MethodName := ⟨RX8, "set", "(II)I"⟩
abbrev cX8_assign : ByteArray := prog_1_method_6_code
def yX8_assign : MethodName := ⟨RX8, "assign", "(II)I"⟩
abbrev cX8_goOut : ByteArray := prog_1_method_7_code
def yX8_goOut : MethodName := ⟨RX8, "goOut", "(I)I"⟩
abbrev cX8_comeBack : ByteArray := prog_1_method_8_code
def yX8_comeBack : MethodName := ⟨RX8, "comeBack", "(I)I"⟩
abbrev cX8_take : ByteArray := prog_1_method_9_code
def yX8_take : MethodName := ⟨RX8, "take", "(I)I"⟩
abbrev cX8_restore : ByteArray := prog_1_method_10_code
def yX8_restore : MethodName := ⟨RX8, "restore", "(I)I"⟩
abbrev cX8_undo : ByteArray := prog_1_method_11_code
def yX8_undo : MethodName := ⟨RX8, "undo", "()I"⟩
abbrev cX8_setRanges : ByteArray := prog_1_method_14_code
def yX8_setRanges : MethodName := ⟨RX8, "setRanges", "()I"⟩
abbrev cX8_count : ByteArray := prog_1_method_15_code
def yX8_count : MethodName := ⟨RX8, "count", "(I)I"⟩
abbrev cX8_letter : ByteArray := prog_1_method_16_code
def yX8_letter : MethodName := ⟨RX8, "letter", "(II)I"⟩
abbrev cX8_frame : ByteArray := prog_1_method_17_code
def yX8_frame : MethodName := ⟨RX8, "frame", "(II)I"⟩
abbrev cX8_carrier : ByteArray := prog_1_method_18_code
def yX8_carrier : MethodName := ⟨RX8, "carrier", "(II)I"⟩
abbrev cX8_rounds : ByteArray := prog_1_method_19_code
def yX8_rounds : MethodName := ⟨RX8, "rounds", "(II)I"⟩
abbrev cX8_stretch : ByteArray := prog_1_method_20_code
def yX8_stretch : MethodName := ⟨RX8, "stretch", "(II)I"⟩
abbrev cX8_inBag : ByteArray := prog_1_method_21_code
def yX8_inBag : MethodName := ⟨RX8, "inBag", "(I)I"⟩
abbrev cX8_inFrame : ByteArray := prog_1_method_22_code
def yX8_inFrame : MethodName := ⟨RX8, "inFrame", "(II)I"⟩
abbrev cX8_clearIn : ByteArray := prog_1_method_23_code
def yX8_clearIn : MethodName := ⟨RX8, "clearIn", "()I"⟩
abbrev cX8_wouldOverflow : ByteArray := prog_1_method_24_code
def yX8_wouldOverflow : MethodName := ⟨RX8, "wouldOverflow", "(I)I"⟩
abbrev cX8_bestCarrier : ByteArray := prog_1_method_25_code
def yX8_bestCarrier : MethodName := ⟨RX8, "bestCarrier", "(I)I"⟩
abbrev cX8_wouldDeliver : ByteArray := prog_1_method_26_code
def yX8_wouldDeliver : MethodName := ⟨RX8, "wouldDeliver", "(I)I"⟩
abbrev cX8_isIn : ByteArray := prog_1_method_27_code
def yX8_isIn : MethodName := ⟨RX8, "isIn", "(III)Z"⟩
abbrev cX8_isWalk : ByteArray := prog_1_method_28_code
def yX8_isWalk : MethodName := ⟨RX8, "isWalk", "(I)Z"⟩
abbrev cX8_isCarrier : ByteArray := prog_1_method_29_code
def yX8_isCarrier : MethodName := ⟨RX8, "isCarrier", "(I)Z"⟩
abbrev cX8_isSlot : ByteArray := prog_1_method_30_code
def yX8_isSlot : MethodName := ⟨RX8, "isSlot", "(I)Z"⟩
abbrev cX8_leastValue : ByteArray := prog_1_method_31_code
def yX8_leastValue : MethodName := ⟨RX8, "leastValue", "(I)I"⟩
abbrev cX8_greatestValue : ByteArray := prog_1_method_32_code
def yX8_greatestValue : MethodName := ⟨RX8, "greatestValue", "(I)I"⟩
abbrev cL_cell : ByteArray := method_2_code
def yL_cell : MethodName := ⟨RL, "cell", "([II)I"⟩
abbrev cL_low : ByteArray := method_3_code
def yL_low : MethodName := ⟨RL, "low", "(II)I"⟩
abbrev cL_rules : ByteArray := method_4_code
def yL_rules : MethodName := ⟨RL, "rules", "(LWalkFrames;)Z"⟩
abbrev cL_bag : ByteArray := method_5_code
def yL_bag : MethodName := ⟨RL, "bag", "(LWalkFrames;I)Z"⟩
abbrev cL_stretches : ByteArray := method_6_code
def yL_stretches : MethodName := ⟨RL, "stretches", "(LWalkFrames;)Z"⟩
abbrev cL_told : ByteArray := method_7_code
def yL_told : MethodName := ⟨RL, "told", "(LWalkFrames;)J"⟩
abbrev cL_hours : ByteArray := method_8_code
def yL_hours : MethodName := ⟨RL, "hours", "(LWalkFrames;)Z"⟩
abbrev cL_acts : ByteArray := method_9_code
def yL_acts : MethodName := ⟨RL, "acts", "(LWalkFrames;II)Z"⟩
abbrev vwCl : List vw_C := [(RX0, TX0, 4), (RX1, TX1, 2), (RX2, TX2, 9), (RX3, TX3, 2), (RX4, TX4, 3), (RX5, TX5, 8), (RX6, TX6, 8), (RX7, TX7, 1), (RX8, TX8, 5)]
/-- the tables' words that keep: what every contract asks -/
def Tg : List Cond := lw_tbl.filter goodWord
theorem tg_mem {w : Cond} (i : Nat) (h : lw_tbl[i]? = some w) (hg : goodWord w = true) : w ∈ Tg := List.mem_filter.mpr ⟨List.mem_of_getElem? h, hg⟩
theorem tg_sub {w : Cond} (h : w ∈ Tg) : w ∈ lw_tbl := (List.mem_filter.mp h).1
theorem tg_good : GoodIn Tg Tg := fun w h => ⟨h, good_of_word (List.mem_filter.mp h).2⟩
/-- links between mates of a nest: they keep, but not as the other words do -/
def isNest : Cond → Bool
  | .fieldLinkNest _ _ _ _ _ _ => true
  | .methodLinkNest _ _ _ _ => true
  | _ => false
def Nw : List Cond := lw_tbl.filter isNest
theorem nw_mem {w : Cond} (i : Nat) (h : lw_tbl[i]? = some w) (hg : isNest w = true) : w ∈ Nw := List.mem_filter.mpr ⟨List.mem_of_getElem? h, hg⟩
theorem nw_sub {w : Cond} (h : w ∈ Nw) : w ∈ lw_tbl := (List.mem_filter.mp h).1
theorem nw_tab {w : Cond} (h : w ∈ Nw) : w.onTables = true := by
  have h2 := (List.mem_filter.mp h).2
  unfold isNest at h2
  split at h2
  · rfl
  · rfl
  · cases h2
theorem nw_warm {s U : State} (hW : s.WarmedH U.vm) {w : Cond} (h : w ∈ Nw) (hZ : va_Nw w s) : va_Nw w U := by
  have h2 := (List.mem_filter.mp h).2
  unfold isNest at h2
  split at h2
  · exact va_Nw.warmF hW hZ
  · exact va_Nw.warmM hW hZ
  · cases h2
set_option maxRecDepth 100000 in
theorem tgX0 : ∀ w ∈ wsX00, w ∈ Tg := by decide +kernel
set_option maxRecDepth 100000 in
theorem tgX1 : ∀ w ∈ wsX10, w ∈ Tg := by decide +kernel
set_option maxRecDepth 100000 in
theorem tgX2 : ∀ w ∈ wsX20, w ∈ Tg := by decide +kernel
set_option maxRecDepth 100000 in
theorem tgX3 : ∀ w ∈ wsX30, w ∈ Tg := by decide +kernel
set_option maxRecDepth 100000 in
theorem tgX4 : ∀ w ∈ wsX40, w ∈ Tg := by decide +kernel
set_option maxRecDepth 100000 in
theorem tgX5 : ∀ w ∈ wsX50, w ∈ Tg := by decide +kernel
set_option maxRecDepth 100000 in
theorem tgX6 : ∀ w ∈ wsX60, w ∈ Tg := by decide +kernel
set_option maxRecDepth 100000 in
theorem tgX7 : ∀ w ∈ wsX70, w ∈ Tg := by decide +kernel
set_option maxRecDepth 100000 in
theorem tgX8 : ∀ w ∈ wsX80, w ∈ Tg := by decide +kernel
/-- the class of a number -/
def nmC (c : Nat) : String := match c with
  | 0 => RX0
  | 1 => RX1
  | 2 => RX2
  | 3 => RX3
  | 4 => RX4
  | 5 => RX5
  | 6 => RX6
  | 7 => RX7
  | 8 => RX8
  | _ => RL
def tbC (c : Nat) : u_T := match c with
  | 0 => TX0
  | 1 => TX1
  | 2 => TX2
  | 3 => TX3
  | 4 => TX4
  | 5 => TX5
  | 6 => TX6
  | 7 => TX7
  | _ => TX8
/-- a link of a field: by the class itself, or by a mate of its nest -/
def FlOk (r : Nat × Nat × Nat × Nat) : Prop := (Cond.fieldLink (nmC r.1) r.2.1 (nmC r.2.2.1) (tbC r.2.2.1 r.2.2.2).2.1 (tbC r.2.2.1 r.2.2.2).2.2.1 ∈ Tg) ∨ (∃ host, Cond.fieldLinkNest (nmC r.1) r.2.1 (nmC r.2.2.1) (tbC r.2.2.1 r.2.2.2).2.1 (tbC r.2.2.1 r.2.2.2).2.2.1 host ∈ Nw)
theorem fl_0 : FlOk (7, 9, 7, 0) := .inl (tg_mem 62 (by decide +kernel) rfl)
theorem fl_1 : FlOk (2, 9, 2, 0) := .inl (tg_mem 73 (by decide +kernel) rfl)
theorem fl_2 : FlOk (5, 72, 2, 0) := .inr ⟨"WalkFrames", nw_mem 74 (by decide +kernel) rfl⟩
theorem fl_3 : FlOk (8, 216, 2, 0) := .inr ⟨"WalkFrames", nw_mem 75 (by decide +kernel) rfl⟩
theorem fl_4 : FlOk (2, 15, 2, 1) := .inl (tg_mem 76 (by decide +kernel) rfl)
theorem fl_5 : FlOk (8, 219, 2, 1) := .inr ⟨"WalkFrames", nw_mem 77 (by decide +kernel) rfl⟩
theorem fl_6 : FlOk (2, 18, 2, 2) := .inl (tg_mem 78 (by decide +kernel) rfl)
theorem fl_7 : FlOk (8, 228, 2, 2) := .inr ⟨"WalkFrames", nw_mem 79 (by decide +kernel) rfl⟩
theorem fl_8 : FlOk (2, 21, 2, 3) := .inl (tg_mem 80 (by decide +kernel) rfl)
theorem fl_9 : FlOk (5, 91, 2, 3) := .inr ⟨"WalkFrames", nw_mem 81 (by decide +kernel) rfl⟩
theorem fl_10 : FlOk (8, 222, 2, 3) := .inr ⟨"WalkFrames", nw_mem 82 (by decide +kernel) rfl⟩
theorem fl_11 : FlOk (2, 24, 2, 4) := .inl (tg_mem 83 (by decide +kernel) rfl)
theorem fl_12 : FlOk (5, 94, 2, 4) := .inr ⟨"WalkFrames", nw_mem 84 (by decide +kernel) rfl⟩
theorem fl_13 : FlOk (8, 225, 2, 4) := .inr ⟨"WalkFrames", nw_mem 85 (by decide +kernel) rfl⟩
theorem fl_14 : FlOk (2, 27, 2, 5) := .inl (tg_mem 86 (by decide +kernel) rfl)
theorem fl_15 : FlOk (8, 231, 2, 5) := .inr ⟨"WalkFrames", nw_mem 87 (by decide +kernel) rfl⟩
theorem fl_16 : FlOk (2, 30, 2, 6) := .inl (tg_mem 88 (by decide +kernel) rfl)
theorem fl_17 : FlOk (8, 234, 2, 6) := .inr ⟨"WalkFrames", nw_mem 89 (by decide +kernel) rfl⟩
theorem fl_18 : FlOk (2, 33, 2, 7) := .inl (tg_mem 90 (by decide +kernel) rfl)
theorem fl_19 : FlOk (5, 79, 2, 7) := .inr ⟨"WalkFrames", nw_mem 91 (by decide +kernel) rfl⟩
theorem fl_20 : FlOk (8, 243, 2, 7) := .inr ⟨"WalkFrames", nw_mem 92 (by decide +kernel) rfl⟩
theorem fl_21 : FlOk (8, 55, 2, 8) := .inr ⟨"WalkFrames", nw_mem 93 (by decide +kernel) rfl⟩
theorem fl_22 : FlOk (2, 42, 2, 8) := .inl (tg_mem 94 (by decide +kernel) rfl)
theorem fl_23 : FlOk (5, 88, 2, 8) := .inr ⟨"WalkFrames", nw_mem 95 (by decide +kernel) rfl⟩
theorem fl_24 : FlOk (0, 9, 0, 0) := .inl (tg_mem 121 (by decide +kernel) rfl)
theorem fl_25 : FlOk (8, 119, 0, 0) := .inr ⟨"WalkFrames", nw_mem 122 (by decide +kernel) rfl⟩
theorem fl_26 : FlOk (5, 142, 0, 0) := .inr ⟨"WalkFrames", nw_mem 123 (by decide +kernel) rfl⟩
theorem fl_27 : FlOk (0, 15, 0, 1) := .inl (tg_mem 124 (by decide +kernel) rfl)
theorem fl_28 : FlOk (8, 123, 0, 1) := .inr ⟨"WalkFrames", nw_mem 125 (by decide +kernel) rfl⟩
theorem fl_29 : FlOk (5, 145, 0, 1) := .inr ⟨"WalkFrames", nw_mem 126 (by decide +kernel) rfl⟩
theorem fl_30 : FlOk (0, 19, 0, 2) := .inl (tg_mem 127 (by decide +kernel) rfl)
theorem fl_31 : FlOk (8, 255, 0, 2) := .inr ⟨"WalkFrames", nw_mem 128 (by decide +kernel) rfl⟩
theorem fl_32 : FlOk (0, 22, 0, 3) := .inl (tg_mem 129 (by decide +kernel) rfl)
theorem fl_33 : FlOk (5, 12, 5, 0) := .inl (tg_mem 140 (by decide +kernel) rfl)
theorem fl_34 : FlOk (8, 84, 5, 0) := .inr ⟨"WalkFrames", nw_mem 141 (by decide +kernel) rfl⟩
theorem fl_35 : FlOk (5, 21, 5, 1) := .inl (tg_mem 142 (by decide +kernel) rfl)
theorem fl_36 : FlOk (8, 51, 5, 1) := .inr ⟨"WalkFrames", nw_mem 143 (by decide +kernel) rfl⟩
theorem fl_37 : FlOk (5, 28, 5, 2) := .inl (tg_mem 144 (by decide +kernel) rfl)
theorem fl_38 : FlOk (8, 110, 5, 2) := .inr ⟨"WalkFrames", nw_mem 145 (by decide +kernel) rfl⟩
theorem fl_39 : FlOk (5, 32, 5, 3) := .inl (tg_mem 146 (by decide +kernel) rfl)
theorem fl_40 : FlOk (8, 240, 5, 3) := .inr ⟨"WalkFrames", nw_mem 147 (by decide +kernel) rfl⟩
theorem fl_41 : FlOk (5, 62, 5, 4) := .inl (tg_mem 148 (by decide +kernel) rfl)
theorem fl_42 : FlOk (8, 65, 5, 4) := .inr ⟨"WalkFrames", nw_mem 149 (by decide +kernel) rfl⟩
theorem fl_43 : FlOk (5, 36, 5, 5) := .inl (tg_mem 150 (by decide +kernel) rfl)
theorem fl_44 : FlOk (8, 201, 5, 5) := .inr ⟨"WalkFrames", nw_mem 151 (by decide +kernel) rfl⟩
theorem fl_45 : FlOk (5, 40, 5, 6) := .inl (tg_mem 152 (by decide +kernel) rfl)
theorem fl_46 : FlOk (8, 204, 5, 6) := .inr ⟨"WalkFrames", nw_mem 153 (by decide +kernel) rfl⟩
theorem fl_47 : FlOk (5, 43, 5, 7) := .inl (tg_mem 154 (by decide +kernel) rfl)
theorem fl_48 : FlOk (8, 207, 5, 7) := .inr ⟨"WalkFrames", nw_mem 155 (by decide +kernel) rfl⟩
theorem fl_49 : FlOk (4, 12, 4, 0) := .inl (tg_mem 174 (by decide +kernel) rfl)
theorem fl_50 : FlOk (8, 48, 4, 0) := .inr ⟨"WalkFrames", nw_mem 175 (by decide +kernel) rfl⟩
theorem fl_51 : FlOk (4, 18, 4, 1) := .inl (tg_mem 176 (by decide +kernel) rfl)
theorem fl_52 : FlOk (8, 150, 4, 1) := .inr ⟨"WalkFrames", nw_mem 177 (by decide +kernel) rfl⟩
theorem fl_53 : FlOk (4, 22, 4, 2) := .inl (tg_mem 178 (by decide +kernel) rfl)
theorem fl_54 : FlOk (8, 147, 4, 2) := .inr ⟨"WalkFrames", nw_mem 179 (by decide +kernel) rfl⟩
theorem fl_55 : FlOk (1, 11, 1, 0) := .inl (tg_mem 196 (by decide +kernel) rfl)
theorem fl_56 : FlOk (1, 18, 1, 1) := .inl (tg_mem 197 (by decide +kernel) rfl)
theorem fl_57 : FlOk (8, 158, 1, 1) := .inr ⟨"WalkFrames", nw_mem 198 (by decide +kernel) rfl⟩
theorem fl_58 : FlOk (6, 11, 6, 0) := .inl (tg_mem 210 (by decide +kernel) rfl)
theorem fl_59 : FlOk (6, 25, 6, 1) := .inl (tg_mem 211 (by decide +kernel) rfl)
theorem fl_60 : FlOk (8, 171, 6, 1) := .inr ⟨"WalkFrames", nw_mem 212 (by decide +kernel) rfl⟩
theorem fl_61 : FlOk (6, 15, 6, 2) := .inl (tg_mem 213 (by decide +kernel) rfl)
theorem fl_62 : FlOk (8, 182, 6, 2) := .inr ⟨"WalkFrames", nw_mem 214 (by decide +kernel) rfl⟩
theorem fl_63 : FlOk (6, 19, 6, 3) := .inl (tg_mem 215 (by decide +kernel) rfl)
theorem fl_64 : FlOk (8, 185, 6, 3) := .inr ⟨"WalkFrames", nw_mem 216 (by decide +kernel) rfl⟩
theorem fl_65 : FlOk (6, 22, 6, 4) := .inl (tg_mem 217 (by decide +kernel) rfl)
theorem fl_66 : FlOk (8, 188, 6, 4) := .inr ⟨"WalkFrames", nw_mem 218 (by decide +kernel) rfl⟩
theorem fl_67 : FlOk (6, 36, 6, 5) := .inl (tg_mem 219 (by decide +kernel) rfl)
theorem fl_68 : FlOk (8, 180, 6, 5) := .inr ⟨"WalkFrames", nw_mem 220 (by decide +kernel) rfl⟩
theorem fl_69 : FlOk (6, 29, 6, 6) := .inl (tg_mem 221 (by decide +kernel) rfl)
theorem fl_70 : FlOk (6, 32, 6, 7) := .inl (tg_mem 222 (by decide +kernel) rfl)
theorem fl_71 : FlOk (3, 9, 3, 0) := .inl (tg_mem 249 (by decide +kernel) rfl)
theorem fl_72 : FlOk (3, 15, 3, 1) := .inl (tg_mem 250 (by decide +kernel) rfl)
theorem fl_73 : FlOk (5, 108, 3, 1) := .inr ⟨"WalkFrames", nw_mem 251 (by decide +kernel) rfl⟩
theorem fl_74 : FlOk (2, 67, 3, 1) := .inr ⟨"WalkFrames", nw_mem 252 (by decide +kernel) rfl⟩
theorem fl_75 : FlOk (8, 10, 8, 0) := .inl (tg_mem 258 (by decide +kernel) rfl)
theorem fl_76 : FlOk (8, 19, 8, 1) := .inl (tg_mem 259 (by decide +kernel) rfl)
theorem fl_77 : FlOk (8, 26, 8, 2) := .inl (tg_mem 260 (by decide +kernel) rfl)
theorem fl_78 : FlOk (8, 33, 8, 3) := .inl (tg_mem 261 (by decide +kernel) rfl)
theorem fl_79 : FlOk (8, 40, 8, 4) := .inl (tg_mem 262 (by decide +kernel) rfl)
def flT : List (Nat × Nat × Nat × Nat) := [(7, 9, 7, 0), (2, 9, 2, 0), (5, 72, 2, 0), (8, 216, 2, 0), (2, 15, 2, 1), (8, 219, 2, 1), (2, 18, 2, 2), (8, 228, 2, 2), (2, 21, 2, 3), (5, 91, 2, 3), (8, 222, 2, 3), (2, 24, 2, 4), (5, 94, 2, 4), (8, 225, 2, 4), (2, 27, 2, 5), (8, 231, 2, 5), (2, 30, 2, 6), (8, 234, 2, 6), (2, 33, 2, 7), (5, 79, 2, 7), (8, 243, 2, 7), (8, 55, 2, 8), (2, 42, 2, 8), (5, 88, 2, 8), (0, 9, 0, 0), (8, 119, 0, 0), (5, 142, 0, 0), (0, 15, 0, 1), (8, 123, 0, 1), (5, 145, 0, 1), (0, 19, 0, 2), (8, 255, 0, 2), (0, 22, 0, 3), (5, 12, 5, 0), (8, 84, 5, 0), (5, 21, 5, 1), (8, 51, 5, 1), (5, 28, 5, 2), (8, 110, 5, 2), (5, 32, 5, 3), (8, 240, 5, 3), (5, 62, 5, 4), (8, 65, 5, 4), (5, 36, 5, 5), (8, 201, 5, 5), (5, 40, 5, 6), (8, 204, 5, 6), (5, 43, 5, 7), (8, 207, 5, 7), (4, 12, 4, 0), (8, 48, 4, 0), (4, 18, 4, 1), (8, 150, 4, 1), (4, 22, 4, 2), (8, 147, 4, 2), (1, 11, 1, 0), (1, 18, 1, 1), (8, 158, 1, 1), (6, 11, 6, 0), (6, 25, 6, 1), (8, 171, 6, 1), (6, 15, 6, 2), (8, 182, 6, 2), (6, 19, 6, 3), (8, 185, 6, 3), (6, 22, 6, 4), (8, 188, 6, 4), (6, 36, 6, 5), (8, 180, 6, 5), (6, 29, 6, 6), (6, 32, 6, 7), (3, 9, 3, 0), (3, 15, 3, 1), (5, 108, 3, 1), (2, 67, 3, 1), (8, 10, 8, 0), (8, 19, 8, 1), (8, 26, 8, 2), (8, 33, 8, 3), (8, 40, 8, 4)]
theorem flT_ok : ∀ r ∈ flT, FlOk r := List.forall_mem_cons.mpr ⟨fl_0, List.forall_mem_cons.mpr ⟨fl_1, List.forall_mem_cons.mpr ⟨fl_2, List.forall_mem_cons.mpr ⟨fl_3, List.forall_mem_cons.mpr ⟨fl_4, List.forall_mem_cons.mpr ⟨fl_5, List.forall_mem_cons.mpr ⟨fl_6, List.forall_mem_cons.mpr ⟨fl_7, List.forall_mem_cons.mpr ⟨fl_8, List.forall_mem_cons.mpr ⟨fl_9, List.forall_mem_cons.mpr ⟨fl_10, List.forall_mem_cons.mpr ⟨fl_11, List.forall_mem_cons.mpr ⟨fl_12, List.forall_mem_cons.mpr ⟨fl_13, List.forall_mem_cons.mpr ⟨fl_14, List.forall_mem_cons.mpr ⟨fl_15, List.forall_mem_cons.mpr ⟨fl_16, List.forall_mem_cons.mpr ⟨fl_17, List.forall_mem_cons.mpr ⟨fl_18, List.forall_mem_cons.mpr ⟨fl_19, List.forall_mem_cons.mpr ⟨fl_20, List.forall_mem_cons.mpr ⟨fl_21, List.forall_mem_cons.mpr ⟨fl_22, List.forall_mem_cons.mpr ⟨fl_23, List.forall_mem_cons.mpr ⟨fl_24, List.forall_mem_cons.mpr ⟨fl_25, List.forall_mem_cons.mpr ⟨fl_26, List.forall_mem_cons.mpr ⟨fl_27, List.forall_mem_cons.mpr ⟨fl_28, List.forall_mem_cons.mpr ⟨fl_29, List.forall_mem_cons.mpr ⟨fl_30, List.forall_mem_cons.mpr ⟨fl_31, List.forall_mem_cons.mpr ⟨fl_32, List.forall_mem_cons.mpr ⟨fl_33, List.forall_mem_cons.mpr ⟨fl_34, List.forall_mem_cons.mpr ⟨fl_35, List.forall_mem_cons.mpr ⟨fl_36, List.forall_mem_cons.mpr ⟨fl_37, List.forall_mem_cons.mpr ⟨fl_38, List.forall_mem_cons.mpr ⟨fl_39, List.forall_mem_cons.mpr ⟨fl_40, List.forall_mem_cons.mpr ⟨fl_41, List.forall_mem_cons.mpr ⟨fl_42, List.forall_mem_cons.mpr ⟨fl_43, List.forall_mem_cons.mpr ⟨fl_44, List.forall_mem_cons.mpr ⟨fl_45, List.forall_mem_cons.mpr ⟨fl_46, List.forall_mem_cons.mpr ⟨fl_47, List.forall_mem_cons.mpr ⟨fl_48, List.forall_mem_cons.mpr ⟨fl_49, List.forall_mem_cons.mpr ⟨fl_50, List.forall_mem_cons.mpr ⟨fl_51, List.forall_mem_cons.mpr ⟨fl_52, List.forall_mem_cons.mpr ⟨fl_53, List.forall_mem_cons.mpr ⟨fl_54, List.forall_mem_cons.mpr ⟨fl_55, List.forall_mem_cons.mpr ⟨fl_56, List.forall_mem_cons.mpr ⟨fl_57, List.forall_mem_cons.mpr ⟨fl_58, List.forall_mem_cons.mpr ⟨fl_59, List.forall_mem_cons.mpr ⟨fl_60, List.forall_mem_cons.mpr ⟨fl_61, List.forall_mem_cons.mpr ⟨fl_62, List.forall_mem_cons.mpr ⟨fl_63, List.forall_mem_cons.mpr ⟨fl_64, List.forall_mem_cons.mpr ⟨fl_65, List.forall_mem_cons.mpr ⟨fl_66, List.forall_mem_cons.mpr ⟨fl_67, List.forall_mem_cons.mpr ⟨fl_68, List.forall_mem_cons.mpr ⟨fl_69, List.forall_mem_cons.mpr ⟨fl_70, List.forall_mem_cons.mpr ⟨fl_71, List.forall_mem_cons.mpr ⟨fl_72, List.forall_mem_cons.mpr ⟨fl_73, List.forall_mem_cons.mpr ⟨fl_74, List.forall_mem_cons.mpr ⟨fl_75, List.forall_mem_cons.mpr ⟨fl_76, List.forall_mem_cons.mpr ⟨fl_77, List.forall_mem_cons.mpr ⟨fl_78, List.forall_mem_cons.mpr ⟨fl_79, fun _ h => absurd h List.not_mem_nil⟩⟩⟩⟩⟩⟩⟩⟩⟩⟩⟩⟩⟩⟩⟩⟩⟩⟩⟩⟩⟩⟩⟩⟩⟩⟩⟩⟩⟩⟩⟩⟩⟩⟩⟩⟩⟩⟩⟩⟩⟩⟩⟩⟩⟩⟩⟩⟩⟩⟩⟩⟩⟩⟩⟩⟩⟩⟩⟩⟩⟩⟩⟩⟩⟩⟩⟩⟩⟩⟩⟩⟩⟩⟩⟩⟩⟩⟩⟩⟩
end
section
/-- the methods by their numbers: name, bytes, locals, answer -/
def mN (j : Nat) : MethodName × ByteArray × Nat × Option FieldType := bif Nat.blt j 55 then (bif Nat.blt j 27 then (bif Nat.blt j 13 then (bif Nat.blt j 6 then (bif Nat.blt j 3 then (bif Nat.blt j 1 then ((yX0_init, cX0_init, 2, none)) else (bif Nat.blt j 2 then ((yX0_copyFrom, cX0_copyFrom, 2, none)) else ((yX0_ofWalk, cX0_ofWalk, 3, (some .int))))) else (bif Nat.blt j 4 then ((yX0_countOut, cX0_countOut, 3, (some .int))) else (bif Nat.blt j 5 then ((yX0_countRounds, cX0_countRounds, 3, (some .int))) else ((yX0_roundsOn, cX0_roundsOn, 3, (some .int)))))) else (bif Nat.blt j 9 then (bif Nat.blt j 7 then ((yX0_knows, cX0_knows, 3, (some .boolean))) else (bif Nat.blt j 8 then ((yX0_endRound, cX0_endRound, 3, none)) else ((yX0_bestWithoutWalk, cX0_bestWithoutWalk, 4, (some .int))))) else (bif Nat.blt j 11 then (bif Nat.blt j 10 then ((yX1_init, cX1_init, 2, none)) else ((yX1_remember, cX1_remember, 2, none))) else (bif Nat.blt j 12 then ((yX1_dropOldest, cX1_dropOldest, 3, none)) else ((yX1_giveBack, cX1_giveBack, 2, none)))))) else (bif Nat.blt j 20 then (bif Nat.blt j 16 then (bif Nat.blt j 14 then ((yX2_init, cX2_init, 1, none)) else (bif Nat.blt j 15 then ((yX2_copyFrom, cX2_copyFrom, 2, none)) else ((yX2_has, cX2_has, 2, (some .boolean))))) else (bif Nat.blt j 18 then (bif Nat.blt j 17 then ((yX2_add, cX2_add, 4, none)) else ((yX2_moveTo, cX2_moveTo, 4, none))) else (bif Nat.blt j 19 then ((yX2_finish, cX2_finish, 4, none)) else ((yX2_misroute, cX2_misroute, 3, none))))) else (bif Nat.blt j 23 then (bif Nat.blt j 21 then ((yX2_isFirstClass, cX2_isFirstClass, 2, (some .boolean))) else (bif Nat.blt j 22 then ((yX2_emptyOverflow, cX2_emptyOverflow, 2, none)) else ((yX2_countIn, cX2_countIn, 4, (some .int))))) else (bif Nat.blt j 25 then (bif Nat.blt j 24 then ((yX2_countInHand, cX2_countInHand, 4, (some .int))) else ((yX2_countFirstClass, cX2_countFirstClass, 4, (some .int)))) else (bif Nat.blt j 26 then ((yX2_countMisroutes, cX2_countMisroutes, 3, (some .int))) else ((yX2_displaceSecondClass, cX2_displaceSecondClass, 3, (some .boolean)))))))) else (bif Nat.blt j 41 then (bif Nat.blt j 34 then (bif Nat.blt j 30 then (bif Nat.blt j 28 then ((yX2_listBag, cX2_listBag, 4, none)) else (bif Nat.blt j 29 then ((yX2_addFromBag, cX2_addFromBag, 5, none)) else ((yX2_listByCode, cX2_listByCode, 5, none)))) else (bif Nat.blt j 32 then (bif Nat.blt j 31 then ((yX2_insertByCode, cX2_insertByCode, 4, none)) else ((yX2_hasGreaterCode, cX2_hasGreaterCode, 3, (some .boolean)))) else (bif Nat.blt j 33 then ((yX2_isAt, cX2_isAt, 4, (some .boolean))) else ((yX3_init, cX3_init, 1, none))))) else (bif Nat.blt j 37 then (bif Nat.blt j 35 then ((yX3_addLast, cX3_addLast, 2, none)) else (bif Nat.blt j 36 then ((yX3_swapWithPrevious, cX3_swapWithPrevious, 3, none)) else ((yX3_letterAt, cX3_letterAt, 2, (some .int))))) else (bif Nat.blt j 39 then (bif Nat.blt j 38 then ((yX4_init, cX4_init, 2, none)) else ((yX4_copyFrom, cX4_copyFrom, 3, none))) else (bif Nat.blt j 40 then ((yX4_fillSlot, cX4_fillSlot, 2, none)) else ((yX4_countSnapshots, cX4_countSnapshots, 3, (some .int))))))) else (bif Nat.blt j 48 then (bif Nat.blt j 44 then (bif Nat.blt j 42 then ((yX5_init, cX5_init, 2, none)) else (bif Nat.blt j 43 then ((yX5_copyFrom, cX5_copyFrom, 2, none)) else ((yX5_number, cX5_number, 2, (some .int))))) else (bif Nat.blt j 46 then (bif Nat.blt j 45 then ((yX5_changeNumber, cX5_changeNumber, 3, none)) else ((yX5_walkOf, cX5_walkOf, 2, (some .int)))) else (bif Nat.blt j 47 then ((yX5_freeHoles, cX5_freeHoles, 2, (some .int))) else ((yX5_countStrayLetters, cX5_countStrayLetters, 3, (some .int)))))) else (bif Nat.blt j 51 then (bif Nat.blt j 49 then ((yX5_isCleared, cX5_isCleared, 1, (some .boolean))) else (bif Nat.blt j 50 then ((yX5_passHour, cX5_passHour, 5, (some .int))) else ((yX5_sort, cX5_sort, 3, (some .boolean))))) else (bif Nat.blt j 53 then (bif Nat.blt j 52 then ((yX5_frameFor, cX5_frameFor, 3, (some .int))) else ((yX5_walkWithMostFree, cX5_walkWithMostFree, 4, (some .int)))) else (bif Nat.blt j 54 then ((yX5_canGoOut, cX5_canGoOut, 3, (some .boolean))) else ((yX5_sendOut, cX5_sendOut, 5, (some .int))))))))) else (bif Nat.blt j 83 then (bif Nat.blt j 69 then (bif Nat.blt j 62 then (bif Nat.blt j 58 then (bif Nat.blt j 56 then ((yX5_bringBack, cX5_bringBack, 8, (some .int))) else (bif Nat.blt j 57 then ((yX5_countBelonging, cX5_countBelonging, 5, (some .int))) else ((yX5_putBack, cX5_putBack, 3, none)))) else (bif Nat.blt j 60 then (bif Nat.blt j 59 then ((yX6_init, cX6_init, 1, none)) else ((yX6_read, cX6_read, 2, (some .int)))) else (bif Nat.blt j 61 then ((yX6_readRange, cX6_readRange, 4, none)) else ((yX6_readNumber, cX6_readNumber, 2, (some .int)))))) else (bif Nat.blt j 65 then (bif Nat.blt j 63 then ((yX6_readDigit, cX6_readDigit, 3, (some .int))) else (bif Nat.blt j 64 then ((yX6_readSign, cX6_readSign, 2, none)) else ((yX6_isNextIn, cX6_isNextIn, 3, (some .boolean))))) else (bif Nat.blt j 67 then (bif Nat.blt j 66 then ((yX6_hasReversedRange, cX6_hasReversedRange, 2, (some .boolean))) else ((yX7_init, cX7_init, 2, none))) else (bif Nat.blt j 68 then ((yX7_copyFrom, cX7_copyFrom, 2, none)) else ((yX7_walkOf, cX7_walkOf, 2, (some .int))))))) else (bif Nat.blt j 76 then (bif Nat.blt j 72 then (bif Nat.blt j 70 then ((yX7_give, cX7_give, 5, none)) else (bif Nat.blt j 71 then ((yX7_countStretches, cX7_countStretches, 3, (some .int))) else ((yX7_firstCode, cX7_firstCode, 3, (some .int))))) else (bif Nat.blt j 74 then (bif Nat.blt j 73 then ((yX7_lastCode, cX7_lastCode, 3, (some .int))) else ((yX8_init, cX8_init, 1, none))) else (bif Nat.blt j 75 then ((yX8_post, cX8_post, 6, (some .int))) else ((yX8_hour, cX8_hour, 1, (some .int)))))) else (bif Nat.blt j 79 then (bif Nat.blt j 77 then ((yX8_setRange, cX8_setRange, 4, (some .int))) else (bif Nat.blt j 78 then ((yX8_set, cX8_set, 4, (some .int))) else ((yX8_assign, cX8_assign, 5, (some .int))))) else (bif Nat.blt j 81 then (bif Nat.blt j 80 then ((yX8_goOut, cX8_goOut, 2, (some .int))) else ((yX8_comeBack, cX8_comeBack, 2, (some .int)))) else (bif Nat.blt j 82 then ((yX8_take, cX8_take, 2, (some .int))) else ((yX8_restore, cX8_restore, 2, (some .int)))))))) else (bif Nat.blt j 97 then (bif Nat.blt j 90 then (bif Nat.blt j 86 then (bif Nat.blt j 84 then ((yX8_undo, cX8_undo, 1, (some .int))) else (bif Nat.blt j 85 then ((yX8_setRanges, cX8_setRanges, 3, (some .int))) else ((yX8_count, cX8_count, 2, (some .int))))) else (bif Nat.blt j 88 then (bif Nat.blt j 87 then ((yX8_letter, cX8_letter, 4, (some .int))) else ((yX8_frame, cX8_frame, 3, (some .int)))) else (bif Nat.blt j 89 then ((yX8_carrier, cX8_carrier, 4, (some .int))) else ((yX8_rounds, cX8_rounds, 3, (some .int)))))) else (bif Nat.blt j 93 then (bif Nat.blt j 91 then ((yX8_stretch, cX8_stretch, 3, (some .int))) else (bif Nat.blt j 92 then ((yX8_inBag, cX8_inBag, 2, (some .int))) else ((yX8_inFrame, cX8_inFrame, 3, (some .int))))) else (bif Nat.blt j 95 then (bif Nat.blt j 94 then ((yX8_clearIn, cX8_clearIn, 2, (some .int))) else ((yX8_wouldOverflow, cX8_wouldOverflow, 2, (some .int)))) else (bif Nat.blt j 96 then ((yX8_bestCarrier, cX8_bestCarrier, 2, (some .int))) else ((yX8_wouldDeliver, cX8_wouldDeliver, 3, (some .int))))))) else (bif Nat.blt j 104 then (bif Nat.blt j 100 then (bif Nat.blt j 98 then ((yX8_isIn, cX8_isIn, 3, (some .boolean))) else (bif Nat.blt j 99 then ((yX8_isWalk, cX8_isWalk, 1, (some .boolean))) else ((yX8_isCarrier, cX8_isCarrier, 1, (some .boolean))))) else (bif Nat.blt j 102 then (bif Nat.blt j 101 then ((yX8_isSlot, cX8_isSlot, 1, (some .boolean))) else ((yX8_leastValue, cX8_leastValue, 1, (some .int)))) else (bif Nat.blt j 103 then ((yX8_greatestValue, cX8_greatestValue, 1, (some .int))) else ((yL_cell, cL_cell, 2, (some .int)))))) else (bif Nat.blt j 107 then (bif Nat.blt j 105 then ((yL_low, cL_low, 2, (some .int))) else (bif Nat.blt j 106 then ((yL_rules, cL_rules, 13, (some .boolean))) else ((yL_bag, cL_bag, 8, (some .boolean))))) else (bif Nat.blt j 109 then (bif Nat.blt j 108 then ((yL_stretches, cL_stretches, 3, (some .boolean))) else ((yL_told, cL_told, 5, (some .long)))) else (bif Nat.blt j 110 then ((yL_hours, cL_hours, 8, (some .boolean))) else ((yL_acts, cL_acts, 11, (some .boolean)))))))))
/-- what a call's link says: (kind, own class, place, method, arguments); kinds: 44 virtual, 45 special, 46 static -/
def ClOk (r : Nat × Nat × Nat × Nat × Nat) : Prop := ((Cond.methodLink (nmC r.2.1) r.2.2.1 (mN r.2.2.2.1).1 ∈ Tg) ∨ (∃ host, Cond.methodLinkNest (nmC r.2.1) r.2.2.1 (mN r.2.2.2.1).1 host ∈ Nw)) ∧ (Cond.code (mN r.2.2.2.1).1 (mN r.2.2.2.1).2.1 (mN r.2.2.2.1).2.2.1 (mN r.2.2.2.1).2.2.2 ∈ Tg) ∧ (Cond.initialized (mN r.2.2.2.1).1.cls ∈ Tg) ∧ ((mN r.2.2.2.1).1.cls ≠ "java/lang/invoke/MethodHandle" ∧ (mN r.2.2.2.1).1.cls ≠ "java/lang/invoke/VarHandle" ∧ (parseMethodDescriptor (mN r.2.2.2.1).1.desc).map (fun d => d.parameters.length) = some r.2.2.2.2) ∧ (r.1 = 46 → Cond.static (mN r.2.2.2.1).1 ∈ Tg) ∧ (r.1 ≠ 46 → Cond.instanceMethod (mN r.2.2.2.1).1 ∈ Tg) ∧ (r.1 = 44 → Cond.selects (mN r.2.2.2.1).1.cls (mN r.2.2.2.1).1 (mN r.2.2.2.1).1 ∈ Tg) ∧ (r.1 = 45 → (mN r.2.2.2.1).1.name = "<init>")
theorem cl_0 : ClOk (46, 0, 31, 99, 1) := ⟨.inr ⟨"WalkFrames", nw_mem 581 (by decide +kernel) rfl⟩, tg_mem 356 (by decide +kernel) rfl, tg_mem 16 (by decide +kernel) rfl, by decide +kernel, fun _ => tg_mem 355 (by decide +kernel) rfl, fun h => absurd rfl h, fun h => absurd h (by decide), fun h => absurd h (by decide)⟩
theorem cl_1 : ClOk (46, 0, 35, 98, 1) := ⟨.inr ⟨"WalkFrames", nw_mem 582 (by decide +kernel) rfl⟩, tg_mem 325 (by decide +kernel) rfl, tg_mem 16 (by decide +kernel) rfl, by decide +kernel, fun _ => tg_mem 324 (by decide +kernel) rfl, fun h => absurd rfl h, fun h => absurd h (by decide), fun h => absurd h (by decide)⟩
theorem cl_2 : ClOk (44, 0, 38, 5, 2) := ⟨.inl (tg_mem 577 (by decide +kernel) rfl), tg_mem 580 (by decide +kernel) rfl, tg_mem 22 (by decide +kernel) rfl, by decide +kernel, fun h => absurd h (by decide), fun _ => tg_mem 578 (by decide +kernel) rfl, fun _ => tg_mem 579 (by decide +kernel) rfl, fun h => absurd h (by decide)⟩
theorem cl_3 : ClOk (45, 1, 17, 37, 0) := ⟨.inl (tg_mem 195 (by decide +kernel) rfl), tg_mem 39 (by decide +kernel) rfl, tg_mem 17 (by decide +kernel) rfl, by decide +kernel, fun h => absurd h (by decide), fun _ => tg_mem 38 (by decide +kernel) rfl, fun h => absurd h (by decide), fun _ => rfl⟩
theorem cl_4 : ClOk (44, 1, 22, 11, 0) := ⟨.inl (tg_mem 285 (by decide +kernel) rfl), tg_mem 288 (by decide +kernel) rfl, tg_mem 23 (by decide +kernel) rfl, by decide +kernel, fun h => absurd h (by decide), fun _ => tg_mem 287 (by decide +kernel) rfl, fun _ => tg_mem 0 (by decide +kernel) rfl, fun h => absurd h (by decide)⟩
theorem cl_5 : ClOk (44, 1, 25, 38, 1) := ⟨.inl (tg_mem 289 (by decide +kernel) rfl), tg_mem 292 (by decide +kernel) rfl, tg_mem 17 (by decide +kernel) rfl, by decide +kernel, fun h => absurd h (by decide), fun _ => tg_mem 290 (by decide +kernel) rfl, fun _ => tg_mem 291 (by decide +kernel) rfl, fun h => absurd h (by decide)⟩
theorem cl_6 : ClOk (44, 2, 46, 15, 1) := ⟨.inl (tg_mem 373 (by decide +kernel) rfl), tg_mem 376 (by decide +kernel) rfl, tg_mem 21 (by decide +kernel) rfl, by decide +kernel, fun h => absurd h (by decide), fun _ => tg_mem 374 (by decide +kernel) rfl, fun _ => tg_mem 375 (by decide +kernel) rfl, fun h => absurd h (by decide)⟩
theorem cl_7 : ClOk (46, 2, 50, 98, 1) := ⟨.inr ⟨"WalkFrames", nw_mem 405 (by decide +kernel) rfl⟩, tg_mem 325 (by decide +kernel) rfl, tg_mem 16 (by decide +kernel) rfl, by decide +kernel, fun _ => tg_mem 324 (by decide +kernel) rfl, fun h => absurd rfl h, fun h => absurd h (by decide), fun h => absurd h (by decide)⟩
theorem cl_8 : ClOk (44, 2, 53, 17, 3) := ⟨.inl (tg_mem 541 (by decide +kernel) rfl), tg_mem 404 (by decide +kernel) rfl, tg_mem 21 (by decide +kernel) rfl, by decide +kernel, fun h => absurd h (by decide), fun _ => tg_mem 402 (by decide +kernel) rfl, fun _ => tg_mem 403 (by decide +kernel) rfl, fun h => absurd h (by decide)⟩
theorem cl_9 : ClOk (44, 2, 57, 18, 3) := ⟨.inl (tg_mem 681 (by decide +kernel) rfl), tg_mem 684 (by decide +kernel) rfl, tg_mem 21 (by decide +kernel) rfl, by decide +kernel, fun h => absurd h (by decide), fun _ => tg_mem 682 (by decide +kernel) rfl, fun _ => tg_mem 683 (by decide +kernel) rfl, fun h => absurd h (by decide)⟩
theorem cl_10 : ClOk (44, 2, 60, 32, 3) := ⟨.inl (tg_mem 369 (by decide +kernel) rfl), tg_mem 372 (by decide +kernel) rfl, tg_mem 21 (by decide +kernel) rfl, by decide +kernel, fun h => absurd h (by decide), fun _ => tg_mem 371 (by decide +kernel) rfl, fun _ => tg_mem 1 (by decide +kernel) rfl, fun h => absurd h (by decide)⟩
theorem cl_11 : ClOk (44, 2, 64, 20, 1) := ⟨.inl (tg_mem 564 (by decide +kernel) rfl), tg_mem 559 (by decide +kernel) rfl, tg_mem 21 (by decide +kernel) rfl, by decide +kernel, fun h => absurd h (by decide), fun _ => tg_mem 557 (by decide +kernel) rfl, fun _ => tg_mem 558 (by decide +kernel) rfl, fun h => absurd h (by decide)⟩
theorem cl_12 : ClOk (44, 2, 72, 28, 3) := ⟨.inl (tg_mem 514 (by decide +kernel) rfl), tg_mem 517 (by decide +kernel) rfl, tg_mem 21 (by decide +kernel) rfl, by decide +kernel, fun h => absurd h (by decide), fun _ => tg_mem 516 (by decide +kernel) rfl, fun _ => tg_mem 9 (by decide +kernel) rfl, fun h => absurd h (by decide)⟩
theorem cl_13 : ClOk (44, 2, 76, 34, 1) := ⟨.inl (tg_mem 381 (by decide +kernel) rfl), tg_mem 384 (by decide +kernel) rfl, tg_mem 25 (by decide +kernel) rfl, by decide +kernel, fun h => absurd h (by decide), fun _ => tg_mem 382 (by decide +kernel) rfl, fun _ => tg_mem 383 (by decide +kernel) rfl, fun h => absurd h (by decide)⟩
theorem cl_14 : ClOk (44, 2, 80, 30, 2) := ⟨.inl (tg_mem 377 (by decide +kernel) rfl), tg_mem 380 (by decide +kernel) rfl, tg_mem 21 (by decide +kernel) rfl, by decide +kernel, fun h => absurd h (by decide), fun _ => tg_mem 379 (by decide +kernel) rfl, fun _ => tg_mem 2 (by decide +kernel) rfl, fun h => absurd h (by decide)⟩
theorem cl_15 : ClOk (44, 2, 84, 36, 1) := ⟨.inl (tg_mem 385 (by decide +kernel) rfl), tg_mem 388 (by decide +kernel) rfl, tg_mem 25 (by decide +kernel) rfl, by decide +kernel, fun h => absurd h (by decide), fun _ => tg_mem 386 (by decide +kernel) rfl, fun _ => tg_mem 387 (by decide +kernel) rfl, fun h => absurd h (by decide)⟩
theorem cl_16 : ClOk (44, 2, 88, 31, 2) := ⟨.inl (tg_mem 389 (by decide +kernel) rfl), tg_mem 392 (by decide +kernel) rfl, tg_mem 21 (by decide +kernel) rfl, by decide +kernel, fun h => absurd h (by decide), fun _ => tg_mem 391 (by decide +kernel) rfl, fun _ => tg_mem 3 (by decide +kernel) rfl, fun h => absurd h (by decide)⟩
theorem cl_17 : ClOk (44, 2, 92, 35, 1) := ⟨.inl (tg_mem 393 (by decide +kernel) rfl), tg_mem 396 (by decide +kernel) rfl, tg_mem 25 (by decide +kernel) rfl, by decide +kernel, fun h => absurd h (by decide), fun _ => tg_mem 394 (by decide +kernel) rfl, fun _ => tg_mem 395 (by decide +kernel) rfl, fun h => absurd h (by decide)⟩
theorem cl_18 : ClOk (45, 4, 11, 41, 0) := ⟨.inl (tg_mem 43 (by decide +kernel) rfl), tg_mem 45 (by decide +kernel) rfl, tg_mem 18 (by decide +kernel) rfl, by decide +kernel, fun h => absurd h (by decide), fun _ => tg_mem 44 (by decide +kernel) rfl, fun h => absurd h (by decide), fun _ => rfl⟩
theorem cl_19 : ClOk (44, 4, 26, 42, 1) := ⟨.inl (tg_mem 293 (by decide +kernel) rfl), tg_mem 296 (by decide +kernel) rfl, tg_mem 18 (by decide +kernel) rfl, by decide +kernel, fun h => absurd h (by decide), fun _ => tg_mem 294 (by decide +kernel) rfl, fun _ => tg_mem 295 (by decide +kernel) rfl, fun h => absurd h (by decide)⟩
theorem cl_20 : ClOk (45, 5, 11, 66, 0) := ⟨.inl (tg_mem 49 (by decide +kernel) rfl), tg_mem 51 (by decide +kernel) rfl, tg_mem 19 (by decide +kernel) rfl, by decide +kernel, fun h => absurd h (by decide), fun _ => tg_mem 50 (by decide +kernel) rfl, fun h => absurd h (by decide), fun _ => rfl⟩
theorem cl_21 : ClOk (45, 5, 20, 13, 0) := ⟨.inr ⟨"WalkFrames", nw_mem 69 (by decide +kernel) rfl⟩, tg_mem 71 (by decide +kernel) rfl, tg_mem 21 (by decide +kernel) rfl, by decide +kernel, fun h => absurd h (by decide), fun _ => tg_mem 70 (by decide +kernel) rfl, fun h => absurd h (by decide), fun _ => rfl⟩
theorem cl_22 : ClOk (45, 5, 27, 0, 0) := ⟨.inl (tg_mem 117 (by decide +kernel) rfl), tg_mem 119 (by decide +kernel) rfl, tg_mem 22 (by decide +kernel) rfl, by decide +kernel, fun h => absurd h (by decide), fun _ => tg_mem 118 (by decide +kernel) rfl, fun h => absurd h (by decide), fun _ => rfl⟩
theorem cl_23 : ClOk (44, 5, 46, 67, 1) := ⟨.inl (tg_mem 297 (by decide +kernel) rfl), tg_mem 300 (by decide +kernel) rfl, tg_mem 19 (by decide +kernel) rfl, by decide +kernel, fun h => absurd h (by decide), fun _ => tg_mem 298 (by decide +kernel) rfl, fun _ => tg_mem 299 (by decide +kernel) rfl, fun h => absurd h (by decide)⟩
theorem cl_24 : ClOk (44, 5, 50, 14, 1) := ⟨.inl (tg_mem 304 (by decide +kernel) rfl), tg_mem 307 (by decide +kernel) rfl, tg_mem 21 (by decide +kernel) rfl, by decide +kernel, fun h => absurd h (by decide), fun _ => tg_mem 305 (by decide +kernel) rfl, fun _ => tg_mem 306 (by decide +kernel) rfl, fun h => absurd h (by decide)⟩
theorem cl_25 : ClOk (44, 5, 53, 1, 1) := ⟨.inl (tg_mem 309 (by decide +kernel) rfl), tg_mem 312 (by decide +kernel) rfl, tg_mem 22 (by decide +kernel) rfl, by decide +kernel, fun h => absurd h (by decide), fun _ => tg_mem 310 (by decide +kernel) rfl, fun _ => tg_mem 311 (by decide +kernel) rfl, fun h => absurd h (by decide)⟩
theorem cl_26 : ClOk (46, 5, 65, 98, 1) := ⟨.inr ⟨"WalkFrames", nw_mem 345 (by decide +kernel) rfl⟩, tg_mem 325 (by decide +kernel) rfl, tg_mem 16 (by decide +kernel) rfl, by decide +kernel, fun _ => tg_mem 324 (by decide +kernel) rfl, fun h => absurd rfl h, fun h => absurd h (by decide), fun h => absurd h (by decide)⟩
theorem cl_27 : ClOk (44, 5, 69, 15, 1) := ⟨.inl (tg_mem 482 (by decide +kernel) rfl), tg_mem 376 (by decide +kernel) rfl, tg_mem 21 (by decide +kernel) rfl, by decide +kernel, fun h => absurd h (by decide), fun _ => tg_mem 374 (by decide +kernel) rfl, fun _ => tg_mem 375 (by decide +kernel) rfl, fun h => absurd h (by decide)⟩
theorem cl_28 : ClOk (44, 5, 75, 68, 1) := ⟨.inl (tg_mem 483 (by decide +kernel) rfl), tg_mem 486 (by decide +kernel) rfl, tg_mem 19 (by decide +kernel) rfl, by decide +kernel, fun h => absurd h (by decide), fun _ => tg_mem 484 (by decide +kernel) rfl, fun _ => tg_mem 485 (by decide +kernel) rfl, fun h => absurd h (by decide)⟩
theorem cl_29 : ClOk (44, 5, 97, 45, 1) := ⟨.inl (tg_mem 478 (by decide +kernel) rfl), tg_mem 481 (by decide +kernel) rfl, tg_mem 18 (by decide +kernel) rfl, by decide +kernel, fun h => absurd h (by decide), fun _ => tg_mem 479 (by decide +kernel) rfl, fun _ => tg_mem 480 (by decide +kernel) rfl, fun h => absurd h (by decide)⟩
theorem cl_30 : ClOk (44, 5, 98, 22, 1) := ⟨.inl (tg_mem 532 (by decide +kernel) rfl), tg_mem 469 (by decide +kernel) rfl, tg_mem 21 (by decide +kernel) rfl, by decide +kernel, fun h => absurd h (by decide), fun _ => tg_mem 467 (by decide +kernel) rfl, fun _ => tg_mem 468 (by decide +kernel) rfl, fun h => absurd h (by decide)⟩
theorem cl_31 : ClOk (44, 5, 101, 21, 0) := ⟨.inl (tg_mem 537 (by decide +kernel) rfl), tg_mem 540 (by decide +kernel) rfl, tg_mem 21 (by decide +kernel) rfl, by decide +kernel, fun h => absurd h (by decide), fun _ => tg_mem 538 (by decide +kernel) rfl, fun _ => tg_mem 539 (by decide +kernel) rfl, fun h => absurd h (by decide)⟩
theorem cl_32 : ClOk (44, 5, 104, 27, 1) := ⟨.inl (tg_mem 542 (by decide +kernel) rfl), tg_mem 513 (by decide +kernel) rfl, tg_mem 21 (by decide +kernel) rfl, by decide +kernel, fun h => absurd h (by decide), fun _ => tg_mem 511 (by decide +kernel) rfl, fun _ => tg_mem 512 (by decide +kernel) rfl, fun h => absurd h (by decide)⟩
theorem cl_33 : ClOk (44, 5, 116, 36, 1) := ⟨.inl (tg_mem 400 (by decide +kernel) rfl), tg_mem 388 (by decide +kernel) rfl, tg_mem 25 (by decide +kernel) rfl, by decide +kernel, fun h => absurd h (by decide), fun _ => tg_mem 386 (by decide +kernel) rfl, fun _ => tg_mem 387 (by decide +kernel) rfl, fun h => absurd h (by decide)⟩
theorem cl_34 : ClOk (44, 5, 119, 50, 1) := ⟨.inl (tg_mem 543 (by decide +kernel) rfl), tg_mem 546 (by decide +kernel) rfl, tg_mem 18 (by decide +kernel) rfl, by decide +kernel, fun h => absurd h (by decide), fun _ => tg_mem 545 (by decide +kernel) rfl, fun _ => tg_mem 10 (by decide +kernel) rfl, fun h => absurd h (by decide)⟩
theorem cl_35 : ClOk (44, 5, 122, 51, 1) := ⟨.inl (tg_mem 547 (by decide +kernel) rfl), tg_mem 550 (by decide +kernel) rfl, tg_mem 18 (by decide +kernel) rfl, by decide +kernel, fun h => absurd h (by decide), fun _ => tg_mem 549 (by decide +kernel) rfl, fun _ => tg_mem 11 (by decide +kernel) rfl, fun h => absurd h (by decide)⟩
theorem cl_36 : ClOk (44, 5, 125, 17, 3) := ⟨.inl (tg_mem 401 (by decide +kernel) rfl), tg_mem 404 (by decide +kernel) rfl, tg_mem 21 (by decide +kernel) rfl, by decide +kernel, fun h => absurd h (by decide), fun _ => tg_mem 402 (by decide +kernel) rfl, fun _ => tg_mem 403 (by decide +kernel) rfl, fun h => absurd h (by decide)⟩
theorem cl_37 : ClOk (44, 5, 129, 46, 1) := ⟨.inl (tg_mem 551 (by decide +kernel) rfl), tg_mem 554 (by decide +kernel) rfl, tg_mem 18 (by decide +kernel) rfl, by decide +kernel, fun h => absurd h (by decide), fun _ => tg_mem 552 (by decide +kernel) rfl, fun _ => tg_mem 553 (by decide +kernel) rfl, fun h => absurd h (by decide)⟩
theorem cl_38 : ClOk (44, 5, 132, 20, 1) := ⟨.inl (tg_mem 556 (by decide +kernel) rfl), tg_mem 559 (by decide +kernel) rfl, tg_mem 21 (by decide +kernel) rfl, by decide +kernel, fun h => absurd h (by decide), fun _ => tg_mem 557 (by decide +kernel) rfl, fun _ => tg_mem 558 (by decide +kernel) rfl, fun h => absurd h (by decide)⟩
theorem cl_39 : ClOk (44, 5, 135, 26, 1) := ⟨.inl (tg_mem 560 (by decide +kernel) rfl), tg_mem 563 (by decide +kernel) rfl, tg_mem 21 (by decide +kernel) rfl, by decide +kernel, fun h => absurd h (by decide), fun _ => tg_mem 561 (by decide +kernel) rfl, fun _ => tg_mem 562 (by decide +kernel) rfl, fun h => absurd h (by decide)⟩
theorem cl_40 : ClOk (44, 5, 138, 52, 0) := ⟨.inl (tg_mem 565 (by decide +kernel) rfl), tg_mem 568 (by decide +kernel) rfl, tg_mem 18 (by decide +kernel) rfl, by decide +kernel, fun h => absurd h (by decide), fun _ => tg_mem 567 (by decide +kernel) rfl, fun _ => tg_mem 12 (by decide +kernel) rfl, fun h => absurd h (by decide)⟩
theorem cl_41 : ClOk (44, 5, 149, 29, 3) := ⟨.inl (tg_mem 365 (by decide +kernel) rfl), tg_mem 368 (by decide +kernel) rfl, tg_mem 21 (by decide +kernel) rfl, by decide +kernel, fun h => absurd h (by decide), fun _ => tg_mem 366 (by decide +kernel) rfl, fun _ => tg_mem 367 (by decide +kernel) rfl, fun h => absurd h (by decide)⟩
theorem cl_42 : ClOk (44, 5, 153, 56, 2) := ⟨.inl (tg_mem 669 (by decide +kernel) rfl), tg_mem 672 (by decide +kernel) rfl, tg_mem 18 (by decide +kernel) rfl, by decide +kernel, fun h => absurd h (by decide), fun _ => tg_mem 671 (by decide +kernel) rfl, fun _ => tg_mem 13 (by decide +kernel) rfl, fun h => absurd h (by decide)⟩
theorem cl_43 : ClOk (44, 5, 157, 6, 2) := ⟨.inl (tg_mem 673 (by decide +kernel) rfl), tg_mem 676 (by decide +kernel) rfl, tg_mem 22 (by decide +kernel) rfl, by decide +kernel, fun h => absurd h (by decide), fun _ => tg_mem 674 (by decide +kernel) rfl, fun _ => tg_mem 675 (by decide +kernel) rfl, fun h => absurd h (by decide)⟩
theorem cl_44 : ClOk (44, 5, 161, 19, 2) := ⟨.inl (tg_mem 677 (by decide +kernel) rfl), tg_mem 680 (by decide +kernel) rfl, tg_mem 21 (by decide +kernel) rfl, by decide +kernel, fun h => absurd h (by decide), fun _ => tg_mem 678 (by decide +kernel) rfl, fun _ => tg_mem 679 (by decide +kernel) rfl, fun h => absurd h (by decide)⟩
theorem cl_45 : ClOk (44, 5, 165, 18, 3) := ⟨.inl (tg_mem 685 (by decide +kernel) rfl), tg_mem 684 (by decide +kernel) rfl, tg_mem 21 (by decide +kernel) rfl, by decide +kernel, fun h => absurd h (by decide), fun _ => tg_mem 682 (by decide +kernel) rfl, fun _ => tg_mem 683 (by decide +kernel) rfl, fun h => absurd h (by decide)⟩
theorem cl_46 : ClOk (44, 5, 168, 57, 2) := ⟨.inl (tg_mem 686 (by decide +kernel) rfl), tg_mem 689 (by decide +kernel) rfl, tg_mem 18 (by decide +kernel) rfl, by decide +kernel, fun h => absurd h (by decide), fun _ => tg_mem 688 (by decide +kernel) rfl, fun _ => tg_mem 14 (by decide +kernel) rfl, fun h => absurd h (by decide)⟩
theorem cl_47 : ClOk (44, 5, 171, 7, 2) := ⟨.inl (tg_mem 690 (by decide +kernel) rfl), tg_mem 693 (by decide +kernel) rfl, tg_mem 22 (by decide +kernel) rfl, by decide +kernel, fun h => absurd h (by decide), fun _ => tg_mem 691 (by decide +kernel) rfl, fun _ => tg_mem 692 (by decide +kernel) rfl, fun h => absurd h (by decide)⟩
theorem cl_48 : ClOk (44, 6, 39, 60, 0) := ⟨.inl (tg_mem 438 (by decide +kernel) rfl), tg_mem 441 (by decide +kernel) rfl, tg_mem 24 (by decide +kernel) rfl, by decide +kernel, fun h => absurd h (by decide), fun _ => tg_mem 440 (by decide +kernel) rfl, fun _ => tg_mem 4 (by decide +kernel) rfl, fun h => absurd h (by decide)⟩
theorem cl_49 : ClOk (44, 6, 42, 63, 1) := ⟨.inl (tg_mem 454 (by decide +kernel) rfl), tg_mem 457 (by decide +kernel) rfl, tg_mem 24 (by decide +kernel) rfl, by decide +kernel, fun h => absurd h (by decide), fun _ => tg_mem 456 (by decide +kernel) rfl, fun _ => tg_mem 8 (by decide +kernel) rfl, fun h => absurd h (by decide)⟩
theorem cl_50 : ClOk (44, 6, 46, 61, 0) := ⟨.inl (tg_mem 442 (by decide +kernel) rfl), tg_mem 445 (by decide +kernel) rfl, tg_mem 24 (by decide +kernel) rfl, by decide +kernel, fun h => absurd h (by decide), fun _ => tg_mem 444 (by decide +kernel) rfl, fun _ => tg_mem 5 (by decide +kernel) rfl, fun h => absurd h (by decide)⟩
theorem cl_51 : ClOk (44, 6, 50, 62, 1) := ⟨.inl (tg_mem 446 (by decide +kernel) rfl), tg_mem 449 (by decide +kernel) rfl, tg_mem 24 (by decide +kernel) rfl, by decide +kernel, fun h => absurd h (by decide), fun _ => tg_mem 448 (by decide +kernel) rfl, fun _ => tg_mem 6 (by decide +kernel) rfl, fun h => absurd h (by decide)⟩
theorem cl_52 : ClOk (44, 6, 54, 64, 2) := ⟨.inl (tg_mem 450 (by decide +kernel) rfl), tg_mem 453 (by decide +kernel) rfl, tg_mem 24 (by decide +kernel) rfl, by decide +kernel, fun h => absurd h (by decide), fun _ => tg_mem 452 (by decide +kernel) rfl, fun _ => tg_mem 7 (by decide +kernel) rfl, fun h => absurd h (by decide)⟩
theorem cl_53 : ClOk (44, 7, 18, 69, 3) := ⟨.inl (tg_mem 55 (by decide +kernel) rfl), tg_mem 58 (by decide +kernel) rfl, tg_mem 19 (by decide +kernel) rfl, by decide +kernel, fun h => absurd h (by decide), fun _ => tg_mem 56 (by decide +kernel) rfl, fun _ => tg_mem 57 (by decide +kernel) rfl, fun h => absurd h (by decide)⟩
theorem cl_54 : ClOk (46, 7, 28, 97, 3) := ⟨.inr ⟨"WalkFrames", nw_mem 487 (by decide +kernel) rfl⟩, tg_mem 280 (by decide +kernel) rfl, tg_mem 16 (by decide +kernel) rfl, by decide +kernel, fun _ => tg_mem 279 (by decide +kernel) rfl, fun h => absurd rfl h, fun h => absurd h (by decide), fun h => absurd h (by decide)⟩
theorem cl_55 : ClOk (45, 8, 9, 37, 0) := ⟨.inl (tg_mem 37 (by decide +kernel) rfl), tg_mem 39 (by decide +kernel) rfl, tg_mem 17 (by decide +kernel) rfl, by decide +kernel, fun h => absurd h (by decide), fun _ => tg_mem 38 (by decide +kernel) rfl, fun h => absurd h (by decide), fun _ => rfl⟩
theorem cl_56 : ClOk (45, 8, 18, 9, 0) := ⟨.inl (tg_mem 189 (by decide +kernel) rfl), tg_mem 191 (by decide +kernel) rfl, tg_mem 23 (by decide +kernel) rfl, by decide +kernel, fun h => absurd h (by decide), fun _ => tg_mem 190 (by decide +kernel) rfl, fun h => absurd h (by decide), fun _ => rfl⟩
theorem cl_57 : ClOk (45, 8, 25, 58, 0) := ⟨.inr ⟨"WalkFrames", nw_mem 206 (by decide +kernel) rfl⟩, tg_mem 208 (by decide +kernel) rfl, tg_mem 24 (by decide +kernel) rfl, by decide +kernel, fun h => absurd h (by decide), fun _ => tg_mem 207 (by decide +kernel) rfl, fun h => absurd h (by decide), fun _ => rfl⟩
theorem cl_58 : ClOk (45, 8, 32, 41, 0) := ⟨.inl (tg_mem 242 (by decide +kernel) rfl), tg_mem 45 (by decide +kernel) rfl, tg_mem 18 (by decide +kernel) rfl, by decide +kernel, fun h => absurd h (by decide), fun _ => tg_mem 44 (by decide +kernel) rfl, fun h => absurd h (by decide), fun _ => rfl⟩
theorem cl_59 : ClOk (45, 8, 39, 33, 0) := ⟨.inr ⟨"WalkFrames", nw_mem 245 (by decide +kernel) rfl⟩, tg_mem 247 (by decide +kernel) rfl, tg_mem 25 (by decide +kernel) rfl, by decide +kernel, fun h => absurd h (by decide), fun _ => tg_mem 246 (by decide +kernel) rfl, fun h => absurd h (by decide), fun _ => rfl⟩
theorem cl_60 : ClOk (46, 8, 44, 97, 3) := ⟨.inl (tg_mem 278 (by decide +kernel) rfl), tg_mem 280 (by decide +kernel) rfl, tg_mem 16 (by decide +kernel) rfl, by decide +kernel, fun _ => tg_mem 279 (by decide +kernel) rfl, fun h => absurd rfl h, fun h => absurd h (by decide), fun h => absurd h (by decide)⟩
theorem cl_61 : ClOk (44, 8, 61, 10, 1) := ⟨.inl (tg_mem 281 (by decide +kernel) rfl), tg_mem 284 (by decide +kernel) rfl, tg_mem 23 (by decide +kernel) rfl, by decide +kernel, fun h => absurd h (by decide), fun _ => tg_mem 282 (by decide +kernel) rfl, fun _ => tg_mem 283 (by decide +kernel) rfl, fun h => absurd h (by decide)⟩
theorem cl_62 : ClOk (44, 8, 68, 16, 3) := ⟨.inl (tg_mem 315 (by decide +kernel) rfl), tg_mem 318 (by decide +kernel) rfl, tg_mem 21 (by decide +kernel) rfl, by decide +kernel, fun h => absurd h (by decide), fun _ => tg_mem 316 (by decide +kernel) rfl, fun _ => tg_mem 317 (by decide +kernel) rfl, fun h => absurd h (by decide)⟩
theorem cl_63 : ClOk (44, 8, 72, 49, 1) := ⟨.inl (tg_mem 533 (by decide +kernel) rfl), tg_mem 536 (by decide +kernel) rfl, tg_mem 18 (by decide +kernel) rfl, by decide +kernel, fun h => absurd h (by decide), fun _ => tg_mem 534 (by decide +kernel) rfl, fun _ => tg_mem 535 (by decide +kernel) rfl, fun h => absurd h (by decide)⟩
theorem cl_64 : ClOk (44, 8, 76, 22, 1) := ⟨.inl (tg_mem 466 (by decide +kernel) rfl), tg_mem 469 (by decide +kernel) rfl, tg_mem 21 (by decide +kernel) rfl, by decide +kernel, fun h => absurd h (by decide), fun _ => tg_mem 467 (by decide +kernel) rfl, fun _ => tg_mem 468 (by decide +kernel) rfl, fun h => absurd h (by decide)⟩
theorem cl_65 : ClOk (46, 8, 80, 98, 1) := ⟨.inl (tg_mem 323 (by decide +kernel) rfl), tg_mem 325 (by decide +kernel) rfl, tg_mem 16 (by decide +kernel) rfl, by decide +kernel, fun _ => tg_mem 324 (by decide +kernel) rfl, fun h => absurd rfl h, fun h => absurd h (by decide), fun h => absurd h (by decide)⟩
theorem cl_66 : ClOk (44, 8, 88, 69, 3) := ⟨.inl (tg_mem 326 (by decide +kernel) rfl), tg_mem 58 (by decide +kernel) rfl, tg_mem 19 (by decide +kernel) rfl, by decide +kernel, fun h => absurd h (by decide), fun _ => tg_mem 56 (by decide +kernel) rfl, fun _ => tg_mem 57 (by decide +kernel) rfl, fun h => absurd h (by decide)⟩
theorem cl_67 : ClOk (44, 8, 93, 70, 0) := ⟨.inl (tg_mem 327 (by decide +kernel) rfl), tg_mem 330 (by decide +kernel) rfl, tg_mem 19 (by decide +kernel) rfl, by decide +kernel, fun h => absurd h (by decide), fun _ => tg_mem 328 (by decide +kernel) rfl, fun _ => tg_mem 329 (by decide +kernel) rfl, fun h => absurd h (by decide)⟩
theorem cl_68 : ClOk (46, 8, 97, 101, 1) := ⟨.inl (tg_mem 335 (by decide +kernel) rfl), tg_mem 337 (by decide +kernel) rfl, tg_mem 16 (by decide +kernel) rfl, by decide +kernel, fun _ => tg_mem 336 (by decide +kernel) rfl, fun h => absurd rfl h, fun h => absurd h (by decide), fun h => absurd h (by decide)⟩
theorem cl_69 : ClOk (46, 8, 100, 102, 1) := ⟨.inl (tg_mem 338 (by decide +kernel) rfl), tg_mem 340 (by decide +kernel) rfl, tg_mem 16 (by decide +kernel) rfl, by decide +kernel, fun _ => tg_mem 339 (by decide +kernel) rfl, fun h => absurd rfl h, fun h => absurd h (by decide), fun h => absurd h (by decide)⟩
end
section
theorem cl_70 : ClOk (44, 8, 103, 43, 1) := ⟨.inl (tg_mem 341 (by decide +kernel) rfl), tg_mem 344 (by decide +kernel) rfl, tg_mem 18 (by decide +kernel) rfl, by decide +kernel, fun h => absurd h (by decide), fun _ => tg_mem 342 (by decide +kernel) rfl, fun _ => tg_mem 343 (by decide +kernel) rfl, fun h => absurd h (by decide)⟩
theorem cl_71 : ClOk (44, 8, 106, 44, 2) := ⟨.inl (tg_mem 346 (by decide +kernel) rfl), tg_mem 349 (by decide +kernel) rfl, tg_mem 18 (by decide +kernel) rfl, by decide +kernel, fun h => absurd h (by decide), fun _ => tg_mem 347 (by decide +kernel) rfl, fun _ => tg_mem 348 (by decide +kernel) rfl, fun h => absurd h (by decide)⟩
theorem cl_72 : ClOk (44, 8, 114, 2, 1) := ⟨.inl (tg_mem 611 (by decide +kernel) rfl), tg_mem 614 (by decide +kernel) rfl, tg_mem 22 (by decide +kernel) rfl, by decide +kernel, fun h => absurd h (by decide), fun _ => tg_mem 612 (by decide +kernel) rfl, fun _ => tg_mem 613 (by decide +kernel) rfl, fun h => absurd h (by decide)⟩
theorem cl_73 : ClOk (46, 8, 127, 99, 1) := ⟨.inl (tg_mem 354 (by decide +kernel) rfl), tg_mem 356 (by decide +kernel) rfl, tg_mem 16 (by decide +kernel) rfl, by decide +kernel, fun _ => tg_mem 355 (by decide +kernel) rfl, fun h => absurd rfl h, fun h => absurd h (by decide), fun h => absurd h (by decide)⟩
theorem cl_74 : ClOk (44, 8, 130, 53, 1) := ⟨.inl (tg_mem 357 (by decide +kernel) rfl), tg_mem 360 (by decide +kernel) rfl, tg_mem 18 (by decide +kernel) rfl, by decide +kernel, fun h => absurd h (by decide), fun _ => tg_mem 358 (by decide +kernel) rfl, fun _ => tg_mem 359 (by decide +kernel) rfl, fun h => absurd h (by decide)⟩
theorem cl_75 : ClOk (44, 8, 133, 54, 2) := ⟨.inl (tg_mem 361 (by decide +kernel) rfl), tg_mem 364 (by decide +kernel) rfl, tg_mem 18 (by decide +kernel) rfl, by decide +kernel, fun h => absurd h (by decide), fun _ => tg_mem 362 (by decide +kernel) rfl, fun _ => tg_mem 363 (by decide +kernel) rfl, fun h => absurd h (by decide)⟩
theorem cl_76 : ClOk (44, 8, 137, 55, 2) := ⟨.inl (tg_mem 665 (by decide +kernel) rfl), tg_mem 668 (by decide +kernel) rfl, tg_mem 18 (by decide +kernel) rfl, by decide +kernel, fun h => absurd h (by decide), fun _ => tg_mem 666 (by decide +kernel) rfl, fun _ => tg_mem 667 (by decide +kernel) rfl, fun h => absurd h (by decide)⟩
theorem cl_77 : ClOk (46, 8, 140, 100, 1) := ⟨.inl (tg_mem 410 (by decide +kernel) rfl), tg_mem 412 (by decide +kernel) rfl, tg_mem 16 (by decide +kernel) rfl, by decide +kernel, fun _ => tg_mem 411 (by decide +kernel) rfl, fun h => absurd rfl h, fun h => absurd h (by decide), fun h => absurd h (by decide)⟩
theorem cl_78 : ClOk (44, 8, 143, 39, 1) := ⟨.inl (tg_mem 413 (by decide +kernel) rfl), tg_mem 416 (by decide +kernel) rfl, tg_mem 17 (by decide +kernel) rfl, by decide +kernel, fun h => absurd h (by decide), fun _ => tg_mem 414 (by decide +kernel) rfl, fun _ => tg_mem 415 (by decide +kernel) rfl, fun h => absurd h (by decide)⟩
theorem cl_79 : ClOk (44, 8, 154, 42, 1) := ⟨.inl (tg_mem 421 (by decide +kernel) rfl), tg_mem 296 (by decide +kernel) rfl, tg_mem 18 (by decide +kernel) rfl, by decide +kernel, fun h => absurd h (by decide), fun _ => tg_mem 294 (by decide +kernel) rfl, fun _ => tg_mem 295 (by decide +kernel) rfl, fun h => absurd h (by decide)⟩
theorem cl_80 : ClOk (44, 8, 161, 12, 1) := ⟨.inl (tg_mem 426 (by decide +kernel) rfl), tg_mem 429 (by decide +kernel) rfl, tg_mem 23 (by decide +kernel) rfl, by decide +kernel, fun h => absurd h (by decide), fun _ => tg_mem 427 (by decide +kernel) rfl, fun _ => tg_mem 428 (by decide +kernel) rfl, fun h => absurd h (by decide)⟩
theorem cl_81 : ClOk (44, 8, 174, 59, 0) := ⟨.inl (tg_mem 434 (by decide +kernel) rfl), tg_mem 437 (by decide +kernel) rfl, tg_mem 24 (by decide +kernel) rfl, by decide +kernel, fun h => absurd h (by decide), fun _ => tg_mem 435 (by decide +kernel) rfl, fun _ => tg_mem 436 (by decide +kernel) rfl, fun h => absurd h (by decide)⟩
theorem cl_82 : ClOk (44, 8, 177, 65, 0) := ⟨.inl (tg_mem 458 (by decide +kernel) rfl), tg_mem 461 (by decide +kernel) rfl, tg_mem 24 (by decide +kernel) rfl, by decide +kernel, fun h => absurd h (by decide), fun _ => tg_mem 459 (by decide +kernel) rfl, fun _ => tg_mem 460 (by decide +kernel) rfl, fun h => absurd h (by decide)⟩
theorem cl_83 : ClOk (44, 8, 189, 3, 0) := ⟨.inl (tg_mem 470 (by decide +kernel) rfl), tg_mem 473 (by decide +kernel) rfl, tg_mem 22 (by decide +kernel) rfl, by decide +kernel, fun h => absurd h (by decide), fun _ => tg_mem 471 (by decide +kernel) rfl, fun _ => tg_mem 472 (by decide +kernel) rfl, fun h => absurd h (by decide)⟩
theorem cl_84 : ClOk (44, 8, 192, 47, 0) := ⟨.inl (tg_mem 474 (by decide +kernel) rfl), tg_mem 477 (by decide +kernel) rfl, tg_mem 18 (by decide +kernel) rfl, by decide +kernel, fun h => absurd h (by decide), fun _ => tg_mem 475 (by decide +kernel) rfl, fun _ => tg_mem 476 (by decide +kernel) rfl, fun h => absurd h (by decide)⟩
theorem cl_85 : ClOk (44, 8, 195, 25, 0) := ⟨.inl (tg_mem 488 (by decide +kernel) rfl), tg_mem 491 (by decide +kernel) rfl, tg_mem 21 (by decide +kernel) rfl, by decide +kernel, fun h => absurd h (by decide), fun _ => tg_mem 489 (by decide +kernel) rfl, fun _ => tg_mem 490 (by decide +kernel) rfl, fun h => absurd h (by decide)⟩
theorem cl_86 : ClOk (44, 8, 198, 4, 0) := ⟨.inl (tg_mem 492 (by decide +kernel) rfl), tg_mem 495 (by decide +kernel) rfl, tg_mem 22 (by decide +kernel) rfl, by decide +kernel, fun h => absurd h (by decide), fun _ => tg_mem 493 (by decide +kernel) rfl, fun _ => tg_mem 494 (by decide +kernel) rfl, fun h => absurd h (by decide)⟩
theorem cl_87 : ClOk (44, 8, 210, 40, 0) := ⟨.inl (tg_mem 496 (by decide +kernel) rfl), tg_mem 499 (by decide +kernel) rfl, tg_mem 17 (by decide +kernel) rfl, by decide +kernel, fun h => absurd h (by decide), fun _ => tg_mem 497 (by decide +kernel) rfl, fun _ => tg_mem 498 (by decide +kernel) rfl, fun h => absurd h (by decide)⟩
theorem cl_88 : ClOk (44, 8, 213, 15, 1) := ⟨.inl (tg_mem 504 (by decide +kernel) rfl), tg_mem 376 (by decide +kernel) rfl, tg_mem 21 (by decide +kernel) rfl, by decide +kernel, fun h => absurd h (by decide), fun _ => tg_mem 374 (by decide +kernel) rfl, fun _ => tg_mem 375 (by decide +kernel) rfl, fun h => absurd h (by decide)⟩
theorem cl_89 : ClOk (44, 8, 237, 45, 1) := ⟨.inl (tg_mem 505 (by decide +kernel) rfl), tg_mem 481 (by decide +kernel) rfl, tg_mem 18 (by decide +kernel) rfl, by decide +kernel, fun h => absurd h (by decide), fun _ => tg_mem 479 (by decide +kernel) rfl, fun _ => tg_mem 480 (by decide +kernel) rfl, fun h => absurd h (by decide)⟩
theorem cl_90 : ClOk (44, 8, 246, 46, 1) := ⟨.inl (tg_mem 606 (by decide +kernel) rfl), tg_mem 554 (by decide +kernel) rfl, tg_mem 18 (by decide +kernel) rfl, by decide +kernel, fun h => absurd h (by decide), fun _ => tg_mem 552 (by decide +kernel) rfl, fun _ => tg_mem 553 (by decide +kernel) rfl, fun h => absurd h (by decide)⟩
theorem cl_91 : ClOk (44, 8, 249, 24, 1) := ⟨.inl (tg_mem 607 (by decide +kernel) rfl), tg_mem 610 (by decide +kernel) rfl, tg_mem 21 (by decide +kernel) rfl, by decide +kernel, fun h => absurd h (by decide), fun _ => tg_mem 608 (by decide +kernel) rfl, fun _ => tg_mem 609 (by decide +kernel) rfl, fun h => absurd h (by decide)⟩
theorem cl_92 : ClOk (44, 8, 252, 23, 1) := ⟨.inl (tg_mem 619 (by decide +kernel) rfl), tg_mem 622 (by decide +kernel) rfl, tg_mem 21 (by decide +kernel) rfl, by decide +kernel, fun h => absurd h (by decide), fun _ => tg_mem 620 (by decide +kernel) rfl, fun _ => tg_mem 621 (by decide +kernel) rfl, fun h => absurd h (by decide)⟩
theorem cl_93 : ClOk (44, 8, 258, 5, 2) := ⟨.inl (tg_mem 627 (by decide +kernel) rfl), tg_mem 580 (by decide +kernel) rfl, tg_mem 22 (by decide +kernel) rfl, by decide +kernel, fun h => absurd h (by decide), fun _ => tg_mem 578 (by decide +kernel) rfl, fun _ => tg_mem 579 (by decide +kernel) rfl, fun h => absurd h (by decide)⟩
theorem cl_94 : ClOk (44, 8, 262, 68, 1) := ⟨.inl (tg_mem 593 (by decide +kernel) rfl), tg_mem 486 (by decide +kernel) rfl, tg_mem 19 (by decide +kernel) rfl, by decide +kernel, fun h => absurd h (by decide), fun _ => tg_mem 484 (by decide +kernel) rfl, fun _ => tg_mem 485 (by decide +kernel) rfl, fun h => absurd h (by decide)⟩
theorem cl_95 : ClOk (44, 8, 263, 71, 1) := ⟨.inl (tg_mem 594 (by decide +kernel) rfl), tg_mem 597 (by decide +kernel) rfl, tg_mem 19 (by decide +kernel) rfl, by decide +kernel, fun h => absurd h (by decide), fun _ => tg_mem 595 (by decide +kernel) rfl, fun _ => tg_mem 596 (by decide +kernel) rfl, fun h => absurd h (by decide)⟩
theorem cl_96 : ClOk (44, 8, 266, 72, 1) := ⟨.inl (tg_mem 598 (by decide +kernel) rfl), tg_mem 601 (by decide +kernel) rfl, tg_mem 19 (by decide +kernel) rfl, by decide +kernel, fun h => absurd h (by decide), fun _ => tg_mem 599 (by decide +kernel) rfl, fun _ => tg_mem 600 (by decide +kernel) rfl, fun h => absurd h (by decide)⟩
theorem cl_97 : ClOk (44, 8, 269, 27, 1) := ⟨.inl (tg_mem 510 (by decide +kernel) rfl), tg_mem 513 (by decide +kernel) rfl, tg_mem 21 (by decide +kernel) rfl, by decide +kernel, fun h => absurd h (by decide), fun _ => tg_mem 511 (by decide +kernel) rfl, fun _ => tg_mem 512 (by decide +kernel) rfl, fun h => absurd h (by decide)⟩
theorem cl_98 : ClOk (44, 8, 273, 36, 1) := ⟨.inl (tg_mem 518 (by decide +kernel) rfl), tg_mem 388 (by decide +kernel) rfl, tg_mem 25 (by decide +kernel) rfl, by decide +kernel, fun h => absurd h (by decide), fun _ => tg_mem 386 (by decide +kernel) rfl, fun _ => tg_mem 387 (by decide +kernel) rfl, fun h => absurd h (by decide)⟩
theorem cl_99 : ClOk (44, 8, 276, 29, 3) := ⟨.inl (tg_mem 523 (by decide +kernel) rfl), tg_mem 368 (by decide +kernel) rfl, tg_mem 21 (by decide +kernel) rfl, by decide +kernel, fun h => absurd h (by decide), fun _ => tg_mem 366 (by decide +kernel) rfl, fun _ => tg_mem 367 (by decide +kernel) rfl, fun h => absurd h (by decide)⟩
theorem cl_100 : ClOk (44, 8, 280, 48, 0) := ⟨.inl (tg_mem 528 (by decide +kernel) rfl), tg_mem 531 (by decide +kernel) rfl, tg_mem 18 (by decide +kernel) rfl, by decide +kernel, fun h => absurd h (by decide), fun _ => tg_mem 529 (by decide +kernel) rfl, fun _ => tg_mem 530 (by decide +kernel) rfl, fun h => absurd h (by decide)⟩
theorem cl_101 : ClOk (44, 8, 283, 8, 1) := ⟨.inl (tg_mem 573 (by decide +kernel) rfl), tg_mem 576 (by decide +kernel) rfl, tg_mem 22 (by decide +kernel) rfl, by decide +kernel, fun h => absurd h (by decide), fun _ => tg_mem 574 (by decide +kernel) rfl, fun _ => tg_mem 575 (by decide +kernel) rfl, fun h => absurd h (by decide)⟩
theorem cl_102 : ClOk (44, 10, 8, 85, 1) := ⟨.inl (tg_mem 462 (by decide +kernel) rfl), tg_mem 465 (by decide +kernel) rfl, tg_mem 16 (by decide +kernel) rfl, by decide +kernel, fun h => absurd h (by decide), fun _ => tg_mem 463 (by decide +kernel) rfl, fun _ => tg_mem 464 (by decide +kernel) rfl, fun h => absurd h (by decide)⟩
theorem cl_103 : ClOk (44, 10, 14, 86, 2) := ⟨.inl (tg_mem 500 (by decide +kernel) rfl), tg_mem 503 (by decide +kernel) rfl, tg_mem 16 (by decide +kernel) rfl, by decide +kernel, fun h => absurd h (by decide), fun _ => tg_mem 501 (by decide +kernel) rfl, fun _ => tg_mem 502 (by decide +kernel) rfl, fun h => absurd h (by decide)⟩
theorem cl_104 : ClOk (44, 10, 18, 90, 2) := ⟨.inl (tg_mem 589 (by decide +kernel) rfl), tg_mem 592 (by decide +kernel) rfl, tg_mem 16 (by decide +kernel) rfl, by decide +kernel, fun h => absurd h (by decide), fun _ => tg_mem 590 (by decide +kernel) rfl, fun _ => tg_mem 591 (by decide +kernel) rfl, fun h => absurd h (by decide)⟩
theorem cl_105 : ClOk (44, 10, 21, 87, 2) := ⟨.inl (tg_mem 602 (by decide +kernel) rfl), tg_mem 605 (by decide +kernel) rfl, tg_mem 16 (by decide +kernel) rfl, by decide +kernel, fun h => absurd h (by decide), fun _ => tg_mem 603 (by decide +kernel) rfl, fun _ => tg_mem 604 (by decide +kernel) rfl, fun h => absurd h (by decide)⟩
theorem cl_106 : ClOk (44, 10, 24, 88, 2) := ⟨.inl (tg_mem 615 (by decide +kernel) rfl), tg_mem 618 (by decide +kernel) rfl, tg_mem 16 (by decide +kernel) rfl, by decide +kernel, fun h => absurd h (by decide), fun _ => tg_mem 616 (by decide +kernel) rfl, fun _ => tg_mem 617 (by decide +kernel) rfl, fun h => absurd h (by decide)⟩
theorem cl_107 : ClOk (44, 10, 27, 92, 2) := ⟨.inl (tg_mem 519 (by decide +kernel) rfl), tg_mem 522 (by decide +kernel) rfl, tg_mem 16 (by decide +kernel) rfl, by decide +kernel, fun h => absurd h (by decide), fun _ => tg_mem 520 (by decide +kernel) rfl, fun _ => tg_mem 521 (by decide +kernel) rfl, fun h => absurd h (by decide)⟩
theorem cl_108 : ClOk (44, 10, 30, 89, 2) := ⟨.inl (tg_mem 623 (by decide +kernel) rfl), tg_mem 626 (by decide +kernel) rfl, tg_mem 16 (by decide +kernel) rfl, by decide +kernel, fun h => absurd h (by decide), fun _ => tg_mem 624 (by decide +kernel) rfl, fun _ => tg_mem 625 (by decide +kernel) rfl, fun h => absurd h (by decide)⟩
theorem cl_109 : ClOk (46, 10, 33, 106, 2) := ⟨.inl (tg_mem 628 (by decide +kernel) rfl), tg_mem 630 (by decide +kernel) rfl, tg_mem 15 (by decide +kernel) rfl, by decide +kernel, fun _ => tg_mem 629 (by decide +kernel) rfl, fun h => absurd rfl h, fun h => absurd h (by decide), fun h => absurd h (by decide)⟩
theorem cl_110 : ClOk (46, 10, 39, 107, 1) := ⟨.inl (tg_mem 631 (by decide +kernel) rfl), tg_mem 633 (by decide +kernel) rfl, tg_mem 15 (by decide +kernel) rfl, by decide +kernel, fun _ => tg_mem 632 (by decide +kernel) rfl, fun h => absurd rfl h, fun h => absurd h (by decide), fun h => absurd h (by decide)⟩
theorem cl_111 : ClOk (44, 10, 43, 91, 1) := ⟨.inl (tg_mem 506 (by decide +kernel) rfl), tg_mem 509 (by decide +kernel) rfl, tg_mem 16 (by decide +kernel) rfl, by decide +kernel, fun h => absurd h (by decide), fun _ => tg_mem 507 (by decide +kernel) rfl, fun _ => tg_mem 508 (by decide +kernel) rfl, fun h => absurd h (by decide)⟩
theorem cl_112 : ClOk (44, 10, 50, 93, 0) := ⟨.inl (tg_mem 524 (by decide +kernel) rfl), tg_mem 527 (by decide +kernel) rfl, tg_mem 16 (by decide +kernel) rfl, by decide +kernel, fun h => absurd h (by decide), fun _ => tg_mem 525 (by decide +kernel) rfl, fun _ => tg_mem 526 (by decide +kernel) rfl, fun h => absurd h (by decide)⟩
theorem cl_113 : ClOk (44, 10, 54, 94, 1) := ⟨.inl (tg_mem 649 (by decide +kernel) rfl), tg_mem 652 (by decide +kernel) rfl, tg_mem 16 (by decide +kernel) rfl, by decide +kernel, fun h => absurd h (by decide), fun _ => tg_mem 650 (by decide +kernel) rfl, fun _ => tg_mem 651 (by decide +kernel) rfl, fun h => absurd h (by decide)⟩
theorem cl_114 : ClOk (44, 10, 57, 75, 0) := ⟨.inl (tg_mem 653 (by decide +kernel) rfl), tg_mem 656 (by decide +kernel) rfl, tg_mem 16 (by decide +kernel) rfl, by decide +kernel, fun h => absurd h (by decide), fun _ => tg_mem 654 (by decide +kernel) rfl, fun _ => tg_mem 655 (by decide +kernel) rfl, fun h => absurd h (by decide)⟩
theorem cl_115 : ClOk (46, 10, 60, 104, 2) := ⟨.inl (tg_mem 642 (by decide +kernel) rfl), tg_mem 644 (by decide +kernel) rfl, tg_mem 15 (by decide +kernel) rfl, by decide +kernel, fun _ => tg_mem 643 (by decide +kernel) rfl, fun h => absurd rfl h, fun h => absurd h (by decide), fun h => absurd h (by decide)⟩
theorem cl_116 : ClOk (44, 10, 63, 74, 3) := ⟨.inl (tg_mem 274 (by decide +kernel) rfl), tg_mem 277 (by decide +kernel) rfl, tg_mem 16 (by decide +kernel) rfl, by decide +kernel, fun h => absurd h (by decide), fun _ => tg_mem 275 (by decide +kernel) rfl, fun _ => tg_mem 276 (by decide +kernel) rfl, fun h => absurd h (by decide)⟩
theorem cl_117 : ClOk (46, 10, 67, 109, 1) := ⟨.inl (tg_mem 646 (by decide +kernel) rfl), tg_mem 648 (by decide +kernel) rfl, tg_mem 15 (by decide +kernel) rfl, by decide +kernel, fun _ => tg_mem 647 (by decide +kernel) rfl, fun h => absurd rfl h, fun h => absurd h (by decide), fun h => absurd h (by decide)⟩
theorem cl_118 : ClOk (44, 10, 70, 76, 3) := ⟨.inl (tg_mem 319 (by decide +kernel) rfl), tg_mem 322 (by decide +kernel) rfl, tg_mem 16 (by decide +kernel) rfl, by decide +kernel, fun h => absurd h (by decide), fun _ => tg_mem 320 (by decide +kernel) rfl, fun _ => tg_mem 321 (by decide +kernel) rfl, fun h => absurd h (by decide)⟩
theorem cl_119 : ClOk (44, 10, 73, 77, 2) := ⟨.inl (tg_mem 331 (by decide +kernel) rfl), tg_mem 334 (by decide +kernel) rfl, tg_mem 16 (by decide +kernel) rfl, by decide +kernel, fun h => absurd h (by decide), fun _ => tg_mem 332 (by decide +kernel) rfl, fun _ => tg_mem 333 (by decide +kernel) rfl, fun h => absurd h (by decide)⟩
theorem cl_120 : ClOk (44, 10, 76, 95, 1) := ⟨.inl (tg_mem 569 (by decide +kernel) rfl), tg_mem 572 (by decide +kernel) rfl, tg_mem 16 (by decide +kernel) rfl, by decide +kernel, fun h => absurd h (by decide), fun _ => tg_mem 570 (by decide +kernel) rfl, fun _ => tg_mem 571 (by decide +kernel) rfl, fun h => absurd h (by decide)⟩
theorem cl_121 : ClOk (44, 10, 79, 78, 2) := ⟨.inl (tg_mem 657 (by decide +kernel) rfl), tg_mem 660 (by decide +kernel) rfl, tg_mem 16 (by decide +kernel) rfl, by decide +kernel, fun h => absurd h (by decide), fun _ => tg_mem 658 (by decide +kernel) rfl, fun _ => tg_mem 659 (by decide +kernel) rfl, fun h => absurd h (by decide)⟩
theorem cl_122 : ClOk (44, 10, 82, 96, 1) := ⟨.inl (tg_mem 661 (by decide +kernel) rfl), tg_mem 664 (by decide +kernel) rfl, tg_mem 16 (by decide +kernel) rfl, by decide +kernel, fun h => absurd h (by decide), fun _ => tg_mem 662 (by decide +kernel) rfl, fun _ => tg_mem 663 (by decide +kernel) rfl, fun h => absurd h (by decide)⟩
theorem cl_123 : ClOk (44, 10, 85, 80, 1) := ⟨.inl (tg_mem 694 (by decide +kernel) rfl), tg_mem 697 (by decide +kernel) rfl, tg_mem 16 (by decide +kernel) rfl, by decide +kernel, fun h => absurd h (by decide), fun _ => tg_mem 695 (by decide +kernel) rfl, fun _ => tg_mem 696 (by decide +kernel) rfl, fun h => absurd h (by decide)⟩
theorem cl_124 : ClOk (44, 10, 88, 79, 1) := ⟨.inl (tg_mem 350 (by decide +kernel) rfl), tg_mem 353 (by decide +kernel) rfl, tg_mem 16 (by decide +kernel) rfl, by decide +kernel, fun h => absurd h (by decide), fun _ => tg_mem 351 (by decide +kernel) rfl, fun _ => tg_mem 352 (by decide +kernel) rfl, fun h => absurd h (by decide)⟩
theorem cl_125 : ClOk (44, 10, 91, 81, 1) := ⟨.inl (tg_mem 406 (by decide +kernel) rfl), tg_mem 409 (by decide +kernel) rfl, tg_mem 16 (by decide +kernel) rfl, by decide +kernel, fun h => absurd h (by decide), fun _ => tg_mem 407 (by decide +kernel) rfl, fun _ => tg_mem 408 (by decide +kernel) rfl, fun h => absurd h (by decide)⟩
theorem cl_126 : ClOk (44, 10, 94, 82, 1) := ⟨.inl (tg_mem 417 (by decide +kernel) rfl), tg_mem 420 (by decide +kernel) rfl, tg_mem 16 (by decide +kernel) rfl, by decide +kernel, fun h => absurd h (by decide), fun _ => tg_mem 418 (by decide +kernel) rfl, fun _ => tg_mem 419 (by decide +kernel) rfl, fun h => absurd h (by decide)⟩
theorem cl_127 : ClOk (45, 10, 97, 73, 0) := ⟨.inl (tg_mem 29 (by decide +kernel) rfl), tg_mem 31 (by decide +kernel) rfl, tg_mem 16 (by decide +kernel) rfl, by decide +kernel, fun h => absurd h (by decide), fun _ => tg_mem 30 (by decide +kernel) rfl, fun h => absurd h (by decide), fun _ => rfl⟩
theorem cl_128 : ClOk (44, 10, 98, 83, 0) := ⟨.inl (tg_mem 422 (by decide +kernel) rfl), tg_mem 425 (by decide +kernel) rfl, tg_mem 16 (by decide +kernel) rfl, by decide +kernel, fun h => absurd h (by decide), fun _ => tg_mem 423 (by decide +kernel) rfl, fun _ => tg_mem 424 (by decide +kernel) rfl, fun h => absurd h (by decide)⟩
theorem cl_129 : ClOk (44, 10, 101, 84, 0) := ⟨.inl (tg_mem 430 (by decide +kernel) rfl), tg_mem 433 (by decide +kernel) rfl, tg_mem 16 (by decide +kernel) rfl, by decide +kernel, fun h => absurd h (by decide), fun _ => tg_mem 431 (by decide +kernel) rfl, fun _ => tg_mem 432 (by decide +kernel) rfl, fun h => absurd h (by decide)⟩
theorem cl_130 : ClOk (46, 10, 104, 108, 1) := ⟨.inl (tg_mem 634 (by decide +kernel) rfl), tg_mem 636 (by decide +kernel) rfl, tg_mem 15 (by decide +kernel) rfl, by decide +kernel, fun _ => tg_mem 635 (by decide +kernel) rfl, fun h => absurd rfl h, fun h => absurd h (by decide), fun h => absurd h (by decide)⟩
theorem cl_131 : ClOk (46, 10, 108, 103, 2) := ⟨.inl (tg_mem 583 (by decide +kernel) rfl), tg_mem 585 (by decide +kernel) rfl, tg_mem 15 (by decide +kernel) rfl, by decide +kernel, fun _ => tg_mem 584 (by decide +kernel) rfl, fun h => absurd rfl h, fun h => absurd h (by decide), fun h => absurd h (by decide)⟩
set_option maxRecDepth 100000 in
theorem cl_132 : ClOk (46, 10, 112, 110, 3) := ⟨.inl (tg_mem 639 (by decide +kernel) rfl), tg_mem 641 rfl rfl, tg_mem 15 (by decide +kernel) rfl, by decide +kernel, fun _ => tg_mem 640 (by decide +kernel) rfl, fun h => absurd rfl h, fun h => absurd h (by decide), fun h => absurd h (by decide)⟩
set_option maxRecDepth 100000 in
theorem cl_133 : ClOk (46, 10, 116, 105, 1) := ⟨.inl (tg_mem 586 (by decide +kernel) rfl), tg_mem 588 rfl rfl, tg_mem 15 (by decide +kernel) rfl, by decide +kernel, fun _ => tg_mem 587 (by decide +kernel) rfl, fun h => absurd rfl h, fun h => absurd h (by decide), fun h => absurd h (by decide)⟩
def clT : List (Nat × Nat × Nat × Nat × Nat) := [(46, 0, 31, 99, 1), (46, 0, 35, 98, 1), (44, 0, 38, 5, 2), (45, 1, 17, 37, 0), (44, 1, 22, 11, 0), (44, 1, 25, 38, 1), (44, 2, 46, 15, 1), (46, 2, 50, 98, 1), (44, 2, 53, 17, 3), (44, 2, 57, 18, 3), (44, 2, 60, 32, 3), (44, 2, 64, 20, 1), (44, 2, 72, 28, 3), (44, 2, 76, 34, 1), (44, 2, 80, 30, 2), (44, 2, 84, 36, 1), (44, 2, 88, 31, 2), (44, 2, 92, 35, 1), (45, 4, 11, 41, 0), (44, 4, 26, 42, 1), (45, 5, 11, 66, 0), (45, 5, 20, 13, 0), (45, 5, 27, 0, 0), (44, 5, 46, 67, 1), (44, 5, 50, 14, 1), (44, 5, 53, 1, 1), (46, 5, 65, 98, 1), (44, 5, 69, 15, 1), (44, 5, 75, 68, 1), (44, 5, 97, 45, 1), (44, 5, 98, 22, 1), (44, 5, 101, 21, 0), (44, 5, 104, 27, 1), (44, 5, 116, 36, 1), (44, 5, 119, 50, 1), (44, 5, 122, 51, 1), (44, 5, 125, 17, 3), (44, 5, 129, 46, 1), (44, 5, 132, 20, 1), (44, 5, 135, 26, 1), (44, 5, 138, 52, 0), (44, 5, 149, 29, 3), (44, 5, 153, 56, 2), (44, 5, 157, 6, 2), (44, 5, 161, 19, 2), (44, 5, 165, 18, 3), (44, 5, 168, 57, 2), (44, 5, 171, 7, 2), (44, 6, 39, 60, 0), (44, 6, 42, 63, 1), (44, 6, 46, 61, 0), (44, 6, 50, 62, 1), (44, 6, 54, 64, 2), (44, 7, 18, 69, 3), (46, 7, 28, 97, 3), (45, 8, 9, 37, 0), (45, 8, 18, 9, 0), (45, 8, 25, 58, 0), (45, 8, 32, 41, 0), (45, 8, 39, 33, 0), (46, 8, 44, 97, 3), (44, 8, 61, 10, 1), (44, 8, 68, 16, 3), (44, 8, 72, 49, 1), (44, 8, 76, 22, 1), (46, 8, 80, 98, 1), (44, 8, 88, 69, 3), (44, 8, 93, 70, 0), (46, 8, 97, 101, 1), (46, 8, 100, 102, 1), (44, 8, 103, 43, 1), (44, 8, 106, 44, 2), (44, 8, 114, 2, 1), (46, 8, 127, 99, 1), (44, 8, 130, 53, 1), (44, 8, 133, 54, 2), (44, 8, 137, 55, 2), (46, 8, 140, 100, 1), (44, 8, 143, 39, 1), (44, 8, 154, 42, 1), (44, 8, 161, 12, 1), (44, 8, 174, 59, 0), (44, 8, 177, 65, 0), (44, 8, 189, 3, 0), (44, 8, 192, 47, 0), (44, 8, 195, 25, 0), (44, 8, 198, 4, 0), (44, 8, 210, 40, 0), (44, 8, 213, 15, 1), (44, 8, 237, 45, 1), (44, 8, 246, 46, 1), (44, 8, 249, 24, 1), (44, 8, 252, 23, 1), (44, 8, 258, 5, 2), (44, 8, 262, 68, 1), (44, 8, 263, 71, 1), (44, 8, 266, 72, 1), (44, 8, 269, 27, 1), (44, 8, 273, 36, 1), (44, 8, 276, 29, 3), (44, 8, 280, 48, 0), (44, 8, 283, 8, 1), (44, 10, 8, 85, 1), (44, 10, 14, 86, 2), (44, 10, 18, 90, 2), (44, 10, 21, 87, 2), (44, 10, 24, 88, 2), (44, 10, 27, 92, 2), (44, 10, 30, 89, 2), (46, 10, 33, 106, 2), (46, 10, 39, 107, 1), (44, 10, 43, 91, 1), (44, 10, 50, 93, 0), (44, 10, 54, 94, 1), (44, 10, 57, 75, 0), (46, 10, 60, 104, 2), (44, 10, 63, 74, 3), (46, 10, 67, 109, 1), (44, 10, 70, 76, 3), (44, 10, 73, 77, 2), (44, 10, 76, 95, 1), (44, 10, 79, 78, 2), (44, 10, 82, 96, 1), (44, 10, 85, 80, 1), (44, 10, 88, 79, 1), (44, 10, 91, 81, 1), (44, 10, 94, 82, 1), (45, 10, 97, 73, 0), (44, 10, 98, 83, 0), (44, 10, 101, 84, 0), (46, 10, 104, 108, 1), (46, 10, 108, 103, 2), (46, 10, 112, 110, 3), (46, 10, 116, 105, 1)]
set_option maxRecDepth 10000 in
theorem clT_ok : ∀ r ∈ clT, ClOk r := List.forall_mem_cons.mpr ⟨cl_0, List.forall_mem_cons.mpr ⟨cl_1, List.forall_mem_cons.mpr ⟨cl_2, List.forall_mem_cons.mpr ⟨cl_3, List.forall_mem_cons.mpr ⟨cl_4, List.forall_mem_cons.mpr ⟨cl_5, List.forall_mem_cons.mpr ⟨cl_6, List.forall_mem_cons.mpr ⟨cl_7, List.forall_mem_cons.mpr ⟨cl_8, List.forall_mem_cons.mpr ⟨cl_9, List.forall_mem_cons.mpr ⟨cl_10, List.forall_mem_cons.mpr ⟨cl_11, List.forall_mem_cons.mpr ⟨cl_12, List.forall_mem_cons.mpr ⟨cl_13, List.forall_mem_cons.mpr ⟨cl_14, List.forall_mem_cons.mpr ⟨cl_15, List.forall_mem_cons.mpr ⟨cl_16, List.forall_mem_cons.mpr ⟨cl_17, List.forall_mem_cons.mpr ⟨cl_18, List.forall_mem_cons.mpr ⟨cl_19, List.forall_mem_cons.mpr ⟨cl_20, List.forall_mem_cons.mpr ⟨cl_21, List.forall_mem_cons.mpr ⟨cl_22, List.forall_mem_cons.mpr ⟨cl_23, List.forall_mem_cons.mpr ⟨cl_24, List.forall_mem_cons.mpr ⟨cl_25, List.forall_mem_cons.mpr ⟨cl_26, List.forall_mem_cons.mpr ⟨cl_27, List.forall_mem_cons.mpr ⟨cl_28, List.forall_mem_cons.mpr ⟨cl_29, List.forall_mem_cons.mpr ⟨cl_30, List.forall_mem_cons.mpr ⟨cl_31, List.forall_mem_cons.mpr ⟨cl_32, List.forall_mem_cons.mpr ⟨cl_33, List.forall_mem_cons.mpr ⟨cl_34, List.forall_mem_cons.mpr ⟨cl_35, List.forall_mem_cons.mpr ⟨cl_36, List.forall_mem_cons.mpr ⟨cl_37, List.forall_mem_cons.mpr ⟨cl_38, List.forall_mem_cons.mpr ⟨cl_39, List.forall_mem_cons.mpr ⟨cl_40, List.forall_mem_cons.mpr ⟨cl_41, List.forall_mem_cons.mpr ⟨cl_42, List.forall_mem_cons.mpr ⟨cl_43, List.forall_mem_cons.mpr ⟨cl_44, List.forall_mem_cons.mpr ⟨cl_45, List.forall_mem_cons.mpr ⟨cl_46, List.forall_mem_cons.mpr ⟨cl_47, List.forall_mem_cons.mpr ⟨cl_48, List.forall_mem_cons.mpr ⟨cl_49, List.forall_mem_cons.mpr ⟨cl_50, List.forall_mem_cons.mpr ⟨cl_51, List.forall_mem_cons.mpr ⟨cl_52, List.forall_mem_cons.mpr ⟨cl_53, List.forall_mem_cons.mpr ⟨cl_54, List.forall_mem_cons.mpr ⟨cl_55, List.forall_mem_cons.mpr ⟨cl_56, List.forall_mem_cons.mpr ⟨cl_57, List.forall_mem_cons.mpr ⟨cl_58, List.forall_mem_cons.mpr ⟨cl_59, List.forall_mem_cons.mpr ⟨cl_60, List.forall_mem_cons.mpr ⟨cl_61, List.forall_mem_cons.mpr ⟨cl_62, List.forall_mem_cons.mpr ⟨cl_63, List.forall_mem_cons.mpr ⟨cl_64, List.forall_mem_cons.mpr ⟨cl_65, List.forall_mem_cons.mpr ⟨cl_66, List.forall_mem_cons.mpr ⟨cl_67, List.forall_mem_cons.mpr ⟨cl_68, List.forall_mem_cons.mpr ⟨cl_69, List.forall_mem_cons.mpr ⟨cl_70, List.forall_mem_cons.mpr ⟨cl_71, List.forall_mem_cons.mpr ⟨cl_72, List.forall_mem_cons.mpr ⟨cl_73, List.forall_mem_cons.mpr ⟨cl_74, List.forall_mem_cons.mpr ⟨cl_75, List.forall_mem_cons.mpr ⟨cl_76, List.forall_mem_cons.mpr ⟨cl_77, List.forall_mem_cons.mpr ⟨cl_78, List.forall_mem_cons.mpr ⟨cl_79, List.forall_mem_cons.mpr ⟨cl_80, List.forall_mem_cons.mpr ⟨cl_81, List.forall_mem_cons.mpr ⟨cl_82, List.forall_mem_cons.mpr ⟨cl_83, List.forall_mem_cons.mpr ⟨cl_84, List.forall_mem_cons.mpr ⟨cl_85, List.forall_mem_cons.mpr ⟨cl_86, List.forall_mem_cons.mpr ⟨cl_87, List.forall_mem_cons.mpr ⟨cl_88, List.forall_mem_cons.mpr ⟨cl_89, List.forall_mem_cons.mpr ⟨cl_90, List.forall_mem_cons.mpr ⟨cl_91, List.forall_mem_cons.mpr ⟨cl_92, List.forall_mem_cons.mpr ⟨cl_93, List.forall_mem_cons.mpr ⟨cl_94, List.forall_mem_cons.mpr ⟨cl_95, List.forall_mem_cons.mpr ⟨cl_96, List.forall_mem_cons.mpr ⟨cl_97, List.forall_mem_cons.mpr ⟨cl_98, List.forall_mem_cons.mpr ⟨cl_99, List.forall_mem_cons.mpr ⟨cl_100, List.forall_mem_cons.mpr ⟨cl_101, List.forall_mem_cons.mpr ⟨cl_102, List.forall_mem_cons.mpr ⟨cl_103, List.forall_mem_cons.mpr ⟨cl_104, List.forall_mem_cons.mpr ⟨cl_105, List.forall_mem_cons.mpr ⟨cl_106, List.forall_mem_cons.mpr ⟨cl_107, List.forall_mem_cons.mpr ⟨cl_108, List.forall_mem_cons.mpr ⟨cl_109, List.forall_mem_cons.mpr ⟨cl_110, List.forall_mem_cons.mpr ⟨cl_111, List.forall_mem_cons.mpr ⟨cl_112, List.forall_mem_cons.mpr ⟨cl_113, List.forall_mem_cons.mpr ⟨cl_114, List.forall_mem_cons.mpr ⟨cl_115, List.forall_mem_cons.mpr ⟨cl_116, List.forall_mem_cons.mpr ⟨cl_117, List.forall_mem_cons.mpr ⟨cl_118, List.forall_mem_cons.mpr ⟨cl_119, List.forall_mem_cons.mpr ⟨cl_120, List.forall_mem_cons.mpr ⟨cl_121, List.forall_mem_cons.mpr ⟨cl_122, List.forall_mem_cons.mpr ⟨cl_123, List.forall_mem_cons.mpr ⟨cl_124, List.forall_mem_cons.mpr ⟨cl_125, List.forall_mem_cons.mpr ⟨cl_126, List.forall_mem_cons.mpr ⟨cl_127, List.forall_mem_cons.mpr ⟨cl_128, List.forall_mem_cons.mpr ⟨cl_129, List.forall_mem_cons.mpr ⟨cl_130, List.forall_mem_cons.mpr ⟨cl_131, List.forall_mem_cons.mpr ⟨cl_132, List.forall_mem_cons.mpr ⟨cl_133, fun _ h => absurd h List.not_mem_nil⟩⟩⟩⟩⟩⟩⟩⟩⟩⟩⟩⟩⟩⟩⟩⟩⟩⟩⟩⟩⟩⟩⟩⟩⟩⟩⟩⟩⟩⟩⟩⟩⟩⟩⟩⟩⟩⟩⟩⟩⟩⟩⟩⟩⟩⟩⟩⟩⟩⟩⟩⟩⟩⟩⟩⟩⟩⟩⟩⟩⟩⟩⟩⟩⟩⟩⟩⟩⟩⟩⟩⟩⟩⟩⟩⟩⟩⟩⟩⟩⟩⟩⟩⟩⟩⟩⟩⟩⟩⟩⟩⟩⟩⟩⟩⟩⟩⟩⟩⟩⟩⟩⟩⟩⟩⟩⟩⟩⟩⟩⟩⟩⟩⟩⟩⟩⟩⟩⟩⟩⟩⟩⟩⟩⟩⟩⟩⟩⟩⟩⟩⟩⟩⟩
/-- links of Object's constructor (51), Math.max (52), Math.min (53), System.arraycopy (54): (kind, own class, place) -/
def MxOk (r : Nat × Nat × Nat) : Prop := (r.1 = 51 → Cond.methodLink (nmC r.2.1) r.2.2 Lib.objectInit ∈ Tg) ∧ (r.1 = 52 → Cond.methodLink (nmC r.2.1) r.2.2 Lib.Math.max.name ∈ Tg) ∧ (r.1 = 53 → Cond.methodLink (nmC r.2.1) r.2.2 Lib.Math.min.name ∈ Tg) ∧ (r.1 = 54 → Cond.methodLink (nmC r.2.1) r.2.2 arraycopyName ∈ Tg)
theorem mx_0 : MxOk (51, 0, 3) := ⟨fun _ => tg_mem 120 (by decide +kernel) rfl, fun h => absurd h (by decide), fun h => absurd h (by decide), fun h => absurd h (by decide)⟩
theorem mx_1 : MxOk (51, 1, 3) := ⟨fun _ => tg_mem 192 (by decide +kernel) rfl, fun h => absurd h (by decide), fun h => absurd h (by decide), fun h => absurd h (by decide)⟩
theorem mx_2 : MxOk (51, 2, 3) := ⟨fun _ => tg_mem 72 (by decide +kernel) rfl, fun h => absurd h (by decide), fun h => absurd h (by decide), fun h => absurd h (by decide)⟩
theorem mx_3 : MxOk (51, 3, 3) := ⟨fun _ => tg_mem 248 (by decide +kernel) rfl, fun h => absurd h (by decide), fun h => absurd h (by decide), fun h => absurd h (by decide)⟩
theorem mx_4 : MxOk (51, 4, 3) := ⟨fun _ => tg_mem 40 (by decide +kernel) rfl, fun h => absurd h (by decide), fun h => absurd h (by decide), fun h => absurd h (by decide)⟩
theorem mx_5 : MxOk (51, 5, 3) := ⟨fun _ => tg_mem 46 (by decide +kernel) rfl, fun h => absurd h (by decide), fun h => absurd h (by decide), fun h => absurd h (by decide)⟩
theorem mx_6 : MxOk (51, 6, 5) := ⟨fun _ => tg_mem 209 (by decide +kernel) rfl, fun h => absurd h (by decide), fun h => absurd h (by decide), fun h => absurd h (by decide)⟩
theorem mx_7 : MxOk (51, 7, 3) := ⟨fun _ => tg_mem 52 (by decide +kernel) rfl, fun h => absurd h (by decide), fun h => absurd h (by decide), fun h => absurd h (by decide)⟩
theorem mx_8 : MxOk (51, 8, 1) := ⟨fun _ => tg_mem 32 (by decide +kernel) rfl, fun h => absurd h (by decide), fun h => absurd h (by decide), fun h => absurd h (by decide)⟩
theorem mx_9 : MxOk (52, 5, 82) := ⟨fun h => absurd h (by decide), fun _ => tg_mem 555 (by decide +kernel) rfl, fun h => absurd h (by decide), fun h => absurd h (by decide)⟩
theorem mx_10 : MxOk (52, 7, 32) := ⟨fun h => absurd h (by decide), fun _ => tg_mem 59 (by decide +kernel) rfl, fun h => absurd h (by decide), fun h => absurd h (by decide)⟩
theorem mx_11 : MxOk (53, 5, 113) := ⟨fun h => absurd h (by decide), fun h => absurd h (by decide), fun _ => tg_mem 397 (by decide +kernel) rfl, fun h => absurd h (by decide)⟩
theorem mx_12 : MxOk (54, 0, 25) := ⟨fun h => absurd h (by decide), fun h => absurd h (by decide), fun h => absurd h (by decide), fun _ => tg_mem 313 (by decide +kernel) rfl⟩
theorem mx_13 : MxOk (54, 2, 36) := ⟨fun h => absurd h (by decide), fun h => absurd h (by decide), fun h => absurd h (by decide), fun _ => tg_mem 308 (by decide +kernel) rfl⟩
theorem mx_14 : MxOk (54, 5, 56) := ⟨fun h => absurd h (by decide), fun h => absurd h (by decide), fun h => absurd h (by decide), fun _ => tg_mem 314 (by decide +kernel) rfl⟩
theorem mx_15 : MxOk (54, 7, 22) := ⟨fun h => absurd h (by decide), fun h => absurd h (by decide), fun h => absurd h (by decide), fun _ => tg_mem 301 (by decide +kernel) rfl⟩
def mxT : List (Nat × Nat × Nat) := [(51, 0, 3), (51, 1, 3), (51, 2, 3), (51, 3, 3), (51, 4, 3), (51, 5, 3), (51, 6, 5), (51, 7, 3), (51, 8, 1), (52, 5, 82), (52, 7, 32), (53, 5, 113), (54, 0, 25), (54, 2, 36), (54, 5, 56), (54, 7, 22)]
theorem mxT_ok : ∀ r ∈ mxT, MxOk r := List.forall_mem_cons.mpr ⟨mx_0, List.forall_mem_cons.mpr ⟨mx_1, List.forall_mem_cons.mpr ⟨mx_2, List.forall_mem_cons.mpr ⟨mx_3, List.forall_mem_cons.mpr ⟨mx_4, List.forall_mem_cons.mpr ⟨mx_5, List.forall_mem_cons.mpr ⟨mx_6, List.forall_mem_cons.mpr ⟨mx_7, List.forall_mem_cons.mpr ⟨mx_8, List.forall_mem_cons.mpr ⟨mx_9, List.forall_mem_cons.mpr ⟨mx_10, List.forall_mem_cons.mpr ⟨mx_11, List.forall_mem_cons.mpr ⟨mx_12, List.forall_mem_cons.mpr ⟨mx_13, List.forall_mem_cons.mpr ⟨mx_14, List.forall_mem_cons.mpr ⟨mx_15, fun _ h => absurd h List.not_mem_nil⟩⟩⟩⟩⟩⟩⟩⟩⟩⟩⟩⟩⟩⟩⟩⟩
theorem oi_inst : Cond.instanceMethod Lib.objectInit ∈ Tg := tg_mem 33 (by decide +kernel) rfl
theorem oi_code : Cond.code Lib.objectInit ⟨#[0xb1]⟩ 1 none ∈ Tg := tg_mem 34 (by decide +kernel) rfl
theorem mx_stat : Cond.static Lib.Math.max.name ∈ Tg := tg_mem 60 (by decide +kernel) rfl
theorem mx_code : Cond.code Lib.Math.max.name Lib.Math.max.code 2 (some .int) ∈ Tg := tg_mem 61 (by decide +kernel) rfl
theorem mn_stat : Cond.static Lib.Math.min.name ∈ Tg := tg_mem 398 (by decide +kernel) rfl
theorem mn_code : Cond.code Lib.Math.min.name Lib.Math.min.code 2 (some .int) ∈ Tg := tg_mem 399 (by decide +kernel) rfl
theorem mt_ini : Cond.initialized "java/lang/Math" ∈ Tg := tg_mem 20 (by decide +kernel) rfl
theorem sy_ini : Cond.initialized "java/lang/System" ∈ Tg := tg_mem 26 (by decide +kernel) rfl
theorem ac_stat : Cond.static arraycopyName ∈ Tg := tg_mem 302 (by decide +kernel) rfl
theorem ac_nat : Cond.native arraycopyName ∈ Tg := tg_mem 303 (by decide +kernel) rfl
end
section
/-! A small machine over the kit's worlds: a method's instructions as a table, one judgement E from a place in it, one rule an instruction. -/
section MA
abbrev OpT : Type := Nat × Nat × Nat × Int32 × Nat × Nat
/-- a value: a number, or a pointer (i, k): part k of object i; (a, 99) the cell a itself, (_, 98) null -/
abbrev V0 : Type := Int32 ⊕ (Nat × Nat)
/-- a method: its number, name, bytes, locals, answer, frames and words below, number of its class, instructions -/
abbrev JT : Type := Nat × MethodName × ByteArray × Nat × Option FieldType × Nat × Nat × Nat × List (Nat × OpT)
def jn (J : JT) : Nat := J.1
def jy (J : JT) : MethodName := J.2.1
def jb (J : JT) : ByteArray := J.2.2.1
def jm (J : JT) : Nat := J.2.2.2.1
def jr (J : JT) : Option FieldType := J.2.2.2.2.1
def jf (J : JT) : Nat := J.2.2.2.2.2.1
def jo (J : JT) : Nat := J.2.2.2.2.2.2.1
def jc (J : JT) : Nat := J.2.2.2.2.2.2.2.1
def jt (J : JT) : List (Nat × OpT) := J.2.2.2.2.2.2.2.2
def lk : List (Nat × OpT) → Nat → OpT
  | [], _ => (0, 0, 0, 0, 0, 0)
  | q :: t, pc => bif Nat.beq q.1 pc then q.2 else lk t pc
def okD (b : ByteArray) (pc nx : Nat) (i : Instr) (n : Nat) : Bool := decide (decode b pc = .ok (i, n)) && decide (nx = pc + n)
def okB (b : ByteArray) (pc nx : Nat) (tg : Nat) (i : Int → Instr) : Bool := decide (decode b pc = .ok (i ((tg : Int) - (pc : Int)), 3)) && decide (nx = pc + 3)
def okOp (cn mL : Nat) (b : ByteArray) (pc : Nat) (q : OpT) : Bool := match q with
  | (1, _, _, v, nx, _) => okD b pc nx (.iconst v.toInt) 1 || (okD b pc nx (.bipush v.toInt) 2 && decide ((Int8.ofInt v.toInt).toInt32 = v)) || (okD b pc nx (.sipush v.toInt) 3 && decide ((Int16.ofInt v.toInt).toInt32 = v))
  | (2, a, _, _, nx, _) => okD b pc nx (.iload a) 2 || (decide (a < 4) && okD b pc nx (.iload_n (Fin.ofNat 4 a)) 1)
  | (3, a, _, _, nx, _) => okD b pc nx (.aload a) 2 || (decide (a < 4) && okD b pc nx (.aload_n (Fin.ofNat 4 a)) 1)
  | (4, a, _, _, nx, _) => decide (a < mL) && (okD b pc nx (.istore a) 2 || (decide (a < 4) && okD b pc nx (.istore_n (Fin.ofNat 4 a)) 1))
  | (5, a, _, _, nx, _) => decide (a < mL) && (okD b pc nx (.astore a) 2 || (decide (a < 4) && okD b pc nx (.astore_n (Fin.ofNat 4 a)) 1))
  | (6, _, _, _, nx, _) => okD b pc nx .iadd 1
  | (7, _, _, _, nx, _) => okD b pc nx .isub 1
  | (8, _, _, _, nx, _) => okD b pc nx .imul 1
  | (9, _, _, _, nx, _) => okD b pc nx .idiv 1
  | (10, _, _, _, nx, _) => okD b pc nx .iand 1
  | (11, _, _, _, nx, _) => okD b pc nx .i2c 1
  | (12, a, _, v, nx, _) => decide (a < mL) && okD b pc nx (.iinc a v.toInt) 3
  | (13, _, _, _, nx, _) => decide (decode b pc = .ok (.goto ((nx : Int) - (pc : Int)), 3))
  | (14, _, _, _, nx, tg) => okB b pc nx tg (.ifCond .eq)
  | (15, _, _, _, nx, tg) => okB b pc nx tg (.ifCond .ne)
  | (16, _, _, _, nx, tg) => okB b pc nx tg (.ifCond .lt)
  | (17, _, _, _, nx, tg) => okB b pc nx tg (.ifCond .ge)
  | (18, _, _, _, nx, tg) => okB b pc nx tg (.ifCond .gt)
  | (19, _, _, _, nx, tg) => okB b pc nx tg (.ifCond .le)
  | (20, _, _, _, nx, tg) => okB b pc nx tg (.if_icmp .eq)
  | (21, _, _, _, nx, tg) => okB b pc nx tg (.if_icmp .ne)
  | (22, _, _, _, nx, tg) => okB b pc nx tg (.if_icmp .lt)
  | (23, _, _, _, nx, tg) => okB b pc nx tg (.if_icmp .ge)
  | (24, _, _, _, nx, tg) => okB b pc nx tg (.if_icmp .gt)
  | (25, _, _, _, nx, tg) => okB b pc nx tg (.if_icmp .le)
  | (26, _, _, _, nx, _) => okD b pc nx .dup 1
  | (27, _, _, _, nx, _) => okD b pc nx .dup2 1
  | (28, _, _, _, nx, _) => okD b pc nx .pop 1
  | (29, _, _, _, nx, _) => okD b pc nx .irem 1
  | (55, _, _, _, nx, _) => okD b pc nx .ishr 1
  | (56, _, _, v, nx, idx) => okD b pc nx (.ldc idx) 2 && decide ((cn, idx, v) ∈ ([(10, 7, 2147483647)] : List (Nat × Nat × Int32)))
  | (30, a, t, _, nx, idx) => okD b pc nx (.getfield idx) 3 && decide ((cn, idx, t, a) ∈ flT)
  | (31, a, t, _, nx, idx) => okD b pc nx (.putfield idx) 3 && decide ((cn, idx, t, a) ∈ flT)
  | (32, _, _, _, nx, _) => okD b pc nx .iaload 1
  | (33, _, _, _, nx, _) => okD b pc nx .baload 1
  | (34, _, _, _, nx, _) => okD b pc nx .caload 1
  | (35, _, _, _, nx, _) => okD b pc nx .aaload 1
  | (36, _, _, _, nx, _) => okD b pc nx .iastore 1
  | (37, _, _, _, nx, _) => okD b pc nx .bastore 1
  | (38, _, _, _, nx, _) => okD b pc nx .castore 1
  | (39, _, _, _, nx, _) => okD b pc nx .aastore 1
  | (40, _, _, _, nx, _) => okD b pc nx .arraylength 1
  | (41, _, _, _, _, _) => decide (decode b pc = .ok (.ireturn, 1))
  | (42, _, _, _, _, _) => decide (decode b pc = .ok (.return_, 1))
  | (44, n, j, _, nx, idx) => okD b pc nx (.invokevirtual idx) 3 && decide ((44, cn, idx, j, n) ∈ clT)
  | (45, n, j, _, nx, idx) => okD b pc nx (.invokespecial idx) 3 && decide ((45, cn, idx, j, n) ∈ clT)
  | (46, n, j, _, nx, idx) => okD b pc nx (.invokestatic idx) 3 && decide ((46, cn, idx, j, n) ∈ clT)
  | (51, _, _, _, nx, idx) => okD b pc nx (.invokespecial idx) 3 && decide ((51, cn, idx) ∈ mxT)
  | (52, _, _, _, nx, idx) => okD b pc nx (.invokestatic idx) 3 && decide ((52, cn, idx) ∈ mxT)
  | (53, _, _, _, nx, idx) => okD b pc nx (.invokestatic idx) 3 && decide ((53, cn, idx) ∈ mxT)
  | (54, _, _, _, nx, idx) => okD b pc nx (.invokestatic idx) 3 && decide ((54, cn, idx) ∈ mxT)
  | _ => true
/-- the table says what the bytes say, and the method is the one of its number -/
def e_T (J : JT) : Prop := (jt J).all (fun q => okOp (jc J) (jm J) (jb J) q.1 q.2) = true ∧ (nmC (jc J) = (jy J).cls) ∧ mN (jn J) = (jy J, jb J, jm J, jr J) ∧ plainName (jy J).cls = true
theorem lk_ok {P : Nat → OpT → Bool} : ∀ (l : List (Nat × OpT)) (pc : Nat) (q : OpT), l.all (fun q => P q.1 q.2) = true → lk l pc = q → q.1 ≠ 0 → P pc q = true
  | [], pc, q, _, h, h0 => by
    subst h
    exact absurd rfl h0
  | x :: t, pc, q, ha, h, h0 => by
    simp only [List.all_cons, Bool.and_eq_true] at ha
    by_cases hx : x.1 = pc
    · have : lk (x :: t) pc = x.2 := by simp [lk, hx]
      rw [this] at h
      subst h
      rw [← hx]
      exact ha.1
    · have : lk (x :: t) pc = lk t pc := by
        have hb : Nat.beq x.1 pc = false := by
          cases hbq : Nat.beq x.1 pc with
          | false => rfl
          | true => exact absurd (Nat.eq_of_beq_eq_true hbq) hx
        simp [lk, hb]
      rw [this] at h
      exact lk_ok t pc q ha.2 h h0
theorem e_op {J : JT} (hT : e_T J) {pc o a b : Nat} {v : Int32} {nx tg : Nat} (h : lk (jt J) pc = (o, a, b, v, nx, tg)) (h0 : o ≠ 0) : okOp (jc J) (jm J) (jb J) pc (o, a, b, v, nx, tg) = true := lk_ok (P := fun x y => okOp (jc J) (jm J) (jb J) x y) _ _ _ hT.1 h h0
theorem okD_d {b : ByteArray} {pc nx : Nat} {i : Instr} {n : Nat} (h : okD b pc nx i n = true) : decode b pc = .ok (i, n) ∧ nx = pc + n := by
  simp only [okD, Bool.and_eq_true, decide_eq_true_eq] at h
  exact h
theorem okB_d {b : ByteArray} {pc nx tg : Nat} {i : Int → Instr} (h : okB b pc nx tg i = true) : decode b pc = .ok (i ((tg : Int) - (pc : Int)), 3) ∧ nx = pc + 3 := by
  simp only [okB, Bool.and_eq_true, decide_eq_true_eq] at h
  exact h
/-- the launch, the places of classes and fields, the classes of arrays, the first cell that may change, the addresses of parts, further cells beside the world -/
abbrev EE : Type := Launch × va_G × (Nat → ClassId) × Nat × (Nat → Nat → Nat) × va_W
def e_tys (ε : EE) : List (ClassId × FieldType) := [(ε.2.2.1 0, .int), (ε.2.2.1 1, .boolean), (ε.2.2.1 2, .char), (ε.2.2.1 3, .object RX5), (ε.2.2.1 4, .object RX4)]
def e_A (ε : EE) : Nat → Prop := fun q => ε.2.2.2.1 ≤ q
def e_vm (ε : EE) (v : V0) : Value := match v with
  | .inl x => .int x
  | .inr (i, k) => bif Nat.beq k 98 then .null else bif Nat.beq k 99 then .ref i else .ref (ε.2.2.2.2.1 i k)
theorem e_vm_cat (ε : EE) (v : V0) : (e_vm ε v).category = 1 := by
  rcases v with x | ⟨i, k⟩
  · rfl
  · simp only [e_vm]
    cases Nat.beq k 98 <;> cases Nat.beq k 99 <;> rfl
def e_ws (J : JT) : List Cond := Cond.code (jy J) (jb J) (jm J) (jr J) :: Tg
def e_rm (J : JT) (mc ms : Nat) : Room := { frames := jf J, cells := mc, slots := ms, locals := jo J }
/-- what holds of the classes at a state -/
def e_K (ε : EE) (U : State) : Prop := va_K ε.2.1 vwCl (e_tys ε) U ∧ ∀ w ∈ Nw, va_Nw w U
def e_W (ε : EE) (ws : va_W) (U : State) : Prop := va_P ε.2.1 vwCl ws U.heap ∧ va_D (e_A ε) ws
def e_Pc (ε : EE) (As : List V0) (ws : va_W) : Array Value → State → Prop := va_Pc (As.map (e_vm ε)) (fun U => ε.2.2.2.1 ≤ U.heap.size ∧ e_K ε U ∧ e_W ε ws U)
def e_Qc (ε : EE) (J : JT) (Q : Option Int32 → va_W → Prop) : Array Value → State → Outcome → State → Prop := match jr J with
  | none => va_Qv (Q none) (fun u t => e_W ε u t) (e_A ε)
  | some _ => va_Qi (fun r u => Q (some r) u) (fun u t => e_W ε u t) (e_A ε)
/-- a method's contract: from a world, with arguments, at most mc cells of ms slots more -/
def e_Ct (ε : EE) (J : JT) (mc ms : Nat) (As : List V0) (ws : va_W) (Q : Option Int32 → va_W → Prop) : Prop := Met ε.1 (jy J) (e_ws J) (e_rm J mc ms) (e_Pc ε As ws) (e_Qc ε J Q) mc ms (e_A ε)
def e_ll (ε : EE) : Nat → List (Option V0) → List (Nat × Value)
  | _, [] => []
  | k, none :: t => e_ll ε (k + 1) t
  | k, some v :: t => (k, e_vm ε v) :: e_ll ε (k + 1) t
theorem e_ll_mem (ε : EE) : ∀ (ls : List (Option V0)) (k : Nat) (q : Nat × Value), q ∈ e_ll ε k ls ↔ ∃ (j : Nat) (v : V0), q.1 = k + j ∧ ls[j]? = some (some v) ∧ q.2 = e_vm ε v
  | [], k, q => by simp [e_ll]
  | none :: t, k, q => by
    rw [e_ll, e_ll_mem ε t (k + 1) q]
    constructor
    · rintro ⟨j, v, h1, h2, h3⟩
      exact ⟨j + 1, v, by omega, by simpa using h2, h3⟩
    · rintro ⟨j, v, h1, h2, h3⟩
      cases j with
      | zero => simp at h2
      | succ j => exact ⟨j, v, by omega, by simpa using h2, h3⟩
  | some w :: t, k, q => by
    rw [e_ll, List.mem_cons, e_ll_mem ε t (k + 1) q]
    constructor
    · rintro (h | ⟨j, v, h1, h2, h3⟩)
      · exact ⟨0, w, by rw [h]; rfl, by simp, by rw [h]⟩
      · exact ⟨j + 1, v, by omega, by simpa using h2, h3⟩
    · rintro ⟨j, v, h1, h2, h3⟩
      cases j with
      | zero =>
        simp at h2
        subst h2
        exact Or.inl (by rcases q with ⟨a, b⟩; simp only [] at h1 h3; rw [h1, h3]; rfl)
      | succ j => exact Or.inr ⟨j, v, by omega, by simpa using h2, h3⟩
def e_L (ε : EE) (J : JT) (ls : List (Option V0)) (lsA : Array Slot) : Prop := lv_has lsA (jm J) (e_ll ε 0 ls)
/-- what holds all through a method's body -/
def e_C (ε : EE) (J : JT) (mc ms : Nat) (p : Program) (R : Room) (s : State) (m : MethodId) (args : Array Value) (meth : Method) (c : Code) : Prop :=
  p.tables.exec = Jvm.exec ∧ c.code = jb J ∧ meth.sig.returnType = jr J ∧ c.maxLocals = jm J ∧ s.vm.findClass (jy J).cls = some m.cls ∧ (∀ w ∈ Tg, w.before args s = true) ∧ meth.locks = false ∧ e_K ε s ∧ ε.2.2.2.1 ≤ s.heap.size ∧ R = e_rm J mc ms ∧ meth.name = (jy J).name
def E (ε : EE) (J : JT) (mc ms cells slots pc : Nat) (ls : List (Option V0)) (st : List V0) (ws : va_W) (Q : Option Int32 → va_W → Prop) : Prop :=
  e_T J → ∀ (p : Program) (e : Env) (R : Room) (s : State) (m : MethodId) (args : Array Value) (below : List Frame) (meth : Method) (c : Code) (H : Heap) (locs : List Loc) (lsA : Array Slot),
    e_C ε J mc ms p R s m args meth c → va_P ε.2.1 vwCl ws H → va_D (e_A ε) ws → va_S (e_A ε) s.heap H locs → e_L ε J ls lsA →
    W p ε.1 e R s m args below meth c H locs cells slots (MQ below (e_Qc ε J Q) args s mc ms (e_A ε)) (F0 m pc lsA (st.map (e_vm ε)))
end MA
end
section
/-! The rules of E. -/
section MB
variable {ε : EE} {J : JT} {mc ms cells slots pc : Nat} {ls : List (Option V0)} {st : List V0} {ws : va_W} {Q : Option Int32 → va_W → Prop}
theorem e_load {lsA : Array Slot} (hl : e_L ε J ls lsA) {a : Nat} {v : V0} (h : ls[a]? = some (some v)) : lsA[a]? = some (.val (e_vm ε v)) :=
  hl.2.2 (a, e_vm ε v) ((e_ll_mem ε ls 0 _).2 ⟨a, v, by simp, h, rfl⟩)
theorem e_store {lsA : Array Slot} {a : Nat} {v : V0} (h : lv_has lsA (jm J) ((a, e_vm ε v) :: (e_ll ε 0 ls).filter (fun q => !(q.1 == a) && !(q.1 + 1 == a && q.2.category == 2)))) : e_L ε J (ls.set a (some v)) lsA := by
  refine ⟨h.1, h.2.1, fun q hq => ?_⟩
  obtain ⟨j, w, h1, h2, h3⟩ := (e_ll_mem ε _ 0 q).1 hq
  rw [Nat.zero_add] at h1
  refine h.2.2 q ?_
  by_cases hj : a = j
  · subst hj
    have hlt : a < ls.length := by
      rcases Nat.lt_or_ge a ls.length with z | z
      · exact z
      · rw [List.getElem?_eq_none (by simpa using z)] at h2
        cases h2
    rw [List.getElem?_set_self hlt] at h2
    cases h2
    exact List.mem_cons.2 (Or.inl (by rcases q with ⟨x, y⟩; simp only [] at h1 h3; rw [h1, h3]))
  · rw [List.getElem?_set_ne hj] at h2
    refine List.mem_cons.2 (Or.inr (List.mem_filter.2 ⟨(e_ll_mem ε ls 0 q).2 ⟨j, w, by omega, h2, h3⟩, ?_⟩))
    have h5 : (q.1 == a) = false := by
      rw [h1]
      simpa using fun z => hj z.symm
    have h6 : (q.2.category == 2) = false := by
      rw [h3, e_vm_cat]
      rfl
    simp [h5, h6]
theorem e_ptr {i k : Nat} (h : Nat.beq k 98 = false) : ∃ a, e_vm ε (.inr (i, k)) = .ref a := by
  cases h9 : Nat.beq k 99 with
  | true => exact ⟨i, by simp [e_vm, h, h9]⟩
  | false => exact ⟨ε.2.2.2.2.1 i k, by simp [e_vm, h, h9]⟩
theorem e_fin {a : Nat} (h : a < 4) : ((Fin.ofNat 4 a : Fin 4) : Nat) = a := by
  show a % 4 = a
  omega
theorem e_ofInt (v : Int32) : Int32.ofInt v.toInt = v := by simp
/-- the instructions that touch neither the heap nor another method -/
def stp (o a : Nat) (v : Int32) (ls : List (Option V0)) (st : List V0) : Option (List (Option V0) × List V0) := match o with
  | 1 => some (ls, .inl v :: st)
  | 2 => match ls[a]? with
    | some (some (.inl x)) => some (ls, .inl x :: st)
    | _ => none
  | 3 => match ls[a]? with
    | some (some (.inr (i, k))) => bif Nat.beq k 98 then none else some (ls, .inr (i, k) :: st)
    | _ => none
  | 4 => match st with
    | .inl x :: t => some (ls.set a (some (.inl x)), t)
    | _ => none
  | 5 => match st with
    | .inr (i, k) :: t => bif Nat.beq k 98 then none else some (ls.set a (some (.inr (i, k))), t)
    | _ => none
  | 6 => match st with
    | .inl y :: .inl x :: t => some (ls, .inl (x + y) :: t)
    | _ => none
  | 7 => match st with
    | .inl y :: .inl x :: t => some (ls, .inl (x - y) :: t)
    | _ => none
  | 8 => match st with
    | .inl y :: .inl x :: t => some (ls, .inl (x * y) :: t)
    | _ => none
  | 10 => match st with
    | .inl y :: .inl x :: t => some (ls, .inl (x &&& y) :: t)
    | _ => none
  | 11 => match st with
    | .inl x :: t => some (ls, .inl ((x.toUInt32 % 65536).toInt32) :: t)
    | _ => none
  | 12 => match ls[a]? with
    | some (some (.inl x)) => some (ls.set a (some (.inl (x + v))), st)
    | _ => none
  | 13 => some (ls, st)
  | 26 => match st with
    | x :: t => some (ls, x :: x :: t)
    | _ => none
  | 27 => match st with
    | y :: x :: t => some (ls, y :: x :: y :: x :: t)
    | _ => none
  | 28 => match st with
    | _ :: t => some (ls, t)
    | _ => none
  | 55 => match st with
    | .inl y :: .inl x :: t => some (ls, .inl (x >>> (y &&& 31)) :: t)
    | _ => none
  | _ => none
set_option maxHeartbeats 4000000 in
theorem e_step {o a b nx tg : Nat} {v : Int32} {ls' : List (Option V0)} {st' : List V0} (h : lk (jt J) pc = (o, a, b, v, nx, tg)) (hs : stp o a v ls st = some (ls', st')) (k : E ε J mc ms cells slots nx ls' st' ws Q) : E ε J mc ms cells slots pc ls st ws Q := by
  intro hT p e R s m args below meth c H locs lsA C hP hD hS hl
  have h0 : o ≠ 0 := by
    intro z
    subst z
    cases hs
  have hok := e_op hT h h0
  have K := fun (lsB : Array Slot) (hl : e_L ε J ls' lsB) => k hT p e R s m args below meth c H locs lsB C hP hD hS hl
  obtain ⟨hx, hb, -⟩ := C
  unfold stp at hs
  split at hs
  · cases hs
    simp only [okOp, Bool.or_eq_true, Bool.and_eq_true, decide_eq_true_eq] at hok
    rcases hok with (hok | ⟨hok, hv⟩) | ⟨hok, hv⟩
    · obtain ⟨hd, rfl⟩ := okD_d hok
      exact lv_iconst hx hb hd (e_ofInt _) (K lsA hl)
    · obtain ⟨hd, rfl⟩ := okD_d hok
      exact lv_bipush hx hb hd hv (K lsA hl)
    · obtain ⟨hd, rfl⟩ := okD_d hok
      exact lv_sipush hx hb hd hv (K lsA hl)
  · split at hs
    · rename_i x hg
      cases hs
      simp only [okOp, Bool.or_eq_true, Bool.and_eq_true, decide_eq_true_eq] at hok
      rcases hok with hok | ⟨h4, hok⟩
      · obtain ⟨hd, rfl⟩ := okD_d hok
        exact lv_iload hx hb hd (e_load hl hg) (K lsA hl)
      · obtain ⟨hd, rfl⟩ := okD_d hok
        exact lv_iload_n hx hb hd (e_fin h4) (e_load hl hg) (K lsA hl)
    · cases hs
  · split at hs
    · rename_i i k1 hg
      cases hb98 : Nat.beq k1 98 with
      | true => rw [hb98] at hs; cases hs
      | false =>
        rw [hb98] at hs
        cases hs
        obtain ⟨ar, har⟩ := e_ptr (ε := ε) (i := i) hb98
        have hg2 := e_load hl hg
        rw [har] at hg2
        simp only [okOp, Bool.or_eq_true, Bool.and_eq_true, decide_eq_true_eq] at hok
        rcases hok with hok | ⟨h4, hok⟩
        · obtain ⟨hd, rfl⟩ := okD_d hok
          refine lv_aload hx hb hd hg2 ?_
          have KK := K lsA hl
          rw [List.map_cons, har] at KK
          exact KK
        · obtain ⟨hd, rfl⟩ := okD_d hok
          refine lv_aload_n hx hb hd (e_fin h4) hg2 ?_
          have KK := K lsA hl
          rw [List.map_cons, har] at KK
          exact KK
    · cases hs
  · split at hs
    · cases hs
      simp only [okOp, Bool.or_eq_true, Bool.and_eq_true, decide_eq_true_eq] at hok
      obtain ⟨hm, hok | ⟨h4, hok⟩⟩ := hok
      · obtain ⟨hd, rfl⟩ := okD_d hok
        exact lv_istore hx hb hd hl hm rfl (fun lsB hB => K lsB (e_store hB))
      · obtain ⟨hd, rfl⟩ := okD_d hok
        exact lv_istore_n hx hb hd (e_fin h4) hl hm rfl (fun lsB hB => K lsB (e_store hB))
    · cases hs
  · split at hs
    · rename_i i k1 t
      cases hb98 : Nat.beq k1 98 with
      | true => rw [hb98] at hs; cases hs
      | false =>
        rw [hb98] at hs
        cases hs
        obtain ⟨ar, har⟩ := e_ptr (ε := ε) (i := i) hb98
        simp only [okOp, Bool.or_eq_true, Bool.and_eq_true, decide_eq_true_eq] at hok
        obtain ⟨hm, hok⟩ := hok
        rw [List.map_cons, har]
        rcases hok with hok | ⟨h4, hok⟩
        · obtain ⟨hd, rfl⟩ := okD_d hok
          exact lv_astore hx hb hd hl hm rfl (fun lsB hB => K lsB (e_store (by rw [har]; exact hB)))
        · obtain ⟨hd, rfl⟩ := okD_d hok
          exact lv_astore_n hx hb hd (e_fin h4) hl hm rfl (fun lsB hB => K lsB (e_store (by rw [har]; exact hB)))
    · cases hs
  · split at hs
    · cases hs
      obtain ⟨hd, rfl⟩ := okD_d hok
      exact lv_iadd hx hb hd (K lsA hl)
    · cases hs
  · split at hs
    · cases hs
      obtain ⟨hd, rfl⟩ := okD_d hok
      exact lv_isub hx hb hd (K lsA hl)
    · cases hs
  · split at hs
    · cases hs
      obtain ⟨hd, rfl⟩ := okD_d hok
      exact lv_imul hx hb hd (K lsA hl)
    · cases hs
  · split at hs
    · cases hs
      obtain ⟨hd, rfl⟩ := okD_d hok
      exact lv_iand hx hb hd (K lsA hl)
    · cases hs
  · split at hs
    · cases hs
      obtain ⟨hd, rfl⟩ := okD_d hok
      exact lv_i2c hx hb hd rfl (K lsA hl)
    · cases hs
  · split at hs
    · rename_i x hg
      cases hs
      simp only [okOp, Bool.and_eq_true, decide_eq_true_eq] at hok
      obtain ⟨hm, hok⟩ := hok
      obtain ⟨hd, rfl⟩ := okD_d hok
      obtain ⟨j9, hj9⟩ := List.getElem?_of_mem ((e_ll_mem ε ls 0 (a, .int x)).2 ⟨a, .inl x, by simp, hg, rfl⟩)
      exact lv_iinc hx hb hd hl hj9 (by rw [e_ofInt]) hm rfl (fun lsB hB => K lsB (e_store hB))
    · cases hs
  · cases hs
    simp only [okOp, decide_eq_true_eq] at hok
    exact lv_goto hx hb hok (by omega) (K lsA hl)
  · split at hs
    · cases hs
      obtain ⟨hd, rfl⟩ := okD_d hok
      exact lv_dup hx hb hd (e_vm_cat ε _) (K lsA hl)
    · cases hs
  · split at hs
    · cases hs
      obtain ⟨hd, rfl⟩ := okD_d hok
      exact lv_dup2_11 hx hb hd (e_vm_cat ε _) (e_vm_cat ε _) (K lsA hl)
    · cases hs
  · split at hs
    · cases hs
      obtain ⟨hd, rfl⟩ := okD_d hok
      exact lv_pop hx hb hd (e_vm_cat ε _) (K lsA hl)
    · cases hs
  · split at hs
    · cases hs
      obtain ⟨hd, rfl⟩ := okD_d hok
      exact lv_ishr hx hb hd (K lsA hl)
    · cases hs
  · cases hs
theorem e_div {a b nx tg : Nat} {v x y : Int32} {t : List V0} (h : lk (jt J) pc = (9, a, b, v, nx, tg)) (hy : ¬ y = 0) (k : E ε J mc ms cells slots nx ls (.inl (x / y) :: t) ws Q) : E ε J mc ms cells slots pc ls (.inl y :: .inl x :: t) ws Q := by
  intro hT p e R s m args below meth c H locs lsA C hP hD hS hl
  have hok := e_op hT h (by decide)
  have K := k hT p e R s m args below meth c H locs lsA C hP hD hS hl
  obtain ⟨hx, hb, -⟩ := C
  obtain ⟨hd, rfl⟩ := okD_d hok
  exact lv_idiv hx hb hd hy K
theorem e_rem {a b nx tg : Nat} {v x y : Int32} {t : List V0} (h : lk (jt J) pc = (29, a, b, v, nx, tg)) (hy : ¬ y = 0) (k : E ε J mc ms cells slots nx ls (.inl (x - x / y * y) :: t) ws Q) : E ε J mc ms cells slots pc ls (.inl y :: .inl x :: t) ws Q := by
  intro hT p e R s m args below meth c H locs lsA C hP hD hS hl
  have hok := e_op hT h (by decide)
  have K := k hT p e R s m args below meth c H locs lsA C hP hD hS hl
  obtain ⟨hx, hb, -⟩ := C
  obtain ⟨hd, rfl⟩ := okD_d hok
  exact lv_irem hx hb hd hy K
theorem e_ldc {a b nx tg : Nat} {v : Int32} (h : lk (jt J) pc = (56, a, b, v, nx, tg)) (hw : ∀ q ∈ ([(10, 7, 2147483647)] : List (Nat × Nat × Int32)), Cond.constant (nmC q.1) q.2.1 q.2.2 ∈ Tg) (k : E ε J mc ms cells slots nx ls (.inl v :: st) ws Q) : E ε J mc ms cells slots pc ls st ws Q := by
  intro hT p e R s m args below meth c H locs lsA C hP hD hS hl
  have hok := e_op hT h (by decide)
  have K := k hT p e R s m args below meth c H locs lsA C hP hD hS hl
  obtain ⟨hx, hb, -, -, hown, hts, -⟩ := C
  simp only [okOp, Bool.and_eq_true, decide_eq_true_eq] at hok
  obtain ⟨hok, hmem⟩ := hok
  obtain ⟨hd, rfl⟩ := okD_d hok
  exact lv_ldc hx hb (own := nmC (jc J)) (by rw [hT.2.1]; exact hown) (hts _ (hw _ hmem)) hd K
/-- branches: on one number against 0, on two numbers -/
def cnd (o : Nat) (st : List V0) : Option (Prop × List V0) := match o with
  | 14 => match st with
    | .inl x :: t => some (x = 0, t)
    | _ => none
  | 15 => match st with
    | .inl x :: t => some (¬ x = 0, t)
    | _ => none
  | 16 => match st with
    | .inl x :: t => some (x < 0, t)
    | _ => none
  | 17 => match st with
    | .inl x :: t => some (0 ≤ x, t)
    | _ => none
  | 18 => match st with
    | .inl x :: t => some (0 < x, t)
    | _ => none
  | 19 => match st with
    | .inl x :: t => some (x ≤ 0, t)
    | _ => none
  | 20 => match st with
    | .inl y :: .inl x :: t => some (x = y, t)
    | _ => none
  | 21 => match st with
    | .inl y :: .inl x :: t => some (¬ x = y, t)
    | _ => none
  | 22 => match st with
    | .inl y :: .inl x :: t => some (x < y, t)
    | _ => none
  | 23 => match st with
    | .inl y :: .inl x :: t => some (y ≤ x, t)
    | _ => none
  | 24 => match st with
    | .inl y :: .inl x :: t => some (y < x, t)
    | _ => none
  | 25 => match st with
    | .inl y :: .inl x :: t => some (x ≤ y, t)
    | _ => none
  | _ => none
set_option maxHeartbeats 4000000 in
theorem e_if {o a b nx tg : Nat} {v : Int32} {P : Prop} {st' : List V0} (h : lk (jt J) pc = (o, a, b, v, nx, tg)) (hs : cnd o st = some (P, st')) (kt : P → E ε J mc ms cells slots tg ls st' ws Q) (kf : ¬ P → E ε J mc ms cells slots nx ls st' ws Q) : E ε J mc ms cells slots pc ls st ws Q := by
  intro hT p e R s m args below meth c H locs lsA C hP hD hS hl
  have h0 : o ≠ 0 := by
    intro z
    subst z
    cases hs
  have hok := e_op hT h h0
  have KT := fun z => kt z hT p e R s m args below meth c H locs lsA C hP hD hS hl
  have KF := fun z => kf z hT p e R s m args below meth c H locs lsA C hP hD hS hl
  obtain ⟨hx, hb, -⟩ := C
  have ht : (pc : Int) + ((tg : Int) - (pc : Int)) = (tg : Int) := by omega
  unfold cnd at hs
  split at hs
  · split at hs
    · cases hs
      obtain ⟨hd, rfl⟩ := okB_d hok
      exact lv_if_eq hx hb hd ht KT KF
    · cases hs
  · split at hs
    · cases hs
      obtain ⟨hd, rfl⟩ := okB_d hok
      exact lv_if_ne hx hb hd ht KT (fun z => KF (fun w => w z))
    · cases hs
  · split at hs
    · cases hs
      obtain ⟨hd, rfl⟩ := okB_d hok
      exact lv_if_lt hx hb hd ht KT KF
    · cases hs
  · split at hs
    · cases hs
      obtain ⟨hd, rfl⟩ := okB_d hok
      exact lv_if_ge hx hb hd ht KT KF
    · cases hs
  · split at hs
    · cases hs
      obtain ⟨hd, rfl⟩ := okB_d hok
      exact lv_if_gt hx hb hd ht KT KF
    · cases hs
  · split at hs
    · cases hs
      obtain ⟨hd, rfl⟩ := okB_d hok
      exact lv_if_le hx hb hd ht KT KF
    · cases hs
  · split at hs
    · cases hs
      obtain ⟨hd, rfl⟩ := okB_d hok
      exact lv_icmp_eq hx hb hd ht KT KF
    · cases hs
  · split at hs
    · cases hs
      obtain ⟨hd, rfl⟩ := okB_d hok
      exact lv_icmp_ne hx hb hd ht KT (fun z => KF (fun w => w z))
    · cases hs
  · split at hs
    · cases hs
      obtain ⟨hd, rfl⟩ := okB_d hok
      exact lv_icmp_lt hx hb hd ht KT KF
    · cases hs
  · split at hs
    · cases hs
      obtain ⟨hd, rfl⟩ := okB_d hok
      exact lv_icmp_ge hx hb hd ht KT KF
    · cases hs
  · split at hs
    · cases hs
      obtain ⟨hd, rfl⟩ := okB_d hok
      exact lv_icmp_gt hx hb hd ht KT KF
    · cases hs
  · split at hs
    · cases hs
      obtain ⟨hd, rfl⟩ := okB_d hok
      exact lv_icmp_le hx hb hd ht KT KF
    · cases hs
  · cases hs
end MB
end
section
/-! The rules of E: fields, arrays, ends, calls. -/
section MC
variable {ε : EE} {J : JT} {mc ms cells slots pc : Nat} {ls : List (Option V0)} {st : List V0} {ws : va_W} {Q : Option Int32 → va_W → Prop}
def nfC (t : Nat) : Nat := match t with
  | 0 => 4 | 1 => 2 | 2 => 9 | 3 => 2 | 4 => 3 | 5 => 8 | 6 => 8 | 7 => 1 | _ => 5
def tyC (t : Nat) : Nat → FieldType := match t with
  | 0 => tyX0 | 1 => tyX1 | 2 => tyX2 | 3 => tyX3 | 4 => tyX4 | 5 => tyX5 | 6 => tyX6 | 7 => tyX7 | _ => tyX8
theorem co_9 {P : Nat → Prop} (h0 : P 0) (h1 : P 1) (h2 : P 2) (h3 : P 3) (h4 : P 4) (h5 : P 5) (h6 : P 6) (h7 : P 7) (h8 : P 8) {t : Nat} (ht : t < 9) : P t := by
  rcases (show t = 0 ∨ t = 1 ∨ t = 2 ∨ t = 3 ∨ t = 4 ∨ t = 5 ∨ t = 6 ∨ t = 7 ∨ t = 8 by omega) with h | h | h | h | h | h | h | h | h <;> subst h <;> assumption
theorem vw_at {t : Nat} (ht : t < 9) : vwCl[t]? = some (nmC t, tbC t, nfC t) ∧ (∀ w ∈ u_ws (nmC t) (tbC t) (nfC t), w ∈ Tg) ∧ (∀ k, k < nfC t → parseFieldDescriptor (tbC t k).2.2.1 = some (tyC t k)) ∧ (∀ a, a < nfC t → ∀ b, b < nfC t → a ≠ b → (tbC t a).2.1 ≠ (tbC t b).2.1) :=
  co_9 (P := fun t => vwCl[t]? = some (nmC t, tbC t, nfC t) ∧ (∀ w ∈ u_ws (nmC t) (tbC t) (nfC t), w ∈ Tg) ∧ (∀ k, k < nfC t → parseFieldDescriptor (tbC t k).2.2.1 = some (tyC t k)) ∧ (∀ a, a < nfC t → ∀ b, b < nfC t → a ≠ b → (tbC t a).2.1 ≠ (tbC t b).2.1))
    ⟨rfl, tgX0, tyX0_ok, nmX0⟩ ⟨rfl, tgX1, tyX1_ok, nmX1⟩ ⟨rfl, tgX2, tyX2_ok, nmX2⟩ ⟨rfl, tgX3, tyX3_ok, nmX3⟩ ⟨rfl, tgX4, tyX4_ok, nmX4⟩ ⟨rfl, tgX5, tyX5_ok, nmX5⟩ ⟨rfl, tgX6, tyX6_ok, nmX6⟩ ⟨rfl, tgX7, tyX7_ok, nmX7⟩ ⟨rfl, tgX8, tyX8_ok, nmX8⟩ ht
theorem flT_k : ∀ r ∈ flT, r.2.2.2 < nfC r.2.2.1 ∧ r.2.2.1 < 9 ∧ (tbC r.2.2.1 r.2.2.2).1 = nmC r.2.2.1 := by decide +kernel
theorem e_own {s : State} {m : MethodId} (hT : e_T J) (h : s.vm.findClass (jy J).cls = some m.cls) : s.vm.findClass (nmC (jc J)) = some m.cls := by rw [hT.2.1]; exact h
theorem e_get {kf t nx idx q0 a0 : Nat} {v : Int32} {pp : Nat × Nat} {fs : List Value} {w : V0} (h : lk (jt J) pc = (30, kf, t, v, nx, idx)) (hpt : e_vm ε (.inr pp) = .ref a0) (hp : ws[q0]? = some (a0, .inr (t, fs))) (hv : fs[kf]? = some (e_vm ε w)) (k : E ε J mc ms cells slots nx ls (w :: st) ws Q) : E ε J mc ms cells slots pc ls (.inr pp :: st) ws Q := by
  intro hT p e R s m args below meth c H locs lsA C hP hD hS hl
  have hok := e_op hT h (by decide)
  have K := k hT p e R s m args below meth c H locs lsA C hP hD hS hl
  obtain ⟨hx, hb, hr, hml, hown, hts, hlk, hK, hB0, hR, hnm⟩ := C
  have hown := e_own hT hown
  simp only [okOp, Bool.and_eq_true, decide_eq_true_eq] at hok
  obtain ⟨hok, hmem⟩ := hok
  obtain ⟨hd, rfl⟩ := okD_d hok
  obtain ⟨hk, ht, hsm⟩ := flT_k _ hmem
  obtain ⟨v1, v2, v3, v4⟩ := vw_at ht
  rw [List.map_cons, hpt]
  rcases flT_ok _ hmem with hf | ⟨host, hf⟩
  · exact va_get hx hb hts v2 hown hK.1 hP q0 hp v1 kf hk (hts _ hf) (fun x h9 => by rw [← hsm]; exact h9) hv hd K
  · exact va_getN hx hb hts v2 hown hK.1 hP q0 hp v1 kf hk (va_Nw.use rfl (hK.2 _ hf)) (fun x h9 => by rw [← hsm]; exact h9) hv hd K
theorem e_put {kf t nx idx q0 a0 : Nat} {v : Int32} {pp : Nat × Nat} {fs : List Value} {w : V0} (h : lk (jt J) pc = (31, kf, t, v, nx, idx)) (hpt : e_vm ε (.inr pp) = .ref a0) (hp : ws[q0]? = some (a0, .inr (t, fs))) (hfin : (tbC t kf).2.2.2 = false) (hn : narrow (tyC t kf) (e_vm ε w) = e_vm ε w) (hfit : fits (tyC t kf) (e_vm ε w) = true) (hl0 : kf < fs.length) (k : E ε J mc ms cells slots nx ls st (ws.set q0 (a0, .inr (t, fs.set kf (e_vm ε w)))) Q) : E ε J mc ms cells slots pc ls (w :: .inr pp :: st) ws Q := by
  intro hT p e R s m args below meth c H locs lsA C hP hD hS hl
  have hok := e_op hT h (by decide)
  have K := fun H locs hP hD hS => k hT p e R s m args below meth c H locs lsA C hP hD hS hl
  obtain ⟨hx, hb, hr, hml, hown, hts, hlk, hK, hB0, hR, hnm⟩ := C
  have hown := e_own hT hown
  simp only [okOp, Bool.and_eq_true, decide_eq_true_eq] at hok
  obtain ⟨hok, hmem⟩ := hok
  obtain ⟨hd, rfl⟩ := okD_d hok
  obtain ⟨hk, ht, hsm⟩ := flT_k _ hmem
  obtain ⟨v1, v2, v3, v4⟩ := vw_at ht
  rw [List.map_cons, List.map_cons, hpt]
  rcases flT_ok _ hmem with hf | ⟨host, hf⟩
  · exact va_put hx hb hts v2 (tyC t) v3 v4 hown hK.1 hP hD hS q0 hp v1 kf hk (hts _ hf) (fun x h9 => by rw [← hsm]; exact h9) hfin (v3 kf hk) hn hfit hl0 hd K
  · exact va_putN hx hb hts v2 (tyC t) v3 v4 hown hK.1 hP hD hS q0 hp v1 kf hk (va_Nw.use rfl (hK.2 _ hf)) (fun x h9 => by rw [← hsm]; exact h9) hfin (v3 kf hk) hn hfit hl0 hd K
theorem e_iald {o a b nx q0 a0 n j : Nat} {v : Int32} {pp : Nat × Nat} {f : Nat → Int32} (h : lk (jt J) pc = (32, a, b, v, nx, o)) (hpt : e_vm ε (.inr pp) = .ref a0) (hp : ws[q0]? = some (a0, .inl (ε.2.2.1 0, n, .inl f))) (hj : j < n) (hn : n < 2 ^ 31) (k : E ε J mc ms cells slots nx ls (.inl (f j) :: st) ws Q) : E ε J mc ms cells slots pc ls (.inl (nI j) :: .inr pp :: st) ws Q := by
  intro hT p e R s m args below meth c H locs lsA C hP hD hS hl
  have hok := e_op hT h (by decide)
  have K := k hT p e R s m args below meth c H locs lsA C hP hD hS hl
  obtain ⟨hx, hb, hr, hml, hown, hts, hlk, hK, hB0, hR, hnm⟩ := C
  obtain ⟨hd, rfl⟩ := okD_d hok
  rw [List.map_cons, List.map_cons, hpt]
  refine va_iald hx hb hK.1 hP q0 0 hp rfl (vp_in_nI hj hn) hd ?_
  rw [nI_clamp (Nat.lt_trans hj hn)]
  exact K
theorem e_zald {o a b nx q0 a0 n j : Nat} {v : Int32} {pp : Nat × Nat} {f : Nat → Int32} (h : lk (jt J) pc = (33, a, b, v, nx, o)) (hpt : e_vm ε (.inr pp) = .ref a0) (hp : ws[q0]? = some (a0, .inl (ε.2.2.1 1, n, .inl f))) (hj : j < n) (hn : n < 2 ^ 31) (k : E ε J mc ms cells slots nx ls (.inl (f j) :: st) ws Q) : E ε J mc ms cells slots pc ls (.inl (nI j) :: .inr pp :: st) ws Q := by
  intro hT p e R s m args below meth c H locs lsA C hP hD hS hl
  have hok := e_op hT h (by decide)
  have K := k hT p e R s m args below meth c H locs lsA C hP hD hS hl
  obtain ⟨hx, hb, hr, hml, hown, hts, hlk, hK, hB0, hR, hnm⟩ := C
  obtain ⟨hd, rfl⟩ := okD_d hok
  rw [List.map_cons, List.map_cons, hpt]
  refine va_zald hx hb hK.1 hP q0 1 hp rfl (vp_in_nI hj hn) hd ?_
  rw [nI_clamp (Nat.lt_trans hj hn)]
  exact K
theorem e_cald {o a b nx q0 a0 n j : Nat} {v : Int32} {pp : Nat × Nat} {f : Nat → Int32} (h : lk (jt J) pc = (34, a, b, v, nx, o)) (hpt : e_vm ε (.inr pp) = .ref a0) (hp : ws[q0]? = some (a0, .inl (ε.2.2.1 2, n, .inl f))) (hj : j < n) (hn : n < 2 ^ 31) (k : E ε J mc ms cells slots nx ls (.inl (f j) :: st) ws Q) : E ε J mc ms cells slots pc ls (.inl (nI j) :: .inr pp :: st) ws Q := by
  intro hT p e R s m args below meth c H locs lsA C hP hD hS hl
  have hok := e_op hT h (by decide)
  have K := k hT p e R s m args below meth c H locs lsA C hP hD hS hl
  obtain ⟨hx, hb, hr, hml, hown, hts, hlk, hK, hB0, hR, hnm⟩ := C
  obtain ⟨hd, rfl⟩ := okD_d hok
  rw [List.map_cons, List.map_cons, hpt]
  refine va_cald hx hb hK.1 hP q0 2 hp rfl (vp_in_nI hj hn) hd ?_
  rw [nI_clamp (Nat.lt_trans hj hn)]
  exact K
theorem e_aald {o a b nx q0 a0 n j t0 aj : Nat} {v : Int32} {pp p2 : Nat × Nat} {C0 : String} {cA : ClassId} {f : Nat → Option Nat} (h : lk (jt J) pc = (35, a, b, v, nx, o)) (hpt : e_vm ε (.inr pp) = .ref a0) (hp : ws[q0]? = some (a0, .inl (cA, n, .inr (.inr (.inr (.inr f)))))) (ht : (e_tys ε)[t0]? = some (cA, .object C0)) (hj : j < n) (hn : n < 2 ^ 31) (hf : f j = some aj) (hpt2 : e_vm ε (.inr p2) = .ref aj) (k : E ε J mc ms cells slots nx ls (.inr p2 :: st) ws Q) : E ε J mc ms cells slots pc ls (.inl (nI j) :: .inr pp :: st) ws Q := by
  intro hT p e R s m args below meth c H locs lsA C hP hD hS hl
  have hok := e_op hT h (by decide)
  have K := k hT p e R s m args below meth c H locs lsA C hP hD hS hl
  obtain ⟨hx, hb, hr, hml, hown, hts, hlk, hK, hB0, hR, hnm⟩ := C
  obtain ⟨hd, rfl⟩ := okD_d hok
  rw [List.map_cons, List.map_cons, hpt]
  refine va_aldq hx hb hK.1 hP q0 t0 hp ht (vp_in_nI hj hn) hd ?_
  rw [nI_clamp (Nat.lt_trans hj hn), hf]
  rw [List.map_cons, hpt2] at K
  exact K
theorem e_iast {o a b nx q0 a0 n j : Nat} {v x : Int32} {pp : Nat × Nat} {f : Nat → Int32} (h : lk (jt J) pc = (36, a, b, v, nx, o)) (hpt : e_vm ε (.inr pp) = .ref a0) (hp : ws[q0]? = some (a0, .inl (ε.2.2.1 0, n, .inl f))) (hj : j < n) (hn : n < 2 ^ 31) (k : E ε J mc ms cells slots nx ls st (ws.set q0 (a0, .inl (ε.2.2.1 0, n, .inl (upd f j x)))) Q) : E ε J mc ms cells slots pc ls (.inl x :: .inl (nI j) :: .inr pp :: st) ws Q := by
  intro hT p e R s m args below meth c H locs lsA C hP hD hS hl
  have hok := e_op hT h (by decide)
  have K := fun H locs hP hD hS => k hT p e R s m args below meth c H locs lsA C hP hD hS hl
  obtain ⟨hx, hb, hr, hml, hown, hts, hlk, hK, hB0, hR, hnm⟩ := C
  obtain ⟨hd, rfl⟩ := okD_d hok
  rw [List.map_cons, List.map_cons, List.map_cons, hpt]
  refine va_iast hx hb hK.1 hP hD hS q0 0 hp rfl (vp_in_nI hj hn) hd ?_
  rw [nI_clamp (Nat.lt_trans hj hn)]
  exact K
theorem e_zast {o a b nx q0 a0 n j : Nat} {v x : Int32} {pp : Nat × Nat} {f : Nat → Int32} (h : lk (jt J) pc = (37, a, b, v, nx, o)) (hpt : e_vm ε (.inr pp) = .ref a0) (hp : ws[q0]? = some (a0, .inl (ε.2.2.1 1, n, .inl f))) (hj : j < n) (hn : n < 2 ^ 31) (hv : vp_nar .boolean x = x) (k : E ε J mc ms cells slots nx ls st (ws.set q0 (a0, .inl (ε.2.2.1 1, n, .inl (upd f j x)))) Q) : E ε J mc ms cells slots pc ls (.inl x :: .inl (nI j) :: .inr pp :: st) ws Q := by
  intro hT p e R s m args below meth c H locs lsA C hP hD hS hl
  have hok := e_op hT h (by decide)
  have K := fun H locs hP hD hS => k hT p e R s m args below meth c H locs lsA C hP hD hS hl
  obtain ⟨hx, hb, hr, hml, hown, hts, hlk, hK, hB0, hR, hnm⟩ := C
  obtain ⟨hd, rfl⟩ := okD_d hok
  rw [List.map_cons, List.map_cons, List.map_cons, hpt]
  refine va_zast hx hb hK.1 hP hD hS q0 1 hp rfl (vp_in_nI hj hn) hd ?_
  rw [nI_clamp (Nat.lt_trans hj hn), hv]
  exact K
theorem e_cast {o a b nx q0 a0 n j : Nat} {v x : Int32} {pp : Nat × Nat} {f : Nat → Int32} (h : lk (jt J) pc = (38, a, b, v, nx, o)) (hpt : e_vm ε (.inr pp) = .ref a0) (hp : ws[q0]? = some (a0, .inl (ε.2.2.1 2, n, .inl f))) (hj : j < n) (hn : n < 2 ^ 31) (hv : vp_nar .char x = x) (k : E ε J mc ms cells slots nx ls st (ws.set q0 (a0, .inl (ε.2.2.1 2, n, .inl (upd f j x)))) Q) : E ε J mc ms cells slots pc ls (.inl x :: .inl (nI j) :: .inr pp :: st) ws Q := by
  intro hT p e R s m args below meth c H locs lsA C hP hD hS hl
  have hok := e_op hT h (by decide)
  have K := fun H locs hP hD hS => k hT p e R s m args below meth c H locs lsA C hP hD hS hl
  obtain ⟨hx, hb, hr, hml, hown, hts, hlk, hK, hB0, hR, hnm⟩ := C
  obtain ⟨hd, rfl⟩ := okD_d hok
  rw [List.map_cons, List.map_cons, List.map_cons, hpt]
  refine va_cast hx hb hK.1 hP hD hS q0 2 hp rfl (vp_in_nI hj hn) hd ?_
  rw [nI_clamp (Nat.lt_trans hj hn), hv]
  exact K
theorem e_aast {o a b nx q0 a0 n j t0 qk ci aj : Nat} {v : Int32} {pp p2 : Nat × Nat} {cA : ClassId} {r : vw_C} {vs : List Value} {f : Nat → Option Nat} (h : lk (jt J) pc = (39, a, b, v, nx, o)) (hpt : e_vm ε (.inr pp) = .ref a0) (hp : ws[q0]? = some (a0, .inl (cA, n, .inr (.inr (.inr (.inr f)))))) (ht : (e_tys ε)[t0]? = some (cA, .object r.1)) (hpt2 : e_vm ε (.inr p2) = .ref aj) (hv : ws[qk]? = some (aj, .inr (ci, vs))) (hc : vwCl[ci]? = some r) (hj : j < n) (hn : n < 2 ^ 31) (k : E ε J mc ms cells slots nx ls st (ws.set q0 (a0, .inl (cA, n, .inr (.inr (.inr (.inr (va_up f j (some aj)))))))) Q) : E ε J mc ms cells slots pc ls (.inr p2 :: .inl (nI j) :: .inr pp :: st) ws Q := by
  intro hT p e R s m args below meth c H locs lsA C hP hD hS hl
  have hok := e_op hT h (by decide)
  have K := fun H locs hP hD hS => k hT p e R s m args below meth c H locs lsA C hP hD hS hl
  obtain ⟨hx, hb, hr, hml, hown, hts, hlk, hK, hB0, hR, hnm⟩ := C
  obtain ⟨hd, rfl⟩ := okD_d hok
  rw [List.map_cons, List.map_cons, List.map_cons, hpt, hpt2]
  refine va_astq hx hb hK.1 hP hD hS q0 t0 qk ci hp ht hv hc (vp_in_nI hj hn) hd ?_
  rw [nI_clamp (Nat.lt_trans hj hn)]
  exact K
theorem e_alen {o a b nx q0 a0 t0 : Nat} {v : Int32} {pp : Nat × Nat} {cA : ClassId} {x : vp_A} {ty : FieldType} (h : lk (jt J) pc = (40, a, b, v, nx, o)) (hpt : e_vm ε (.inr pp) = .ref a0) (hp : ws[q0]? = some (a0, .inl (cA, x))) (ht : (e_tys ε)[t0]? = some (cA, ty)) (k : E ε J mc ms cells slots nx ls (.inl (nI x.1) :: st) ws Q) : E ε J mc ms cells slots pc ls (.inr pp :: st) ws Q := by
  intro hT p e R s m args below meth c H locs lsA C hP hD hS hl
  have hok := e_op hT h (by decide)
  have K := k hT p e R s m args below meth c H locs lsA C hP hD hS hl
  obtain ⟨hx, hb, hr, hml, hown, hts, hlk, hK, hB0, hR, hnm⟩ := C
  obtain ⟨hd, rfl⟩ := okD_d hok
  rw [List.map_cons, hpt]
  exact va_alen hx hb hK.1 hP q0 t0 hp ht rfl hd K
theorem e_Qc_some {ty : FieldType} (h : jr J = some ty) : e_Qc ε J Q = va_Qi (fun r u => Q (some r) u) (fun u t => e_W ε u t) (e_A ε) := by unfold e_Qc; rw [h]
theorem e_Qc_none (h : jr J = none) : e_Qc ε J Q = va_Qv (Q none) (fun u t => e_W ε u t) (e_A ε) := by unfold e_Qc; rw [h]
theorem e_iret {o a b nx : Nat} {v x : Int32} (h : lk (jt J) pc = (41, a, b, v, nx, o)) (hr : jr J = some .int) (hc : cells ≤ mc) (hs : slots ≤ ms) (hQ : Q (some x) ws) : E ε J mc ms cells slots pc ls [.inl x] ws Q := by
  intro hT p e R s m args below meth c H locs lsA C hP hD hS hl
  have hok := e_op hT h (by decide)
  obtain ⟨hx, hb, hrt, hml, hown, hts, hlk, hK, hB0, hR, hnm⟩ := C
  simp only [okOp, decide_eq_true_eq] at hok
  refine W.widen hc hs ?_
  refine W.iret (v := x) hx hb (by rw [hrt, hr]) (fun t ht hW => ?_) hS.2.2 hok hlk
  rw [e_Qc_some hr]
  exact ⟨⟨x, ws, rfl, hQ, by rw [ht]; exact hP, hD⟩, hS.F ht⟩
theorem e_zret {o a b nx : Nat} {v x : Int32} (h : lk (jt J) pc = (41, a, b, v, nx, o)) (hr : jr J = some .boolean) (hc : cells ≤ mc) (hs : slots ≤ ms) (hv : vp_nar .boolean x = x) (hQ : Q (some x) ws) : E ε J mc ms cells slots pc ls [.inl x] ws Q := by
  intro hT p e R s m args below meth c H locs lsA C hP hD hS hl
  have hok := e_op hT h (by decide)
  obtain ⟨hx, hb, hrt, hml, hown, hts, hlk, hK, hB0, hR, hnm⟩ := C
  simp only [okOp, decide_eq_true_eq] at hok
  refine W.widen hc hs ?_
  refine W.zret (v := x) hx hb (by rw [hrt, hr]) (by
    have : narrow .boolean (.int x) = .int (vp_nar .boolean x) := by simp [vp_nar, narrow]
    rw [this, hv]) (fun t ht hW => ?_) hS.2.2 hok hlk
  rw [e_Qc_some hr]
  exact ⟨⟨x, ws, rfl, hQ, by rw [ht]; exact hP, hD⟩, hS.F ht⟩
theorem e_vret {o a b nx : Nat} {v : Int32} (h : lk (jt J) pc = (42, a, b, v, nx, o)) (hr : jr J = none) (hc : cells ≤ mc) (hs : slots ≤ ms) (hQ : Q none ws) : E ε J mc ms cells slots pc ls [] ws Q := by
  intro hT p e R s m args below meth c H locs lsA C hP hD hS hl
  have hok := e_op hT h (by decide)
  obtain ⟨hx, hb, hrt, hml, hown, hts, hlk, hK, hB0, hR, hnm⟩ := C
  simp only [okOp, decide_eq_true_eq] at hok
  refine W.widen hc hs ?_
  refine W.vret hx hb (by rw [hrt, hr]) (fun t ht hW => ?_) hS.2.2 hok hlk
  rw [e_Qc_none hr]
  exact ⟨⟨ws, rfl, hQ, by rw [ht]; exact hP, hD⟩, hS.F ht⟩
end MC
end
section
/-! The rules of E: a method's contract out of E, and calls. -/
section MD
variable {ε : EE} {J : JT} {mc ms cells slots pc : Nat} {ls : List (Option V0)} {st : List V0} {ws : va_W} {Q : Option Int32 → va_W → Prop}
def e_in (As : List V0) (n : Nat) : List (Option V0) := As.map some ++ List.replicate (n - As.length) none
theorem e_ll_none (ε : EE) : ∀ (n k : Nat), e_ll ε k (List.replicate n none) = []
  | 0, k => rfl
  | n + 1, k => by rw [List.replicate_succ, e_ll, e_ll_none ε n (k + 1)]
theorem e_ll_in (ε : EE) (n : Nat) : ∀ (As : List V0) (k : Nat), e_ll ε k (As.map some ++ List.replicate n none) = lv_args k (As.map (e_vm ε))
  | [], k => by rw [List.map_nil, List.nil_append, e_ll_none]; rfl
  | v :: t, k => by
    rw [List.map_cons, List.cons_append, e_ll, e_ll_in ε n t (k + 1), List.map_cons, lv_args, if_neg (by rw [e_vm_cat]; decide)]
theorem e_sl_len (ε : EE) : ∀ (As : List V0), (lg_sl (As.map (e_vm ε))).length = As.length
  | [] => rfl
  | v :: t => by
    have h := e_sl_len ε t
    unfold lg_sl at h ⊢
    rw [List.map_cons, List.flatMap_cons, if_neg (by rw [e_vm_cat]; decide), List.length_append, h]
    simp
    omega
theorem e_K.moved {s U : State} (hW : s.WarmedH U.vm) (h : e_K ε s) : e_K ε U := ⟨va_K.moved hW.alike h.1, fun w hw => nw_warm hW hw (h.2 w hw)⟩
theorem e_K.same {s U : State} (hv : s.vm = U.vm) (h : e_K ε s) : e_K ε U := ⟨va_K.moved (by rw [hv]; exact Vm.Alike.refl _) h.1, fun w hw => va_Nw.same (nw_tab hw) hv (h.2 w hw)⟩
set_option maxHeartbeats 4000000 in
theorem e_met {As : List V0} (hT : e_T J) (hlen : As.length ≤ jm J) (hE : E ε J mc ms 0 0 0 (e_in As (jm J)) [] ws Q) : e_Ct ε J mc ms As ws Q := by
  refine Met.ofW (cc := jb J) (maxL := jm J) (ret := jr J) hT.2.2.2 rfl ?_
  intro p e s m args below meth c s₁ B hml hv
  obtain ⟨rfl, hB0, hK, hP, hD⟩ := hv
  have hts := atoms_spec (ws := e_ws J) B.pre
  have hl := lv_entry (As.map (e_vm ε)) (n := jm J) (by rw [e_sl_len]; exact hlen)
  have hC : e_C ε J mc ms p (headSpec (e_ws J) (e_rm J mc ms)).room s m (As.map (e_vm ε)).toArray meth c := ⟨B.exec, B.bytes, B.returns, hml, findClass_of_methodNamed B.named, fun w hw => hts w (List.mem_cons_of_mem _ hw), B.notSynchronized, hK, hB0, rfl, (name_of_methodNamed B.named B.method).1⟩
  rw [lg_entry_eq]
  refine hE hT p e _ s m _ below meth c s.heap [] _ hC hP hD va_S.rf ?_
  unfold e_L e_in
  rw [e_ll_in]
  exact hl
theorem e_blind {As : List V0} : FrameBlind (e_Pc ε As ws) := fun a U g mk q => by
  obtain ⟨h1, h2, h3, h4, h5⟩ := q
  exact ⟨h1, h2, e_K.same (s := U) (U := U.calling g mk a) rfl h3, h4, h5⟩
def e_link (J J' : JT) (kind n idx : Nat) : Prop := ((Cond.methodLink (jy J).cls idx (jy J') ∈ Tg) ∨ (∃ host, Cond.methodLinkNest (jy J).cls idx (jy J') host ∈ Nw)) ∧ (Cond.code (jy J') (jb J') (jm J') (jr J') ∈ Tg) ∧ (Cond.initialized (jy J').cls ∈ Tg) ∧ ((jy J').cls ≠ "java/lang/invoke/MethodHandle" ∧ (jy J').cls ≠ "java/lang/invoke/VarHandle" ∧ (parseMethodDescriptor (jy J').desc).map (fun d => d.parameters.length) = some n) ∧ (kind = 46 → Cond.static (jy J') ∈ Tg) ∧ (kind ≠ 46 → Cond.instanceMethod (jy J') ∈ Tg) ∧ (kind = 44 → Cond.selects (jy J').cls (jy J') (jy J') ∈ Tg) ∧ (kind = 45 → (jy J').name = "<init>")
theorem e_link_of {J' : JT} (hT : e_T J) (hT' : mN (jn J') = (jy J', jb J', jm J', jr J')) {kind n idx : Nat} (h : (kind, jc J, idx, jn J', n) ∈ clT) : e_link J J' kind n idx := by
  have h1 := clT_ok _ h
  unfold ClOk at h1
  simp only [hT'] at h1
  rw [hT.2.1] at h1
  exact h1
theorem e_good {J' : JT} (h : Cond.code (jy J') (jb J') (jm J') (jr J') ∈ Tg) : GoodIn Tg (e_ws J') := by
  intro w hw
  rcases List.mem_cons.1 hw with rfl | hw
  · exact tg_good _ h
  · exact tg_good _ hw
set_option maxHeartbeats 4000000 in
/-- invokevirtual, an answer that is a number -/
theorem e_callVi {J' : JT} {n idx nx a0 q0 ci mc' ms' : Nat} {v : Int32} {As rest : List V0} {pp : Nat × Nat} {fs : List Value} {Qc : Option Int32 → va_W → Prop} {ty : FieldType} (h : lk (jt J) pc = (44, n, jn J', v, nx, idx)) (hT' : mN (jn J') = (jy J', jb J', jm J', jr J')) (hr : jr J' = some ty) (hrm : jf J' + 1 ≤ jf J ∧ 8 + (jm J' + 11) + jo J' ≤ jo J) (hn : As.length = n) (hst : st = As.reverse ++ .inr pp :: rest) (hrest : rest.length ≤ 8) (hpt : e_vm ε (.inr pp) = .ref a0) (hp : ws[q0]? = some (a0, .inr (ci, fs))) (hci : ci < 9) (hcn : nmC ci = (jy J').cls) (hC : e_Ct ε J' mc' ms' (.inr pp :: As) ws Qc) (hcc : cells + mc' ≤ mc ∧ slots + ms' ≤ ms)
    (k : ∀ r ws', Qc (some r) ws' → E ε J mc ms (cells + mc') (slots + ms') nx ls (.inl r :: rest) ws' Q) : E ε J mc ms cells slots pc ls st ws Q := by
  intro hT p e R s m args below meth c H locs lsA C hP hD hS hl
  have hok := e_op hT h (by decide)
  have K := fun r ws' z H locs hP hD hS => k r ws' z hT p e R s m args below meth c H locs lsA C hP hD hS hl
  obtain ⟨hx, hb, hrt, hml, hown, hts, hlk, hK, hB0, hR, hnm⟩ := C
  simp only [okOp, Bool.and_eq_true, decide_eq_true_eq] at hok
  obtain ⟨hok, hmem⟩ := hok
  obtain ⟨hd, rfl⟩ := okD_d hok
  obtain ⟨hlink, hcode, hini, hcl, -, hinst, hsel, -⟩ := e_link_of hT hT' hmem
  have hinst := hinst (by decide)
  have hsel := hsel rfl
  have hM : Met ε.1 (jy J') (e_ws J') (e_rm J' mc' ms') (e_Pc ε (.inr pp :: As) ws) (va_Qi (fun r u => Qc (some r) u) (fun u t => e_W ε u t) (e_A ε)) mc' ms' (e_A ε) := by
    have := hC
    unfold e_Ct at this
    rw [e_Qc_some hr] at this
    exact this
  have hrecv := va_recv hK.1 hP (vw_at hci).1 hp
  have hPre : PreV s H (jy J').cls a0 (e_Pc ε (.inr pp :: As) ws) (As.map (e_vm ε)) := by
    refine ⟨e_blind, ?_, fun U hU hW => ⟨?_, ?_, e_K.moved hW hK, ?_, hD⟩⟩
    · rw [← hcn]; exact hrecv
    · rw [List.map_cons, hpt]
    · rw [hU]; exact Nat.le_trans hB0 hS.1
    · rw [hU]; exact hP
  have hsz : (F0 m pc lsA (st.map (e_vm ε))).locals.size = jm J := hl.1
  have hstk : (F0 m pc lsA (st.map (e_vm ε))).stack = (As.map (e_vm ε)).reverse ++ .ref a0 :: rest.map (e_vm ε) := by
    show st.map (e_vm ε) = _
    rw [hst, List.map_append, List.map_cons, hpt, List.map_reverse]
  have hW8 : 2 * (F0 m pc lsA (st.map (e_vm ε))).monitorRoom + ((rest.map (e_vm ε)).map fun v => v.category).sum ≤ 8 := by
    refine lv_room ?_
    have : ((rest.map (e_vm ε)).map fun v => v.category) = List.replicate rest.length 1 := by
      rw [List.map_map]
      refine List.eq_replicate_iff.2 ⟨by simp, fun b hb => ?_⟩
      obtain ⟨x, -, rfl⟩ := List.mem_map.1 hb
      exact e_vm_cat ε x
    rw [this, List.sum_replicate_nat]
    omega
  have hcells : cells + mc' ≤ R.cells ∧ slots + ms' ≤ R.slots := by rw [hR]; exact hcc
  have hRm : (e_rm J' mc' ms').frames + 1 ≤ R.frames ∧ 8 + (jm J' + 11) + (e_rm J' mc' ms').locals ≤ R.locals := by rw [hR]; exact hrm
  have hlen : (As.map (e_vm ε)).length = n := by rw [List.length_map]; exact hn
  have S : CallFix p m c (jb J) (jm J) s args Tg (jy J).cls := ⟨hx, hb, hml, hown, hts⟩
  have fin : va_Run p ε.1 e R s m args below meth c H locs cells slots mc' ms' (F0 m pc lsA (st.map (e_vm ε))) (rest.map (e_vm ε)) (va_Qi (fun r u => Qc (some r) u) (fun u t => e_W ε u t) (e_A ε) (Value.ref a0 :: As.map (e_vm ε)).toArray) (e_A ε) := by
    rcases hlink with hlink | ⟨host, hlink⟩
    · exact va_runV (As := As.map (e_vm ε)) (rest := rest.map (e_vm ε)) S hM ⟨callB_of (ws' := Tg) n hts (e_good hcode) rfl rfl rfl (hts _ hini) (hts _ hlink) hcl hRm, hts _ hinst, hts _ hsel⟩ hPre rfl hlen hsz hstk hW8 hd hcells
    · exact va_runVN (As := As.map (e_vm ε)) (rest := rest.map (e_vm ε)) S hM ⟨va_cnB (ws' := Tg) n hts (e_good hcode) rfl rfl rfl (hK.2 _ hlink) (hts _ hini) hcl hRm, hts _ hinst, hts _ hsel⟩ hPre rfl hlen hsz hstk hW8 hd hcells
  refine va_calli fin hS (fun q _ h => h) (fun q h => h) (fun r u t H1 locs1 ht hvm hw hB hz1 hk1 hS1 => ?_)
  obtain ⟨hP1, hD1⟩ := hB
  rw [ht] at hP1
  exact K r u hw H1 locs1 hP1 hD1 hS1
set_option maxHeartbeats 4000000 in
/-- invokevirtual, no answer -/
theorem e_callVv {J' : JT} {n idx nx a0 q0 ci mc' ms' : Nat} {v : Int32} {As rest : List V0} {pp : Nat × Nat} {fs : List Value} {Qc : Option Int32 → va_W → Prop} (h : lk (jt J) pc = (44, n, jn J', v, nx, idx)) (hT' : mN (jn J') = (jy J', jb J', jm J', jr J')) (hr : jr J' = none) (hrm : jf J' + 1 ≤ jf J ∧ 8 + (jm J' + 11) + jo J' ≤ jo J) (hn : As.length = n) (hst : st = As.reverse ++ .inr pp :: rest) (hrest : rest.length ≤ 8) (hpt : e_vm ε (.inr pp) = .ref a0) (hp : ws[q0]? = some (a0, .inr (ci, fs))) (hci : ci < 9) (hcn : nmC ci = (jy J').cls) (hC : e_Ct ε J' mc' ms' (.inr pp :: As) ws Qc) (hcc : cells + mc' ≤ mc ∧ slots + ms' ≤ ms)
    (k : ∀ ws', Qc none ws' → E ε J mc ms (cells + mc') (slots + ms') nx ls rest ws' Q) : E ε J mc ms cells slots pc ls st ws Q := by
  intro hT p e R s m args below meth c H locs lsA C hP hD hS hl
  have hok := e_op hT h (by decide)
  have K := fun ws' z H locs hP hD hS => k ws' z hT p e R s m args below meth c H locs lsA C hP hD hS hl
  obtain ⟨hx, hb, hrt, hml, hown, hts, hlk, hK, hB0, hR, hnm⟩ := C
  simp only [okOp, Bool.and_eq_true, decide_eq_true_eq] at hok
  obtain ⟨hok, hmem⟩ := hok
  obtain ⟨hd, rfl⟩ := okD_d hok
  obtain ⟨hlink, hcode, hini, hcl, -, hinst, hsel, -⟩ := e_link_of hT hT' hmem
  have hinst := hinst (by decide)
  have hsel := hsel rfl
  have hM : Met ε.1 (jy J') (e_ws J') (e_rm J' mc' ms') (e_Pc ε (.inr pp :: As) ws) (va_Qv (Qc none) (fun u t => e_W ε u t) (e_A ε)) mc' ms' (e_A ε) := by
    have := hC
    unfold e_Ct at this
    rw [e_Qc_none hr] at this
    exact this
  have hrecv := va_recv hK.1 hP (vw_at hci).1 hp
  have hPre : PreV s H (jy J').cls a0 (e_Pc ε (.inr pp :: As) ws) (As.map (e_vm ε)) := by
    refine ⟨e_blind, ?_, fun U hU hW => ⟨?_, ?_, e_K.moved hW hK, ?_, hD⟩⟩
    · rw [← hcn]; exact hrecv
    · rw [List.map_cons, hpt]
    · rw [hU]; exact Nat.le_trans hB0 hS.1
    · rw [hU]; exact hP
  have hsz : (F0 m pc lsA (st.map (e_vm ε))).locals.size = jm J := hl.1
  have hstk : (F0 m pc lsA (st.map (e_vm ε))).stack = (As.map (e_vm ε)).reverse ++ .ref a0 :: rest.map (e_vm ε) := by
    show st.map (e_vm ε) = _
    rw [hst, List.map_append, List.map_cons, hpt, List.map_reverse]
  have hW8 : 2 * (F0 m pc lsA (st.map (e_vm ε))).monitorRoom + ((rest.map (e_vm ε)).map fun v => v.category).sum ≤ 8 := by
    refine lv_room ?_
    have : ((rest.map (e_vm ε)).map fun v => v.category) = List.replicate rest.length 1 := by
      rw [List.map_map]
      refine List.eq_replicate_iff.2 ⟨by simp, fun b hb => ?_⟩
      obtain ⟨x, -, rfl⟩ := List.mem_map.1 hb
      exact e_vm_cat ε x
    rw [this, List.sum_replicate_nat]
    omega
  have hcells : cells + mc' ≤ R.cells ∧ slots + ms' ≤ R.slots := by rw [hR]; exact hcc
  have hRm : (e_rm J' mc' ms').frames + 1 ≤ R.frames ∧ 8 + (jm J' + 11) + (e_rm J' mc' ms').locals ≤ R.locals := by rw [hR]; exact hrm
  have hlen : (As.map (e_vm ε)).length = n := by rw [List.length_map]; exact hn
  have S : CallFix p m c (jb J) (jm J) s args Tg (jy J).cls := ⟨hx, hb, hml, hown, hts⟩
  have fin : va_Run p ε.1 e R s m args below meth c H locs cells slots mc' ms' (F0 m pc lsA (st.map (e_vm ε))) (rest.map (e_vm ε)) (va_Qv (Qc none) (fun u t => e_W ε u t) (e_A ε) (Value.ref a0 :: As.map (e_vm ε)).toArray) (e_A ε) := by
    rcases hlink with hlink | ⟨host, hlink⟩
    · exact va_runV (As := As.map (e_vm ε)) (rest := rest.map (e_vm ε)) S hM ⟨callB_of (ws' := Tg) n hts (e_good hcode) rfl rfl rfl (hts _ hini) (hts _ hlink) hcl hRm, hts _ hinst, hts _ hsel⟩ hPre rfl hlen hsz hstk hW8 hd hcells
    · exact va_runVN (As := As.map (e_vm ε)) (rest := rest.map (e_vm ε)) S hM ⟨va_cnB (ws' := Tg) n hts (e_good hcode) rfl rfl rfl (hK.2 _ hlink) (hts _ hini) hcl hRm, hts _ hinst, hts _ hsel⟩ hPre rfl hlen hsz hstk hW8 hd hcells
  refine va_callv fin hS (fun q _ h => h) (fun q h => h) (fun u t H1 locs1 ht hvm hw hB hz1 hk1 hS1 => ?_)
  obtain ⟨hP1, hD1⟩ := hB
  rw [ht] at hP1
  exact K u hw H1 locs1 hP1 hD1 hS1
set_option maxHeartbeats 4000000 in
/-- invokestatic, an answer that is a number -/
theorem e_callSi {J' : JT} {n idx nx mc' ms' : Nat} {v : Int32} {As rest : List V0} {Qc : Option Int32 → va_W → Prop} {ty : FieldType} (h : lk (jt J) pc = (46, n, jn J', v, nx, idx)) (hT' : mN (jn J') = (jy J', jb J', jm J', jr J')) (hr : jr J' = some ty) (hrm : jf J' + 1 ≤ jf J ∧ 8 + (jm J' + 11) + jo J' ≤ jo J) (hn : As.length = n) (hst : st = As.reverse ++ rest) (hrest : rest.length ≤ 8) (hC : e_Ct ε J' mc' ms' As ws Qc) (hcc : cells + mc' ≤ mc ∧ slots + ms' ≤ ms)
    (k : ∀ r ws', Qc (some r) ws' → E ε J mc ms (cells + mc') (slots + ms') nx ls (.inl r :: rest) ws' Q) : E ε J mc ms cells slots pc ls st ws Q := by
  intro hT p e R s m args below meth c H locs lsA C hP hD hS hl
  have hok := e_op hT h (by decide)
  have K := fun r ws' z H locs hP hD hS => k r ws' z hT p e R s m args below meth c H locs lsA C hP hD hS hl
  obtain ⟨hx, hb, hrt, hml, hown, hts, hlk, hK, hB0, hR, hnm⟩ := C
  simp only [okOp, Bool.and_eq_true, decide_eq_true_eq] at hok
  obtain ⟨hok, hmem⟩ := hok
  obtain ⟨hd, rfl⟩ := okD_d hok
  obtain ⟨hlink, hcode, hini, hcl, hstat, -, -, -⟩ := e_link_of hT hT' hmem
  have hstat := hstat rfl
  have hM : Met ε.1 (jy J') (e_ws J') (e_rm J' mc' ms') (e_Pc ε As ws) (va_Qi (fun r u => Qc (some r) u) (fun u t => e_W ε u t) (e_A ε)) mc' ms' (e_A ε) := by
    have := hC
    unfold e_Ct at this
    rw [e_Qc_some hr] at this
    exact this
  have hPre : PreS s H (e_Pc ε As ws) (As.map (e_vm ε)) := by
    refine ⟨e_blind, fun U hU hW => ⟨rfl, ?_, e_K.moved hW hK, ?_, hD⟩⟩
    · rw [hU]; exact Nat.le_trans hB0 hS.1
    · rw [hU]; exact hP
  have hsz : (F0 m pc lsA (st.map (e_vm ε))).locals.size = jm J := hl.1
  have hstk : (F0 m pc lsA (st.map (e_vm ε))).stack = (As.map (e_vm ε)).reverse ++ rest.map (e_vm ε) := by
    show st.map (e_vm ε) = _
    rw [hst, List.map_append, List.map_reverse]
  have hW8 : 2 * (F0 m pc lsA (st.map (e_vm ε))).monitorRoom + ((rest.map (e_vm ε)).map fun v => v.category).sum ≤ 8 := by
    refine lv_room ?_
    have : ((rest.map (e_vm ε)).map fun v => v.category) = List.replicate rest.length 1 := by
      rw [List.map_map]
      refine List.eq_replicate_iff.2 ⟨by simp, fun b hb => ?_⟩
      obtain ⟨x, -, rfl⟩ := List.mem_map.1 hb
      exact e_vm_cat ε x
    rw [this, List.sum_replicate_nat]
    omega
  have hcells : cells + mc' ≤ R.cells ∧ slots + ms' ≤ R.slots := by rw [hR]; exact hcc
  have hRm : (e_rm J' mc' ms').frames + 1 ≤ R.frames ∧ 8 + (jm J' + 11) + (e_rm J' mc' ms').locals ≤ R.locals := by rw [hR]; exact hrm
  have hlen : (As.map (e_vm ε)).length = n := by rw [List.length_map]; exact hn
  have S : CallFix p m c (jb J) (jm J) s args Tg (jy J).cls := ⟨hx, hb, hml, hown, hts⟩
  have fin : va_Run p ε.1 e R s m args below meth c H locs cells slots mc' ms' (F0 m pc lsA (st.map (e_vm ε))) (rest.map (e_vm ε)) (va_Qi (fun r u => Qc (some r) u) (fun u t => e_W ε u t) (e_A ε) (As.map (e_vm ε)).toArray) (e_A ε) := by
    rcases hlink with hlink | ⟨host, hlink⟩
    · exact va_runS (As := As.map (e_vm ε)) (rest := rest.map (e_vm ε)) S hM ⟨callB_of (ws' := Tg) n hts (e_good hcode) rfl rfl rfl (hts _ hini) (hts _ hlink) hcl hRm, hts _ hstat⟩ hPre rfl hlen hsz hstk hW8 hd hcells
    · exact va_runSN (As := As.map (e_vm ε)) (rest := rest.map (e_vm ε)) S hM ⟨va_cnB (ws' := Tg) n hts (e_good hcode) rfl rfl rfl (hK.2 _ hlink) (hts _ hini) hcl hRm, hts _ hstat, trivial⟩ hPre rfl hlen hsz hstk hW8 hd hcells
  refine va_calli fin hS (fun q _ h => h) (fun q h => h) (fun r u t H1 locs1 ht hvm hw hB hz1 hk1 hS1 => ?_)
  obtain ⟨hP1, hD1⟩ := hB
  rw [ht] at hP1
  exact K r u hw H1 locs1 hP1 hD1 hS1
theorem e_W8 {rest : List V0} (hrest : rest.length ≤ 8) : ((rest.map (e_vm ε)).map fun v => v.category).sum ≤ 8 := by
  have : ((rest.map (e_vm ε)).map fun v => v.category) = List.replicate rest.length 1 := by
    rw [List.map_map]
    refine List.eq_replicate_iff.2 ⟨by simp, fun b hb => ?_⟩
    obtain ⟨x, -, rfl⟩ := List.mem_map.1 hb
    exact e_vm_cat ε x
  rw [this, List.sum_replicate_nat]
  omega
theorem e_max {a b nx idx : Nat} {v x y : Int32} {rest : List V0} (h : lk (jt J) pc = (52, a, b, v, nx, idx)) (hrm : 1 ≤ jf J ∧ 21 ≤ jo J) (hcc : cells ≤ mc ∧ slots ≤ ms) (hrest : rest.length ≤ 8) (k : E ε J mc ms cells slots nx ls (.inl (if x < y then y else x) :: rest) ws Q) : E ε J mc ms cells slots pc ls (.inl y :: .inl x :: rest) ws Q := by
  intro hT p e R s m args below meth c H locs lsA C hP hD hS hl
  have hok := e_op hT h (by decide)
  have K := k hT p e R s m args below meth c H locs lsA C hP hD hS hl
  obtain ⟨hx, hb, hrt, hml, hown, hts, hlk, hK, hB0, hR, hnm⟩ := C
  simp only [okOp, Bool.and_eq_true, decide_eq_true_eq] at hok
  obtain ⟨hok, hmem⟩ := hok
  obtain ⟨hd, rfl⟩ := okD_d hok
  have hlink := (mxT_ok _ hmem).2.1 rfl
  refine va_mmax hx hb (by rw [hml]; exact hl.1.symm) (e_own hT hown) (hts _ hlink) (hts _ mx_stat) (hts _ mt_ini) (hts _ mx_code) (by rw [hR]; exact hrm.1) ?_ (by rw [hR]; exact hcc.1) (by rw [hR]; exact hcc.2) hd K
  rw [hR]
  have := e_W8 (ε := ε) hrest
  exact Nat.le_trans (Nat.add_le_add_right this 13) hrm.2
theorem e_min {a b nx idx : Nat} {v x y : Int32} {rest : List V0} (h : lk (jt J) pc = (53, a, b, v, nx, idx)) (hrm : 1 ≤ jf J ∧ 21 ≤ jo J) (hcc : cells ≤ mc ∧ slots ≤ ms) (hrest : rest.length ≤ 8) (k : E ε J mc ms cells slots nx ls (.inl (if y < x then y else x) :: rest) ws Q) : E ε J mc ms cells slots pc ls (.inl y :: .inl x :: rest) ws Q := by
  intro hT p e R s m args below meth c H locs lsA C hP hD hS hl
  have hok := e_op hT h (by decide)
  have K := k hT p e R s m args below meth c H locs lsA C hP hD hS hl
  obtain ⟨hx, hb, hrt, hml, hown, hts, hlk, hK, hB0, hR, hnm⟩ := C
  simp only [okOp, Bool.and_eq_true, decide_eq_true_eq] at hok
  obtain ⟨hok, hmem⟩ := hok
  obtain ⟨hd, rfl⟩ := okD_d hok
  have hlink := (mxT_ok _ hmem).2.2.1 rfl
  refine va_mmin hx hb (by rw [hml]; exact hl.1.symm) (e_own hT hown) (hts _ hlink) (hts _ mn_stat) (hts _ mt_ini) (hts _ mn_code) (by rw [hR]; exact hrm.1) ?_ (by rw [hR]; exact hcc.1) (by rw [hR]; exact hcc.2) hd K
  rw [hR]
  have := e_W8 (ε := ε) hrest
  exact Nat.le_trans (Nat.add_le_add_right this 13) hrm.2
/-- System.arraycopy of numbers: t0 0 (int) or 1 (boolean), n places from nI sp to nI dp -/
theorem e_copy {a b nx idx q0 q1 t0 a0 a1 n0 n1 sp dp n : Nat} {v : Int32} {pp p2 : Nat × Nat} {cA : ClassId} {f g : Nat → Int32} {ty : FieldType} {rest : List V0} (h : lk (jt J) pc = (54, a, b, v, nx, idx)) (hpt : e_vm ε (.inr pp) = .ref a0) (hpt2 : e_vm ε (.inr p2) = .ref a1) (hp0 : ws[q0]? = some (a0, .inl (cA, n0, .inl f))) (hp1 : ws[q1]? = some (a1, .inl (cA, n1, .inl g))) (ht : (e_tys ε)[t0]? = some (cA, ty)) (hprim : refKind ty = false) (h4 : sp + n ≤ n0) (h5 : dp + n ≤ n1) (hb0 : n0 < 2 ^ 31) (hb1 : n1 < 2 ^ 31) (hfit : ∀ i, i < n → fits ty (.int (f (sp + i))) = true) (hrm : 1 ≤ jf J ∧ 30 ≤ jo J) (hrest : rest.length ≤ 8)
    (k : E ε J mc ms cells slots nx ls rest (ws.set q1 (a1, .inl (cA, n1, .inl (va_cpy f g sp dp n)))) Q) : E ε J mc ms cells slots pc ls (.inl (nI n) :: .inl (nI dp) :: .inr p2 :: .inl (nI sp) :: .inr pp :: rest) ws Q := by
  intro hT p e R s m args below meth c H locs lsA C hP hD hS hl
  have hok := e_op hT h (by decide)
  have K := fun H locs hP hD hS => k hT p e R s m args below meth c H locs lsA C hP hD hS hl
  obtain ⟨hx, hb, hrt, hml, hown, hts, hlk, hK, hB0, hR, hnm⟩ := C
  simp only [okOp, Bool.and_eq_true, decide_eq_true_eq] at hok
  obtain ⟨hok, hmem⟩ := hok
  obtain ⟨hd, rfl⟩ := okD_d hok
  have hlink := (mxT_ok _ hmem).2.2.2 rfl
  have es : (nI sp).toNatClampNeg = sp := nI_clamp (by omega)
  have ed : (nI dp).toNatClampNeg = dp := nI_clamp (by omega)
  have en : (nI n).toNatClampNeg = n := nI_clamp (by omega)
  rw [List.map_cons, List.map_cons, List.map_cons, List.map_cons, List.map_cons, hpt, hpt2]
  refine va_copyi hx hb (by rw [hml]; exact hl.1.symm) (e_own hT hown) (hts _ hlink) (hts _ ac_nat) (hts _ ac_stat) (hts _ sy_ini) hK.1 hP hD hS q0 q1 t0 t0 hp0 hp1 ht ht hprim (nI_pos (by omega)) (nI_pos (by omega)) (nI_pos (by omega)) (by rw [es, en]; exact h4) (by rw [ed, en]; exact h5) (fun i hi => by rw [en] at hi; rw [es]; exact hfit i hi) (by rw [hR]; exact hrm.1) ?_ hd ?_
  · rw [hR]
    have := e_W8 (ε := ε) hrest
    have h7 : nativeFrameWords "java/lang/System" "arraycopy" 5 = 7 := by decide +kernel
    rw [h7]
    exact Nat.le_trans (Nat.add_le_add_right this 18) (Nat.le_trans (by omega) hrm.2)
  · rw [es, ed, en]
    exact K
end MD
end
section
/-! The world of this claim as numbers: G i k s is place s of part k of object i. Parts: 0..17 an office (i < 19: now 0, its slots 1, 2; moment j: 3j, 3j+1, 3j+2; trial 18): 0 Office, 1 Ranges, 2 its row, 3 Letters, 4..11 its rows, 12 Carriers, 13..16 its rows, 17 holes; 20..22 a moment (i < 6); 30 WalkFrames, 31 History, 32 its row, 33 RangeText, 34..37 its rows, 40 Line, 41 its row. -/
section ME
abbrev GG : Type := Nat → Nat → Nat → Int32
def objV (i kk : Nat) (g : Nat → Int32) : Option (Nat × List V0) := match kk with
  | 0 => some (5, [.inr (i, 1), .inr (i, 3), .inr (i, 12), .inr (i, 17), .inl (g 4), .inl (g 5), .inl (g 6), .inl (g 7)])
  | 1 => some (7, [.inr (i, 2)])
  | 3 => some (2, [.inr (i, 4), .inr (i, 5), .inr (i, 6), .inr (i, 7), .inr (i, 8), .inr (i, 9), .inr (i, 10), .inr (i, 11), .inl (g 8)])
  | 12 => some (0, [.inr (i, 13), .inr (i, 14), .inr (i, 15), .inr (i, 16)])
  | 20 => some (4, [.inr (3 * i, 0), .inr (i, 21), .inr (i, 22)])
  | 30 => some (8, [.inr (0, 20), .inr (0, 31), .inr (0, 33), .inr (18, 0), .inr (0, 40)])
  | 31 => some (1, [.inr (0, 32), .inl (g 1)])
  | 33 => some (6, [.inr (0, 34), .inl (g 1), .inr (0, 35), .inr (0, 36), .inr (0, 37), .inl (g 5), .inl (g 6), .inl (g 7)])
  | 40 => some (3, [.inr (0, 41), .inl (g 1)])
  | _ => none
/-- rows of numbers: the kind (0 int, 1 boolean, 2 char) and the length -/
def arrI (kk : Nat) : Option (Nat × Nat) := match kk with
  | 2 => some (0, 100)
  | 4 => some (0, 120) | 5 => some (0, 120) | 6 => some (0, 120) | 7 => some (0, 120) | 8 => some (0, 120) | 9 => some (0, 120) | 10 => some (0, 120)
  | 11 => some (0, 8) | 13 => some (0, 6) | 14 => some (1, 6) | 15 => some (0, 6) | 16 => some (0, 48) | 17 => some (0, 8)
  | 22 => some (1, 2) | 34 => some (2, 80) | 35 => some (0, 14) | 36 => some (0, 14) | 37 => some (0, 14) | 41 => some (0, 120)
  | _ => none
def cellE (ε : EE) (i kk : Nat) (g : Nat → Int32) : va_E := match objV i kk g with
  | some (t, fs) => .inr (t, fs.map (e_vm ε))
  | none => match arrI kk with
    | some (t, n) => .inl (ε.2.2.1 t, n, .inl g)
    | none => if kk = 21 then .inl (ε.2.2.1 3, 2, .inr (.inr (.inr (.inr (fun s => some (ε.2.2.2.2.1 (3 * i + 1 + s) 0)))))) else .inl (ε.2.2.1 4, 5, .inr (.inr (.inr (.inr (fun s => some (ε.2.2.2.2.1 (g s).toNatClampNeg 20))))))
def lim (kk : Nat) : Nat := if kk < 18 then 19 else match kk with
  | 20 => 6 | 21 => 6 | 22 => 6
  | 30 => 1 | 31 => 1 | 32 => 1 | 33 => 1 | 34 => 1 | 35 => 1 | 36 => 1 | 37 => 1 | 40 => 1 | 41 => 1
  | _ => 0
def vals : List (Nat × Nat) := (List.range 19).flatMap (fun i => (List.range 18).map (fun k => (i, k))) ++ ((List.range 6).flatMap (fun j => [(j, 20), (j, 21), (j, 22)]) ++ [(0, 30), (0, 31), (0, 32), (0, 33), (0, 34), (0, 35), (0, 36), (0, 37), (0, 40), (0, 41)])
theorem lim_le {i kk : Nat} (h : i < lim kk) : kk < 42 ∧ i < 19 := by
  unfold lim at h
  split at h
  · omega
  · split at h <;> omega
set_option maxRecDepth 100000 in
theorem vals_inb : (List.range 42).all (fun kk => (List.range 19).all (fun i => !(decide (i < lim kk)) || decide ((i, kk) ∈ vals))) = true := by decide +kernel
theorem vals_in (kk : Nat) (h1 : kk < 42) (i : Nat) (h2 : i < 19) (h : i < lim kk) : (i, kk) ∈ vals := by
  have h3 := List.all_eq_true.mp (List.all_eq_true.mp vals_inb kk (List.mem_range.2 h1)) i (List.mem_range.2 h2)
  rw [Bool.or_eq_true] at h3
  rcases h3 with h3 | h3
  · simp [h] at h3
  · exact of_decide_eq_true h3
set_option maxRecDepth 100000 in
theorem vals_nd : vals.Nodup := by decide +kernel
def wd (ε : EE) (G : GG) : va_W := vals.map (fun q => (ε.2.2.2.2.1 q.1 q.2, cellE ε q.1 q.2 (G q.1 q.2))) ++ ε.2.2.2.2.2
theorem wd_at (ε : EE) (G : GG) {i kk : Nat} (h : i < lim kk) : ∃ q0 : Nat, vals[q0]? = some (i, kk) ∧ (wd ε G)[q0]? = some (ε.2.2.2.2.1 i kk, cellE ε i kk (G i kk)) := by
  obtain ⟨h1, h2⟩ := lim_le h
  obtain ⟨q0, hq⟩ := List.getElem?_of_mem (vals_in kk h1 i h2 h)
  refine ⟨q0, hq, ?_⟩
  unfold wd
  rw [List.getElem?_append_left (by rw [List.length_map]; exact (List.getElem?_eq_some_iff.mp hq).1), List.getElem?_map, hq]
  rfl
def setA (G : GG) (i kk : Nat) (g : Nat → Int32) : GG := fun i' kk' => if i' = i ∧ kk' = kk then g else G i' kk'
def wr (G : GG) (i kk j : Nat) (x : Int32) : GG := setA G i kk (upd (G i kk) j x)
theorem setA_s (G : GG) (i kk : Nat) (g : Nat → Int32) : setA G i kk g i kk = g := by simp [setA]
theorem setA_k (G : GG) (i kk i' kk' : Nat) (g : Nat → Int32) (h : kk' ≠ kk) : setA G i kk g i' kk' = G i' kk' := by simp [setA, h]
theorem setA_i (G : GG) (i kk i' kk' : Nat) (g : Nat → Int32) (h : i' ≠ i) : setA G i kk g i' kk' = G i' kk' := by simp [setA, h]
theorem wd_set_aux {β : Type} (F : Nat × Nat → (Nat → Int32) → β) (G : GG) {i kk : Nat} (g : Nat → Int32) : ∀ (vs : List (Nat × Nat)) (q0 : Nat), vs.Nodup → vs[q0]? = some (i, kk) → (vs.map (fun q => F q (G q.1 q.2))).set q0 (F (i, kk) g) = vs.map (fun q => F q (setA G i kk g q.1 q.2))
  | [], q0, _, h => by simp at h
  | x :: t, 0, hn, h => by
    have hx : x = (i, kk) := by simpa using h
    subst hx
    have hnt : (i, kk) ∉ t := (List.nodup_cons.1 hn).1
    rw [List.map_cons, List.map_cons, List.set_cons_zero, setA_s]
    congr 1
    apply List.map_congr_left
    intro q hq
    have hne : ¬ (q.1 = i ∧ q.2 = kk) := by
      intro ⟨z1, z2⟩
      have hq2 : q = (i, kk) := by rcases q with ⟨a, b⟩; simp only [] at z1 z2; rw [z1, z2]
      exact hnt (hq2 ▸ hq)
    simp [setA, hne]
  | x :: t, q0 + 1, hn, h => by
    have ht : t[q0]? = some (i, kk) := by simpa using h
    have hnt := List.nodup_cons.1 hn
    have hne : ¬ (x.1 = i ∧ x.2 = kk) := by
      intro ⟨z1, z2⟩
      have hx : x = (i, kk) := by rcases x with ⟨a, b⟩; simp only [] at z1 z2; rw [z1, z2]
      exact hnt.1 (hx ▸ List.mem_of_getElem? ht)
    rw [List.map_cons, List.map_cons, List.set_cons_succ, wd_set_aux F G g t q0 hnt.2 ht]
    congr 1
    simp [setA, hne]
theorem wd_set (ε : EE) (G : GG) {i kk q0 : Nat} (g : Nat → Int32) (h : vals[q0]? = some (i, kk)) : (wd ε G).set q0 (ε.2.2.2.2.1 i kk, cellE ε i kk g) = wd ε (setA G i kk g) := by
  have h2 := wd_set_aux (fun q g => (ε.2.2.2.2.1 q.1 q.2, cellE ε q.1 q.2 g)) G g vals q0 vals_nd h
  unfold wd
  rw [List.set_append_left _ _ (by rw [List.length_map]; exact (List.getElem?_eq_some_iff.mp h).1), ← h2]
theorem e_vm_val (ε : EE) {i kk : Nat} (h : i < lim kk) : e_vm ε (.inr (i, kk)) = .ref (ε.2.2.2.2.1 i kk) := by
  have h1 := (lim_le h).1
  have a : Nat.beq kk 98 = false := by
    cases hb : Nat.beq kk 98 with
    | false => rfl
    | true => have := Nat.eq_of_beq_eq_true hb; omega
  have b : Nat.beq kk 99 = false := by
    cases hb : Nat.beq kk 99 with
    | false => rfl
    | true => have := Nat.eq_of_beq_eq_true hb; omega
  simp [e_vm, a, b]
theorem cellE_obj (ε : EE) {i kk t : Nat} {g : Nat → Int32} {fs : List V0} (h : objV i kk g = some (t, fs)) : cellE ε i kk g = .inr (t, fs.map (e_vm ε)) := by unfold cellE; rw [h]
theorem arrI_obj {kk t n : Nat} (h : arrI kk = some (t, n)) (i : Nat) (g : Nat → Int32) : objV i kk g = none ∧ n < 2 ^ 31 := by
  unfold arrI at h
  split at h <;> first | (cases h; done) | (cases h; exact ⟨rfl, by decide⟩)
theorem cellE_arr (ε : EE) {i kk t n : Nat} {g : Nat → Int32} (h : arrI kk = some (t, n)) : cellE ε i kk g = .inl (ε.2.2.1 t, n, .inl g) := by
  unfold cellE
  rw [(arrI_obj h i g).1, h]
end ME
section MF
variable {ε : EE} {J : JT} {pc : Nat} {ls : List (Option V0)} {st : List V0} {G : GG} {Q : Option Int32 → GG → Prop}
def E2 (ε : EE) (J : JT) (pc : Nat) (ls : List (Option V0)) (st : List V0) (G : GG) (Q : Option Int32 → GG → Prop) : Prop := E ε J 0 0 0 0 pc ls st (wd ε G) (fun v ws' => ∃ G', ws' = wd ε G' ∧ Q v G')
def C2 (ε : EE) (J : JT) (As : List V0) (G : GG) (Q : Option Int32 → GG → Prop) : Prop := e_Ct ε J 0 0 As (wd ε G) (fun v ws' => ∃ G', ws' = wd ε G' ∧ Q v G')
theorem C2.of {As : List V0} {ls : List (Option V0)} (hT : e_T J) (hls : e_in As (jm J) = ls) (hlen : Nat.ble As.length (jm J) = true) (h : E2 ε J 0 ls [] G Q) : C2 ε J As G Q := by
  subst hls
  exact e_met hT (Nat.le_of_ble_eq_true hlen) h
theorem e2_step {o a b nx tg : Nat} {v : Int32} {ls' : List (Option V0)} {st' : List V0} (h : lk (jt J) pc = (o, a, b, v, nx, tg)) (hs : stp o a v ls st = some (ls', st')) (k : E2 ε J nx ls' st' G Q) : E2 ε J pc ls st G Q := e_step h hs k
theorem e2_div {a b nx tg : Nat} {v x y : Int32} {t : List V0} (h : lk (jt J) pc = (9, a, b, v, nx, tg)) (hy : ¬ y = 0) (k : E2 ε J nx ls (.inl (x / y) :: t) G Q) : E2 ε J pc ls (.inl y :: .inl x :: t) G Q := e_div h hy k
theorem e2_if {o a b nx tg : Nat} {v : Int32} {P : Prop} {st' : List V0} (h : lk (jt J) pc = (o, a, b, v, nx, tg)) (hs : cnd o st = some (P, st')) (kt : P → E2 ε J tg ls st' G Q) (kf : ¬ P → E2 ε J nx ls st' G Q) : E2 ε J pc ls st G Q := e_if h hs kt kf
theorem e2_get {kf t nx idx i kk : Nat} {v : Int32} {fs : List V0} {w : V0} (h : lk (jt J) pc = (30, kf, t, v, nx, idx)) (hv : i < lim kk) (ho : objV i kk (G i kk) = some (t, fs)) (hw : fs[kf]? = some w) (k : E2 ε J nx ls (w :: st) G Q) : E2 ε J pc ls (.inr (i, kk) :: st) G Q := by
  obtain ⟨q0, h1, h2⟩ := wd_at ε G hv
  rw [cellE_obj ε ho] at h2
  exact e_get h (e_vm_val ε hv) h2 (by rw [List.getElem?_map, hw]; rfl) k
theorem e2_put {kf t nx idx i kk : Nat} {v x : Int32} {fs : List V0} (h : lk (jt J) pc = (31, kf, t, v, nx, idx)) (hv : i < lim kk) (ho : objV i kk (G i kk) = some (t, fs)) (ho2 : objV i kk (upd (G i kk) kf x) = some (t, fs.set kf (.inl x))) (hfin : (tbC t kf).2.2.2 = false) (hty : tyC t kf = .int) (hl0 : Nat.ble (kf + 1) fs.length = true) (k : E2 ε J nx ls st (wr G i kk kf x) Q) : E2 ε J pc ls (.inl x :: .inr (i, kk) :: st) G Q := by
  obtain ⟨q0, h1, h2⟩ := wd_at ε G hv
  rw [cellE_obj ε ho] at h2
  refine e_put h (e_vm_val ε hv) h2 hfin (by rw [hty]; rfl) (by rw [hty]; rfl) (by rw [List.length_map]; exact Nat.le_of_ble_eq_true hl0) ?_
  have h5 := wd_set ε G (upd (G i kk) kf x) h1
  rw [cellE_obj ε ho2, List.map_set] at h5
  rw [h5]
  exact k
theorem e2_putz {kf t nx idx i kk : Nat} {v x : Int32} {fs : List V0} (h : lk (jt J) pc = (31, kf, t, v, nx, idx)) (hv : i < lim kk) (ho : objV i kk (G i kk) = some (t, fs)) (ho2 : objV i kk (upd (G i kk) kf x) = some (t, fs.set kf (.inl x))) (hfin : (tbC t kf).2.2.2 = false) (hty : tyC t kf = .boolean) (hx : x = 0 ∨ x = 1) (hl0 : Nat.ble (kf + 1) fs.length = true) (k : E2 ε J nx ls st (wr G i kk kf x) Q) : E2 ε J pc ls (.inl x :: .inr (i, kk) :: st) G Q := by
  obtain ⟨q0, h1, h2⟩ := wd_at ε G hv
  rw [cellE_obj ε ho] at h2
  refine e_put h (e_vm_val ε hv) h2 hfin (by rw [hty]; rcases hx with rfl | rfl <;> rfl) (by rw [hty]; rcases hx with rfl | rfl <;> rfl) (by rw [List.length_map]; exact Nat.le_of_ble_eq_true hl0) ?_
  have h5 := wd_set ε G (upd (G i kk) kf x) h1
  rw [cellE_obj ε ho2, List.map_set] at h5
  rw [h5]
  exact k
theorem e2_iald {o a b nx i kk n : Nat} {v x : Int32} (j : Nat) (h : lk (jt J) pc = (32, a, b, v, nx, o)) (hx : x = nI j) (hv : i < lim kk) (ha : arrI kk = some (0, n)) (hj : j < n) (k : E2 ε J nx ls (.inl (G i kk j) :: st) G Q) : E2 ε J pc ls (.inl x :: .inr (i, kk) :: st) G Q := by
  subst hx
  obtain ⟨q0, h1, h2⟩ := wd_at ε G hv
  rw [cellE_arr ε ha] at h2
  exact e_iald h (e_vm_val ε hv) h2 hj (arrI_obj ha 0 (fun _ => 0)).2 k
theorem e2_zald {o a b nx i kk n : Nat} {v x : Int32} (j : Nat) (h : lk (jt J) pc = (33, a, b, v, nx, o)) (hx : x = nI j) (hv : i < lim kk) (ha : arrI kk = some (1, n)) (hj : j < n) (k : E2 ε J nx ls (.inl (G i kk j) :: st) G Q) : E2 ε J pc ls (.inl x :: .inr (i, kk) :: st) G Q := by
  subst hx
  obtain ⟨q0, h1, h2⟩ := wd_at ε G hv
  rw [cellE_arr ε ha] at h2
  exact e_zald h (e_vm_val ε hv) h2 hj (arrI_obj ha 0 (fun _ => 0)).2 k
theorem e2_cald {o a b nx i kk n : Nat} {v x : Int32} (j : Nat) (h : lk (jt J) pc = (34, a, b, v, nx, o)) (hx : x = nI j) (hv : i < lim kk) (ha : arrI kk = some (2, n)) (hj : j < n) (k : E2 ε J nx ls (.inl (G i kk j) :: st) G Q) : E2 ε J pc ls (.inl x :: .inr (i, kk) :: st) G Q := by
  subst hx
  obtain ⟨q0, h1, h2⟩ := wd_at ε G hv
  rw [cellE_arr ε ha] at h2
  exact e_cald h (e_vm_val ε hv) h2 hj (arrI_obj ha 0 (fun _ => 0)).2 k
theorem e2_iast {o a b nx i kk n : Nat} {v x y : Int32} (j : Nat) (h : lk (jt J) pc = (36, a, b, v, nx, o)) (hx : x = nI j) (hv : i < lim kk) (ha : arrI kk = some (0, n)) (hj : j < n) (k : E2 ε J nx ls st (wr G i kk j y) Q) : E2 ε J pc ls (.inl y :: .inl x :: .inr (i, kk) :: st) G Q := by
  subst hx
  obtain ⟨q0, h1, h2⟩ := wd_at ε G hv
  rw [cellE_arr ε ha] at h2
  refine e_iast h (e_vm_val ε hv) h2 hj (arrI_obj ha 0 (fun _ => 0)).2 ?_
  have h5 := wd_set ε G (upd (G i kk) j y) h1
  rw [cellE_arr ε ha] at h5
  rw [h5]
  exact k
theorem e2_zast {o a b nx i kk n : Nat} {v x y : Int32} (j : Nat) (h : lk (jt J) pc = (37, a, b, v, nx, o)) (hx : x = nI j) (hv : i < lim kk) (ha : arrI kk = some (1, n)) (hj : j < n) (hy : y = 0 ∨ y = 1) (k : E2 ε J nx ls st (wr G i kk j y) Q) : E2 ε J pc ls (.inl y :: .inl x :: .inr (i, kk) :: st) G Q := by
  subst hx
  obtain ⟨q0, h1, h2⟩ := wd_at ε G hv
  rw [cellE_arr ε ha] at h2
  refine e_zast h (e_vm_val ε hv) h2 hj (arrI_obj ha 0 (fun _ => 0)).2 (by rcases hy with rfl | rfl <;> rfl) ?_
  have h5 := wd_set ε G (upd (G i kk) j y) h1
  rw [cellE_arr ε ha] at h5
  rw [h5]
  exact k
theorem e2_cast {o a b nx i kk n : Nat} {v x y : Int32} (j : Nat) (h : lk (jt J) pc = (38, a, b, v, nx, o)) (hx : x = nI j) (hv : i < lim kk) (ha : arrI kk = some (2, n)) (hj : j < n) (hy : vp_nar .char y = y) (k : E2 ε J nx ls st (wr G i kk j y) Q) : E2 ε J pc ls (.inl y :: .inl x :: .inr (i, kk) :: st) G Q := by
  subst hx
  obtain ⟨q0, h1, h2⟩ := wd_at ε G hv
  rw [cellE_arr ε ha] at h2
  refine e_cast h (e_vm_val ε hv) h2 hj (arrI_obj ha 0 (fun _ => 0)).2 hy ?_
  have h5 := wd_set ε G (upd (G i kk) j y) h1
  rw [cellE_arr ε ha] at h5
  rw [h5]
  exact k
/-- a moment's slots: the office of slot j -/
theorem e2_aald21 {o a b nx i : Nat} {v x : Int32} (j : Nat) (h : lk (jt J) pc = (35, a, b, v, nx, o)) (hx : x = nI j) (hv : i < 6) (hj : j < 2) (k : E2 ε J nx ls (.inr (3 * i + 1 + j, 0) :: st) G Q) : E2 ε J pc ls (.inl x :: .inr (i, 21) :: st) G Q := by
  subst hx
  obtain ⟨q0, h1, h2⟩ := wd_at ε G (i := i) (kk := 21) hv
  exact e_aald (t0 := 3) h (e_vm_val ε (i := i) (kk := 21) hv) h2 rfl hj (by decide) rfl (e_vm_val ε (i := 3 * i + 1 + j) (kk := 0) (by show _ < 19; omega)) k
/-- the history's row: the moment at place j -/
theorem e2_aald32 {o a b nx m : Nat} {v x : Int32} (j : Nat) (h : lk (jt J) pc = (35, a, b, v, nx, o)) (hx : x = nI j) (hj : j < 5) (hm : G 0 32 j = nI m) (hm6 : m < 6) (k : E2 ε J nx ls (.inr (m, 20) :: st) G Q) : E2 ε J pc ls (.inl x :: .inr (0, 32) :: st) G Q := by
  subst hx
  obtain ⟨q0, h1, h2⟩ := wd_at ε G (i := 0) (kk := 32) (by decide)
  exact e_aald (t0 := 4) (aj := ε.2.2.2.2.1 m 20) h (e_vm_val ε (i := 0) (kk := 32) (by decide)) h2 rfl hj (by decide) (by simp only [hm]; rw [nI_clamp (by omega)]) (e_vm_val ε (i := m) (kk := 20) hm6) k
theorem e2_aast32 {o a b nx m : Nat} {v x : Int32} (j : Nat) (h : lk (jt J) pc = (39, a, b, v, nx, o)) (hx : x = nI j) (hj : j < 5) (hm6 : m < 6) (k : E2 ε J nx ls st (wr G 0 32 j (nI m)) Q) : E2 ε J pc ls (.inr (m, 20) :: .inl x :: .inr (0, 32) :: st) G Q := by
  subst hx
  obtain ⟨q0, h1, h2⟩ := wd_at ε G (i := 0) (kk := 32) (by decide)
  obtain ⟨q1, g1, g2⟩ := wd_at ε G (i := m) (kk := 20) hm6
  rw [cellE_obj ε (i := m) (kk := 20) rfl] at g2
  refine e_aast (t0 := 4) (aj := ε.2.2.2.2.1 m 20) h (e_vm_val ε (i := 0) (kk := 32) (by decide)) h2 rfl (e_vm_val ε (i := m) (kk := 20) hm6) g2 rfl hj (by decide) ?_
  have h5 := wd_set ε G (upd (G 0 32) j (nI m)) h1
  have h6 : cellE ε 0 32 (upd (G 0 32) j (nI m)) = .inl (ε.2.2.1 4, 5, .inr (.inr (.inr (.inr (va_up (fun s => some (ε.2.2.2.2.1 (G 0 32 s).toNatClampNeg 20)) j (some (ε.2.2.2.2.1 m 20))))))) := by
    have : (fun s => some (ε.2.2.2.2.1 (upd (G 0 32) j (nI m) s).toNatClampNeg 20)) = va_up (fun s => some (ε.2.2.2.2.1 (G 0 32 s).toNatClampNeg 20)) j (some (ε.2.2.2.2.1 m 20)) := by
      funext s
      by_cases hs : s = j
      · simp [upd, va_up, hs, nI_clamp (show m < 2 ^ 31 by omega)]
      · simp [upd, va_up, hs]
    rw [← this]
    rfl
  rw [h6] at h5
  rw [h5]
  exact k
theorem e2_alen {o a b nx i kk t n : Nat} {v : Int32} (h : lk (jt J) pc = (40, a, b, v, nx, o)) (hv : i < lim kk) (ha : arrI kk = some (t, n)) (ht : t < 3) (k : E2 ε J nx ls (.inl (nI n) :: st) G Q) : E2 ε J pc ls (.inr (i, kk) :: st) G Q := by
  obtain ⟨q0, h1, h2⟩ := wd_at ε G hv
  rw [cellE_arr ε ha] at h2
  rcases (show t = 0 ∨ t = 1 ∨ t = 2 by omega) with rfl | rfl | rfl
  · exact e_alen (t0 := 0) h (e_vm_val ε hv) h2 rfl k
  · exact e_alen (t0 := 1) h (e_vm_val ε hv) h2 rfl k
  · exact e_alen (t0 := 2) h (e_vm_val ε hv) h2 rfl k
theorem e2_iret {o a b nx : Nat} {v x : Int32} (h : lk (jt J) pc = (41, a, b, v, nx, o)) (hr : jr J = some .int) (hQ : Q (some x) G) : E2 ε J pc ls [.inl x] G Q := e_iret h hr (Nat.le_refl _) (Nat.le_refl _) ⟨G, rfl, hQ⟩
theorem e2_zret {o a b nx : Nat} {v x : Int32} (h : lk (jt J) pc = (41, a, b, v, nx, o)) (hr : jr J = some .boolean) (hv : vp_nar .boolean x = x) (hQ : Q (some x) G) : E2 ε J pc ls [.inl x] G Q := e_zret h hr (Nat.le_refl _) (Nat.le_refl _) hv ⟨G, rfl, hQ⟩
theorem e2_vret {o a b nx : Nat} {v : Int32} (h : lk (jt J) pc = (42, a, b, v, nx, o)) (hr : jr J = none) (hQ : Q none G) : E2 ε J pc ls [] G Q := e_vret h hr (Nat.le_refl _) (Nat.le_refl _) ⟨G, rfl, hQ⟩
/-- the callee is the method of its number, its frames and words fit -/
def e_fit (J J' : JT) : Prop := mN (jn J') = (jy J', jb J', jm J', jr J') ∧ Nat.ble (jf J' + 1) (jf J) = true ∧ Nat.ble (19 + jm J' + jo J') (jo J) = true
theorem e_fit.rm {J J' : JT} (h : e_fit J J') : jf J' + 1 ≤ jf J ∧ 8 + (jm J' + 11) + jo J' ≤ jo J := by
  have h1 := Nat.le_of_ble_eq_true h.2.1
  have h2 := Nat.le_of_ble_eq_true h.2.2
  omega
theorem e2_callVi {J' : JT} {n idx nx i kk ci : Nat} {v : Int32} {As rest : List V0} {fs : List V0} {Qc : Option Int32 → GG → Prop} {ty : FieldType} (h : lk (jt J) pc = (44, n, jn J', v, nx, idx)) (hT : e_fit J J') (hr : jr J' = some ty) (hn : As.length = n) (hst : st = As.reverse ++ .inr (i, kk) :: rest) (hrest : Nat.ble rest.length 8 = true) (hv : i < lim kk) (ho : objV i kk (G i kk) = some (ci, fs)) (hci : Nat.ble ci 8 = true) (hcn : nmC ci = (jy J').cls) (hC : C2 ε J' (.inr (i, kk) :: As) G Qc)
    (k : ∀ r G', Qc (some r) G' → E2 ε J nx ls (.inl r :: rest) G' Q) : E2 ε J pc ls st G Q := by
  obtain ⟨q0, h1, h2⟩ := wd_at ε G hv
  rw [cellE_obj ε ho] at h2
  refine e_callVi (cells := 0) (slots := 0) (mc' := 0) (ms' := 0) h hT.1 hr hT.rm hn hst (Nat.le_of_ble_eq_true hrest) (e_vm_val ε hv) h2 (Nat.lt_succ_of_le (Nat.le_of_ble_eq_true hci)) hcn hC ⟨Nat.le_refl _, Nat.le_refl _⟩ (fun r ws' z => ?_)
  obtain ⟨G', rfl, hq⟩ := z
  exact k r G' hq
theorem e2_callVv {J' : JT} {n idx nx i kk ci : Nat} {v : Int32} {As rest : List V0} {fs : List V0} {Qc : Option Int32 → GG → Prop} (h : lk (jt J) pc = (44, n, jn J', v, nx, idx)) (hT : e_fit J J') (hr : jr J' = none) (hn : As.length = n) (hst : st = As.reverse ++ .inr (i, kk) :: rest) (hrest : Nat.ble rest.length 8 = true) (hv : i < lim kk) (ho : objV i kk (G i kk) = some (ci, fs)) (hci : Nat.ble ci 8 = true) (hcn : nmC ci = (jy J').cls) (hC : C2 ε J' (.inr (i, kk) :: As) G Qc)
    (k : ∀ G', Qc none G' → E2 ε J nx ls rest G' Q) : E2 ε J pc ls st G Q := by
  obtain ⟨q0, h1, h2⟩ := wd_at ε G hv
  rw [cellE_obj ε ho] at h2
  refine e_callVv (cells := 0) (slots := 0) (mc' := 0) (ms' := 0) h hT.1 hr hT.rm hn hst (Nat.le_of_ble_eq_true hrest) (e_vm_val ε hv) h2 (Nat.lt_succ_of_le (Nat.le_of_ble_eq_true hci)) hcn hC ⟨Nat.le_refl _, Nat.le_refl _⟩ (fun ws' z => ?_)
  obtain ⟨G', rfl, hq⟩ := z
  exact k G' hq
theorem e2_callSi {J' : JT} {n idx nx : Nat} {v : Int32} {As rest : List V0} {Qc : Option Int32 → GG → Prop} {ty : FieldType} (h : lk (jt J) pc = (46, n, jn J', v, nx, idx)) (hT : e_fit J J') (hr : jr J' = some ty) (hn : As.length = n) (hst : st = As.reverse ++ rest) (hrest : Nat.ble rest.length 8 = true) (hC : C2 ε J' As G Qc)
    (k : ∀ r G', Qc (some r) G' → E2 ε J nx ls (.inl r :: rest) G' Q) : E2 ε J pc ls st G Q := by
  refine e_callSi (cells := 0) (slots := 0) (mc' := 0) (ms' := 0) h hT.1 hr hT.rm hn hst (Nat.le_of_ble_eq_true hrest) hC ⟨Nat.le_refl _, Nat.le_refl _⟩ (fun r ws' z => ?_)
  obtain ⟨G', rfl, hq⟩ := z
  exact k r G' hq
theorem e2_max {a b nx idx : Nat} {v x y : Int32} {rest : List V0} (h : lk (jt J) pc = (52, a, b, v, nx, idx)) (hrm : (Nat.ble 1 (jf J) && Nat.ble 21 (jo J)) = true) (hrest : Nat.ble rest.length 8 = true) (k : E2 ε J nx ls (.inl (if x < y then y else x) :: rest) G Q) : E2 ε J pc ls (.inl y :: .inl x :: rest) G Q := by
  rw [Bool.and_eq_true] at hrm
  exact e_max h ⟨Nat.le_of_ble_eq_true hrm.1, Nat.le_of_ble_eq_true hrm.2⟩ ⟨Nat.le_refl _, Nat.le_refl _⟩ (Nat.le_of_ble_eq_true hrest) k
theorem e2_min {a b nx idx : Nat} {v x y : Int32} {rest : List V0} (h : lk (jt J) pc = (53, a, b, v, nx, idx)) (hrm : (Nat.ble 1 (jf J) && Nat.ble 21 (jo J)) = true) (hrest : Nat.ble rest.length 8 = true) (k : E2 ε J nx ls (.inl (if y < x then y else x) :: rest) G Q) : E2 ε J pc ls (.inl y :: .inl x :: rest) G Q := by
  rw [Bool.and_eq_true] at hrm
  exact e_min h ⟨Nat.le_of_ble_eq_true hrm.1, Nat.le_of_ble_eq_true hrm.2⟩ ⟨Nat.le_refl _, Nat.le_refl _⟩ (Nat.le_of_ble_eq_true hrest) k
/-- System.arraycopy of the first n places of a row of ints -/
theorem e2_copy {a b nx idx i kk i2 n0 n1 : Nat} {v : Int32} {rest : List V0} (n : Nat) (h : lk (jt J) pc = (54, a, b, v, nx, idx)) (hv : i < lim kk) (hv2 : i2 < lim kk) (ha : arrI kk = some (0, n0)) (hn : n ≤ n0) (hrm : (Nat.ble 1 (jf J) && Nat.ble 30 (jo J)) = true) (hrest : Nat.ble rest.length 8 = true)
    (k : E2 ε J nx ls rest (setA G i2 kk (fun s => if s < n then G i kk s else G i2 kk s)) Q) : E2 ε J pc ls (.inl (nI n) :: .inl (nI 0) :: .inr (i2, kk) :: .inl (nI 0) :: .inr (i, kk) :: rest) G Q := by
  rw [Bool.and_eq_true] at hrm
  obtain ⟨q0, h1, h2⟩ := wd_at ε G hv
  obtain ⟨q1, g1, g2⟩ := wd_at ε G hv2
  rw [cellE_arr ε ha] at h2 g2
  have hb := (arrI_obj ha 0 (fun _ => 0)).2
  refine e_copy (t0 := 0) (ty := .int) h (e_vm_val ε hv) (e_vm_val ε hv2) h2 g2 rfl rfl (by omega) (by omega) hb hb (fun _ _ => rfl) ⟨Nat.le_of_ble_eq_true hrm.1, Nat.le_of_ble_eq_true hrm.2⟩ (Nat.le_of_ble_eq_true hrest) ?_
  have h5 := wd_set ε G (fun s => if s < n then G i kk s else G i2 kk s) g1
  rw [cellE_arr ε ha] at h5
  have h6 : va_cpy (G i kk) (G i2 kk) 0 0 n = fun s => if s < n then G i kk s else G i2 kk s := by
    funext s
    simp [va_cpy]
  rw [h6, h5]
  exact k
theorem e2_copyz {a b nx idx i kk i2 n0 n1 : Nat} {v : Int32} {rest : List V0} (n : Nat) (h : lk (jt J) pc = (54, a, b, v, nx, idx)) (hv : i < lim kk) (hv2 : i2 < lim kk) (ha : arrI kk = some (1, n0)) (hn : n ≤ n0) (hz : ∀ s, s < n → G i kk s = 0 ∨ G i kk s = 1) (hrm : (Nat.ble 1 (jf J) && Nat.ble 30 (jo J)) = true) (hrest : Nat.ble rest.length 8 = true)
    (k : E2 ε J nx ls rest (setA G i2 kk (fun s => if s < n then G i kk s else G i2 kk s)) Q) : E2 ε J pc ls (.inl (nI n) :: .inl (nI 0) :: .inr (i2, kk) :: .inl (nI 0) :: .inr (i, kk) :: rest) G Q := by
  rw [Bool.and_eq_true] at hrm
  obtain ⟨q0, h1, h2⟩ := wd_at ε G hv
  obtain ⟨q1, g1, g2⟩ := wd_at ε G hv2
  rw [cellE_arr ε ha] at h2 g2
  have hb := (arrI_obj ha 0 (fun _ => 0)).2
  refine e_copy (t0 := 1) (ty := .boolean) h (e_vm_val ε hv) (e_vm_val ε hv2) h2 g2 rfl rfl (by omega) (by omega) hb hb (fun s hs => by
    rw [Nat.zero_add]
    rcases hz s hs with z | z <;> rw [z] <;> rfl) ⟨Nat.le_of_ble_eq_true hrm.1, Nat.le_of_ble_eq_true hrm.2⟩ (Nat.le_of_ble_eq_true hrest) ?_
  have h5 := wd_set ε G (fun s => if s < n then G i kk s else G i2 kk s) g1
  rw [cellE_arr ε ha] at h5
  have h6 : va_cpy (G i kk) (G i2 kk) 0 0 n = fun s => if s < n then G i kk s else G i2 kk s := by
    funext s
    simp [va_cpy]
  rw [h6, h5]
  exact k
end MF
end
section
/-! printed by a program: the methods' instructions as tables, and that they are what the bytes say -/
def tX0_init : List (Nat × OpT) := [(0, 3, 0, 0, 0, 1, 0), (1, 51, 0, 0, 0, 4, 3), (4, 3, 0, 0, 0, 5, 0), (5, 1, 0, 0, nI 6, 7, 0), (7, 48, 0, 0, 0, 9, 0), (9, 31, 0, 0, 0, 12, 9), (12, 3, 0, 0, 0, 13, 0), (13, 1, 0, 0, nI 6, 15, 0), (15, 48, 0, 0, 0, 17, 0), (17, 31, 1, 0, 0, 20, 15), (20, 3, 0, 0, 0, 21, 0), (21, 1, 0, 0, nI 6, 23, 0), (23, 48, 0, 0, 0, 25, 0), (25, 31, 2, 0, 0, 28, 19), (28, 3, 0, 0, 0, 29, 0), (29, 1, 0, 0, nI 48, 31, 0), (31, 48, 0, 0, 0, 33, 0), (33, 31, 3, 0, 0, 36, 22), (36, 1, 0, 0, nI 0, 37, 0), (37, 4, 1, 0, 0, 38, 0), (38, 2, 1, 0, 0, 39, 0), (39, 1, 0, 0, nI 6, 41, 0), (41, 23, 0, 0, 0, 44, 58), (44, 3, 0, 0, 0, 45, 0), (45, 30, 0, 0, 0, 48, 9), (48, 2, 1, 0, 0, 49, 0), (49, 1, 0, 0, -9, 51, 0), (51, 36, 0, 0, 0, 52, 0), (52, 12, 1, 0, nI 1, 55, 0), (55, 13, 0, 0, 0, 38, 0), (58, 42, 0, 0, 0, 59, 0)]
def jX0_init : JT := (0, yX0_init, cX0_init, 2, none, 1, 20, 0, tX0_init)
theorem okX0_init : e_T jX0_init := ⟨by decide +kernel, rfl, rfl, by decide +kernel⟩
def tX0_copyFrom : List (Nat × OpT) := [(0, 3, 1, 0, 0, 1, 0), (1, 30, 0, 0, 0, 4, 9), (4, 1, 0, 0, nI 0, 5, 0), (5, 3, 0, 0, 0, 6, 0), (6, 30, 0, 0, 0, 9, 9), (9, 1, 0, 0, nI 0, 10, 0), (10, 1, 0, 0, nI 6, 12, 0), (12, 54, 0, 0, 0, 15, 25), (15, 3, 1, 0, 0, 16, 0), (16, 30, 1, 0, 0, 19, 15), (19, 1, 0, 0, nI 0, 20, 0), (20, 3, 0, 0, 0, 21, 0), (21, 30, 1, 0, 0, 24, 15), (24, 1, 0, 0, nI 0, 25, 0), (25, 1, 0, 0, nI 6, 27, 0), (27, 54, 0, 0, 0, 30, 25), (30, 3, 1, 0, 0, 31, 0), (31, 30, 2, 0, 0, 34, 19), (34, 1, 0, 0, nI 0, 35, 0), (35, 3, 0, 0, 0, 36, 0), (36, 30, 2, 0, 0, 39, 19), (39, 1, 0, 0, nI 0, 40, 0), (40, 1, 0, 0, nI 6, 42, 0), (42, 54, 0, 0, 0, 45, 25), (45, 3, 1, 0, 0, 46, 0), (46, 30, 3, 0, 0, 49, 22), (49, 1, 0, 0, nI 0, 50, 0), (50, 3, 0, 0, 0, 51, 0), (51, 30, 3, 0, 0, 54, 22), (54, 1, 0, 0, nI 0, 55, 0), (55, 1, 0, 0, nI 48, 57, 0), (57, 54, 0, 0, 0, 60, 25), (60, 42, 0, 0, 0, 61, 0)]
def jX0_copyFrom : JT := (1, yX0_copyFrom, cX0_copyFrom, 2, none, 1, 30, 0, tX0_copyFrom)
theorem okX0_copyFrom : e_T jX0_copyFrom := ⟨by decide +kernel, rfl, rfl, by decide +kernel⟩
def tX0_ofWalk : List (Nat × OpT) := [(0, 1, 0, 0, nI 0, 1, 0), (1, 4, 2, 0, 0, 2, 0), (2, 2, 2, 0, 0, 3, 0), (3, 1, 0, 0, nI 6, 5, 0), (5, 23, 0, 0, 0, 8, 26), (8, 3, 0, 0, 0, 9, 0), (9, 30, 0, 0, 0, 12, 9), (12, 2, 2, 0, 0, 13, 0), (13, 32, 0, 0, 0, 14, 0), (14, 2, 1, 0, 0, 15, 0), (15, 21, 0, 0, 0, 18, 20), (18, 2, 2, 0, 0, 19, 0), (19, 41, 0, 0, 0, 20, 0), (20, 12, 2, 0, nI 1, 23, 0), (23, 13, 0, 0, 0, 2, 0), (26, 1, 0, 0, -9, 28, 0), (28, 41, 0, 0, 0, 29, 0)]
def jX0_ofWalk : JT := (2, yX0_ofWalk, cX0_ofWalk, 3, (some .int), 0, 0, 0, tX0_ofWalk)
theorem okX0_ofWalk : e_T jX0_ofWalk := ⟨by decide +kernel, rfl, rfl, by decide +kernel⟩
def tX0_countOut : List (Nat × OpT) := [(0, 1, 0, 0, nI 0, 1, 0), (1, 4, 1, 0, 0, 2, 0), (2, 1, 0, 0, nI 0, 3, 0), (3, 4, 2, 0, 0, 4, 0), (4, 2, 2, 0, 0, 5, 0), (5, 1, 0, 0, nI 6, 7, 0), (7, 23, 0, 0, 0, 10, 28), (10, 3, 0, 0, 0, 11, 0), (11, 30, 1, 0, 0, 14, 15), (14, 2, 2, 0, 0, 15, 0), (15, 33, 0, 0, 0, 16, 0), (16, 14, 0, 0, 0, 19, 22), (19, 12, 1, 0, nI 1, 22, 0), (22, 12, 2, 0, nI 1, 25, 0), (25, 13, 0, 0, 0, 4, 0), (28, 2, 1, 0, 0, 29, 0), (29, 41, 0, 0, 0, 30, 0)]
def jX0_countOut : JT := (3, yX0_countOut, cX0_countOut, 3, (some .int), 0, 0, 0, tX0_countOut)
theorem okX0_countOut : e_T jX0_countOut := ⟨by decide +kernel, rfl, rfl, by decide +kernel⟩
def tX0_countRounds : List (Nat × OpT) := [(0, 1, 0, 0, nI 0, 1, 0), (1, 4, 1, 0, 0, 2, 0), (2, 1, 0, 0, nI 0, 3, 0), (3, 4, 2, 0, 0, 4, 0), (4, 2, 2, 0, 0, 5, 0), (5, 3, 0, 0, 0, 6, 0), (6, 30, 3, 0, 0, 9, 22), (9, 40, 0, 0, 0, 10, 0), (10, 23, 0, 0, 0, 13, 28), (13, 2, 1, 0, 0, 14, 0), (14, 3, 0, 0, 0, 15, 0), (15, 30, 3, 0, 0, 18, 22), (18, 2, 2, 0, 0, 19, 0), (19, 32, 0, 0, 0, 20, 0), (20, 6, 0, 0, 0, 21, 0), (21, 4, 1, 0, 0, 22, 0), (22, 12, 2, 0, nI 1, 25, 0), (25, 13, 0, 0, 0, 4, 0), (28, 2, 1, 0, 0, 29, 0), (29, 41, 0, 0, 0, 30, 0)]
def jX0_countRounds : JT := (4, yX0_countRounds, cX0_countRounds, 3, (some .int), 0, 0, 0, tX0_countRounds)
theorem okX0_countRounds : e_T jX0_countRounds := ⟨by decide +kernel, rfl, rfl, by decide +kernel⟩
def tX0_roundsOn : List (Nat × OpT) := [(0, 2, 1, 0, 0, 1, 0), (1, 46, 1, 99, 0, 4, 31), (4, 14, 0, 0, 0, 7, 28), (7, 2, 2, 0, 0, 8, 0), (8, 46, 1, 98, 0, 11, 35), (11, 14, 0, 0, 0, 14, 28), (14, 3, 0, 0, 0, 15, 0), (15, 30, 3, 0, 0, 18, 22), (18, 2, 1, 0, 0, 19, 0), (19, 1, 0, 0, nI 8, 21, 0), (21, 8, 0, 0, 0, 22, 0), (22, 2, 2, 0, 0, 23, 0), (23, 6, 0, 0, 0, 24, 0), (24, 32, 0, 0, 0, 25, 0), (25, 13, 0, 0, 0, 29, 0), (28, 1, 0, 0, nI 0, 29, 0), (29, 41, 0, 0, 0, 30, 0)]
def jX0_roundsOn : JT := (5, yX0_roundsOn, cX0_roundsOn, 3, (some .int), 1, 20, 0, tX0_roundsOn)
theorem okX0_roundsOn : e_T jX0_roundsOn := ⟨by decide +kernel, rfl, rfl, by decide +kernel⟩
def tX0_knows : List (Nat × OpT) := [(0, 3, 0, 0, 0, 1, 0), (1, 2, 1, 0, 0, 2, 0), (2, 2, 2, 0, 0, 3, 0), (3, 44, 2, 5, 0, 6, 38), (6, 1, 0, 0, nI 2, 7, 0), (7, 22, 0, 0, 0, 10, 14), (10, 1, 0, 0, nI 1, 11, 0), (11, 13, 0, 0, 0, 15, 0), (14, 1, 0, 0, nI 0, 15, 0), (15, 41, 0, 0, 0, 16, 0)]
def jX0_knows : JT := (6, yX0_knows, cX0_knows, 3, (some .boolean), 2, 42, 0, tX0_knows)
theorem okX0_knows : e_T jX0_knows := ⟨by decide +kernel, rfl, rfl, by decide +kernel⟩
def tX0_endRound : List (Nat × OpT) := [(0, 2, 1, 0, 0, 1, 0), (1, 46, 1, 99, 0, 4, 31), (4, 14, 0, 0, 0, 7, 56), (7, 3, 0, 0, 0, 8, 0), (8, 30, 0, 0, 0, 11, 9), (11, 2, 1, 0, 0, 12, 0), (12, 32, 0, 0, 0, 13, 0), (13, 46, 1, 98, 0, 16, 35), (16, 14, 0, 0, 0, 19, 56), (19, 3, 0, 0, 0, 20, 0), (20, 30, 1, 0, 0, 23, 15), (23, 2, 1, 0, 0, 24, 0), (24, 1, 0, 0, nI 0, 25, 0), (25, 37, 0, 0, 0, 26, 0), (26, 3, 0, 0, 0, 27, 0), (27, 30, 2, 0, 0, 30, 19), (30, 2, 1, 0, 0, 31, 0), (31, 27, 0, 0, 0, 32, 0), (32, 32, 0, 0, 0, 33, 0), (33, 2, 2, 0, 0, 34, 0), (34, 6, 0, 0, 0, 35, 0), (35, 36, 0, 0, 0, 36, 0), (36, 3, 0, 0, 0, 37, 0), (37, 30, 3, 0, 0, 40, 22), (40, 2, 1, 0, 0, 41, 0), (41, 1, 0, 0, nI 8, 43, 0), (43, 8, 0, 0, 0, 44, 0), (44, 3, 0, 0, 0, 45, 0), (45, 30, 0, 0, 0, 48, 9), (48, 2, 1, 0, 0, 49, 0), (49, 32, 0, 0, 0, 50, 0), (50, 6, 0, 0, 0, 51, 0), (51, 27, 0, 0, 0, 52, 0), (52, 32, 0, 0, 0, 53, 0), (53, 1, 0, 0, nI 1, 54, 0), (54, 6, 0, 0, 0, 55, 0), (55, 36, 0, 0, 0, 56, 0), (56, 42, 0, 0, 0, 57, 0)]
def jX0_endRound : JT := (7, yX0_endRound, cX0_endRound, 3, none, 1, 20, 0, tX0_endRound)
theorem okX0_endRound : e_T jX0_endRound := ⟨by decide +kernel, rfl, rfl, by decide +kernel⟩
def tX0_bestWithoutWalk : List (Nat × OpT) := [(0, 1, 0, 0, -9, 2, 0), (2, 4, 2, 0, 0, 3, 0), (3, 1, 0, 0, nI 0, 4, 0), (4, 4, 3, 0, 0, 5, 0), (5, 2, 3, 0, 0, 6, 0), (6, 1, 0, 0, nI 6, 8, 0), (8, 23, 0, 0, 0, 11, 51), (11, 3, 0, 0, 0, 12, 0), (12, 30, 0, 0, 0, 15, 9), (15, 2, 3, 0, 0, 16, 0), (16, 32, 0, 0, 0, 17, 0), (17, 1, 0, 0, -9, 19, 0), (19, 21, 0, 0, 0, 22, 45), (22, 2, 2, 0, 0, 23, 0), (23, 1, 0, 0, -9, 25, 0), (25, 20, 0, 0, 0, 28, 43), (28, 3, 0, 0, 0, 29, 0), (29, 2, 3, 0, 0, 30, 0), (30, 2, 1, 0, 0, 31, 0), (31, 44, 2, 5, 0, 34, 38), (34, 3, 0, 0, 0, 35, 0), (35, 2, 2, 0, 0, 36, 0), (36, 2, 1, 0, 0, 37, 0), (37, 44, 2, 5, 0, 40, 38), (40, 25, 0, 0, 0, 43, 45), (43, 2, 3, 0, 0, 44, 0), (44, 4, 2, 0, 0, 45, 0), (45, 12, 3, 0, nI 1, 48, 0), (48, 13, 0, 0, 0, 5, 0), (51, 2, 2, 0, 0, 52, 0), (52, 41, 0, 0, 0, 53, 0)]
def jX0_bestWithoutWalk : JT := (8, yX0_bestWithoutWalk, cX0_bestWithoutWalk, 4, (some .int), 2, 42, 0, tX0_bestWithoutWalk)
theorem okX0_bestWithoutWalk : e_T jX0_bestWithoutWalk := ⟨by decide +kernel, rfl, rfl, by decide +kernel⟩
def tX1_init : List (Nat × OpT) := [(0, 3, 0, 0, 0, 1, 0), (1, 51, 0, 0, 0, 4, 3), (4, 3, 0, 0, 0, 5, 0), (5, 1, 0, 0, nI 5, 6, 0), (6, 49, 0, 0, 0, 9, 9), (9, 31, 0, 1, 0, 12, 11), (12, 1, 0, 0, nI 0, 13, 0), (13, 4, 1, 0, 0, 14, 0), (14, 2, 1, 0, 0, 15, 0), (15, 1, 0, 0, nI 5, 16, 0), (16, 23, 0, 0, 0, 19, 38), (19, 3, 0, 0, 0, 20, 0), (20, 30, 0, 1, 0, 23, 11), (23, 2, 1, 0, 0, 24, 0), (24, 47, 0, 0, 0, 27, 9), (27, 26, 0, 0, 0, 28, 0), (28, 45, 0, 37, 0, 31, 17), (31, 39, 0, 0, 0, 32, 0), (32, 12, 1, 0, nI 1, 35, 0), (35, 13, 0, 0, 0, 14, 0), (38, 42, 0, 0, 0, 39, 0)]
def jX1_init : JT := (9, yX1_init, cX1_init, 2, none, 5, 108, 1, tX1_init)
theorem okX1_init : e_T jX1_init := ⟨by decide +kernel, rfl, rfl, by decide +kernel⟩
def tX1_remember : List (Nat × OpT) := [(0, 3, 0, 0, 0, 1, 0), (1, 30, 1, 1, 0, 4, 18), (4, 1, 0, 0, nI 5, 5, 0), (5, 22, 0, 0, 0, 8, 12), (8, 3, 0, 0, 0, 9, 0), (9, 44, 0, 11, 0, 12, 22), (12, 3, 0, 0, 0, 13, 0), (13, 30, 0, 1, 0, 16, 11), (16, 3, 0, 0, 0, 17, 0), (17, 30, 1, 1, 0, 20, 18), (20, 35, 0, 0, 0, 21, 0), (21, 3, 1, 0, 0, 22, 0), (22, 44, 1, 38, 0, 25, 25), (25, 3, 0, 0, 0, 26, 0), (26, 26, 0, 0, 0, 27, 0), (27, 30, 1, 1, 0, 30, 18), (30, 1, 0, 0, nI 1, 31, 0), (31, 6, 0, 0, 0, 32, 0), (32, 31, 1, 1, 0, 35, 18), (35, 42, 0, 0, 0, 36, 0)]
def jX1_remember : JT := (10, yX1_remember, cX1_remember, 2, none, 4, 94, 1, tX1_remember)
theorem okX1_remember : e_T jX1_remember := ⟨by decide +kernel, rfl, rfl, by decide +kernel⟩
def tX1_dropOldest : List (Nat × OpT) := [(0, 3, 0, 0, 0, 1, 0), (1, 30, 0, 1, 0, 4, 11), (4, 1, 0, 0, nI 0, 5, 0), (5, 35, 0, 0, 0, 6, 0), (6, 5, 1, 0, 0, 7, 0), (7, 1, 0, 0, nI 1, 8, 0), (8, 4, 2, 0, 0, 9, 0), (9, 2, 2, 0, 0, 10, 0), (10, 1, 0, 0, nI 5, 11, 0), (11, 23, 0, 0, 0, 14, 34), (14, 3, 0, 0, 0, 15, 0), (15, 30, 0, 1, 0, 18, 11), (18, 2, 2, 0, 0, 19, 0), (19, 1, 0, 0, nI 1, 20, 0), (20, 7, 0, 0, 0, 21, 0), (21, 3, 0, 0, 0, 22, 0), (22, 30, 0, 1, 0, 25, 11), (25, 2, 2, 0, 0, 26, 0), (26, 35, 0, 0, 0, 27, 0), (27, 39, 0, 0, 0, 28, 0), (28, 12, 2, 0, nI 1, 31, 0), (31, 13, 0, 0, 0, 9, 0), (34, 3, 0, 0, 0, 35, 0), (35, 30, 0, 1, 0, 38, 11), (38, 1, 0, 0, nI 4, 39, 0), (39, 3, 1, 0, 0, 40, 0), (40, 39, 0, 0, 0, 41, 0), (41, 3, 0, 0, 0, 42, 0), (42, 26, 0, 0, 0, 43, 0), (43, 30, 1, 1, 0, 46, 18), (46, 1, 0, 0, nI 1, 47, 0), (47, 7, 0, 0, 0, 48, 0), (48, 31, 1, 1, 0, 51, 18), (51, 42, 0, 0, 0, 52, 0)]
def jX1_dropOldest : JT := (11, yX1_dropOldest, cX1_dropOldest, 3, none, 0, 0, 1, tX1_dropOldest)
theorem okX1_dropOldest : e_T jX1_dropOldest := ⟨by decide +kernel, rfl, rfl, by decide +kernel⟩
def tX1_giveBack : List (Nat × OpT) := [(0, 3, 0, 0, 0, 1, 0), (1, 30, 1, 1, 0, 4, 18), (4, 19, 0, 0, 0, 7, 30), (7, 3, 0, 0, 0, 8, 0), (8, 26, 0, 0, 0, 9, 0), (9, 30, 1, 1, 0, 12, 18), (12, 1, 0, 0, nI 1, 13, 0), (13, 7, 0, 0, 0, 14, 0), (14, 31, 1, 1, 0, 17, 18), (17, 3, 1, 0, 0, 18, 0), (18, 3, 0, 0, 0, 19, 0), (19, 30, 0, 1, 0, 22, 11), (22, 3, 0, 0, 0, 23, 0), (23, 30, 1, 1, 0, 26, 18), (26, 35, 0, 0, 0, 27, 0), (27, 44, 1, 38, 0, 30, 25), (30, 42, 0, 0, 0, 31, 0)]
def jX1_giveBack : JT := (12, yX1_giveBack, cX1_giveBack, 2, none, 4, 94, 1, tX1_giveBack)
theorem okX1_giveBack : e_T jX1_giveBack := ⟨by decide +kernel, rfl, rfl, by decide +kernel⟩
def tX2_init : List (Nat × OpT) := [(0, 3, 0, 0, 0, 1, 0), (1, 51, 0, 0, 0, 4, 3), (4, 3, 0, 0, 0, 5, 0), (5, 1, 0, 0, nI 120, 7, 0), (7, 48, 0, 0, 0, 9, 0), (9, 31, 0, 2, 0, 12, 9), (12, 3, 0, 0, 0, 13, 0), (13, 1, 0, 0, nI 120, 15, 0), (15, 48, 0, 0, 0, 17, 0), (17, 31, 1, 2, 0, 20, 15), (20, 3, 0, 0, 0, 21, 0), (21, 1, 0, 0, nI 120, 23, 0), (23, 48, 0, 0, 0, 25, 0), (25, 31, 2, 2, 0, 28, 18), (28, 3, 0, 0, 0, 29, 0), (29, 1, 0, 0, nI 120, 31, 0), (31, 48, 0, 0, 0, 33, 0), (33, 31, 3, 2, 0, 36, 21), (36, 3, 0, 0, 0, 37, 0), (37, 1, 0, 0, nI 120, 39, 0), (39, 48, 0, 0, 0, 41, 0), (41, 31, 4, 2, 0, 44, 24), (44, 3, 0, 0, 0, 45, 0), (45, 1, 0, 0, nI 120, 47, 0), (47, 48, 0, 0, 0, 49, 0), (49, 31, 5, 2, 0, 52, 27), (52, 3, 0, 0, 0, 53, 0), (53, 1, 0, 0, nI 120, 55, 0), (55, 48, 0, 0, 0, 57, 0), (57, 31, 6, 2, 0, 60, 30), (60, 3, 0, 0, 0, 61, 0), (61, 1, 0, 0, nI 8, 63, 0), (63, 48, 0, 0, 0, 65, 0), (65, 31, 7, 2, 0, 68, 33), (68, 42, 0, 0, 0, 69, 0)]
def jX2_init : JT := (13, yX2_init, cX2_init, 1, none, 1, 20, 2, tX2_init)
theorem okX2_init : e_T jX2_init := ⟨by decide +kernel, rfl, rfl, by decide +kernel⟩
def tX2_copyFrom : List (Nat × OpT) := [(0, 3, 1, 0, 0, 1, 0), (1, 30, 0, 2, 0, 4, 9), (4, 1, 0, 0, nI 0, 5, 0), (5, 3, 0, 0, 0, 6, 0), (6, 30, 0, 2, 0, 9, 9), (9, 1, 0, 0, nI 0, 10, 0), (10, 1, 0, 0, nI 120, 12, 0), (12, 54, 0, 0, 0, 15, 36), (15, 3, 1, 0, 0, 16, 0), (16, 30, 1, 2, 0, 19, 15), (19, 1, 0, 0, nI 0, 20, 0), (20, 3, 0, 0, 0, 21, 0), (21, 30, 1, 2, 0, 24, 15), (24, 1, 0, 0, nI 0, 25, 0), (25, 1, 0, 0, nI 120, 27, 0), (27, 54, 0, 0, 0, 30, 36), (30, 3, 1, 0, 0, 31, 0), (31, 30, 2, 2, 0, 34, 18), (34, 1, 0, 0, nI 0, 35, 0), (35, 3, 0, 0, 0, 36, 0), (36, 30, 2, 2, 0, 39, 18), (39, 1, 0, 0, nI 0, 40, 0), (40, 1, 0, 0, nI 120, 42, 0), (42, 54, 0, 0, 0, 45, 36), (45, 3, 1, 0, 0, 46, 0), (46, 30, 3, 2, 0, 49, 21), (49, 1, 0, 0, nI 0, 50, 0), (50, 3, 0, 0, 0, 51, 0), (51, 30, 3, 2, 0, 54, 21), (54, 1, 0, 0, nI 0, 55, 0), (55, 1, 0, 0, nI 120, 57, 0), (57, 54, 0, 0, 0, 60, 36), (60, 3, 1, 0, 0, 61, 0), (61, 30, 4, 2, 0, 64, 24), (64, 1, 0, 0, nI 0, 65, 0), (65, 3, 0, 0, 0, 66, 0), (66, 30, 4, 2, 0, 69, 24), (69, 1, 0, 0, nI 0, 70, 0), (70, 1, 0, 0, nI 120, 72, 0), (72, 54, 0, 0, 0, 75, 36), (75, 3, 1, 0, 0, 76, 0), (76, 30, 5, 2, 0, 79, 27), (79, 1, 0, 0, nI 0, 80, 0), (80, 3, 0, 0, 0, 81, 0), (81, 30, 5, 2, 0, 84, 27), (84, 1, 0, 0, nI 0, 85, 0), (85, 1, 0, 0, nI 120, 87, 0), (87, 54, 0, 0, 0, 90, 36), (90, 3, 1, 0, 0, 91, 0), (91, 30, 6, 2, 0, 94, 30), (94, 1, 0, 0, nI 0, 95, 0), (95, 3, 0, 0, 0, 96, 0), (96, 30, 6, 2, 0, 99, 30), (99, 1, 0, 0, nI 0, 100, 0), (100, 1, 0, 0, nI 120, 102, 0), (102, 54, 0, 0, 0, 105, 36), (105, 3, 1, 0, 0, 106, 0), (106, 30, 7, 2, 0, 109, 33), (109, 1, 0, 0, nI 0, 110, 0), (110, 3, 0, 0, 0, 111, 0), (111, 30, 7, 2, 0, 114, 33), (114, 1, 0, 0, nI 0, 115, 0), (115, 1, 0, 0, nI 8, 117, 0), (117, 54, 0, 0, 0, 120, 36), (120, 3, 0, 0, 0, 121, 0), (121, 3, 1, 0, 0, 122, 0), (122, 30, 8, 2, 0, 125, 42), (125, 31, 8, 2, 0, 128, 42), (128, 42, 0, 0, 0, 129, 0)]
def jX2_copyFrom : JT := (14, yX2_copyFrom, cX2_copyFrom, 2, none, 1, 30, 2, tX2_copyFrom)
theorem okX2_copyFrom : e_T jX2_copyFrom := ⟨by decide +kernel, rfl, rfl, by decide +kernel⟩
def tX2_has : List (Nat × OpT) := [(0, 2, 1, 0, 0, 1, 0), (1, 16, 0, 0, 0, 4, 16), (4, 2, 1, 0, 0, 5, 0), (5, 3, 0, 0, 0, 6, 0), (6, 30, 8, 2, 0, 9, 42), (9, 23, 0, 0, 0, 12, 16), (12, 1, 0, 0, nI 1, 13, 0), (13, 13, 0, 0, 0, 17, 0), (16, 1, 0, 0, nI 0, 17, 0), (17, 41, 0, 0, 0, 18, 0)]
def jX2_has : JT := (15, yX2_has, cX2_has, 2, (some .boolean), 0, 0, 2, tX2_has)
theorem okX2_has : e_T jX2_has := ⟨by decide +kernel, rfl, rfl, by decide +kernel⟩
def tX2_add : List (Nat × OpT) := [(0, 3, 0, 0, 0, 1, 0), (1, 30, 8, 2, 0, 4, 42), (4, 1, 0, 0, nI 120, 6, 0), (6, 23, 0, 0, 0, 9, 91), (9, 3, 0, 0, 0, 10, 0), (10, 30, 0, 2, 0, 13, 9), (13, 3, 0, 0, 0, 14, 0), (14, 30, 8, 2, 0, 17, 42), (17, 2, 1, 0, 0, 18, 0), (18, 36, 0, 0, 0, 19, 0), (19, 3, 0, 0, 0, 20, 0), (20, 30, 1, 2, 0, 23, 15), (23, 3, 0, 0, 0, 24, 0), (24, 30, 8, 2, 0, 27, 42), (27, 2, 2, 0, 0, 28, 0), (28, 36, 0, 0, 0, 29, 0), (29, 3, 0, 0, 0, 30, 0), (30, 30, 2, 2, 0, 33, 18), (33, 3, 0, 0, 0, 34, 0), (34, 30, 8, 2, 0, 37, 42), (37, 1, 0, 0, nI 0, 38, 0), (38, 36, 0, 0, 0, 39, 0), (39, 3, 0, 0, 0, 40, 0), (40, 30, 3, 2, 0, 43, 21), (43, 3, 0, 0, 0, 44, 0), (44, 30, 8, 2, 0, 47, 42), (47, 1, 0, 0, nI 0, 48, 0), (48, 36, 0, 0, 0, 49, 0), (49, 3, 0, 0, 0, 50, 0), (50, 30, 4, 2, 0, 53, 24), (53, 3, 0, 0, 0, 54, 0), (54, 30, 8, 2, 0, 57, 42), (57, 1, 0, 0, -9, 59, 0), (59, 36, 0, 0, 0, 60, 0), (60, 3, 0, 0, 0, 61, 0), (61, 30, 5, 2, 0, 64, 27), (64, 3, 0, 0, 0, 65, 0), (65, 30, 8, 2, 0, 68, 42), (68, 2, 3, 0, 0, 69, 0), (69, 36, 0, 0, 0, 70, 0), (70, 3, 0, 0, 0, 71, 0), (71, 30, 6, 2, 0, 74, 30), (74, 3, 0, 0, 0, 75, 0), (75, 30, 8, 2, 0, 78, 42), (78, 1, 0, 0, -9, 80, 0), (80, 36, 0, 0, 0, 81, 0), (81, 3, 0, 0, 0, 82, 0), (82, 26, 0, 0, 0, 83, 0), (83, 30, 8, 2, 0, 86, 42), (86, 1, 0, 0, nI 1, 87, 0), (87, 6, 0, 0, 0, 88, 0), (88, 31, 8, 2, 0, 91, 42), (91, 42, 0, 0, 0, 92, 0)]
def jX2_add : JT := (16, yX2_add, cX2_add, 4, none, 0, 0, 2, tX2_add)
theorem okX2_add : e_T jX2_add := ⟨by decide +kernel, rfl, rfl, by decide +kernel⟩
def tX2_moveTo : List (Nat × OpT) := [(0, 3, 0, 0, 0, 1, 0), (1, 2, 1, 0, 0, 2, 0), (2, 44, 1, 15, 0, 5, 46), (5, 15, 0, 0, 0, 8, 9), (8, 42, 0, 0, 0, 9, 0), (9, 3, 0, 0, 0, 10, 0), (10, 30, 3, 2, 0, 13, 21), (13, 2, 1, 0, 0, 14, 0), (14, 32, 0, 0, 0, 15, 0), (15, 1, 0, 0, nI 1, 16, 0), (16, 21, 0, 0, 0, 19, 46), (19, 3, 0, 0, 0, 20, 0), (20, 30, 4, 2, 0, 23, 24), (23, 2, 1, 0, 0, 24, 0), (24, 32, 0, 0, 0, 25, 0), (25, 46, 1, 98, 0, 28, 50), (28, 14, 0, 0, 0, 31, 46), (31, 3, 0, 0, 0, 32, 0), (32, 30, 7, 2, 0, 35, 33), (35, 3, 0, 0, 0, 36, 0), (36, 30, 4, 2, 0, 39, 24), (39, 2, 1, 0, 0, 40, 0), (40, 32, 0, 0, 0, 41, 0), (41, 27, 0, 0, 0, 42, 0), (42, 32, 0, 0, 0, 43, 0), (43, 1, 0, 0, nI 1, 44, 0), (44, 7, 0, 0, 0, 45, 0), (45, 36, 0, 0, 0, 46, 0), (46, 3, 0, 0, 0, 47, 0), (47, 30, 3, 2, 0, 50, 21), (50, 2, 1, 0, 0, 51, 0), (51, 2, 2, 0, 0, 52, 0), (52, 36, 0, 0, 0, 53, 0), (53, 3, 0, 0, 0, 54, 0), (54, 30, 4, 2, 0, 57, 24), (57, 2, 1, 0, 0, 58, 0), (58, 2, 3, 0, 0, 59, 0), (59, 36, 0, 0, 0, 60, 0), (60, 2, 2, 0, 0, 61, 0), (61, 1, 0, 0, nI 1, 62, 0), (62, 21, 0, 0, 0, 65, 82), (65, 2, 3, 0, 0, 66, 0), (66, 46, 1, 98, 0, 69, 50), (69, 14, 0, 0, 0, 72, 82), (72, 3, 0, 0, 0, 73, 0), (73, 30, 7, 2, 0, 76, 33), (76, 2, 3, 0, 0, 77, 0), (77, 27, 0, 0, 0, 78, 0), (78, 32, 0, 0, 0, 79, 0), (79, 1, 0, 0, nI 1, 80, 0), (80, 6, 0, 0, 0, 81, 0), (81, 36, 0, 0, 0, 82, 0), (82, 42, 0, 0, 0, 83, 0)]
def jX2_moveTo : JT := (17, yX2_moveTo, cX2_moveTo, 4, none, 1, 21, 2, tX2_moveTo)
theorem okX2_moveTo : e_T jX2_moveTo := ⟨by decide +kernel, rfl, rfl, by decide +kernel⟩
def tX2_finish : List (Nat × OpT) := [(0, 3, 0, 0, 0, 1, 0), (1, 2, 1, 0, 0, 2, 0), (2, 44, 1, 15, 0, 5, 46), (5, 14, 0, 0, 0, 8, 23), (8, 3, 0, 0, 0, 9, 0), (9, 2, 1, 0, 0, 10, 0), (10, 2, 2, 0, 0, 11, 0), (11, 1, 0, 0, -9, 13, 0), (13, 44, 3, 17, 0, 16, 53), (16, 3, 0, 0, 0, 17, 0), (17, 30, 6, 2, 0, 20, 30), (20, 2, 1, 0, 0, 21, 0), (21, 2, 3, 0, 0, 22, 0), (22, 36, 0, 0, 0, 23, 0), (23, 42, 0, 0, 0, 24, 0)]
def jX2_finish : JT := (18, yX2_finish, cX2_finish, 4, none, 2, 44, 2, tX2_finish)
theorem okX2_finish : e_T jX2_finish := ⟨by decide +kernel, rfl, rfl, by decide +kernel⟩
def tX2_misroute : List (Nat × OpT) := [(0, 3, 0, 0, 0, 1, 0), (1, 2, 1, 0, 0, 2, 0), (2, 44, 1, 15, 0, 5, 46), (5, 15, 0, 0, 0, 8, 9), (8, 42, 0, 0, 0, 9, 0), (9, 3, 0, 0, 0, 10, 0), (10, 30, 2, 2, 0, 13, 18), (13, 2, 1, 0, 0, 14, 0), (14, 27, 0, 0, 0, 15, 0), (15, 32, 0, 0, 0, 16, 0), (16, 1, 0, 0, nI 1, 17, 0), (17, 6, 0, 0, 0, 18, 0), (18, 36, 0, 0, 0, 19, 0), (19, 3, 0, 0, 0, 20, 0), (20, 30, 2, 2, 0, 23, 18), (23, 2, 1, 0, 0, 24, 0), (24, 32, 0, 0, 0, 25, 0), (25, 1, 0, 0, nI 3, 26, 0), (26, 22, 0, 0, 0, 29, 39), (29, 3, 0, 0, 0, 30, 0), (30, 2, 1, 0, 0, 31, 0), (31, 1, 0, 0, nI 5, 32, 0), (32, 2, 2, 0, 0, 33, 0), (33, 44, 3, 18, 0, 36, 57), (36, 13, 0, 0, 0, 47, 0), (39, 3, 0, 0, 0, 40, 0), (40, 2, 1, 0, 0, 41, 0), (41, 1, 0, 0, nI 0, 42, 0), (42, 1, 0, 0, -9, 44, 0), (44, 44, 3, 17, 0, 47, 53), (47, 42, 0, 0, 0, 48, 0)]
def jX2_misroute : JT := (19, yX2_misroute, cX2_misroute, 3, none, 3, 67, 2, tX2_misroute)
theorem okX2_misroute : e_T jX2_misroute := ⟨by decide +kernel, rfl, rfl, by decide +kernel⟩
def tX2_isFirstClass : List (Nat × OpT) := [(0, 3, 0, 0, 0, 1, 0), (1, 2, 1, 0, 0, 2, 0), (2, 44, 1, 15, 0, 5, 46), (5, 14, 0, 0, 0, 8, 22), (8, 3, 0, 0, 0, 9, 0), (9, 30, 1, 2, 0, 12, 15), (12, 2, 1, 0, 0, 13, 0), (13, 32, 0, 0, 0, 14, 0), (14, 1, 0, 0, nI 1, 15, 0), (15, 21, 0, 0, 0, 18, 22), (18, 1, 0, 0, nI 1, 19, 0), (19, 13, 0, 0, 0, 23, 0), (22, 1, 0, 0, nI 0, 23, 0), (23, 41, 0, 0, 0, 24, 0)]
def jX2_isFirstClass : JT := (20, yX2_isFirstClass, cX2_isFirstClass, 2, (some .boolean), 1, 21, 2, tX2_isFirstClass)
theorem okX2_isFirstClass : e_T jX2_isFirstClass := ⟨by decide +kernel, rfl, rfl, by decide +kernel⟩
def tX2_emptyOverflow : List (Nat × OpT) := [(0, 1, 0, 0, nI 0, 1, 0), (1, 4, 1, 0, 0, 2, 0), (2, 2, 1, 0, 0, 3, 0), (3, 3, 0, 0, 0, 4, 0), (4, 30, 8, 2, 0, 7, 42), (7, 23, 0, 0, 0, 10, 34), (10, 3, 0, 0, 0, 11, 0), (11, 30, 3, 2, 0, 14, 21), (14, 2, 1, 0, 0, 15, 0), (15, 32, 0, 0, 0, 16, 0), (16, 1, 0, 0, nI 2, 17, 0), (17, 21, 0, 0, 0, 20, 28), (20, 3, 0, 0, 0, 21, 0), (21, 2, 1, 0, 0, 22, 0), (22, 1, 0, 0, nI 0, 23, 0), (23, 1, 0, 0, -9, 25, 0), (25, 44, 3, 17, 0, 28, 53), (28, 12, 1, 0, nI 1, 31, 0), (31, 13, 0, 0, 0, 2, 0), (34, 42, 0, 0, 0, 35, 0)]
def jX2_emptyOverflow : JT := (21, yX2_emptyOverflow, cX2_emptyOverflow, 2, none, 2, 44, 2, tX2_emptyOverflow)
theorem okX2_emptyOverflow : e_T jX2_emptyOverflow := ⟨by decide +kernel, rfl, rfl, by decide +kernel⟩
def tX2_countIn : List (Nat × OpT) := [(0, 1, 0, 0, nI 0, 1, 0), (1, 4, 2, 0, 0, 2, 0), (2, 1, 0, 0, nI 0, 3, 0), (3, 4, 3, 0, 0, 4, 0), (4, 2, 3, 0, 0, 5, 0), (5, 3, 0, 0, 0, 6, 0), (6, 30, 8, 2, 0, 9, 42), (9, 23, 0, 0, 0, 12, 31), (12, 3, 0, 0, 0, 13, 0), (13, 30, 3, 2, 0, 16, 21), (16, 2, 3, 0, 0, 17, 0), (17, 32, 0, 0, 0, 18, 0), (18, 2, 1, 0, 0, 19, 0), (19, 21, 0, 0, 0, 22, 25), (22, 12, 2, 0, nI 1, 25, 0), (25, 12, 3, 0, nI 1, 28, 0), (28, 13, 0, 0, 0, 4, 0), (31, 2, 2, 0, 0, 32, 0), (32, 41, 0, 0, 0, 33, 0)]
def jX2_countIn : JT := (22, yX2_countIn, cX2_countIn, 4, (some .int), 0, 0, 2, tX2_countIn)
theorem okX2_countIn : e_T jX2_countIn := ⟨by decide +kernel, rfl, rfl, by decide +kernel⟩
def tX2_countInHand : List (Nat × OpT) := [(0, 1, 0, 0, nI 0, 1, 0), (1, 4, 2, 0, 0, 2, 0), (2, 1, 0, 0, nI 0, 3, 0), (3, 4, 3, 0, 0, 4, 0), (4, 2, 3, 0, 0, 5, 0), (5, 3, 0, 0, 0, 6, 0), (6, 30, 8, 2, 0, 9, 42), (9, 23, 0, 0, 0, 12, 31), (12, 3, 0, 0, 0, 13, 0), (13, 2, 3, 0, 0, 14, 0), (14, 1, 0, 0, nI 3, 15, 0), (15, 2, 1, 0, 0, 16, 0), (16, 44, 3, 32, 0, 19, 60), (19, 14, 0, 0, 0, 22, 25), (22, 12, 2, 0, nI 1, 25, 0), (25, 12, 3, 0, nI 1, 28, 0), (28, 13, 0, 0, 0, 4, 0), (31, 2, 2, 0, 0, 32, 0), (32, 41, 0, 0, 0, 33, 0)]
def jX2_countInHand : JT := (23, yX2_countInHand, cX2_countInHand, 4, (some .int), 2, 44, 2, tX2_countInHand)
theorem okX2_countInHand : e_T jX2_countInHand := ⟨by decide +kernel, rfl, rfl, by decide +kernel⟩
def tX2_countFirstClass : List (Nat × OpT) := [(0, 1, 0, 0, nI 0, 1, 0), (1, 4, 2, 0, 0, 2, 0), (2, 1, 0, 0, nI 0, 3, 0), (3, 4, 3, 0, 0, 4, 0), (4, 2, 3, 0, 0, 5, 0), (5, 3, 0, 0, 0, 6, 0), (6, 30, 8, 2, 0, 9, 42), (9, 23, 0, 0, 0, 12, 39), (12, 3, 0, 0, 0, 13, 0), (13, 2, 3, 0, 0, 14, 0), (14, 1, 0, 0, nI 1, 15, 0), (15, 2, 1, 0, 0, 16, 0), (16, 44, 3, 32, 0, 19, 60), (19, 14, 0, 0, 0, 22, 33), (22, 3, 0, 0, 0, 23, 0), (23, 2, 3, 0, 0, 24, 0), (24, 44, 1, 20, 0, 27, 64), (27, 14, 0, 0, 0, 30, 33), (30, 12, 2, 0, nI 1, 33, 0), (33, 12, 3, 0, nI 1, 36, 0), (36, 13, 0, 0, 0, 4, 0), (39, 2, 2, 0, 0, 40, 0), (40, 41, 0, 0, 0, 41, 0)]
def jX2_countFirstClass : JT := (24, yX2_countFirstClass, cX2_countFirstClass, 4, (some .int), 2, 44, 2, tX2_countFirstClass)
theorem okX2_countFirstClass : e_T jX2_countFirstClass := ⟨by decide +kernel, rfl, rfl, by decide +kernel⟩
def tX2_countMisroutes : List (Nat × OpT) := [(0, 1, 0, 0, nI 0, 1, 0), (1, 4, 1, 0, 0, 2, 0), (2, 1, 0, 0, nI 0, 3, 0), (3, 4, 2, 0, 0, 4, 0), (4, 2, 2, 0, 0, 5, 0), (5, 3, 0, 0, 0, 6, 0), (6, 30, 8, 2, 0, 9, 42), (9, 23, 0, 0, 0, 12, 27), (12, 2, 1, 0, 0, 13, 0), (13, 3, 0, 0, 0, 14, 0), (14, 30, 2, 2, 0, 17, 18), (17, 2, 2, 0, 0, 18, 0), (18, 32, 0, 0, 0, 19, 0), (19, 6, 0, 0, 0, 20, 0), (20, 4, 1, 0, 0, 21, 0), (21, 12, 2, 0, nI 1, 24, 0), (24, 13, 0, 0, 0, 4, 0), (27, 2, 1, 0, 0, 28, 0), (28, 41, 0, 0, 0, 29, 0)]
def jX2_countMisroutes : JT := (25, yX2_countMisroutes, cX2_countMisroutes, 3, (some .int), 0, 0, 2, tX2_countMisroutes)
theorem okX2_countMisroutes : e_T jX2_countMisroutes := ⟨by decide +kernel, rfl, rfl, by decide +kernel⟩
def tX2_displaceSecondClass : List (Nat × OpT) := [(0, 3, 0, 0, 0, 1, 0), (1, 30, 8, 2, 0, 4, 42), (4, 1, 0, 0, nI 1, 5, 0), (5, 7, 0, 0, 0, 6, 0), (6, 4, 2, 0, 0, 7, 0), (7, 2, 2, 0, 0, 8, 0), (8, 16, 0, 0, 0, 11, 45), (11, 3, 0, 0, 0, 12, 0), (12, 2, 2, 0, 0, 13, 0), (13, 1, 0, 0, nI 1, 14, 0), (14, 2, 1, 0, 0, 15, 0), (15, 44, 3, 32, 0, 18, 60), (18, 14, 0, 0, 0, 21, 39), (21, 3, 0, 0, 0, 22, 0), (22, 2, 2, 0, 0, 23, 0), (23, 44, 1, 20, 0, 26, 64), (26, 15, 0, 0, 0, 29, 39), (29, 3, 0, 0, 0, 30, 0), (30, 2, 2, 0, 0, 31, 0), (31, 1, 0, 0, nI 2, 32, 0), (32, 1, 0, 0, -9, 34, 0), (34, 44, 3, 17, 0, 37, 53), (37, 1, 0, 0, nI 1, 38, 0), (38, 41, 0, 0, 0, 39, 0), (39, 12, 2, 0, -1, 42, 0), (42, 13, 0, 0, 0, 7, 0), (45, 1, 0, 0, nI 0, 46, 0), (46, 41, 0, 0, 0, 47, 0)]
def jX2_displaceSecondClass : JT := (26, yX2_displaceSecondClass, cX2_displaceSecondClass, 3, (some .boolean), 2, 44, 2, tX2_displaceSecondClass)
theorem okX2_displaceSecondClass : e_T jX2_displaceSecondClass := ⟨by decide +kernel, rfl, rfl, by decide +kernel⟩
def tX2_listBag : List (Nat × OpT) := [(0, 3, 1, 0, 0, 1, 0), (1, 1, 0, 0, nI 0, 2, 0), (2, 31, 1, 3, 0, 5, 67), (5, 1, 0, 0, nI 1, 6, 0), (6, 4, 2, 0, 0, 7, 0), (7, 2, 2, 0, 0, 8, 0), (8, 16, 0, 0, 0, 11, 36), (11, 1, 0, 0, nI 2, 12, 0), (12, 4, 3, 0, 0, 13, 0), (13, 2, 3, 0, 0, 14, 0), (14, 16, 0, 0, 0, 17, 30), (17, 3, 0, 0, 0, 18, 0), (18, 2, 2, 0, 0, 19, 0), (19, 2, 3, 0, 0, 20, 0), (20, 3, 1, 0, 0, 21, 0), (21, 44, 3, 28, 0, 24, 72), (24, 12, 3, 0, -1, 27, 0), (27, 13, 0, 0, 0, 13, 0), (30, 12, 2, 0, -1, 33, 0), (33, 13, 0, 0, 0, 7, 0), (36, 42, 0, 0, 0, 37, 0)]
def jX2_listBag : JT := (27, yX2_listBag, cX2_listBag, 4, none, 2, 45, 2, tX2_listBag)
theorem okX2_listBag : e_T jX2_listBag := ⟨by decide +kernel, rfl, rfl, by decide +kernel⟩
def tX2_addFromBag : List (Nat × OpT) := [(0, 1, 0, 0, nI 0, 1, 0), (1, 4, 4, 0, 0, 3, 0), (3, 2, 4, 0, 0, 5, 0), (5, 3, 0, 0, 0, 6, 0), (6, 30, 8, 2, 0, 9, 42), (9, 23, 0, 0, 0, 12, 56), (12, 3, 0, 0, 0, 13, 0), (13, 30, 3, 2, 0, 16, 21), (16, 2, 4, 0, 0, 18, 0), (18, 32, 0, 0, 0, 19, 0), (19, 15, 0, 0, 0, 22, 50), (22, 3, 0, 0, 0, 23, 0), (23, 30, 1, 2, 0, 26, 15), (26, 2, 4, 0, 0, 28, 0), (28, 32, 0, 0, 0, 29, 0), (29, 2, 1, 0, 0, 30, 0), (30, 21, 0, 0, 0, 33, 50), (33, 3, 0, 0, 0, 34, 0), (34, 30, 2, 2, 0, 37, 18), (37, 2, 4, 0, 0, 39, 0), (39, 32, 0, 0, 0, 40, 0), (40, 2, 2, 0, 0, 41, 0), (41, 21, 0, 0, 0, 44, 50), (44, 3, 3, 0, 0, 45, 0), (45, 2, 4, 0, 0, 47, 0), (47, 44, 1, 34, 0, 50, 76), (50, 12, 4, 0, nI 1, 53, 0), (53, 13, 0, 0, 0, 3, 0), (56, 42, 0, 0, 0, 57, 0)]
def jX2_addFromBag : JT := (28, yX2_addFromBag, cX2_addFromBag, 5, none, 1, 21, 2, tX2_addFromBag)
theorem okX2_addFromBag : e_T jX2_addFromBag := ⟨by decide +kernel, rfl, rfl, by decide +kernel⟩
def tX2_listByCode : List (Nat × OpT) := [(0, 3, 3, 0, 0, 1, 0), (1, 1, 0, 0, nI 0, 2, 0), (2, 31, 1, 3, 0, 5, 67), (5, 1, 0, 0, nI 0, 6, 0), (6, 4, 4, 0, 0, 8, 0), (8, 2, 4, 0, 0, 10, 0), (10, 3, 0, 0, 0, 11, 0), (11, 30, 8, 2, 0, 14, 42), (14, 23, 0, 0, 0, 17, 41), (17, 3, 0, 0, 0, 18, 0), (18, 2, 4, 0, 0, 20, 0), (20, 2, 1, 0, 0, 21, 0), (21, 2, 2, 0, 0, 22, 0), (22, 44, 3, 32, 0, 25, 60), (25, 14, 0, 0, 0, 28, 35), (28, 3, 0, 0, 0, 29, 0), (29, 2, 4, 0, 0, 31, 0), (31, 3, 3, 0, 0, 32, 0), (32, 44, 2, 30, 0, 35, 80), (35, 12, 4, 0, nI 1, 38, 0), (38, 13, 0, 0, 0, 8, 0), (41, 42, 0, 0, 0, 42, 0)]
def jX2_listByCode : JT := (29, yX2_listByCode, cX2_listByCode, 5, none, 3, 66, 2, tX2_listByCode)
theorem okX2_listByCode : e_T jX2_listByCode := ⟨by decide +kernel, rfl, rfl, by decide +kernel⟩
def tX2_insertByCode : List (Nat × OpT) := [(0, 3, 2, 0, 0, 1, 0), (1, 2, 1, 0, 0, 2, 0), (2, 44, 1, 34, 0, 5, 76), (5, 3, 2, 0, 0, 6, 0), (6, 30, 1, 3, 0, 9, 67), (9, 1, 0, 0, nI 1, 10, 0), (10, 7, 0, 0, 0, 11, 0), (11, 4, 3, 0, 0, 12, 0), (12, 2, 3, 0, 0, 13, 0), (13, 19, 0, 0, 0, 16, 42), (16, 3, 0, 0, 0, 17, 0), (17, 3, 2, 0, 0, 18, 0), (18, 2, 3, 0, 0, 19, 0), (19, 1, 0, 0, nI 1, 20, 0), (20, 7, 0, 0, 0, 21, 0), (21, 44, 1, 36, 0, 24, 84), (24, 2, 1, 0, 0, 25, 0), (25, 44, 2, 31, 0, 28, 88), (28, 14, 0, 0, 0, 31, 42), (31, 3, 2, 0, 0, 32, 0), (32, 2, 3, 0, 0, 33, 0), (33, 44, 1, 35, 0, 36, 92), (36, 12, 3, 0, -1, 39, 0), (39, 13, 0, 0, 0, 12, 0), (42, 42, 0, 0, 0, 43, 0)]
def jX2_insertByCode : JT := (30, yX2_insertByCode, cX2_insertByCode, 4, none, 2, 43, 2, tX2_insertByCode)
theorem okX2_insertByCode : e_T jX2_insertByCode := ⟨by decide +kernel, rfl, rfl, by decide +kernel⟩
def tX2_hasGreaterCode : List (Nat × OpT) := [(0, 3, 0, 0, 0, 1, 0), (1, 2, 1, 0, 0, 2, 0), (2, 44, 1, 15, 0, 5, 46), (5, 14, 0, 0, 0, 8, 35), (8, 3, 0, 0, 0, 9, 0), (9, 2, 2, 0, 0, 10, 0), (10, 44, 1, 15, 0, 13, 46), (13, 14, 0, 0, 0, 16, 35), (16, 3, 0, 0, 0, 17, 0), (17, 30, 0, 2, 0, 20, 9), (20, 2, 1, 0, 0, 21, 0), (21, 32, 0, 0, 0, 22, 0), (22, 3, 0, 0, 0, 23, 0), (23, 30, 0, 2, 0, 26, 9), (26, 2, 2, 0, 0, 27, 0), (27, 32, 0, 0, 0, 28, 0), (28, 25, 0, 0, 0, 31, 35), (31, 1, 0, 0, nI 1, 32, 0), (32, 13, 0, 0, 0, 36, 0), (35, 1, 0, 0, nI 0, 36, 0), (36, 41, 0, 0, 0, 37, 0)]
def jX2_hasGreaterCode : JT := (31, yX2_hasGreaterCode, cX2_hasGreaterCode, 3, (some .boolean), 1, 21, 2, tX2_hasGreaterCode)
theorem okX2_hasGreaterCode : e_T jX2_hasGreaterCode := ⟨by decide +kernel, rfl, rfl, by decide +kernel⟩
def tX2_isAt : List (Nat × OpT) := [(0, 3, 0, 0, 0, 1, 0), (1, 2, 1, 0, 0, 2, 0), (2, 44, 1, 15, 0, 5, 46), (5, 14, 0, 0, 0, 8, 32), (8, 3, 0, 0, 0, 9, 0), (9, 30, 3, 2, 0, 12, 21), (12, 2, 1, 0, 0, 13, 0), (13, 32, 0, 0, 0, 14, 0), (14, 2, 2, 0, 0, 15, 0), (15, 21, 0, 0, 0, 18, 32), (18, 3, 0, 0, 0, 19, 0), (19, 30, 4, 2, 0, 22, 24), (22, 2, 1, 0, 0, 23, 0), (23, 32, 0, 0, 0, 24, 0), (24, 2, 3, 0, 0, 25, 0), (25, 21, 0, 0, 0, 28, 32), (28, 1, 0, 0, nI 1, 29, 0), (29, 13, 0, 0, 0, 33, 0), (32, 1, 0, 0, nI 0, 33, 0), (33, 41, 0, 0, 0, 34, 0)]
def jX2_isAt : JT := (32, yX2_isAt, cX2_isAt, 4, (some .boolean), 1, 21, 2, tX2_isAt)
theorem okX2_isAt : e_T jX2_isAt := ⟨by decide +kernel, rfl, rfl, by decide +kernel⟩
def tX3_init : List (Nat × OpT) := [(0, 3, 0, 0, 0, 1, 0), (1, 51, 0, 0, 0, 4, 3), (4, 3, 0, 0, 0, 5, 0), (5, 1, 0, 0, nI 120, 7, 0), (7, 48, 0, 0, 0, 9, 0), (9, 31, 0, 3, 0, 12, 9), (12, 42, 0, 0, 0, 13, 0)]
def jX3_init : JT := (33, yX3_init, cX3_init, 1, none, 1, 20, 3, tX3_init)
theorem okX3_init : e_T jX3_init := ⟨by decide +kernel, rfl, rfl, by decide +kernel⟩
def tX3_addLast : List (Nat × OpT) := [(0, 3, 0, 0, 0, 1, 0), (1, 30, 1, 3, 0, 4, 15), (4, 3, 0, 0, 0, 5, 0), (5, 30, 0, 3, 0, 8, 9), (8, 40, 0, 0, 0, 9, 0), (9, 23, 0, 0, 0, 12, 32), (12, 3, 0, 0, 0, 13, 0), (13, 30, 0, 3, 0, 16, 9), (16, 3, 0, 0, 0, 17, 0), (17, 30, 1, 3, 0, 20, 15), (20, 2, 1, 0, 0, 21, 0), (21, 36, 0, 0, 0, 22, 0), (22, 3, 0, 0, 0, 23, 0), (23, 26, 0, 0, 0, 24, 0), (24, 30, 1, 3, 0, 27, 15), (27, 1, 0, 0, nI 1, 28, 0), (28, 6, 0, 0, 0, 29, 0), (29, 31, 1, 3, 0, 32, 15), (32, 42, 0, 0, 0, 33, 0)]
def jX3_addLast : JT := (34, yX3_addLast, cX3_addLast, 2, none, 0, 0, 3, tX3_addLast)
theorem okX3_addLast : e_T jX3_addLast := ⟨by decide +kernel, rfl, rfl, by decide +kernel⟩
def tX3_swapWithPrevious : List (Nat × OpT) := [(0, 2, 1, 0, 0, 1, 0), (1, 19, 0, 0, 0, 4, 42), (4, 2, 1, 0, 0, 5, 0), (5, 3, 0, 0, 0, 6, 0), (6, 30, 1, 3, 0, 9, 15), (9, 23, 0, 0, 0, 12, 42), (12, 3, 0, 0, 0, 13, 0), (13, 30, 0, 3, 0, 16, 9), (16, 2, 1, 0, 0, 17, 0), (17, 32, 0, 0, 0, 18, 0), (18, 4, 2, 0, 0, 19, 0), (19, 3, 0, 0, 0, 20, 0), (20, 30, 0, 3, 0, 23, 9), (23, 2, 1, 0, 0, 24, 0), (24, 3, 0, 0, 0, 25, 0), (25, 30, 0, 3, 0, 28, 9), (28, 2, 1, 0, 0, 29, 0), (29, 1, 0, 0, nI 1, 30, 0), (30, 7, 0, 0, 0, 31, 0), (31, 32, 0, 0, 0, 32, 0), (32, 36, 0, 0, 0, 33, 0), (33, 3, 0, 0, 0, 34, 0), (34, 30, 0, 3, 0, 37, 9), (37, 2, 1, 0, 0, 38, 0), (38, 1, 0, 0, nI 1, 39, 0), (39, 7, 0, 0, 0, 40, 0), (40, 2, 2, 0, 0, 41, 0), (41, 36, 0, 0, 0, 42, 0), (42, 42, 0, 0, 0, 43, 0)]
def jX3_swapWithPrevious : JT := (35, yX3_swapWithPrevious, cX3_swapWithPrevious, 3, none, 0, 0, 3, tX3_swapWithPrevious)
theorem okX3_swapWithPrevious : e_T jX3_swapWithPrevious := ⟨by decide +kernel, rfl, rfl, by decide +kernel⟩
def tX3_letterAt : List (Nat × OpT) := [(0, 2, 1, 0, 0, 1, 0), (1, 16, 0, 0, 0, 4, 21), (4, 2, 1, 0, 0, 5, 0), (5, 3, 0, 0, 0, 6, 0), (6, 30, 1, 3, 0, 9, 15), (9, 23, 0, 0, 0, 12, 21), (12, 3, 0, 0, 0, 13, 0), (13, 30, 0, 3, 0, 16, 9), (16, 2, 1, 0, 0, 17, 0), (17, 32, 0, 0, 0, 18, 0), (18, 13, 0, 0, 0, 23, 0), (21, 1, 0, 0, -9, 23, 0), (23, 41, 0, 0, 0, 24, 0)]
def jX3_letterAt : JT := (36, yX3_letterAt, cX3_letterAt, 2, (some .int), 0, 0, 3, tX3_letterAt)
theorem okX3_letterAt : e_T jX3_letterAt := ⟨by decide +kernel, rfl, rfl, by decide +kernel⟩
def tX4_init : List (Nat × OpT) := [(0, 3, 0, 0, 0, 1, 0), (1, 51, 0, 0, 0, 4, 3), (4, 3, 0, 0, 0, 5, 0), (5, 47, 0, 0, 0, 8, 9), (8, 26, 0, 0, 0, 9, 0), (9, 45, 0, 41, 0, 12, 11), (12, 31, 0, 4, 0, 15, 12), (15, 3, 0, 0, 0, 16, 0), (16, 1, 0, 0, nI 2, 17, 0), (17, 49, 0, 0, 0, 20, 9), (20, 31, 1, 4, 0, 23, 18), (23, 3, 0, 0, 0, 24, 0), (24, 1, 0, 0, nI 2, 25, 0), (25, 48, 0, 0, 0, 27, 0), (27, 31, 2, 4, 0, 30, 22), (30, 1, 0, 0, nI 0, 31, 0), (31, 4, 1, 0, 0, 32, 0), (32, 2, 1, 0, 0, 33, 0), (33, 1, 0, 0, nI 2, 34, 0), (34, 23, 0, 0, 0, 37, 56), (37, 3, 0, 0, 0, 38, 0), (38, 30, 1, 4, 0, 41, 18), (41, 2, 1, 0, 0, 42, 0), (42, 47, 0, 0, 0, 45, 9), (45, 26, 0, 0, 0, 46, 0), (46, 45, 0, 41, 0, 49, 11), (49, 39, 0, 0, 0, 50, 0), (50, 12, 1, 0, nI 1, 53, 0), (53, 13, 0, 0, 0, 32, 0), (56, 42, 0, 0, 0, 57, 0)]
def jX4_init : JT := (37, yX4_init, cX4_init, 2, none, 4, 87, 4, tX4_init)
theorem okX4_init : e_T jX4_init := ⟨by decide +kernel, rfl, rfl, by decide +kernel⟩
def tX4_copyFrom : List (Nat × OpT) := [(0, 3, 0, 0, 0, 1, 0), (1, 30, 0, 4, 0, 4, 12), (4, 3, 1, 0, 0, 5, 0), (5, 30, 0, 4, 0, 8, 12), (8, 44, 1, 42, 0, 11, 26), (11, 1, 0, 0, nI 0, 12, 0), (12, 4, 2, 0, 0, 13, 0), (13, 2, 2, 0, 0, 14, 0), (14, 1, 0, 0, nI 2, 15, 0), (15, 23, 0, 0, 0, 18, 60), (18, 3, 0, 0, 0, 19, 0), (19, 30, 2, 4, 0, 22, 22), (22, 2, 2, 0, 0, 23, 0), (23, 3, 1, 0, 0, 24, 0), (24, 30, 2, 4, 0, 27, 22), (27, 2, 2, 0, 0, 28, 0), (28, 33, 0, 0, 0, 29, 0), (29, 37, 0, 0, 0, 30, 0), (30, 3, 0, 0, 0, 31, 0), (31, 30, 2, 4, 0, 34, 22), (34, 2, 2, 0, 0, 35, 0), (35, 33, 0, 0, 0, 36, 0), (36, 14, 0, 0, 0, 39, 54), (39, 3, 0, 0, 0, 40, 0), (40, 30, 1, 4, 0, 43, 18), (43, 2, 2, 0, 0, 44, 0), (44, 35, 0, 0, 0, 45, 0), (45, 3, 1, 0, 0, 46, 0), (46, 30, 1, 4, 0, 49, 18), (49, 2, 2, 0, 0, 50, 0), (50, 35, 0, 0, 0, 51, 0), (51, 44, 1, 42, 0, 54, 26), (54, 12, 2, 0, nI 1, 57, 0), (57, 13, 0, 0, 0, 13, 0), (60, 42, 0, 0, 0, 61, 0)]
def jX4_copyFrom : JT := (38, yX4_copyFrom, cX4_copyFrom, 3, none, 3, 72, 4, tX4_copyFrom)
theorem okX4_copyFrom : e_T jX4_copyFrom := ⟨by decide +kernel, rfl, rfl, by decide +kernel⟩
def tX4_fillSlot : List (Nat × OpT) := [(0, 3, 0, 0, 0, 1, 0), (1, 30, 1, 4, 0, 4, 18), (4, 2, 1, 0, 0, 5, 0), (5, 35, 0, 0, 0, 6, 0), (6, 3, 0, 0, 0, 7, 0), (7, 30, 0, 4, 0, 10, 12), (10, 44, 1, 42, 0, 13, 26), (13, 3, 0, 0, 0, 14, 0), (14, 30, 2, 4, 0, 17, 22), (17, 2, 1, 0, 0, 18, 0), (18, 1, 0, 0, nI 1, 19, 0), (19, 37, 0, 0, 0, 20, 0), (20, 42, 0, 0, 0, 21, 0)]
def jX4_fillSlot : JT := (39, yX4_fillSlot, cX4_fillSlot, 2, none, 3, 72, 4, tX4_fillSlot)
theorem okX4_fillSlot : e_T jX4_fillSlot := ⟨by decide +kernel, rfl, rfl, by decide +kernel⟩
def tX4_countSnapshots : List (Nat × OpT) := [(0, 1, 0, 0, nI 0, 1, 0), (1, 4, 1, 0, 0, 2, 0), (2, 1, 0, 0, nI 0, 3, 0), (3, 4, 2, 0, 0, 4, 0), (4, 2, 2, 0, 0, 5, 0), (5, 1, 0, 0, nI 2, 6, 0), (6, 23, 0, 0, 0, 9, 27), (9, 3, 0, 0, 0, 10, 0), (10, 30, 2, 4, 0, 13, 22), (13, 2, 2, 0, 0, 14, 0), (14, 33, 0, 0, 0, 15, 0), (15, 14, 0, 0, 0, 18, 21), (18, 12, 1, 0, nI 1, 21, 0), (21, 12, 2, 0, nI 1, 24, 0), (24, 13, 0, 0, 0, 4, 0), (27, 2, 1, 0, 0, 28, 0), (28, 41, 0, 0, 0, 29, 0)]
def jX4_countSnapshots : JT := (40, yX4_countSnapshots, cX4_countSnapshots, 3, (some .int), 0, 0, 4, tX4_countSnapshots)
theorem okX4_countSnapshots : e_T jX4_countSnapshots := ⟨by decide +kernel, rfl, rfl, by decide +kernel⟩
def tX5_init : List (Nat × OpT) := [(0, 3, 0, 0, 0, 1, 0), (1, 51, 0, 0, 0, 4, 3), (4, 3, 0, 0, 0, 5, 0), (5, 47, 0, 0, 0, 8, 9), (8, 26, 0, 0, 0, 9, 0), (9, 45, 0, 66, 0, 12, 11), (12, 31, 0, 5, 0, 15, 12), (15, 3, 0, 0, 0, 16, 0), (16, 47, 0, 0, 0, 19, 18), (19, 26, 0, 0, 0, 20, 0), (20, 45, 0, 13, 0, 23, 20), (23, 31, 1, 5, 0, 26, 21), (26, 3, 0, 0, 0, 27, 0), (27, 47, 0, 0, 0, 30, 25), (30, 26, 0, 0, 0, 31, 0), (31, 45, 0, 0, 0, 34, 27), (34, 31, 2, 5, 0, 37, 28), (37, 3, 0, 0, 0, 38, 0), (38, 1, 0, 0, nI 8, 40, 0), (40, 48, 0, 0, 0, 42, 0), (42, 31, 3, 5, 0, 45, 32), (45, 3, 0, 0, 0, 46, 0), (46, 1, 0, 0, nI 0, 47, 0), (47, 31, 5, 5, 0, 50, 36), (50, 3, 0, 0, 0, 51, 0), (51, 1, 0, 0, nI 10, 53, 0), (53, 31, 6, 5, 0, 56, 40), (56, 3, 0, 0, 0, 57, 0), (57, 1, 0, 0, nI 8, 59, 0), (59, 31, 7, 5, 0, 62, 43), (62, 1, 0, 0, nI 0, 63, 0), (63, 4, 1, 0, 0, 64, 0), (64, 2, 1, 0, 0, 65, 0), (65, 1, 0, 0, nI 8, 67, 0), (67, 23, 0, 0, 0, 70, 84), (70, 3, 0, 0, 0, 71, 0), (71, 30, 3, 5, 0, 74, 32), (74, 2, 1, 0, 0, 75, 0), (75, 1, 0, 0, nI 6, 77, 0), (77, 36, 0, 0, 0, 78, 0), (78, 12, 1, 0, nI 1, 81, 0), (81, 13, 0, 0, 0, 64, 0), (84, 42, 0, 0, 0, 85, 0)]
def jX5_init : JT := (41, yX5_init, cX5_init, 2, none, 3, 66, 5, tX5_init)
theorem okX5_init : e_T jX5_init := ⟨by decide +kernel, rfl, rfl, by decide +kernel⟩
def tX5_copyFrom : List (Nat × OpT) := [(0, 3, 0, 0, 0, 1, 0), (1, 30, 0, 5, 0, 4, 12), (4, 3, 1, 0, 0, 5, 0), (5, 30, 0, 5, 0, 8, 12), (8, 44, 1, 67, 0, 11, 46), (11, 3, 0, 0, 0, 12, 0), (12, 30, 1, 5, 0, 15, 21), (15, 3, 1, 0, 0, 16, 0), (16, 30, 1, 5, 0, 19, 21), (19, 44, 1, 14, 0, 22, 50), (22, 3, 0, 0, 0, 23, 0), (23, 30, 2, 5, 0, 26, 28), (26, 3, 1, 0, 0, 27, 0), (27, 30, 2, 5, 0, 30, 28), (30, 44, 1, 1, 0, 33, 53), (33, 3, 1, 0, 0, 34, 0), (34, 30, 3, 5, 0, 37, 32), (37, 1, 0, 0, nI 0, 38, 0), (38, 3, 0, 0, 0, 39, 0), (39, 30, 3, 5, 0, 42, 32), (42, 1, 0, 0, nI 0, 43, 0), (43, 1, 0, 0, nI 8, 45, 0), (45, 54, 0, 0, 0, 48, 56), (48, 3, 0, 0, 0, 49, 0), (49, 3, 1, 0, 0, 50, 0), (50, 30, 4, 5, 0, 53, 62), (53, 31, 4, 5, 0, 56, 62), (56, 3, 0, 0, 0, 57, 0), (57, 3, 1, 0, 0, 58, 0), (58, 30, 5, 5, 0, 61, 36), (61, 31, 5, 5, 0, 64, 36), (64, 3, 0, 0, 0, 65, 0), (65, 3, 1, 0, 0, 66, 0), (66, 30, 6, 5, 0, 69, 40), (69, 31, 6, 5, 0, 72, 40), (72, 3, 0, 0, 0, 73, 0), (73, 3, 1, 0, 0, 74, 0), (74, 30, 7, 5, 0, 77, 43), (77, 31, 7, 5, 0, 80, 43), (80, 42, 0, 0, 0, 81, 0)]
def jX5_copyFrom : JT := (42, yX5_copyFrom, cX5_copyFrom, 2, none, 2, 51, 5, tX5_copyFrom)
theorem okX5_copyFrom : e_T jX5_copyFrom := ⟨by decide +kernel, rfl, rfl, by decide +kernel⟩
def tX5_number : List (Nat × OpT) := [(0, 2, 1, 0, 0, 1, 0), (1, 43, 0, 0, 0, 28, 0), (28, 3, 0, 0, 0, 29, 0), (29, 30, 5, 5, 0, 32, 36), (32, 41, 0, 0, 0, 33, 0), (33, 3, 0, 0, 0, 34, 0), (34, 30, 6, 5, 0, 37, 40), (37, 41, 0, 0, 0, 38, 0), (38, 3, 0, 0, 0, 39, 0), (39, 30, 7, 5, 0, 42, 43), (42, 41, 0, 0, 0, 43, 0), (43, 2, 1, 0, 0, 44, 0), (44, 46, 1, 98, 0, 47, 65), (47, 14, 0, 0, 0, 50, 59), (50, 3, 0, 0, 0, 51, 0), (51, 30, 3, 5, 0, 54, 32), (54, 2, 1, 0, 0, 55, 0), (55, 32, 0, 0, 0, 56, 0), (56, 13, 0, 0, 0, 61, 0), (59, 1, 0, 0, -9, 61, 0), (61, 41, 0, 0, 0, 62, 0)]
def jX5_number : JT := (43, yX5_number, cX5_number, 2, (some .int), 1, 20, 5, tX5_number)
theorem okX5_number : e_T jX5_number := ⟨by decide +kernel, rfl, rfl, by decide +kernel⟩
def tX5_changeNumber : List (Nat × OpT) := [(0, 2, 1, 0, 0, 1, 0), (1, 43, 0, 0, 0, 28, 0), (28, 3, 0, 0, 0, 29, 0), (29, 2, 2, 0, 0, 30, 0), (30, 31, 5, 5, 0, 33, 36), (33, 13, 0, 0, 0, 66, 0), (36, 3, 0, 0, 0, 37, 0), (37, 2, 2, 0, 0, 38, 0), (38, 31, 6, 5, 0, 41, 40), (41, 13, 0, 0, 0, 66, 0), (44, 3, 0, 0, 0, 45, 0), (45, 2, 2, 0, 0, 46, 0), (46, 31, 7, 5, 0, 49, 43), (49, 13, 0, 0, 0, 66, 0), (52, 2, 1, 0, 0, 53, 0), (53, 46, 1, 98, 0, 56, 65), (56, 14, 0, 0, 0, 59, 66), (59, 3, 0, 0, 0, 60, 0), (60, 30, 3, 5, 0, 63, 32), (63, 2, 1, 0, 0, 64, 0), (64, 2, 2, 0, 0, 65, 0), (65, 36, 0, 0, 0, 66, 0), (66, 42, 0, 0, 0, 67, 0)]
def jX5_changeNumber : JT := (44, yX5_changeNumber, cX5_changeNumber, 3, none, 1, 20, 5, tX5_changeNumber)
theorem okX5_changeNumber : e_T jX5_changeNumber := ⟨by decide +kernel, rfl, rfl, by decide +kernel⟩
def tX5_walkOf : List (Nat × OpT) := [(0, 3, 0, 0, 0, 1, 0), (1, 30, 1, 5, 0, 4, 21), (4, 2, 1, 0, 0, 5, 0), (5, 44, 1, 15, 0, 8, 69), (8, 14, 0, 0, 0, 11, 30), (11, 3, 0, 0, 0, 12, 0), (12, 30, 0, 5, 0, 15, 12), (15, 3, 0, 0, 0, 16, 0), (16, 30, 1, 5, 0, 19, 21), (19, 30, 0, 2, 0, 22, 72), (22, 2, 1, 0, 0, 23, 0), (23, 32, 0, 0, 0, 24, 0), (24, 44, 1, 68, 0, 27, 75), (27, 13, 0, 0, 0, 32, 0), (30, 1, 0, 0, -9, 32, 0), (32, 41, 0, 0, 0, 33, 0)]
def jX5_walkOf : JT := (45, yX5_walkOf, cX5_walkOf, 2, (some .int), 2, 43, 5, tX5_walkOf)
theorem okX5_walkOf : e_T jX5_walkOf := ⟨by decide +kernel, rfl, rfl, by decide +kernel⟩
def tX5_freeHoles : List (Nat × OpT) := [(0, 2, 1, 0, 0, 1, 0), (1, 46, 1, 98, 0, 4, 65), (4, 14, 0, 0, 0, 7, 30), (7, 3, 0, 0, 0, 8, 0), (8, 30, 3, 5, 0, 11, 32), (11, 2, 1, 0, 0, 12, 0), (12, 32, 0, 0, 0, 13, 0), (13, 3, 0, 0, 0, 14, 0), (14, 30, 1, 5, 0, 17, 21), (17, 30, 7, 2, 0, 20, 79), (20, 2, 1, 0, 0, 21, 0), (21, 32, 0, 0, 0, 22, 0), (22, 7, 0, 0, 0, 23, 0), (23, 1, 0, 0, nI 0, 24, 0), (24, 52, 0, 0, 0, 27, 82), (27, 13, 0, 0, 0, 31, 0), (30, 1, 0, 0, nI 0, 31, 0), (31, 41, 0, 0, 0, 32, 0)]
def jX5_freeHoles : JT := (46, yX5_freeHoles, cX5_freeHoles, 2, (some .int), 1, 21, 5, tX5_freeHoles)
theorem okX5_freeHoles : e_T jX5_freeHoles := ⟨by decide +kernel, rfl, rfl, by decide +kernel⟩
def tX5_countStrayLetters : List (Nat × OpT) := [(0, 1, 0, 0, nI 0, 1, 0), (1, 4, 1, 0, 0, 2, 0), (2, 1, 0, 0, nI 0, 3, 0), (3, 4, 2, 0, 0, 4, 0), (4, 2, 2, 0, 0, 5, 0), (5, 3, 0, 0, 0, 6, 0), (6, 30, 1, 5, 0, 9, 21), (9, 30, 8, 2, 0, 12, 88), (12, 23, 0, 0, 0, 15, 54), (15, 3, 0, 0, 0, 16, 0), (16, 30, 1, 5, 0, 19, 21), (19, 30, 3, 2, 0, 22, 91), (22, 2, 2, 0, 0, 23, 0), (23, 32, 0, 0, 0, 24, 0), (24, 1, 0, 0, nI 1, 25, 0), (25, 21, 0, 0, 0, 28, 48), (28, 3, 0, 0, 0, 29, 0), (29, 30, 1, 5, 0, 32, 21), (32, 30, 4, 2, 0, 35, 94), (35, 2, 2, 0, 0, 36, 0), (36, 32, 0, 0, 0, 37, 0), (37, 3, 0, 0, 0, 38, 0), (38, 2, 2, 0, 0, 39, 0), (39, 44, 1, 45, 0, 42, 97), (42, 20, 0, 0, 0, 45, 48), (45, 12, 1, 0, nI 1, 48, 0), (48, 12, 2, 0, nI 1, 51, 0), (51, 13, 0, 0, 0, 4, 0), (54, 2, 1, 0, 0, 55, 0), (55, 41, 0, 0, 0, 56, 0)]
def jX5_countStrayLetters : JT := (47, yX5_countStrayLetters, cX5_countStrayLetters, 3, (some .int), 3, 64, 5, tX5_countStrayLetters)
theorem okX5_countStrayLetters : e_T jX5_countStrayLetters := ⟨by decide +kernel, rfl, rfl, by decide +kernel⟩
def tX5_isCleared : List (Nat × OpT) := [(0, 3, 0, 0, 0, 1, 0), (1, 30, 1, 5, 0, 4, 21), (4, 1, 0, 0, nI 0, 5, 0), (5, 44, 1, 22, 0, 8, 98), (8, 15, 0, 0, 0, 11, 26), (11, 3, 0, 0, 0, 12, 0), (12, 30, 1, 5, 0, 15, 21), (15, 1, 0, 0, nI 2, 16, 0), (16, 44, 1, 22, 0, 19, 98), (19, 15, 0, 0, 0, 22, 26), (22, 1, 0, 0, nI 1, 23, 0), (23, 13, 0, 0, 0, 27, 0), (26, 1, 0, 0, nI 0, 27, 0), (27, 41, 0, 0, 0, 28, 0)]
def jX5_isCleared : JT := (48, yX5_isCleared, cX5_isCleared, 1, (some .boolean), 1, 23, 5, tX5_isCleared)
theorem okX5_isCleared : e_T jX5_isCleared := ⟨by decide +kernel, rfl, rfl, by decide +kernel⟩
def tX5_passHour : List (Nat × OpT) := [(0, 3, 0, 0, 0, 1, 0), (1, 26, 0, 0, 0, 2, 0), (2, 30, 4, 5, 0, 5, 62), (5, 1, 0, 0, nI 1, 6, 0), (6, 6, 0, 0, 0, 7, 0), (7, 31, 4, 5, 0, 10, 62), (10, 3, 0, 0, 0, 11, 0), (11, 30, 1, 5, 0, 14, 21), (14, 44, 0, 21, 0, 17, 101), (17, 3, 0, 0, 0, 18, 0), (18, 30, 1, 5, 0, 21, 21), (21, 3, 1, 0, 0, 22, 0), (22, 44, 1, 27, 0, 25, 104), (25, 3, 0, 0, 0, 26, 0), (26, 30, 6, 5, 0, 29, 40), (29, 3, 1, 0, 0, 30, 0), (30, 30, 1, 3, 0, 33, 108), (33, 53, 0, 0, 0, 36, 113), (36, 4, 2, 0, 0, 37, 0), (37, 1, 0, 0, nI 0, 38, 0), (38, 4, 3, 0, 0, 39, 0), (39, 1, 0, 0, nI 0, 40, 0), (40, 4, 4, 0, 0, 42, 0), (42, 2, 4, 0, 0, 44, 0), (44, 2, 2, 0, 0, 45, 0), (45, 23, 0, 0, 0, 48, 70), (48, 3, 0, 0, 0, 49, 0), (49, 3, 1, 0, 0, 50, 0), (50, 2, 4, 0, 0, 52, 0), (52, 44, 1, 36, 0, 55, 116), (55, 44, 1, 50, 0, 58, 119), (58, 14, 0, 0, 0, 61, 64), (61, 12, 3, 0, nI 1, 64, 0), (64, 12, 4, 0, nI 1, 67, 0), (67, 13, 0, 0, 0, 42, 0), (70, 2, 3, 0, 0, 71, 0), (71, 41, 0, 0, 0, 72, 0)]
def jX5_passHour : JT := (49, yX5_passHour, cX5_passHour, 5, (some .int), 5, 110, 5, tX5_passHour)
theorem okX5_passHour : e_T jX5_passHour := ⟨by decide +kernel, rfl, rfl, by decide +kernel⟩
def tX5_sort : List (Nat × OpT) := [(0, 3, 0, 0, 0, 1, 0), (1, 2, 1, 0, 0, 2, 0), (2, 44, 1, 51, 0, 5, 122), (5, 4, 2, 0, 0, 6, 0), (6, 2, 2, 0, 0, 7, 0), (7, 1, 0, 0, -9, 9, 0), (9, 21, 0, 0, 0, 12, 25), (12, 3, 0, 0, 0, 13, 0), (13, 30, 1, 5, 0, 16, 21), (16, 2, 1, 0, 0, 17, 0), (17, 1, 0, 0, nI 2, 18, 0), (18, 1, 0, 0, -9, 20, 0), (20, 44, 3, 17, 0, 23, 125), (23, 1, 0, 0, nI 0, 24, 0), (24, 41, 0, 0, 0, 25, 0), (25, 3, 0, 0, 0, 26, 0), (26, 30, 1, 5, 0, 29, 21), (29, 2, 1, 0, 0, 30, 0), (30, 1, 0, 0, nI 1, 31, 0), (31, 2, 2, 0, 0, 32, 0), (32, 44, 3, 17, 0, 35, 125), (35, 1, 0, 0, nI 1, 36, 0), (36, 41, 0, 0, 0, 37, 0)]
def jX5_sort : JT := (50, yX5_sort, cX5_sort, 3, (some .boolean), 4, 88, 5, tX5_sort)
theorem okX5_sort : e_T jX5_sort := ⟨by decide +kernel, rfl, rfl, by decide +kernel⟩
def tX5_frameFor : List (Nat × OpT) := [(0, 3, 0, 0, 0, 1, 0), (1, 2, 1, 0, 0, 2, 0), (2, 44, 1, 45, 0, 5, 97), (5, 4, 2, 0, 0, 6, 0), (6, 3, 0, 0, 0, 7, 0), (7, 2, 2, 0, 0, 8, 0), (8, 44, 1, 46, 0, 11, 129), (11, 19, 0, 0, 0, 14, 16), (14, 2, 2, 0, 0, 15, 0), (15, 41, 0, 0, 0, 16, 0), (16, 3, 0, 0, 0, 17, 0), (17, 30, 5, 5, 0, 20, 36), (20, 1, 0, 0, nI 1, 21, 0), (21, 21, 0, 0, 0, 24, 53), (24, 3, 0, 0, 0, 25, 0), (25, 30, 1, 5, 0, 28, 21), (28, 2, 1, 0, 0, 29, 0), (29, 44, 1, 20, 0, 32, 132), (32, 14, 0, 0, 0, 35, 53), (35, 3, 0, 0, 0, 36, 0), (36, 30, 1, 5, 0, 39, 21), (39, 2, 2, 0, 0, 40, 0), (40, 44, 1, 26, 0, 43, 135), (43, 14, 0, 0, 0, 46, 50), (46, 2, 2, 0, 0, 47, 0), (47, 13, 0, 0, 0, 52, 0), (50, 1, 0, 0, -9, 52, 0), (52, 41, 0, 0, 0, 53, 0), (53, 3, 0, 0, 0, 54, 0), (54, 30, 5, 5, 0, 57, 36), (57, 1, 0, 0, nI 2, 58, 0), (58, 21, 0, 0, 0, 61, 68), (61, 3, 0, 0, 0, 62, 0), (62, 44, 0, 52, 0, 65, 138), (65, 13, 0, 0, 0, 70, 0), (68, 1, 0, 0, -9, 70, 0), (70, 41, 0, 0, 0, 71, 0)]
def jX5_frameFor : JT := (51, yX5_frameFor, cX5_frameFor, 3, (some .int), 3, 66, 5, tX5_frameFor)
theorem okX5_frameFor : e_T jX5_frameFor := ⟨by decide +kernel, rfl, rfl, by decide +kernel⟩
def tX5_walkWithMostFree : List (Nat × OpT) := [(0, 1, 0, 0, -9, 2, 0), (2, 4, 1, 0, 0, 3, 0), (3, 1, 0, 0, nI 0, 4, 0), (4, 4, 2, 0, 0, 5, 0), (5, 1, 0, 0, nI 0, 6, 0), (6, 4, 3, 0, 0, 7, 0), (7, 2, 3, 0, 0, 8, 0), (8, 1, 0, 0, nI 8, 10, 0), (10, 23, 0, 0, 0, 13, 36), (13, 3, 0, 0, 0, 14, 0), (14, 2, 3, 0, 0, 15, 0), (15, 44, 1, 46, 0, 18, 129), (18, 2, 2, 0, 0, 19, 0), (19, 25, 0, 0, 0, 22, 30), (22, 2, 3, 0, 0, 23, 0), (23, 4, 1, 0, 0, 24, 0), (24, 3, 0, 0, 0, 25, 0), (25, 2, 3, 0, 0, 26, 0), (26, 44, 1, 46, 0, 29, 129), (29, 4, 2, 0, 0, 30, 0), (30, 12, 3, 0, nI 1, 33, 0), (33, 13, 0, 0, 0, 7, 0), (36, 2, 1, 0, 0, 37, 0), (37, 41, 0, 0, 0, 38, 0)]
def jX5_walkWithMostFree : JT := (52, yX5_walkWithMostFree, cX5_walkWithMostFree, 4, (some .int), 2, 42, 5, tX5_walkWithMostFree)
theorem okX5_walkWithMostFree : e_T jX5_walkWithMostFree := ⟨by decide +kernel, rfl, rfl, by decide +kernel⟩
def tX5_canGoOut : List (Nat × OpT) := [(0, 3, 0, 0, 0, 1, 0), (1, 30, 2, 5, 0, 4, 28), (4, 30, 0, 0, 0, 7, 142), (7, 2, 1, 0, 0, 8, 0), (8, 32, 0, 0, 0, 9, 0), (9, 4, 2, 0, 0, 10, 0), (10, 2, 2, 0, 0, 11, 0), (11, 46, 1, 98, 0, 14, 65), (14, 14, 0, 0, 0, 17, 45), (17, 3, 0, 0, 0, 18, 0), (18, 30, 2, 5, 0, 21, 28), (21, 30, 1, 0, 0, 24, 145), (24, 2, 1, 0, 0, 25, 0), (25, 33, 0, 0, 0, 26, 0), (26, 15, 0, 0, 0, 29, 45), (29, 3, 0, 0, 0, 30, 0), (30, 30, 1, 5, 0, 33, 21), (33, 30, 7, 2, 0, 36, 79), (36, 2, 2, 0, 0, 37, 0), (37, 32, 0, 0, 0, 38, 0), (38, 19, 0, 0, 0, 41, 45), (41, 1, 0, 0, nI 1, 42, 0), (42, 13, 0, 0, 0, 46, 0), (45, 1, 0, 0, nI 0, 46, 0), (46, 41, 0, 0, 0, 47, 0)]
def jX5_canGoOut : JT := (53, yX5_canGoOut, cX5_canGoOut, 3, (some .boolean), 1, 20, 5, tX5_canGoOut)
theorem okX5_canGoOut : e_T jX5_canGoOut := ⟨by decide +kernel, rfl, rfl, by decide +kernel⟩
def tX5_sendOut : List (Nat × OpT) := [(0, 3, 0, 0, 0, 1, 0), (1, 30, 1, 5, 0, 4, 21), (4, 1, 0, 0, nI 1, 5, 0), (5, 3, 0, 0, 0, 6, 0), (6, 30, 2, 5, 0, 9, 28), (9, 30, 0, 0, 0, 12, 142), (12, 2, 1, 0, 0, 13, 0), (13, 32, 0, 0, 0, 14, 0), (14, 3, 2, 0, 0, 15, 0), (15, 44, 3, 29, 0, 18, 149), (18, 3, 0, 0, 0, 19, 0), (19, 30, 7, 5, 0, 22, 43), (22, 3, 2, 0, 0, 23, 0), (23, 30, 1, 3, 0, 26, 108), (26, 53, 0, 0, 0, 29, 113), (29, 4, 3, 0, 0, 30, 0), (30, 1, 0, 0, nI 0, 31, 0), (31, 4, 4, 0, 0, 33, 0), (33, 2, 4, 0, 0, 35, 0), (35, 2, 3, 0, 0, 36, 0), (36, 23, 0, 0, 0, 39, 60), (39, 3, 0, 0, 0, 40, 0), (40, 30, 1, 5, 0, 43, 21), (43, 3, 2, 0, 0, 44, 0), (44, 2, 4, 0, 0, 46, 0), (46, 44, 1, 36, 0, 49, 116), (49, 1, 0, 0, nI 3, 50, 0), (50, 2, 1, 0, 0, 51, 0), (51, 44, 3, 17, 0, 54, 125), (54, 12, 4, 0, nI 1, 57, 0), (57, 13, 0, 0, 0, 33, 0), (60, 3, 0, 0, 0, 61, 0), (61, 30, 2, 5, 0, 64, 28), (64, 30, 1, 0, 0, 67, 145), (67, 2, 1, 0, 0, 68, 0), (68, 1, 0, 0, nI 1, 69, 0), (69, 37, 0, 0, 0, 70, 0), (70, 2, 3, 0, 0, 71, 0), (71, 41, 0, 0, 0, 72, 0)]
def jX5_sendOut : JT := (54, yX5_sendOut, cX5_sendOut, 5, (some .int), 4, 90, 5, tX5_sendOut)
theorem okX5_sendOut : e_T jX5_sendOut := ⟨by decide +kernel, rfl, rfl, by decide +kernel⟩
def tX5_bringBack : List (Nat × OpT) := [(0, 3, 0, 0, 0, 1, 0), (1, 30, 2, 5, 0, 4, 28), (4, 30, 0, 0, 0, 7, 142), (7, 2, 1, 0, 0, 8, 0), (8, 32, 0, 0, 0, 9, 0), (9, 4, 3, 0, 0, 10, 0), (10, 3, 0, 0, 0, 11, 0), (11, 30, 1, 5, 0, 14, 21), (14, 1, 0, 0, nI 3, 15, 0), (15, 2, 1, 0, 0, 16, 0), (16, 3, 2, 0, 0, 17, 0), (17, 44, 3, 29, 0, 20, 149), (20, 3, 0, 0, 0, 21, 0), (21, 3, 2, 0, 0, 22, 0), (22, 2, 3, 0, 0, 23, 0), (23, 44, 2, 56, 0, 26, 153), (26, 4, 4, 0, 0, 28, 0), (28, 3, 0, 0, 0, 29, 0), (29, 30, 2, 5, 0, 32, 28), (32, 2, 1, 0, 0, 33, 0), (33, 2, 3, 0, 0, 34, 0), (34, 44, 2, 6, 0, 37, 157), (37, 15, 0, 0, 0, 40, 48), (40, 2, 4, 0, 0, 42, 0), (42, 1, 0, 0, nI 1, 43, 0), (43, 6, 0, 0, 0, 44, 0), (44, 1, 0, 0, nI 2, 45, 0), (45, 9, 0, 0, 0, 46, 0), (46, 4, 4, 0, 0, 48, 0), (48, 2, 4, 0, 0, 50, 0), (50, 4, 5, 0, 0, 52, 0), (52, 1, 0, 0, nI 0, 53, 0), (53, 4, 6, 0, 0, 55, 0), (55, 2, 6, 0, 0, 57, 0), (57, 3, 2, 0, 0, 58, 0), (58, 30, 1, 3, 0, 61, 108), (61, 23, 0, 0, 0, 64, 136), (64, 3, 2, 0, 0, 65, 0), (65, 2, 6, 0, 0, 67, 0), (67, 44, 1, 36, 0, 70, 116), (70, 4, 7, 0, 0, 72, 0), (72, 3, 0, 0, 0, 73, 0), (73, 2, 7, 0, 0, 75, 0), (75, 44, 1, 45, 0, 78, 97), (78, 2, 3, 0, 0, 79, 0), (79, 20, 0, 0, 0, 82, 98), (82, 3, 0, 0, 0, 83, 0), (83, 30, 1, 5, 0, 86, 21), (86, 2, 7, 0, 0, 88, 0), (88, 3, 0, 0, 0, 89, 0), (89, 30, 4, 5, 0, 92, 62), (92, 44, 2, 19, 0, 95, 161), (95, 13, 0, 0, 0, 130, 0), (98, 2, 5, 0, 0, 100, 0), (100, 19, 0, 0, 0, 103, 123), (103, 3, 0, 0, 0, 104, 0), (104, 30, 1, 5, 0, 107, 21), (107, 2, 7, 0, 0, 109, 0), (109, 1, 0, 0, nI 4, 110, 0), (110, 3, 0, 0, 0, 111, 0), (111, 30, 4, 5, 0, 114, 62), (114, 44, 3, 18, 0, 117, 165), (117, 12, 5, 0, -1, 120, 0), (120, 13, 0, 0, 0, 130, 0), (123, 3, 0, 0, 0, 124, 0), (124, 2, 7, 0, 0, 126, 0), (126, 2, 3, 0, 0, 127, 0), (127, 44, 2, 57, 0, 130, 168), (130, 12, 6, 0, nI 1, 133, 0), (133, 13, 0, 0, 0, 55, 0), (136, 3, 0, 0, 0, 137, 0), (137, 30, 2, 5, 0, 140, 28), (140, 2, 1, 0, 0, 141, 0), (141, 2, 4, 0, 0, 143, 0), (143, 44, 2, 7, 0, 146, 171), (146, 2, 4, 0, 0, 148, 0), (148, 41, 0, 0, 0, 149, 0)]
def jX5_bringBack : JT := (55, yX5_bringBack, cX5_bringBack, 8, (some .int), 4, 90, 5, tX5_bringBack)
theorem okX5_bringBack : e_T jX5_bringBack := ⟨by decide +kernel, rfl, rfl, by decide +kernel⟩
def tX5_countBelonging : List (Nat × OpT) := [(0, 1, 0, 0, nI 0, 1, 0), (1, 4, 3, 0, 0, 2, 0), (2, 1, 0, 0, nI 0, 3, 0), (3, 4, 4, 0, 0, 5, 0), (5, 2, 4, 0, 0, 7, 0), (7, 3, 1, 0, 0, 8, 0), (8, 30, 1, 3, 0, 11, 108), (11, 23, 0, 0, 0, 14, 37), (14, 3, 0, 0, 0, 15, 0), (15, 3, 1, 0, 0, 16, 0), (16, 2, 4, 0, 0, 18, 0), (18, 44, 1, 36, 0, 21, 116), (21, 44, 1, 45, 0, 24, 97), (24, 2, 2, 0, 0, 25, 0), (25, 21, 0, 0, 0, 28, 31), (28, 12, 3, 0, nI 1, 31, 0), (31, 12, 4, 0, nI 1, 34, 0), (34, 13, 0, 0, 0, 5, 0), (37, 2, 3, 0, 0, 38, 0), (38, 41, 0, 0, 0, 39, 0)]
def jX5_countBelonging : JT := (56, yX5_countBelonging, cX5_countBelonging, 5, (some .int), 3, 64, 5, tX5_countBelonging)
theorem okX5_countBelonging : e_T jX5_countBelonging := ⟨by decide +kernel, rfl, rfl, by decide +kernel⟩
def tX5_putBack : List (Nat × OpT) := [(0, 3, 0, 0, 0, 1, 0), (1, 2, 2, 0, 0, 2, 0), (2, 44, 1, 46, 0, 5, 129), (5, 19, 0, 0, 0, 8, 21), (8, 3, 0, 0, 0, 9, 0), (9, 30, 1, 5, 0, 12, 21), (12, 2, 1, 0, 0, 13, 0), (13, 1, 0, 0, nI 1, 14, 0), (14, 2, 2, 0, 0, 15, 0), (15, 44, 3, 17, 0, 18, 125), (18, 13, 0, 0, 0, 32, 0), (21, 3, 0, 0, 0, 22, 0), (22, 30, 1, 5, 0, 25, 21), (25, 2, 1, 0, 0, 26, 0), (26, 1, 0, 0, nI 2, 27, 0), (27, 1, 0, 0, -9, 29, 0), (29, 44, 3, 17, 0, 32, 125), (32, 42, 0, 0, 0, 33, 0)]
def jX5_putBack : JT := (57, yX5_putBack, cX5_putBack, 3, none, 2, 44, 5, tX5_putBack)
theorem okX5_putBack : e_T jX5_putBack := ⟨by decide +kernel, rfl, rfl, by decide +kernel⟩
def tX6_init : List (Nat × OpT) := [(0, 3, 0, 0, 0, 1, 0), (1, 51, 0, 0, 0, 4, 5), (4, 3, 0, 0, 0, 5, 0), (5, 1, 0, 0, nI 80, 7, 0), (7, 48, 0, 0, 0, 9, 0), (9, 31, 0, 6, 0, 12, 11), (12, 3, 0, 0, 0, 13, 0), (13, 1, 0, 0, nI 14, 15, 0), (15, 48, 0, 0, 0, 17, 0), (17, 31, 2, 6, 0, 20, 15), (20, 3, 0, 0, 0, 21, 0), (21, 1, 0, 0, nI 14, 23, 0), (23, 48, 0, 0, 0, 25, 0), (25, 31, 3, 6, 0, 28, 19), (28, 3, 0, 0, 0, 29, 0), (29, 1, 0, 0, nI 14, 31, 0), (31, 48, 0, 0, 0, 33, 0), (33, 31, 4, 6, 0, 36, 22), (36, 42, 0, 0, 0, 37, 0)]
def jX6_init : JT := (58, yX6_init, cX6_init, 1, none, 1, 20, 6, tX6_init)
theorem okX6_init : e_T jX6_init := ⟨by decide +kernel, rfl, rfl, by decide +kernel⟩
def tX6_read : List (Nat × OpT) := [(0, 3, 0, 0, 0, 1, 0), (1, 1, 0, 0, nI 0, 2, 0), (2, 31, 6, 6, 0, 5, 29), (5, 3, 0, 0, 0, 6, 0), (6, 1, 0, 0, nI 0, 7, 0), (7, 31, 7, 6, 0, 10, 32), (10, 3, 0, 0, 0, 11, 0), (11, 1, 0, 0, nI 0, 12, 0), (12, 31, 5, 6, 0, 15, 36), (15, 1, 0, 0, nI 0, 16, 0), (16, 4, 1, 0, 0, 17, 0), (17, 2, 1, 0, 0, 18, 0), (18, 1, 0, 0, nI 14, 20, 0), (20, 23, 0, 0, 0, 23, 67), (23, 3, 0, 0, 0, 24, 0), (24, 30, 7, 6, 0, 27, 32), (27, 15, 0, 0, 0, 30, 67), (30, 3, 0, 0, 0, 31, 0), (31, 44, 0, 60, 0, 34, 39), (34, 3, 0, 0, 0, 35, 0), (35, 30, 7, 6, 0, 38, 32), (38, 15, 0, 0, 0, 41, 55), (41, 3, 0, 0, 0, 42, 0), (42, 30, 6, 6, 0, 45, 29), (45, 3, 0, 0, 0, 46, 0), (46, 30, 1, 6, 0, 49, 25), (49, 21, 0, 0, 0, 52, 55), (52, 1, 0, 0, -9, 54, 0), (54, 41, 0, 0, 0, 55, 0), (55, 3, 0, 0, 0, 56, 0), (56, 1, 0, 0, nI 59, 58, 0), (58, 44, 1, 63, 0, 61, 42), (61, 12, 1, 0, nI 1, 64, 0), (64, 13, 0, 0, 0, 17, 0), (67, 3, 0, 0, 0, 68, 0), (68, 30, 6, 6, 0, 71, 29), (71, 41, 0, 0, 0, 72, 0)]
def jX6_read : JT := (59, yX6_read, cX6_read, 2, (some .int), 4, 88, 6, tX6_read)
theorem okX6_read : e_T jX6_read := ⟨by decide +kernel, rfl, rfl, by decide +kernel⟩
def tX6_readRange : List (Nat × OpT) := [(0, 3, 0, 0, 0, 1, 0), (1, 44, 0, 61, 0, 4, 46), (4, 4, 1, 0, 0, 5, 0), (5, 3, 0, 0, 0, 6, 0), (6, 1, 0, 0, nI 45, 8, 0), (8, 44, 1, 63, 0, 11, 42), (11, 3, 0, 0, 0, 12, 0), (12, 44, 0, 61, 0, 15, 46), (15, 4, 2, 0, 0, 16, 0), (16, 3, 0, 0, 0, 17, 0), (17, 1, 0, 0, nI 61, 19, 0), (19, 44, 1, 63, 0, 22, 42), (22, 3, 0, 0, 0, 23, 0), (23, 1, 0, 0, nI 55, 25, 0), (25, 44, 1, 62, 0, 28, 50), (28, 4, 3, 0, 0, 29, 0), (29, 3, 0, 0, 0, 30, 0), (30, 30, 7, 6, 0, 33, 32), (33, 15, 0, 0, 0, 36, 85), (36, 3, 0, 0, 0, 37, 0), (37, 30, 5, 6, 0, 40, 36), (40, 1, 0, 0, nI 14, 42, 0), (42, 23, 0, 0, 0, 45, 85), (45, 3, 0, 0, 0, 46, 0), (46, 30, 2, 6, 0, 49, 15), (49, 3, 0, 0, 0, 50, 0), (50, 30, 5, 6, 0, 53, 36), (53, 2, 1, 0, 0, 54, 0), (54, 36, 0, 0, 0, 55, 0), (55, 3, 0, 0, 0, 56, 0), (56, 30, 3, 6, 0, 59, 19), (59, 3, 0, 0, 0, 60, 0), (60, 30, 5, 6, 0, 63, 36), (63, 2, 2, 0, 0, 64, 0), (64, 36, 0, 0, 0, 65, 0), (65, 3, 0, 0, 0, 66, 0), (66, 30, 4, 6, 0, 69, 22), (69, 3, 0, 0, 0, 70, 0), (70, 30, 5, 6, 0, 73, 36), (73, 2, 3, 0, 0, 74, 0), (74, 36, 0, 0, 0, 75, 0), (75, 3, 0, 0, 0, 76, 0), (76, 26, 0, 0, 0, 77, 0), (77, 30, 5, 6, 0, 80, 36), (80, 1, 0, 0, nI 1, 81, 0), (81, 6, 0, 0, 0, 82, 0), (82, 31, 5, 6, 0, 85, 36), (85, 42, 0, 0, 0, 86, 0)]
def jX6_readRange : JT := (60, yX6_readRange, cX6_readRange, 4, none, 3, 65, 6, tX6_readRange)
theorem okX6_readRange : e_T jX6_readRange := ⟨by decide +kernel, rfl, rfl, by decide +kernel⟩
def tX6_readNumber : List (Nat × OpT) := [(0, 3, 0, 0, 0, 1, 0), (1, 1, 0, 0, nI 57, 3, 0), (3, 44, 1, 62, 0, 6, 50), (6, 4, 1, 0, 0, 7, 0), (7, 2, 1, 0, 0, 8, 0), (8, 14, 0, 0, 0, 11, 34), (11, 3, 0, 0, 0, 12, 0), (12, 1, 0, 0, nI 48, 14, 0), (14, 1, 0, 0, nI 57, 16, 0), (16, 44, 2, 64, 0, 19, 54), (19, 14, 0, 0, 0, 22, 34), (22, 2, 1, 0, 0, 23, 0), (23, 1, 0, 0, nI 10, 25, 0), (25, 8, 0, 0, 0, 26, 0), (26, 3, 0, 0, 0, 27, 0), (27, 1, 0, 0, nI 57, 29, 0), (29, 44, 1, 62, 0, 32, 50), (32, 6, 0, 0, 0, 33, 0), (33, 4, 1, 0, 0, 34, 0), (34, 2, 1, 0, 0, 35, 0), (35, 41, 0, 0, 0, 36, 0)]
def jX6_readNumber : JT := (61, yX6_readNumber, cX6_readNumber, 2, (some .int), 2, 44, 6, tX6_readNumber)
theorem okX6_readNumber : e_T jX6_readNumber := ⟨by decide +kernel, rfl, rfl, by decide +kernel⟩
def tX6_readDigit : List (Nat × OpT) := [(0, 3, 0, 0, 0, 1, 0), (1, 30, 7, 6, 0, 4, 32), (4, 15, 0, 0, 0, 7, 17), (7, 3, 0, 0, 0, 8, 0), (8, 1, 0, 0, nI 48, 10, 0), (10, 2, 1, 0, 0, 11, 0), (11, 44, 2, 64, 0, 14, 54), (14, 15, 0, 0, 0, 17, 24), (17, 3, 0, 0, 0, 18, 0), (18, 1, 0, 0, nI 1, 19, 0), (19, 31, 7, 6, 0, 22, 32), (22, 1, 0, 0, nI 0, 23, 0), (23, 41, 0, 0, 0, 24, 0), (24, 3, 0, 0, 0, 25, 0), (25, 30, 0, 6, 0, 28, 11), (28, 3, 0, 0, 0, 29, 0), (29, 30, 6, 6, 0, 32, 29), (32, 34, 0, 0, 0, 33, 0), (33, 1, 0, 0, nI 48, 35, 0), (35, 7, 0, 0, 0, 36, 0), (36, 4, 2, 0, 0, 37, 0), (37, 3, 0, 0, 0, 38, 0), (38, 26, 0, 0, 0, 39, 0), (39, 30, 6, 6, 0, 42, 29), (42, 1, 0, 0, nI 1, 43, 0), (43, 6, 0, 0, 0, 44, 0), (44, 31, 6, 6, 0, 47, 29), (47, 2, 2, 0, 0, 48, 0), (48, 41, 0, 0, 0, 49, 0)]
def jX6_readDigit : JT := (62, yX6_readDigit, cX6_readDigit, 3, (some .int), 1, 22, 6, tX6_readDigit)
theorem okX6_readDigit : e_T jX6_readDigit := ⟨by decide +kernel, rfl, rfl, by decide +kernel⟩
def tX6_readSign : List (Nat × OpT) := [(0, 3, 0, 0, 0, 1, 0), (1, 30, 7, 6, 0, 4, 32), (4, 15, 0, 0, 0, 7, 16), (7, 3, 0, 0, 0, 8, 0), (8, 2, 1, 0, 0, 9, 0), (9, 2, 1, 0, 0, 10, 0), (10, 44, 2, 64, 0, 13, 54), (13, 15, 0, 0, 0, 16, 24), (16, 3, 0, 0, 0, 17, 0), (17, 1, 0, 0, nI 1, 18, 0), (18, 31, 7, 6, 0, 21, 32), (21, 13, 0, 0, 0, 34, 0), (24, 3, 0, 0, 0, 25, 0), (25, 26, 0, 0, 0, 26, 0), (26, 30, 6, 6, 0, 29, 29), (29, 1, 0, 0, nI 1, 30, 0), (30, 6, 0, 0, 0, 31, 0), (31, 31, 6, 6, 0, 34, 29), (34, 42, 0, 0, 0, 35, 0)]
def jX6_readSign : JT := (63, yX6_readSign, cX6_readSign, 2, none, 1, 22, 6, tX6_readSign)
theorem okX6_readSign : e_T jX6_readSign := ⟨by decide +kernel, rfl, rfl, by decide +kernel⟩
def tX6_isNextIn : List (Nat × OpT) := [(0, 3, 0, 0, 0, 1, 0), (1, 30, 6, 6, 0, 4, 29), (4, 3, 0, 0, 0, 5, 0), (5, 30, 1, 6, 0, 8, 25), (8, 23, 0, 0, 0, 11, 41), (11, 3, 0, 0, 0, 12, 0), (12, 30, 0, 6, 0, 15, 11), (15, 3, 0, 0, 0, 16, 0), (16, 30, 6, 6, 0, 19, 29), (19, 34, 0, 0, 0, 20, 0), (20, 2, 1, 0, 0, 21, 0), (21, 22, 0, 0, 0, 24, 41), (24, 3, 0, 0, 0, 25, 0), (25, 30, 0, 6, 0, 28, 11), (28, 3, 0, 0, 0, 29, 0), (29, 30, 6, 6, 0, 32, 29), (32, 34, 0, 0, 0, 33, 0), (33, 2, 2, 0, 0, 34, 0), (34, 24, 0, 0, 0, 37, 41), (37, 1, 0, 0, nI 1, 38, 0), (38, 13, 0, 0, 0, 42, 0), (41, 1, 0, 0, nI 0, 42, 0), (42, 41, 0, 0, 0, 43, 0)]
def jX6_isNextIn : JT := (64, yX6_isNextIn, cX6_isNextIn, 3, (some .boolean), 0, 0, 6, tX6_isNextIn)
theorem okX6_isNextIn : e_T jX6_isNextIn := ⟨by decide +kernel, rfl, rfl, by decide +kernel⟩
def tX6_hasReversedRange : List (Nat × OpT) := [(0, 1, 0, 0, nI 0, 1, 0), (1, 4, 1, 0, 0, 2, 0), (2, 2, 1, 0, 0, 3, 0), (3, 3, 0, 0, 0, 4, 0), (4, 30, 5, 6, 0, 7, 36), (7, 23, 0, 0, 0, 10, 33), (10, 3, 0, 0, 0, 11, 0), (11, 30, 2, 6, 0, 14, 15), (14, 2, 1, 0, 0, 15, 0), (15, 32, 0, 0, 0, 16, 0), (16, 3, 0, 0, 0, 17, 0), (17, 30, 3, 6, 0, 20, 19), (20, 2, 1, 0, 0, 21, 0), (21, 32, 0, 0, 0, 22, 0), (22, 25, 0, 0, 0, 25, 27), (25, 1, 0, 0, nI 1, 26, 0), (26, 41, 0, 0, 0, 27, 0), (27, 12, 1, 0, nI 1, 30, 0), (30, 13, 0, 0, 0, 2, 0), (33, 1, 0, 0, nI 0, 34, 0), (34, 41, 0, 0, 0, 35, 0)]
def jX6_hasReversedRange : JT := (65, yX6_hasReversedRange, cX6_hasReversedRange, 2, (some .boolean), 0, 0, 6, tX6_hasReversedRange)
theorem okX6_hasReversedRange : e_T jX6_hasReversedRange := ⟨by decide +kernel, rfl, rfl, by decide +kernel⟩
def tX7_init : List (Nat × OpT) := [(0, 3, 0, 0, 0, 1, 0), (1, 51, 0, 0, 0, 4, 3), (4, 3, 0, 0, 0, 5, 0), (5, 1, 0, 0, nI 100, 7, 0), (7, 48, 0, 0, 0, 9, 0), (9, 31, 0, 7, 0, 12, 9), (12, 1, 0, 0, nI 0, 13, 0), (13, 4, 1, 0, 0, 14, 0), (14, 2, 1, 0, 0, 15, 0), (15, 50, 0, 0, 0, 18, 15), (18, 40, 0, 0, 0, 19, 0), (19, 23, 0, 0, 0, 22, 40), (22, 3, 0, 0, 0, 23, 0), (23, 50, 0, 0, 0, 26, 15), (26, 2, 1, 0, 0, 27, 0), (27, 32, 0, 0, 0, 28, 0), (28, 1, 0, 0, nI 99, 30, 0), (30, 2, 1, 0, 0, 31, 0), (31, 44, 3, 69, 0, 34, 18), (34, 12, 1, 0, nI 1, 37, 0), (37, 13, 0, 0, 0, 14, 0), (40, 42, 0, 0, 0, 41, 0)]
def jX7_init : JT := (66, yX7_init, cX7_init, 2, none, 2, 45, 7, tX7_init)
theorem okX7_init : e_T jX7_init := ⟨by decide +kernel, rfl, rfl, by decide +kernel⟩
def tX7_copyFrom : List (Nat × OpT) := [(0, 3, 1, 0, 0, 1, 0), (1, 30, 0, 7, 0, 4, 9), (4, 1, 0, 0, nI 0, 5, 0), (5, 3, 0, 0, 0, 6, 0), (6, 30, 0, 7, 0, 9, 9), (9, 1, 0, 0, nI 0, 10, 0), (10, 1, 0, 0, nI 100, 12, 0), (12, 54, 0, 0, 0, 15, 22), (15, 42, 0, 0, 0, 16, 0)]
def jX7_copyFrom : JT := (67, yX7_copyFrom, cX7_copyFrom, 2, none, 1, 30, 7, tX7_copyFrom)
theorem okX7_copyFrom : e_T jX7_copyFrom := ⟨by decide +kernel, rfl, rfl, by decide +kernel⟩
def tX7_walkOf : List (Nat × OpT) := [(0, 2, 1, 0, 0, 1, 0), (1, 1, 0, 0, nI 0, 2, 0), (2, 1, 0, 0, nI 99, 4, 0), (4, 46, 3, 97, 0, 7, 28), (7, 14, 0, 0, 0, 10, 19), (10, 3, 0, 0, 0, 11, 0), (11, 30, 0, 7, 0, 14, 9), (14, 2, 1, 0, 0, 15, 0), (15, 32, 0, 0, 0, 16, 0), (16, 13, 0, 0, 0, 21, 0), (19, 1, 0, 0, -9, 21, 0), (21, 41, 0, 0, 0, 22, 0)]
def jX7_walkOf : JT := (68, yX7_walkOf, cX7_walkOf, 2, (some .int), 1, 22, 7, tX7_walkOf)
theorem okX7_walkOf : e_T jX7_walkOf := ⟨by decide +kernel, rfl, rfl, by decide +kernel⟩
def tX7_give : List (Nat × OpT) := [(0, 2, 1, 0, 0, 1, 0), (1, 1, 0, 0, nI 0, 2, 0), (2, 52, 0, 0, 0, 5, 32), (5, 4, 4, 0, 0, 7, 0), (7, 2, 4, 0, 0, 9, 0), (9, 2, 2, 0, 0, 10, 0), (10, 24, 0, 0, 0, 13, 34), (13, 2, 4, 0, 0, 15, 0), (15, 1, 0, 0, nI 100, 17, 0), (17, 23, 0, 0, 0, 20, 34), (20, 3, 0, 0, 0, 21, 0), (21, 30, 0, 7, 0, 24, 9), (24, 2, 4, 0, 0, 26, 0), (26, 2, 3, 0, 0, 27, 0), (27, 36, 0, 0, 0, 28, 0), (28, 12, 4, 0, nI 1, 31, 0), (31, 13, 0, 0, 0, 7, 0), (34, 42, 0, 0, 0, 35, 0)]
def jX7_give : JT := (69, yX7_give, cX7_give, 5, none, 1, 21, 7, tX7_give)
theorem okX7_give : e_T jX7_give := ⟨by decide +kernel, rfl, rfl, by decide +kernel⟩
def tX7_countStretches : List (Nat × OpT) := [(0, 1, 0, 0, nI 1, 1, 0), (1, 4, 1, 0, 0, 2, 0), (2, 1, 0, 0, nI 1, 3, 0), (3, 4, 2, 0, 0, 4, 0), (4, 2, 2, 0, 0, 5, 0), (5, 1, 0, 0, nI 100, 7, 0), (7, 23, 0, 0, 0, 10, 36), (10, 3, 0, 0, 0, 11, 0), (11, 30, 0, 7, 0, 14, 9), (14, 2, 2, 0, 0, 15, 0), (15, 32, 0, 0, 0, 16, 0), (16, 3, 0, 0, 0, 17, 0), (17, 30, 0, 7, 0, 20, 9), (20, 2, 2, 0, 0, 21, 0), (21, 1, 0, 0, nI 1, 22, 0), (22, 7, 0, 0, 0, 23, 0), (23, 32, 0, 0, 0, 24, 0), (24, 20, 0, 0, 0, 27, 30), (27, 12, 1, 0, nI 1, 30, 0), (30, 12, 2, 0, nI 1, 33, 0), (33, 13, 0, 0, 0, 4, 0), (36, 2, 1, 0, 0, 37, 0), (37, 41, 0, 0, 0, 38, 0)]
def jX7_countStretches : JT := (70, yX7_countStretches, cX7_countStretches, 3, (some .int), 0, 0, 7, tX7_countStretches)
theorem okX7_countStretches : e_T jX7_countStretches := ⟨by decide +kernel, rfl, rfl, by decide +kernel⟩
def tX7_firstCode : List (Nat × OpT) := [(0, 2, 1, 0, 0, 1, 0), (1, 4, 2, 0, 0, 2, 0), (2, 2, 2, 0, 0, 3, 0), (3, 19, 0, 0, 0, 6, 35), (6, 2, 2, 0, 0, 7, 0), (7, 1, 0, 0, nI 100, 9, 0), (9, 23, 0, 0, 0, 12, 35), (12, 3, 0, 0, 0, 13, 0), (13, 30, 0, 7, 0, 16, 9), (16, 2, 2, 0, 0, 17, 0), (17, 1, 0, 0, nI 1, 18, 0), (18, 7, 0, 0, 0, 19, 0), (19, 32, 0, 0, 0, 20, 0), (20, 3, 0, 0, 0, 21, 0), (21, 30, 0, 7, 0, 24, 9), (24, 2, 2, 0, 0, 25, 0), (25, 32, 0, 0, 0, 26, 0), (26, 21, 0, 0, 0, 29, 35), (29, 12, 2, 0, -1, 32, 0), (32, 13, 0, 0, 0, 2, 0), (35, 2, 2, 0, 0, 36, 0), (36, 41, 0, 0, 0, 37, 0)]
def jX7_firstCode : JT := (71, yX7_firstCode, cX7_firstCode, 3, (some .int), 0, 0, 7, tX7_firstCode)
theorem okX7_firstCode : e_T jX7_firstCode := ⟨by decide +kernel, rfl, rfl, by decide +kernel⟩
def tX7_lastCode : List (Nat × OpT) := [(0, 2, 1, 0, 0, 1, 0), (1, 4, 2, 0, 0, 2, 0), (2, 2, 2, 0, 0, 3, 0), (3, 16, 0, 0, 0, 6, 35), (6, 2, 2, 0, 0, 7, 0), (7, 1, 0, 0, nI 99, 9, 0), (9, 23, 0, 0, 0, 12, 35), (12, 3, 0, 0, 0, 13, 0), (13, 30, 0, 7, 0, 16, 9), (16, 2, 2, 0, 0, 17, 0), (17, 1, 0, 0, nI 1, 18, 0), (18, 6, 0, 0, 0, 19, 0), (19, 32, 0, 0, 0, 20, 0), (20, 3, 0, 0, 0, 21, 0), (21, 30, 0, 7, 0, 24, 9), (24, 2, 2, 0, 0, 25, 0), (25, 32, 0, 0, 0, 26, 0), (26, 21, 0, 0, 0, 29, 35), (29, 12, 2, 0, nI 1, 32, 0), (32, 13, 0, 0, 0, 2, 0), (35, 2, 2, 0, 0, 36, 0), (36, 41, 0, 0, 0, 37, 0)]
def jX7_lastCode : JT := (72, yX7_lastCode, cX7_lastCode, 3, (some .int), 0, 0, 7, tX7_lastCode)
theorem okX7_lastCode : e_T jX7_lastCode := ⟨by decide +kernel, rfl, rfl, by decide +kernel⟩
def tX8_init : List (Nat × OpT) := [(0, 3, 0, 0, 0, 1, 0), (1, 51, 0, 0, 0, 4, 1), (4, 3, 0, 0, 0, 5, 0), (5, 47, 0, 0, 0, 8, 7), (8, 26, 0, 0, 0, 9, 0), (9, 45, 0, 37, 0, 12, 9), (12, 31, 0, 8, 0, 15, 10), (15, 3, 0, 0, 0, 16, 0), (16, 47, 0, 0, 0, 19, 16), (19, 26, 0, 0, 0, 20, 0), (20, 45, 0, 9, 0, 23, 18), (23, 31, 1, 8, 0, 26, 19), (26, 3, 0, 0, 0, 27, 0), (27, 47, 0, 0, 0, 30, 23), (30, 26, 0, 0, 0, 31, 0), (31, 45, 0, 58, 0, 34, 25), (34, 31, 2, 8, 0, 37, 26), (37, 3, 0, 0, 0, 38, 0), (38, 47, 0, 0, 0, 41, 30), (41, 26, 0, 0, 0, 42, 0), (42, 45, 0, 41, 0, 45, 32), (45, 31, 3, 8, 0, 48, 33), (48, 3, 0, 0, 0, 49, 0), (49, 47, 0, 0, 0, 52, 37), (52, 26, 0, 0, 0, 53, 0), (53, 45, 0, 33, 0, 56, 39), (56, 31, 4, 8, 0, 59, 40), (59, 42, 0, 0, 0, 60, 0)]
def jX8_init : JT := (73, yX8_init, cX8_init, 1, none, 6, 129, 8, tX8_init)
theorem okX8_init : e_T jX8_init := ⟨by decide +kernel, rfl, rfl, by decide +kernel⟩
def tX8_post : List (Nat × OpT) := [(0, 2, 1, 0, 0, 1, 0), (1, 1, 0, 0, nI 0, 2, 0), (2, 1, 0, 0, nI 99, 4, 0), (4, 46, 3, 97, 0, 7, 44), (7, 14, 0, 0, 0, 10, 29), (10, 2, 2, 0, 0, 11, 0), (11, 1, 0, 0, nI 0, 12, 0), (12, 1, 0, 0, nI 1, 13, 0), (13, 46, 3, 97, 0, 16, 44), (16, 14, 0, 0, 0, 19, 29), (19, 2, 3, 0, 0, 20, 0), (20, 1, 0, 0, nI 1, 21, 0), (21, 1, 0, 0, nI 20, 23, 0), (23, 46, 3, 97, 0, 26, 44), (26, 15, 0, 0, 0, 29, 31), (29, 1, 0, 0, -1, 30, 0), (30, 41, 0, 0, 0, 31, 0), (31, 3, 0, 0, 0, 32, 0), (32, 30, 0, 8, 0, 35, 10), (35, 30, 0, 4, 0, 38, 48), (38, 30, 1, 5, 0, 41, 51), (41, 30, 8, 2, 0, 44, 55), (44, 4, 4, 0, 0, 46, 0), (46, 2, 4, 0, 0, 48, 0), (48, 2, 3, 0, 0, 49, 0), (49, 6, 0, 0, 0, 50, 0), (50, 1, 0, 0, nI 120, 52, 0), (52, 25, 0, 0, 0, 55, 58), (55, 1, 0, 0, -3, 57, 0), (57, 41, 0, 0, 0, 58, 0), (58, 3, 0, 0, 0, 59, 0), (59, 30, 1, 8, 0, 62, 19), (62, 3, 0, 0, 0, 63, 0), (63, 30, 0, 8, 0, 66, 10), (66, 44, 1, 10, 0, 69, 61), (69, 1, 0, 0, nI 0, 70, 0), (70, 4, 5, 0, 0, 72, 0), (72, 2, 5, 0, 0, 74, 0), (74, 2, 3, 0, 0, 75, 0), (75, 23, 0, 0, 0, 78, 109), (78, 3, 0, 0, 0, 79, 0), (79, 30, 0, 8, 0, 82, 10), (82, 30, 0, 4, 0, 85, 48), (85, 30, 1, 5, 0, 88, 51), (88, 2, 1, 0, 0, 89, 0), (89, 2, 2, 0, 0, 90, 0), (90, 3, 0, 0, 0, 91, 0), (91, 30, 0, 8, 0, 94, 10), (94, 30, 0, 4, 0, 97, 48), (97, 30, 4, 5, 0, 100, 65), (100, 44, 3, 16, 0, 103, 68), (103, 12, 5, 0, nI 1, 106, 0), (106, 13, 0, 0, 0, 72, 0), (109, 2, 4, 0, 0, 111, 0), (111, 41, 0, 0, 0, 112, 0)]
def jX8_post : JT := (74, yX8_post, cX8_post, 6, (some .int), 5, 115, 8, tX8_post)
theorem okX8_post : e_T jX8_post := ⟨by decide +kernel, rfl, rfl, by decide +kernel⟩
def tX8_hour : List (Nat × OpT) := [(0, 3, 0, 0, 0, 1, 0), (1, 30, 0, 8, 0, 4, 10), (4, 30, 0, 4, 0, 7, 48), (7, 30, 4, 5, 0, 10, 65), (10, 1, 0, 0, nI 500, 13, 0), (13, 22, 0, 0, 0, 16, 19), (16, 1, 0, 0, -3, 18, 0), (18, 41, 0, 0, 0, 19, 0), (19, 3, 0, 0, 0, 20, 0), (20, 30, 1, 8, 0, 23, 19), (23, 3, 0, 0, 0, 24, 0), (24, 30, 0, 8, 0, 27, 10), (27, 44, 1, 10, 0, 30, 61), (30, 3, 0, 0, 0, 31, 0), (31, 30, 0, 8, 0, 34, 10), (34, 30, 0, 4, 0, 37, 48), (37, 3, 0, 0, 0, 38, 0), (38, 30, 4, 8, 0, 41, 40), (41, 44, 1, 49, 0, 44, 72), (44, 28, 0, 0, 0, 45, 0), (45, 3, 0, 0, 0, 46, 0), (46, 30, 0, 8, 0, 49, 10), (49, 30, 0, 4, 0, 52, 48), (52, 30, 1, 5, 0, 55, 51), (55, 1, 0, 0, nI 2, 56, 0), (56, 44, 1, 22, 0, 59, 76), (59, 41, 0, 0, 0, 60, 0)]
def jX8_hour : JT := (75, yX8_hour, cX8_hour, 1, (some .int), 6, 134, 8, tX8_hour)
theorem okX8_hour : e_T jX8_hour := ⟨by decide +kernel, rfl, rfl, by decide +kernel⟩
def tX8_setRange : List (Nat × OpT) := [(0, 2, 1, 0, 0, 1, 0), (1, 1, 0, 0, nI 0, 2, 0), (2, 1, 0, 0, nI 99, 4, 0), (4, 46, 3, 97, 0, 7, 44), (7, 14, 0, 0, 0, 10, 27), (10, 2, 2, 0, 0, 11, 0), (11, 2, 1, 0, 0, 12, 0), (12, 1, 0, 0, nI 99, 14, 0), (14, 46, 3, 97, 0, 17, 44), (17, 14, 0, 0, 0, 20, 27), (20, 2, 3, 0, 0, 21, 0), (21, 46, 1, 98, 0, 24, 80), (24, 15, 0, 0, 0, 27, 29), (27, 1, 0, 0, -1, 28, 0), (28, 41, 0, 0, 0, 29, 0), (29, 3, 0, 0, 0, 30, 0), (30, 30, 1, 8, 0, 33, 19), (33, 3, 0, 0, 0, 34, 0), (34, 30, 0, 8, 0, 37, 10), (37, 44, 1, 10, 0, 40, 61), (40, 3, 0, 0, 0, 41, 0), (41, 30, 0, 8, 0, 44, 10), (44, 30, 0, 4, 0, 47, 48), (47, 30, 0, 5, 0, 50, 84), (50, 2, 1, 0, 0, 51, 0), (51, 2, 2, 0, 0, 52, 0), (52, 2, 3, 0, 0, 53, 0), (53, 44, 3, 69, 0, 56, 88), (56, 3, 0, 0, 0, 57, 0), (57, 30, 0, 8, 0, 60, 10), (60, 30, 0, 4, 0, 63, 48), (63, 30, 0, 5, 0, 66, 84), (66, 44, 0, 70, 0, 69, 93), (69, 41, 0, 0, 0, 70, 0)]
def jX8_setRange : JT := (76, yX8_setRange, cX8_setRange, 4, (some .int), 5, 115, 8, tX8_setRange)
theorem okX8_setRange : e_T jX8_setRange := ⟨by decide +kernel, rfl, rfl, by decide +kernel⟩
def tX8_set : List (Nat × OpT) := [(0, 2, 1, 0, 0, 1, 0), (1, 1, 0, 0, nI 0, 2, 0), (2, 1, 0, 0, nI 10, 4, 0), (4, 46, 3, 97, 0, 7, 44), (7, 14, 0, 0, 0, 10, 25), (10, 2, 2, 0, 0, 11, 0), (11, 2, 1, 0, 0, 12, 0), (12, 46, 1, 101, 0, 15, 97), (15, 2, 1, 0, 0, 16, 0), (16, 46, 1, 102, 0, 19, 100), (19, 46, 3, 97, 0, 22, 44), (22, 15, 0, 0, 0, 25, 27), (25, 1, 0, 0, -1, 26, 0), (26, 41, 0, 0, 0, 27, 0), (27, 3, 0, 0, 0, 28, 0), (28, 30, 1, 8, 0, 31, 19), (31, 3, 0, 0, 0, 32, 0), (32, 30, 0, 8, 0, 35, 10), (35, 44, 1, 10, 0, 38, 61), (38, 3, 0, 0, 0, 39, 0), (39, 30, 0, 8, 0, 42, 10), (42, 30, 0, 4, 0, 45, 48), (45, 2, 1, 0, 0, 46, 0), (46, 44, 1, 43, 0, 49, 103), (49, 4, 3, 0, 0, 50, 0), (50, 3, 0, 0, 0, 51, 0), (51, 30, 0, 8, 0, 54, 10), (54, 30, 0, 4, 0, 57, 48), (57, 2, 1, 0, 0, 58, 0), (58, 2, 2, 0, 0, 59, 0), (59, 44, 2, 44, 0, 62, 106), (62, 2, 3, 0, 0, 63, 0), (63, 41, 0, 0, 0, 64, 0)]
def jX8_set : JT := (77, yX8_set, cX8_set, 4, (some .int), 5, 115, 8, tX8_set)
theorem okX8_set : e_T jX8_set := ⟨by decide +kernel, rfl, rfl, by decide +kernel⟩
def tX8_assign : List (Nat × OpT) := [(0, 2, 1, 0, 0, 1, 0), (1, 46, 1, 98, 0, 4, 80), (4, 14, 0, 0, 0, 7, 16), (7, 2, 2, 0, 0, 8, 0), (8, 1, 0, 0, -1, 9, 0), (9, 1, 0, 0, nI 5, 10, 0), (10, 46, 3, 97, 0, 13, 44), (13, 15, 0, 0, 0, 16, 18), (16, 1, 0, 0, -1, 17, 0), (17, 41, 0, 0, 0, 18, 0), (18, 3, 0, 0, 0, 19, 0), (19, 30, 0, 8, 0, 22, 10), (22, 30, 0, 4, 0, 25, 48), (25, 30, 2, 5, 0, 28, 110), (28, 5, 3, 0, 0, 29, 0), (29, 3, 3, 0, 0, 30, 0), (30, 2, 1, 0, 0, 31, 0), (31, 44, 1, 2, 0, 34, 114), (34, 4, 4, 0, 0, 36, 0), (36, 2, 2, 0, 0, 37, 0), (37, 16, 0, 0, 0, 40, 64), (40, 3, 3, 0, 0, 41, 0), (41, 30, 0, 0, 0, 44, 119), (44, 2, 2, 0, 0, 45, 0), (45, 32, 0, 0, 0, 46, 0), (46, 1, 0, 0, -9, 48, 0), (48, 20, 0, 0, 0, 51, 64), (51, 3, 3, 0, 0, 52, 0), (52, 30, 0, 0, 0, 55, 119), (55, 2, 2, 0, 0, 56, 0), (56, 32, 0, 0, 0, 57, 0), (57, 2, 1, 0, 0, 58, 0), (58, 20, 0, 0, 0, 61, 64), (61, 1, 0, 0, -2, 63, 0), (63, 41, 0, 0, 0, 64, 0), (64, 2, 4, 0, 0, 66, 0), (66, 16, 0, 0, 0, 69, 82), (69, 3, 3, 0, 0, 70, 0), (70, 30, 1, 0, 0, 73, 123), (73, 2, 4, 0, 0, 75, 0), (75, 33, 0, 0, 0, 76, 0), (76, 14, 0, 0, 0, 79, 82), (79, 1, 0, 0, -2, 81, 0), (81, 41, 0, 0, 0, 82, 0), (82, 3, 0, 0, 0, 83, 0), (83, 30, 1, 8, 0, 86, 19), (86, 3, 0, 0, 0, 87, 0), (87, 30, 0, 8, 0, 90, 10), (90, 44, 1, 10, 0, 93, 61), (93, 2, 4, 0, 0, 95, 0), (95, 16, 0, 0, 0, 98, 107), (98, 3, 3, 0, 0, 99, 0), (99, 30, 0, 0, 0, 102, 119), (102, 2, 4, 0, 0, 104, 0), (104, 1, 0, 0, -9, 106, 0), (106, 36, 0, 0, 0, 107, 0), (107, 2, 2, 0, 0, 108, 0), (108, 16, 0, 0, 0, 111, 118), (111, 3, 3, 0, 0, 112, 0), (112, 30, 0, 0, 0, 115, 119), (115, 2, 2, 0, 0, 116, 0), (116, 2, 1, 0, 0, 117, 0), (117, 36, 0, 0, 0, 118, 0), (118, 2, 4, 0, 0, 120, 0), (120, 41, 0, 0, 0, 121, 0)]
def jX8_assign : JT := (78, yX8_assign, cX8_assign, 5, (some .int), 5, 115, 8, tX8_assign)
theorem okX8_assign : e_T jX8_assign := ⟨by decide +kernel, rfl, rfl, by decide +kernel⟩
def tX8_goOut : List (Nat × OpT) := [(0, 2, 1, 0, 0, 1, 0), (1, 46, 1, 99, 0, 4, 127), (4, 15, 0, 0, 0, 7, 9), (7, 1, 0, 0, -1, 8, 0), (8, 41, 0, 0, 0, 9, 0), (9, 3, 0, 0, 0, 10, 0), (10, 30, 0, 8, 0, 13, 10), (13, 30, 0, 4, 0, 16, 48), (16, 2, 1, 0, 0, 17, 0), (17, 44, 1, 53, 0, 20, 130), (20, 15, 0, 0, 0, 23, 26), (23, 1, 0, 0, -2, 25, 0), (25, 41, 0, 0, 0, 26, 0), (26, 3, 0, 0, 0, 27, 0), (27, 30, 1, 8, 0, 30, 19), (30, 3, 0, 0, 0, 31, 0), (31, 30, 0, 8, 0, 34, 10), (34, 44, 1, 10, 0, 37, 61), (37, 3, 0, 0, 0, 38, 0), (38, 30, 0, 8, 0, 41, 10), (41, 30, 0, 4, 0, 44, 48), (44, 2, 1, 0, 0, 45, 0), (45, 3, 0, 0, 0, 46, 0), (46, 30, 4, 8, 0, 49, 40), (49, 44, 2, 54, 0, 52, 133), (52, 41, 0, 0, 0, 53, 0)]
def jX8_goOut : JT := (79, yX8_goOut, cX8_goOut, 2, (some .int), 5, 115, 8, tX8_goOut)
theorem okX8_goOut : e_T jX8_goOut := ⟨by decide +kernel, rfl, rfl, by decide +kernel⟩
def tX8_comeBack : List (Nat × OpT) := [(0, 2, 1, 0, 0, 1, 0), (1, 46, 1, 99, 0, 4, 127), (4, 15, 0, 0, 0, 7, 9), (7, 1, 0, 0, -1, 8, 0), (8, 41, 0, 0, 0, 9, 0), (9, 3, 0, 0, 0, 10, 0), (10, 30, 0, 8, 0, 13, 10), (13, 30, 0, 4, 0, 16, 48), (16, 30, 2, 5, 0, 19, 110), (19, 30, 1, 0, 0, 22, 123), (22, 2, 1, 0, 0, 23, 0), (23, 33, 0, 0, 0, 24, 0), (24, 15, 0, 0, 0, 27, 30), (27, 1, 0, 0, -2, 29, 0), (29, 41, 0, 0, 0, 30, 0), (30, 3, 0, 0, 0, 31, 0), (31, 30, 1, 8, 0, 34, 19), (34, 3, 0, 0, 0, 35, 0), (35, 30, 0, 8, 0, 38, 10), (38, 44, 1, 10, 0, 41, 61), (41, 3, 0, 0, 0, 42, 0), (42, 30, 0, 8, 0, 45, 10), (45, 30, 0, 4, 0, 48, 48), (48, 2, 1, 0, 0, 49, 0), (49, 3, 0, 0, 0, 50, 0), (50, 30, 4, 8, 0, 53, 40), (53, 44, 2, 55, 0, 56, 137), (56, 41, 0, 0, 0, 57, 0)]
def jX8_comeBack : JT := (80, yX8_comeBack, cX8_comeBack, 2, (some .int), 5, 117, 8, tX8_comeBack)
theorem okX8_comeBack : e_T jX8_comeBack := ⟨by decide +kernel, rfl, rfl, by decide +kernel⟩
def tX8_take : List (Nat × OpT) := [(0, 2, 1, 0, 0, 1, 0), (1, 46, 1, 100, 0, 4, 140), (4, 15, 0, 0, 0, 7, 9), (7, 1, 0, 0, -1, 8, 0), (8, 41, 0, 0, 0, 9, 0), (9, 3, 0, 0, 0, 10, 0), (10, 30, 1, 8, 0, 13, 19), (13, 3, 0, 0, 0, 14, 0), (14, 30, 0, 8, 0, 17, 10), (17, 44, 1, 10, 0, 20, 61), (20, 3, 0, 0, 0, 21, 0), (21, 30, 0, 8, 0, 24, 10), (24, 2, 1, 0, 0, 25, 0), (25, 44, 1, 39, 0, 28, 143), (28, 3, 0, 0, 0, 29, 0), (29, 30, 0, 8, 0, 32, 10), (32, 30, 0, 4, 0, 35, 48), (35, 30, 4, 5, 0, 38, 65), (38, 41, 0, 0, 0, 39, 0)]
def jX8_take : JT := (81, yX8_take, cX8_take, 2, (some .int), 5, 115, 8, tX8_take)
theorem okX8_take : e_T jX8_take := ⟨by decide +kernel, rfl, rfl, by decide +kernel⟩
def tX8_restore : List (Nat × OpT) := [(0, 2, 1, 0, 0, 1, 0), (1, 46, 1, 100, 0, 4, 140), (4, 15, 0, 0, 0, 7, 9), (7, 1, 0, 0, -1, 8, 0), (8, 41, 0, 0, 0, 9, 0), (9, 3, 0, 0, 0, 10, 0), (10, 30, 0, 8, 0, 13, 10), (13, 30, 2, 4, 0, 16, 147), (16, 2, 1, 0, 0, 17, 0), (17, 33, 0, 0, 0, 18, 0), (18, 15, 0, 0, 0, 21, 24), (21, 1, 0, 0, -2, 23, 0), (23, 41, 0, 0, 0, 24, 0), (24, 3, 0, 0, 0, 25, 0), (25, 30, 1, 8, 0, 28, 19), (28, 3, 0, 0, 0, 29, 0), (29, 30, 0, 8, 0, 32, 10), (32, 44, 1, 10, 0, 35, 61), (35, 3, 0, 0, 0, 36, 0), (36, 30, 0, 8, 0, 39, 10), (39, 30, 0, 4, 0, 42, 48), (42, 3, 0, 0, 0, 43, 0), (43, 30, 0, 8, 0, 46, 10), (46, 30, 1, 4, 0, 49, 150), (49, 2, 1, 0, 0, 50, 0), (50, 35, 0, 0, 0, 51, 0), (51, 44, 1, 42, 0, 54, 154), (54, 3, 0, 0, 0, 55, 0), (55, 30, 0, 8, 0, 58, 10), (58, 30, 0, 4, 0, 61, 48), (61, 30, 4, 5, 0, 64, 65), (64, 41, 0, 0, 0, 65, 0)]
def jX8_restore : JT := (82, yX8_restore, cX8_restore, 2, (some .int), 5, 115, 8, tX8_restore)
theorem okX8_restore : e_T jX8_restore := ⟨by decide +kernel, rfl, rfl, by decide +kernel⟩
def tX8_undo : List (Nat × OpT) := [(0, 3, 0, 0, 0, 1, 0), (1, 30, 1, 8, 0, 4, 19), (4, 30, 1, 1, 0, 7, 158), (7, 15, 0, 0, 0, 10, 13), (10, 1, 0, 0, -2, 12, 0), (12, 41, 0, 0, 0, 13, 0), (13, 3, 0, 0, 0, 14, 0), (14, 30, 1, 8, 0, 17, 19), (17, 3, 0, 0, 0, 18, 0), (18, 30, 0, 8, 0, 21, 10), (21, 44, 1, 12, 0, 24, 161), (24, 3, 0, 0, 0, 25, 0), (25, 30, 1, 8, 0, 28, 19), (28, 30, 1, 1, 0, 31, 158), (31, 41, 0, 0, 0, 32, 0)]
def jX8_undo : JT := (83, yX8_undo, cX8_undo, 1, (some .int), 5, 115, 8, tX8_undo)
theorem okX8_undo : e_T jX8_undo := ⟨by decide +kernel, rfl, rfl, by decide +kernel⟩
def tX8_setRanges : List (Nat × OpT) := [(0, 3, 0, 0, 0, 1, 0), (1, 30, 2, 8, 0, 4, 26), (4, 44, 0, 59, 0, 7, 174), (7, 4, 1, 0, 0, 8, 0), (8, 2, 1, 0, 0, 9, 0), (9, 1, 0, 0, -9, 11, 0), (11, 20, 0, 0, 0, 14, 20), (14, 1, 0, 0, -1000, 17, 0), (17, 2, 1, 0, 0, 18, 0), (18, 7, 0, 0, 0, 19, 0), (19, 41, 0, 0, 0, 20, 0), (20, 3, 0, 0, 0, 21, 0), (21, 30, 2, 8, 0, 24, 26), (24, 44, 0, 65, 0, 27, 177), (27, 14, 0, 0, 0, 30, 32), (30, 1, 0, 0, -1, 31, 0), (31, 41, 0, 0, 0, 32, 0), (32, 3, 0, 0, 0, 33, 0), (33, 30, 1, 8, 0, 36, 19), (36, 3, 0, 0, 0, 37, 0), (37, 30, 0, 8, 0, 40, 10), (40, 44, 1, 10, 0, 43, 61), (43, 1, 0, 0, nI 0, 44, 0), (44, 4, 2, 0, 0, 45, 0), (45, 2, 2, 0, 0, 46, 0), (46, 3, 0, 0, 0, 47, 0), (47, 30, 2, 8, 0, 50, 26), (50, 30, 5, 6, 0, 53, 180), (53, 23, 0, 0, 0, 56, 102), (56, 3, 0, 0, 0, 57, 0), (57, 30, 0, 8, 0, 60, 10), (60, 30, 0, 4, 0, 63, 48), (63, 30, 0, 5, 0, 66, 84), (66, 3, 0, 0, 0, 67, 0), (67, 30, 2, 8, 0, 70, 26), (70, 30, 2, 6, 0, 73, 182), (73, 2, 2, 0, 0, 74, 0), (74, 32, 0, 0, 0, 75, 0), (75, 3, 0, 0, 0, 76, 0), (76, 30, 2, 8, 0, 79, 26), (79, 30, 3, 6, 0, 82, 185), (82, 2, 2, 0, 0, 83, 0), (83, 32, 0, 0, 0, 84, 0), (84, 3, 0, 0, 0, 85, 0), (85, 30, 2, 8, 0, 88, 26), (88, 30, 4, 6, 0, 91, 188), (91, 2, 2, 0, 0, 92, 0), (92, 32, 0, 0, 0, 93, 0), (93, 44, 3, 69, 0, 96, 88), (96, 12, 2, 0, nI 1, 99, 0), (99, 13, 0, 0, 0, 45, 0), (102, 3, 0, 0, 0, 103, 0), (103, 30, 2, 8, 0, 106, 26), (106, 1, 0, 0, nI 0, 107, 0), (107, 31, 1, 6, 0, 110, 171), (110, 3, 0, 0, 0, 111, 0), (111, 30, 2, 8, 0, 114, 26), (114, 30, 5, 6, 0, 117, 180), (117, 41, 0, 0, 0, 118, 0)]
def jX8_setRanges : JT := (84, yX8_setRanges, cX8_setRanges, 3, (some .int), 5, 115, 8, tX8_setRanges)
theorem okX8_setRanges : e_T jX8_setRanges := ⟨by decide +kernel, rfl, rfl, by decide +kernel⟩
def tX8_count : List (Nat × OpT) := [(0, 2, 1, 0, 0, 1, 0), (1, 1, 0, 0, nI 0, 2, 0), (2, 1, 0, 0, nI 5, 3, 0), (3, 46, 3, 97, 0, 6, 44), (6, 14, 0, 0, 0, 9, 24), (9, 3, 0, 0, 0, 10, 0), (10, 30, 0, 8, 0, 13, 10), (13, 30, 0, 4, 0, 16, 48), (16, 30, 1, 5, 0, 19, 51), (19, 2, 1, 0, 0, 20, 0), (20, 44, 1, 22, 0, 23, 76), (23, 41, 0, 0, 0, 24, 0), (24, 2, 1, 0, 0, 25, 0), (25, 43, 0, 0, 0, 92, 0), (92, 3, 0, 0, 0, 93, 0), (93, 30, 0, 8, 0, 96, 10), (96, 30, 0, 4, 0, 99, 48), (99, 30, 1, 5, 0, 102, 51), (102, 30, 8, 2, 0, 105, 55), (105, 41, 0, 0, 0, 106, 0), (106, 3, 0, 0, 0, 107, 0), (107, 30, 0, 8, 0, 110, 10), (110, 30, 0, 4, 0, 113, 48), (113, 30, 4, 5, 0, 116, 65), (116, 41, 0, 0, 0, 117, 0), (117, 3, 0, 0, 0, 118, 0), (118, 30, 0, 8, 0, 121, 10), (121, 30, 0, 4, 0, 124, 48), (124, 30, 0, 5, 0, 127, 84), (127, 44, 0, 70, 0, 130, 93), (130, 41, 0, 0, 0, 131, 0), (131, 3, 0, 0, 0, 132, 0), (132, 30, 0, 8, 0, 135, 10), (135, 30, 0, 4, 0, 138, 48), (138, 30, 2, 5, 0, 141, 110), (141, 44, 0, 3, 0, 144, 189), (144, 41, 0, 0, 0, 145, 0), (145, 3, 0, 0, 0, 146, 0), (146, 30, 0, 8, 0, 149, 10), (149, 30, 0, 4, 0, 152, 48), (152, 44, 0, 47, 0, 155, 192), (155, 41, 0, 0, 0, 156, 0), (156, 3, 0, 0, 0, 157, 0), (157, 30, 0, 8, 0, 160, 10), (160, 30, 0, 4, 0, 163, 48), (163, 30, 1, 5, 0, 166, 51), (166, 44, 0, 25, 0, 169, 195), (169, 41, 0, 0, 0, 170, 0), (170, 3, 0, 0, 0, 171, 0), (171, 30, 0, 8, 0, 174, 10), (174, 30, 0, 4, 0, 177, 48), (177, 30, 2, 5, 0, 180, 110), (180, 44, 0, 4, 0, 183, 198), (183, 41, 0, 0, 0, 184, 0), (184, 3, 0, 0, 0, 185, 0), (185, 30, 0, 8, 0, 188, 10), (188, 30, 0, 4, 0, 191, 48), (191, 30, 5, 5, 0, 194, 201), (194, 41, 0, 0, 0, 195, 0), (195, 3, 0, 0, 0, 196, 0), (196, 30, 0, 8, 0, 199, 10), (199, 30, 0, 4, 0, 202, 48), (202, 30, 6, 5, 0, 205, 204), (205, 41, 0, 0, 0, 206, 0), (206, 3, 0, 0, 0, 207, 0), (207, 30, 0, 8, 0, 210, 10), (210, 30, 0, 4, 0, 213, 48), (213, 30, 7, 5, 0, 216, 207), (216, 41, 0, 0, 0, 217, 0), (217, 3, 0, 0, 0, 218, 0), (218, 30, 0, 8, 0, 221, 10), (221, 44, 0, 40, 0, 224, 210), (224, 41, 0, 0, 0, 225, 0), (225, 3, 0, 0, 0, 226, 0), (226, 30, 1, 8, 0, 229, 19), (229, 30, 1, 1, 0, 232, 158), (232, 41, 0, 0, 0, 233, 0), (233, 3, 0, 0, 0, 234, 0), (234, 30, 2, 8, 0, 237, 26), (237, 30, 1, 6, 0, 240, 171), (240, 41, 0, 0, 0, 241, 0), (241, 1, 0, 0, -1, 242, 0), (242, 41, 0, 0, 0, 243, 0)]
def jX8_count : JT := (85, yX8_count, cX8_count, 2, (some .int), 4, 86, 8, tX8_count)
theorem okX8_count : e_T jX8_count := ⟨by decide +kernel, rfl, rfl, by decide +kernel⟩
def tX8_letter : List (Nat × OpT) := [(0, 3, 0, 0, 0, 1, 0), (1, 30, 0, 8, 0, 4, 10), (4, 30, 0, 4, 0, 7, 48), (7, 30, 1, 5, 0, 10, 51), (10, 5, 3, 0, 0, 11, 0), (11, 3, 3, 0, 0, 12, 0), (12, 2, 1, 0, 0, 13, 0), (13, 44, 1, 15, 0, 16, 213), (16, 15, 0, 0, 0, 19, 21), (19, 1, 0, 0, -1, 20, 0), (20, 41, 0, 0, 0, 21, 0), (21, 2, 2, 0, 0, 22, 0), (22, 43, 0, 0, 0, 72, 0), (72, 3, 3, 0, 0, 73, 0), (73, 30, 0, 2, 0, 76, 216), (76, 2, 1, 0, 0, 77, 0), (77, 32, 0, 0, 0, 78, 0), (78, 41, 0, 0, 0, 79, 0), (79, 3, 3, 0, 0, 80, 0), (80, 30, 1, 2, 0, 83, 219), (83, 2, 1, 0, 0, 84, 0), (84, 32, 0, 0, 0, 85, 0), (85, 41, 0, 0, 0, 86, 0), (86, 3, 3, 0, 0, 87, 0), (87, 30, 3, 2, 0, 90, 222), (90, 2, 1, 0, 0, 91, 0), (91, 32, 0, 0, 0, 92, 0), (92, 41, 0, 0, 0, 93, 0), (93, 3, 3, 0, 0, 94, 0), (94, 30, 3, 2, 0, 97, 222), (97, 2, 1, 0, 0, 98, 0), (98, 32, 0, 0, 0, 99, 0), (99, 1, 0, 0, nI 1, 100, 0), (100, 21, 0, 0, 0, 103, 112), (103, 3, 3, 0, 0, 104, 0), (104, 30, 4, 2, 0, 107, 225), (107, 2, 1, 0, 0, 108, 0), (108, 32, 0, 0, 0, 109, 0), (109, 13, 0, 0, 0, 114, 0), (112, 1, 0, 0, -9, 114, 0), (114, 41, 0, 0, 0, 115, 0), (115, 3, 3, 0, 0, 116, 0), (116, 30, 3, 2, 0, 119, 222), (119, 2, 1, 0, 0, 120, 0), (120, 32, 0, 0, 0, 121, 0), (121, 1, 0, 0, nI 3, 122, 0), (122, 21, 0, 0, 0, 125, 134), (125, 3, 3, 0, 0, 126, 0), (126, 30, 4, 2, 0, 129, 225), (129, 2, 1, 0, 0, 130, 0), (130, 32, 0, 0, 0, 131, 0), (131, 13, 0, 0, 0, 136, 0), (134, 1, 0, 0, -9, 136, 0), (136, 41, 0, 0, 0, 137, 0), (137, 3, 3, 0, 0, 138, 0), (138, 30, 2, 2, 0, 141, 228), (141, 2, 1, 0, 0, 142, 0), (142, 32, 0, 0, 0, 143, 0), (143, 41, 0, 0, 0, 144, 0), (144, 3, 3, 0, 0, 145, 0), (145, 30, 5, 2, 0, 148, 231), (148, 2, 1, 0, 0, 149, 0), (149, 32, 0, 0, 0, 150, 0), (150, 41, 0, 0, 0, 151, 0), (151, 3, 3, 0, 0, 152, 0), (152, 30, 6, 2, 0, 155, 234), (155, 2, 1, 0, 0, 156, 0), (156, 32, 0, 0, 0, 157, 0), (157, 41, 0, 0, 0, 158, 0), (158, 3, 0, 0, 0, 159, 0), (159, 30, 0, 8, 0, 162, 10), (162, 30, 0, 4, 0, 165, 48), (165, 2, 1, 0, 0, 166, 0), (166, 44, 1, 45, 0, 169, 237), (169, 41, 0, 0, 0, 170, 0), (170, 1, 0, 0, -1, 171, 0), (171, 41, 0, 0, 0, 172, 0)]
def jX8_letter : JT := (86, yX8_letter, cX8_letter, 4, (some .int), 3, 64, 8, tX8_letter)
theorem okX8_letter : e_T jX8_letter := ⟨by decide +kernel, rfl, rfl, by decide +kernel⟩
def tX8_frame : List (Nat × OpT) := [(0, 2, 1, 0, 0, 1, 0), (1, 46, 1, 98, 0, 4, 80), (4, 15, 0, 0, 0, 7, 9), (7, 1, 0, 0, -1, 8, 0), (8, 41, 0, 0, 0, 9, 0), (9, 2, 2, 0, 0, 10, 0), (10, 43, 0, 0, 0, 44, 0), (44, 3, 0, 0, 0, 45, 0), (45, 30, 0, 8, 0, 48, 10), (48, 30, 0, 4, 0, 51, 48), (51, 30, 3, 5, 0, 54, 240), (54, 2, 1, 0, 0, 55, 0), (55, 32, 0, 0, 0, 56, 0), (56, 41, 0, 0, 0, 57, 0), (57, 3, 0, 0, 0, 58, 0), (58, 30, 0, 8, 0, 61, 10), (61, 30, 0, 4, 0, 64, 48), (64, 30, 1, 5, 0, 67, 51), (67, 30, 7, 2, 0, 70, 243), (70, 2, 1, 0, 0, 71, 0), (71, 32, 0, 0, 0, 72, 0), (72, 41, 0, 0, 0, 73, 0), (73, 3, 0, 0, 0, 74, 0), (74, 30, 0, 8, 0, 77, 10), (77, 30, 0, 4, 0, 80, 48), (80, 2, 1, 0, 0, 81, 0), (81, 44, 1, 46, 0, 84, 246), (84, 41, 0, 0, 0, 85, 0), (85, 3, 0, 0, 0, 86, 0), (86, 30, 0, 8, 0, 89, 10), (89, 30, 0, 4, 0, 92, 48), (92, 30, 1, 5, 0, 95, 51), (95, 2, 1, 0, 0, 96, 0), (96, 44, 1, 24, 0, 99, 249), (99, 41, 0, 0, 0, 100, 0), (100, 3, 0, 0, 0, 101, 0), (101, 30, 0, 8, 0, 104, 10), (104, 30, 0, 4, 0, 107, 48), (107, 30, 2, 5, 0, 110, 110), (110, 2, 1, 0, 0, 111, 0), (111, 44, 1, 2, 0, 114, 114), (114, 41, 0, 0, 0, 115, 0), (115, 1, 0, 0, -1, 116, 0), (116, 41, 0, 0, 0, 117, 0)]
def jX8_frame : JT := (87, yX8_frame, cX8_frame, 3, (some .int), 3, 67, 8, tX8_frame)
theorem okX8_frame : e_T jX8_frame := ⟨by decide +kernel, rfl, rfl, by decide +kernel⟩
def tX8_carrier : List (Nat × OpT) := [(0, 2, 1, 0, 0, 1, 0), (1, 46, 1, 99, 0, 4, 127), (4, 15, 0, 0, 0, 7, 9), (7, 1, 0, 0, -1, 8, 0), (8, 41, 0, 0, 0, 9, 0), (9, 3, 0, 0, 0, 10, 0), (10, 30, 0, 8, 0, 13, 10), (13, 30, 0, 4, 0, 16, 48), (16, 30, 2, 5, 0, 19, 110), (19, 5, 3, 0, 0, 20, 0), (20, 2, 2, 0, 0, 21, 0), (21, 43, 0, 0, 0, 52, 0), (52, 3, 3, 0, 0, 53, 0), (53, 30, 0, 0, 0, 56, 119), (56, 2, 1, 0, 0, 57, 0), (57, 32, 0, 0, 0, 58, 0), (58, 41, 0, 0, 0, 59, 0), (59, 3, 3, 0, 0, 60, 0), (60, 30, 1, 0, 0, 63, 123), (63, 2, 1, 0, 0, 64, 0), (64, 33, 0, 0, 0, 65, 0), (65, 14, 0, 0, 0, 68, 72), (68, 1, 0, 0, nI 1, 69, 0), (69, 13, 0, 0, 0, 73, 0), (72, 1, 0, 0, nI 0, 73, 0), (73, 41, 0, 0, 0, 74, 0), (74, 3, 0, 0, 0, 75, 0), (75, 30, 0, 8, 0, 78, 10), (78, 30, 0, 4, 0, 81, 48), (81, 30, 1, 5, 0, 84, 51), (84, 2, 1, 0, 0, 85, 0), (85, 44, 1, 23, 0, 88, 252), (88, 41, 0, 0, 0, 89, 0), (89, 3, 3, 0, 0, 90, 0), (90, 30, 2, 0, 0, 93, 255), (93, 2, 1, 0, 0, 94, 0), (94, 32, 0, 0, 0, 95, 0), (95, 41, 0, 0, 0, 96, 0), (96, 1, 0, 0, -1, 97, 0), (97, 41, 0, 0, 0, 98, 0)]
def jX8_carrier : JT := (88, yX8_carrier, cX8_carrier, 4, (some .int), 3, 67, 8, tX8_carrier)
theorem okX8_carrier : e_T jX8_carrier := ⟨by decide +kernel, rfl, rfl, by decide +kernel⟩
def tX8_rounds : List (Nat × OpT) := [(0, 2, 1, 0, 0, 1, 0), (1, 46, 1, 99, 0, 4, 127), (4, 14, 0, 0, 0, 7, 14), (7, 2, 2, 0, 0, 8, 0), (8, 46, 1, 98, 0, 11, 80), (11, 15, 0, 0, 0, 14, 16), (14, 1, 0, 0, -1, 15, 0), (15, 41, 0, 0, 0, 16, 0), (16, 3, 0, 0, 0, 17, 0), (17, 30, 0, 8, 0, 20, 10), (20, 30, 0, 4, 0, 23, 48), (23, 30, 2, 5, 0, 26, 110), (26, 2, 1, 0, 0, 27, 0), (27, 2, 2, 0, 0, 28, 0), (28, 44, 2, 5, 0, 31, 258), (31, 41, 0, 0, 0, 32, 0)]
def jX8_rounds : JT := (89, yX8_rounds, cX8_rounds, 3, (some .int), 2, 42, 8, tX8_rounds)
theorem okX8_rounds : e_T jX8_rounds := ⟨by decide +kernel, rfl, rfl, by decide +kernel⟩
def tX8_stretch : List (Nat × OpT) := [(0, 2, 1, 0, 0, 1, 0), (1, 1, 0, 0, nI 0, 2, 0), (2, 1, 0, 0, nI 99, 4, 0), (4, 46, 3, 97, 0, 7, 44), (7, 15, 0, 0, 0, 10, 12), (10, 1, 0, 0, -1, 11, 0), (11, 41, 0, 0, 0, 12, 0), (12, 2, 2, 0, 0, 13, 0), (13, 43, 0, 0, 0, 40, 0), (40, 3, 0, 0, 0, 41, 0), (41, 30, 0, 8, 0, 44, 10), (44, 30, 0, 4, 0, 47, 48), (47, 30, 0, 5, 0, 50, 84), (50, 2, 1, 0, 0, 51, 0), (51, 44, 1, 68, 0, 54, 262), (54, 41, 0, 0, 0, 55, 0), (55, 3, 0, 0, 0, 56, 0), (56, 30, 0, 8, 0, 59, 10), (59, 30, 0, 4, 0, 62, 48), (62, 30, 0, 5, 0, 65, 84), (65, 2, 1, 0, 0, 66, 0), (66, 44, 1, 71, 0, 69, 263), (69, 41, 0, 0, 0, 70, 0), (70, 3, 0, 0, 0, 71, 0), (71, 30, 0, 8, 0, 74, 10), (74, 30, 0, 4, 0, 77, 48), (77, 30, 0, 5, 0, 80, 84), (80, 2, 1, 0, 0, 81, 0), (81, 44, 1, 72, 0, 84, 266), (84, 41, 0, 0, 0, 85, 0), (85, 1, 0, 0, -1, 86, 0), (86, 41, 0, 0, 0, 87, 0)]
def jX8_stretch : JT := (90, yX8_stretch, cX8_stretch, 3, (some .int), 2, 43, 8, tX8_stretch)
theorem okX8_stretch : e_T jX8_stretch := ⟨by decide +kernel, rfl, rfl, by decide +kernel⟩
def tX8_inBag : List (Nat × OpT) := [(0, 2, 1, 0, 0, 1, 0), (1, 17, 0, 0, 0, 4, 6), (4, 1, 0, 0, -1, 5, 0), (5, 41, 0, 0, 0, 6, 0), (6, 3, 0, 0, 0, 7, 0), (7, 30, 0, 8, 0, 10, 10), (10, 30, 0, 4, 0, 13, 48), (13, 30, 1, 5, 0, 16, 51), (16, 3, 0, 0, 0, 17, 0), (17, 30, 4, 8, 0, 20, 40), (20, 44, 1, 27, 0, 23, 269), (23, 3, 0, 0, 0, 24, 0), (24, 30, 4, 8, 0, 27, 40), (27, 2, 1, 0, 0, 28, 0), (28, 44, 1, 36, 0, 31, 273), (31, 41, 0, 0, 0, 32, 0)]
def jX8_inBag : JT := (91, yX8_inBag, cX8_inBag, 2, (some .int), 3, 68, 8, tX8_inBag)
theorem okX8_inBag : e_T jX8_inBag := ⟨by decide +kernel, rfl, rfl, by decide +kernel⟩
def tX8_inFrame : List (Nat × OpT) := [(0, 2, 1, 0, 0, 1, 0), (1, 46, 1, 98, 0, 4, 80), (4, 14, 0, 0, 0, 7, 11), (7, 2, 2, 0, 0, 8, 0), (8, 17, 0, 0, 0, 11, 13), (11, 1, 0, 0, -1, 12, 0), (12, 41, 0, 0, 0, 13, 0), (13, 3, 0, 0, 0, 14, 0), (14, 30, 0, 8, 0, 17, 10), (17, 30, 0, 4, 0, 20, 48), (20, 30, 1, 5, 0, 23, 51), (23, 1, 0, 0, nI 1, 24, 0), (24, 2, 1, 0, 0, 25, 0), (25, 3, 0, 0, 0, 26, 0), (26, 30, 4, 8, 0, 29, 40), (29, 44, 3, 29, 0, 32, 276), (32, 3, 0, 0, 0, 33, 0), (33, 30, 4, 8, 0, 36, 40), (36, 2, 2, 0, 0, 37, 0), (37, 44, 1, 36, 0, 40, 273), (40, 41, 0, 0, 0, 41, 0)]
def jX8_inFrame : JT := (92, yX8_inFrame, cX8_inFrame, 3, (some .int), 4, 90, 8, tX8_inFrame)
theorem okX8_inFrame : e_T jX8_inFrame := ⟨by decide +kernel, rfl, rfl, by decide +kernel⟩
def tX8_clearIn : List (Nat × OpT) := [(0, 3, 0, 0, 0, 1, 0), (1, 30, 3, 8, 0, 4, 33), (4, 3, 0, 0, 0, 5, 0), (5, 30, 0, 8, 0, 8, 10), (8, 30, 0, 4, 0, 11, 48), (11, 44, 1, 42, 0, 14, 154), (14, 1, 0, 0, nI 0, 15, 0), (15, 4, 1, 0, 0, 16, 0), (16, 2, 1, 0, 0, 17, 0), (17, 1, 0, 0, nI 60, 19, 0), (19, 24, 0, 0, 0, 22, 57), (22, 3, 0, 0, 0, 23, 0), (23, 30, 3, 8, 0, 26, 33), (26, 44, 0, 48, 0, 29, 280), (29, 14, 0, 0, 0, 32, 34), (32, 2, 1, 0, 0, 33, 0), (33, 41, 0, 0, 0, 34, 0), (34, 3, 0, 0, 0, 35, 0), (35, 30, 3, 8, 0, 38, 33), (38, 3, 0, 0, 0, 39, 0), (39, 30, 4, 8, 0, 42, 40), (42, 44, 1, 49, 0, 45, 72), (45, 15, 0, 0, 0, 48, 51), (48, 1, 0, 0, -9, 50, 0), (50, 41, 0, 0, 0, 51, 0), (51, 12, 1, 0, nI 1, 54, 0), (54, 13, 0, 0, 0, 16, 0), (57, 1, 0, 0, -9, 59, 0), (59, 41, 0, 0, 0, 60, 0)]
def jX8_clearIn : JT := (93, yX8_clearIn, cX8_clearIn, 2, (some .int), 6, 134, 8, tX8_clearIn)
theorem okX8_clearIn : e_T jX8_clearIn := ⟨by decide +kernel, rfl, rfl, by decide +kernel⟩
def tX8_wouldOverflow : List (Nat × OpT) := [(0, 2, 1, 0, 0, 1, 0), (1, 1, 0, 0, nI 0, 2, 0), (2, 1, 0, 0, nI 2, 3, 0), (3, 46, 3, 97, 0, 6, 44), (6, 15, 0, 0, 0, 9, 11), (9, 1, 0, 0, -1, 10, 0), (10, 41, 0, 0, 0, 11, 0), (11, 3, 0, 0, 0, 12, 0), (12, 30, 3, 8, 0, 15, 33), (15, 3, 0, 0, 0, 16, 0), (16, 30, 0, 8, 0, 19, 10), (19, 30, 0, 4, 0, 22, 48), (22, 44, 1, 42, 0, 25, 154), (25, 3, 0, 0, 0, 26, 0), (26, 30, 3, 8, 0, 29, 33), (29, 2, 1, 0, 0, 30, 0), (30, 31, 5, 5, 0, 33, 201), (33, 3, 0, 0, 0, 34, 0), (34, 30, 3, 8, 0, 37, 33), (37, 3, 0, 0, 0, 38, 0), (38, 30, 4, 8, 0, 41, 40), (41, 44, 1, 49, 0, 44, 72), (44, 28, 0, 0, 0, 45, 0), (45, 3, 0, 0, 0, 46, 0), (46, 30, 3, 8, 0, 49, 33), (49, 30, 1, 5, 0, 52, 51), (52, 1, 0, 0, nI 2, 53, 0), (53, 44, 1, 22, 0, 56, 76), (56, 41, 0, 0, 0, 57, 0)]
def jX8_wouldOverflow : JT := (94, yX8_wouldOverflow, cX8_wouldOverflow, 2, (some .int), 6, 134, 8, tX8_wouldOverflow)
theorem okX8_wouldOverflow : e_T jX8_wouldOverflow := ⟨by decide +kernel, rfl, rfl, by decide +kernel⟩
def tX8_bestCarrier : List (Nat × OpT) := [(0, 2, 1, 0, 0, 1, 0), (1, 46, 1, 98, 0, 4, 80), (4, 15, 0, 0, 0, 7, 9), (7, 1, 0, 0, -1, 8, 0), (8, 41, 0, 0, 0, 9, 0), (9, 3, 0, 0, 0, 10, 0), (10, 30, 0, 8, 0, 13, 10), (13, 30, 0, 4, 0, 16, 48), (16, 30, 2, 5, 0, 19, 110), (19, 2, 1, 0, 0, 20, 0), (20, 44, 1, 8, 0, 23, 283), (23, 41, 0, 0, 0, 24, 0)]
def jX8_bestCarrier : JT := (95, yX8_bestCarrier, cX8_bestCarrier, 2, (some .int), 3, 65, 8, tX8_bestCarrier)
theorem okX8_bestCarrier : e_T jX8_bestCarrier := ⟨by decide +kernel, rfl, rfl, by decide +kernel⟩
def tX8_wouldDeliver : List (Nat × OpT) := [(0, 2, 1, 0, 0, 1, 0), (1, 46, 1, 99, 0, 4, 127), (4, 15, 0, 0, 0, 7, 9), (7, 1, 0, 0, -1, 8, 0), (8, 41, 0, 0, 0, 9, 0), (9, 3, 0, 0, 0, 10, 0), (10, 30, 0, 8, 0, 13, 10), (13, 30, 0, 4, 0, 16, 48), (16, 30, 2, 5, 0, 19, 110), (19, 30, 1, 0, 0, 22, 123), (22, 2, 1, 0, 0, 23, 0), (23, 33, 0, 0, 0, 24, 0), (24, 4, 2, 0, 0, 25, 0), (25, 2, 2, 0, 0, 26, 0), (26, 15, 0, 0, 0, 29, 46), (29, 3, 0, 0, 0, 30, 0), (30, 30, 0, 8, 0, 33, 10), (33, 30, 0, 4, 0, 36, 48), (36, 2, 1, 0, 0, 37, 0), (37, 44, 1, 53, 0, 40, 130), (40, 15, 0, 0, 0, 43, 46), (43, 1, 0, 0, -2, 45, 0), (45, 41, 0, 0, 0, 46, 0), (46, 3, 0, 0, 0, 47, 0), (47, 30, 3, 8, 0, 50, 33), (50, 3, 0, 0, 0, 51, 0), (51, 30, 0, 8, 0, 54, 10), (54, 30, 0, 4, 0, 57, 48), (57, 44, 1, 42, 0, 60, 154), (60, 2, 2, 0, 0, 61, 0), (61, 15, 0, 0, 0, 64, 77), (64, 3, 0, 0, 0, 65, 0), (65, 30, 3, 8, 0, 68, 33), (68, 2, 1, 0, 0, 69, 0), (69, 3, 0, 0, 0, 70, 0), (70, 30, 4, 8, 0, 73, 40), (73, 44, 2, 54, 0, 76, 133), (76, 28, 0, 0, 0, 77, 0), (77, 3, 0, 0, 0, 78, 0), (78, 30, 3, 8, 0, 81, 33), (81, 2, 1, 0, 0, 82, 0), (82, 3, 0, 0, 0, 83, 0), (83, 30, 4, 8, 0, 86, 40), (86, 44, 2, 55, 0, 89, 137), (89, 41, 0, 0, 0, 90, 0)]
def jX8_wouldDeliver : JT := (96, yX8_wouldDeliver, cX8_wouldDeliver, 3, (some .int), 5, 117, 8, tX8_wouldDeliver)
theorem okX8_wouldDeliver : e_T jX8_wouldDeliver := ⟨by decide +kernel, rfl, rfl, by decide +kernel⟩
def tX8_isIn : List (Nat × OpT) := [(0, 2, 0, 0, 0, 1, 0), (1, 2, 1, 0, 0, 2, 0), (2, 22, 0, 0, 0, 5, 14), (5, 2, 0, 0, 0, 6, 0), (6, 2, 2, 0, 0, 7, 0), (7, 24, 0, 0, 0, 10, 14), (10, 1, 0, 0, nI 1, 11, 0), (11, 13, 0, 0, 0, 15, 0), (14, 1, 0, 0, nI 0, 15, 0), (15, 41, 0, 0, 0, 16, 0)]
def jX8_isIn : JT := (97, yX8_isIn, cX8_isIn, 3, (some .boolean), 0, 0, 8, tX8_isIn)
theorem okX8_isIn : e_T jX8_isIn := ⟨by decide +kernel, rfl, rfl, by decide +kernel⟩
def tX8_isWalk : List (Nat × OpT) := [(0, 2, 0, 0, 0, 1, 0), (1, 16, 0, 0, 0, 4, 14), (4, 2, 0, 0, 0, 5, 0), (5, 1, 0, 0, nI 8, 7, 0), (7, 23, 0, 0, 0, 10, 14), (10, 1, 0, 0, nI 1, 11, 0), (11, 13, 0, 0, 0, 15, 0), (14, 1, 0, 0, nI 0, 15, 0), (15, 41, 0, 0, 0, 16, 0)]
def jX8_isWalk : JT := (98, yX8_isWalk, cX8_isWalk, 1, (some .boolean), 0, 0, 8, tX8_isWalk)
theorem okX8_isWalk : e_T jX8_isWalk := ⟨by decide +kernel, rfl, rfl, by decide +kernel⟩
def tX8_isCarrier : List (Nat × OpT) := [(0, 2, 0, 0, 0, 1, 0), (1, 16, 0, 0, 0, 4, 14), (4, 2, 0, 0, 0, 5, 0), (5, 1, 0, 0, nI 6, 7, 0), (7, 23, 0, 0, 0, 10, 14), (10, 1, 0, 0, nI 1, 11, 0), (11, 13, 0, 0, 0, 15, 0), (14, 1, 0, 0, nI 0, 15, 0), (15, 41, 0, 0, 0, 16, 0)]
def jX8_isCarrier : JT := (99, yX8_isCarrier, cX8_isCarrier, 1, (some .boolean), 0, 0, 8, tX8_isCarrier)
theorem okX8_isCarrier : e_T jX8_isCarrier := ⟨by decide +kernel, rfl, rfl, by decide +kernel⟩
def tX8_isSlot : List (Nat × OpT) := [(0, 2, 0, 0, 0, 1, 0), (1, 16, 0, 0, 0, 4, 13), (4, 2, 0, 0, 0, 5, 0), (5, 1, 0, 0, nI 2, 6, 0), (6, 23, 0, 0, 0, 9, 13), (9, 1, 0, 0, nI 1, 10, 0), (10, 13, 0, 0, 0, 14, 0), (13, 1, 0, 0, nI 0, 14, 0), (14, 41, 0, 0, 0, 15, 0)]
def jX8_isSlot : JT := (100, yX8_isSlot, cX8_isSlot, 1, (some .boolean), 0, 0, 8, tX8_isSlot)
theorem okX8_isSlot : e_T jX8_isSlot := ⟨by decide +kernel, rfl, rfl, by decide +kernel⟩
def tX8_leastValue : List (Nat × OpT) := [(0, 2, 0, 0, 0, 1, 0), (1, 1, 0, 0, nI 8, 3, 0), (3, 21, 0, 0, 0, 6, 10), (6, 1, 0, 0, nI 0, 7, 0), (7, 13, 0, 0, 0, 11, 0), (10, 1, 0, 0, nI 1, 11, 0), (11, 41, 0, 0, 0, 12, 0)]
def jX8_leastValue : JT := (101, yX8_leastValue, cX8_leastValue, 1, (some .int), 0, 0, 8, tX8_leastValue)
theorem okX8_leastValue : e_T jX8_leastValue := ⟨by decide +kernel, rfl, rfl, by decide +kernel⟩
def tX8_greatestValue : List (Nat × OpT) := [(0, 2, 0, 0, 0, 1, 0), (1, 43, 0, 0, 0, 28, 0), (28, 1, 0, 0, nI 2, 29, 0), (29, 41, 0, 0, 0, 30, 0), (30, 1, 0, 0, nI 40, 32, 0), (32, 41, 0, 0, 0, 33, 0), (33, 1, 0, 0, nI 30, 35, 0), (35, 41, 0, 0, 0, 36, 0), (36, 1, 0, 0, nI 20, 38, 0), (38, 41, 0, 0, 0, 39, 0)]
def jX8_greatestValue : JT := (102, yX8_greatestValue, cX8_greatestValue, 1, (some .int), 0, 0, 8, tX8_greatestValue)
theorem okX8_greatestValue : e_T jX8_greatestValue := ⟨by decide +kernel, rfl, rfl, by decide +kernel⟩
def tL_cell : List (Nat × OpT) := [(0, 2, 1, 0, 0, 1, 0), (1, 3, 0, 0, 0, 2, 0), (2, 40, 0, 0, 0, 3, 0), (3, 23, 0, 0, 0, 6, 12), (6, 3, 0, 0, 0, 7, 0), (7, 2, 1, 0, 0, 8, 0), (8, 32, 0, 0, 0, 9, 0), (9, 13, 0, 0, 0, 24, 0), (12, 1, 0, 0, nI 7919, 15, 0), (15, 2, 1, 0, 0, 16, 0), (16, 1, 0, 0, nI 3, 17, 0), (17, 6, 0, 0, 0, 18, 0), (18, 8, 0, 0, 0, 19, 0), (19, 2, 1, 0, 0, 20, 0), (20, 1, 0, 0, nI 11, 22, 0), (22, 6, 0, 0, 0, 23, 0), (23, 8, 0, 0, 0, 24, 0), (24, 41, 0, 0, 0, 25, 0)]
def jL_cell : JT := (103, yL_cell, cL_cell, 2, (some .int), 0, 0, 10, tL_cell)
theorem okL_cell : e_T jL_cell := ⟨by decide +kernel, rfl, rfl, by decide +kernel⟩
def tL_low : List (Nat × OpT) := [(0, 2, 0, 0, 0, 1, 0), (1, 56, 0, 0, 2147483647, 3, 7), (3, 10, 0, 0, 0, 4, 0), (4, 2, 1, 0, 0, 5, 0), (5, 29, 0, 0, 0, 6, 0), (6, 41, 0, 0, 0, 7, 0)]
def jL_low : JT := (104, yL_low, cL_low, 2, (some .int), 0, 0, 10, tL_low)
theorem okL_low : e_T jL_low := ⟨by decide +kernel, rfl, rfl, by decide +kernel⟩
def tL_bag : List (Nat × OpT) := [(0, 3, 0, 0, 0, 1, 0), (1, 2, 1, 0, 0, 2, 0), (2, 44, 1, 91, 0, 5, 43), (5, 1, 0, 0, -9, 7, 0), (7, 21, 0, 0, 0, 10, 14), (10, 1, 0, 0, nI 1, 11, 0), (11, 13, 0, 0, 0, 15, 0), (14, 1, 0, 0, nI 0, 15, 0), (15, 4, 2, 0, 0, 16, 0), (16, 1, 0, 0, nI 1, 17, 0), (17, 4, 3, 0, 0, 18, 0), (18, 2, 3, 0, 0, 19, 0), (19, 2, 1, 0, 0, 20, 0), (20, 23, 0, 0, 0, 23, 126), (23, 3, 0, 0, 0, 24, 0), (24, 2, 3, 0, 0, 25, 0), (25, 1, 0, 0, nI 1, 26, 0), (26, 7, 0, 0, 0, 27, 0), (27, 44, 1, 91, 0, 30, 43), (30, 4, 4, 0, 0, 32, 0), (32, 3, 0, 0, 0, 33, 0), (33, 2, 3, 0, 0, 34, 0), (34, 44, 1, 91, 0, 37, 43), (37, 4, 5, 0, 0, 39, 0), (39, 1, 0, 0, nI 10, 41, 0), (41, 3, 0, 0, 0, 42, 0), (42, 2, 4, 0, 0, 44, 0), (44, 1, 0, 0, nI 1, 45, 0), (45, 44, 2, 86, 0, 48, 14), (48, 8, 0, 0, 0, 49, 0), (49, 3, 0, 0, 0, 50, 0), (50, 2, 4, 0, 0, 52, 0), (52, 1, 0, 0, nI 5, 53, 0), (53, 44, 2, 86, 0, 56, 14), (56, 6, 0, 0, 0, 57, 0), (57, 4, 6, 0, 0, 59, 0), (59, 1, 0, 0, nI 10, 61, 0), (61, 3, 0, 0, 0, 62, 0), (62, 2, 5, 0, 0, 64, 0), (64, 1, 0, 0, nI 1, 65, 0), (65, 44, 2, 86, 0, 68, 14), (68, 8, 0, 0, 0, 69, 0), (69, 3, 0, 0, 0, 70, 0), (70, 2, 5, 0, 0, 72, 0), (72, 1, 0, 0, nI 5, 73, 0), (73, 44, 2, 86, 0, 76, 14), (76, 6, 0, 0, 0, 77, 0), (77, 4, 7, 0, 0, 79, 0), (79, 2, 2, 0, 0, 80, 0), (80, 14, 0, 0, 0, 83, 118), (83, 3, 0, 0, 0, 84, 0), (84, 2, 5, 0, 0, 86, 0), (86, 1, 0, 0, nI 2, 87, 0), (87, 44, 2, 86, 0, 90, 14), (90, 15, 0, 0, 0, 93, 118), (93, 2, 6, 0, 0, 95, 0), (95, 2, 7, 0, 0, 97, 0), (97, 24, 0, 0, 0, 100, 114), (100, 2, 6, 0, 0, 102, 0), (102, 2, 7, 0, 0, 104, 0), (104, 21, 0, 0, 0, 107, 118), (107, 2, 4, 0, 0, 109, 0), (109, 2, 5, 0, 0, 111, 0), (111, 23, 0, 0, 0, 114, 118), (114, 1, 0, 0, nI 1, 115, 0), (115, 13, 0, 0, 0, 119, 0), (118, 1, 0, 0, nI 0, 119, 0), (119, 4, 2, 0, 0, 120, 0), (120, 12, 3, 0, nI 1, 123, 0), (123, 13, 0, 0, 0, 18, 0), (126, 2, 2, 0, 0, 127, 0), (127, 41, 0, 0, 0, 128, 0)]
def jL_bag : JT := (106, yL_bag, cL_bag, 8, (some .boolean), 4, 89, 10, tL_bag)
theorem okL_bag : e_T jL_bag := ⟨by decide +kernel, rfl, rfl, by decide +kernel⟩
def tL_stretches : List (Nat × OpT) := [(0, 1, 0, 0, nI 0, 1, 0), (1, 4, 1, 0, 0, 2, 0), (2, 1, 0, 0, nI 0, 3, 0), (3, 4, 2, 0, 0, 4, 0), (4, 2, 2, 0, 0, 5, 0), (5, 1, 0, 0, nI 100, 7, 0), (7, 23, 0, 0, 0, 10, 58), (10, 3, 0, 0, 0, 11, 0), (11, 2, 2, 0, 0, 12, 0), (12, 1, 0, 0, nI 1, 13, 0), (13, 44, 2, 90, 0, 16, 18), (16, 2, 2, 0, 0, 17, 0), (17, 21, 0, 0, 0, 20, 41), (20, 2, 2, 0, 0, 21, 0), (21, 19, 0, 0, 0, 24, 43), (24, 3, 0, 0, 0, 25, 0), (25, 2, 2, 0, 0, 26, 0), (26, 1, 0, 0, nI 1, 27, 0), (27, 7, 0, 0, 0, 28, 0), (28, 1, 0, 0, nI 0, 29, 0), (29, 44, 2, 90, 0, 32, 18), (32, 3, 0, 0, 0, 33, 0), (33, 2, 2, 0, 0, 34, 0), (34, 1, 0, 0, nI 0, 35, 0), (35, 44, 2, 90, 0, 38, 18), (38, 21, 0, 0, 0, 41, 43), (41, 1, 0, 0, nI 0, 42, 0), (42, 41, 0, 0, 0, 43, 0), (43, 12, 1, 0, nI 1, 46, 0), (46, 3, 0, 0, 0, 47, 0), (47, 2, 2, 0, 0, 48, 0), (48, 1, 0, 0, nI 2, 49, 0), (49, 44, 2, 90, 0, 52, 18), (52, 1, 0, 0, nI 1, 53, 0), (53, 6, 0, 0, 0, 54, 0), (54, 4, 2, 0, 0, 55, 0), (55, 13, 0, 0, 0, 4, 0), (58, 2, 1, 0, 0, 59, 0), (59, 3, 0, 0, 0, 60, 0), (60, 1, 0, 0, nI 8, 62, 0), (62, 44, 1, 85, 0, 65, 8), (65, 21, 0, 0, 0, 68, 72), (68, 1, 0, 0, nI 1, 69, 0), (69, 13, 0, 0, 0, 73, 0), (72, 1, 0, 0, nI 0, 73, 0), (73, 41, 0, 0, 0, 74, 0)]
def jL_stretches : JT := (107, yL_stretches, cL_stretches, 3, (some .boolean), 5, 107, 10, tL_stretches)
theorem okL_stretches : e_T jL_stretches := ⟨by decide +kernel, rfl, rfl, by decide +kernel⟩
def tL_told : List (Nat × OpT) := [(0, 0, 0, 0, 0, 3, 0), (3, 0, 0, 0, 0, 4, 0), (4, 1, 0, 0, nI 0, 5, 0), (5, 4, 3, 0, 0, 6, 0), (6, 2, 3, 0, 0, 7, 0), (7, 1, 0, 0, nI 17, 9, 0), (9, 23, 0, 0, 0, 12, 31), (12, 0, 0, 0, 0, 15, 0), (15, 0, 0, 0, 0, 16, 0), (16, 0, 0, 0, 0, 17, 0), (17, 3, 0, 0, 0, 18, 0), (18, 2, 3, 0, 0, 19, 0), (19, 44, 1, 85, 0, 22, 8), (22, 0, 0, 0, 0, 23, 0), (23, 0, 0, 0, 0, 24, 0), (24, 0, 0, 0, 0, 25, 0), (25, 12, 3, 0, nI 1, 28, 0), (28, 13, 0, 0, 0, 6, 0), (31, 1, 0, 0, nI 0, 32, 0), (32, 4, 3, 0, 0, 33, 0), (33, 2, 3, 0, 0, 34, 0), (34, 3, 0, 0, 0, 35, 0), (35, 1, 0, 0, nI 6, 37, 0), (37, 44, 1, 85, 0, 40, 8), (40, 23, 0, 0, 0, 43, 80), (43, 1, 0, 0, nI 2, 44, 0), (44, 4, 4, 0, 0, 46, 0), (46, 2, 4, 0, 0, 48, 0), (48, 1, 0, 0, nI 8, 50, 0), (50, 23, 0, 0, 0, 53, 74), (53, 0, 0, 0, 0, 56, 0), (56, 0, 0, 0, 0, 57, 0), (57, 0, 0, 0, 0, 58, 0), (58, 3, 0, 0, 0, 59, 0), (59, 2, 3, 0, 0, 60, 0), (60, 2, 4, 0, 0, 62, 0), (62, 44, 2, 86, 0, 65, 14), (65, 0, 0, 0, 0, 66, 0), (66, 0, 0, 0, 0, 67, 0), (67, 0, 0, 0, 0, 68, 0), (68, 12, 4, 0, nI 1, 71, 0), (71, 13, 0, 0, 0, 46, 0), (74, 12, 3, 0, nI 1, 77, 0), (77, 13, 0, 0, 0, 33, 0), (80, 1, 0, 0, nI 0, 81, 0), (81, 4, 3, 0, 0, 82, 0), (82, 2, 3, 0, 0, 83, 0), (83, 1, 0, 0, nI 8, 85, 0), (85, 23, 0, 0, 0, 88, 122), (88, 0, 0, 0, 0, 91, 0), (91, 0, 0, 0, 0, 92, 0), (92, 0, 0, 0, 0, 93, 0), (93, 3, 0, 0, 0, 94, 0), (94, 2, 3, 0, 0, 95, 0), (95, 1, 0, 0, nI 0, 96, 0), (96, 44, 2, 87, 0, 99, 21), (99, 0, 0, 0, 0, 100, 0), (100, 0, 0, 0, 0, 101, 0), (101, 0, 0, 0, 0, 102, 0), (102, 0, 0, 0, 0, 105, 0), (105, 0, 0, 0, 0, 106, 0), (106, 0, 0, 0, 0, 107, 0), (107, 3, 0, 0, 0, 108, 0), (108, 2, 3, 0, 0, 109, 0), (109, 1, 0, 0, nI 4, 110, 0), (110, 44, 2, 87, 0, 113, 21), (113, 0, 0, 0, 0, 114, 0), (114, 0, 0, 0, 0, 115, 0), (115, 0, 0, 0, 0, 116, 0), (116, 12, 3, 0, nI 1, 119, 0), (119, 13, 0, 0, 0, 82, 0), (122, 1, 0, 0, nI 0, 123, 0), (123, 4, 3, 0, 0, 124, 0), (124, 2, 3, 0, 0, 125, 0), (125, 1, 0, 0, nI 100, 127, 0), (127, 23, 0, 0, 0, 130, 164), (130, 0, 0, 0, 0, 133, 0), (133, 0, 0, 0, 0, 134, 0), (134, 0, 0, 0, 0, 135, 0), (135, 3, 0, 0, 0, 136, 0), (136, 2, 3, 0, 0, 137, 0), (137, 1, 0, 0, nI 0, 138, 0), (138, 44, 2, 90, 0, 141, 18), (141, 0, 0, 0, 0, 142, 0), (142, 0, 0, 0, 0, 143, 0), (143, 0, 0, 0, 0, 144, 0), (144, 0, 0, 0, 0, 147, 0), (147, 0, 0, 0, 0, 148, 0), (148, 0, 0, 0, 0, 149, 0), (149, 3, 0, 0, 0, 150, 0), (150, 2, 3, 0, 0, 151, 0), (151, 1, 0, 0, nI 2, 152, 0), (152, 44, 2, 90, 0, 155, 18), (155, 0, 0, 0, 0, 156, 0), (156, 0, 0, 0, 0, 157, 0), (157, 0, 0, 0, 0, 158, 0), (158, 12, 3, 0, nI 7, 161, 0), (161, 13, 0, 0, 0, 124, 0), (164, 0, 0, 0, 0, 165, 0), (165, 0, 0, 0, 0, 166, 0)]
def jL_told : JT := (108, yL_told, cL_told, 5, (some .long), 5, 107, 10, tL_told)
theorem okL_told : e_T jL_told := ⟨by decide +kernel, rfl, rfl, by decide +kernel⟩
def tL_hours : List (Nat × OpT) := [(0, 3, 0, 0, 0, 1, 0), (1, 44, 0, 93, 0, 4, 50), (4, 4, 1, 0, 0, 5, 0), (5, 3, 0, 0, 0, 6, 0), (6, 3, 0, 0, 0, 7, 0), (7, 1, 0, 0, nI 13, 9, 0), (9, 44, 1, 85, 0, 12, 8), (12, 44, 1, 94, 0, 15, 54), (15, 4, 2, 0, 0, 16, 0), (16, 3, 0, 0, 0, 17, 0), (17, 1, 0, 0, nI 0, 18, 0), (18, 44, 1, 85, 0, 21, 8), (21, 3, 0, 0, 0, 22, 0), (22, 1, 0, 0, nI 2, 23, 0), (23, 44, 1, 85, 0, 26, 8), (26, 6, 0, 0, 0, 27, 0), (27, 4, 3, 0, 0, 28, 0), (28, 3, 0, 0, 0, 29, 0), (29, 1, 0, 0, nI 14, 31, 0), (31, 44, 1, 85, 0, 34, 8), (34, 4, 4, 0, 0, 36, 0), (36, 3, 0, 0, 0, 37, 0), (37, 1, 0, 0, nI 7, 39, 0), (39, 44, 1, 85, 0, 42, 8), (42, 4, 5, 0, 0, 44, 0), (44, 3, 0, 0, 0, 45, 0), (45, 44, 0, 75, 0, 48, 57), (48, 4, 6, 0, 0, 50, 0), (50, 2, 5, 0, 0, 52, 0), (52, 1, 0, 0, nI 500, 55, 0), (55, 21, 0, 0, 0, 58, 71), (58, 2, 6, 0, 0, 60, 0), (60, 1, 0, 0, -3, 62, 0), (62, 21, 0, 0, 0, 65, 69), (65, 1, 0, 0, nI 1, 66, 0), (66, 13, 0, 0, 0, 70, 0), (69, 1, 0, 0, nI 0, 70, 0), (70, 41, 0, 0, 0, 71, 0), (71, 3, 0, 0, 0, 72, 0), (72, 1, 0, 0, nI 0, 73, 0), (73, 44, 1, 85, 0, 76, 8), (76, 3, 0, 0, 0, 77, 0), (77, 1, 0, 0, nI 2, 78, 0), (78, 44, 1, 85, 0, 81, 8), (81, 6, 0, 0, 0, 82, 0), (82, 4, 7, 0, 0, 84, 0), (84, 2, 6, 0, 0, 86, 0), (86, 2, 2, 0, 0, 87, 0), (87, 21, 0, 0, 0, 90, 141), (90, 2, 6, 0, 0, 92, 0), (92, 3, 0, 0, 0, 93, 0), (93, 1, 0, 0, nI 2, 94, 0), (94, 44, 1, 85, 0, 97, 8), (97, 21, 0, 0, 0, 100, 141), (100, 3, 0, 0, 0, 101, 0), (101, 1, 0, 0, nI 7, 103, 0), (103, 44, 1, 85, 0, 106, 8), (106, 2, 5, 0, 0, 108, 0), (108, 1, 0, 0, nI 1, 109, 0), (109, 6, 0, 0, 0, 110, 0), (110, 21, 0, 0, 0, 113, 141), (113, 3, 0, 0, 0, 114, 0), (114, 1, 0, 0, nI 0, 115, 0), (115, 44, 1, 85, 0, 118, 8), (118, 2, 3, 0, 0, 119, 0), (119, 2, 4, 0, 0, 121, 0), (121, 25, 0, 0, 0, 124, 131), (124, 2, 3, 0, 0, 125, 0), (125, 2, 4, 0, 0, 127, 0), (127, 7, 0, 0, 0, 128, 0), (128, 13, 0, 0, 0, 132, 0), (131, 1, 0, 0, nI 0, 132, 0), (132, 21, 0, 0, 0, 135, 141), (135, 2, 7, 0, 0, 137, 0), (137, 2, 3, 0, 0, 138, 0), (138, 25, 0, 0, 0, 141, 143), (141, 1, 0, 0, nI 0, 142, 0), (142, 41, 0, 0, 0, 143, 0), (143, 2, 1, 0, 0, 144, 0), (144, 15, 0, 0, 0, 147, 160), (147, 2, 7, 0, 0, 149, 0), (149, 15, 0, 0, 0, 152, 156), (152, 1, 0, 0, nI 1, 153, 0), (153, 13, 0, 0, 0, 203, 0), (156, 1, 0, 0, nI 0, 157, 0), (157, 13, 0, 0, 0, 203, 0), (160, 2, 1, 0, 0, 161, 0), (161, 1, 0, 0, nI 1, 162, 0), (162, 21, 0, 0, 0, 165, 169), (165, 1, 0, 0, nI 1, 166, 0), (166, 13, 0, 0, 0, 170, 0), (169, 1, 0, 0, nI 0, 170, 0), (170, 2, 7, 0, 0, 172, 0), (172, 15, 0, 0, 0, 175, 179), (175, 1, 0, 0, nI 1, 176, 0), (176, 13, 0, 0, 0, 180, 0), (179, 1, 0, 0, nI 0, 180, 0), (180, 21, 0, 0, 0, 183, 202), (183, 2, 1, 0, 0, 184, 0), (184, 1, 0, 0, nI 2, 185, 0), (185, 22, 0, 0, 0, 188, 198), (188, 3, 0, 0, 0, 189, 0), (189, 44, 0, 93, 0, 192, 50), (192, 2, 1, 0, 0, 193, 0), (193, 1, 0, 0, nI 1, 194, 0), (194, 7, 0, 0, 0, 195, 0), (195, 21, 0, 0, 0, 198, 202), (198, 1, 0, 0, nI 1, 199, 0), (199, 13, 0, 0, 0, 203, 0), (202, 1, 0, 0, nI 0, 203, 0), (203, 41, 0, 0, 0, 204, 0)]
def jL_hours : JT := (109, yL_hours, cL_hours, 8, (some .boolean), 7, 155, 10, tL_hours)
theorem okL_hours : e_T jL_hours := ⟨by decide +kernel, rfl, rfl, by decide +kernel⟩
theorem dX0_init_7 : decode cX0_init 7 = .ok (.newarray .int, 2) := by decide +kernel
theorem dX0_init_15 : decode cX0_init 15 = .ok (.newarray .boolean, 2) := by decide +kernel
theorem dX0_init_23 : decode cX0_init 23 = .ok (.newarray .int, 2) := by decide +kernel
theorem dX0_init_31 : decode cX0_init 31 = .ok (.newarray .int, 2) := by decide +kernel
theorem dX1_init_6 : decode cX1_init 6 = .ok (.anewarray 9, 3) := by decide +kernel
theorem dX1_init_24 : decode cX1_init 24 = .ok (.new 9, 3) := by decide +kernel
theorem dX2_init_7 : decode cX2_init 7 = .ok (.newarray .int, 2) := by decide +kernel
theorem dX2_init_15 : decode cX2_init 15 = .ok (.newarray .int, 2) := by decide +kernel
theorem dX2_init_23 : decode cX2_init 23 = .ok (.newarray .int, 2) := by decide +kernel
theorem dX2_init_31 : decode cX2_init 31 = .ok (.newarray .int, 2) := by decide +kernel
theorem dX2_init_39 : decode cX2_init 39 = .ok (.newarray .int, 2) := by decide +kernel
theorem dX2_init_47 : decode cX2_init 47 = .ok (.newarray .int, 2) := by decide +kernel
theorem dX2_init_55 : decode cX2_init 55 = .ok (.newarray .int, 2) := by decide +kernel
theorem dX2_init_63 : decode cX2_init 63 = .ok (.newarray .int, 2) := by decide +kernel
theorem dX3_init_7 : decode cX3_init 7 = .ok (.newarray .int, 2) := by decide +kernel
theorem dX4_init_5 : decode cX4_init 5 = .ok (.new 9, 3) := by decide +kernel
theorem dX4_init_17 : decode cX4_init 17 = .ok (.anewarray 9, 3) := by decide +kernel
theorem dX4_init_25 : decode cX4_init 25 = .ok (.newarray .boolean, 2) := by decide +kernel
theorem dX4_init_42 : decode cX4_init 42 = .ok (.new 9, 3) := by decide +kernel
theorem dX5_init_5 : decode cX5_init 5 = .ok (.new 9, 3) := by decide +kernel
theorem dX5_init_16 : decode cX5_init 16 = .ok (.new 18, 3) := by decide +kernel
theorem dX5_init_27 : decode cX5_init 27 = .ok (.new 25, 3) := by decide +kernel
theorem dX5_init_40 : decode cX5_init 40 = .ok (.newarray .int, 2) := by decide +kernel
theorem dX5_number_1 : decode cX5_number 1 = .ok (.tableswitch 42 8 10 #[27, 32, 37], 27) := by decide +kernel
theorem dX5_changeNumber_1 : decode cX5_changeNumber 1 = .ok (.tableswitch 51 8 10 #[27, 35, 43], 27) := by decide +kernel
theorem dX6_init_7 : decode cX6_init 7 = .ok (.newarray .char, 2) := by decide +kernel
theorem dX6_init_15 : decode cX6_init 15 = .ok (.newarray .int, 2) := by decide +kernel
theorem dX6_init_23 : decode cX6_init 23 = .ok (.newarray .int, 2) := by decide +kernel
theorem dX6_init_31 : decode cX6_init 31 = .ok (.newarray .int, 2) := by decide +kernel
theorem dX7_init_7 : decode cX7_init 7 = .ok (.newarray .int, 2) := by decide +kernel
theorem dX7_init_15 : decode cX7_init 15 = .ok (.getstatic 15, 3) := by decide +kernel
theorem dX7_init_23 : decode cX7_init 23 = .ok (.getstatic 15, 3) := by decide +kernel
theorem dX8_init_5 : decode cX8_init 5 = .ok (.new 7, 3) := by decide +kernel
theorem dX8_init_16 : decode cX8_init 16 = .ok (.new 16, 3) := by decide +kernel
theorem dX8_init_27 : decode cX8_init 27 = .ok (.new 23, 3) := by decide +kernel
theorem dX8_init_38 : decode cX8_init 38 = .ok (.new 30, 3) := by decide +kernel
theorem dX8_init_49 : decode cX8_init 49 = .ok (.new 37, 3) := by decide +kernel
theorem dX8_count_25 : decode cX8_count 25 = .ok (.tableswitch 216 6 18 #[67, 81, 92, 106, 120, 131, 145, 159, 170, 181, 192, 200, 208], 67) := by decide +kernel
theorem dX8_letter_22 : decode cX8_letter 22 = .ok (.tableswitch 148 0 8 #[50, 57, 64, 71, 93, 115, 122, 129, 136], 50) := by decide +kernel
theorem dX8_frame_10 : decode cX8_frame 10 = .ok (.tableswitch 105 0 4 #[34, 47, 63, 75, 90], 34) := by decide +kernel
theorem dX8_carrier_21 : decode cX8_carrier 21 = .ok (.tableswitch 75 0 3 #[31, 38, 53, 68], 31) := by decide +kernel
theorem dX8_stretch_13 : decode cX8_stretch 13 = .ok (.tableswitch 72 0 2 #[27, 42, 57], 27) := by decide +kernel
theorem dX8_greatestValue_1 : decode cX8_greatestValue 1 = .ok (.tableswitch 35 8 10 #[27, 29, 32], 27) := by decide +kernel
theorem dL_rules_2 : decode cL_rules 2 = .ok (.newarray .int, 2) := by decide +kernel
theorem dL_rules_7 : decode cL_rules 7 = .ok (.newarray .int, 2) := by decide +kernel
theorem dL_rules_12 : decode cL_rules 12 = .ok (.newarray .int, 2) := by decide +kernel
theorem dL_rules_17 : decode cL_rules 17 = .ok (.newarray .int, 2) := by decide +kernel
end
section
/-! The law's long methods: their instructions, checked in pieces. -/
theorem all_app {α : Type} {f : α → Bool} {a b : List α} (h1 : a.all f = true) (h2 : b.all f = true) : (a ++ b).all f = true := by rw [List.all_append, h1, h2]; rfl
def tL_rules : List (Nat × OpT) := [(0, 1, 0, 0, nI 8, 2, 0), (2, 48, 0, 0, 0, 4, 0), (4, 5, 1, 0, 0, 5, 0), (5, 1, 0, 0, nI 8, 7, 0), (7, 48, 0, 0, 0, 9, 0), (9, 5, 2, 0, 0, 10, 0), (10, 1, 0, 0, nI 6, 12, 0), (12, 48, 0, 0, 0, 14, 0), (14, 5, 3, 0, 0, 15, 0), (15, 1, 0, 0, nI 6, 17, 0), (17, 48, 0, 0, 0, 19, 0), (19, 5, 4, 0, 0, 21, 0), (21, 1, 0, 0, nI 0, 22, 0), (22, 4, 5, 0, 0, 24, 0), (24, 1, 0, 0, nI 0, 25, 0), (25, 4, 6, 0, 0, 27, 0), (27, 1, 0, 0, nI 0, 28, 0), (28, 4, 7, 0, 0, 30, 0), (30, 2, 7, 0, 0, 32, 0), (32, 3, 0, 0, 0, 33, 0), (33, 1, 0, 0, nI 6, 35, 0), (35, 44, 1, 85, 0, 38, 8), (38, 23, 0, 0, 0, 41, 318), (41, 3, 0, 0, 0, 42, 0), (42, 2, 7, 0, 0, 44, 0), (44, 1, 0, 0, nI 2, 45, 0), (45, 44, 2, 86, 0, 48, 14), (48, 4, 8, 0, 0, 50, 0), (50, 3, 0, 0, 0, 51, 0), (51, 2, 7, 0, 0, 53, 0), (53, 1, 0, 0, nI 3, 54, 0), (54, 44, 2, 86, 0, 57, 14), (57, 4, 9, 0, 0, 59, 0), (59, 3, 0, 0, 0, 60, 0), (60, 2, 7, 0, 0, 62, 0), (62, 1, 0, 0, nI 4, 63, 0), (63, 44, 2, 86, 0, 66, 14), (66, 4, 10, 0, 0, 68, 0), (68, 3, 4, 0, 0, 70, 0), (70, 2, 8, 0, 0, 72, 0), (72, 27, 0, 0, 0, 73, 0), (73, 32, 0, 0, 0, 74, 0), (74, 1, 0, 0, nI 1, 75, 0), (75, 6, 0, 0, 0, 76, 0), (76, 36, 0, 0, 0, 77, 0), (77, 2, 5, 0, 0, 79, 0), (79, 3, 0, 0, 0, 80, 0), (80, 2, 7, 0, 0, 82, 0), (82, 1, 0, 0, nI 5, 83, 0), (83, 44, 2, 86, 0, 86, 14), (86, 6, 0, 0, 0, 87, 0), (87, 4, 5, 0, 0, 89, 0), (89, 2, 8, 0, 0, 91, 0), (91, 1, 0, 0, nI 1, 92, 0), (92, 21, 0, 0, 0, 95, 99), (95, 1, 0, 0, nI 1, 96, 0), (96, 13, 0, 0, 0, 100, 0), (99, 1, 0, 0, nI 0, 100, 0), (100, 2, 9, 0, 0, 102, 0), (102, 1, 0, 0, -9, 104, 0), (104, 20, 0, 0, 0, 107, 111), (107, 1, 0, 0, nI 1, 108, 0), (108, 13, 0, 0, 0, 112, 0), (111, 1, 0, 0, nI 0, 112, 0), (112, 21, 0, 0, 0, 115, 243), (115, 2, 8, 0, 0, 117, 0), (117, 1, 0, 0, nI 3, 118, 0), (118, 21, 0, 0, 0, 121, 125), (121, 1, 0, 0, nI 1, 122, 0), (122, 13, 0, 0, 0, 126, 0), (125, 1, 0, 0, nI 0, 126, 0), (126, 2, 10, 0, 0, 128, 0), (128, 1, 0, 0, -9, 130, 0), (130, 20, 0, 0, 0, 133, 137), (133, 1, 0, 0, nI 1, 134, 0), (134, 13, 0, 0, 0, 138, 0), (137, 1, 0, 0, nI 0, 138, 0), (138, 21, 0, 0, 0, 141, 243), (141, 2, 8, 0, 0, 143, 0), (143, 1, 0, 0, nI 3, 144, 0), (144, 25, 0, 0, 0, 147, 151), (147, 1, 0, 0, nI 1, 148, 0), (148, 13, 0, 0, 0, 152, 0), (151, 1, 0, 0, nI 0, 152, 0), (152, 3, 0, 0, 0, 153, 0), (153, 2, 7, 0, 0, 155, 0), (155, 1, 0, 0, nI 7, 157, 0), (157, 44, 2, 86, 0, 160, 14), (160, 1, 0, 0, -9, 162, 0), (162, 20, 0, 0, 0, 165, 169), (165, 1, 0, 0, nI 1, 166, 0), (166, 13, 0, 0, 0, 170, 0), (169, 1, 0, 0, nI 0, 170, 0), (170, 21, 0, 0, 0, 173, 243), (173, 2, 8, 0, 0, 175, 0), (175, 1, 0, 0, nI 5, 176, 0), (176, 21, 0, 0, 0, 179, 183), (179, 1, 0, 0, nI 1, 180, 0), (180, 13, 0, 0, 0, 184, 0), (183, 1, 0, 0, nI 0, 184, 0), (184, 3, 0, 0, 0, 185, 0), (185, 2, 7, 0, 0, 187, 0), (187, 1, 0, 0, nI 5, 188, 0), (188, 44, 2, 86, 0, 191, 14), (191, 1, 0, 0, nI 3, 192, 0), (192, 21, 0, 0, 0, 195, 199), (195, 1, 0, 0, nI 1, 196, 0), (196, 13, 0, 0, 0, 200, 0), (199, 1, 0, 0, nI 0, 200, 0), (200, 21, 0, 0, 0, 203, 243), (203, 3, 0, 0, 0, 204, 0), (204, 2, 7, 0, 0, 206, 0), (206, 1, 0, 0, nI 8, 208, 0), (208, 44, 2, 86, 0, 211, 14), (211, 3, 0, 0, 0, 212, 0), (212, 3, 0, 0, 0, 213, 0), (213, 2, 7, 0, 0, 215, 0), (215, 1, 0, 0, nI 0, 216, 0), (216, 44, 2, 86, 0, 219, 14), (219, 1, 0, 0, nI 0, 220, 0), (220, 44, 2, 90, 0, 223, 18), (223, 21, 0, 0, 0, 226, 243), (226, 3, 0, 0, 0, 227, 0), (227, 2, 7, 0, 0, 229, 0), (229, 1, 0, 0, nI 6, 231, 0), (231, 44, 2, 86, 0, 234, 14), (234, 3, 0, 0, 0, 235, 0), (235, 1, 0, 0, nI 7, 237, 0), (237, 44, 1, 85, 0, 240, 8), (240, 25, 0, 0, 0, 243, 245), (243, 1, 0, 0, nI 0, 244, 0), (244, 41, 0, 0, 0, 245, 0), (245, 2, 9, 0, 0, 247, 0), (247, 1, 0, 0, -9, 249, 0), (249, 20, 0, 0, 0, 252, 297), (252, 3, 1, 0, 0, 253, 0), (253, 2, 9, 0, 0, 255, 0), (255, 27, 0, 0, 0, 256, 0), (256, 32, 0, 0, 0, 257, 0), (257, 1, 0, 0, nI 1, 258, 0), (258, 6, 0, 0, 0, 259, 0), (259, 36, 0, 0, 0, 260, 0), (260, 3, 2, 0, 0, 261, 0), (261, 2, 9, 0, 0, 263, 0), (263, 27, 0, 0, 0, 264, 0), (264, 32, 0, 0, 0, 265, 0), (265, 3, 0, 0, 0, 266, 0), (266, 2, 7, 0, 0, 268, 0), (268, 1, 0, 0, nI 1, 269, 0), (269, 44, 2, 86, 0, 272, 14), (272, 6, 0, 0, 0, 273, 0), (273, 36, 0, 0, 0, 274, 0), (274, 2, 6, 0, 0, 276, 0), (276, 2, 9, 0, 0, 278, 0), (278, 3, 0, 0, 0, 279, 0), (279, 2, 7, 0, 0, 281, 0), (281, 1, 0, 0, nI 8, 283, 0), (283, 44, 2, 86, 0, 286, 14), (286, 20, 0, 0, 0, 289, 293), (289, 1, 0, 0, nI 1, 290, 0), (290, 13, 0, 0, 0, 294, 0), (293, 1, 0, 0, nI 0, 294, 0), (294, 6, 0, 0, 0, 295, 0), (295, 4, 6, 0, 0, 297, 0), (297, 2, 10, 0, 0, 299, 0), (299, 1, 0, 0, -9, 301, 0), (301, 20, 0, 0, 0, 304, 312), (304, 3, 3, 0, 0, 305, 0), (305, 2, 10, 0, 0, 307, 0), (307, 27, 0, 0, 0, 308, 0), (308, 32, 0, 0, 0, 309, 0), (309, 1, 0, 0, nI 1, 310, 0), (310, 6, 0, 0, 0, 311, 0), (311, 36, 0, 0, 0, 312, 0), (312, 12, 7, 0, nI 1, 315, 0), (315, 13, 0, 0, 0, 30, 0), (318, 1, 0, 0, nI 0, 319, 0), (319, 4, 7, 0, 0, 321, 0), (321, 2, 7, 0, 0, 323, 0), (323, 1, 0, 0, nI 6, 325, 0), (325, 23, 0, 0, 0, 328, 350), (328, 3, 0, 0, 0, 329, 0), (329, 2, 7, 0, 0, 331, 0), (331, 44, 1, 85, 0, 334, 8), (334, 3, 4, 0, 0, 336, 0), (336, 2, 7, 0, 0, 338, 0), (338, 32, 0, 0, 0, 339, 0), (339, 20, 0, 0, 0, 342, 344), (342, 1, 0, 0, nI 0, 343, 0), (343, 41, 0, 0, 0, 344, 0), (344, 12, 7, 0, nI 1, 347, 0), (347, 13, 0, 0, 0, 321, 0), (350, 1, 0, 0, nI 0, 351, 0), (351, 4, 7, 0, 0, 353, 0), (353, 2, 7, 0, 0, 355, 0), (355, 1, 0, 0, nI 8, 357, 0), (357, 23, 0, 0, 0, 360, 569), (360, 3, 0, 0, 0, 361, 0), (361, 2, 7, 0, 0, 363, 0), (363, 1, 0, 0, nI 0, 364, 0), (364, 44, 2, 87, 0, 367, 21), (367, 3, 1, 0, 0, 368, 0), (368, 2, 7, 0, 0, 370, 0), (370, 32, 0, 0, 0, 371, 0), (371, 7, 0, 0, 0, 372, 0), (372, 4, 8, 0, 0, 374, 0), (374, 3, 0, 0, 0, 375, 0), (375, 2, 7, 0, 0, 377, 0), (377, 1, 0, 0, nI 4, 378, 0), (378, 44, 2, 87, 0, 381, 21), (381, 4, 9, 0, 0, 383, 0), (383, 3, 0, 0, 0, 384, 0), (384, 2, 7, 0, 0, 386, 0), (386, 1, 0, 0, nI 1, 387, 0), (387, 44, 2, 87, 0, 390, 21), (390, 3, 1, 0, 0, 391, 0), (391, 2, 7, 0, 0, 393, 0), (393, 32, 0, 0, 0, 394, 0), (394, 21, 0, 0, 0, 397, 466), (397, 3, 0, 0, 0, 398, 0), (398, 2, 7, 0, 0, 400, 0), (400, 1, 0, 0, nI 2, 401, 0), (401, 44, 2, 87, 0, 404, 21), (404, 2, 8, 0, 0, 406, 0), (406, 19, 0, 0, 0, 409, 414), (409, 2, 8, 0, 0, 411, 0), (411, 13, 0, 0, 0, 415, 0), (414, 1, 0, 0, nI 0, 415, 0), (415, 21, 0, 0, 0, 418, 466), (418, 3, 0, 0, 0, 419, 0), (419, 2, 7, 0, 0, 421, 0), (421, 1, 0, 0, nI 3, 422, 0), (422, 44, 2, 87, 0, 425, 21), (425, 3, 2, 0, 0, 426, 0), (426, 2, 7, 0, 0, 428, 0), (428, 32, 0, 0, 0, 429, 0), (429, 21, 0, 0, 0, 432, 466), (432, 2, 9, 0, 0, 434, 0), (434, 1, 0, 0, -9, 436, 0), (436, 20, 0, 0, 0, 439, 451), (439, 3, 0, 0, 0, 440, 0), (440, 2, 9, 0, 0, 442, 0), (442, 1, 0, 0, nI 0, 443, 0), (443, 44, 2, 88, 0, 446, 24), (446, 2, 7, 0, 0, 448, 0), (448, 21, 0, 0, 0, 451, 466), (451, 3, 0, 0, 0, 452, 0), (452, 2, 7, 0, 0, 454, 0), (454, 3, 1, 0, 0, 455, 0), (455, 2, 7, 0, 0, 457, 0), (457, 32, 0, 0, 0, 458, 0), (458, 44, 2, 92, 0, 461, 27), (461, 1, 0, 0, -9, 463, 0), (463, 20, 0, 0, 0, 466, 468), (466, 1, 0, 0, nI 0, 467, 0), (467, 41, 0, 0, 0, 468, 0), (468, 1, 0, 0, nI 1, 469, 0), (469, 4, 10, 0, 0, 471, 0), (471, 2, 10, 0, 0, 473, 0), (473, 3, 1, 0, 0, 474, 0), (474, 2, 7, 0, 0, 476, 0), (476, 32, 0, 0, 0, 477, 0), (477, 23, 0, 0, 0, 480, 563), (480, 3, 0, 0, 0, 481, 0), (481, 2, 7, 0, 0, 483, 0), (483, 2, 10, 0, 0, 485, 0), (485, 1, 0, 0, nI 1, 486, 0), (486, 7, 0, 0, 0, 487, 0), (487, 44, 2, 92, 0, 490, 27), (490, 4, 11, 0, 0, 492, 0), (492, 3, 0, 0, 0, 493, 0), (493, 2, 7, 0, 0, 495, 0), (495, 2, 10, 0, 0, 497, 0), (497, 44, 2, 92, 0, 500, 27), (500, 4, 12, 0, 0, 502, 0), (502, 3, 0, 0, 0, 503, 0), (503, 2, 12, 0, 0, 505, 0), (505, 1, 0, 0, nI 3, 506, 0), (506, 44, 2, 86, 0, 509, 14), (509, 2, 7, 0, 0, 511, 0), (511, 21, 0, 0, 0, 514, 555), (514, 3, 0, 0, 0, 515, 0), (515, 2, 11, 0, 0, 517, 0), (517, 1, 0, 0, nI 0, 518, 0), (518, 44, 2, 86, 0, 521, 14), (521, 3, 0, 0, 0, 522, 0), (522, 2, 12, 0, 0, 524, 0), (524, 1, 0, 0, nI 0, 525, 0), (525, 44, 2, 86, 0, 528, 14), (528, 24, 0, 0, 0, 531, 555), (531, 3, 0, 0, 0, 532, 0), (532, 2, 11, 0, 0, 534, 0), (534, 1, 0, 0, nI 0, 535, 0), (535, 44, 2, 86, 0, 538, 14), (538, 3, 0, 0, 0, 539, 0), (539, 2, 12, 0, 0, 541, 0), (541, 1, 0, 0, nI 0, 542, 0), (542, 44, 2, 86, 0, 545, 14), (545, 21, 0, 0, 0, 548, 557), (548, 2, 11, 0, 0, 550, 0), (550, 2, 12, 0, 0, 552, 0), (552, 22, 0, 0, 0, 555, 557), (555, 1, 0, 0, nI 0, 556, 0), (556, 41, 0, 0, 0, 557, 0), (557, 12, 10, 0, nI 1, 560, 0), (560, 13, 0, 0, 0, 471, 0), (563, 12, 7, 0, nI 1, 566, 0), (566, 13, 0, 0, 0, 353, 0), (569, 1, 0, 0, nI 0, 570, 0), (570, 4, 7, 0, 0, 572, 0), (572, 1, 0, 0, nI 0, 573, 0), (573, 4, 8, 0, 0, 575, 0), (575, 1, 0, 0, nI 0, 576, 0), (576, 4, 9, 0, 0, 578, 0), (578, 1, 0, 0, nI 0, 579, 0), (579, 4, 10, 0, 0, 581, 0), (581, 2, 10, 0, 0, 583, 0), (583, 1, 0, 0, nI 6, 585, 0), (585, 23, 0, 0, 0, 588, 726), (588, 3, 0, 0, 0, 589, 0), (589, 2, 10, 0, 0, 591, 0), (591, 1, 0, 0, nI 0, 592, 0), (592, 44, 2, 88, 0, 595, 24), (595, 4, 11, 0, 0, 597, 0), (597, 3, 0, 0, 0, 598, 0), (598, 2, 10, 0, 0, 600, 0), (600, 1, 0, 0, nI 2, 601, 0), (601, 44, 2, 88, 0, 604, 24), (604, 3, 3, 0, 0, 605, 0), (605, 2, 10, 0, 0, 607, 0), (607, 32, 0, 0, 0, 608, 0), (608, 21, 0, 0, 0, 611, 665), (611, 2, 11, 0, 0, 613, 0), (613, 1, 0, 0, -9, 615, 0), (615, 20, 0, 0, 0, 618, 630), (618, 3, 0, 0, 0, 619, 0), (619, 2, 11, 0, 0, 621, 0), (621, 1, 0, 0, nI 4, 622, 0), (622, 44, 2, 87, 0, 625, 21), (625, 2, 10, 0, 0, 627, 0), (627, 21, 0, 0, 0, 630, 665), (630, 3, 0, 0, 0, 631, 0), (631, 2, 10, 0, 0, 633, 0), (633, 1, 0, 0, nI 1, 634, 0), (634, 44, 2, 88, 0, 637, 24), (637, 15, 0, 0, 0, 640, 647), (640, 3, 3, 0, 0, 641, 0), (641, 2, 10, 0, 0, 643, 0), (643, 32, 0, 0, 0, 644, 0), (644, 18, 0, 0, 0, 647, 665), (647, 3, 0, 0, 0, 648, 0), (648, 2, 10, 0, 0, 650, 0), (650, 1, 0, 0, nI 1, 651, 0), (651, 44, 2, 88, 0, 654, 24), (654, 1, 0, 0, nI 1, 655, 0), (655, 21, 0, 0, 0, 658, 667), (658, 2, 11, 0, 0, 660, 0), (660, 1, 0, 0, -9, 662, 0), (662, 21, 0, 0, 0, 665, 667), (665, 1, 0, 0, nI 0, 666, 0), (666, 41, 0, 0, 0, 667, 0), (667, 2, 7, 0, 0, 669, 0), (669, 3, 0, 0, 0, 670, 0), (670, 2, 10, 0, 0, 672, 0), (672, 1, 0, 0, nI 3, 673, 0), (673, 44, 2, 88, 0, 676, 24), (676, 6, 0, 0, 0, 677, 0), (677, 4, 7, 0, 0, 679, 0), (679, 2, 8, 0, 0, 681, 0), (681, 3, 0, 0, 0, 682, 0), (682, 2, 10, 0, 0, 684, 0), (684, 1, 0, 0, nI 1, 685, 0), (685, 44, 2, 88, 0, 688, 24), (688, 6, 0, 0, 0, 689, 0), (689, 4, 8, 0, 0, 691, 0), (691, 1, 0, 0, nI 0, 692, 0), (692, 4, 12, 0, 0, 694, 0), (694, 2, 12, 0, 0, 696, 0), (696, 1, 0, 0, nI 8, 698, 0), (698, 23, 0, 0, 0, 701, 720), (701, 2, 9, 0, 0, 703, 0), (703, 3, 0, 0, 0, 704, 0), (704, 2, 10, 0, 0, 706, 0), (706, 2, 12, 0, 0, 708, 0), (708, 44, 2, 89, 0, 711, 30), (711, 6, 0, 0, 0, 712, 0), (712, 4, 9, 0, 0, 714, 0), (714, 12, 12, 0, nI 1, 717, 0), (717, 13, 0, 0, 0, 694, 0), (720, 12, 10, 0, nI 1, 723, 0), (723, 13, 0, 0, 0, 581, 0), (726, 3, 0, 0, 0, 727, 0), (727, 3, 4, 0, 0, 729, 0), (729, 1, 0, 0, nI 0, 730, 0), (730, 32, 0, 0, 0, 731, 0), (731, 46, 2, 106, 0, 734, 33), (734, 14, 0, 0, 0, 737, 801), (737, 3, 0, 0, 0, 738, 0), (738, 46, 1, 107, 0, 741, 39), (741, 14, 0, 0, 0, 744, 801), (744, 2, 7, 0, 0, 746, 0), (746, 3, 4, 0, 0, 748, 0), (748, 1, 0, 0, nI 4, 749, 0), (749, 32, 0, 0, 0, 750, 0), (750, 21, 0, 0, 0, 753, 801), (753, 2, 8, 0, 0, 755, 0), (755, 3, 0, 0, 0, 756, 0), (756, 1, 0, 0, nI 9, 758, 0), (758, 44, 1, 85, 0, 761, 8), (761, 21, 0, 0, 0, 764, 801), (764, 2, 9, 0, 0, 766, 0), (766, 3, 0, 0, 0, 767, 0), (767, 1, 0, 0, nI 12, 769, 0), (769, 44, 1, 85, 0, 772, 8), (772, 21, 0, 0, 0, 775, 801), (775, 2, 5, 0, 0, 777, 0), (777, 3, 0, 0, 0, 778, 0), (778, 1, 0, 0, nI 11, 780, 0), (780, 44, 1, 85, 0, 783, 8), (783, 21, 0, 0, 0, 786, 801), (786, 2, 6, 0, 0, 788, 0), (788, 3, 0, 0, 0, 789, 0), (789, 1, 0, 0, nI 10, 791, 0), (791, 44, 1, 85, 0, 794, 8), (794, 21, 0, 0, 0, 797, 801), (797, 1, 0, 0, nI 1, 798, 0), (798, 13, 0, 0, 0, 802, 0), (801, 1, 0, 0, nI 0, 802, 0), (802, 41, 0, 0, 0, 803, 0)]
def tL_rules_0 : List (Nat × OpT) := [(0, 1, 0, 0, nI 8, 2, 0), (2, 48, 0, 0, 0, 4, 0), (4, 5, 1, 0, 0, 5, 0), (5, 1, 0, 0, nI 8, 7, 0), (7, 48, 0, 0, 0, 9, 0), (9, 5, 2, 0, 0, 10, 0), (10, 1, 0, 0, nI 6, 12, 0), (12, 48, 0, 0, 0, 14, 0), (14, 5, 3, 0, 0, 15, 0), (15, 1, 0, 0, nI 6, 17, 0), (17, 48, 0, 0, 0, 19, 0), (19, 5, 4, 0, 0, 21, 0), (21, 1, 0, 0, nI 0, 22, 0), (22, 4, 5, 0, 0, 24, 0), (24, 1, 0, 0, nI 0, 25, 0), (25, 4, 6, 0, 0, 27, 0), (27, 1, 0, 0, nI 0, 28, 0), (28, 4, 7, 0, 0, 30, 0), (30, 2, 7, 0, 0, 32, 0), (32, 3, 0, 0, 0, 33, 0), (33, 1, 0, 0, nI 6, 35, 0), (35, 44, 1, 85, 0, 38, 8), (38, 23, 0, 0, 0, 41, 318), (41, 3, 0, 0, 0, 42, 0)]
def tL_rules_1 : List (Nat × OpT) := [(42, 2, 7, 0, 0, 44, 0), (44, 1, 0, 0, nI 2, 45, 0), (45, 44, 2, 86, 0, 48, 14), (48, 4, 8, 0, 0, 50, 0), (50, 3, 0, 0, 0, 51, 0), (51, 2, 7, 0, 0, 53, 0), (53, 1, 0, 0, nI 3, 54, 0), (54, 44, 2, 86, 0, 57, 14), (57, 4, 9, 0, 0, 59, 0), (59, 3, 0, 0, 0, 60, 0), (60, 2, 7, 0, 0, 62, 0), (62, 1, 0, 0, nI 4, 63, 0), (63, 44, 2, 86, 0, 66, 14), (66, 4, 10, 0, 0, 68, 0), (68, 3, 4, 0, 0, 70, 0), (70, 2, 8, 0, 0, 72, 0), (72, 27, 0, 0, 0, 73, 0), (73, 32, 0, 0, 0, 74, 0), (74, 1, 0, 0, nI 1, 75, 0), (75, 6, 0, 0, 0, 76, 0), (76, 36, 0, 0, 0, 77, 0), (77, 2, 5, 0, 0, 79, 0), (79, 3, 0, 0, 0, 80, 0), (80, 2, 7, 0, 0, 82, 0)]
def tL_rules_2 : List (Nat × OpT) := [(82, 1, 0, 0, nI 5, 83, 0), (83, 44, 2, 86, 0, 86, 14), (86, 6, 0, 0, 0, 87, 0), (87, 4, 5, 0, 0, 89, 0), (89, 2, 8, 0, 0, 91, 0), (91, 1, 0, 0, nI 1, 92, 0), (92, 21, 0, 0, 0, 95, 99), (95, 1, 0, 0, nI 1, 96, 0), (96, 13, 0, 0, 0, 100, 0), (99, 1, 0, 0, nI 0, 100, 0), (100, 2, 9, 0, 0, 102, 0), (102, 1, 0, 0, -9, 104, 0), (104, 20, 0, 0, 0, 107, 111), (107, 1, 0, 0, nI 1, 108, 0), (108, 13, 0, 0, 0, 112, 0), (111, 1, 0, 0, nI 0, 112, 0), (112, 21, 0, 0, 0, 115, 243), (115, 2, 8, 0, 0, 117, 0), (117, 1, 0, 0, nI 3, 118, 0), (118, 21, 0, 0, 0, 121, 125), (121, 1, 0, 0, nI 1, 122, 0), (122, 13, 0, 0, 0, 126, 0), (125, 1, 0, 0, nI 0, 126, 0), (126, 2, 10, 0, 0, 128, 0)]
def tL_rules_3 : List (Nat × OpT) := [(128, 1, 0, 0, -9, 130, 0), (130, 20, 0, 0, 0, 133, 137), (133, 1, 0, 0, nI 1, 134, 0), (134, 13, 0, 0, 0, 138, 0), (137, 1, 0, 0, nI 0, 138, 0), (138, 21, 0, 0, 0, 141, 243), (141, 2, 8, 0, 0, 143, 0), (143, 1, 0, 0, nI 3, 144, 0), (144, 25, 0, 0, 0, 147, 151), (147, 1, 0, 0, nI 1, 148, 0), (148, 13, 0, 0, 0, 152, 0), (151, 1, 0, 0, nI 0, 152, 0), (152, 3, 0, 0, 0, 153, 0), (153, 2, 7, 0, 0, 155, 0), (155, 1, 0, 0, nI 7, 157, 0), (157, 44, 2, 86, 0, 160, 14), (160, 1, 0, 0, -9, 162, 0), (162, 20, 0, 0, 0, 165, 169), (165, 1, 0, 0, nI 1, 166, 0), (166, 13, 0, 0, 0, 170, 0), (169, 1, 0, 0, nI 0, 170, 0), (170, 21, 0, 0, 0, 173, 243), (173, 2, 8, 0, 0, 175, 0), (175, 1, 0, 0, nI 5, 176, 0)]
def tL_rules_4 : List (Nat × OpT) := [(176, 21, 0, 0, 0, 179, 183), (179, 1, 0, 0, nI 1, 180, 0), (180, 13, 0, 0, 0, 184, 0), (183, 1, 0, 0, nI 0, 184, 0), (184, 3, 0, 0, 0, 185, 0), (185, 2, 7, 0, 0, 187, 0), (187, 1, 0, 0, nI 5, 188, 0), (188, 44, 2, 86, 0, 191, 14), (191, 1, 0, 0, nI 3, 192, 0), (192, 21, 0, 0, 0, 195, 199), (195, 1, 0, 0, nI 1, 196, 0), (196, 13, 0, 0, 0, 200, 0), (199, 1, 0, 0, nI 0, 200, 0), (200, 21, 0, 0, 0, 203, 243), (203, 3, 0, 0, 0, 204, 0), (204, 2, 7, 0, 0, 206, 0), (206, 1, 0, 0, nI 8, 208, 0), (208, 44, 2, 86, 0, 211, 14), (211, 3, 0, 0, 0, 212, 0), (212, 3, 0, 0, 0, 213, 0), (213, 2, 7, 0, 0, 215, 0), (215, 1, 0, 0, nI 0, 216, 0), (216, 44, 2, 86, 0, 219, 14), (219, 1, 0, 0, nI 0, 220, 0)]
def tL_rules_5 : List (Nat × OpT) := [(220, 44, 2, 90, 0, 223, 18), (223, 21, 0, 0, 0, 226, 243), (226, 3, 0, 0, 0, 227, 0), (227, 2, 7, 0, 0, 229, 0), (229, 1, 0, 0, nI 6, 231, 0), (231, 44, 2, 86, 0, 234, 14), (234, 3, 0, 0, 0, 235, 0), (235, 1, 0, 0, nI 7, 237, 0), (237, 44, 1, 85, 0, 240, 8), (240, 25, 0, 0, 0, 243, 245), (243, 1, 0, 0, nI 0, 244, 0), (244, 41, 0, 0, 0, 245, 0), (245, 2, 9, 0, 0, 247, 0), (247, 1, 0, 0, -9, 249, 0), (249, 20, 0, 0, 0, 252, 297), (252, 3, 1, 0, 0, 253, 0), (253, 2, 9, 0, 0, 255, 0), (255, 27, 0, 0, 0, 256, 0), (256, 32, 0, 0, 0, 257, 0), (257, 1, 0, 0, nI 1, 258, 0), (258, 6, 0, 0, 0, 259, 0), (259, 36, 0, 0, 0, 260, 0), (260, 3, 2, 0, 0, 261, 0), (261, 2, 9, 0, 0, 263, 0)]
def tL_rules_6 : List (Nat × OpT) := [(263, 27, 0, 0, 0, 264, 0), (264, 32, 0, 0, 0, 265, 0), (265, 3, 0, 0, 0, 266, 0), (266, 2, 7, 0, 0, 268, 0), (268, 1, 0, 0, nI 1, 269, 0), (269, 44, 2, 86, 0, 272, 14), (272, 6, 0, 0, 0, 273, 0), (273, 36, 0, 0, 0, 274, 0), (274, 2, 6, 0, 0, 276, 0), (276, 2, 9, 0, 0, 278, 0), (278, 3, 0, 0, 0, 279, 0), (279, 2, 7, 0, 0, 281, 0), (281, 1, 0, 0, nI 8, 283, 0), (283, 44, 2, 86, 0, 286, 14), (286, 20, 0, 0, 0, 289, 293), (289, 1, 0, 0, nI 1, 290, 0), (290, 13, 0, 0, 0, 294, 0), (293, 1, 0, 0, nI 0, 294, 0), (294, 6, 0, 0, 0, 295, 0), (295, 4, 6, 0, 0, 297, 0), (297, 2, 10, 0, 0, 299, 0), (299, 1, 0, 0, -9, 301, 0), (301, 20, 0, 0, 0, 304, 312), (304, 3, 3, 0, 0, 305, 0)]
def tL_rules_7 : List (Nat × OpT) := [(305, 2, 10, 0, 0, 307, 0), (307, 27, 0, 0, 0, 308, 0), (308, 32, 0, 0, 0, 309, 0), (309, 1, 0, 0, nI 1, 310, 0), (310, 6, 0, 0, 0, 311, 0), (311, 36, 0, 0, 0, 312, 0), (312, 12, 7, 0, nI 1, 315, 0), (315, 13, 0, 0, 0, 30, 0), (318, 1, 0, 0, nI 0, 319, 0), (319, 4, 7, 0, 0, 321, 0), (321, 2, 7, 0, 0, 323, 0), (323, 1, 0, 0, nI 6, 325, 0), (325, 23, 0, 0, 0, 328, 350), (328, 3, 0, 0, 0, 329, 0), (329, 2, 7, 0, 0, 331, 0), (331, 44, 1, 85, 0, 334, 8), (334, 3, 4, 0, 0, 336, 0), (336, 2, 7, 0, 0, 338, 0), (338, 32, 0, 0, 0, 339, 0), (339, 20, 0, 0, 0, 342, 344), (342, 1, 0, 0, nI 0, 343, 0), (343, 41, 0, 0, 0, 344, 0), (344, 12, 7, 0, nI 1, 347, 0), (347, 13, 0, 0, 0, 321, 0)]
def tL_rules_8 : List (Nat × OpT) := [(350, 1, 0, 0, nI 0, 351, 0), (351, 4, 7, 0, 0, 353, 0), (353, 2, 7, 0, 0, 355, 0), (355, 1, 0, 0, nI 8, 357, 0), (357, 23, 0, 0, 0, 360, 569), (360, 3, 0, 0, 0, 361, 0), (361, 2, 7, 0, 0, 363, 0), (363, 1, 0, 0, nI 0, 364, 0), (364, 44, 2, 87, 0, 367, 21), (367, 3, 1, 0, 0, 368, 0), (368, 2, 7, 0, 0, 370, 0), (370, 32, 0, 0, 0, 371, 0), (371, 7, 0, 0, 0, 372, 0), (372, 4, 8, 0, 0, 374, 0), (374, 3, 0, 0, 0, 375, 0), (375, 2, 7, 0, 0, 377, 0), (377, 1, 0, 0, nI 4, 378, 0), (378, 44, 2, 87, 0, 381, 21), (381, 4, 9, 0, 0, 383, 0), (383, 3, 0, 0, 0, 384, 0), (384, 2, 7, 0, 0, 386, 0), (386, 1, 0, 0, nI 1, 387, 0), (387, 44, 2, 87, 0, 390, 21), (390, 3, 1, 0, 0, 391, 0)]
def tL_rules_9 : List (Nat × OpT) := [(391, 2, 7, 0, 0, 393, 0), (393, 32, 0, 0, 0, 394, 0), (394, 21, 0, 0, 0, 397, 466), (397, 3, 0, 0, 0, 398, 0), (398, 2, 7, 0, 0, 400, 0), (400, 1, 0, 0, nI 2, 401, 0), (401, 44, 2, 87, 0, 404, 21), (404, 2, 8, 0, 0, 406, 0), (406, 19, 0, 0, 0, 409, 414), (409, 2, 8, 0, 0, 411, 0), (411, 13, 0, 0, 0, 415, 0), (414, 1, 0, 0, nI 0, 415, 0), (415, 21, 0, 0, 0, 418, 466), (418, 3, 0, 0, 0, 419, 0), (419, 2, 7, 0, 0, 421, 0), (421, 1, 0, 0, nI 3, 422, 0), (422, 44, 2, 87, 0, 425, 21), (425, 3, 2, 0, 0, 426, 0), (426, 2, 7, 0, 0, 428, 0), (428, 32, 0, 0, 0, 429, 0), (429, 21, 0, 0, 0, 432, 466), (432, 2, 9, 0, 0, 434, 0), (434, 1, 0, 0, -9, 436, 0), (436, 20, 0, 0, 0, 439, 451)]
def tL_rules_10 : List (Nat × OpT) := [(439, 3, 0, 0, 0, 440, 0), (440, 2, 9, 0, 0, 442, 0), (442, 1, 0, 0, nI 0, 443, 0), (443, 44, 2, 88, 0, 446, 24), (446, 2, 7, 0, 0, 448, 0), (448, 21, 0, 0, 0, 451, 466), (451, 3, 0, 0, 0, 452, 0), (452, 2, 7, 0, 0, 454, 0), (454, 3, 1, 0, 0, 455, 0), (455, 2, 7, 0, 0, 457, 0), (457, 32, 0, 0, 0, 458, 0), (458, 44, 2, 92, 0, 461, 27), (461, 1, 0, 0, -9, 463, 0), (463, 20, 0, 0, 0, 466, 468), (466, 1, 0, 0, nI 0, 467, 0), (467, 41, 0, 0, 0, 468, 0), (468, 1, 0, 0, nI 1, 469, 0), (469, 4, 10, 0, 0, 471, 0), (471, 2, 10, 0, 0, 473, 0), (473, 3, 1, 0, 0, 474, 0), (474, 2, 7, 0, 0, 476, 0), (476, 32, 0, 0, 0, 477, 0), (477, 23, 0, 0, 0, 480, 563), (480, 3, 0, 0, 0, 481, 0)]
def tL_rules_11 : List (Nat × OpT) := [(481, 2, 7, 0, 0, 483, 0), (483, 2, 10, 0, 0, 485, 0), (485, 1, 0, 0, nI 1, 486, 0), (486, 7, 0, 0, 0, 487, 0), (487, 44, 2, 92, 0, 490, 27), (490, 4, 11, 0, 0, 492, 0), (492, 3, 0, 0, 0, 493, 0), (493, 2, 7, 0, 0, 495, 0), (495, 2, 10, 0, 0, 497, 0), (497, 44, 2, 92, 0, 500, 27), (500, 4, 12, 0, 0, 502, 0), (502, 3, 0, 0, 0, 503, 0), (503, 2, 12, 0, 0, 505, 0), (505, 1, 0, 0, nI 3, 506, 0), (506, 44, 2, 86, 0, 509, 14), (509, 2, 7, 0, 0, 511, 0), (511, 21, 0, 0, 0, 514, 555), (514, 3, 0, 0, 0, 515, 0), (515, 2, 11, 0, 0, 517, 0), (517, 1, 0, 0, nI 0, 518, 0), (518, 44, 2, 86, 0, 521, 14), (521, 3, 0, 0, 0, 522, 0), (522, 2, 12, 0, 0, 524, 0), (524, 1, 0, 0, nI 0, 525, 0)]
def tL_rules_12 : List (Nat × OpT) := [(525, 44, 2, 86, 0, 528, 14), (528, 24, 0, 0, 0, 531, 555), (531, 3, 0, 0, 0, 532, 0), (532, 2, 11, 0, 0, 534, 0), (534, 1, 0, 0, nI 0, 535, 0), (535, 44, 2, 86, 0, 538, 14), (538, 3, 0, 0, 0, 539, 0), (539, 2, 12, 0, 0, 541, 0), (541, 1, 0, 0, nI 0, 542, 0), (542, 44, 2, 86, 0, 545, 14), (545, 21, 0, 0, 0, 548, 557), (548, 2, 11, 0, 0, 550, 0), (550, 2, 12, 0, 0, 552, 0), (552, 22, 0, 0, 0, 555, 557), (555, 1, 0, 0, nI 0, 556, 0), (556, 41, 0, 0, 0, 557, 0), (557, 12, 10, 0, nI 1, 560, 0), (560, 13, 0, 0, 0, 471, 0), (563, 12, 7, 0, nI 1, 566, 0), (566, 13, 0, 0, 0, 353, 0), (569, 1, 0, 0, nI 0, 570, 0), (570, 4, 7, 0, 0, 572, 0), (572, 1, 0, 0, nI 0, 573, 0), (573, 4, 8, 0, 0, 575, 0)]
def tL_rules_13 : List (Nat × OpT) := [(575, 1, 0, 0, nI 0, 576, 0), (576, 4, 9, 0, 0, 578, 0), (578, 1, 0, 0, nI 0, 579, 0), (579, 4, 10, 0, 0, 581, 0), (581, 2, 10, 0, 0, 583, 0), (583, 1, 0, 0, nI 6, 585, 0), (585, 23, 0, 0, 0, 588, 726), (588, 3, 0, 0, 0, 589, 0), (589, 2, 10, 0, 0, 591, 0), (591, 1, 0, 0, nI 0, 592, 0), (592, 44, 2, 88, 0, 595, 24), (595, 4, 11, 0, 0, 597, 0), (597, 3, 0, 0, 0, 598, 0), (598, 2, 10, 0, 0, 600, 0), (600, 1, 0, 0, nI 2, 601, 0), (601, 44, 2, 88, 0, 604, 24), (604, 3, 3, 0, 0, 605, 0), (605, 2, 10, 0, 0, 607, 0), (607, 32, 0, 0, 0, 608, 0), (608, 21, 0, 0, 0, 611, 665), (611, 2, 11, 0, 0, 613, 0), (613, 1, 0, 0, -9, 615, 0), (615, 20, 0, 0, 0, 618, 630), (618, 3, 0, 0, 0, 619, 0)]
def tL_rules_14 : List (Nat × OpT) := [(619, 2, 11, 0, 0, 621, 0), (621, 1, 0, 0, nI 4, 622, 0), (622, 44, 2, 87, 0, 625, 21), (625, 2, 10, 0, 0, 627, 0), (627, 21, 0, 0, 0, 630, 665), (630, 3, 0, 0, 0, 631, 0), (631, 2, 10, 0, 0, 633, 0), (633, 1, 0, 0, nI 1, 634, 0), (634, 44, 2, 88, 0, 637, 24), (637, 15, 0, 0, 0, 640, 647), (640, 3, 3, 0, 0, 641, 0), (641, 2, 10, 0, 0, 643, 0), (643, 32, 0, 0, 0, 644, 0), (644, 18, 0, 0, 0, 647, 665), (647, 3, 0, 0, 0, 648, 0), (648, 2, 10, 0, 0, 650, 0), (650, 1, 0, 0, nI 1, 651, 0), (651, 44, 2, 88, 0, 654, 24), (654, 1, 0, 0, nI 1, 655, 0), (655, 21, 0, 0, 0, 658, 667), (658, 2, 11, 0, 0, 660, 0), (660, 1, 0, 0, -9, 662, 0), (662, 21, 0, 0, 0, 665, 667), (665, 1, 0, 0, nI 0, 666, 0)]
def tL_rules_15 : List (Nat × OpT) := [(666, 41, 0, 0, 0, 667, 0), (667, 2, 7, 0, 0, 669, 0), (669, 3, 0, 0, 0, 670, 0), (670, 2, 10, 0, 0, 672, 0), (672, 1, 0, 0, nI 3, 673, 0), (673, 44, 2, 88, 0, 676, 24), (676, 6, 0, 0, 0, 677, 0), (677, 4, 7, 0, 0, 679, 0), (679, 2, 8, 0, 0, 681, 0), (681, 3, 0, 0, 0, 682, 0), (682, 2, 10, 0, 0, 684, 0), (684, 1, 0, 0, nI 1, 685, 0), (685, 44, 2, 88, 0, 688, 24), (688, 6, 0, 0, 0, 689, 0), (689, 4, 8, 0, 0, 691, 0), (691, 1, 0, 0, nI 0, 692, 0), (692, 4, 12, 0, 0, 694, 0), (694, 2, 12, 0, 0, 696, 0), (696, 1, 0, 0, nI 8, 698, 0), (698, 23, 0, 0, 0, 701, 720), (701, 2, 9, 0, 0, 703, 0), (703, 3, 0, 0, 0, 704, 0), (704, 2, 10, 0, 0, 706, 0), (706, 2, 12, 0, 0, 708, 0)]
def tL_rules_16 : List (Nat × OpT) := [(708, 44, 2, 89, 0, 711, 30), (711, 6, 0, 0, 0, 712, 0), (712, 4, 9, 0, 0, 714, 0), (714, 12, 12, 0, nI 1, 717, 0), (717, 13, 0, 0, 0, 694, 0), (720, 12, 10, 0, nI 1, 723, 0), (723, 13, 0, 0, 0, 581, 0), (726, 3, 0, 0, 0, 727, 0), (727, 3, 4, 0, 0, 729, 0), (729, 1, 0, 0, nI 0, 730, 0), (730, 32, 0, 0, 0, 731, 0), (731, 46, 2, 106, 0, 734, 33), (734, 14, 0, 0, 0, 737, 801), (737, 3, 0, 0, 0, 738, 0), (738, 46, 1, 107, 0, 741, 39), (741, 14, 0, 0, 0, 744, 801), (744, 2, 7, 0, 0, 746, 0), (746, 3, 4, 0, 0, 748, 0), (748, 1, 0, 0, nI 4, 749, 0), (749, 32, 0, 0, 0, 750, 0), (750, 21, 0, 0, 0, 753, 801), (753, 2, 8, 0, 0, 755, 0), (755, 3, 0, 0, 0, 756, 0), (756, 1, 0, 0, nI 9, 758, 0)]
def tL_rules_17 : List (Nat × OpT) := [(758, 44, 1, 85, 0, 761, 8), (761, 21, 0, 0, 0, 764, 801), (764, 2, 9, 0, 0, 766, 0), (766, 3, 0, 0, 0, 767, 0), (767, 1, 0, 0, nI 12, 769, 0), (769, 44, 1, 85, 0, 772, 8), (772, 21, 0, 0, 0, 775, 801), (775, 2, 5, 0, 0, 777, 0), (777, 3, 0, 0, 0, 778, 0), (778, 1, 0, 0, nI 11, 780, 0), (780, 44, 1, 85, 0, 783, 8), (783, 21, 0, 0, 0, 786, 801), (786, 2, 6, 0, 0, 788, 0), (788, 3, 0, 0, 0, 789, 0), (789, 1, 0, 0, nI 10, 791, 0), (791, 44, 1, 85, 0, 794, 8), (794, 21, 0, 0, 0, 797, 801), (797, 1, 0, 0, nI 1, 798, 0), (798, 13, 0, 0, 0, 802, 0), (801, 1, 0, 0, nI 0, 802, 0), (802, 41, 0, 0, 0, 803, 0)]
def jL_rules : JT := (105, yL_rules, cL_rules, 13, (some .boolean), 6, 129, 10, tL_rules)
set_option maxRecDepth 100000 in
theorem okL_rules_0 : tL_rules_0.all (fun q => okOp 10 13 cL_rules q.1 q.2) = true := by decide +kernel
set_option maxRecDepth 100000 in
theorem okL_rules_1 : tL_rules_1.all (fun q => okOp 10 13 cL_rules q.1 q.2) = true := by decide +kernel
set_option maxRecDepth 100000 in
theorem okL_rules_2 : tL_rules_2.all (fun q => okOp 10 13 cL_rules q.1 q.2) = true := by decide +kernel
set_option maxRecDepth 100000 in
theorem okL_rules_3 : tL_rules_3.all (fun q => okOp 10 13 cL_rules q.1 q.2) = true := by decide +kernel
set_option maxRecDepth 100000 in
theorem okL_rules_4 : tL_rules_4.all (fun q => okOp 10 13 cL_rules q.1 q.2) = true := by decide +kernel
set_option maxRecDepth 100000 in
theorem okL_rules_5 : tL_rules_5.all (fun q => okOp 10 13 cL_rules q.1 q.2) = true := by decide +kernel
set_option maxRecDepth 100000 in
theorem okL_rules_6 : tL_rules_6.all (fun q => okOp 10 13 cL_rules q.1 q.2) = true := by decide +kernel
set_option maxRecDepth 100000 in
theorem okL_rules_7 : tL_rules_7.all (fun q => okOp 10 13 cL_rules q.1 q.2) = true := by decide +kernel
set_option maxRecDepth 100000 in
theorem okL_rules_8 : tL_rules_8.all (fun q => okOp 10 13 cL_rules q.1 q.2) = true := by decide +kernel
set_option maxRecDepth 100000 in
theorem okL_rules_9 : tL_rules_9.all (fun q => okOp 10 13 cL_rules q.1 q.2) = true := by decide +kernel
set_option maxRecDepth 100000 in
theorem okL_rules_10 : tL_rules_10.all (fun q => okOp 10 13 cL_rules q.1 q.2) = true := by decide +kernel
set_option maxRecDepth 100000 in
theorem okL_rules_11 : tL_rules_11.all (fun q => okOp 10 13 cL_rules q.1 q.2) = true := by decide +kernel
set_option maxRecDepth 100000 in
theorem okL_rules_12 : tL_rules_12.all (fun q => okOp 10 13 cL_rules q.1 q.2) = true := by decide +kernel
set_option maxRecDepth 100000 in
theorem okL_rules_13 : tL_rules_13.all (fun q => okOp 10 13 cL_rules q.1 q.2) = true := by decide +kernel
set_option maxRecDepth 100000 in
theorem okL_rules_14 : tL_rules_14.all (fun q => okOp 10 13 cL_rules q.1 q.2) = true := by decide +kernel
set_option maxRecDepth 100000 in
theorem okL_rules_15 : tL_rules_15.all (fun q => okOp 10 13 cL_rules q.1 q.2) = true := by decide +kernel
set_option maxRecDepth 100000 in
theorem okL_rules_16 : tL_rules_16.all (fun q => okOp 10 13 cL_rules q.1 q.2) = true := by decide +kernel
set_option maxRecDepth 100000 in
theorem okL_rules_17 : tL_rules_17.all (fun q => okOp 10 13 cL_rules q.1 q.2) = true := by decide +kernel
set_option maxRecDepth 100000 in
theorem okL_rules : e_T jL_rules := ⟨by
  show (tL_rules_0 ++ (tL_rules_1 ++ (tL_rules_2 ++ (tL_rules_3 ++ (tL_rules_4 ++ (tL_rules_5 ++ (tL_rules_6 ++ (tL_rules_7 ++ (tL_rules_8 ++ (tL_rules_9 ++ (tL_rules_10 ++ (tL_rules_11 ++ (tL_rules_12 ++ (tL_rules_13 ++ (tL_rules_14 ++ (tL_rules_15 ++ (tL_rules_16 ++ (tL_rules_17)))))))))))))))))).all (fun q => okOp 10 13 cL_rules q.1 q.2) = true
  exact all_app okL_rules_0 (all_app okL_rules_1 (all_app okL_rules_2 (all_app okL_rules_3 (all_app okL_rules_4 (all_app okL_rules_5 (all_app okL_rules_6 (all_app okL_rules_7 (all_app okL_rules_8 (all_app okL_rules_9 (all_app okL_rules_10 (all_app okL_rules_11 (all_app okL_rules_12 (all_app okL_rules_13 (all_app okL_rules_14 (all_app okL_rules_15 (all_app okL_rules_16 (okL_rules_17))))))))))))))))), rfl, rfl, by decide +kernel⟩
def tL_acts : List (Nat × OpT) := [(0, 2, 1, 0, 0, 1, 0), (1, 1, 0, 0, nI 15, 3, 0), (3, 10, 0, 0, 0, 4, 0), (4, 4, 3, 0, 0, 5, 0), (5, 2, 1, 0, 0, 6, 0), (6, 1, 0, 0, nI 4, 7, 0), (7, 55, 0, 0, 0, 8, 0), (8, 1, 0, 0, nI 8, 10, 0), (10, 46, 2, 104, 0, 13, 60), (13, 4, 4, 0, 0, 15, 0), (15, 2, 1, 0, 0, 16, 0), (16, 1, 0, 0, nI 8, 18, 0), (18, 55, 0, 0, 0, 19, 0), (19, 1, 0, 0, nI 6, 21, 0), (21, 46, 2, 104, 0, 24, 60), (24, 4, 5, 0, 0, 26, 0), (26, 2, 3, 0, 0, 27, 0), (27, 1, 0, 0, nI 3, 28, 0), (28, 23, 0, 0, 0, 31, 133), (31, 1, 0, 0, nI 1, 32, 0), (32, 2, 2, 0, 0, 33, 0), (33, 1, 0, 0, nI 20, 35, 0), (35, 46, 2, 104, 0, 38, 60), (38, 6, 0, 0, 0, 39, 0), (39, 4, 6, 0, 0, 41, 0), (41, 3, 0, 0, 0, 42, 0), (42, 1, 0, 0, nI 6, 44, 0), (44, 44, 1, 85, 0, 47, 8), (47, 4, 7, 0, 0, 49, 0), (49, 3, 0, 0, 0, 50, 0), (50, 2, 2, 0, 0, 51, 0), (51, 1, 0, 0, nI 5, 52, 0), (52, 55, 0, 0, 0, 53, 0), (53, 1, 0, 0, nI 100, 55, 0), (55, 46, 2, 104, 0, 58, 60), (58, 2, 2, 0, 0, 59, 0), (59, 1, 0, 0, nI 4, 60, 0), (60, 55, 0, 0, 0, 61, 0), (61, 1, 0, 0, nI 1, 62, 0), (62, 10, 0, 0, 0, 63, 0), (63, 2, 6, 0, 0, 65, 0), (65, 44, 3, 74, 0, 68, 63), (68, 4, 8, 0, 0, 70, 0), (70, 2, 7, 0, 0, 72, 0), (72, 2, 6, 0, 0, 74, 0), (74, 6, 0, 0, 0, 75, 0), (75, 1, 0, 0, nI 120, 77, 0), (77, 25, 0, 0, 0, 80, 106), (80, 2, 8, 0, 0, 82, 0), (82, 1, 0, 0, -3, 84, 0), (84, 21, 0, 0, 0, 87, 102), (87, 3, 0, 0, 0, 88, 0), (88, 1, 0, 0, nI 6, 90, 0), (90, 44, 1, 85, 0, 93, 8), (93, 2, 7, 0, 0, 95, 0), (95, 21, 0, 0, 0, 98, 102), (98, 1, 0, 0, nI 1, 99, 0), (99, 13, 0, 0, 0, 132, 0), (102, 1, 0, 0, nI 0, 103, 0), (103, 13, 0, 0, 0, 132, 0), (106, 2, 8, 0, 0, 108, 0), (108, 2, 7, 0, 0, 110, 0), (110, 21, 0, 0, 0, 113, 131), (113, 3, 0, 0, 0, 114, 0), (114, 1, 0, 0, nI 6, 116, 0), (116, 44, 1, 85, 0, 119, 8), (119, 2, 7, 0, 0, 121, 0), (121, 2, 6, 0, 0, 123, 0), (123, 6, 0, 0, 0, 124, 0), (124, 21, 0, 0, 0, 127, 131), (127, 1, 0, 0, nI 1, 128, 0), (128, 13, 0, 0, 0, 132, 0), (131, 1, 0, 0, nI 0, 132, 0), (132, 41, 0, 0, 0, 133, 0), (133, 2, 3, 0, 0, 134, 0), (134, 1, 0, 0, nI 7, 136, 0), (136, 23, 0, 0, 0, 139, 144), (139, 3, 0, 0, 0, 140, 0), (140, 46, 1, 109, 0, 143, 67), (143, 41, 0, 0, 0, 144, 0), (144, 2, 3, 0, 0, 145, 0), (145, 1, 0, 0, nI 7, 147, 0), (147, 21, 0, 0, 0, 150, 236), (150, 2, 2, 0, 0, 151, 0), (151, 1, 0, 0, nI 100, 153, 0), (153, 46, 2, 104, 0, 156, 60), (156, 4, 6, 0, 0, 158, 0), (158, 2, 6, 0, 0, 160, 0), (160, 2, 2, 0, 0, 161, 0), (161, 1, 0, 0, nI 7, 163, 0), (163, 55, 0, 0, 0, 164, 0), (164, 1, 0, 0, nI 100, 166, 0), (166, 2, 6, 0, 0, 168, 0), (168, 7, 0, 0, 0, 169, 0), (169, 46, 2, 104, 0, 172, 60), (172, 6, 0, 0, 0, 173, 0), (173, 4, 7, 0, 0, 175, 0), (175, 3, 0, 0, 0, 176, 0), (176, 2, 6, 0, 0, 178, 0), (178, 2, 7, 0, 0, 180, 0), (180, 2, 4, 0, 0, 182, 0), (182, 44, 3, 76, 0, 185, 70), (185, 3, 0, 0, 0, 186, 0), (186, 1, 0, 0, nI 8, 188, 0), (188, 44, 1, 85, 0, 191, 8), (191, 21, 0, 0, 0, 194, 234), (194, 3, 0, 0, 0, 195, 0), (195, 2, 6, 0, 0, 197, 0), (197, 1, 0, 0, nI 0, 198, 0), (198, 44, 2, 90, 0, 201, 18), (201, 2, 4, 0, 0, 203, 0), (203, 21, 0, 0, 0, 206, 234), (206, 3, 0, 0, 0, 207, 0), (207, 2, 7, 0, 0, 209, 0), (209, 1, 0, 0, nI 0, 210, 0), (210, 44, 2, 90, 0, 213, 18), (213, 2, 4, 0, 0, 215, 0), (215, 21, 0, 0, 0, 218, 234), (218, 3, 0, 0, 0, 219, 0), (219, 2, 7, 0, 0, 221, 0), (221, 1, 0, 0, nI 1, 222, 0), (222, 44, 2, 90, 0, 225, 18), (225, 2, 6, 0, 0, 227, 0), (227, 24, 0, 0, 0, 230, 234), (230, 1, 0, 0, nI 1, 231, 0), (231, 13, 0, 0, 0, 235, 0), (234, 1, 0, 0, nI 0, 235, 0), (235, 41, 0, 0, 0, 236, 0), (236, 2, 3, 0, 0, 237, 0), (237, 1, 0, 0, nI 8, 239, 0), (239, 21, 0, 0, 0, 242, 402), (242, 2, 2, 0, 0, 243, 0), (243, 1, 0, 0, nI 11, 245, 0), (245, 46, 2, 104, 0, 248, 60), (248, 4, 6, 0, 0, 250, 0), (250, 2, 6, 0, 0, 252, 0), (252, 1, 0, 0, nI 8, 254, 0), (254, 23, 0, 0, 0, 257, 267), (257, 3, 0, 0, 0, 258, 0), (258, 2, 6, 0, 0, 260, 0), (260, 1, 0, 0, nI 0, 261, 0), (261, 44, 2, 87, 0, 264, 21), (264, 13, 0, 0, 0, 275, 0), (267, 3, 0, 0, 0, 268, 0), (268, 1, 0, 0, nI 5, 269, 0), (269, 2, 6, 0, 0, 271, 0), (271, 6, 0, 0, 0, 272, 0), (272, 44, 1, 85, 0, 275, 8), (275, 4, 7, 0, 0, 277, 0), (277, 2, 2, 0, 0, 278, 0), (278, 1, 0, 0, nI 4, 279, 0), (279, 55, 0, 0, 0, 280, 0), (280, 1, 0, 0, nI 22, 282, 0), (282, 46, 2, 104, 0, 285, 60), (285, 4, 8, 0, 0, 287, 0), (287, 2, 6, 0, 0, 289, 0), (289, 1, 0, 0, nI 8, 291, 0), (291, 21, 0, 0, 0, 294, 308), (294, 2, 8, 0, 0, 296, 0), (296, 1, 0, 0, nI 3, 297, 0), (297, 23, 0, 0, 0, 300, 304), (300, 1, 0, 0, nI 1, 301, 0), (301, 13, 0, 0, 0, 332, 0), (304, 1, 0, 0, nI 0, 305, 0), (305, 13, 0, 0, 0, 332, 0), (308, 2, 8, 0, 0, 310, 0), (310, 19, 0, 0, 0, 313, 331), (313, 2, 6, 0, 0, 315, 0), (315, 1, 0, 0, nI 8, 317, 0), (317, 24, 0, 0, 0, 320, 327), (320, 2, 8, 0, 0, 322, 0), (322, 1, 0, 0, nI 21, 324, 0), (324, 23, 0, 0, 0, 327, 331), (327, 1, 0, 0, nI 1, 328, 0), (328, 13, 0, 0, 0, 332, 0), (331, 1, 0, 0, nI 0, 332, 0), (332, 4, 9, 0, 0, 334, 0), (334, 3, 0, 0, 0, 335, 0), (335, 2, 6, 0, 0, 337, 0), (337, 2, 8, 0, 0, 339, 0), (339, 44, 2, 77, 0, 342, 73), (342, 2, 9, 0, 0, 344, 0), (344, 14, 0, 0, 0, 347, 352), (347, 2, 7, 0, 0, 349, 0), (349, 13, 0, 0, 0, 353, 0), (352, 1, 0, 0, -1, 353, 0), (353, 21, 0, 0, 0, 356, 400), (356, 2, 6, 0, 0, 358, 0), (358, 1, 0, 0, nI 8, 360, 0), (360, 23, 0, 0, 0, 363, 373), (363, 3, 0, 0, 0, 364, 0), (364, 2, 6, 0, 0, 366, 0), (366, 1, 0, 0, nI 0, 367, 0), (367, 44, 2, 87, 0, 370, 21), (370, 13, 0, 0, 0, 381, 0), (373, 3, 0, 0, 0, 374, 0), (374, 1, 0, 0, nI 5, 375, 0), (375, 2, 6, 0, 0, 377, 0), (377, 6, 0, 0, 0, 378, 0), (378, 44, 1, 85, 0, 381, 8), (381, 2, 9, 0, 0, 383, 0), (383, 14, 0, 0, 0, 386, 391), (386, 2, 8, 0, 0, 388, 0), (388, 13, 0, 0, 0, 393, 0), (391, 2, 7, 0, 0, 393, 0), (393, 21, 0, 0, 0, 396, 400), (396, 1, 0, 0, nI 1, 397, 0), (397, 13, 0, 0, 0, 401, 0), (400, 1, 0, 0, nI 0, 401, 0), (401, 41, 0, 0, 0, 402, 0), (402, 2, 3, 0, 0, 403, 0), (403, 1, 0, 0, nI 11, 405, 0), (405, 23, 0, 0, 0, 408, 585), (408, 3, 0, 0, 0, 409, 0), (409, 2, 4, 0, 0, 411, 0), (411, 1, 0, 0, nI 4, 412, 0), (412, 44, 2, 87, 0, 415, 21), (415, 4, 6, 0, 0, 417, 0), (417, 3, 0, 0, 0, 418, 0), (418, 2, 4, 0, 0, 420, 0), (420, 44, 1, 95, 0, 423, 76), (423, 4, 7, 0, 0, 425, 0), (425, 2, 2, 0, 0, 426, 0), (426, 1, 0, 0, nI 7, 428, 0), (428, 10, 0, 0, 0, 429, 0), (429, 15, 0, 0, 0, 432, 436), (432, 1, 0, 0, nI 1, 433, 0), (433, 13, 0, 0, 0, 437, 0), (436, 1, 0, 0, nI 0, 437, 0), (437, 4, 8, 0, 0, 439, 0), (439, 2, 8, 0, 0, 441, 0), (441, 14, 0, 0, 0, 444, 448), (444, 1, 0, 0, -1, 445, 0), (445, 13, 0, 0, 0, 469, 0), (448, 2, 2, 0, 0, 449, 0), (449, 1, 0, 0, nI 8, 451, 0), (451, 10, 0, 0, 0, 452, 0), (452, 15, 0, 0, 0, 455, 467), (455, 2, 7, 0, 0, 457, 0), (457, 1, 0, 0, -9, 459, 0), (459, 20, 0, 0, 0, 462, 467), (462, 2, 7, 0, 0, 464, 0), (464, 13, 0, 0, 0, 469, 0), (467, 2, 5, 0, 0, 469, 0), (469, 4, 9, 0, 0, 471, 0), (471, 2, 9, 0, 0, 473, 0), (473, 16, 0, 0, 0, 476, 500), (476, 3, 0, 0, 0, 477, 0), (477, 2, 9, 0, 0, 479, 0), (479, 1, 0, 0, nI 0, 480, 0), (480, 44, 2, 88, 0, 483, 24), (483, 1, 0, 0, -9, 485, 0), (485, 20, 0, 0, 0, 488, 500), (488, 3, 0, 0, 0, 489, 0), (489, 2, 9, 0, 0, 491, 0), (491, 1, 0, 0, nI 0, 492, 0), (492, 44, 2, 88, 0, 495, 24), (495, 2, 4, 0, 0, 497, 0), (497, 21, 0, 0, 0, 500, 521), (500, 2, 6, 0, 0, 502, 0), (502, 1, 0, 0, -9, 504, 0), (504, 20, 0, 0, 0, 507, 517), (507, 3, 0, 0, 0, 508, 0), (508, 2, 6, 0, 0, 510, 0), (510, 1, 0, 0, nI 1, 511, 0), (511, 44, 2, 88, 0, 514, 24), (514, 15, 0, 0, 0, 517, 521), (517, 1, 0, 0, nI 1, 518, 0), (518, 13, 0, 0, 0, 522, 0), (521, 1, 0, 0, nI 0, 522, 0), (522, 4, 10, 0, 0, 524, 0), (524, 3, 0, 0, 0, 525, 0), (525, 2, 4, 0, 0, 527, 0), (527, 2, 9, 0, 0, 529, 0), (529, 44, 2, 78, 0, 532, 79), (532, 2, 10, 0, 0, 534, 0), (534, 14, 0, 0, 0, 537, 542), (537, 2, 6, 0, 0, 539, 0), (539, 13, 0, 0, 0, 544, 0), (542, 1, 0, 0, -2, 544, 0), (544, 21, 0, 0, 0, 547, 583), (547, 3, 0, 0, 0, 548, 0), (548, 2, 4, 0, 0, 550, 0), (550, 1, 0, 0, nI 4, 551, 0), (551, 44, 2, 87, 0, 554, 21), (554, 2, 10, 0, 0, 556, 0), (556, 14, 0, 0, 0, 559, 574), (559, 2, 8, 0, 0, 561, 0), (561, 14, 0, 0, 0, 564, 569), (564, 1, 0, 0, -9, 566, 0), (566, 13, 0, 0, 0, 576, 0), (569, 2, 9, 0, 0, 571, 0), (571, 13, 0, 0, 0, 576, 0), (574, 2, 6, 0, 0, 576, 0), (576, 21, 0, 0, 0, 579, 583), (579, 1, 0, 0, nI 1, 580, 0), (580, 13, 0, 0, 0, 584, 0), (583, 1, 0, 0, nI 0, 584, 0), (584, 41, 0, 0, 0, 585, 0), (585, 3, 0, 0, 0, 586, 0), (586, 2, 5, 0, 0, 588, 0), (588, 1, 0, 0, nI 0, 589, 0), (589, 44, 2, 88, 0, 592, 24), (592, 4, 6, 0, 0, 594, 0), (594, 2, 3, 0, 0, 595, 0), (595, 1, 0, 0, nI 15, 597, 0), (597, 23, 0, 0, 0, 600, 790), (600, 3, 0, 0, 0, 601, 0), (601, 2, 5, 0, 0, 603, 0), (603, 44, 1, 96, 0, 606, 82), (606, 4, 7, 0, 0, 608, 0), (608, 3, 0, 0, 0, 609, 0), (609, 2, 5, 0, 0, 611, 0), (611, 1, 0, 0, nI 1, 612, 0), (612, 44, 2, 88, 0, 615, 24), (615, 1, 0, 0, nI 1, 616, 0), (616, 21, 0, 0, 0, 619, 696), (619, 3, 0, 0, 0, 620, 0), (620, 2, 5, 0, 0, 622, 0), (622, 1, 0, 0, nI 3, 623, 0), (623, 44, 2, 88, 0, 626, 24), (626, 4, 8, 0, 0, 628, 0), (628, 3, 0, 0, 0, 629, 0), (629, 2, 5, 0, 0, 631, 0), (631, 2, 6, 0, 0, 633, 0), (633, 44, 2, 89, 0, 636, 30), (636, 4, 9, 0, 0, 638, 0), (638, 3, 0, 0, 0, 639, 0), (639, 2, 5, 0, 0, 641, 0), (641, 44, 1, 80, 0, 644, 85), (644, 2, 7, 0, 0, 646, 0), (646, 21, 0, 0, 0, 649, 694), (649, 3, 0, 0, 0, 650, 0), (650, 2, 5, 0, 0, 652, 0), (652, 1, 0, 0, nI 3, 653, 0), (653, 44, 2, 88, 0, 656, 24), (656, 2, 8, 0, 0, 658, 0), (658, 2, 7, 0, 0, 660, 0), (660, 6, 0, 0, 0, 661, 0), (661, 21, 0, 0, 0, 664, 694), (664, 3, 0, 0, 0, 665, 0), (665, 2, 5, 0, 0, 667, 0), (667, 2, 6, 0, 0, 669, 0), (669, 44, 2, 89, 0, 672, 30), (672, 2, 9, 0, 0, 674, 0), (674, 1, 0, 0, nI 1, 675, 0), (675, 6, 0, 0, 0, 676, 0), (676, 21, 0, 0, 0, 679, 694), (679, 3, 0, 0, 0, 680, 0), (680, 2, 5, 0, 0, 682, 0), (682, 44, 1, 80, 0, 685, 85), (685, 1, 0, 0, -2, 687, 0), (687, 21, 0, 0, 0, 690, 694), (690, 1, 0, 0, nI 1, 691, 0), (691, 13, 0, 0, 0, 695, 0), (694, 1, 0, 0, nI 0, 695, 0), (695, 41, 0, 0, 0, 696, 0), (696, 2, 6, 0, 0, 698, 0), (698, 1, 0, 0, -9, 700, 0), (700, 21, 0, 0, 0, 703, 707), (703, 1, 0, 0, nI 0, 704, 0), (704, 13, 0, 0, 0, 714, 0), (707, 3, 0, 0, 0, 708, 0), (708, 2, 6, 0, 0, 710, 0), (710, 1, 0, 0, nI 1, 711, 0), (711, 44, 2, 87, 0, 714, 21), (714, 4, 8, 0, 0, 716, 0), (716, 2, 8, 0, 0, 718, 0), (718, 3, 0, 0, 0, 719, 0), (719, 1, 0, 0, nI 15, 721, 0), (721, 44, 1, 85, 0, 724, 8), (724, 23, 0, 0, 0, 727, 732), (727, 2, 8, 0, 0, 729, 0), (729, 13, 0, 0, 0, 738, 0), (732, 3, 0, 0, 0, 733, 0), (733, 1, 0, 0, nI 15, 735, 0), (735, 44, 1, 85, 0, 738, 8), (738, 4, 9, 0, 0, 740, 0), (740, 3, 0, 0, 0, 741, 0), (741, 2, 5, 0, 0, 743, 0), (743, 44, 1, 79, 0, 746, 88), (746, 2, 8, 0, 0, 748, 0), (748, 19, 0, 0, 0, 751, 756), (751, 2, 9, 0, 0, 753, 0), (753, 13, 0, 0, 0, 758, 0), (756, 1, 0, 0, -2, 758, 0), (758, 21, 0, 0, 0, 761, 788), (761, 3, 0, 0, 0, 762, 0), (762, 2, 5, 0, 0, 764, 0), (764, 44, 1, 96, 0, 767, 82), (767, 2, 7, 0, 0, 769, 0), (769, 21, 0, 0, 0, 772, 788), (772, 3, 0, 0, 0, 773, 0), (773, 2, 5, 0, 0, 775, 0), (775, 1, 0, 0, nI 2, 776, 0), (776, 44, 2, 88, 0, 779, 24), (779, 2, 9, 0, 0, 781, 0), (781, 21, 0, 0, 0, 784, 788), (784, 1, 0, 0, nI 1, 785, 0), (785, 13, 0, 0, 0, 789, 0), (788, 1, 0, 0, nI 0, 789, 0), (789, 41, 0, 0, 0, 790, 0), (790, 2, 2, 0, 0, 791, 0), (791, 1, 0, 0, nI 1, 792, 0), (792, 10, 0, 0, 0, 793, 0), (793, 4, 7, 0, 0, 795, 0), (795, 2, 2, 0, 0, 796, 0), (796, 1, 0, 0, nI 2, 797, 0), (797, 10, 0, 0, 0, 798, 0), (798, 15, 0, 0, 0, 801, 822), (801, 3, 0, 0, 0, 802, 0), (802, 2, 7, 0, 0, 804, 0), (804, 44, 1, 81, 0, 807, 91), (807, 3, 0, 0, 0, 808, 0), (808, 1, 0, 0, nI 7, 810, 0), (810, 44, 1, 85, 0, 813, 8), (813, 21, 0, 0, 0, 816, 820), (816, 1, 0, 0, nI 1, 817, 0), (817, 13, 0, 0, 0, 821, 0), (820, 1, 0, 0, nI 0, 821, 0), (821, 41, 0, 0, 0, 822, 0), (822, 3, 0, 0, 0, 823, 0), (823, 2, 7, 0, 0, 825, 0), (825, 44, 1, 82, 0, 828, 94), (828, 4, 8, 0, 0, 830, 0), (830, 2, 8, 0, 0, 832, 0), (832, 1, 0, 0, -2, 834, 0), (834, 21, 0, 0, 0, 837, 855), (837, 3, 0, 0, 0, 838, 0), (838, 1, 0, 0, nI 16, 840, 0), (840, 44, 1, 85, 0, 843, 8), (843, 1, 0, 0, nI 2, 844, 0), (844, 23, 0, 0, 0, 847, 851), (847, 1, 0, 0, nI 1, 848, 0), (848, 13, 0, 0, 0, 871, 0), (851, 1, 0, 0, nI 0, 852, 0), (852, 13, 0, 0, 0, 871, 0), (855, 2, 8, 0, 0, 857, 0), (857, 3, 0, 0, 0, 858, 0), (858, 1, 0, 0, nI 7, 860, 0), (860, 44, 1, 85, 0, 863, 8), (863, 21, 0, 0, 0, 866, 870), (866, 1, 0, 0, nI 1, 867, 0), (867, 13, 0, 0, 0, 871, 0), (870, 1, 0, 0, nI 0, 871, 0), (871, 41, 0, 0, 0, 872, 0)]
def tL_acts_0 : List (Nat × OpT) := [(0, 2, 1, 0, 0, 1, 0), (1, 1, 0, 0, nI 15, 3, 0), (3, 10, 0, 0, 0, 4, 0), (4, 4, 3, 0, 0, 5, 0), (5, 2, 1, 0, 0, 6, 0), (6, 1, 0, 0, nI 4, 7, 0), (7, 55, 0, 0, 0, 8, 0), (8, 1, 0, 0, nI 8, 10, 0), (10, 46, 2, 104, 0, 13, 60), (13, 4, 4, 0, 0, 15, 0), (15, 2, 1, 0, 0, 16, 0), (16, 1, 0, 0, nI 8, 18, 0), (18, 55, 0, 0, 0, 19, 0), (19, 1, 0, 0, nI 6, 21, 0), (21, 46, 2, 104, 0, 24, 60), (24, 4, 5, 0, 0, 26, 0), (26, 2, 3, 0, 0, 27, 0), (27, 1, 0, 0, nI 3, 28, 0), (28, 23, 0, 0, 0, 31, 133), (31, 1, 0, 0, nI 1, 32, 0), (32, 2, 2, 0, 0, 33, 0), (33, 1, 0, 0, nI 20, 35, 0), (35, 46, 2, 104, 0, 38, 60), (38, 6, 0, 0, 0, 39, 0)]
def tL_acts_1 : List (Nat × OpT) := [(39, 4, 6, 0, 0, 41, 0), (41, 3, 0, 0, 0, 42, 0), (42, 1, 0, 0, nI 6, 44, 0), (44, 44, 1, 85, 0, 47, 8), (47, 4, 7, 0, 0, 49, 0), (49, 3, 0, 0, 0, 50, 0), (50, 2, 2, 0, 0, 51, 0), (51, 1, 0, 0, nI 5, 52, 0), (52, 55, 0, 0, 0, 53, 0), (53, 1, 0, 0, nI 100, 55, 0), (55, 46, 2, 104, 0, 58, 60), (58, 2, 2, 0, 0, 59, 0), (59, 1, 0, 0, nI 4, 60, 0), (60, 55, 0, 0, 0, 61, 0), (61, 1, 0, 0, nI 1, 62, 0), (62, 10, 0, 0, 0, 63, 0), (63, 2, 6, 0, 0, 65, 0), (65, 44, 3, 74, 0, 68, 63), (68, 4, 8, 0, 0, 70, 0), (70, 2, 7, 0, 0, 72, 0), (72, 2, 6, 0, 0, 74, 0), (74, 6, 0, 0, 0, 75, 0), (75, 1, 0, 0, nI 120, 77, 0), (77, 25, 0, 0, 0, 80, 106)]
def tL_acts_2 : List (Nat × OpT) := [(80, 2, 8, 0, 0, 82, 0), (82, 1, 0, 0, -3, 84, 0), (84, 21, 0, 0, 0, 87, 102), (87, 3, 0, 0, 0, 88, 0), (88, 1, 0, 0, nI 6, 90, 0), (90, 44, 1, 85, 0, 93, 8), (93, 2, 7, 0, 0, 95, 0), (95, 21, 0, 0, 0, 98, 102), (98, 1, 0, 0, nI 1, 99, 0), (99, 13, 0, 0, 0, 132, 0), (102, 1, 0, 0, nI 0, 103, 0), (103, 13, 0, 0, 0, 132, 0), (106, 2, 8, 0, 0, 108, 0), (108, 2, 7, 0, 0, 110, 0), (110, 21, 0, 0, 0, 113, 131), (113, 3, 0, 0, 0, 114, 0), (114, 1, 0, 0, nI 6, 116, 0), (116, 44, 1, 85, 0, 119, 8), (119, 2, 7, 0, 0, 121, 0), (121, 2, 6, 0, 0, 123, 0), (123, 6, 0, 0, 0, 124, 0), (124, 21, 0, 0, 0, 127, 131), (127, 1, 0, 0, nI 1, 128, 0), (128, 13, 0, 0, 0, 132, 0)]
def tL_acts_3 : List (Nat × OpT) := [(131, 1, 0, 0, nI 0, 132, 0), (132, 41, 0, 0, 0, 133, 0), (133, 2, 3, 0, 0, 134, 0), (134, 1, 0, 0, nI 7, 136, 0), (136, 23, 0, 0, 0, 139, 144), (139, 3, 0, 0, 0, 140, 0), (140, 46, 1, 109, 0, 143, 67), (143, 41, 0, 0, 0, 144, 0), (144, 2, 3, 0, 0, 145, 0), (145, 1, 0, 0, nI 7, 147, 0), (147, 21, 0, 0, 0, 150, 236), (150, 2, 2, 0, 0, 151, 0), (151, 1, 0, 0, nI 100, 153, 0), (153, 46, 2, 104, 0, 156, 60), (156, 4, 6, 0, 0, 158, 0), (158, 2, 6, 0, 0, 160, 0), (160, 2, 2, 0, 0, 161, 0), (161, 1, 0, 0, nI 7, 163, 0), (163, 55, 0, 0, 0, 164, 0), (164, 1, 0, 0, nI 100, 166, 0), (166, 2, 6, 0, 0, 168, 0), (168, 7, 0, 0, 0, 169, 0), (169, 46, 2, 104, 0, 172, 60), (172, 6, 0, 0, 0, 173, 0)]
def tL_acts_4 : List (Nat × OpT) := [(173, 4, 7, 0, 0, 175, 0), (175, 3, 0, 0, 0, 176, 0), (176, 2, 6, 0, 0, 178, 0), (178, 2, 7, 0, 0, 180, 0), (180, 2, 4, 0, 0, 182, 0), (182, 44, 3, 76, 0, 185, 70), (185, 3, 0, 0, 0, 186, 0), (186, 1, 0, 0, nI 8, 188, 0), (188, 44, 1, 85, 0, 191, 8), (191, 21, 0, 0, 0, 194, 234), (194, 3, 0, 0, 0, 195, 0), (195, 2, 6, 0, 0, 197, 0), (197, 1, 0, 0, nI 0, 198, 0), (198, 44, 2, 90, 0, 201, 18), (201, 2, 4, 0, 0, 203, 0), (203, 21, 0, 0, 0, 206, 234), (206, 3, 0, 0, 0, 207, 0), (207, 2, 7, 0, 0, 209, 0), (209, 1, 0, 0, nI 0, 210, 0), (210, 44, 2, 90, 0, 213, 18), (213, 2, 4, 0, 0, 215, 0), (215, 21, 0, 0, 0, 218, 234), (218, 3, 0, 0, 0, 219, 0), (219, 2, 7, 0, 0, 221, 0)]
def tL_acts_5 : List (Nat × OpT) := [(221, 1, 0, 0, nI 1, 222, 0), (222, 44, 2, 90, 0, 225, 18), (225, 2, 6, 0, 0, 227, 0), (227, 24, 0, 0, 0, 230, 234), (230, 1, 0, 0, nI 1, 231, 0), (231, 13, 0, 0, 0, 235, 0), (234, 1, 0, 0, nI 0, 235, 0), (235, 41, 0, 0, 0, 236, 0), (236, 2, 3, 0, 0, 237, 0), (237, 1, 0, 0, nI 8, 239, 0), (239, 21, 0, 0, 0, 242, 402), (242, 2, 2, 0, 0, 243, 0), (243, 1, 0, 0, nI 11, 245, 0), (245, 46, 2, 104, 0, 248, 60), (248, 4, 6, 0, 0, 250, 0), (250, 2, 6, 0, 0, 252, 0), (252, 1, 0, 0, nI 8, 254, 0), (254, 23, 0, 0, 0, 257, 267), (257, 3, 0, 0, 0, 258, 0), (258, 2, 6, 0, 0, 260, 0), (260, 1, 0, 0, nI 0, 261, 0), (261, 44, 2, 87, 0, 264, 21), (264, 13, 0, 0, 0, 275, 0), (267, 3, 0, 0, 0, 268, 0)]
def tL_acts_6 : List (Nat × OpT) := [(268, 1, 0, 0, nI 5, 269, 0), (269, 2, 6, 0, 0, 271, 0), (271, 6, 0, 0, 0, 272, 0), (272, 44, 1, 85, 0, 275, 8), (275, 4, 7, 0, 0, 277, 0), (277, 2, 2, 0, 0, 278, 0), (278, 1, 0, 0, nI 4, 279, 0), (279, 55, 0, 0, 0, 280, 0), (280, 1, 0, 0, nI 22, 282, 0), (282, 46, 2, 104, 0, 285, 60), (285, 4, 8, 0, 0, 287, 0), (287, 2, 6, 0, 0, 289, 0), (289, 1, 0, 0, nI 8, 291, 0), (291, 21, 0, 0, 0, 294, 308), (294, 2, 8, 0, 0, 296, 0), (296, 1, 0, 0, nI 3, 297, 0), (297, 23, 0, 0, 0, 300, 304), (300, 1, 0, 0, nI 1, 301, 0), (301, 13, 0, 0, 0, 332, 0), (304, 1, 0, 0, nI 0, 305, 0), (305, 13, 0, 0, 0, 332, 0), (308, 2, 8, 0, 0, 310, 0), (310, 19, 0, 0, 0, 313, 331), (313, 2, 6, 0, 0, 315, 0)]
def tL_acts_7 : List (Nat × OpT) := [(315, 1, 0, 0, nI 8, 317, 0), (317, 24, 0, 0, 0, 320, 327), (320, 2, 8, 0, 0, 322, 0), (322, 1, 0, 0, nI 21, 324, 0), (324, 23, 0, 0, 0, 327, 331), (327, 1, 0, 0, nI 1, 328, 0), (328, 13, 0, 0, 0, 332, 0), (331, 1, 0, 0, nI 0, 332, 0), (332, 4, 9, 0, 0, 334, 0), (334, 3, 0, 0, 0, 335, 0), (335, 2, 6, 0, 0, 337, 0), (337, 2, 8, 0, 0, 339, 0), (339, 44, 2, 77, 0, 342, 73), (342, 2, 9, 0, 0, 344, 0), (344, 14, 0, 0, 0, 347, 352), (347, 2, 7, 0, 0, 349, 0), (349, 13, 0, 0, 0, 353, 0), (352, 1, 0, 0, -1, 353, 0), (353, 21, 0, 0, 0, 356, 400), (356, 2, 6, 0, 0, 358, 0), (358, 1, 0, 0, nI 8, 360, 0), (360, 23, 0, 0, 0, 363, 373), (363, 3, 0, 0, 0, 364, 0), (364, 2, 6, 0, 0, 366, 0)]
def tL_acts_8 : List (Nat × OpT) := [(366, 1, 0, 0, nI 0, 367, 0), (367, 44, 2, 87, 0, 370, 21), (370, 13, 0, 0, 0, 381, 0), (373, 3, 0, 0, 0, 374, 0), (374, 1, 0, 0, nI 5, 375, 0), (375, 2, 6, 0, 0, 377, 0), (377, 6, 0, 0, 0, 378, 0), (378, 44, 1, 85, 0, 381, 8), (381, 2, 9, 0, 0, 383, 0), (383, 14, 0, 0, 0, 386, 391), (386, 2, 8, 0, 0, 388, 0), (388, 13, 0, 0, 0, 393, 0), (391, 2, 7, 0, 0, 393, 0), (393, 21, 0, 0, 0, 396, 400), (396, 1, 0, 0, nI 1, 397, 0), (397, 13, 0, 0, 0, 401, 0), (400, 1, 0, 0, nI 0, 401, 0), (401, 41, 0, 0, 0, 402, 0), (402, 2, 3, 0, 0, 403, 0), (403, 1, 0, 0, nI 11, 405, 0), (405, 23, 0, 0, 0, 408, 585), (408, 3, 0, 0, 0, 409, 0), (409, 2, 4, 0, 0, 411, 0), (411, 1, 0, 0, nI 4, 412, 0)]
def tL_acts_9 : List (Nat × OpT) := [(412, 44, 2, 87, 0, 415, 21), (415, 4, 6, 0, 0, 417, 0), (417, 3, 0, 0, 0, 418, 0), (418, 2, 4, 0, 0, 420, 0), (420, 44, 1, 95, 0, 423, 76), (423, 4, 7, 0, 0, 425, 0), (425, 2, 2, 0, 0, 426, 0), (426, 1, 0, 0, nI 7, 428, 0), (428, 10, 0, 0, 0, 429, 0), (429, 15, 0, 0, 0, 432, 436), (432, 1, 0, 0, nI 1, 433, 0), (433, 13, 0, 0, 0, 437, 0), (436, 1, 0, 0, nI 0, 437, 0), (437, 4, 8, 0, 0, 439, 0), (439, 2, 8, 0, 0, 441, 0), (441, 14, 0, 0, 0, 444, 448), (444, 1, 0, 0, -1, 445, 0), (445, 13, 0, 0, 0, 469, 0), (448, 2, 2, 0, 0, 449, 0), (449, 1, 0, 0, nI 8, 451, 0), (451, 10, 0, 0, 0, 452, 0), (452, 15, 0, 0, 0, 455, 467), (455, 2, 7, 0, 0, 457, 0), (457, 1, 0, 0, -9, 459, 0)]
def tL_acts_10 : List (Nat × OpT) := [(459, 20, 0, 0, 0, 462, 467), (462, 2, 7, 0, 0, 464, 0), (464, 13, 0, 0, 0, 469, 0), (467, 2, 5, 0, 0, 469, 0), (469, 4, 9, 0, 0, 471, 0), (471, 2, 9, 0, 0, 473, 0), (473, 16, 0, 0, 0, 476, 500), (476, 3, 0, 0, 0, 477, 0), (477, 2, 9, 0, 0, 479, 0), (479, 1, 0, 0, nI 0, 480, 0), (480, 44, 2, 88, 0, 483, 24), (483, 1, 0, 0, -9, 485, 0), (485, 20, 0, 0, 0, 488, 500), (488, 3, 0, 0, 0, 489, 0), (489, 2, 9, 0, 0, 491, 0), (491, 1, 0, 0, nI 0, 492, 0), (492, 44, 2, 88, 0, 495, 24), (495, 2, 4, 0, 0, 497, 0), (497, 21, 0, 0, 0, 500, 521), (500, 2, 6, 0, 0, 502, 0), (502, 1, 0, 0, -9, 504, 0), (504, 20, 0, 0, 0, 507, 517), (507, 3, 0, 0, 0, 508, 0), (508, 2, 6, 0, 0, 510, 0)]
def tL_acts_11 : List (Nat × OpT) := [(510, 1, 0, 0, nI 1, 511, 0), (511, 44, 2, 88, 0, 514, 24), (514, 15, 0, 0, 0, 517, 521), (517, 1, 0, 0, nI 1, 518, 0), (518, 13, 0, 0, 0, 522, 0), (521, 1, 0, 0, nI 0, 522, 0), (522, 4, 10, 0, 0, 524, 0), (524, 3, 0, 0, 0, 525, 0), (525, 2, 4, 0, 0, 527, 0), (527, 2, 9, 0, 0, 529, 0), (529, 44, 2, 78, 0, 532, 79), (532, 2, 10, 0, 0, 534, 0), (534, 14, 0, 0, 0, 537, 542), (537, 2, 6, 0, 0, 539, 0), (539, 13, 0, 0, 0, 544, 0), (542, 1, 0, 0, -2, 544, 0), (544, 21, 0, 0, 0, 547, 583), (547, 3, 0, 0, 0, 548, 0), (548, 2, 4, 0, 0, 550, 0), (550, 1, 0, 0, nI 4, 551, 0), (551, 44, 2, 87, 0, 554, 21), (554, 2, 10, 0, 0, 556, 0), (556, 14, 0, 0, 0, 559, 574), (559, 2, 8, 0, 0, 561, 0)]
def tL_acts_12 : List (Nat × OpT) := [(561, 14, 0, 0, 0, 564, 569), (564, 1, 0, 0, -9, 566, 0), (566, 13, 0, 0, 0, 576, 0), (569, 2, 9, 0, 0, 571, 0), (571, 13, 0, 0, 0, 576, 0), (574, 2, 6, 0, 0, 576, 0), (576, 21, 0, 0, 0, 579, 583), (579, 1, 0, 0, nI 1, 580, 0), (580, 13, 0, 0, 0, 584, 0), (583, 1, 0, 0, nI 0, 584, 0), (584, 41, 0, 0, 0, 585, 0), (585, 3, 0, 0, 0, 586, 0), (586, 2, 5, 0, 0, 588, 0), (588, 1, 0, 0, nI 0, 589, 0), (589, 44, 2, 88, 0, 592, 24), (592, 4, 6, 0, 0, 594, 0), (594, 2, 3, 0, 0, 595, 0), (595, 1, 0, 0, nI 15, 597, 0), (597, 23, 0, 0, 0, 600, 790), (600, 3, 0, 0, 0, 601, 0), (601, 2, 5, 0, 0, 603, 0), (603, 44, 1, 96, 0, 606, 82), (606, 4, 7, 0, 0, 608, 0), (608, 3, 0, 0, 0, 609, 0)]
def tL_acts_13 : List (Nat × OpT) := [(609, 2, 5, 0, 0, 611, 0), (611, 1, 0, 0, nI 1, 612, 0), (612, 44, 2, 88, 0, 615, 24), (615, 1, 0, 0, nI 1, 616, 0), (616, 21, 0, 0, 0, 619, 696), (619, 3, 0, 0, 0, 620, 0), (620, 2, 5, 0, 0, 622, 0), (622, 1, 0, 0, nI 3, 623, 0), (623, 44, 2, 88, 0, 626, 24), (626, 4, 8, 0, 0, 628, 0), (628, 3, 0, 0, 0, 629, 0), (629, 2, 5, 0, 0, 631, 0), (631, 2, 6, 0, 0, 633, 0), (633, 44, 2, 89, 0, 636, 30), (636, 4, 9, 0, 0, 638, 0), (638, 3, 0, 0, 0, 639, 0), (639, 2, 5, 0, 0, 641, 0), (641, 44, 1, 80, 0, 644, 85), (644, 2, 7, 0, 0, 646, 0), (646, 21, 0, 0, 0, 649, 694), (649, 3, 0, 0, 0, 650, 0), (650, 2, 5, 0, 0, 652, 0), (652, 1, 0, 0, nI 3, 653, 0), (653, 44, 2, 88, 0, 656, 24)]
def tL_acts_14 : List (Nat × OpT) := [(656, 2, 8, 0, 0, 658, 0), (658, 2, 7, 0, 0, 660, 0), (660, 6, 0, 0, 0, 661, 0), (661, 21, 0, 0, 0, 664, 694), (664, 3, 0, 0, 0, 665, 0), (665, 2, 5, 0, 0, 667, 0), (667, 2, 6, 0, 0, 669, 0), (669, 44, 2, 89, 0, 672, 30), (672, 2, 9, 0, 0, 674, 0), (674, 1, 0, 0, nI 1, 675, 0), (675, 6, 0, 0, 0, 676, 0), (676, 21, 0, 0, 0, 679, 694), (679, 3, 0, 0, 0, 680, 0), (680, 2, 5, 0, 0, 682, 0), (682, 44, 1, 80, 0, 685, 85), (685, 1, 0, 0, -2, 687, 0), (687, 21, 0, 0, 0, 690, 694), (690, 1, 0, 0, nI 1, 691, 0), (691, 13, 0, 0, 0, 695, 0), (694, 1, 0, 0, nI 0, 695, 0), (695, 41, 0, 0, 0, 696, 0), (696, 2, 6, 0, 0, 698, 0), (698, 1, 0, 0, -9, 700, 0), (700, 21, 0, 0, 0, 703, 707)]
def tL_acts_15 : List (Nat × OpT) := [(703, 1, 0, 0, nI 0, 704, 0), (704, 13, 0, 0, 0, 714, 0), (707, 3, 0, 0, 0, 708, 0), (708, 2, 6, 0, 0, 710, 0), (710, 1, 0, 0, nI 1, 711, 0), (711, 44, 2, 87, 0, 714, 21), (714, 4, 8, 0, 0, 716, 0), (716, 2, 8, 0, 0, 718, 0), (718, 3, 0, 0, 0, 719, 0), (719, 1, 0, 0, nI 15, 721, 0), (721, 44, 1, 85, 0, 724, 8), (724, 23, 0, 0, 0, 727, 732), (727, 2, 8, 0, 0, 729, 0), (729, 13, 0, 0, 0, 738, 0), (732, 3, 0, 0, 0, 733, 0), (733, 1, 0, 0, nI 15, 735, 0), (735, 44, 1, 85, 0, 738, 8), (738, 4, 9, 0, 0, 740, 0), (740, 3, 0, 0, 0, 741, 0), (741, 2, 5, 0, 0, 743, 0), (743, 44, 1, 79, 0, 746, 88), (746, 2, 8, 0, 0, 748, 0), (748, 19, 0, 0, 0, 751, 756), (751, 2, 9, 0, 0, 753, 0)]
def tL_acts_16 : List (Nat × OpT) := [(753, 13, 0, 0, 0, 758, 0), (756, 1, 0, 0, -2, 758, 0), (758, 21, 0, 0, 0, 761, 788), (761, 3, 0, 0, 0, 762, 0), (762, 2, 5, 0, 0, 764, 0), (764, 44, 1, 96, 0, 767, 82), (767, 2, 7, 0, 0, 769, 0), (769, 21, 0, 0, 0, 772, 788), (772, 3, 0, 0, 0, 773, 0), (773, 2, 5, 0, 0, 775, 0), (775, 1, 0, 0, nI 2, 776, 0), (776, 44, 2, 88, 0, 779, 24), (779, 2, 9, 0, 0, 781, 0), (781, 21, 0, 0, 0, 784, 788), (784, 1, 0, 0, nI 1, 785, 0), (785, 13, 0, 0, 0, 789, 0), (788, 1, 0, 0, nI 0, 789, 0), (789, 41, 0, 0, 0, 790, 0), (790, 2, 2, 0, 0, 791, 0), (791, 1, 0, 0, nI 1, 792, 0), (792, 10, 0, 0, 0, 793, 0), (793, 4, 7, 0, 0, 795, 0), (795, 2, 2, 0, 0, 796, 0), (796, 1, 0, 0, nI 2, 797, 0)]
def tL_acts_17 : List (Nat × OpT) := [(797, 10, 0, 0, 0, 798, 0), (798, 15, 0, 0, 0, 801, 822), (801, 3, 0, 0, 0, 802, 0), (802, 2, 7, 0, 0, 804, 0), (804, 44, 1, 81, 0, 807, 91), (807, 3, 0, 0, 0, 808, 0), (808, 1, 0, 0, nI 7, 810, 0), (810, 44, 1, 85, 0, 813, 8), (813, 21, 0, 0, 0, 816, 820), (816, 1, 0, 0, nI 1, 817, 0), (817, 13, 0, 0, 0, 821, 0), (820, 1, 0, 0, nI 0, 821, 0), (821, 41, 0, 0, 0, 822, 0), (822, 3, 0, 0, 0, 823, 0), (823, 2, 7, 0, 0, 825, 0), (825, 44, 1, 82, 0, 828, 94), (828, 4, 8, 0, 0, 830, 0), (830, 2, 8, 0, 0, 832, 0), (832, 1, 0, 0, -2, 834, 0), (834, 21, 0, 0, 0, 837, 855), (837, 3, 0, 0, 0, 838, 0), (838, 1, 0, 0, nI 16, 840, 0), (840, 44, 1, 85, 0, 843, 8), (843, 1, 0, 0, nI 2, 844, 0)]
def tL_acts_18 : List (Nat × OpT) := [(844, 23, 0, 0, 0, 847, 851), (847, 1, 0, 0, nI 1, 848, 0), (848, 13, 0, 0, 0, 871, 0), (851, 1, 0, 0, nI 0, 852, 0), (852, 13, 0, 0, 0, 871, 0), (855, 2, 8, 0, 0, 857, 0), (857, 3, 0, 0, 0, 858, 0), (858, 1, 0, 0, nI 7, 860, 0), (860, 44, 1, 85, 0, 863, 8), (863, 21, 0, 0, 0, 866, 870), (866, 1, 0, 0, nI 1, 867, 0), (867, 13, 0, 0, 0, 871, 0), (870, 1, 0, 0, nI 0, 871, 0), (871, 41, 0, 0, 0, 872, 0)]
def jL_acts : JT := (110, yL_acts, cL_acts, 11, (some .boolean), 8, 182, 10, tL_acts)
set_option maxRecDepth 100000 in
theorem okL_acts_0 : tL_acts_0.all (fun q => okOp 10 11 cL_acts q.1 q.2) = true := by decide +kernel
set_option maxRecDepth 100000 in
theorem okL_acts_1 : tL_acts_1.all (fun q => okOp 10 11 cL_acts q.1 q.2) = true := by decide +kernel
set_option maxRecDepth 100000 in
theorem okL_acts_2 : tL_acts_2.all (fun q => okOp 10 11 cL_acts q.1 q.2) = true := by decide +kernel
set_option maxRecDepth 100000 in
theorem okL_acts_3 : tL_acts_3.all (fun q => okOp 10 11 cL_acts q.1 q.2) = true := by decide +kernel
set_option maxRecDepth 100000 in
theorem okL_acts_4 : tL_acts_4.all (fun q => okOp 10 11 cL_acts q.1 q.2) = true := by decide +kernel
set_option maxRecDepth 100000 in
theorem okL_acts_5 : tL_acts_5.all (fun q => okOp 10 11 cL_acts q.1 q.2) = true := by decide +kernel
set_option maxRecDepth 100000 in
theorem okL_acts_6 : tL_acts_6.all (fun q => okOp 10 11 cL_acts q.1 q.2) = true := by decide +kernel
set_option maxRecDepth 100000 in
theorem okL_acts_7 : tL_acts_7.all (fun q => okOp 10 11 cL_acts q.1 q.2) = true := by decide +kernel
set_option maxRecDepth 100000 in
theorem okL_acts_8 : tL_acts_8.all (fun q => okOp 10 11 cL_acts q.1 q.2) = true := by decide +kernel
set_option maxRecDepth 100000 in
theorem okL_acts_9 : tL_acts_9.all (fun q => okOp 10 11 cL_acts q.1 q.2) = true := by decide +kernel
set_option maxRecDepth 100000 in
theorem okL_acts_10 : tL_acts_10.all (fun q => okOp 10 11 cL_acts q.1 q.2) = true := by decide +kernel
set_option maxRecDepth 100000 in
theorem okL_acts_11 : tL_acts_11.all (fun q => okOp 10 11 cL_acts q.1 q.2) = true := by decide +kernel
set_option maxRecDepth 100000 in
theorem okL_acts_12 : tL_acts_12.all (fun q => okOp 10 11 cL_acts q.1 q.2) = true := by decide +kernel
set_option maxRecDepth 100000 in
theorem okL_acts_13 : tL_acts_13.all (fun q => okOp 10 11 cL_acts q.1 q.2) = true := by decide +kernel
set_option maxRecDepth 100000 in
theorem okL_acts_14 : tL_acts_14.all (fun q => okOp 10 11 cL_acts q.1 q.2) = true := by decide +kernel
set_option maxRecDepth 100000 in
theorem okL_acts_15 : tL_acts_15.all (fun q => okOp 10 11 cL_acts q.1 q.2) = true := by decide +kernel
set_option maxRecDepth 100000 in
theorem okL_acts_16 : tL_acts_16.all (fun q => okOp 10 11 cL_acts q.1 q.2) = true := by decide +kernel
set_option maxRecDepth 100000 in
theorem okL_acts_17 : tL_acts_17.all (fun q => okOp 10 11 cL_acts q.1 q.2) = true := by decide +kernel
set_option maxRecDepth 100000 in
theorem okL_acts_18 : tL_acts_18.all (fun q => okOp 10 11 cL_acts q.1 q.2) = true := by decide +kernel
set_option maxRecDepth 100000 in
theorem okL_acts : e_T jL_acts := ⟨by
  show (tL_acts_0 ++ (tL_acts_1 ++ (tL_acts_2 ++ (tL_acts_3 ++ (tL_acts_4 ++ (tL_acts_5 ++ (tL_acts_6 ++ (tL_acts_7 ++ (tL_acts_8 ++ (tL_acts_9 ++ (tL_acts_10 ++ (tL_acts_11 ++ (tL_acts_12 ++ (tL_acts_13 ++ (tL_acts_14 ++ (tL_acts_15 ++ (tL_acts_16 ++ (tL_acts_17 ++ (tL_acts_18))))))))))))))))))).all (fun q => okOp 10 11 cL_acts q.1 q.2) = true
  exact all_app okL_acts_0 (all_app okL_acts_1 (all_app okL_acts_2 (all_app okL_acts_3 (all_app okL_acts_4 (all_app okL_acts_5 (all_app okL_acts_6 (all_app okL_acts_7 (all_app okL_acts_8 (all_app okL_acts_9 (all_app okL_acts_10 (all_app okL_acts_11 (all_app okL_acts_12 (all_app okL_acts_13 (all_app okL_acts_14 (all_app okL_acts_15 (all_app okL_acts_16 (all_app okL_acts_17 (okL_acts_18)))))))))))))))))), rfl, rfl, by decide +kernel⟩
end
section
/-! Functional contracts, and the calls by them. -/
section MG
variable {ε : EE} {J : JT} {pc : Nat} {ls : List (Option V0)} {st : List V0} {G G1 : GG} {Q : Option Int32 → GG → Prop}
def F2 (ε : EE) (J : JT) (As : List V0) (G : GG) (v : Option Int32) (G1 : GG) : Prop := C2 ε J As G (fun v' G' => v' = v ∧ G' = G1)
theorem e2_fi {J' : JT} {n idx nx i kk ci : Nat} {v r : Int32} {As rest : List V0} {fs : List V0} {ty : FieldType} (hC : F2 ε J' (.inr (i, kk) :: As) G (some r) G1) (hst : st = As.reverse ++ .inr (i, kk) :: rest) (h : lk (jt J) pc = (44, n, jn J', v, nx, idx)) (hT : e_fit J J') (hr : jr J' = some ty) (hn : As.length = n) (hrest : Nat.ble rest.length 8 = true) (hv : i < lim kk) (ho : objV i kk (G i kk) = some (ci, fs)) (hci : Nat.ble ci 8 = true) (hcn : nmC ci = (jy J').cls)
    (k : E2 ε J nx ls (.inl r :: rest) G1 Q) : E2 ε J pc ls st G Q :=
  e2_callVi h hT hr hn hst hrest hv ho hci hcn hC (fun r' G' z => by
    obtain ⟨z1, rfl⟩ := z
    cases z1
    exact k)
theorem e2_fv {J' : JT} {n idx nx i kk ci : Nat} {v : Int32} {As rest : List V0} {fs : List V0} (hC : F2 ε J' (.inr (i, kk) :: As) G none G1) (hst : st = As.reverse ++ .inr (i, kk) :: rest) (h : lk (jt J) pc = (44, n, jn J', v, nx, idx)) (hT : e_fit J J') (hr : jr J' = none) (hn : As.length = n) (hrest : Nat.ble rest.length 8 = true) (hv : i < lim kk) (ho : objV i kk (G i kk) = some (ci, fs)) (hci : Nat.ble ci 8 = true) (hcn : nmC ci = (jy J').cls)
    (k : E2 ε J nx ls rest G1 Q) : E2 ε J pc ls st G Q :=
  e2_callVv h hT hr hn hst hrest hv ho hci hcn hC (fun G' z => by
    obtain ⟨-, rfl⟩ := z
    exact k)
theorem e2_fs {J' : JT} {n idx nx : Nat} {v r : Int32} {As rest : List V0} {ty : FieldType} (hC : F2 ε J' As G (some r) G1) (hst : st = As.reverse ++ rest) (h : lk (jt J) pc = (46, n, jn J', v, nx, idx)) (hT : e_fit J J') (hr : jr J' = some ty) (hn : As.length = n) (hrest : Nat.ble rest.length 8 = true)
    (k : E2 ε J nx ls (.inl r :: rest) G1 Q) : E2 ε J pc ls st G Q :=
  e2_callSi h hT hr hn hst hrest hC (fun r' G' z => by
    obtain ⟨z1, rfl⟩ := z
    cases z1
    exact k)
theorem e2_stepS {o a b nx tg : Nat} {v : Int32} {ls' : List (Option V0)} {st' : List V0} (stop : Nat) (_ : Nat.beq pc stop = false) (h : lk (jt J) pc = (o, a, b, v, nx, tg)) (hs : stp o a v ls st = some (ls', st')) (k : E2 ε J nx ls' st' G Q) : E2 ε J pc ls st G Q := e_step h hs k
theorem e2_getS {kf t nx idx i kk : Nat} {v : Int32} {fs : List V0} {w : V0} (stop : Nat) (_ : Nat.beq pc stop = false) (h : lk (jt J) pc = (30, kf, t, v, nx, idx)) (hv : i < lim kk) (ho : objV i kk (G i kk) = some (t, fs)) (hw : fs[kf]? = some w) (k : E2 ε J nx ls (w :: st) G Q) : E2 ε J pc ls (.inr (i, kk) :: st) G Q := e2_get h hv ho hw k
/-- a truth as the machine's number -/
def bI (b : Bool) : Int32 := if b then nI 1 else nI 0
theorem bI_t : bI true = nI 1 := rfl
theorem bI_f : bI false = nI 0 := rfl
theorem bI_0 (b : Bool) : bI b = 0 ↔ b = false := by cases b <;> decide
theorem nI_add' (a b : Nat) : nI a + nI b = nI (a + b) := nI_add a b
/-- how many below n -/
def cntB (p : Nat → Bool) : Nat → Nat
  | 0 => 0
  | n + 1 => cntB p n + (if p n then 1 else 0)
theorem cntB_le (p : Nat → Bool) : ∀ n, cntB p n ≤ n
  | 0 => Nat.le_refl _
  | n + 1 => by
    have := cntB_le p n
    unfold cntB
    split <;> omega
def isInB (v a b : Int32) : Bool := decide (a ≤ v) && decide (v ≤ b)
theorem c_isIn (v a b : Int32) : F2 ε jX8_isIn [.inl v, .inl a, .inl b] G (some (bI (isInB v a b))) G := by
  refine C2.of (ls := [some (.inl v), some (.inl a), some (.inl b)]) okX8_isIn rfl rfl ?_
  repeat (first | refine e2_step rfl rfl ?_ | refine e2_get rfl (by first | exact hi | decide) rfl rfl ?_)
  refine e2_if rfl rfl (fun c => ?_) (fun c => ?_)
  · repeat (first | refine e2_step rfl rfl ?_ | refine e2_get rfl (by first | exact hi | decide) rfl rfl ?_)
    refine e2_zret rfl rfl rfl ⟨?_, rfl⟩
    have : isInB v a b = false := by simp [isInB, Int32.not_le.2 c]
    rw [this]; rfl
  · repeat (first | refine e2_step rfl rfl ?_ | refine e2_get rfl (by first | exact hi | decide) rfl rfl ?_)
    refine e2_if rfl rfl (fun c2 => ?_) (fun c2 => ?_)
    · repeat (first | refine e2_step rfl rfl ?_ | refine e2_get rfl (by first | exact hi | decide) rfl rfl ?_)
      refine e2_zret rfl rfl rfl ⟨?_, rfl⟩
      have : isInB v a b = false := by simp [isInB, Int32.not_le.2 c2]
      rw [this]; rfl
    · repeat (first | refine e2_step rfl rfl ?_ | refine e2_get rfl (by first | exact hi | decide) rfl rfl ?_)
      refine e2_zret rfl rfl rfl ⟨?_, rfl⟩
      have : isInB v a b = true := by simp [isInB, Int32.not_lt.1 c, Int32.not_lt.1 c2]
      rw [this]; rfl
theorem isIn_T {k b : Nat} (h : k ≤ b) (hb : b < 2 ^ 31) : isInB (nI k) (nI 0) (nI b) = true := by
  unfold isInB
  rw [decide_eq_true ((nI_leI (by omega) (by omega)).2 (Nat.zero_le k)), decide_eq_true ((nI_leI (by omega) hb).2 h)]
  rfl
theorem isIn_low {v b : Int32} (h : v < nI 0) : isInB v (nI 0) b = false := by
  unfold isInB
  rw [decide_eq_false (Int32.not_le.2 h)]
  rfl
theorem isIn_hi {v : Int32} {k : Nat} (hk : k + 1 < 2 ^ 31) (h : nI (k + 1) ≤ v) : isInB v (nI 0) (nI k) = false := by
  unfold isInB
  rw [decide_eq_false (p := v ≤ nI k) (fun z => by
    have h1 := Int32.le_iff_toInt_le.1 h
    have h2 := Int32.le_iff_toInt_le.1 z
    rw [nI_toInt (by omega)] at h1 h2
    omega), Bool.and_false]
theorem isIn_mid {v : Int32} {k : Nat} (hk : k + 1 < 2 ^ 31) (h : ¬ v < nI 0) (h' : ¬ nI (k + 1) ≤ v) : isInB v (nI 0) (nI k) = true := by
  unfold isInB
  rw [decide_eq_true (Int32.not_lt.1 h), decide_eq_true (p := v ≤ nI k) (by
    refine Int32.le_iff_toInt_le.2 ?_
    have h2 := Int32.lt_iff_toInt_lt.1 (Int32.not_le.1 h')
    rw [nI_toInt (by omega)] at h2 ⊢
    omega)]
  rfl
theorem c_isWalk (v : Int32) : F2 ε jX8_isWalk [.inl v] G (some (bI (isInB v (nI 0) (nI 7)))) G := by
  refine C2.of (ls := [some (.inl v)]) okX8_isWalk rfl rfl ?_
  repeat (first | refine e2_step rfl rfl ?_ | refine e2_get rfl (by first | exact hi | decide) rfl rfl ?_)
  refine e2_if rfl rfl (fun c => ?_) (fun c => ?_)
  · rw [isIn_low (show v < nI 0 from c)]
    repeat (first | refine e2_step rfl rfl ?_ | refine e2_get rfl (by first | exact hi | decide) rfl rfl ?_)
    exact e2_zret rfl rfl rfl ⟨rfl, rfl⟩
  · repeat (first | refine e2_step rfl rfl ?_ | refine e2_get rfl (by first | exact hi | decide) rfl rfl ?_)
    refine e2_if rfl rfl (fun c2 => ?_) (fun c2 => ?_)
    · rw [isIn_hi (k := 7) (by decide) (show nI 8 ≤ v from c2)]
      repeat (first | refine e2_step rfl rfl ?_ | refine e2_get rfl (by first | exact hi | decide) rfl rfl ?_)
      exact e2_zret rfl rfl rfl ⟨rfl, rfl⟩
    · rw [isIn_mid (k := 7) (by decide) (show ¬ v < nI 0 from c) (show ¬ nI 8 ≤ v from c2)]
      repeat (first | refine e2_step rfl rfl ?_ | refine e2_get rfl (by first | exact hi | decide) rfl rfl ?_)
      exact e2_zret rfl rfl rfl ⟨rfl, rfl⟩
theorem c_isWalkT {w : Nat} (hw : w < 8) : F2 ε jX8_isWalk [.inl (nI w)] G (some (nI 1)) G := by
  have h := c_isWalk (ε := ε) (G := G) (nI w)
  rw [isIn_T (by omega) (by decide)] at h
  exact h
theorem c_isCarrier (v : Int32) : F2 ε jX8_isCarrier [.inl v] G (some (bI (isInB v (nI 0) (nI 5)))) G := by
  refine C2.of (ls := [some (.inl v)]) okX8_isCarrier rfl rfl ?_
  repeat (first | refine e2_step rfl rfl ?_ | refine e2_get rfl (by first | exact hi | decide) rfl rfl ?_)
  refine e2_if rfl rfl (fun c => ?_) (fun c => ?_)
  · rw [isIn_low (show v < nI 0 from c)]
    repeat (first | refine e2_step rfl rfl ?_ | refine e2_get rfl (by first | exact hi | decide) rfl rfl ?_)
    exact e2_zret rfl rfl rfl ⟨rfl, rfl⟩
  · repeat (first | refine e2_step rfl rfl ?_ | refine e2_get rfl (by first | exact hi | decide) rfl rfl ?_)
    refine e2_if rfl rfl (fun c2 => ?_) (fun c2 => ?_)
    · rw [isIn_hi (k := 5) (by decide) (show nI 6 ≤ v from c2)]
      repeat (first | refine e2_step rfl rfl ?_ | refine e2_get rfl (by first | exact hi | decide) rfl rfl ?_)
      exact e2_zret rfl rfl rfl ⟨rfl, rfl⟩
    · rw [isIn_mid (k := 5) (by decide) (show ¬ v < nI 0 from c) (show ¬ nI 6 ≤ v from c2)]
      repeat (first | refine e2_step rfl rfl ?_ | refine e2_get rfl (by first | exact hi | decide) rfl rfl ?_)
      exact e2_zret rfl rfl rfl ⟨rfl, rfl⟩
theorem c_isCarrierT {w : Nat} (hw : w < 6) : F2 ε jX8_isCarrier [.inl (nI w)] G (some (nI 1)) G := by
  have h := c_isCarrier (ε := ε) (G := G) (nI w)
  rw [isIn_T (by omega) (by decide)] at h
  exact h
theorem c_isSlot (v : Int32) : F2 ε jX8_isSlot [.inl v] G (some (bI (isInB v (nI 0) (nI 1)))) G := by
  refine C2.of (ls := [some (.inl v)]) okX8_isSlot rfl rfl ?_
  repeat (first | refine e2_step rfl rfl ?_ | refine e2_get rfl (by first | exact hi | decide) rfl rfl ?_)
  refine e2_if rfl rfl (fun c => ?_) (fun c => ?_)
  · rw [isIn_low (show v < nI 0 from c)]
    repeat (first | refine e2_step rfl rfl ?_ | refine e2_get rfl (by first | exact hi | decide) rfl rfl ?_)
    exact e2_zret rfl rfl rfl ⟨rfl, rfl⟩
  · repeat (first | refine e2_step rfl rfl ?_ | refine e2_get rfl (by first | exact hi | decide) rfl rfl ?_)
    refine e2_if rfl rfl (fun c2 => ?_) (fun c2 => ?_)
    · rw [isIn_hi (k := 1) (by decide) (show nI 2 ≤ v from c2)]
      repeat (first | refine e2_step rfl rfl ?_ | refine e2_get rfl (by first | exact hi | decide) rfl rfl ?_)
      exact e2_zret rfl rfl rfl ⟨rfl, rfl⟩
    · rw [isIn_mid (k := 1) (by decide) (show ¬ v < nI 0 from c) (show ¬ nI 2 ≤ v from c2)]
      repeat (first | refine e2_step rfl rfl ?_ | refine e2_get rfl (by first | exact hi | decide) rfl rfl ?_)
      exact e2_zret rfl rfl rfl ⟨rfl, rfl⟩
theorem c_isSlotT {w : Nat} (hw : w < 2) : F2 ε jX8_isSlot [.inl (nI w)] G (some (nI 1)) G := by
  have h := c_isSlot (ε := ε) (G := G) (nI w)
  rw [isIn_T (by omega) (by decide)] at h
  exact h
theorem l_countIn {i N : Nat} (hi : i < 19) (hN : N ≤ 120) (hc : G i 3 8 = nI N) (p : Int32) : ∀ (k l : Nat) , l + k = N → E2 ε jX2_countIn 4 [some (.inr (i, 3)), some (.inl p), some (.inl (nI (cntB (fun l => decide (G i 7 l = p)) l))), some (.inl (nI l))] [] G (fun v G' => v = some (nI (cntB (fun l => decide (G i 7 l = p)) N)) ∧ G' = G)
  | 0, l, h => by
    repeat (first | refine e2_step rfl rfl ?_ | refine e2_get rfl (by first | exact hi | decide) rfl rfl ?_)
    refine e2_if rfl rfl (fun c => ?_) (fun c => absurd ?_ c)
    · repeat (first | refine e2_step rfl rfl ?_ | refine e2_get rfl (by first | exact hi | decide) rfl rfl ?_)
      refine e2_iret rfl rfl ⟨?_, rfl⟩
      rw [show l = N by omega]
    · rw [hc]; exact nI_le (by omega) (by omega)
  | k + 1, l, h => by
    repeat (first | refine e2_step rfl rfl ?_ | refine e2_get rfl (by first | exact hi | decide) rfl rfl ?_)
    refine e2_if rfl rfl (fun c => absurd ?_ (nI_ge (a := l) (b := N) (by omega) (by omega))) (fun c => ?_)
    · rw [← hc]; exact c
    · repeat (first | refine e2_step rfl rfl ?_ | refine e2_get rfl (by first | exact hi | decide) rfl rfl ?_)
      refine e2_iald l rfl rfl hi rfl (by omega) ?_
      repeat (first | refine e2_step rfl rfl ?_ | refine e2_get rfl (by first | exact hi | decide) rfl rfl ?_)
      refine e2_if rfl rfl (fun c => ?_) (fun c => ?_)
      · repeat (first | refine e2_stepS 4 rfl rfl rfl ?_ | refine e2_getS 4 rfl rfl (by first | exact hi | decide) rfl rfl ?_)
        have := l_countIn hi hN hc p k (l + 1) (by omega)
        simp only [cntB, c, decide_false, Bool.false_eq_true, if_false, Nat.add_zero] at this
        rw [nI_add']
        exact this
      · repeat (first | refine e2_stepS 4 rfl rfl rfl ?_ | refine e2_getS 4 rfl rfl (by first | exact hi | decide) rfl rfl ?_)
        have := l_countIn hi hN hc p k (l + 1) (by omega)
        simp only [cntB, Classical.not_not.1 c, decide_true, if_true] at this
        rw [nI_add', nI_add']
        exact this
theorem c_countIn {i N : Nat} (hi : i < 19) (hN : N ≤ 120) (hc : G i 3 8 = nI N) (p : Int32) : F2 ε jX2_countIn [.inr (i, 3), .inl p] G (some (nI (cntB (fun l => decide (G i 7 l = p)) N))) G := by
  refine C2.of (ls := [some (.inr (i, 3)), some (.inl p), none, none]) okX2_countIn rfl rfl ?_
  repeat (first | refine e2_stepS 4 rfl rfl rfl ?_ | refine e2_getS 4 rfl rfl (by first | exact hi | decide) rfl rfl ?_)
  exact l_countIn hi hN hc p N 0 (by omega)
end MG
end
section
/-! What serves of the pictures: loops, sums, lists. -/
section Pa0
variable {ε : EE} {J : JT} {pc : Nat} {ls : List (Option V0)} {st : List V0} {G : GG} {r t o x : Nat → Int32} {Q : Option Int32 → GG → Prop}
theorem setA_eq (G : GG) {i kk : Nat} {g g' : Nat → Int32} (h : g = g') : setA G i kk g = setA G i kk g' := by rw [h]
theorem setA_twice (G : GG) (i kk : Nat) (g g' : Nat → Int32) : setA (setA G i kk g) i kk g' = setA G i kk g' := by
  funext a b
  simp only [setA]
  split <;> rfl
theorem setA_comm (G : GG) (i kk i2 kk2 : Nat) (g g' : Nat → Int32) (h : kk ≠ kk2) : setA (setA G i kk g) i2 kk2 g' = setA (setA G i2 kk2 g') i kk g := by
  funext a b
  simp only [setA]
  by_cases h1 : a = i2 ∧ b = kk2
  · rw [if_pos h1, if_neg (fun z => h (by omega)), if_pos h1]
  · rw [if_neg h1]
    by_cases h2 : a = i ∧ b = kk
    · rw [if_pos h2, if_pos h2]
    · rw [if_neg h2, if_neg h2, if_neg h1]
theorem nb_bI (b : Bool) : vp_nar .boolean (bI b) = bI b := by cases b <;> rfl
end Pa0
section Pb0
variable {ε : EE} {J : JT} {pc : Nat} {ls : List (Option V0)} {st : List V0} {G : GG} {r t o x : Nat → Int32} {Q : Option Int32 → GG → Prop}
/-- a counted loop whose state is a function of the count -/
theorem e2_for {st : List V0} (N : Nat) (L : Nat → List (Option V0)) (S : Nat → GG) (hs : ∀ i, i < N → E2 ε J pc (L (i + 1)) st (S (i + 1)) Q → E2 ε J pc (L i) st (S i) Q) (he : ∀ M, M = N → E2 ε J pc (L M) st (S M) Q) : E2 ε J pc (L 0) st (S 0) Q := by
  have h : ∀ k i, i + k = N → E2 ε J pc (L i) st (S i) Q := by
    intro k
    induction k with
    | zero =>
      intro i hi
      exact he i (by omega)
    | succ k ih =>
      intro i hi
      exact hs i (by omega) (ih (i + 1) (by omega))
  exact h N 0 (by omega)
/-- fewer known locals -/
def e_sub : List (Option V0) → List (Option V0) → Prop
  | [], [] => True
  | none :: a, _ :: b => e_sub a b
  | some v :: a, some w :: b => v = w ∧ e_sub a b
  | _, _ => False
theorem e_sub_at : ∀ (a b : List (Option V0)), e_sub a b → ∀ (k : Nat) (v : V0), a[k]? = some (some v) → b[k]? = some (some v)
  | [], [], _, k, v, h => by simp at h
  | none :: a, w :: b, hs, k, v, h => by
    cases k with
    | zero => simp at h
    | succ k => simpa using e_sub_at a b hs k v (by simpa using h)
  | some u :: a, some w :: b, hs, k, v, h => by
    cases k with
    | zero =>
      simp at h ⊢
      exact hs.1 ▸ h
    | succ k => simpa using e_sub_at a b hs.2 k v (by simpa using h)
theorem e2_drop {ls' : List (Option V0)} (h : e_sub ls' ls) (k : E2 ε J pc ls' st G Q) : E2 ε J pc ls st G Q := by
  intro hT p e R s m args below meth c H locs lsA C hP hD hS hl
  refine k hT p e R s m args below meth c H locs lsA C hP hD hS ⟨hl.1, hl.2.1, fun q hq => ?_⟩
  obtain ⟨j, v, h1, h2, h3⟩ := (e_ll_mem ε ls' 0 q).1 hq
  exact hl.2.2 q ((e_ll_mem ε ls 0 q).2 ⟨j, v, h1, e_sub_at _ _ h j v h2, h3⟩)
theorem e2_dropK {ls' : List (Option V0)} (k : E2 ε J pc ls' st G Q) (h : e_sub ls' ls) : E2 ε J pc ls st G Q := e2_drop h k
def sumI (f : Nat → Int32) : Nat → Int32
  | 0 => nI 0
  | n + 1 => sumI f n + f n
def lastB (p : Nat → Bool) : Nat → Int32
  | 0 => -9
  | n + 1 => if p n then nI n else lastB p n
def bestF (f : Nat → Int32) : Nat → Int32 × Int32
  | 0 => (-9, nI 0)
  | n + 1 => if (bestF f n).2 < f n then (nI n, f n) else bestF f n
def firstFrom (p : Nat → Bool) : Nat → Nat → Int32
  | 0, _ => -9
  | k + 1, w => if p w then nI w else firstFrom p k (w + 1)
def rngr (r : Nat → Int32) (a b : Nat) (w : Int32) : Nat → Int32 := fun j => if a ≤ j ∧ j < b then w else r j
theorem rngr_0 (r : Nat → Int32) (a : Nat) (w : Int32) : rngr r a a w = r := by
  funext j
  simp only [rngr]
  rw [if_neg (by omega)]
theorem rngr_s (r : Nat → Int32) (a k : Nat) (w : Int32) : rngr r a (a + (k + 1)) w = upd (rngr r a (a + k) w) (a + k) w := by
  funext j
  simp only [rngr, upd]
  by_cases h : j = a + k
  · rw [if_pos (by omega), if_pos h]
  · rw [if_neg h]
    by_cases h2 : a ≤ j ∧ j < a + k
    · rw [if_pos (by omega), if_pos h2]
    · rw [if_neg (by omega), if_neg h2]
end Pb0
section Pc0
variable {ε : EE} {J : JT} {pc : Nat} {ls : List (Option V0)} {st : List V0} {G : GG} {r t o x : Nat → Int32} {Q : Option Int32 → GG → Prop}
/-- lists stand last element first: y behind the elements that may stay before it -/
def insR (gt : Nat → Nat → Bool) : List Nat → Nat → List Nat
  | [], y => [y]
  | a :: t, y => if gt a y then a :: insR gt t y else y :: a :: t
def revD : List Nat → Nat → Nat
  | [], _ => 0
  | a :: t, j => if j = t.length then a else revD t j
def layR (gt : Nat → Nat → Bool) (p : Nat → Bool) : Nat → List Nat
  | 0 => []
  | n + 1 => if p n then insR gt (layR gt p n) n else layR gt p n
def ordA (R : List Nat) (o : Nat → Int32) : Nat → Int32 := fun j => if j < R.length then nI (revD R j) else o j
theorem insR_len (gt : Nat → Nat → Bool) : ∀ (R : List Nat) (y : Nat), (insR gt R y).length = R.length + 1
  | [], y => rfl
  | a :: t, y => by
    unfold insR
    split
    · rw [List.length_cons, insR_len gt t y, List.length_cons]
    · rfl
theorem insR_mem (gt : Nat → Nat → Bool) : ∀ (R : List Nat) (y z : Nat), z ∈ insR gt R y ↔ z = y ∨ z ∈ R
  | [], y, z => by simp [insR]
  | a :: t, y, z => by
    unfold insR
    split
    · rw [List.mem_cons, insR_mem gt t y z, List.mem_cons]
      constructor
      · rintro (h | h | h)
        · exact Or.inr (Or.inl h)
        · exact Or.inl h
        · exact Or.inr (Or.inr h)
      · rintro (h | h | h)
        · exact Or.inr (Or.inl h)
        · exact Or.inl h
        · exact Or.inr (Or.inr h)
    · simp
theorem layR_mem (gt : Nat → Nat → Bool) (p : Nat → Bool) : ∀ (n z : Nat), z ∈ layR gt p n ↔ z < n ∧ p z = true
  | 0, z => by simp [layR]
  | n + 1, z => by
    unfold layR
    split
    · rename_i h
      rw [insR_mem, layR_mem gt p n z]
      constructor
      · rintro (rfl | ⟨h1, h2⟩)
        · exact ⟨by omega, h⟩
        · exact ⟨by omega, h2⟩
      · rintro ⟨h1, h2⟩
        by_cases hz : z = n
        · exact Or.inl hz
        · exact Or.inr ⟨by omega, h2⟩
    · rename_i h
      rw [layR_mem gt p n z]
      constructor
      · rintro ⟨h1, h2⟩
        exact ⟨by omega, h2⟩
      · rintro ⟨h1, h2⟩
        have hz : z ≠ n := fun e => h (e ▸ h2)
        exact ⟨by omega, h2⟩
theorem layR_len (gt : Nat → Nat → Bool) (p : Nat → Bool) : ∀ (n : Nat), (layR gt p n).length = cntB p n
  | 0 => rfl
  | n + 1 => by
    unfold layR cntB
    split
    · rw [insR_len, layR_len gt p n]
    · rw [layR_len gt p n]
      rfl
theorem revD_mem : ∀ (R : List Nat) (j : Nat), j < R.length → revD R j ∈ R
  | [], j, h => by simp at h
  | a :: t, j, h => by
    unfold revD
    split
    · exact List.mem_cons_self
    · exact List.mem_cons_of_mem _ (revD_mem t j (by rw [List.length_cons] at h; omega))
/-- what the inner loop of an insertion leaves -/
def insOk (gt : Nat → Nat → Bool) (R : List Nat) (y : Nat) (o o' : Nat → Int32) : Prop := (∀ j, j < R.length + 1 → o' j = nI (revD (insR gt R y) j)) ∧ ∀ j, R.length < j → o' j = o j
theorem insOk_nil (gt : Nat → Nat → Bool) (y : Nat) (o : Nat → Int32) : insOk gt [] y o (upd o 0 (nI y)) := by
  refine ⟨fun j hj => ?_, fun j hj => ?_⟩
  · have : j = 0 := by simp at hj; omega
    subst this
    simp [upd, insR, revD]
  · simp at hj
    simp [upd, show j ≠ 0 by omega]
theorem insOk_stop {gt : Nat → Nat → Bool} {a y : Nat} {t : List Nat} {o : Nat → Int32} (h : gt a y = false) (ho : ∀ j, j < t.length + 1 → o j = nI (revD (a :: t) j)) : insOk gt (a :: t) y o (upd o (t.length + 1) (nI y)) := by
  refine ⟨fun j hj => ?_, fun j hj => ?_⟩
  · rw [List.length_cons] at hj
    simp only [insR, h, Bool.false_eq_true, if_false, upd]
    by_cases hj2 : j = t.length + 1
    · rw [if_pos hj2]
      simp [revD, hj2]
    · rw [if_neg hj2, ho j (by omega)]
      have : ¬ j = (a :: t).length := by rw [List.length_cons]; exact hj2
      conv => rhs; unfold revD
      rw [if_neg this]
  · rw [List.length_cons] at hj
    simp [upd, show j ≠ t.length + 1 by omega]
theorem insOk_go {gt : Nat → Nat → Bool} {a y : Nat} {t : List Nat} {o o' : Nat → Int32} (h : gt a y = true) (hk : insOk gt t y (upd o (t.length + 1) (nI a)) o') : insOk gt (a :: t) y o o' := by
  refine ⟨fun j hj => ?_, fun j hj => ?_⟩
  · rw [List.length_cons] at hj
    simp only [insR, h, if_true]
    unfold revD
    rw [insR_len]
    by_cases hj2 : j = t.length + 1
    · rw [if_pos hj2, hk.2 j (by omega)]
      simp [upd, hj2]
    · rw [if_neg hj2]
      exact hk.1 j (by omega)
  · rw [List.length_cons] at hj
    rw [hk.2 j (by omega)]
    simp [upd, show j ≠ t.length + 1 by omega]
theorem insOk_ord {gt : Nat → Nat → Bool} {R : List Nat} {y : Nat} {o o' : Nat → Int32} (hk : insOk gt R y (ordA R o) o') : o' = ordA (insR gt R y) o := by
  funext j
  simp only [ordA, insR_len]
  by_cases h : j < R.length + 1
  · rw [if_pos h]
    exact hk.1 j h
  · rw [if_neg h, hk.2 j (by omega)]
    simp [ordA, show ¬ j < R.length by omega]
theorem ordA_at {R : List Nat} {o : Nat → Int32} {j : Nat} (h : j < R.length) : ordA R o j = nI (revD R j) := by
  simp [ordA, h]
theorem ordA_nil (o : Nat → Int32) : ordA [] o = o := by
  funext j
  simp [ordA]
end Pc0
section Pd0
variable {ε : EE} {J : JT} {pc : Nat} {ls : List (Option V0)} {st : List V0} {G : GG} {r t o x : Nat → Int32} {Q : Option Int32 → GG → Prop}
theorem lastB_c (p : Nat → Bool) : ∀ n, lastB p n = -9 ∨ ∃ k, k < n ∧ lastB p n = nI k ∧ p k = true
  | 0 => Or.inl rfl
  | n + 1 => by
    unfold lastB
    split
    · rename_i h
      exact Or.inr ⟨n, by omega, rfl, h⟩
    · rcases lastB_c p n with h | ⟨k, h1, h2, h3⟩
      · exact Or.inl h
      · exact Or.inr ⟨k, by omega, h2, h3⟩
theorem nI_n9 {k : Nat} (h : k < 2 ^ 31) : ¬ nI k = -9 := by
  intro z
  have h1 := nI_toInt h
  rw [z] at h1
  have h2 : (-9 : Int32).toInt = -9 := by decide
  omega
end Pd0
section Pe0
variable {ε : EE} {J : JT} {pc : Nat} {ls : List (Option V0)} {st : List V0} {G : GG} {r t o x : Nat → Int32} {Q : Option Int32 → GG → Prop}
theorem firstFrom_c (p : Nat → Bool) : ∀ k w, firstFrom p k w = -9 ∨ ∃ j, w ≤ j ∧ j < w + k ∧ firstFrom p k w = nI j ∧ p j = true
  | 0, w => Or.inl rfl
  | k + 1, w => by
    unfold firstFrom
    split
    · rename_i h
      exact Or.inr ⟨w, by omega, by omega, rfl, h⟩
    · rcases firstFrom_c p k (w + 1) with h | ⟨j, h1, h2, h3, h4⟩
      · exact Or.inl h
      · exact Or.inr ⟨j, by omega, by omega, h3, h4⟩
end Pe0
section Pf0
variable {ε : EE} {J : JT} {pc : Nat} {ls : List (Option V0)} {st : List V0} {G : GG} {t f u w x : Nat → Int32} {Q : Option Int32 → GG → Prop}
theorem e_post {mc ms cells slots : Nat} {ws : va_W} {Q Q' : Option Int32 → va_W → Prop} (h : ∀ v ws, Q v ws → Q' v ws) (k : E ε J mc ms cells slots pc ls st ws Q) : E ε J mc ms cells slots pc ls st ws Q' := by
  intro hT p e R s m args below meth c H locs lsA C hP hD hS hl T hTH X
  obtain ⟨t, a1, o, b1, b2, b3, b4⟩ := k hT p e R s m args below meth c H locs lsA C hP hD hS hl T hTH X
  refine ⟨t, a1, o, b1, b2, ?_, b4⟩
  cases hj : jr J with
  | none =>
    rw [e_Qc_none hj] at b3 ⊢
    obtain ⟨⟨u, c1, c2, c3⟩, c4⟩ := b3
    exact ⟨⟨u, c1, h _ _ c2, c3⟩, c4⟩
  | some ty =>
    rw [e_Qc_some hj] at b3 ⊢
    obtain ⟨⟨r, u, c1, c2, c3⟩, c4⟩ := b3
    exact ⟨⟨r, u, c1, h _ _ c2, c3⟩, c4⟩
theorem e2_post {Q Q' : Option Int32 → GG → Prop} (h : ∀ v G, Q v G → Q' v G) (k : E2 ε J pc ls st G Q) : E2 ε J pc ls st G Q' := e_post (fun v ws z => by
  obtain ⟨G', e, q⟩ := z
  exact ⟨G', e, h v G' q⟩) k
theorem C2.post {As : List V0} {Q Q' : Option Int32 → GG → Prop} (h : ∀ v G, Q v G → Q' v G) (k : C2 ε J As G Q) : C2 ε J As G Q' := by
  unfold C2 e_Ct Met at k ⊢
  refine MetFree.mono k (fun _ _ z => z) (fun _ _ _ _ _ z => z) (fun a s o s' _ z => ⟨?_, z.2⟩)
  have b3 := z.1
  cases hj : jr J with
  | none =>
    rw [e_Qc_none hj] at b3 ⊢
    obtain ⟨⟨u, c1, ⟨G', e, q⟩, c3⟩, c4⟩ := b3
    exact ⟨⟨u, c1, ⟨G', e, h _ _ q⟩, c3⟩, c4⟩
  | some ty =>
    rw [e_Qc_some hj] at b3 ⊢
    obtain ⟨⟨r, u, c1, ⟨G', e, q⟩, c3⟩, c4⟩ := b3
    exact ⟨⟨r, u, c1, ⟨G', e, h _ _ q⟩, c3⟩, c4⟩
end Pf0
end
section
/-! The class's office i as numbers V (V kk = its part kk), with the line (s letters o): cG; rules over it; Line and Letters. -/
section NA
variable {ε : EE} {J : JT} {pc : Nat} {ls : List (Option V0)} {st : List V0} {G : GG} {i : Nat} {V V' : Nat → Nat → Int32} {s s' : Int32} {o o' : Nat → Int32} {Q : Option Int32 → GG → Prop}
abbrev VV : Type := Nat → Nat → Int32
def cG (G : GG) (i : Nat) (V : VV) (s : Int32) (o : Nat → Int32) : GG := fun i' kk => if i' = i ∧ kk < 18 then V kk else if i' = 0 ∧ kk = 40 then upd (G 0 40) 1 s else if i' = 0 ∧ kk = 41 then o else G i' kk
def sv (V : VV) (kk : Nat) (g : Nat → Int32) : VV := fun kk' => if kk' = kk then g else V kk'
def wv (V : VV) (kk j : Nat) (x : Int32) : VV := sv V kk (upd (V kk) j x)
theorem cG_at {kk : Nat} (h : kk < 18) : cG G i V s o i kk = V kk := by simp [cG, h]
theorem cG_40 : cG G i V s o 0 40 = upd (G 0 40) 1 s := by simp [cG]
theorem cG_41 : cG G i V s o 0 41 = o := by simp [cG]
theorem cG_o {i' kk : Nat} (h : i' ≠ i ∨ 18 ≤ kk) (h2 : kk ≠ 40) (h3 : kk ≠ 41) : cG G i V s o i' kk = G i' kk := by
  unfold cG
  rw [if_neg (by omega), if_neg (by omega), if_neg (by omega)]
theorem cG_set {kk : Nat} (h : kk < 18) (g : Nat → Int32) : setA (cG G i V s o) i kk g = cG G i (sv V kk g) s o := by
  funext a b
  simp only [setA, cG, sv]
  by_cases h1 : a = i ∧ b = kk
  · rw [if_pos h1, if_pos (by omega), if_pos h1.2]
  · rw [if_neg h1]
    by_cases h2 : a = i ∧ b < 18
    · rw [if_pos h2, if_pos h2, if_neg (by omega)]
    · rw [if_neg h2, if_neg h2]
theorem cG_set40 (x : Int32) : setA (cG G i V s o) 0 40 (upd (upd (G 0 40) 1 s) 1 x) = cG G i V x o := by
  funext a b
  simp only [setA, cG]
  by_cases h1 : a = 0 ∧ b = 40
  · rw [if_pos h1, if_neg (by omega), if_pos h1]
    funext j
    simp only [upd]
    split <;> rfl
  · rw [if_neg h1]
    by_cases h2 : a = i ∧ b < 18
    · rw [if_pos h2, if_pos h2]
    · rw [if_neg h2, if_neg h2, if_neg h1, if_neg h1]
theorem cG_set41 (g : Nat → Int32) : setA (cG G i V s o) 0 41 g = cG G i V s g := by
  funext a b
  simp only [setA, cG]
  by_cases h1 : a = 0 ∧ b = 41
  · rw [if_pos h1, if_neg (by omega), if_neg (by omega), if_pos h1]
  · rw [if_neg h1]
    by_cases h2 : a = i ∧ b < 18
    · rw [if_pos h2, if_pos h2]
    · rw [if_neg h2, if_neg h2]
      by_cases h3 : a = 0 ∧ b = 40
      · rw [if_pos h3, if_pos h3]
      · rw [if_neg h3, if_neg h3, if_neg h1, if_neg h1]
theorem cG_self (G : GG) (i : Nat) : cG G i (G i) (G 0 40 1) (G 0 41) = G := by
  funext a b
  simp only [cG]
  by_cases h2 : a = i ∧ b < 18
  · rw [if_pos h2, h2.1]
  · rw [if_neg h2]
    by_cases h3 : a = 0 ∧ b = 40
    · rw [if_pos h3, h3.1, h3.2]
      funext j
      simp only [upd]
      split
      · rename_i h; rw [h]
      · rfl
    · rw [if_neg h3]
      by_cases h4 : a = 0 ∧ b = 41
      · rw [if_pos h4, h4.1, h4.2]
      · rw [if_neg h4]
theorem lim18 {kk : Nat} (hi : i < 19) (hk : Nat.blt kk 18 = true) : i < lim kk ∧ kk < 18 := by
  have h : kk < 18 := by
    have h0 := hk
    simp [Nat.blt] at h0
    omega
  refine ⟨?_, h⟩
  unfold lim
  rw [if_pos h]
  exact hi
theorem e2c_get {kf t nx idx kk : Nat} {v : Int32} {fs : List V0} {w : V0} (hi : i < 19) (hk : Nat.blt kk 18 = true) (h : lk (jt J) pc = (30, kf, t, v, nx, idx)) (ho : objV i kk (V kk) = some (t, fs)) (hw : fs[kf]? = some w) (k : E2 ε J nx ls (w :: st) (cG G i V s o) Q) : E2 ε J pc ls (.inr (i, kk) :: st) (cG G i V s o) Q :=
  e2_get h (lim18 hi hk).1 (by rw [cG_at (lim18 hi hk).2]; exact ho) hw k
theorem e2c_getS {kf t nx idx kk : Nat} {v : Int32} {fs : List V0} {w : V0} (stop : Nat) (_ : Nat.beq pc stop = false) (hi : i < 19) (hk : Nat.blt kk 18 = true) (h : lk (jt J) pc = (30, kf, t, v, nx, idx)) (ho : objV i kk (V kk) = some (t, fs)) (hw : fs[kf]? = some w) (k : E2 ε J nx ls (w :: st) (cG G i V s o) Q) : E2 ε J pc ls (.inr (i, kk) :: st) (cG G i V s o) Q := e2c_get hi hk h ho hw k
theorem e2c_lget {kf nx idx : Nat} {v : Int32} {w : V0} (h : lk (jt J) pc = (30, kf, 3, v, nx, idx)) (hw : ([.inr (0, 41), .inl s] : List V0)[kf]? = some w) (k : E2 ε J nx ls (w :: st) (cG G i V s o) Q) : E2 ε J pc ls (.inr (0, 40) :: st) (cG G i V s o) Q :=
  e2_get (fs := [.inr (0, 41), .inl s]) h (by decide) (by rw [cG_40]; rfl) hw k
theorem e2c_lgetS {kf nx idx : Nat} {v : Int32} {w : V0} (stop : Nat) (_ : Nat.beq pc stop = false) (h : lk (jt J) pc = (30, kf, 3, v, nx, idx)) (hw : ([.inr (0, 41), .inl s] : List V0)[kf]? = some w) (k : E2 ε J nx ls (w :: st) (cG G i V s o) Q) : E2 ε J pc ls (.inr (0, 40) :: st) (cG G i V s o) Q := e2c_lget h hw k
theorem e2c_iald {a b nx idx kk n : Nat} {v x : Int32} (j : Nat) (hi : i < 19) (hk : Nat.blt kk 18 = true) (h : lk (jt J) pc = (32, a, b, v, nx, idx)) (hx : x = nI j) (ha : arrI kk = some (0, n)) (hj : j < n) (k : E2 ε J nx ls (.inl (V kk j) :: st) (cG G i V s o) Q) : E2 ε J pc ls (.inl x :: .inr (i, kk) :: st) (cG G i V s o) Q :=
  e2_iald j h hx (lim18 hi hk).1 ha hj (by rw [cG_at (lim18 hi hk).2]; exact k)
theorem e2c_ialdS {a b nx idx kk n : Nat} {v x : Int32} (stop : Nat) (_ : Nat.beq pc stop = false) (j : Nat) (hi : i < 19) (hk : Nat.blt kk 18 = true) (h : lk (jt J) pc = (32, a, b, v, nx, idx)) (hx : x = nI j) (ha : arrI kk = some (0, n)) (hj : j < n) (k : E2 ε J nx ls (.inl (V kk j) :: st) (cG G i V s o) Q) : E2 ε J pc ls (.inl x :: .inr (i, kk) :: st) (cG G i V s o) Q := e2c_iald j hi hk h hx ha hj k
theorem e2c_zald {a b nx idx kk n : Nat} {v x : Int32} (j : Nat) (hi : i < 19) (hk : Nat.blt kk 18 = true) (h : lk (jt J) pc = (33, a, b, v, nx, idx)) (hx : x = nI j) (ha : arrI kk = some (1, n)) (hj : j < n) (k : E2 ε J nx ls (.inl (V kk j) :: st) (cG G i V s o) Q) : E2 ε J pc ls (.inl x :: .inr (i, kk) :: st) (cG G i V s o) Q :=
  e2_zald j h hx (lim18 hi hk).1 ha hj (by rw [cG_at (lim18 hi hk).2]; exact k)
theorem e2c_lald {a b nx idx : Nat} {v x : Int32} (j : Nat) (h : lk (jt J) pc = (32, a, b, v, nx, idx)) (hx : x = nI j) (hj : j < 120) (k : E2 ε J nx ls (.inl (o j) :: st) (cG G i V s o) Q) : E2 ε J pc ls (.inl x :: .inr (0, 41) :: st) (cG G i V s o) Q :=
  e2_iald j h hx (by decide) rfl hj (by rw [cG_41]; exact k)
theorem e2c_iast {a b nx idx kk n : Nat} {v x y : Int32} (j : Nat) (hi : i < 19) (hk : Nat.blt kk 18 = true) (h : lk (jt J) pc = (36, a, b, v, nx, idx)) (hx : x = nI j) (ha : arrI kk = some (0, n)) (hj : j < n) (k : E2 ε J nx ls st (cG G i (wv V kk j y) s o) Q) : E2 ε J pc ls (.inl y :: .inl x :: .inr (i, kk) :: st) (cG G i V s o) Q :=
  e2_iast j h hx (lim18 hi hk).1 ha hj (by
    show E2 ε J nx ls st (setA _ i kk (upd (cG G i V s o i kk) j y)) Q
    rw [cG_at (lim18 hi hk).2, cG_set (lim18 hi hk).2]
    exact k)
theorem e2c_zast {a b nx idx kk n : Nat} {v x y : Int32} (j : Nat) (hi : i < 19) (hk : Nat.blt kk 18 = true) (h : lk (jt J) pc = (37, a, b, v, nx, idx)) (hx : x = nI j) (ha : arrI kk = some (1, n)) (hj : j < n) (hy : y = 0 ∨ y = 1) (k : E2 ε J nx ls st (cG G i (wv V kk j y) s o) Q) : E2 ε J pc ls (.inl y :: .inl x :: .inr (i, kk) :: st) (cG G i V s o) Q :=
  e2_zast j h hx (lim18 hi hk).1 ha hj hy (by
    show E2 ε J nx ls st (setA _ i kk (upd (cG G i V s o i kk) j y)) Q
    rw [cG_at (lim18 hi hk).2, cG_set (lim18 hi hk).2]
    exact k)
theorem e2c_last {a b nx idx : Nat} {v x y : Int32} (j : Nat) (h : lk (jt J) pc = (36, a, b, v, nx, idx)) (hx : x = nI j) (hj : j < 120) (k : E2 ε J nx ls st (cG G i V s (upd o j y)) Q) : E2 ε J pc ls (.inl y :: .inl x :: .inr (0, 41) :: st) (cG G i V s o) Q :=
  e2_iast j h hx (by decide) rfl hj (by
    show E2 ε J nx ls st (setA _ 0 41 (upd (cG G i V s o 0 41) j y)) Q
    rw [cG_41, cG_set41]
    exact k)
theorem e2c_put {kf t nx idx kk : Nat} {v x : Int32} {fs : List V0} (hi : i < 19) (hk : Nat.blt kk 18 = true) (h : lk (jt J) pc = (31, kf, t, v, nx, idx)) (ho : objV i kk (V kk) = some (t, fs)) (ho2 : objV i kk (upd (V kk) kf x) = some (t, fs.set kf (.inl x))) (hfin : (tbC t kf).2.2.2 = false) (hty : tyC t kf = .int) (hl0 : Nat.ble (kf + 1) fs.length = true) (k : E2 ε J nx ls st (cG G i (wv V kk kf x) s o) Q) : E2 ε J pc ls (.inl x :: .inr (i, kk) :: st) (cG G i V s o) Q :=
  e2_put h (lim18 hi hk).1 (by rw [cG_at (lim18 hi hk).2]; exact ho) (by rw [cG_at (lim18 hi hk).2]; exact ho2) hfin hty hl0 (by
    show E2 ε J nx ls st (setA _ i kk (upd (cG G i V s o i kk) kf x)) Q
    rw [cG_at (lim18 hi hk).2, cG_set (lim18 hi hk).2]
    exact k)
theorem e2c_lput {nx idx : Nat} {v x : Int32} (h : lk (jt J) pc = (31, 1, 3, v, nx, idx)) (k : E2 ε J nx ls st (cG G i V x o) Q) : E2 ε J pc ls (.inl x :: .inr (0, 40) :: st) (cG G i V s o) Q :=
  e2_put (fs := [.inr (0, 41), .inl s]) h (by decide) (by rw [cG_40]; rfl) (by rw [cG_40]; rfl) rfl rfl rfl (by
    show E2 ε J nx ls st (setA _ 0 40 (upd (cG G i V s o 0 40) 1 x)) Q
    rw [cG_40, cG_set40]
    exact k)
/-- a method of a part of office i -/
def FC (ε : EE) (J : JT) (As : List V0) (G : GG) (i : Nat) (V : VV) (s : Int32) (o : Nat → Int32) (v : Option Int32) (V' : VV) (s' : Int32) (o' : Nat → Int32) : Prop := F2 ε J As (cG G i V s o) v (cG G i V' s' o')
theorem e2c_fi {J' : JT} {n idx nx kk ci : Nat} {v r : Int32} {As rest : List V0} {fs : List V0} {ty : FieldType} (hC : FC ε J' (.inr (i, kk) :: As) G i V s o (some r) V' s' o') (hst : st = As.reverse ++ .inr (i, kk) :: rest) (h : lk (jt J) pc = (44, n, jn J', v, nx, idx)) (hT : e_fit J J') (hr : jr J' = some ty) (hn : As.length = n) (hrest : Nat.ble rest.length 8 = true) (hi : i < 19) (hk : Nat.blt kk 18 = true) (ho : objV i kk (V kk) = some (ci, fs)) (hci : Nat.ble ci 8 = true) (hcn : nmC ci = (jy J').cls)
    (k : E2 ε J nx ls (.inl r :: rest) (cG G i V' s' o') Q) : E2 ε J pc ls st (cG G i V s o) Q := e2_fi hC hst h hT hr hn hrest (lim18 hi hk).1 (by rw [cG_at (lim18 hi hk).2]; exact ho) hci hcn k
theorem e2c_fv {J' : JT} {n idx nx kk ci : Nat} {v : Int32} {As rest : List V0} {fs : List V0} (hC : FC ε J' (.inr (i, kk) :: As) G i V s o none V' s' o') (hst : st = As.reverse ++ .inr (i, kk) :: rest) (h : lk (jt J) pc = (44, n, jn J', v, nx, idx)) (hT : e_fit J J') (hr : jr J' = none) (hn : As.length = n) (hrest : Nat.ble rest.length 8 = true) (hi : i < 19) (hk : Nat.blt kk 18 = true) (ho : objV i kk (V kk) = some (ci, fs)) (hci : Nat.ble ci 8 = true) (hcn : nmC ci = (jy J').cls)
    (k : E2 ε J nx ls rest (cG G i V' s' o') Q) : E2 ε J pc ls st (cG G i V s o) Q := e2_fv hC hst h hT hr hn hrest (lim18 hi hk).1 (by rw [cG_at (lim18 hi hk).2]; exact ho) hci hcn k
theorem e2c_lfi {J' : JT} {n idx nx : Nat} {v r : Int32} {As rest : List V0} {ty : FieldType} (hC : FC ε J' (.inr (0, 40) :: As) G i V s o (some r) V' s' o') (hst : st = As.reverse ++ .inr (0, 40) :: rest) (h : lk (jt J) pc = (44, n, jn J', v, nx, idx)) (hT : e_fit J J') (hr : jr J' = some ty) (hn : As.length = n) (hrest : Nat.ble rest.length 8 = true) (hcn : nmC 3 = (jy J').cls)
    (k : E2 ε J nx ls (.inl r :: rest) (cG G i V' s' o') Q) : E2 ε J pc ls st (cG G i V s o) Q := e2_fi (fs := [.inr (0, 41), .inl s]) hC hst h hT hr hn hrest (by decide) (by rw [cG_40]; rfl) (by decide) hcn k
theorem e2c_lfv {J' : JT} {n idx nx : Nat} {v : Int32} {As rest : List V0} (hC : FC ε J' (.inr (0, 40) :: As) G i V s o none V' s' o') (hst : st = As.reverse ++ .inr (0, 40) :: rest) (h : lk (jt J) pc = (44, n, jn J', v, nx, idx)) (hT : e_fit J J') (hr : jr J' = none) (hn : As.length = n) (hrest : Nat.ble rest.length 8 = true) (hcn : nmC 3 = (jy J').cls)
    (k : E2 ε J nx ls rest (cG G i V' s' o') Q) : E2 ε J pc ls st (cG G i V s o) Q := e2_fv (fs := [.inr (0, 41), .inl s]) hC hst h hT hr hn hrest (by decide) (by rw [cG_40]; rfl) (by decide) hcn k
-- Line
theorem l_addLast {n : Nat} (hn : n < 120) (y : Int32) : FC ε jX3_addLast [.inr (0, 40), .inl y] G i V (nI n) o none V (nI (n + 1)) (upd o n y) := by
  refine C2.of (ls := [some (.inr (0, 40)), some (.inl y)]) okX3_addLast rfl rfl ?_
  repeat (first | refine e2_step rfl rfl ?_ | refine e2c_lget rfl rfl ?_)
  refine e2_alen (n := 120) rfl (by decide) rfl (by decide) ?_
  refine e2_if rfl rfl (fun c => absurd c (nI_ge hn (by decide))) (fun _ => ?_)
  repeat (first | refine e2_step rfl rfl ?_ | refine e2c_lget rfl rfl ?_)
  refine e2c_last n rfl rfl hn ?_
  repeat (first | refine e2_step rfl rfl ?_ | refine e2c_lget rfl rfl ?_)
  rw [nI_add']
  refine e2c_lput rfl ?_
  exact e2_vret rfl rfl ⟨rfl, rfl⟩
theorem l_swap {n k : Nat} (hn : n ≤ 120) (hk : k + 1 < n) : FC ε jX3_swapWithPrevious [.inr (0, 40), .inl (nI (k + 1))] G i V (nI n) o none V (nI n) (upd (upd o (k + 1) (o k)) k (o (k + 1))) := by
  refine C2.of (ls := [some (.inr (0, 40)), some (.inl (nI (k + 1))), none]) okX3_swapWithPrevious rfl rfl ?_
  repeat (first | refine e2_step rfl rfl ?_ | refine e2c_lget rfl rfl ?_)
  refine e2_if rfl rfl (fun c => absurd c (nI_nle (by omega) (by omega))) (fun _ => ?_)
  repeat (first | refine e2_step rfl rfl ?_ | refine e2c_lget rfl rfl ?_)
  refine e2_if rfl rfl (fun c => absurd c (nI_ge hk (by omega))) (fun _ => ?_)
  repeat (first | refine e2_step rfl rfl ?_ | refine e2c_lget rfl rfl ?_)
  refine e2c_lald (k + 1) rfl rfl (by omega) ?_
  repeat (first | refine e2_step rfl rfl ?_ | refine e2c_lget rfl rfl ?_)
  refine e2c_lald k rfl (by rw [pk_sub (by omega), Nat.add_sub_cancel]) (by omega) ?_
  refine e2c_last (k + 1) rfl rfl (by omega) ?_
  repeat (first | refine e2_step rfl rfl ?_ | refine e2c_lget rfl rfl ?_)
  refine e2c_last k rfl (by rw [pk_sub (by omega), Nat.add_sub_cancel]) (by omega) ?_
  exact e2_vret rfl rfl ⟨rfl, rfl⟩
def atV (V : VV) (p k : Int32) (l : Nat) : Bool := decide (V 7 l = p) && decide (V 8 l = k)
theorem l_letterAt {n j : Nat} (hn : n ≤ 120) (hj : j < 2 ^ 31) : FC ε jX3_letterAt [.inr (0, 40), .inl (nI j)] G i V (nI n) o (some (if n ≤ j then -9 else o j)) V (nI n) o := by
  refine C2.of (ls := [some (.inr (0, 40)), some (.inl (nI j))]) okX3_letterAt rfl rfl ?_
  repeat (first | refine e2_step rfl rfl ?_ | refine e2c_lget rfl rfl ?_)
  refine e2_if rfl rfl (fun z => absurd z (nI_pos hj)) (fun _ => ?_)
  repeat (first | refine e2_step rfl rfl ?_ | refine e2c_lget rfl rfl ?_)
  refine e2_if rfl rfl (fun z => ?_) (fun z => ?_)
  · rw [nI_leI (by omega) hj] at z
    rw [if_pos z]
    repeat (first | refine e2_step rfl rfl ?_ | refine e2c_lget rfl rfl ?_)
    exact e2_iret rfl rfl ⟨rfl, rfl⟩
  · rw [nI_leI (by omega) hj] at z
    rw [if_neg z]
    repeat (first | refine e2_step rfl rfl ?_ | refine e2c_lget rfl rfl ?_)
    refine e2c_lald j rfl rfl (by omega) ?_
    repeat (first | refine e2_step rfl rfl ?_ | refine e2c_lget rfl rfl ?_)
    exact e2_iret rfl rfl ⟨rfl, rfl⟩
theorem v_has {N l : Nat} (hi : i < 19) (hN : N ≤ 120) (hc : V 3 8 = nI N) (hl : l < N) : FC ε jX2_has [.inr (i, 3), .inl (nI l)] G i V s o (some (nI 1)) V s o := by
  refine C2.of (ls := [some (.inr (i, 3)), some (.inl (nI l))]) okX2_has rfl rfl ?_
  repeat (first | refine e2_step rfl rfl ?_ | refine e2c_get hi rfl rfl rfl rfl ?_ | refine e2c_lget rfl rfl ?_ | refine e2c_iald _ hi rfl rfl rfl rfl (by omega) ?_ | refine e2c_lald _ rfl rfl (by omega) ?_)
  refine e2_if rfl rfl (fun c => absurd c (nI_pos (by omega))) (fun _ => ?_)
  repeat (first | refine e2_step rfl rfl ?_ | refine e2c_get hi rfl rfl rfl rfl ?_ | refine e2c_lget rfl rfl ?_ | refine e2c_iald _ hi rfl rfl rfl rfl (by omega) ?_ | refine e2c_lald _ rfl rfl (by omega) ?_)
  rw [hc]
  refine e2_if rfl rfl (fun c => absurd c (nI_ge hl (by omega))) (fun _ => ?_)
  repeat (first | refine e2_step rfl rfl ?_ | refine e2c_get hi rfl rfl rfl rfl ?_ | refine e2c_lget rfl rfl ?_ | refine e2c_iald _ hi rfl rfl rfl rfl (by omega) ?_ | refine e2c_lald _ rfl rfl (by omega) ?_)
  exact e2_zret rfl rfl rfl ⟨rfl, rfl⟩
theorem v_hasF {N : Nat} {x : Int32} (hi : i < 19) (hN : N ≤ 120) (hc : V 3 8 = nI N) (h : isInB x (nI 0) (nI N - nI 1) = false) : FC ε jX2_has [.inr (i, 3), .inl x] G i V s o (some (nI 0)) V s o := by
  refine C2.of (ls := [some (.inr (i, 3)), some (.inl x)]) okX2_has rfl rfl ?_
  repeat (first | refine e2_step rfl rfl ?_ | refine e2c_get hi rfl rfl rfl rfl ?_ | refine e2c_lget rfl rfl ?_ | refine e2c_iald _ hi rfl rfl rfl rfl (by omega) ?_ | refine e2c_lald _ rfl rfl (by omega) ?_)
  refine e2_if rfl rfl (fun c => ?_) (fun c => ?_)
  · repeat (first | refine e2_step rfl rfl ?_ | refine e2c_get hi rfl rfl rfl rfl ?_ | refine e2c_lget rfl rfl ?_ | refine e2c_iald _ hi rfl rfl rfl rfl (by omega) ?_ | refine e2c_lald _ rfl rfl (by omega) ?_)
    exact e2_zret rfl rfl rfl ⟨rfl, rfl⟩
  · repeat (first | refine e2_step rfl rfl ?_ | refine e2c_get hi rfl rfl rfl rfl ?_ | refine e2c_lget rfl rfl ?_ | refine e2c_iald _ hi rfl rfl rfl rfl (by omega) ?_ | refine e2c_lald _ rfl rfl (by omega) ?_)
    rw [hc]
    refine e2_if rfl rfl (fun c2 => ?_) (fun c2 => ?_)
    · repeat (first | refine e2_step rfl rfl ?_ | refine e2c_get hi rfl rfl rfl rfl ?_ | refine e2c_lget rfl rfl ?_ | refine e2c_iald _ hi rfl rfl rfl rfl (by omega) ?_ | refine e2c_lald _ rfl rfl (by omega) ?_)
      exact e2_zret rfl rfl rfl ⟨rfl, rfl⟩
    · exfalso
      cases N with
      | zero => exact c2 (Int32.not_lt.1 c)
      | succ k =>
        rw [pk_sub (by omega), Nat.add_sub_cancel, isIn_mid (by omega) c c2] at h
        cases h
theorem v_isAt {N l : Nat} (hi : i < 19) (hN : N ≤ 120) (hc : V 3 8 = nI N) (hl : l < N) (p k : Int32) : FC ε jX2_isAt [.inr (i, 3), .inl (nI l), .inl p, .inl k] G i V s o (some (bI (atV V p k l))) V s o := by
  refine C2.of (ls := [some (.inr (i, 3)), some (.inl (nI l)), some (.inl p), some (.inl k)]) okX2_isAt rfl rfl ?_
  repeat (first | refine e2_step rfl rfl ?_ | refine e2c_get hi rfl rfl rfl rfl ?_ | refine e2c_lget rfl rfl ?_ | refine e2c_iald _ hi rfl rfl rfl rfl (by omega) ?_ | refine e2c_lald _ rfl rfl (by omega) ?_)
  refine e2c_fi (v_has hi hN hc hl) rfl rfl ⟨rfl, rfl, rfl⟩ rfl rfl rfl hi rfl rfl rfl rfl ?_
  refine e2_if rfl rfl (fun z => absurd z (by decide)) (fun _ => ?_)
  repeat (first | refine e2_step rfl rfl ?_ | refine e2c_get hi rfl rfl rfl rfl ?_ | refine e2c_lget rfl rfl ?_ | refine e2c_iald _ hi rfl rfl rfl rfl (by omega) ?_ | refine e2c_lald _ rfl rfl (by omega) ?_)
  refine e2_if rfl rfl (fun c => ?_) (fun c => ?_)
  · have e : atV V p k l = false := by unfold atV; rw [decide_eq_false c, Bool.false_and]
    rw [e]
    repeat (first | refine e2_step rfl rfl ?_ | refine e2c_get hi rfl rfl rfl rfl ?_ | refine e2c_lget rfl rfl ?_ | refine e2c_iald _ hi rfl rfl rfl rfl (by omega) ?_ | refine e2c_lald _ rfl rfl (by omega) ?_)
    exact e2_zret rfl rfl rfl ⟨rfl, rfl⟩
  · repeat (first | refine e2_step rfl rfl ?_ | refine e2c_get hi rfl rfl rfl rfl ?_ | refine e2c_lget rfl rfl ?_ | refine e2c_iald _ hi rfl rfl rfl rfl (by omega) ?_ | refine e2c_lald _ rfl rfl (by omega) ?_)
    refine e2_if rfl rfl (fun c2 => ?_) (fun c2 => ?_)
    · have e : atV V p k l = false := by unfold atV; rw [decide_eq_false c2, Bool.and_false]
      rw [e]
      repeat (first | refine e2_step rfl rfl ?_ | refine e2c_get hi rfl rfl rfl rfl ?_ | refine e2c_lget rfl rfl ?_ | refine e2c_iald _ hi rfl rfl rfl rfl (by omega) ?_ | refine e2c_lald _ rfl rfl (by omega) ?_)
      exact e2_zret rfl rfl rfl ⟨rfl, rfl⟩
    · have e : atV V p k l = true := by unfold atV; rw [decide_eq_true (Classical.not_not.1 c), decide_eq_true (Classical.not_not.1 c2)]; rfl
      rw [e]
      repeat (first | refine e2_step rfl rfl ?_ | refine e2c_get hi rfl rfl rfl rfl ?_ | refine e2c_lget rfl rfl ?_ | refine e2c_iald _ hi rfl rfl rfl rfl (by omega) ?_ | refine e2c_lald _ rfl rfl (by omega) ?_)
      exact e2_zret rfl rfl rfl ⟨rfl, rfl⟩
theorem v_isFirst {N l : Nat} (hi : i < 19) (hN : N ≤ 120) (hc : V 3 8 = nI N) (hl : l < N) : FC ε jX2_isFirstClass [.inr (i, 3), .inl (nI l)] G i V s o (some (bI (decide (V 5 l = nI 1)))) V s o := by
  refine C2.of (ls := [some (.inr (i, 3)), some (.inl (nI l))]) okX2_isFirstClass rfl rfl ?_
  repeat (first | refine e2_step rfl rfl ?_ | refine e2c_get hi rfl rfl rfl rfl ?_ | refine e2c_lget rfl rfl ?_ | refine e2c_iald _ hi rfl rfl rfl rfl (by omega) ?_ | refine e2c_lald _ rfl rfl (by omega) ?_)
  refine e2c_fi (v_has hi hN hc hl) rfl rfl ⟨rfl, rfl, rfl⟩ rfl rfl rfl hi rfl rfl rfl rfl ?_
  refine e2_if rfl rfl (fun z => absurd z (by decide)) (fun _ => ?_)
  repeat (first | refine e2_step rfl rfl ?_ | refine e2c_get hi rfl rfl rfl rfl ?_ | refine e2c_lget rfl rfl ?_ | refine e2c_iald _ hi rfl rfl rfl rfl (by omega) ?_ | refine e2c_lald _ rfl rfl (by omega) ?_)
  refine e2_if rfl rfl (fun c => ?_) (fun c => ?_)
  · rw [decide_eq_false c]
    repeat (first | refine e2_step rfl rfl ?_ | refine e2c_get hi rfl rfl rfl rfl ?_ | refine e2c_lget rfl rfl ?_ | refine e2c_iald _ hi rfl rfl rfl rfl (by omega) ?_ | refine e2c_lald _ rfl rfl (by omega) ?_)
    exact e2_zret rfl rfl rfl ⟨rfl, rfl⟩
  · rw [decide_eq_true (Classical.not_not.1 c)]
    repeat (first | refine e2_step rfl rfl ?_ | refine e2c_get hi rfl rfl rfl rfl ?_ | refine e2c_lget rfl rfl ?_ | refine e2c_iald _ hi rfl rfl rfl rfl (by omega) ?_ | refine e2c_lald _ rfl rfl (by omega) ?_)
    exact e2_zret rfl rfl rfl ⟨rfl, rfl⟩
theorem v_countIn {N : Nat} (hi : i < 19) (hN : N ≤ 120) (hc : V 3 8 = nI N) (p : Int32) : FC ε jX2_countIn [.inr (i, 3), .inl p] G i V s o (some (nI (cntB (fun l => decide (V 7 l = p)) N))) V s o := by
  have h := c_countIn (ε := ε) (G := cG G i V s o) hi hN (by rw [cG_at (by decide)]; exact hc) p
  rw [cG_at (by decide)] at h
  exact h
def dnV (V : VV) (l : Nat) : VV := if V 7 l = nI 1 then wv V 11 (V 8 l).toNatClampNeg (V 11 (V 8 l).toNatClampNeg - nI 1) else V
def upV (V : VV) (p k : Int32) : VV := if p = nI 1 then wv V 11 k.toNatClampNeg (V 11 k.toNatClampNeg + nI 1) else V
def moveV (V : VV) (l : Nat) (p k : Int32) : VV := upV (wv (wv (dnV V l) 7 l p) 8 l k) p k
theorem v_moveTo {N l : Nat} (hi : i < 19) (hN : N ≤ 120) (hc : V 3 8 = nI N) (hl : l < N) (p k : Int32) (h1 : V 7 l = nI 1 → ∃ w, w < 8 ∧ V 8 l = nI w) (h2 : p = nI 1 → ∃ w, w < 8 ∧ k = nI w) : FC ε jX2_moveTo [.inr (i, 3), .inl (nI l), .inl p, .inl k] G i V s o none (moveV V l p k) s o := by
  refine C2.of (ls := [some (.inr (i, 3)), some (.inl (nI l)), some (.inl p), some (.inl k)]) okX2_moveTo rfl rfl ?_
  repeat (first | refine e2_step rfl rfl ?_ | refine e2c_get hi rfl rfl rfl rfl ?_ | refine e2c_lget rfl rfl ?_ | refine e2c_iald _ hi rfl rfl rfl rfl (by omega) ?_ | refine e2c_lald _ rfl rfl (by omega) ?_)
  refine e2c_fi (v_has hi hN hc hl) rfl rfl ⟨rfl, rfl, rfl⟩ rfl rfl rfl hi rfl rfl rfl rfl ?_
  refine e2_if rfl rfl (fun _ => ?_) (fun z => absurd (by decide) z)
  repeat (first | refine e2_step rfl rfl ?_ | refine e2c_get hi rfl rfl rfl rfl ?_ | refine e2c_lget rfl rfl ?_ | refine e2c_iald _ hi rfl rfl rfl rfl (by omega) ?_ | refine e2c_lald _ rfl rfl (by omega) ?_)
  have hrest : ∀ V1 : VV, V1 = dnV V l → E2 ε jX2_moveTo 46 [some (.inr (i, 3)), some (.inl (nI l)), some (.inl p), some (.inl k)] [] (cG G i V1 s o) (fun v' G' => v' = none ∧ G' = cG G i (moveV V l p k) s o) := by
    intro V1 hV1
    repeat (first | refine e2_step rfl rfl ?_ | refine e2c_get hi rfl rfl rfl rfl ?_ | refine e2c_lget rfl rfl ?_ | refine e2c_iald _ hi rfl rfl rfl rfl (by omega) ?_ | refine e2c_lald _ rfl rfl (by omega) ?_)
    refine e2c_iast l hi rfl rfl rfl rfl (by omega) ?_
    repeat (first | refine e2_step rfl rfl ?_ | refine e2c_get hi rfl rfl rfl rfl ?_ | refine e2c_lget rfl rfl ?_ | refine e2c_iald _ hi rfl rfl rfl rfl (by omega) ?_ | refine e2c_lald _ rfl rfl (by omega) ?_)
    refine e2c_iast l hi rfl rfl rfl rfl (by omega) ?_
    repeat (first | refine e2_step rfl rfl ?_ | refine e2c_get hi rfl rfl rfl rfl ?_ | refine e2c_lget rfl rfl ?_ | refine e2c_iald _ hi rfl rfl rfl rfl (by omega) ?_ | refine e2c_lald _ rfl rfl (by omega) ?_)
    unfold moveV upV
    rw [← hV1]
    refine e2_if rfl rfl (fun c => ?_) (fun c => ?_)
    · rw [if_neg c]
      exact e2_vret rfl rfl ⟨rfl, rfl⟩
    · have c := Classical.not_not.1 c
      obtain ⟨w, hw, hk⟩ := h2 c
      rw [if_pos c, hk, nI_clamp (by omega)]
      repeat (first | refine e2_step rfl rfl ?_ | refine e2c_get hi rfl rfl rfl rfl ?_ | refine e2c_lget rfl rfl ?_ | refine e2c_iald _ hi rfl rfl rfl rfl (by omega) ?_ | refine e2c_lald _ rfl rfl (by omega) ?_)
      refine e2_fs (c_isWalkT hw) rfl rfl ⟨rfl, rfl, rfl⟩ rfl rfl rfl ?_
      refine e2_if rfl rfl (fun z => absurd z (by decide)) (fun _ => ?_)
      repeat (first | refine e2_step rfl rfl ?_ | refine e2c_get hi rfl rfl rfl rfl ?_ | refine e2c_lget rfl rfl ?_ | refine e2c_iald _ hi rfl rfl rfl rfl (by omega) ?_ | refine e2c_lald _ rfl rfl (by omega) ?_)
      refine e2c_iast w hi rfl rfl rfl rfl hw ?_
      exact e2_vret rfl rfl ⟨rfl, rfl⟩
  refine e2_if rfl rfl (fun c => ?_) (fun c => ?_)
  · exact hrest V (by unfold dnV; rw [if_neg c])
  · have c := Classical.not_not.1 c
    obtain ⟨w, hw, hk⟩ := h1 c
    repeat (first | refine e2_step rfl rfl ?_ | refine e2c_get hi rfl rfl rfl rfl ?_ | refine e2c_lget rfl rfl ?_ | refine e2c_iald _ hi rfl rfl rfl rfl (by omega) ?_ | refine e2c_lald _ rfl rfl (by omega) ?_)
    rw [hk]
    refine e2_fs (c_isWalkT hw) rfl rfl ⟨rfl, rfl, rfl⟩ rfl rfl rfl ?_
    refine e2_if rfl rfl (fun z => absurd z (by decide)) (fun _ => ?_)
    repeat (first | refine e2_step rfl rfl ?_ | refine e2c_get hi rfl rfl rfl rfl ?_ | refine e2c_lget rfl rfl ?_ | refine e2c_iald _ hi rfl rfl rfl rfl (by omega) ?_ | refine e2c_lald _ rfl rfl (by omega) ?_)
    refine e2c_iald w hi rfl rfl hk rfl hw ?_
    repeat (first | refine e2_step rfl rfl ?_ | refine e2c_get hi rfl rfl rfl rfl ?_ | refine e2c_lget rfl rfl ?_ | refine e2c_iald _ hi rfl rfl rfl rfl (by omega) ?_ | refine e2c_lald _ rfl rfl (by omega) ?_)
    refine e2c_iast w hi rfl rfl hk rfl hw ?_
    exact hrest _ (by unfold dnV; rw [if_pos c, hk, nI_clamp (by omega)])
end NA
end
section
/-! Letters of office i. -/
section NB
variable {ε : EE} {J : JT} {pc : Nat} {ls : List (Option V0)} {st : List V0} {G : GG} {i : Nat} {V : VV} {s : Int32} {o : Nat → Int32} {Q : Option Int32 → GG → Prop}
def finV (V : VV) (l : Nat) (p h : Int32) : VV := wv (moveV V l p (-9)) 10 l h
theorem v_finish {N l : Nat} (hi : i < 19) (hN : N ≤ 120) (hc : V 3 8 = nI N) (hl : l < N) (p h : Int32) (h1 : V 7 l = nI 1 → ∃ w, w < 8 ∧ V 8 l = nI w) (h2 : ¬ p = nI 1) : FC ε jX2_finish [.inr (i, 3), .inl (nI l), .inl p, .inl h] G i V s o none (finV V l p h) s o := by
  refine C2.of (ls := [some (.inr (i, 3)), some (.inl (nI l)), some (.inl p), some (.inl h)]) okX2_finish rfl rfl ?_
  repeat (first | refine e2_step rfl rfl ?_ | refine e2c_get hi rfl rfl rfl rfl ?_ | refine e2c_lget rfl rfl ?_ | refine e2c_iald _ hi rfl rfl rfl rfl (by omega) ?_ | refine e2c_lald _ rfl rfl (by omega) ?_)
  refine e2c_fi (v_has hi hN hc hl) rfl rfl ⟨rfl, rfl, rfl⟩ rfl rfl rfl hi rfl rfl rfl rfl ?_
  refine e2_if rfl rfl (fun z => absurd z (by decide)) (fun _ => ?_)
  repeat (first | refine e2_step rfl rfl ?_ | refine e2c_get hi rfl rfl rfl rfl ?_ | refine e2c_lget rfl rfl ?_ | refine e2c_iald _ hi rfl rfl rfl rfl (by omega) ?_ | refine e2c_lald _ rfl rfl (by omega) ?_)
  refine e2c_fv (v_moveTo hi hN hc hl p (-9) h1 (fun z => absurd z h2)) rfl rfl ⟨rfl, rfl, rfl⟩ rfl rfl rfl hi rfl rfl rfl rfl ?_
  repeat (first | refine e2_step rfl rfl ?_ | refine e2c_get hi rfl rfl rfl rfl ?_ | refine e2c_lget rfl rfl ?_ | refine e2c_iald _ hi rfl rfl rfl rfl (by omega) ?_ | refine e2c_lald _ rfl rfl (by omega) ?_)
  refine e2c_iast l hi rfl rfl rfl rfl (by omega) ?_
  exact e2_vret rfl rfl ⟨rfl, rfl⟩
def ovV (V : VV) : Nat → VV
  | 0 => V
  | n + 1 => if ovV V n 7 n = nI 2 then moveV (ovV V n) n (nI 0) (-9) else ovV V n
theorem moveV_o {l : Nat} {p k : Int32} {kk : Nat} (h7 : kk ≠ 7) (h8 : kk ≠ 8) (h11 : kk ≠ 11) : moveV V l p k kk = V kk := by
  unfold moveV upV dnV wv sv
  repeat' split
  all_goals simp_all
theorem ovV_o {kk : Nat} (h7 : kk ≠ 7) (h8 : kk ≠ 8) (h11 : kk ≠ 11) : ∀ n, ovV V n kk = V kk
  | 0 => rfl
  | n + 1 => by
    unfold ovV
    split
    · rw [moveV_o h7 h8 h11, ovV_o h7 h8 h11 n]
    · exact ovV_o h7 h8 h11 n
theorem n21 : ¬ nI 2 = nI 1 := by decide
theorem n01 : ¬ nI 0 = nI 1 := by decide
theorem v_emptyOverflow {N : Nat} (hi : i < 19) (hN : N ≤ 120) (hc : V 3 8 = nI N) : FC ε jX2_emptyOverflow [.inr (i, 3)] G i V s o none (ovV V N) s o := by
  refine C2.of (ls := [some (.inr (i, 3)), none]) okX2_emptyOverflow rfl rfl ?_
  repeat (first | refine e2_stepS 2 rfl rfl rfl ?_ | refine e2c_getS 2 rfl hi rfl rfl rfl rfl ?_ | refine e2c_lgetS 2 rfl rfl rfl ?_ | refine e2c_ialdS 2 rfl _ hi rfl rfl rfl rfl (by omega) ?_)
  refine e2_for N (fun l => [some (.inr (i, 3)), some (.inl (nI l))]) (fun l => cG G i (ovV V l) s o) (fun l hl K => ?_) (fun M hM => ?_)
  · repeat (first | refine e2_step rfl rfl ?_ | refine e2c_get hi rfl rfl rfl rfl ?_ | refine e2c_lget rfl rfl ?_ | refine e2c_iald _ hi rfl rfl rfl rfl (by omega) ?_ | refine e2c_lald _ rfl rfl (by omega) ?_)
    rw [ovV_o (by decide) (by decide) (by decide), hc]
    refine e2_if rfl rfl (fun c => absurd c (nI_ge hl (by omega))) (fun _ => ?_)
    repeat (first | refine e2_step rfl rfl ?_ | refine e2c_get hi rfl rfl rfl rfl ?_ | refine e2c_lget rfl rfl ?_ | refine e2c_iald _ hi rfl rfl rfl rfl (by omega) ?_ | refine e2c_lald _ rfl rfl (by omega) ?_)
    simp only [ovV] at K
    refine e2_if rfl rfl (fun c => ?_) (fun c => ?_)
    · rw [if_neg c] at K
      repeat (first | refine e2_stepS 2 rfl rfl rfl ?_ | refine e2c_getS 2 rfl hi rfl rfl rfl rfl ?_ | refine e2c_lgetS 2 rfl rfl rfl ?_ | refine e2c_ialdS 2 rfl _ hi rfl rfl rfl rfl (by omega) ?_)
      rw [nI_add']
      exact K
    · have c := Classical.not_not.1 c
      rw [if_pos c] at K
      repeat (first | refine e2_step rfl rfl ?_ | refine e2c_get hi rfl rfl rfl rfl ?_ | refine e2c_lget rfl rfl ?_ | refine e2c_iald _ hi rfl rfl rfl rfl (by omega) ?_ | refine e2c_lald _ rfl rfl (by omega) ?_)
      refine e2c_fv (v_moveTo hi hN (by rw [ovV_o (by decide) (by decide) (by decide)]; exact hc) hl (nI 0) (-9) (fun z => absurd (c.symm.trans z) n21) (fun z => absurd z n01)) rfl rfl ⟨rfl, rfl, rfl⟩ rfl rfl rfl hi rfl rfl rfl rfl ?_
      repeat (first | refine e2_stepS 2 rfl rfl rfl ?_ | refine e2c_getS 2 rfl hi rfl rfl rfl rfl ?_ | refine e2c_lgetS 2 rfl rfl rfl ?_ | refine e2c_ialdS 2 rfl _ hi rfl rfl rfl rfl (by omega) ?_)
      rw [nI_add']
      exact K
  · repeat (first | refine e2_step rfl rfl ?_ | refine e2c_get hi rfl rfl rfl rfl ?_ | refine e2c_lget rfl rfl ?_ | refine e2c_iald _ hi rfl rfl rfl rfl (by omega) ?_ | refine e2c_lald _ rfl rfl (by omega) ?_)
    rw [ovV_o (by decide) (by decide) (by decide), hc]
    refine e2_if rfl rfl (fun _ => ?_) (fun c => absurd (by rw [hM]; exact Int32.le_refl _) c)
    exact e2_vret rfl rfl ⟨rfl, by rw [hM]⟩
theorem v_countInHand {N : Nat} (hi : i < 19) (hN : N ≤ 120) (hc : V 3 8 = nI N) (k : Int32) : FC ε jX2_countInHand [.inr (i, 3), .inl k] G i V s o (some (nI (cntB (atV V (nI 3) k) N))) V s o := by
  refine C2.of (ls := [some (.inr (i, 3)), some (.inl k), none, none]) okX2_countInHand rfl rfl ?_
  repeat (first | refine e2_stepS 4 rfl rfl rfl ?_ | refine e2c_getS 4 rfl hi rfl rfl rfl rfl ?_ | refine e2c_lgetS 4 rfl rfl rfl ?_ | refine e2c_ialdS 4 rfl _ hi rfl rfl rfl rfl (by omega) ?_)
  refine e2_for N (fun l => [some (.inr (i, 3)), some (.inl k), some (.inl (nI (cntB (atV V (nI 3) k) l))), some (.inl (nI l))]) (fun l => cG G i V s o) (fun l hl K => ?_) (fun M hM => ?_)
  · repeat (first | refine e2_step rfl rfl ?_ | refine e2c_get hi rfl rfl rfl rfl ?_ | refine e2c_lget rfl rfl ?_ | refine e2c_iald _ hi rfl rfl rfl rfl (by omega) ?_ | refine e2c_lald _ rfl rfl (by omega) ?_)
    rw [hc]
    refine e2_if rfl rfl (fun c => absurd c (nI_ge hl (by omega))) (fun _ => ?_)
    repeat (first | refine e2_step rfl rfl ?_ | refine e2c_get hi rfl rfl rfl rfl ?_ | refine e2c_lget rfl rfl ?_ | refine e2c_iald _ hi rfl rfl rfl rfl (by omega) ?_ | refine e2c_lald _ rfl rfl (by omega) ?_)
    refine e2c_fi (v_isAt hi hN hc hl (nI 3) k) rfl rfl ⟨rfl, rfl, rfl⟩ rfl rfl rfl hi rfl rfl rfl rfl ?_
    simp only [cntB] at K
    refine e2_if rfl rfl (fun c => ?_) (fun c => ?_)
    · rw [bI_0] at c
      rw [c] at K
      repeat (first | refine e2_stepS 4 rfl rfl rfl ?_ | refine e2c_getS 4 rfl hi rfl rfl rfl rfl ?_ | refine e2c_lgetS 4 rfl rfl rfl ?_ | refine e2c_ialdS 4 rfl _ hi rfl rfl rfl rfl (by omega) ?_)
      rw [nI_add']
      exact K
    · rw [bI_0, Bool.not_eq_false] at c
      rw [c] at K
      repeat (first | refine e2_stepS 4 rfl rfl rfl ?_ | refine e2c_getS 4 rfl hi rfl rfl rfl rfl ?_ | refine e2c_lgetS 4 rfl rfl rfl ?_ | refine e2c_ialdS 4 rfl _ hi rfl rfl rfl rfl (by omega) ?_)
      rw [nI_add', nI_add']
      exact K
  · repeat (first | refine e2_step rfl rfl ?_ | refine e2c_get hi rfl rfl rfl rfl ?_ | refine e2c_lget rfl rfl ?_ | refine e2c_iald _ hi rfl rfl rfl rfl (by omega) ?_ | refine e2c_lald _ rfl rfl (by omega) ?_)
    rw [hc]
    refine e2_if rfl rfl (fun _ => ?_) (fun c => absurd (by rw [hM]; exact Int32.le_refl _) c)
    repeat (first | refine e2_step rfl rfl ?_ | refine e2c_get hi rfl rfl rfl rfl ?_ | refine e2c_lget rfl rfl ?_ | refine e2c_iald _ hi rfl rfl rfl rfl (by omega) ?_ | refine e2c_lald _ rfl rfl (by omega) ?_)
    exact e2_iret rfl rfl ⟨by rw [hM], rfl⟩
theorem v_countFirstClass {N : Nat} (hi : i < 19) (hN : N ≤ 120) (hc : V 3 8 = nI N) (k : Int32) : FC ε jX2_countFirstClass [.inr (i, 3), .inl k] G i V s o (some (nI (cntB (fun l => atV V (nI 1) k l && decide (V 5 l = nI 1)) N))) V s o := by
  refine C2.of (ls := [some (.inr (i, 3)), some (.inl k), none, none]) okX2_countFirstClass rfl rfl ?_
  repeat (first | refine e2_stepS 4 rfl rfl rfl ?_ | refine e2c_getS 4 rfl hi rfl rfl rfl rfl ?_ | refine e2c_lgetS 4 rfl rfl rfl ?_ | refine e2c_ialdS 4 rfl _ hi rfl rfl rfl rfl (by omega) ?_)
  refine e2_for N (fun l => [some (.inr (i, 3)), some (.inl k), some (.inl (nI (cntB (fun l => atV V (nI 1) k l && decide (V 5 l = nI 1)) l))), some (.inl (nI l))]) (fun l => cG G i V s o) (fun l hl K => ?_) (fun M hM => ?_)
  · repeat (first | refine e2_step rfl rfl ?_ | refine e2c_get hi rfl rfl rfl rfl ?_ | refine e2c_lget rfl rfl ?_ | refine e2c_iald _ hi rfl rfl rfl rfl (by omega) ?_ | refine e2c_lald _ rfl rfl (by omega) ?_)
    rw [hc]
    refine e2_if rfl rfl (fun c => absurd c (nI_ge hl (by omega))) (fun _ => ?_)
    repeat (first | refine e2_step rfl rfl ?_ | refine e2c_get hi rfl rfl rfl rfl ?_ | refine e2c_lget rfl rfl ?_ | refine e2c_iald _ hi rfl rfl rfl rfl (by omega) ?_ | refine e2c_lald _ rfl rfl (by omega) ?_)
    refine e2c_fi (v_isAt hi hN hc hl (nI 1) k) rfl rfl ⟨rfl, rfl, rfl⟩ rfl rfl rfl hi rfl rfl rfl rfl ?_
    simp only [cntB] at K
    refine e2_if rfl rfl (fun c => ?_) (fun c => ?_)
    · rw [bI_0] at c
      simp only [c, Bool.false_and, Bool.false_eq_true, if_false] at K
      repeat (first | refine e2_stepS 4 rfl rfl rfl ?_ | refine e2c_getS 4 rfl hi rfl rfl rfl rfl ?_ | refine e2c_lgetS 4 rfl rfl rfl ?_ | refine e2c_ialdS 4 rfl _ hi rfl rfl rfl rfl (by omega) ?_)
      rw [nI_add']
      exact K
    · rw [bI_0, Bool.not_eq_false] at c
      repeat (first | refine e2_step rfl rfl ?_ | refine e2c_get hi rfl rfl rfl rfl ?_ | refine e2c_lget rfl rfl ?_ | refine e2c_iald _ hi rfl rfl rfl rfl (by omega) ?_ | refine e2c_lald _ rfl rfl (by omega) ?_)
      refine e2c_fi (v_isFirst hi hN hc hl) rfl rfl ⟨rfl, rfl, rfl⟩ rfl rfl rfl hi rfl rfl rfl rfl ?_
      refine e2_if rfl rfl (fun c2 => ?_) (fun c2 => ?_)
      · rw [bI_0, decide_eq_false_iff_not] at c2
        simp only [c, c2, decide_false, Bool.and_false, Bool.false_eq_true, if_false] at K
        repeat (first | refine e2_stepS 4 rfl rfl rfl ?_ | refine e2c_getS 4 rfl hi rfl rfl rfl rfl ?_ | refine e2c_lgetS 4 rfl rfl rfl ?_ | refine e2c_ialdS 4 rfl _ hi rfl rfl rfl rfl (by omega) ?_)
        rw [nI_add']
        exact K
      · rw [bI_0, decide_eq_false_iff_not, Classical.not_not] at c2
        simp only [c, c2, decide_true, Bool.and_true, if_true] at K
        repeat (first | refine e2_stepS 4 rfl rfl rfl ?_ | refine e2c_getS 4 rfl hi rfl rfl rfl rfl ?_ | refine e2c_lgetS 4 rfl rfl rfl ?_ | refine e2c_ialdS 4 rfl _ hi rfl rfl rfl rfl (by omega) ?_)
        rw [nI_add', nI_add']
        exact K
  · repeat (first | refine e2_step rfl rfl ?_ | refine e2c_get hi rfl rfl rfl rfl ?_ | refine e2c_lget rfl rfl ?_ | refine e2c_iald _ hi rfl rfl rfl rfl (by omega) ?_ | refine e2c_lald _ rfl rfl (by omega) ?_)
    rw [hc]
    refine e2_if rfl rfl (fun _ => ?_) (fun c => absurd (by rw [hM]; exact Int32.le_refl _) c)
    repeat (first | refine e2_step rfl rfl ?_ | refine e2c_get hi rfl rfl rfl rfl ?_ | refine e2c_lget rfl rfl ?_ | refine e2c_iald _ hi rfl rfl rfl rfl (by omega) ?_ | refine e2c_lald _ rfl rfl (by omega) ?_)
    exact e2_iret rfl rfl ⟨by rw [hM], rfl⟩
theorem v_countMisroutes {N : Nat} (hi : i < 19) (hN : N ≤ 120) (hc : V 3 8 = nI N) : FC ε jX2_countMisroutes [.inr (i, 3)] G i V s o (some (sumI (V 6) N)) V s o := by
  refine C2.of (ls := [some (.inr (i, 3)), none, none]) okX2_countMisroutes rfl rfl ?_
  repeat (first | refine e2_stepS 4 rfl rfl rfl ?_ | refine e2c_getS 4 rfl hi rfl rfl rfl rfl ?_ | refine e2c_lgetS 4 rfl rfl rfl ?_ | refine e2c_ialdS 4 rfl _ hi rfl rfl rfl rfl (by omega) ?_)
  refine e2_for N (fun l => [some (.inr (i, 3)), some (.inl (sumI (V 6) l)), some (.inl (nI l))]) (fun l => cG G i V s o) (fun l hl K => ?_) (fun M hM => ?_)
  · repeat (first | refine e2_step rfl rfl ?_ | refine e2c_get hi rfl rfl rfl rfl ?_ | refine e2c_lget rfl rfl ?_ | refine e2c_iald _ hi rfl rfl rfl rfl (by omega) ?_ | refine e2c_lald _ rfl rfl (by omega) ?_)
    rw [hc]
    refine e2_if rfl rfl (fun c => absurd c (nI_ge hl (by omega))) (fun _ => ?_)
    repeat (first | refine e2_stepS 4 rfl rfl rfl ?_ | refine e2c_getS 4 rfl hi rfl rfl rfl rfl ?_ | refine e2c_lgetS 4 rfl rfl rfl ?_ | refine e2c_ialdS 4 rfl _ hi rfl rfl rfl rfl (by omega) ?_)
    rw [nI_add']
    exact K
  · repeat (first | refine e2_step rfl rfl ?_ | refine e2c_get hi rfl rfl rfl rfl ?_ | refine e2c_lget rfl rfl ?_ | refine e2c_iald _ hi rfl rfl rfl rfl (by omega) ?_ | refine e2c_lald _ rfl rfl (by omega) ?_)
    rw [hc]
    refine e2_if rfl rfl (fun _ => ?_) (fun c => absurd (by rw [hM]; exact Int32.le_refl _) c)
    repeat (first | refine e2_step rfl rfl ?_ | refine e2c_get hi rfl rfl rfl rfl ?_ | refine e2c_lget rfl rfl ?_ | refine e2c_iald _ hi rfl rfl rfl rfl (by omega) ?_ | refine e2c_lald _ rfl rfl (by omega) ?_)
    exact e2_iret rfl rfl ⟨by rw [hM], rfl⟩
def secV (V : VV) (w : Int32) (l : Nat) : Bool := atV V (nI 1) w l && decide (V 5 l = 0)
-- the bag, by six passes
def passR (p : Nat → Bool) (R : List Nat) : Nat → List Nat
  | 0 => R
  | n + 1 => if p n then n :: passR p R n else passR p R n
theorem ordA_cons (R : List Nat) (y : Nat) (o : Nat → Int32) : upd (ordA R o) R.length (nI y) = ordA (y :: R) o := by
  funext j
  simp only [upd, ordA, List.length_cons, revD]
  by_cases h : j = R.length
  · rw [if_pos h, if_pos (by omega), if_pos h]
  · rw [if_neg h]
    by_cases h2 : j < R.length
    · rw [if_pos h2, if_pos (by omega), if_neg h]
    · rw [if_neg h2, if_neg (by omega)]
def bagP (V : VV) (c m : Int32) (l : Nat) : Bool := decide (V 7 l = 0) && (decide (V 5 l = c) && decide (V 6 l = m))
theorem v_addFromBag {N : Nat} (hi : i < 19) (hN : N ≤ 120) (hc : V 3 8 = nI N) (c m : Int32) (R : List Nat) (hR : (passR (bagP V c m) R N).length ≤ 120) : FC ε jX2_addFromBag [.inr (i, 3), .inl c, .inl m, .inr (0, 40)] G i V (nI R.length) (ordA R o) none V (nI (passR (bagP V c m) R N).length) (ordA (passR (bagP V c m) R N) o) := by
  have hmono : ∀ l, l ≤ N → (passR (bagP V c m) R l).length ≤ (passR (bagP V c m) R N).length := by
    intro l hl
    have : ∀ k, (passR (bagP V c m) R l).length ≤ (passR (bagP V c m) R (l + k)).length := by
      intro k
      induction k with
      | zero => exact Nat.le_refl _
      | succ k ih =>
        refine Nat.le_trans ih ?_
        show _ ≤ (if bagP V c m (l + k) then (l + k) :: passR (bagP V c m) R (l + k) else passR (bagP V c m) R (l + k)).length
        split
        · rw [List.length_cons]; omega
        · exact Nat.le_refl _
    have h2 := this (N - l)
    rwa [show l + (N - l) = N by omega] at h2
  refine C2.of (ls := [some (.inr (i, 3)), some (.inl c), some (.inl m), some (.inr (0, 40)), none]) okX2_addFromBag rfl rfl ?_
  repeat (first | refine e2_stepS 3 rfl rfl rfl ?_ | refine e2c_getS 3 rfl hi rfl rfl rfl rfl ?_ | refine e2c_lgetS 3 rfl rfl rfl ?_ | refine e2c_ialdS 3 rfl _ hi rfl rfl rfl rfl (by omega) ?_)
  refine e2_for N (fun l => [some (.inr (i, 3)), some (.inl c), some (.inl m), some (.inr (0, 40)), some (.inl (nI l))]) (fun l => cG G i V (nI (passR (bagP V c m) R l).length) (ordA (passR (bagP V c m) R l) o)) (fun l hl K => ?_) (fun M hM => ?_)
  · have hm1 := hmono (l + 1) (by omega)
    have hs : passR (bagP V c m) R (l + 1) = if bagP V c m l then l :: passR (bagP V c m) R l else passR (bagP V c m) R l := rfl
    rw [hs] at K hm1
    repeat (first | refine e2_step rfl rfl ?_ | refine e2c_get hi rfl rfl rfl rfl ?_ | refine e2c_lget rfl rfl ?_ | refine e2c_iald _ hi rfl rfl rfl rfl (by omega) ?_ | refine e2c_lald _ rfl rfl (by omega) ?_)
    rw [hc]
    refine e2_if rfl rfl (fun z => absurd z (nI_ge hl (by omega))) (fun _ => ?_)
    repeat (first | refine e2_step rfl rfl ?_ | refine e2c_get hi rfl rfl rfl rfl ?_ | refine e2c_lget rfl rfl ?_ | refine e2c_iald _ hi rfl rfl rfl rfl (by omega) ?_ | refine e2c_lald _ rfl rfl (by omega) ?_)
    refine e2_if rfl rfl (fun z => ?_) (fun z => ?_)
    · rw [if_neg (by unfold bagP; rw [decide_eq_false z]; simp)] at K
      repeat (first | refine e2_stepS 3 rfl rfl rfl ?_ | refine e2c_getS 3 rfl hi rfl rfl rfl rfl ?_ | refine e2c_lgetS 3 rfl rfl rfl ?_ | refine e2c_ialdS 3 rfl _ hi rfl rfl rfl rfl (by omega) ?_)
      rw [nI_add']
      exact K
    · have z := Classical.not_not.1 z
      repeat (first | refine e2_step rfl rfl ?_ | refine e2c_get hi rfl rfl rfl rfl ?_ | refine e2c_lget rfl rfl ?_ | refine e2c_iald _ hi rfl rfl rfl rfl (by omega) ?_ | refine e2c_lald _ rfl rfl (by omega) ?_)
      refine e2_if rfl rfl (fun z2 => ?_) (fun z2 => ?_)
      · rw [if_neg (by unfold bagP; rw [decide_eq_false z2]; simp)] at K
        repeat (first | refine e2_stepS 3 rfl rfl rfl ?_ | refine e2c_getS 3 rfl hi rfl rfl rfl rfl ?_ | refine e2c_lgetS 3 rfl rfl rfl ?_ | refine e2c_ialdS 3 rfl _ hi rfl rfl rfl rfl (by omega) ?_)
        rw [nI_add']
        exact K
      · have z2 := Classical.not_not.1 z2
        repeat (first | refine e2_step rfl rfl ?_ | refine e2c_get hi rfl rfl rfl rfl ?_ | refine e2c_lget rfl rfl ?_ | refine e2c_iald _ hi rfl rfl rfl rfl (by omega) ?_ | refine e2c_lald _ rfl rfl (by omega) ?_)
        refine e2_if rfl rfl (fun z3 => ?_) (fun z3 => ?_)
        · rw [if_neg (by unfold bagP; rw [decide_eq_false z3]; simp)] at K
          repeat (first | refine e2_stepS 3 rfl rfl rfl ?_ | refine e2c_getS 3 rfl hi rfl rfl rfl rfl ?_ | refine e2c_lgetS 3 rfl rfl rfl ?_ | refine e2c_ialdS 3 rfl _ hi rfl rfl rfl rfl (by omega) ?_)
          rw [nI_add']
          exact K
        · have z3 := Classical.not_not.1 z3
          have hb : bagP V c m l = true := by unfold bagP; rw [decide_eq_true z, decide_eq_true z2, decide_eq_true z3]; rfl
          rw [if_pos hb] at K hm1
          rw [List.length_cons] at hm1 K
          repeat (first | refine e2_step rfl rfl ?_ | refine e2c_get hi rfl rfl rfl rfl ?_ | refine e2c_lget rfl rfl ?_ | refine e2c_iald _ hi rfl rfl rfl rfl (by omega) ?_ | refine e2c_lald _ rfl rfl (by omega) ?_)
          refine e2c_lfv (l_addLast (n := (passR (bagP V c m) R l).length) (by omega) (nI l)) rfl rfl ⟨rfl, rfl, rfl⟩ rfl rfl rfl rfl ?_
          rw [ordA_cons]
          repeat (first | refine e2_stepS 3 rfl rfl rfl ?_ | refine e2c_getS 3 rfl hi rfl rfl rfl rfl ?_ | refine e2c_lgetS 3 rfl rfl rfl ?_ | refine e2c_ialdS 3 rfl _ hi rfl rfl rfl rfl (by omega) ?_)
          rw [nI_add']
          exact K
  · repeat (first | refine e2_step rfl rfl ?_ | refine e2c_get hi rfl rfl rfl rfl ?_ | refine e2c_lget rfl rfl ?_ | refine e2c_iald _ hi rfl rfl rfl rfl (by omega) ?_ | refine e2c_lald _ rfl rfl (by omega) ?_)
    rw [hc]
    refine e2_if rfl rfl (fun _ => ?_) (fun z => absurd (by rw [hM]; exact Int32.le_refl _) z)
    exact e2_vret rfl rfl ⟨rfl, by rw [hM]⟩
end NB
end
section
/-! Letters of office i: the bag's list and lists by codes. -/
section NC
variable {ε : EE} {G : GG} {i : Nat} {V : VV} {s : Int32} {o : Nat → Int32} {Q : Option Int32 → GG → Prop}
theorem passR_le (p : Nat → Bool) (R : List Nat) : ∀ n, R.length ≤ (passR p R n).length
  | 0 => Nat.le_refl _
  | n + 1 => by
    refine Nat.le_trans (passR_le p R n) ?_
    show _ ≤ (if p n then n :: passR p R n else passR p R n).length
    split
    · rw [List.length_cons]; omega
    · exact Nat.le_refl _
def bagC (V : VV) (N : Nat) (c : Int32) (R : List Nat) : List Nat := passR (bagP V c (nI 0)) (passR (bagP V c (nI 1)) (passR (bagP V c (nI 2)) R N) N) N
def bagVR (V : VV) (N : Nat) : List Nat := bagC V N (nI 0) (bagC V N (nI 1) [])
theorem bagC_le (N : Nat) (c : Int32) (R : List Nat) : R.length ≤ (bagC V N c R).length := Nat.le_trans (passR_le _ _ _) (Nat.le_trans (passR_le _ _ _) (passR_le _ _ _))
theorem v_bagIn {N : Nat} (hi : i < 19) (hN : N ≤ 120) (hc : V 3 8 = nI N) (c : Int32) (R : List Nat) (hR : (bagC V N c R).length ≤ 120) (K : E2 ε jX2_listBag 30 [some (.inr (i, 3)), some (.inr (0, 40)), some (.inl c), none] [] (cG G i V (nI (bagC V N c R).length) (ordA (bagC V N c R) o)) Q) : E2 ε jX2_listBag 11 [some (.inr (i, 3)), some (.inr (0, 40)), some (.inl c), none] [] (cG G i V (nI R.length) (ordA R o)) Q := by
  unfold bagC at hR K
  have h1 : (passR (bagP V c (nI 2)) R N).length ≤ 120 := Nat.le_trans (Nat.le_trans (passR_le _ _ _) (passR_le _ _ _)) hR
  have h2 : (passR (bagP V c (nI 1)) (passR (bagP V c (nI 2)) R N) N).length ≤ 120 := Nat.le_trans (passR_le _ _ _) hR
  repeat (first | refine e2_step rfl rfl ?_ | refine e2c_get hi rfl rfl rfl rfl ?_ | refine e2c_lget rfl rfl ?_ | refine e2c_iald _ hi rfl rfl rfl rfl (by omega) ?_ | refine e2c_lald _ rfl rfl (by omega) ?_)
  refine e2_if rfl rfl (fun z => absurd z (by decide)) (fun _ => ?_)
  repeat (first | refine e2_step rfl rfl ?_ | refine e2c_get hi rfl rfl rfl rfl ?_ | refine e2c_lget rfl rfl ?_ | refine e2c_iald _ hi rfl rfl rfl rfl (by omega) ?_ | refine e2c_lald _ rfl rfl (by omega) ?_)
  refine e2c_fv (v_addFromBag hi hN hc c (nI 2) R h1) rfl rfl ⟨rfl, rfl, rfl⟩ rfl rfl rfl hi rfl rfl rfl rfl ?_
  repeat (first | refine e2_step rfl rfl ?_ | refine e2c_get hi rfl rfl rfl rfl ?_ | refine e2c_lget rfl rfl ?_ | refine e2c_iald _ hi rfl rfl rfl rfl (by omega) ?_ | refine e2c_lald _ rfl rfl (by omega) ?_)
  refine e2_if rfl rfl (fun z => absurd z (by decide)) (fun _ => ?_)
  repeat (first | refine e2_step rfl rfl ?_ | refine e2c_get hi rfl rfl rfl rfl ?_ | refine e2c_lget rfl rfl ?_ | refine e2c_iald _ hi rfl rfl rfl rfl (by omega) ?_ | refine e2c_lald _ rfl rfl (by omega) ?_)
  rw [show nI 2 + -1 = nI 1 by decide]
  refine e2c_fv (v_addFromBag hi hN hc c (nI 1) _ h2) rfl rfl ⟨rfl, rfl, rfl⟩ rfl rfl rfl hi rfl rfl rfl rfl ?_
  repeat (first | refine e2_step rfl rfl ?_ | refine e2c_get hi rfl rfl rfl rfl ?_ | refine e2c_lget rfl rfl ?_ | refine e2c_iald _ hi rfl rfl rfl rfl (by omega) ?_ | refine e2c_lald _ rfl rfl (by omega) ?_)
  refine e2_if rfl rfl (fun z => absurd z (by decide)) (fun _ => ?_)
  repeat (first | refine e2_step rfl rfl ?_ | refine e2c_get hi rfl rfl rfl rfl ?_ | refine e2c_lget rfl rfl ?_ | refine e2c_iald _ hi rfl rfl rfl rfl (by omega) ?_ | refine e2c_lald _ rfl rfl (by omega) ?_)
  rw [show nI 1 + -1 = nI 0 by decide]
  refine e2c_fv (v_addFromBag hi hN hc c (nI 0) _ hR) rfl rfl ⟨rfl, rfl, rfl⟩ rfl rfl rfl hi rfl rfl rfl rfl ?_
  repeat (first | refine e2_step rfl rfl ?_ | refine e2c_get hi rfl rfl rfl rfl ?_ | refine e2c_lget rfl rfl ?_ | refine e2c_iald _ hi rfl rfl rfl rfl (by omega) ?_ | refine e2c_lald _ rfl rfl (by omega) ?_)
  refine e2_if rfl rfl (fun _ => ?_) (fun z => absurd (by decide) z)
  exact e2_dropK K ⟨rfl, rfl, rfl, trivial⟩
theorem v_listBag {N : Nat} (hi : i < 19) (hN : N ≤ 120) (hc : V 3 8 = nI N) (hR : (bagVR V N).length ≤ 120) : FC ε jX2_listBag [.inr (i, 3), .inr (0, 40)] G i V s o none V (nI (bagVR V N).length) (ordA (bagVR V N) o) := by
  refine C2.of (ls := [some (.inr (i, 3)), some (.inr (0, 40)), none, none]) okX2_listBag rfl rfl ?_
  repeat (first | refine e2_step rfl rfl ?_ | refine e2c_get hi rfl rfl rfl rfl ?_ | refine e2c_lget rfl rfl ?_ | refine e2c_iald _ hi rfl rfl rfl rfl (by omega) ?_ | refine e2c_lald _ rfl rfl (by omega) ?_)
  refine e2c_lput rfl ?_
  refine Eq.mp (congrArg (fun q => E2 ε jX2_listBag 5 _ [] (cG G i V (nI 0) q) _) (ordA_nil o)) ?_
  repeat (first | refine e2_step rfl rfl ?_ | refine e2c_get hi rfl rfl rfl rfl ?_ | refine e2c_lget rfl rfl ?_ | refine e2c_iald _ hi rfl rfl rfl rfl (by omega) ?_ | refine e2c_lald _ rfl rfl (by omega) ?_)
  refine e2_if rfl rfl (fun z => absurd z (by decide)) (fun _ => ?_)
  refine v_bagIn hi hN hc (nI 1) [] (Nat.le_trans (bagC_le N (nI 0) _) hR) ?_
  repeat (first | refine e2_step rfl rfl ?_ | refine e2c_get hi rfl rfl rfl rfl ?_ | refine e2c_lget rfl rfl ?_ | refine e2c_iald _ hi rfl rfl rfl rfl (by omega) ?_ | refine e2c_lald _ rfl rfl (by omega) ?_)
  refine e2_if rfl rfl (fun z => absurd z (by decide)) (fun _ => ?_)
  rw [show nI 1 + -1 = nI 0 by decide]
  refine v_bagIn hi hN hc (nI 0) _ hR ?_
  repeat (first | refine e2_step rfl rfl ?_ | refine e2c_get hi rfl rfl rfl rfl ?_ | refine e2c_lget rfl rfl ?_ | refine e2c_iald _ hi rfl rfl rfl rfl (by omega) ?_ | refine e2c_lald _ rfl rfl (by omega) ?_)
  refine e2_if rfl rfl (fun _ => ?_) (fun z => absurd (by decide) z)
  exact e2_vret rfl rfl ⟨rfl, rfl⟩
-- by codes
def gtV (V : VV) (a y : Nat) : Bool := decide (V 4 y < V 4 a)
theorem insOk_congr {gt : Nat → Nat → Bool} {R : List Nat} {y : Nat} {o1 o2 o' : Nat → Int32} (h : ∀ j, R.length < j → o1 j = o2 j) (hk : insOk gt R y o1 o') : insOk gt R y o2 o' := ⟨hk.1, fun j hj => (hk.2 j hj).trans (h j hj)⟩
theorem insOk_nil' (gt : Nat → Nat → Bool) {y : Nat} {o : Nat → Int32} (h : o 0 = nI y) : insOk gt [] y o o := ⟨fun j hj => by
  have : j = 0 := by simp at hj; omega
  subst this
  simpa [insR, revD] using h, fun _ _ => rfl⟩
theorem insOk_stay {gt : Nat → Nat → Bool} {a y : Nat} {t : List Nat} {o : Nat → Int32} (h : gt a y = false) (ho : ∀ j, j < t.length + 1 → o j = nI (revD (a :: t) j)) (hy : o (t.length + 1) = nI y) : insOk gt (a :: t) y o o := by
  have h1 := insOk_stop (o := o) h ho
  have h2 : upd o (t.length + 1) (nI y) = o := by
    funext j
    unfold upd
    split
    · rename_i hj; rw [hj, hy]
    · rfl
  rwa [h2] at h1
theorem v_hasGt {N a l : Nat} (hi : i < 19) (hN : N ≤ 120) (hc : V 3 8 = nI N) (ha : a < N) (hl : l < N) : FC ε jX2_hasGreaterCode [.inr (i, 3), .inl (nI a), .inl (nI l)] G i V s o (some (bI (gtV V a l))) V s o := by
  refine C2.of (ls := [some (.inr (i, 3)), some (.inl (nI a)), some (.inl (nI l))]) okX2_hasGreaterCode rfl rfl ?_
  repeat (first | refine e2_step rfl rfl ?_ | refine e2c_get hi rfl rfl rfl rfl ?_ | refine e2c_lget rfl rfl ?_ | refine e2c_iald _ hi rfl rfl rfl rfl (by omega) ?_ | refine e2c_lald _ rfl rfl (by omega) ?_)
  refine e2c_fi (v_has hi hN hc ha) rfl rfl ⟨rfl, rfl, rfl⟩ rfl rfl rfl hi rfl rfl rfl rfl ?_
  refine e2_if rfl rfl (fun z => absurd z (by decide)) (fun _ => ?_)
  repeat (first | refine e2_step rfl rfl ?_ | refine e2c_get hi rfl rfl rfl rfl ?_ | refine e2c_lget rfl rfl ?_ | refine e2c_iald _ hi rfl rfl rfl rfl (by omega) ?_ | refine e2c_lald _ rfl rfl (by omega) ?_)
  refine e2c_fi (v_has hi hN hc hl) rfl rfl ⟨rfl, rfl, rfl⟩ rfl rfl rfl hi rfl rfl rfl rfl ?_
  refine e2_if rfl rfl (fun z => absurd z (by decide)) (fun _ => ?_)
  repeat (first | refine e2_step rfl rfl ?_ | refine e2c_get hi rfl rfl rfl rfl ?_ | refine e2c_lget rfl rfl ?_ | refine e2c_iald _ hi rfl rfl rfl rfl (by omega) ?_ | refine e2c_lald _ rfl rfl (by omega) ?_)
  unfold gtV
  refine e2_if rfl rfl (fun c => ?_) (fun c => ?_)
  · rw [decide_eq_false (Int32.not_lt.2 c)]
    repeat (first | refine e2_step rfl rfl ?_ | refine e2c_get hi rfl rfl rfl rfl ?_ | refine e2c_lget rfl rfl ?_ | refine e2c_iald _ hi rfl rfl rfl rfl (by omega) ?_ | refine e2c_lald _ rfl rfl (by omega) ?_)
    exact e2_zret rfl rfl rfl ⟨rfl, rfl⟩
  · rw [decide_eq_true (Int32.not_le.1 c)]
    repeat (first | refine e2_step rfl rfl ?_ | refine e2c_get hi rfl rfl rfl rfl ?_ | refine e2c_lget rfl rfl ?_ | refine e2c_iald _ hi rfl rfl rfl rfl (by omega) ?_ | refine e2c_lald _ rfl rfl (by omega) ?_)
    exact e2_zret rfl rfl rfl ⟨rfl, rfl⟩
theorem v_ins1 {N l n : Nat} (hi : i < 19) (hN : N ≤ 120) (hc : V 3 8 = nI N) (hl : l < N) (hn : n ≤ 120) : ∀ (R : List Nat), (∀ a, a ∈ R → a < N) → R.length < n → ∀ (o : Nat → Int32), (∀ j, j < R.length → o j = nI (revD R j)) → o R.length = nI l →
    (∀ o', insOk (gtV V) R l o o' → E2 ε jX2_insertByCode 42 [some (.inr (i, 3)), some (.inl (nI l)), some (.inr (0, 40)), none] [] (cG G i V (nI n) o') Q) →
    E2 ε jX2_insertByCode 12 [some (.inr (i, 3)), some (.inl (nI l)), some (.inr (0, 40)), some (.inl (nI R.length))] [] (cG G i V (nI n) o) Q
  | [], hR, hlen, o, ho, hol, K => by
    repeat (first | refine e2_step rfl rfl ?_ | refine e2c_get hi rfl rfl rfl rfl ?_ | refine e2c_lget rfl rfl ?_ | refine e2c_iald _ hi rfl rfl rfl rfl (by omega) ?_ | refine e2c_lald _ rfl rfl (by omega) ?_)
    refine e2_if rfl rfl (fun _ => ?_) (fun c => absurd (Int32.le_refl _) c)
    exact e2_dropK (K o (insOk_nil' _ hol)) ⟨rfl, rfl, rfl, trivial⟩
  | a :: t', hR, hlen, o, ho, hol, K => by
    rw [List.length_cons] at hlen hol
    have ha : a < N := hR a List.mem_cons_self
    have hoa : o t'.length = nI a := by rw [ho _ (by rw [List.length_cons]; omega)]; simp [revD]
    have ho2 : ∀ j, j < t'.length + 1 → o j = nI (revD (a :: t') j) := fun j hj => ho j (by rw [List.length_cons]; exact hj)
    repeat (first | refine e2_step rfl rfl ?_ | refine e2c_get hi rfl rfl rfl rfl ?_ | refine e2c_lget rfl rfl ?_ | refine e2c_iald _ hi rfl rfl rfl rfl (by omega) ?_ | refine e2c_lald _ rfl rfl (by omega) ?_)
    refine e2_if rfl rfl (fun c => absurd c (nI_nle (by rw [List.length_cons]; omega) (by rw [List.length_cons]; omega))) (fun _ => ?_)
    repeat (first | refine e2_step rfl rfl ?_ | refine e2c_get hi rfl rfl rfl rfl ?_ | refine e2c_lget rfl rfl ?_ | refine e2c_iald _ hi rfl rfl rfl rfl (by omega) ?_ | refine e2c_lald _ rfl rfl (by omega) ?_)
    rw [List.length_cons, pk_sub (by omega), Nat.add_sub_cancel]
    refine e2c_lfi (l_letterAt (n := n) (j := t'.length) hn (by omega)) rfl rfl ⟨rfl, rfl, rfl⟩ rfl rfl rfl rfl ?_
    rw [if_neg (by omega), hoa]
    repeat (first | refine e2_step rfl rfl ?_ | refine e2c_get hi rfl rfl rfl rfl ?_ | refine e2c_lget rfl rfl ?_ | refine e2c_iald _ hi rfl rfl rfl rfl (by omega) ?_ | refine e2c_lald _ rfl rfl (by omega) ?_)
    refine e2c_fi (v_hasGt hi hN hc ha hl) rfl rfl ⟨rfl, rfl, rfl⟩ rfl rfl rfl hi rfl rfl rfl rfl ?_
    refine e2_if rfl rfl (fun c => ?_) (fun c => ?_)
    · rw [bI_0] at c
      exact e2_dropK (K o (insOk_stay c ho2 hol)) ⟨rfl, rfl, rfl, trivial⟩
    · rw [bI_0, Bool.not_eq_false] at c
      repeat (first | refine e2_step rfl rfl ?_ | refine e2c_get hi rfl rfl rfl rfl ?_ | refine e2c_lget rfl rfl ?_ | refine e2c_iald _ hi rfl rfl rfl rfl (by omega) ?_ | refine e2c_lald _ rfl rfl (by omega) ?_)
      refine e2c_lfv (l_swap (k := t'.length) hn (by omega)) rfl rfl ⟨rfl, rfl, rfl⟩ rfl rfl rfl rfl ?_
      rw [hoa, hol]
      repeat (first | refine e2_stepS 12 rfl rfl rfl ?_ | refine e2c_getS 12 rfl hi rfl rfl rfl rfl ?_ | refine e2c_lgetS 12 rfl rfl rfl ?_ | refine e2c_ialdS 12 rfl _ hi rfl rfl rfl rfl (by omega) ?_)
      rw [pk_m1]
      refine v_ins1 hi hN hc hl hn t' (fun b hb => hR b (List.mem_cons_of_mem _ hb)) (by omega) _ (fun j hj => ?_) ?_ (fun o' ho' => K o' (insOk_go ?_ (insOk_congr (fun j hj => ?_) ho')))
      · unfold upd
        rw [if_neg (by omega), if_neg (by omega), ho2 j (by omega)]
        conv => lhs; unfold revD
        rw [if_neg (by omega)]
      · simp [upd]
      · exact c
      · unfold upd
        rw [if_neg (by omega)]
theorem v_insertByCode {N l : Nat} (hi : i < 19) (hN : N ≤ 120) (hc : V 3 8 = nI N) (hl : l < N) (R : List Nat) (hR : ∀ a, a ∈ R → a < N) (hlen : R.length < 120) : FC ε jX2_insertByCode [.inr (i, 3), .inl (nI l), .inr (0, 40)] G i V (nI R.length) (ordA R o) none V (nI (R.length + 1)) (ordA (insR (gtV V) R l) o) := by
  refine C2.of (ls := [some (.inr (i, 3)), some (.inl (nI l)), some (.inr (0, 40)), none]) okX2_insertByCode rfl rfl ?_
  repeat (first | refine e2_step rfl rfl ?_ | refine e2c_get hi rfl rfl rfl rfl ?_ | refine e2c_lget rfl rfl ?_ | refine e2c_iald _ hi rfl rfl rfl rfl (by omega) ?_ | refine e2c_lald _ rfl rfl (by omega) ?_)
  refine e2c_lfv (l_addLast (n := R.length) hlen (nI l)) rfl rfl ⟨rfl, rfl, rfl⟩ rfl rfl rfl rfl ?_
  repeat (first | refine e2_stepS 12 rfl rfl rfl ?_ | refine e2c_getS 12 rfl hi rfl rfl rfl rfl ?_ | refine e2c_lgetS 12 rfl rfl rfl ?_ | refine e2c_ialdS 12 rfl _ hi rfl rfl rfl rfl (by omega) ?_)
  rw [pk_sub (by omega), Nat.add_sub_cancel]
  refine v_ins1 hi hN hc hl (by omega) R hR (by omega) _ (fun j hj => ?_) ?_ (fun o' ho' => ?_)
  · unfold upd
    rw [if_neg (by omega)]
    exact ordA_at hj
  · simp [upd]
  · refine e2_vret rfl rfl ⟨rfl, ?_⟩
    have h2 : insOk (gtV V) R l (ordA R o) o' := insOk_congr (fun j hj => by unfold upd; rw [if_neg (by omega)]) ho'
    rw [insOk_ord h2]
theorem v_listByCode {N : Nat} (hi : i < 19) (hN : N ≤ 120) (hc : V 3 8 = nI N) (p k : Int32) : FC ε jX2_listByCode [.inr (i, 3), .inl p, .inl k, .inr (0, 40)] G i V s o none V (nI (layR (gtV V) (atV V p k) N).length) (ordA (layR (gtV V) (atV V p k) N) o) := by
  refine C2.of (ls := [some (.inr (i, 3)), some (.inl p), some (.inl k), some (.inr (0, 40)), none]) okX2_listByCode rfl rfl ?_
  repeat (first | refine e2_step rfl rfl ?_ | refine e2c_get hi rfl rfl rfl rfl ?_ | refine e2c_lget rfl rfl ?_ | refine e2c_iald _ hi rfl rfl rfl rfl (by omega) ?_ | refine e2c_lald _ rfl rfl (by omega) ?_)
  refine e2c_lput rfl ?_
  refine Eq.mp (congrArg (fun q => E2 ε jX2_listByCode 5 _ [] (cG G i V (nI 0) q) _) (ordA_nil o)) ?_
  repeat (first | refine e2_stepS 8 rfl rfl rfl ?_ | refine e2c_getS 8 rfl hi rfl rfl rfl rfl ?_ | refine e2c_lgetS 8 rfl rfl rfl ?_ | refine e2c_ialdS 8 rfl _ hi rfl rfl rfl rfl (by omega) ?_)
  refine e2_for N (fun l => [some (.inr (i, 3)), some (.inl p), some (.inl k), some (.inr (0, 40)), some (.inl (nI l))]) (fun l => cG G i V (nI (layR (gtV V) (atV V p k) l).length) (ordA (layR (gtV V) (atV V p k) l) o)) (fun l hl K => ?_) (fun M hM => ?_)
  · have hlen : (layR (gtV V) (atV V p k) l).length ≤ l := by rw [layR_len]; exact cntB_le _ _
    repeat (first | refine e2_step rfl rfl ?_ | refine e2c_get hi rfl rfl rfl rfl ?_ | refine e2c_lget rfl rfl ?_ | refine e2c_iald _ hi rfl rfl rfl rfl (by omega) ?_ | refine e2c_lald _ rfl rfl (by omega) ?_)
    rw [hc]
    refine e2_if rfl rfl (fun c => absurd c (nI_ge hl (by omega))) (fun _ => ?_)
    repeat (first | refine e2_step rfl rfl ?_ | refine e2c_get hi rfl rfl rfl rfl ?_ | refine e2c_lget rfl rfl ?_ | refine e2c_iald _ hi rfl rfl rfl rfl (by omega) ?_ | refine e2c_lald _ rfl rfl (by omega) ?_)
    refine e2c_fi (v_isAt hi hN hc hl p k) rfl rfl ⟨rfl, rfl, rfl⟩ rfl rfl rfl hi rfl rfl rfl rfl ?_
    simp only [layR] at K
    refine e2_if rfl rfl (fun c => ?_) (fun c => ?_)
    · rw [bI_0] at c
      rw [c] at K
      repeat (first | refine e2_stepS 8 rfl rfl rfl ?_ | refine e2c_getS 8 rfl hi rfl rfl rfl rfl ?_ | refine e2c_lgetS 8 rfl rfl rfl ?_ | refine e2c_ialdS 8 rfl _ hi rfl rfl rfl rfl (by omega) ?_)
      rw [nI_add']
      exact K
    · rw [bI_0, Bool.not_eq_false] at c
      rw [if_pos c, insR_len] at K
      repeat (first | refine e2_step rfl rfl ?_ | refine e2c_get hi rfl rfl rfl rfl ?_ | refine e2c_lget rfl rfl ?_ | refine e2c_iald _ hi rfl rfl rfl rfl (by omega) ?_ | refine e2c_lald _ rfl rfl (by omega) ?_)
      refine e2c_fv (v_insertByCode hi hN hc hl (layR (gtV V) (atV V p k) l) (fun a ha => by have := (layR_mem _ _ l a).1 ha; omega) (by omega)) rfl rfl ⟨rfl, rfl, rfl⟩ rfl rfl rfl hi rfl rfl rfl rfl ?_
      repeat (first | refine e2_stepS 8 rfl rfl rfl ?_ | refine e2c_getS 8 rfl hi rfl rfl rfl rfl ?_ | refine e2c_lgetS 8 rfl rfl rfl ?_ | refine e2c_ialdS 8 rfl _ hi rfl rfl rfl rfl (by omega) ?_)
      rw [nI_add']
      exact K
  · repeat (first | refine e2_step rfl rfl ?_ | refine e2c_get hi rfl rfl rfl rfl ?_ | refine e2c_lget rfl rfl ?_ | refine e2c_iald _ hi rfl rfl rfl rfl (by omega) ?_ | refine e2c_lald _ rfl rfl (by omega) ?_)
    rw [hc]
    refine e2_if rfl rfl (fun _ => ?_) (fun c => absurd (by rw [hM]; exact Int32.le_refl _) c)
    exact e2_vret rfl rfl ⟨rfl, by rw [hM]⟩
end NC
end
section
/-! Office i: a letter is sorted, an hour passes. -/
section ND
variable {ε : EE} {G : GG} {i : Nat} {V : VV} {s : Int32} {o : Nat → Int32} {Q : Option Int32 → GG → Prop}
/-- codes, walks, classes and keepers of the letters below N are in range, and there are N -/
def okV (V : VV) (N : Nat) : Prop := ∀ l, l < N → (∃ c w, c < 100 ∧ w < 8 ∧ V 4 l = nI c ∧ V 2 c = nI w ∧ (V 5 l = nI 0 ∨ V 5 l = nI 1) ∧ V 3 8 = nI N) ∧ (V 7 l = nI 1 → ∃ w, w < 8 ∧ V 8 l = nI w)
def wkV (V : VV) (l : Nat) : Nat := (V 2 (V 4 l).toNatClampNeg).toNatClampNeg
theorem wkV_of {N l : Nat} (hok : okV V N) (hl : l < N) : ∃ c, c < 100 ∧ V 4 l = nI c ∧ V 2 c = nI (wkV V l) ∧ wkV V l < 8 := by
  obtain ⟨⟨c, w, h1, h2, h3, h4, -⟩, -⟩ := hok l hl
  have hwk : wkV V l = w := by unfold wkV; rw [h3, nI_clamp (by omega), h4, nI_clamp (by omega)]
  exact ⟨c, h1, h3, by rw [hwk]; exact h4, by rw [hwk]; exact h2⟩
theorem okV_cnt {N l : Nat} (hok : okV V N) (hl : l < N) : V 3 8 = nI N := by
  obtain ⟨⟨c, w, h1, h2, h3, h4, h5, h6⟩, -⟩ := hok l hl
  exact h6
theorem okV_cat {N l : Nat} (hok : okV V N) (hl : l < N) : V 5 l = nI 0 ∨ V 5 l = nI 1 := by
  obtain ⟨⟨c, w, h1, h2, h3, h4, h5, h6⟩, -⟩ := hok l hl
  exact h5
theorem upV_o {p k : Int32} {kk : Nat} (h : kk ≠ 11) : upV V p k kk = V kk := by
  unfold upV
  split
  · unfold wv sv
    rw [if_neg h]
  · rfl
theorem dnV_o {l kk : Nat} (h : kk ≠ 11) : dnV V l kk = V kk := by
  unfold dnV
  split
  · unfold wv sv
    rw [if_neg h]
  · rfl
theorem moveV_7 {l m : Nat} {p k : Int32} : moveV V l p k 7 m = if m = l then p else V 7 m := by
  unfold moveV
  rw [upV_o (by decide)]
  unfold wv sv
  rw [if_neg (by decide), if_pos rfl]
  unfold upd
  split
  · rfl
  · rw [dnV_o (by decide)]
theorem moveV_8 {l m : Nat} {p k : Int32} : moveV V l p k 8 m = if m = l then k else V 8 m := by
  unfold moveV
  rw [upV_o (by decide)]
  unfold wv sv
  rw [if_pos rfl]
  unfold upd
  split
  · rfl
  · rw [if_neg (by decide), dnV_o (by decide)]
theorem okV_move {N l : Nat} {p k : Int32} (h : okV V N) (hk : p = nI 1 → ∃ w, w < 8 ∧ k = nI w) : okV (moveV V l p k) N := fun m hm => by
  obtain ⟨h1, h2⟩ := h m hm
  refine ⟨?_, fun z => ?_⟩
  · rw [moveV_o (kk := 4) (by decide) (by decide) (by decide), moveV_o (kk := 2) (by decide) (by decide) (by decide), moveV_o (kk := 5) (by decide) (by decide) (by decide), moveV_o (kk := 3) (by decide) (by decide) (by decide)]
    exact h1
  · rw [moveV_7] at z
    rw [moveV_8]
    by_cases hml : m = l
    · rw [if_pos hml] at z ⊢
      exact hk z
    · rw [if_neg hml] at z ⊢
      exact h2 z
theorem g_walkOf {c : Nat} (hi : i < 19) (hc : c < 100) : FC ε jX7_walkOf [.inr (i, 1), .inl (nI c)] G i V s o (some (V 2 c)) V s o := by
  refine C2.of (ls := [some (.inr (i, 1)), some (.inl (nI c))]) okX7_walkOf rfl rfl ?_
  repeat (first | refine e2_step rfl rfl ?_ | refine e2c_get hi rfl rfl rfl rfl ?_ | refine e2c_lget rfl rfl ?_ | refine e2c_iald _ hi rfl rfl rfl rfl (by omega) ?_ | refine e2c_lald _ rfl rfl (by omega) ?_)
  refine e2_fs (c_isIn (nI c) (nI 0) (nI 99)) rfl rfl ⟨rfl, rfl, rfl⟩ rfl rfl rfl ?_
  rw [isIn_T (by omega) (by decide)]
  refine e2_if rfl rfl (fun z => absurd z (by decide)) (fun _ => ?_)
  repeat (first | refine e2_step rfl rfl ?_ | refine e2c_get hi rfl rfl rfl rfl ?_ | refine e2c_lget rfl rfl ?_ | refine e2c_iald _ hi rfl rfl rfl rfl (by omega) ?_ | refine e2c_lald _ rfl rfl (by omega) ?_)
  exact e2_iret rfl rfl ⟨rfl, rfl⟩
theorem w_walkOf {N l : Nat} (hi : i < 19) (hN : N ≤ 120) (hok : okV V N) (hl : l < N) : FC ε jX5_walkOf [.inr (i, 0), .inl (nI l)] G i V s o (some (nI (wkV V l))) V s o := by
  obtain ⟨c, h1, h2, h3, h4⟩ := wkV_of hok hl
  refine C2.of (ls := [some (.inr (i, 0)), some (.inl (nI l))]) okX5_walkOf rfl rfl ?_
  repeat (first | refine e2_step rfl rfl ?_ | refine e2c_get hi rfl rfl rfl rfl ?_ | refine e2c_lget rfl rfl ?_ | refine e2c_iald _ hi rfl rfl rfl rfl (by omega) ?_ | refine e2c_lald _ rfl rfl (by omega) ?_)
  refine e2c_fi (v_has hi hN (okV_cnt hok hl) hl) rfl rfl ⟨rfl, rfl, rfl⟩ rfl rfl rfl hi rfl rfl rfl rfl ?_
  refine e2_if rfl rfl (fun z => absurd z (by decide)) (fun _ => ?_)
  repeat (first | refine e2_step rfl rfl ?_ | refine e2c_get hi rfl rfl rfl rfl ?_ | refine e2c_lget rfl rfl ?_ | refine e2c_iald _ hi rfl rfl rfl rfl (by omega) ?_ | refine e2c_lald _ rfl rfl (by omega) ?_)
  rw [h2]
  refine e2c_fi (g_walkOf hi h1) rfl rfl ⟨rfl, rfl, rfl⟩ rfl rfl rfl hi rfl rfl rfl rfl ?_
  rw [h3]
  repeat (first | refine e2_step rfl rfl ?_ | refine e2c_get hi rfl rfl rfl rfl ?_ | refine e2c_lget rfl rfl ?_ | refine e2c_iald _ hi rfl rfl rfl rfl (by omega) ?_ | refine e2c_lald _ rfl rfl (by omega) ?_)
  exact e2_iret rfl rfl ⟨rfl, rfl⟩
def freV (V : VV) (w : Nat) : Int32 := if V 17 w - V 11 w < nI 0 then nI 0 else V 17 w - V 11 w
theorem w_freeHoles {w : Nat} (hi : i < 19) (hw : w < 8) : FC ε jX5_freeHoles [.inr (i, 0), .inl (nI w)] G i V s o (some (freV V w)) V s o := by
  refine C2.of (ls := [some (.inr (i, 0)), some (.inl (nI w))]) okX5_freeHoles rfl rfl ?_
  repeat (first | refine e2_step rfl rfl ?_ | refine e2c_get hi rfl rfl rfl rfl ?_ | refine e2c_lget rfl rfl ?_ | refine e2c_iald _ hi rfl rfl rfl rfl (by omega) ?_ | refine e2c_lald _ rfl rfl (by omega) ?_)
  refine e2_fs (c_isWalkT hw) rfl rfl ⟨rfl, rfl, rfl⟩ rfl rfl rfl ?_
  refine e2_if rfl rfl (fun z => absurd z (by decide)) (fun _ => ?_)
  repeat (first | refine e2_step rfl rfl ?_ | refine e2c_get hi rfl rfl rfl rfl ?_ | refine e2c_lget rfl rfl ?_ | refine e2c_iald _ hi rfl rfl rfl rfl (by omega) ?_ | refine e2c_lald _ rfl rfl (by omega) ?_)
  refine e2_max rfl rfl rfl ?_
  repeat (first | refine e2_step rfl rfl ?_ | refine e2c_get hi rfl rfl rfl rfl ?_ | refine e2c_lget rfl rfl ?_ | refine e2c_iald _ hi rfl rfl rfl rfl (by omega) ?_ | refine e2c_lald _ rfl rfl (by omega) ?_)
  exact e2_iret rfl rfl ⟨rfl, rfl⟩
theorem bestF_c (f : Nat → Int32) : ∀ n, (bestF f n).1 = -9 ∨ ∃ k, k < n ∧ (bestF f n).1 = nI k
  | 0 => Or.inl rfl
  | n + 1 => by
    unfold bestF
    split
    · exact Or.inr ⟨n, by omega, rfl⟩
    · rcases bestF_c f n with h | ⟨k, h1, h2⟩
      · exact Or.inl h
      · exact Or.inr ⟨k, by omega, h2⟩
theorem w_mostFree (hi : i < 19) : FC ε jX5_walkWithMostFree [.inr (i, 0)] G i V s o (some (bestF (freV V) 8).1) V s o := by
  obtain ⟨n8, h8⟩ : ∃ n, n = 8 := ⟨_, rfl⟩
  rw [← h8]
  refine C2.of (ls := [some (.inr (i, 0)), none, none, none]) okX5_walkWithMostFree rfl rfl ?_
  repeat (first | refine e2_stepS 7 rfl rfl rfl ?_ | refine e2c_getS 7 rfl hi rfl rfl rfl rfl ?_ | refine e2c_lgetS 7 rfl rfl rfl ?_ | refine e2c_ialdS 7 rfl _ hi rfl rfl rfl rfl (by omega) ?_)
  refine e2_for n8 (fun w => [some (.inr (i, 0)), some (.inl (bestF (freV V) w).1), some (.inl (bestF (freV V) w).2), some (.inl (nI w))]) (fun _ => cG G i V s o) (fun w hw K => ?_) (fun M hM => ?_)
  · repeat (first | refine e2_step rfl rfl ?_ | refine e2c_get hi rfl rfl rfl rfl ?_ | refine e2c_lget rfl rfl ?_ | refine e2c_iald _ hi rfl rfl rfl rfl (by omega) ?_ | refine e2c_lald _ rfl rfl (by omega) ?_)
    refine e2_if rfl rfl (fun c => absurd c (nI_ge (by omega) (by omega))) (fun _ => ?_)
    repeat (first | refine e2_step rfl rfl ?_ | refine e2c_get hi rfl rfl rfl rfl ?_ | refine e2c_lget rfl rfl ?_ | refine e2c_iald _ hi rfl rfl rfl rfl (by omega) ?_ | refine e2c_lald _ rfl rfl (by omega) ?_)
    refine e2c_fi (w_freeHoles hi (w := w) (by omega)) rfl rfl ⟨rfl, rfl, rfl⟩ rfl rfl rfl hi rfl rfl rfl rfl ?_
    repeat (first | refine e2_step rfl rfl ?_ | refine e2c_get hi rfl rfl rfl rfl ?_ | refine e2c_lget rfl rfl ?_ | refine e2c_iald _ hi rfl rfl rfl rfl (by omega) ?_ | refine e2c_lald _ rfl rfl (by omega) ?_)
    simp only [bestF] at K
    refine e2_if rfl rfl (fun c => ?_) (fun c => ?_)
    · rw [if_neg (Int32.not_lt.2 c)] at K
      repeat (first | refine e2_stepS 7 rfl rfl rfl ?_ | refine e2c_getS 7 rfl hi rfl rfl rfl rfl ?_ | refine e2c_lgetS 7 rfl rfl rfl ?_ | refine e2c_ialdS 7 rfl _ hi rfl rfl rfl rfl (by omega) ?_)
      rw [nI_add']
      exact K
    · rw [if_pos (Int32.not_le.1 c)] at K
      repeat (first | refine e2_step rfl rfl ?_ | refine e2c_get hi rfl rfl rfl rfl ?_ | refine e2c_lget rfl rfl ?_ | refine e2c_iald _ hi rfl rfl rfl rfl (by omega) ?_ | refine e2c_lald _ rfl rfl (by omega) ?_)
      refine e2c_fi (w_freeHoles hi (w := w) (by omega)) rfl rfl ⟨rfl, rfl, rfl⟩ rfl rfl rfl hi rfl rfl rfl rfl ?_
      repeat (first | refine e2_stepS 7 rfl rfl rfl ?_ | refine e2c_getS 7 rfl hi rfl rfl rfl rfl ?_ | refine e2c_lgetS 7 rfl rfl rfl ?_ | refine e2c_ialdS 7 rfl _ hi rfl rfl rfl rfl (by omega) ?_)
      rw [nI_add']
      exact K
  · repeat (first | refine e2_step rfl rfl ?_ | refine e2c_get hi rfl rfl rfl rfl ?_ | refine e2c_lget rfl rfl ?_ | refine e2c_iald _ hi rfl rfl rfl rfl (by omega) ?_ | refine e2c_lald _ rfl rfl (by omega) ?_)
    refine e2_if rfl rfl (fun _ => ?_) (fun c => absurd (by rw [hM, h8]; exact Int32.le_refl _) c)
    repeat (first | refine e2_step rfl rfl ?_ | refine e2c_get hi rfl rfl rfl rfl ?_ | refine e2c_lget rfl rfl ?_ | refine e2c_iald _ hi rfl rfl rfl rfl (by omega) ?_ | refine e2c_lald _ rfl rfl (by omega) ?_)
    exact e2_iret rfl rfl ⟨by rw [hM], rfl⟩
theorem secV_of {w : Int32} {l : Nat} (h : secV V w l = true) : V 7 l = nI 1 ∧ V 8 l = w := by
  simp only [secV, atV, Bool.and_eq_true, decide_eq_true_eq] at h
  exact h.1
def dspV (V : VV) (N : Nat) (w : Int32) : VV := if lastB (secV V w) N = -9 then V else moveV V (lastB (secV V w) N).toNatClampNeg (nI 2) (-9)
theorem v_displace {N : Nat} (hi : i < 19) (hN : N ≤ 120) (hc : V 3 8 = nI N) (hok : okV V N) (w : Int32) : FC ε jX2_displaceSecondClass [.inr (i, 3), .inl w] G i V s o (some (bI (decide (¬ lastB (secV V w) N = -9)))) (dspV V N w) s o := by
  refine C2.of (ls := [some (.inr (i, 3)), some (.inl w), none]) okX2_displaceSecondClass rfl rfl ?_
  repeat (first | refine e2_stepS 7 rfl rfl rfl ?_ | refine e2c_getS 7 rfl hi rfl rfl rfl rfl ?_ | refine e2c_lgetS 7 rfl rfl rfl ?_ | refine e2c_ialdS 7 rfl _ hi rfl rfl rfl rfl (by omega) ?_)
  rw [hc]
  have h : ∀ n, n ≤ N → ∀ y, y + nI 1 = nI n → E2 ε jX2_displaceSecondClass 7 [some (.inr (i, 3)), some (.inl w), some (.inl y)] [] (cG G i V s o) (fun v' G' => v' = some (bI (decide (¬ lastB (secV V w) n = -9))) ∧ G' = cG G i (dspV V n w) s o) := by
    intro n
    induction n with
    | zero =>
      intro _ y hy
      have hy1 : y = -1 := by
        have : y = nI 0 - nI 1 := by rw [← hy]; simp
        rw [this]
        decide
      subst hy1
      have e : lastB (secV V w) 0 = -9 := rfl
      unfold dspV
      rw [e, if_pos rfl, decide_eq_false (by decide)]
      repeat (first | refine e2_step rfl rfl ?_ | refine e2c_get hi rfl rfl rfl rfl ?_ | refine e2c_lget rfl rfl ?_ | refine e2c_iald _ hi rfl rfl rfl rfl (by omega) ?_ | refine e2c_lald _ rfl rfl (by omega) ?_)
      refine e2_if rfl rfl (fun _ => ?_) (fun c => absurd (by decide) c)
      repeat (first | refine e2_step rfl rfl ?_ | refine e2c_get hi rfl rfl rfl rfl ?_ | refine e2c_lget rfl rfl ?_ | refine e2c_iald _ hi rfl rfl rfl rfl (by omega) ?_ | refine e2c_lald _ rfl rfl (by omega) ?_)
      exact e2_zret rfl rfl rfl ⟨rfl, rfl⟩
    | succ n ih =>
      intro hn y hy
      have hy1 : y = nI n := by
        have : y = nI (n + 1) - nI 1 := by rw [← hy]; simp
        rw [this, pk_sub (by omega), Nat.add_sub_cancel]
      subst hy1
      have hback : secV V w n = false → E2 ε jX2_displaceSecondClass 39 [some (.inr (i, 3)), some (.inl w), some (.inl (nI n))] [] (cG G i V s o) (fun v' G' => v' = some (bI (decide (¬ lastB (secV V w) (n + 1) = -9))) ∧ G' = cG G i (dspV V (n + 1) w) s o) := by
        intro hs
        have e : lastB (secV V w) (n + 1) = lastB (secV V w) n := by rw [lastB, hs]; rfl
        have e2 : dspV V (n + 1) w = dspV V n w := by unfold dspV; rw [e]
        rw [e, e2]
        repeat (first | refine e2_stepS 7 rfl rfl rfl ?_ | refine e2c_getS 7 rfl hi rfl rfl rfl rfl ?_ | refine e2c_lgetS 7 rfl rfl rfl ?_ | refine e2c_ialdS 7 rfl _ hi rfl rfl rfl rfl (by omega) ?_)
        exact ih (by omega) (nI n + -1) (by simp [Int32.add_assoc]; decide)
      repeat (first | refine e2_step rfl rfl ?_ | refine e2c_get hi rfl rfl rfl rfl ?_ | refine e2c_lget rfl rfl ?_ | refine e2c_iald _ hi rfl rfl rfl rfl (by omega) ?_ | refine e2c_lald _ rfl rfl (by omega) ?_)
      refine e2_if rfl rfl (fun c => absurd c (nI_pos (by omega))) (fun _ => ?_)
      repeat (first | refine e2_step rfl rfl ?_ | refine e2c_get hi rfl rfl rfl rfl ?_ | refine e2c_lget rfl rfl ?_ | refine e2c_iald _ hi rfl rfl rfl rfl (by omega) ?_ | refine e2c_lald _ rfl rfl (by omega) ?_)
      refine e2c_fi (v_isAt hi hN hc (l := n) (by omega) (nI 1) w) rfl rfl ⟨rfl, rfl, rfl⟩ rfl rfl rfl hi rfl rfl rfl rfl ?_
      refine e2_if rfl rfl (fun c => ?_) (fun c => ?_)
      · rw [bI_0] at c
        exact hback (by unfold secV; rw [c]; rfl)
      · rw [bI_0, Bool.not_eq_false] at c
        repeat (first | refine e2_step rfl rfl ?_ | refine e2c_get hi rfl rfl rfl rfl ?_ | refine e2c_lget rfl rfl ?_ | refine e2c_iald _ hi rfl rfl rfl rfl (by omega) ?_ | refine e2c_lald _ rfl rfl (by omega) ?_)
        refine e2c_fi (v_isFirst hi hN hc (l := n) (by omega)) rfl rfl ⟨rfl, rfl, rfl⟩ rfl rfl rfl hi rfl rfl rfl rfl ?_
        refine e2_if rfl rfl (fun c2 => ?_) (fun c2 => ?_)
        · rw [bI_0, decide_eq_false_iff_not, Classical.not_not] at c2
          exact hback (by unfold secV; rw [c2, decide_eq_false (p := nI 1 = 0) (by decide), Bool.and_false])
        · have c2 := Classical.not_not.1 c2
          rw [bI_0, decide_eq_false_iff_not] at c2
          have c0 : V 5 n = nI 0 := (okV_cat hok (by omega)).resolve_right c2
          have hs : secV V w n = true := by unfold secV; rw [c, decide_eq_true (show V 5 n = 0 from c0)]; rfl
          have e : lastB (secV V w) (n + 1) = nI n := by rw [lastB, if_pos hs]
          have hne : ¬ nI n = -9 := nI_n9 (by omega)
          unfold dspV
          rw [e, if_neg hne, decide_eq_true hne, nI_clamp (by omega)]
          repeat (first | refine e2_step rfl rfl ?_ | refine e2c_get hi rfl rfl rfl rfl ?_ | refine e2c_lget rfl rfl ?_ | refine e2c_iald _ hi rfl rfl rfl rfl (by omega) ?_ | refine e2c_lald _ rfl rfl (by omega) ?_)
          refine e2c_fv (v_moveTo hi hN hc (l := n) (by omega) (nI 2) (-9) (hok n (by omega)).2 (fun z => absurd z n21)) rfl rfl ⟨rfl, rfl, rfl⟩ rfl rfl rfl hi rfl rfl rfl rfl ?_
          repeat (first | refine e2_step rfl rfl ?_ | refine e2c_get hi rfl rfl rfl rfl ?_ | refine e2c_lget rfl rfl ?_ | refine e2c_iald _ hi rfl rfl rfl rfl (by omega) ?_ | refine e2c_lald _ rfl rfl (by omega) ?_)
          exact e2_zret rfl rfl rfl ⟨rfl, rfl⟩
  exact h N (Nat.le_refl _) _ (by simp)
/-- the frame that a letter gets, and the office behind the search -/
def frmT (V : VV) (N l : Nat) : Int32 :=
  if freV V (wkV V l) ≤ 0 then (if V 0 5 = nI 1 ∧ V 5 l = nI 1 then (if lastB (secV V (nI (wkV V l))) N = -9 then -9 else nI (wkV V l)) else if V 0 5 = nI 2 then (bestF (freV V) 8).1 else -9) else nI (wkV V l)
def frmV (V : VV) (N l : Nat) : VV :=
  if freV V (wkV V l) ≤ 0 then (if V 0 5 = nI 1 ∧ V 5 l = nI 1 then dspV V N (nI (wkV V l)) else V) else V
theorem frmT_c {N l : Nat} (hw : wkV V l < 8) : frmT V N l = -9 ∨ ∃ w, w < 8 ∧ frmT V N l = nI w := by
  unfold frmT
  repeat' split
  · exact Or.inl rfl
  · exact Or.inr ⟨_, hw, rfl⟩
  · exact bestF_c (freV V) 8
  · exact Or.inl rfl
  · exact Or.inr ⟨_, hw, rfl⟩
theorem w_frameFor {N l : Nat} (hi : i < 19) (hN : N ≤ 120) (hc : V 3 8 = nI N) (hok : okV V N) (hl : l < N) : FC ε jX5_frameFor [.inr (i, 0), .inl (nI l)] G i V s o (some (frmT V N l)) (frmV V N l) s o := by
  have hw := (wkV_of hok hl).choose_spec.2.2.2
  refine C2.of (ls := [some (.inr (i, 0)), some (.inl (nI l)), none]) okX5_frameFor rfl rfl ?_
  repeat (first | refine e2_step rfl rfl ?_ | refine e2c_get hi rfl rfl rfl rfl ?_ | refine e2c_lget rfl rfl ?_ | refine e2c_iald _ hi rfl rfl rfl rfl (by omega) ?_ | refine e2c_lald _ rfl rfl (by omega) ?_)
  refine e2c_fi (w_walkOf hi hN hok hl) rfl rfl ⟨rfl, rfl, rfl⟩ rfl rfl rfl hi rfl rfl rfl rfl ?_
  repeat (first | refine e2_step rfl rfl ?_ | refine e2c_get hi rfl rfl rfl rfl ?_ | refine e2c_lget rfl rfl ?_ | refine e2c_iald _ hi rfl rfl rfl rfl (by omega) ?_ | refine e2c_lald _ rfl rfl (by omega) ?_)
  refine e2c_fi (w_freeHoles hi hw) rfl rfl ⟨rfl, rfl, rfl⟩ rfl rfl rfl hi rfl rfl rfl rfl ?_
  have h53 : ¬ (V 0 5 = nI 1 ∧ V 5 l = nI 1) → freV V (wkV V l) ≤ 0 → E2 ε jX5_frameFor 53 [some (.inr (i, 0)), some (.inl (nI l)), some (.inl (nI (wkV V l)))] [] (cG G i V s o) (fun v' G' => v' = some (frmT V N l) ∧ G' = cG G i (frmV V N l) s o) := by
    intro z1 z2
    have e2 : frmV V N l = V := by unfold frmV; rw [if_pos z2, if_neg z1]
    rw [e2]
    repeat (first | refine e2_step rfl rfl ?_ | refine e2c_get hi rfl rfl rfl rfl ?_ | refine e2c_lget rfl rfl ?_ | refine e2c_iald _ hi rfl rfl rfl rfl (by omega) ?_ | refine e2c_lald _ rfl rfl (by omega) ?_)
    refine e2_if rfl rfl (fun c => ?_) (fun c => ?_)
    · have e1 : frmT V N l = -9 := by unfold frmT; rw [if_pos z2, if_neg z1, if_neg c]
      rw [e1]
      repeat (first | refine e2_step rfl rfl ?_ | refine e2c_get hi rfl rfl rfl rfl ?_ | refine e2c_lget rfl rfl ?_ | refine e2c_iald _ hi rfl rfl rfl rfl (by omega) ?_ | refine e2c_lald _ rfl rfl (by omega) ?_)
      exact e2_iret rfl rfl ⟨rfl, rfl⟩
    · have e1 : frmT V N l = (bestF (freV V) 8).1 := by unfold frmT; rw [if_pos z2, if_neg z1, if_pos (Classical.not_not.1 c)]
      rw [e1]
      repeat (first | refine e2_step rfl rfl ?_ | refine e2c_get hi rfl rfl rfl rfl ?_ | refine e2c_lget rfl rfl ?_ | refine e2c_iald _ hi rfl rfl rfl rfl (by omega) ?_ | refine e2c_lald _ rfl rfl (by omega) ?_)
      refine e2c_fi (w_mostFree hi) rfl rfl ⟨rfl, rfl, rfl⟩ rfl rfl rfl hi rfl rfl rfl rfl ?_
      generalize (bestF (freV V) 8).1 = bf
      repeat (first | refine e2_step rfl rfl ?_ | refine e2c_get hi rfl rfl rfl rfl ?_ | refine e2c_lget rfl rfl ?_ | refine e2c_iald _ hi rfl rfl rfl rfl (by omega) ?_ | refine e2c_lald _ rfl rfl (by omega) ?_)
      exact e2_iret rfl rfl ⟨rfl, rfl⟩
  refine e2_if rfl rfl (fun z => ?_) (fun z => ?_)
  · have z2 : freV V (wkV V l) ≤ 0 := z
    repeat (first | refine e2_step rfl rfl ?_ | refine e2c_get hi rfl rfl rfl rfl ?_ | refine e2c_lget rfl rfl ?_ | refine e2c_iald _ hi rfl rfl rfl rfl (by omega) ?_ | refine e2c_lald _ rfl rfl (by omega) ?_)
    refine e2_if rfl rfl (fun c => ?_) (fun c => ?_)
    · exact h53 (fun h => c h.1) z2
    · have c := Classical.not_not.1 c
      repeat (first | refine e2_step rfl rfl ?_ | refine e2c_get hi rfl rfl rfl rfl ?_ | refine e2c_lget rfl rfl ?_ | refine e2c_iald _ hi rfl rfl rfl rfl (by omega) ?_ | refine e2c_lald _ rfl rfl (by omega) ?_)
      refine e2c_fi (v_isFirst hi hN hc hl) rfl rfl ⟨rfl, rfl, rfl⟩ rfl rfl rfl hi rfl rfl rfl rfl ?_
      refine e2_if rfl rfl (fun c2 => ?_) (fun c2 => ?_)
      · rw [bI_0, decide_eq_false_iff_not] at c2
        exact h53 (fun h => c2 h.2) z2
      · rw [bI_0, decide_eq_false_iff_not, Classical.not_not] at c2
        have e2 : frmV V N l = dspV V N (nI (wkV V l)) := by unfold frmV; rw [if_pos z2, if_pos ⟨c, c2⟩]
        rw [e2]
        repeat (first | refine e2_step rfl rfl ?_ | refine e2c_get hi rfl rfl rfl rfl ?_ | refine e2c_lget rfl rfl ?_ | refine e2c_iald _ hi rfl rfl rfl rfl (by omega) ?_ | refine e2c_lald _ rfl rfl (by omega) ?_)
        refine e2c_fi (v_displace hi hN hc hok (nI (wkV V l))) rfl rfl ⟨rfl, rfl, rfl⟩ rfl rfl rfl hi rfl rfl rfl rfl ?_
        refine e2_if rfl rfl (fun z3 => ?_) (fun z3 => ?_)
        · rw [bI_0, decide_eq_false_iff_not, Classical.not_not] at z3
          have e1 : frmT V N l = -9 := by unfold frmT; rw [if_pos z2, if_pos ⟨c, c2⟩, if_pos z3]
          rw [e1]
          repeat (first | refine e2_step rfl rfl ?_ | refine e2c_get hi rfl rfl rfl rfl ?_ | refine e2c_lget rfl rfl ?_ | refine e2c_iald _ hi rfl rfl rfl rfl (by omega) ?_ | refine e2c_lald _ rfl rfl (by omega) ?_)
          exact e2_iret rfl rfl ⟨rfl, rfl⟩
        · rw [bI_0, decide_eq_false_iff_not, Classical.not_not] at z3
          have e1 : frmT V N l = nI (wkV V l) := by unfold frmT; rw [if_pos z2, if_pos ⟨c, c2⟩, if_neg z3]
          rw [e1]
          repeat (first | refine e2_step rfl rfl ?_ | refine e2c_get hi rfl rfl rfl rfl ?_ | refine e2c_lget rfl rfl ?_ | refine e2c_iald _ hi rfl rfl rfl rfl (by omega) ?_ | refine e2c_lald _ rfl rfl (by omega) ?_)
          exact e2_iret rfl rfl ⟨rfl, rfl⟩
  · have z2 : ¬ freV V (wkV V l) ≤ 0 := z
    have e1 : frmT V N l = nI (wkV V l) := by unfold frmT; rw [if_neg z2]
    have e2 : frmV V N l = V := by unfold frmV; rw [if_neg z2]
    rw [e1, e2]
    repeat (first | refine e2_step rfl rfl ?_ | refine e2c_get hi rfl rfl rfl rfl ?_ | refine e2c_lget rfl rfl ?_ | refine e2c_iald _ hi rfl rfl rfl rfl (by omega) ?_ | refine e2c_lald _ rfl rfl (by omega) ?_)
    exact e2_iret rfl rfl ⟨rfl, rfl⟩
def srtB (V : VV) (N l : Nat) : Bool := decide (¬ frmT V N l = -9)
def srtV (V : VV) (N l : Nat) : VV := if frmT V N l = -9 then moveV (frmV V N l) l (nI 2) (-9) else moveV (frmV V N l) l (nI 1) (frmT V N l)
theorem frmV_ok {N l : Nat} (hok : okV V N) : okV (frmV V N l) N := by
  unfold frmV dspV
  repeat' split
  · exact hok
  · exact okV_move hok (fun z => absurd z n21)
  · exact hok
  · exact hok
theorem frmV_o {N l kk : Nat} (h7 : kk ≠ 7) (h8 : kk ≠ 8) (h11 : kk ≠ 11) : frmV V N l kk = V kk := by
  unfold frmV dspV
  repeat' split
  · rfl
  · exact moveV_o h7 h8 h11
  · rfl
  · rfl
theorem srtV_o {N l kk : Nat} (h7 : kk ≠ 7) (h8 : kk ≠ 8) (h11 : kk ≠ 11) : srtV V N l kk = V kk := by
  unfold srtV
  split
  · rw [moveV_o h7 h8 h11, frmV_o h7 h8 h11]
  · rw [moveV_o h7 h8 h11, frmV_o h7 h8 h11]
theorem srtV_ok {N l : Nat} (hok : okV V N) (hl : l < N) : okV (srtV V N l) N := by
  have hw := (wkV_of hok hl).choose_spec.2.2.2
  unfold srtV
  split
  · exact okV_move (frmV_ok hok) (fun z => absurd z n21)
  · rename_i h
    exact okV_move (frmV_ok hok) (fun _ => (frmT_c hw).resolve_left h)
theorem w_sort {N l : Nat} (hi : i < 19) (hN : N ≤ 120) (hc : V 3 8 = nI N) (hok : okV V N) (hl : l < N) : FC ε jX5_sort [.inr (i, 0), .inl (nI l)] G i V s o (some (bI (srtB V N l))) (srtV V N l) s o := by
  have hT := frmT_c (N := N) (wkV_of hok hl).choose_spec.2.2.2
  have hok2 := frmV_ok (l := l) hok
  have hfr := fun (G : GG) => w_frameFor (ε := ε) (G := G) (s := s) (o := o) hi hN hc hok hl
  unfold srtB srtV
  generalize frmT V N l = T at hT hfr ⊢
  generalize frmV V N l = V1 at hok2 hfr ⊢
  refine C2.of (ls := [some (.inr (i, 0)), some (.inl (nI l)), none]) okX5_sort rfl rfl ?_
  repeat (first | refine e2_step rfl rfl ?_ | refine e2c_get hi rfl rfl rfl rfl ?_ | refine e2c_lget rfl rfl ?_ | refine e2c_iald _ hi rfl rfl rfl rfl (by omega) ?_ | refine e2c_lald _ rfl rfl (by omega) ?_)
  refine e2c_fi (hfr G) rfl rfl ⟨rfl, rfl, rfl⟩ rfl rfl rfl hi rfl rfl rfl rfl ?_
  repeat (first | refine e2_step rfl rfl ?_ | refine e2c_get hi rfl rfl rfl rfl ?_ | refine e2c_lget rfl rfl ?_ | refine e2c_iald _ hi rfl rfl rfl rfl (by omega) ?_ | refine e2c_lald _ rfl rfl (by omega) ?_)
  refine e2_if rfl rfl (fun c => ?_) (fun c => ?_)
  · rw [if_neg c, decide_eq_true c]
    repeat (first | refine e2_step rfl rfl ?_ | refine e2c_get hi rfl rfl rfl rfl ?_ | refine e2c_lget rfl rfl ?_ | refine e2c_iald _ hi rfl rfl rfl rfl (by omega) ?_ | refine e2c_lald _ rfl rfl (by omega) ?_)
    refine e2c_fv (v_moveTo hi hN (okV_cnt hok2 hl) hl (nI 1) T (hok2 l hl).2 (fun _ => hT.resolve_left c)) rfl rfl ⟨rfl, rfl, rfl⟩ rfl rfl rfl hi rfl rfl rfl rfl ?_
    repeat (first | refine e2_step rfl rfl ?_ | refine e2c_get hi rfl rfl rfl rfl ?_ | refine e2c_lget rfl rfl ?_ | refine e2c_iald _ hi rfl rfl rfl rfl (by omega) ?_ | refine e2c_lald _ rfl rfl (by omega) ?_)
    exact e2_zret rfl rfl rfl ⟨rfl, rfl⟩
  · have c := Classical.not_not.1 c
    rw [if_pos c, decide_eq_false (by rw [c]; decide)]
    repeat (first | refine e2_step rfl rfl ?_ | refine e2c_get hi rfl rfl rfl rfl ?_ | refine e2c_lget rfl rfl ?_ | refine e2c_iald _ hi rfl rfl rfl rfl (by omega) ?_ | refine e2c_lald _ rfl rfl (by omega) ?_)
    refine e2c_fv (v_moveTo hi hN (okV_cnt hok2 hl) hl (nI 2) (-9) (hok2 l hl).2 (fun z => absurd z n21)) rfl rfl ⟨rfl, rfl, rfl⟩ rfl rfl rfl hi rfl rfl rfl rfl ?_
    repeat (first | refine e2_step rfl rfl ?_ | refine e2c_get hi rfl rfl rfl rfl ?_ | refine e2c_lget rfl rfl ?_ | refine e2c_iald _ hi rfl rfl rfl rfl (by omega) ?_ | refine e2c_lald _ rfl rfl (by omega) ?_)
    exact e2_zret rfl rfl rfl ⟨rfl, rfl⟩
/-- the first k of a list are sorted: the office, and how many went into a frame -/
def srtsV (V : VV) (N : Nat) (R : List Nat) : Nat → VV
  | 0 => V
  | k + 1 => srtV (srtsV V N R k) N (revD R k)
def srtsn (V : VV) (N : Nat) (R : List Nat) : Nat → Nat
  | 0 => 0
  | k + 1 => srtsn V N R k + (if srtB (srtsV V N R k) N (revD R k) then 1 else 0)
theorem srtsV_o {N kk : Nat} {R : List Nat} (h7 : kk ≠ 7) (h8 : kk ≠ 8) (h11 : kk ≠ 11) : ∀ k, srtsV V N R k kk = V kk
  | 0 => rfl
  | k + 1 => by
    unfold srtsV
    rw [srtV_o h7 h8 h11, srtsV_o h7 h8 h11 k]
theorem srtsV_ok {N : Nat} {R : List Nat} (hok : okV V N) (hR : ∀ a, a ∈ R → a < N) : ∀ k, k ≤ R.length → okV (srtsV V N R k) N
  | 0, _ => hok
  | k + 1, h => srtV_ok (srtsV_ok hok hR k (by omega)) (hR _ (revD_mem R k (by omega)))
theorem ovV_ok {N : Nat} (hok : okV V N) : ∀ n, okV (ovV V n) N
  | 0 => hok
  | n + 1 => by
    unfold ovV
    split
    · exact okV_move (ovV_ok hok n) (fun z => absurd z n01)
    · exact ovV_ok hok n
def hr1V (V : VV) : VV := wv V 0 4 (V 0 4 + nI 1)
def bagH (V : VV) (N : Nat) : List Nat := bagVR (ovV (hr1V V) N) N
def hrsV (V : VV) (N : Nat) : VV := srtsV (ovV (hr1V V) N) N (bagH V N) (min (bagH V N).length (V 0 6).toNatClampNeg)
def hrsn (V : VV) (N : Nat) : Nat := srtsn (ovV (hr1V V) N) N (bagH V N) (min (bagH V N).length (V 0 6).toNatClampNeg)
theorem srtsn_le {N : Nat} {R : List Nat} : ∀ k, srtsn V N R k ≤ k
  | 0 => Nat.le_refl _
  | k + 1 => by
    have := srtsn_le (N := N) (R := R) k
    show srtsn V N R k + _ ≤ k + 1
    split <;> omega
set_option maxHeartbeats 2000000 in
theorem w_passHour {N sp : Nat} (hi : i < 19) (hN : N ≤ 120) (hc : V 3 8 = nI N) (hok : okV V N) (hsp : V 0 6 = nI sp) (hsp2 : sp < 1000) (hR : (bagH V N).length ≤ N) (hRlt : ∀ a, a ∈ bagH V N → a < N) : FC ε jX5_passHour [.inr (i, 0), .inr (0, 40)] G i V s o (some (nI (hrsn V N))) (hrsV V N) (nI (bagH V N).length) (ordA (bagH V N) o) := by
  refine C2.of (ls := [some (.inr (i, 0)), some (.inr (0, 40)), none, none, none]) okX5_passHour rfl rfl ?_
  repeat (first | refine e2_step rfl rfl ?_ | refine e2c_get hi rfl rfl rfl rfl ?_ | refine e2c_lget rfl rfl ?_ | refine e2c_iald _ hi rfl rfl rfl rfl (by omega) ?_ | refine e2c_lald _ rfl rfl (by omega) ?_)
  refine e2c_put hi rfl rfl rfl rfl rfl rfl rfl ?_
  change E2 ε jX5_passHour 10 _ _ (cG G i (hr1V V) s o) _
  have hok1 : okV (hr1V V) N := hok
  have hc1 : hr1V V 3 8 = nI N := hc
  have hsp1 : hr1V V 0 6 = nI sp := hsp
  unfold hrsn hrsV
  rw [hsp, nI_clamp (by omega)]
  have hbag : bagH V N = bagVR (ovV (hr1V V) N) N := rfl
  generalize hR0 : bagH V N = R at hR hRlt hbag ⊢
  generalize hV1 : hr1V V = V1 at hok1 hc1 hsp1 hbag ⊢
  repeat (first | refine e2_step rfl rfl ?_ | refine e2c_get hi rfl rfl rfl rfl ?_ | refine e2c_lget rfl rfl ?_ | refine e2c_iald _ hi rfl rfl rfl rfl (by omega) ?_ | refine e2c_lald _ rfl rfl (by omega) ?_)
  refine e2c_fv (v_emptyOverflow hi hN hc1) rfl rfl ⟨rfl, rfl, rfl⟩ rfl rfl rfl hi rfl rfl rfl rfl ?_
  have hok2 := ovV_ok hok1 N
  have hc2 : ovV V1 N 3 8 = nI N := by rw [ovV_o (by decide) (by decide) (by decide)]; exact hc1
  have hsp2' : ovV V1 N 0 6 = nI sp := by rw [ovV_o (by decide) (by decide) (by decide)]; exact hsp1
  generalize hV2 : ovV V1 N = V2 at hok2 hc2 hsp2' hbag ⊢
  repeat (first | refine e2_step rfl rfl ?_ | refine e2c_get hi rfl rfl rfl rfl ?_ | refine e2c_lget rfl rfl ?_ | refine e2c_iald _ hi rfl rfl rfl rfl (by omega) ?_ | refine e2c_lald _ rfl rfl (by omega) ?_)
  refine e2c_fv (v_listBag hi hN hc2 (by rw [← hbag]; omega)) rfl rfl ⟨rfl, rfl, rfl⟩ rfl rfl rfl hi rfl rfl rfl rfl ?_
  rw [← hbag]
  repeat (first | refine e2_step rfl rfl ?_ | refine e2c_get hi rfl rfl rfl rfl ?_ | refine e2c_lget rfl rfl ?_ | refine e2c_iald _ hi rfl rfl rfl rfl (by omega) ?_ | refine e2c_lald _ rfl rfl (by omega) ?_)
  rw [hsp2']
  refine e2_min rfl rfl rfl ?_
  have hm : (if nI R.length < nI sp then nI R.length else nI sp) = nI (min R.length sp) := by
    by_cases h : R.length < sp
    · rw [if_pos ((nI_ltI (by omega) (by omega)).2 h), Nat.min_eq_left (by omega)]
    · rw [if_neg (fun z => h ((nI_ltI (by omega) (by omega)).1 z)), Nat.min_eq_right (by omega)]
  rw [hm]
  repeat (first | refine e2_stepS 42 rfl rfl rfl ?_ | refine e2c_getS 42 rfl hi rfl rfl rfl rfl ?_ | refine e2c_lgetS 42 rfl rfl rfl ?_ | refine e2c_ialdS 42 rfl _ hi rfl rfl rfl rfl (by omega) ?_)
  refine e2_for (min R.length sp) (fun k => [some (.inr (i, 0)), some (.inr (0, 40)), some (.inl (nI (min R.length sp))), some (.inl (nI (srtsn V2 N R k))), some (.inl (nI k))]) (fun k => cG G i (srtsV V2 N R k) (nI R.length) (ordA R o)) (fun k hk K => ?_) (fun M hM => ?_)
  · have hok3 := srtsV_ok hok2 hRlt k (by omega)
    have hc3 : srtsV V2 N R k 3 8 = nI N := by rw [srtsV_o (by decide) (by decide) (by decide)]; exact hc2
    repeat (first | refine e2_step rfl rfl ?_ | refine e2c_get hi rfl rfl rfl rfl ?_ | refine e2c_lget rfl rfl ?_ | refine e2c_iald _ hi rfl rfl rfl rfl (by omega) ?_ | refine e2c_lald _ rfl rfl (by omega) ?_)
    refine e2_if rfl rfl (fun c => absurd c (nI_ge hk (by omega))) (fun _ => ?_)
    repeat (first | refine e2_step rfl rfl ?_ | refine e2c_get hi rfl rfl rfl rfl ?_ | refine e2c_lget rfl rfl ?_ | refine e2c_iald _ hi rfl rfl rfl rfl (by omega) ?_ | refine e2c_lald _ rfl rfl (by omega) ?_)
    refine e2c_lfi (l_letterAt (n := R.length) (j := k) (by omega) (by omega)) rfl rfl ⟨rfl, rfl, rfl⟩ rfl rfl rfl rfl ?_
    rw [if_neg (by omega), ordA_at (by omega)]
    refine e2c_fi (w_sort hi hN hc3 hok3 (hRlt _ (revD_mem R k (by omega)))) rfl rfl ⟨rfl, rfl, rfl⟩ rfl rfl rfl hi rfl rfl rfl rfl ?_
    simp only [srtsn] at K
    refine e2_if rfl rfl (fun c => ?_) (fun c => ?_)
    · rw [bI_0] at c
      rw [c] at K
      repeat (first | refine e2_stepS 42 rfl rfl rfl ?_ | refine e2c_getS 42 rfl hi rfl rfl rfl rfl ?_ | refine e2c_lgetS 42 rfl rfl rfl ?_ | refine e2c_ialdS 42 rfl _ hi rfl rfl rfl rfl (by omega) ?_)
      rw [nI_add']
      exact K
    · rw [bI_0, Bool.not_eq_false] at c
      rw [c] at K
      repeat (first | refine e2_stepS 42 rfl rfl rfl ?_ | refine e2c_getS 42 rfl hi rfl rfl rfl rfl ?_ | refine e2c_lgetS 42 rfl rfl rfl ?_ | refine e2c_ialdS 42 rfl _ hi rfl rfl rfl rfl (by omega) ?_)
      rw [nI_add', nI_add']
      exact K
  · repeat (first | refine e2_step rfl rfl ?_ | refine e2c_get hi rfl rfl rfl rfl ?_ | refine e2c_lget rfl rfl ?_ | refine e2c_iald _ hi rfl rfl rfl rfl (by omega) ?_ | refine e2c_lald _ rfl rfl (by omega) ?_)
    refine e2_if rfl rfl (fun _ => ?_) (fun c => absurd (by rw [hM]; exact Int32.le_refl _) c)
    repeat (first | refine e2_step rfl rfl ?_ | refine e2c_get hi rfl rfl rfl rfl ?_ | refine e2c_lget rfl rfl ?_ | refine e2c_iald _ hi rfl rfl rfl rfl (by omega) ?_ | refine e2c_lald _ rfl rfl (by omega) ?_)
    exact e2_iret rfl rfl ⟨by rw [hM], by rw [hM]⟩
theorem w_isCleared {N : Nat} (hi : i < 19) (hN : N ≤ 120) (hc : V 3 8 = nI N) : FC ε jX5_isCleared [.inr (i, 0)] G i V s o (some (bI (decide (cntB (fun l => decide (V 7 l = nI 0)) N = 0) && decide (cntB (fun l => decide (V 7 l = nI 2)) N = 0)))) V s o := by
  have hle : ∀ p : Nat → Bool, cntB p N < 2 ^ 31 := fun p => Nat.lt_of_le_of_lt (cntB_le p N) (by omega)
  refine C2.of (ls := [some (.inr (i, 0))]) okX5_isCleared rfl rfl ?_
  repeat (first | refine e2_step rfl rfl ?_ | refine e2c_get hi rfl rfl rfl rfl ?_ | refine e2c_lget rfl rfl ?_ | refine e2c_iald _ hi rfl rfl rfl rfl (by omega) ?_ | refine e2c_lald _ rfl rfl (by omega) ?_)
  refine e2c_fi (v_countIn hi hN hc (nI 0)) rfl rfl ⟨rfl, rfl, rfl⟩ rfl rfl rfl hi rfl rfl rfl rfl ?_
  refine e2_if rfl rfl (fun c => ?_) (fun c => ?_)
  · have c2 : ¬ cntB (fun l => decide (V 7 l = nI 0)) N = 0 := fun h => c (by rw [h]; rfl)
    rw [decide_eq_false c2]
    repeat (first | refine e2_step rfl rfl ?_ | refine e2c_get hi rfl rfl rfl rfl ?_ | refine e2c_lget rfl rfl ?_ | refine e2c_iald _ hi rfl rfl rfl rfl (by omega) ?_ | refine e2c_lald _ rfl rfl (by omega) ?_)
    exact e2_zret rfl rfl rfl ⟨rfl, rfl⟩
  · have c2 : cntB (fun l => decide (V 7 l = nI 0)) N = 0 := (nI_eq (hle _) (by decide)).1 (Classical.not_not.1 c)
    rw [decide_eq_true c2]
    repeat (first | refine e2_step rfl rfl ?_ | refine e2c_get hi rfl rfl rfl rfl ?_ | refine e2c_lget rfl rfl ?_ | refine e2c_iald _ hi rfl rfl rfl rfl (by omega) ?_ | refine e2c_lald _ rfl rfl (by omega) ?_)
    refine e2c_fi (v_countIn hi hN hc (nI 2)) rfl rfl ⟨rfl, rfl, rfl⟩ rfl rfl rfl hi rfl rfl rfl rfl ?_
    refine e2_if rfl rfl (fun d => ?_) (fun d => ?_)
    · have d2 : ¬ cntB (fun l => decide (V 7 l = nI 2)) N = 0 := fun h => d (by rw [h]; rfl)
      rw [decide_eq_false d2]
      repeat (first | refine e2_step rfl rfl ?_ | refine e2c_get hi rfl rfl rfl rfl ?_ | refine e2c_lget rfl rfl ?_ | refine e2c_iald _ hi rfl rfl rfl rfl (by omega) ?_ | refine e2c_lald _ rfl rfl (by omega) ?_)
      exact e2_zret rfl rfl rfl ⟨rfl, rfl⟩
    · have d2 : cntB (fun l => decide (V 7 l = nI 2)) N = 0 := (nI_eq (hle _) (by decide)).1 (Classical.not_not.1 d)
      rw [decide_eq_true d2]
      repeat (first | refine e2_step rfl rfl ?_ | refine e2c_get hi rfl rfl rfl rfl ?_ | refine e2c_lget rfl rfl ?_ | refine e2c_iald _ hi rfl rfl rfl rfl (by omega) ?_ | refine e2c_lald _ rfl rfl (by omega) ?_)
      exact e2_zret rfl rfl rfl ⟨rfl, rfl⟩
end ND
end
section
/-! Office i: rounds. -/
section NE
variable {ε : EE} {G : GG} {i : Nat} {V : VV} {s : Int32} {o : Nat → Int32} {Q : Option Int32 → GG → Prop}
def cgB (V : VV) (c : Nat) : Bool := decide (¬ V 13 c = -9) && (decide (V 14 c = 0) && decide (¬ V 11 (V 13 c).toNatClampNeg ≤ 0))
theorem w_canGoOut {c : Nat} (hi : i < 19) (hc : c < 6) (hw : V 13 c = -9 ∨ ∃ w, w < 8 ∧ V 13 c = nI w) : FC ε jX5_canGoOut [.inr (i, 0), .inl (nI c)] G i V s o (some (bI (cgB V c))) V s o := by
  refine C2.of (ls := [some (.inr (i, 0)), some (.inl (nI c)), none]) okX5_canGoOut rfl rfl ?_
  repeat (first | refine e2_step rfl rfl ?_ | refine e2c_get hi rfl rfl rfl rfl ?_ | refine e2c_lget rfl rfl ?_ | refine e2c_iald _ hi rfl rfl rfl rfl (by omega) ?_ | refine e2c_lald _ rfl rfl (by omega) ?_)
  rcases hw with z | ⟨w, hw1, hw2⟩
  · have e : cgB V c = false := by unfold cgB; rw [decide_eq_false (fun h => h z), Bool.false_and]
    rw [e, z]
    refine e2_fs (c_isWalk (-9)) rfl rfl ⟨rfl, rfl, rfl⟩ rfl rfl rfl ?_
    rw [show isInB (-9) (nI 0) (nI 7) = false by decide]
    refine e2_if rfl rfl (fun _ => ?_) (fun z => absurd rfl z)
    repeat (first | refine e2_step rfl rfl ?_ | refine e2c_get hi rfl rfl rfl rfl ?_ | refine e2c_lget rfl rfl ?_ | refine e2c_iald _ hi rfl rfl rfl rfl (by omega) ?_ | refine e2c_lald _ rfl rfl (by omega) ?_)
    exact e2_zret rfl rfl rfl ⟨rfl, rfl⟩
  · have z : ¬ V 13 c = -9 := by rw [hw2]; exact nI_n9 (by omega)
    rw [hw2]
    refine e2_fs (c_isWalkT hw1) rfl rfl ⟨rfl, rfl, rfl⟩ rfl rfl rfl ?_
    refine e2_if rfl rfl (fun z => absurd z (by decide)) (fun _ => ?_)
    repeat (first | refine e2_step rfl rfl ?_ | refine e2c_get hi rfl rfl rfl rfl ?_ | refine e2c_lget rfl rfl ?_ | refine e2c_iald _ hi rfl rfl rfl rfl (by omega) ?_ | refine e2c_lald _ rfl rfl (by omega) ?_)
    refine e2c_zald c hi rfl rfl rfl rfl hc ?_
    refine e2_if rfl rfl (fun z2 => ?_) (fun z2 => ?_)
    · have e : cgB V c = false := by unfold cgB; rw [decide_eq_false z2, Bool.false_and, Bool.and_false]
      rw [e]
      repeat (first | refine e2_step rfl rfl ?_ | refine e2c_get hi rfl rfl rfl rfl ?_ | refine e2c_lget rfl rfl ?_ | refine e2c_iald _ hi rfl rfl rfl rfl (by omega) ?_ | refine e2c_lald _ rfl rfl (by omega) ?_)
      exact e2_zret rfl rfl rfl ⟨rfl, rfl⟩
    · have z2 := Classical.not_not.1 z2
      repeat (first | refine e2_step rfl rfl ?_ | refine e2c_get hi rfl rfl rfl rfl ?_ | refine e2c_lget rfl rfl ?_ | refine e2c_iald _ hi rfl rfl rfl rfl (by omega) ?_ | refine e2c_lald _ rfl rfl (by omega) ?_)
      refine e2_if rfl rfl (fun z3 => ?_) (fun z3 => ?_)
      · have h3 : decide (¬ V 11 w ≤ 0) = false := decide_eq_false (fun h => h z3)
        have e : cgB V c = false := by unfold cgB; rw [hw2, nI_clamp (by omega), h3, Bool.and_false, Bool.and_false]
        rw [e]
        repeat (first | refine e2_step rfl rfl ?_ | refine e2c_get hi rfl rfl rfl rfl ?_ | refine e2c_lget rfl rfl ?_ | refine e2c_iald _ hi rfl rfl rfl rfl (by omega) ?_ | refine e2c_lald _ rfl rfl (by omega) ?_)
        exact e2_zret rfl rfl rfl ⟨rfl, rfl⟩
      · have e : cgB V c = true := by unfold cgB; rw [decide_eq_true z, decide_eq_true z2, hw2, nI_clamp (by omega), decide_eq_true z3]; rfl
        rw [e]
        repeat (first | refine e2_step rfl rfl ?_ | refine e2c_get hi rfl rfl rfl rfl ?_ | refine e2c_lget rfl rfl ?_ | refine e2c_iald _ hi rfl rfl rfl rfl (by omega) ?_ | refine e2c_lald _ rfl rfl (by omega) ?_)
        exact e2_zret rfl rfl rfl ⟨rfl, rfl⟩
def sgo (V : VV) (R : List Nat) (c : Int32) : Nat → VV
  | 0 => V
  | k + 1 => moveV (sgo V R c k) (revD R k) (nI 3) c
theorem n31 : ¬ nI 3 = nI 1 := by decide
theorem n41 : ¬ nI 4 = nI 1 := by decide
theorem n51 : ¬ nI 5 = nI 1 := by decide
theorem sgo_o {kk : Nat} {R : List Nat} {c : Int32} (h7 : kk ≠ 7) (h8 : kk ≠ 8) (h11 : kk ≠ 11) : ∀ k, sgo V R c k kk = V kk
  | 0 => rfl
  | k + 1 => by
    unfold sgo
    rw [moveV_o h7 h8 h11, sgo_o h7 h8 h11 k]
theorem sgo_ok {N : Nat} {R : List Nat} {c : Int32} (hok : okV V N) : ∀ k, okV (sgo V R c k) N
  | 0 => hok
  | k + 1 => okV_move (sgo_ok hok k) (fun z => absurd z n31)
/-- the letters of a place, by codes and numbers, last first -/
def atVR (V : VV) (N : Nat) (p k : Int32) : List Nat := layR (gtV V) (atV V p k) N
theorem atVR_lt {N : Nat} {p k : Int32} : ∀ a, a ∈ atVR V N p k → a < N := fun a h => ((layR_mem _ _ N a).1 h).1
theorem atVR_len {N : Nat} {p k : Int32} : (atVR V N p k).length ≤ N := by unfold atVR; rw [layR_len]; exact cntB_le _ _
def sndn (V : VV) (N c : Nat) : Nat := min (atVR V N (nI 1) (V 13 c)).length (V 0 7).toNatClampNeg
def sndV (V : VV) (N c : Nat) : VV := wv (sgo V (atVR V N (nI 1) (V 13 c)) (nI c) (sndn V N c)) 14 c (nI 1)
theorem min_if {a b : Nat} (ha : a < 2 ^ 31) (hb : b < 2 ^ 31) : (if nI a < nI b then nI a else nI b) = nI (min a b) := by
  by_cases h : a < b
  · rw [if_pos ((nI_ltI ha hb).2 h), Nat.min_eq_left (by omega)]
  · rw [if_neg (fun z => h ((nI_ltI ha hb).1 z)), Nat.min_eq_right (by omega)]
theorem w_sendOut {N c ld : Nat} (hi : i < 19) (hN : N ≤ 120) (hc : V 3 8 = nI N) (hok : okV V N) (hc6 : c < 6) (hld : V 0 7 = nI ld) (hld2 : ld < 1000) : FC ε jX5_sendOut [.inr (i, 0), .inl (nI c), .inr (0, 40)] G i V s o (some (nI (sndn V N c))) (sndV V N c) (nI (atVR V N (nI 1) (V 13 c)).length) (ordA (atVR V N (nI 1) (V 13 c)) o) := by
  have hlay := fun (G : GG) => v_listByCode (ε := ε) (G := G) (s := s) (o := o) hi hN hc (nI 1) (V 13 c)
  change ∀ (G : GG), FC ε jX2_listByCode [.inr (i, 3), .inl (nI 1), .inl (V 13 c), .inr (0, 40)] G i V s o none V (nI (atVR V N (nI 1) (V 13 c)).length) (ordA (atVR V N (nI 1) (V 13 c)) o) at hlay
  have hRl : (atVR V N (nI 1) (V 13 c)).length ≤ N := atVR_len
  have hRlt : ∀ a, a ∈ atVR V N (nI 1) (V 13 c) → a < N := atVR_lt
  have hn : sndn V N c = min (atVR V N (nI 1) (V 13 c)).length ld := by unfold sndn; rw [hld, nI_clamp (by omega)]
  unfold sndV
  rw [hn]
  generalize hR : atVR V N (nI 1) (V 13 c) = R at hRl hRlt hlay ⊢
  refine C2.of (ls := [some (.inr (i, 0)), some (.inl (nI c)), some (.inr (0, 40)), none, none]) okX5_sendOut rfl rfl ?_
  repeat (first | refine e2_step rfl rfl ?_ | refine e2c_get hi rfl rfl rfl rfl ?_ | refine e2c_lget rfl rfl ?_ | refine e2c_iald _ hi rfl rfl rfl rfl (by omega) ?_ | refine e2c_lald _ rfl rfl (by omega) ?_)
  refine e2c_fv (hlay G) rfl rfl ⟨rfl, rfl, rfl⟩ rfl rfl rfl hi rfl rfl rfl rfl ?_
  repeat (first | refine e2_step rfl rfl ?_ | refine e2c_get hi rfl rfl rfl rfl ?_ | refine e2c_lget rfl rfl ?_ | refine e2c_iald _ hi rfl rfl rfl rfl (by omega) ?_ | refine e2c_lald _ rfl rfl (by omega) ?_)
  rw [hld]
  refine e2_min rfl rfl rfl ?_
  rw [min_if (by omega) (by omega)]
  repeat (first | refine e2_stepS 33 rfl rfl rfl ?_ | refine e2c_getS 33 rfl hi rfl rfl rfl rfl ?_ | refine e2c_lgetS 33 rfl rfl rfl ?_ | refine e2c_ialdS 33 rfl _ hi rfl rfl rfl rfl (by omega) ?_)
  refine e2_for (min R.length ld) (fun k => [some (.inr (i, 0)), some (.inl (nI c)), some (.inr (0, 40)), some (.inl (nI (min R.length ld))), some (.inl (nI k))]) (fun k => cG G i (sgo V R (nI c) k) (nI R.length) (ordA R o)) (fun k hk K => ?_) (fun M hM => ?_)
  · repeat (first | refine e2_step rfl rfl ?_ | refine e2c_get hi rfl rfl rfl rfl ?_ | refine e2c_lget rfl rfl ?_ | refine e2c_iald _ hi rfl rfl rfl rfl (by omega) ?_ | refine e2c_lald _ rfl rfl (by omega) ?_)
    refine e2_if rfl rfl (fun z => absurd z (nI_ge hk (by omega))) (fun _ => ?_)
    repeat (first | refine e2_step rfl rfl ?_ | refine e2c_get hi rfl rfl rfl rfl ?_ | refine e2c_lget rfl rfl ?_ | refine e2c_iald _ hi rfl rfl rfl rfl (by omega) ?_ | refine e2c_lald _ rfl rfl (by omega) ?_)
    refine e2c_lfi (l_letterAt (n := R.length) (j := k) (by omega) (by omega)) rfl rfl ⟨rfl, rfl, rfl⟩ rfl rfl rfl rfl ?_
    rw [if_neg (by omega), ordA_at (by omega)]
    repeat (first | refine e2_step rfl rfl ?_ | refine e2c_get hi rfl rfl rfl rfl ?_ | refine e2c_lget rfl rfl ?_ | refine e2c_iald _ hi rfl rfl rfl rfl (by omega) ?_ | refine e2c_lald _ rfl rfl (by omega) ?_)
    have hlk := hRlt _ (revD_mem R k (by omega))
    refine e2c_fv (v_moveTo hi hN (okV_cnt (sgo_ok hok k) hlk) hlk (nI 3) (nI c) (sgo_ok hok k _ hlk).2 (fun z => absurd z n31)) rfl rfl ⟨rfl, rfl, rfl⟩ rfl rfl rfl hi rfl rfl rfl rfl ?_
    repeat (first | refine e2_stepS 33 rfl rfl rfl ?_ | refine e2c_getS 33 rfl hi rfl rfl rfl rfl ?_ | refine e2c_lgetS 33 rfl rfl rfl ?_ | refine e2c_ialdS 33 rfl _ hi rfl rfl rfl rfl (by omega) ?_)
    rw [nI_add']
    exact K
  · repeat (first | refine e2_step rfl rfl ?_ | refine e2c_get hi rfl rfl rfl rfl ?_ | refine e2c_lget rfl rfl ?_ | refine e2c_iald _ hi rfl rfl rfl rfl (by omega) ?_ | refine e2c_lald _ rfl rfl (by omega) ?_)
    refine e2_if rfl rfl (fun _ => ?_) (fun z => absurd (by rw [hM]; exact Int32.le_refl _) z)
    repeat (first | refine e2_step rfl rfl ?_ | refine e2c_get hi rfl rfl rfl rfl ?_ | refine e2c_lget rfl rfl ?_ | refine e2c_iald _ hi rfl rfl rfl rfl (by omega) ?_ | refine e2c_lald _ rfl rfl (by omega) ?_)
    refine e2c_zast c hi rfl rfl rfl rfl hc6 (Or.inr rfl) ?_
    repeat (first | refine e2_step rfl rfl ?_ | refine e2c_get hi rfl rfl rfl rfl ?_ | refine e2c_lget rfl rfl ?_ | refine e2c_iald _ hi rfl rfl rfl rfl (by omega) ?_ | refine e2c_lald _ rfl rfl (by omega) ?_)
    exact e2_iret rfl rfl ⟨rfl, by rw [hM]⟩
def misV (V : VV) (l : Nat) : VV := if V 6 l + nI 1 < nI 3 then moveV (wv V 6 l (V 6 l + nI 1)) l (nI 0) (-9) else finV (wv V 6 l (V 6 l + nI 1)) l (nI 5) (V 0 4)
theorem v_misroute {N l : Nat} (hi : i < 19) (hN : N ≤ 120) (hok : okV V N) (hl : l < N) : FC ε jX2_misroute [.inr (i, 3), .inl (nI l), .inl (V 0 4)] G i V s o none (misV V l) s o := by
  refine C2.of (ls := [some (.inr (i, 3)), some (.inl (nI l)), some (.inl (V 0 4))]) okX2_misroute rfl rfl ?_
  repeat (first | refine e2_step rfl rfl ?_ | refine e2c_get hi rfl rfl rfl rfl ?_ | refine e2c_lget rfl rfl ?_ | refine e2c_iald _ hi rfl rfl rfl rfl (by omega) ?_ | refine e2c_lald _ rfl rfl (by omega) ?_)
  refine e2c_fi (v_has hi hN (okV_cnt hok hl) hl) rfl rfl ⟨rfl, rfl, rfl⟩ rfl rfl rfl hi rfl rfl rfl rfl ?_
  refine e2_if rfl rfl (fun _ => ?_) (fun z => absurd (by decide) z)
  repeat (first | refine e2_step rfl rfl ?_ | refine e2c_get hi rfl rfl rfl rfl ?_ | refine e2c_lget rfl rfl ?_ | refine e2c_iald _ hi rfl rfl rfl rfl (by omega) ?_ | refine e2c_lald _ rfl rfl (by omega) ?_)
  refine e2c_iast l hi rfl rfl rfl rfl (by omega) ?_
  have h6 : wv V 6 l (V 6 l + nI 1) 6 l = V 6 l + nI 1 := by simp [wv, sv, upd]
  have hok2 : okV (wv V 6 l (V 6 l + nI 1)) N := hok
  repeat (first | refine e2_step rfl rfl ?_ | refine e2c_get hi rfl rfl rfl rfl ?_ | refine e2c_lget rfl rfl ?_ | refine e2c_iald _ hi rfl rfl rfl rfl (by omega) ?_ | refine e2c_lald _ rfl rfl (by omega) ?_)
  rw [h6]
  unfold misV
  refine e2_if rfl rfl (fun z => ?_) (fun z => ?_)
  · rw [if_pos z]
    repeat (first | refine e2_step rfl rfl ?_ | refine e2c_get hi rfl rfl rfl rfl ?_ | refine e2c_lget rfl rfl ?_ | refine e2c_iald _ hi rfl rfl rfl rfl (by omega) ?_ | refine e2c_lald _ rfl rfl (by omega) ?_)
    refine e2c_fv (v_moveTo hi hN (okV_cnt hok2 hl) hl (nI 0) (-9) (hok2 l hl).2 (fun z => absurd z n01)) rfl rfl ⟨rfl, rfl, rfl⟩ rfl rfl rfl hi rfl rfl rfl rfl ?_
    exact e2_vret rfl rfl ⟨rfl, rfl⟩
  · rw [if_neg z]
    repeat (first | refine e2_step rfl rfl ?_ | refine e2c_get hi rfl rfl rfl rfl ?_ | refine e2c_lget rfl rfl ?_ | refine e2c_iald _ hi rfl rfl rfl rfl (by omega) ?_ | refine e2c_lald _ rfl rfl (by omega) ?_)
    refine e2c_fv (v_finish hi hN (okV_cnt hok2 hl) hl (nI 5) (V 0 4) (hok2 l hl).2 n51) rfl rfl ⟨rfl, rfl, rfl⟩ rfl rfl rfl hi rfl rfl rfl rfl ?_
    repeat (first | refine e2_step rfl rfl ?_ | refine e2c_get hi rfl rfl rfl rfl ?_ | refine e2c_lget rfl rfl ?_ | refine e2c_iald _ hi rfl rfl rfl rfl (by omega) ?_ | refine e2c_lald _ rfl rfl (by omega) ?_)
    exact e2_vret rfl rfl ⟨rfl, rfl⟩
def pbV (V : VV) (l w : Nat) : VV := if freV V w ≤ 0 then moveV V l (nI 2) (-9) else moveV V l (nI 1) (nI w)
theorem w_putBack {N l w : Nat} (hi : i < 19) (hN : N ≤ 120) (hok : okV V N) (hl : l < N) (hw : w < 8) : FC ε jX5_putBack [.inr (i, 0), .inl (nI l), .inl (nI w)] G i V s o none (pbV V l w) s o := by
  refine C2.of (ls := [some (.inr (i, 0)), some (.inl (nI l)), some (.inl (nI w))]) okX5_putBack rfl rfl ?_
  repeat (first | refine e2_step rfl rfl ?_ | refine e2c_get hi rfl rfl rfl rfl ?_ | refine e2c_lget rfl rfl ?_ | refine e2c_iald _ hi rfl rfl rfl rfl (by omega) ?_ | refine e2c_lald _ rfl rfl (by omega) ?_)
  refine e2c_fi (w_freeHoles hi hw) rfl rfl ⟨rfl, rfl, rfl⟩ rfl rfl rfl hi rfl rfl rfl rfl ?_
  unfold pbV
  refine e2_if rfl rfl (fun z => ?_) (fun z => ?_)
  · have z2 : freV V w ≤ 0 := z
    rw [if_pos z2]
    repeat (first | refine e2_step rfl rfl ?_ | refine e2c_get hi rfl rfl rfl rfl ?_ | refine e2c_lget rfl rfl ?_ | refine e2c_iald _ hi rfl rfl rfl rfl (by omega) ?_ | refine e2c_lald _ rfl rfl (by omega) ?_)
    refine e2c_fv (v_moveTo hi hN (okV_cnt hok hl) hl (nI 2) (-9) (hok l hl).2 (fun z => absurd z n21)) rfl rfl ⟨rfl, rfl, rfl⟩ rfl rfl rfl hi rfl rfl rfl rfl ?_
    exact e2_vret rfl rfl ⟨rfl, rfl⟩
  · have z2 : ¬ freV V w ≤ 0 := z
    rw [if_neg z2]
    repeat (first | refine e2_step rfl rfl ?_ | refine e2c_get hi rfl rfl rfl rfl ?_ | refine e2c_lget rfl rfl ?_ | refine e2c_iald _ hi rfl rfl rfl rfl (by omega) ?_ | refine e2c_lald _ rfl rfl (by omega) ?_)
    refine e2c_fv (v_moveTo hi hN (okV_cnt hok hl) hl (nI 1) (nI w) (hok l hl).2 (fun _ => ⟨w, hw, rfl⟩)) rfl rfl ⟨rfl, rfl, rfl⟩ rfl rfl rfl hi rfl rfl rfl rfl ?_
    repeat (first | refine e2_step rfl rfl ?_ | refine e2c_get hi rfl rfl rfl rfl ?_ | refine e2c_lget rfl rfl ?_ | refine e2c_iald _ hi rfl rfl rfl rfl (by omega) ?_ | refine e2c_lald _ rfl rfl (by omega) ?_)
    exact e2_vret rfl rfl ⟨rfl, rfl⟩
theorem k_roundsOn {c w : Nat} (hi : i < 19) (hc : c < 6) (hw : w < 8) : FC ε jX0_roundsOn [.inr (i, 12), .inl (nI c), .inl (nI w)] G i V s o (some (V 16 (c * 8 + w))) V s o := by
  refine C2.of (ls := [some (.inr (i, 12)), some (.inl (nI c)), some (.inl (nI w))]) okX0_roundsOn rfl rfl ?_
  repeat (first | refine e2_step rfl rfl ?_ | refine e2c_get hi rfl rfl rfl rfl ?_ | refine e2c_lget rfl rfl ?_ | refine e2c_iald _ hi rfl rfl rfl rfl (by omega) ?_ | refine e2c_lald _ rfl rfl (by omega) ?_)
  refine e2_fs (c_isCarrierT hc) rfl rfl ⟨rfl, rfl, rfl⟩ rfl rfl rfl ?_
  refine e2_if rfl rfl (fun z => absurd z (by decide)) (fun _ => ?_)
  repeat (first | refine e2_step rfl rfl ?_ | refine e2c_get hi rfl rfl rfl rfl ?_ | refine e2c_lget rfl rfl ?_ | refine e2c_iald _ hi rfl rfl rfl rfl (by omega) ?_ | refine e2c_lald _ rfl rfl (by omega) ?_)
  refine e2_fs (c_isWalkT hw) rfl rfl ⟨rfl, rfl, rfl⟩ rfl rfl rfl ?_
  refine e2_if rfl rfl (fun z => absurd z (by decide)) (fun _ => ?_)
  repeat (first | refine e2_step rfl rfl ?_ | refine e2c_get hi rfl rfl rfl rfl ?_ | refine e2c_lget rfl rfl ?_ | refine e2c_iald _ hi rfl rfl rfl rfl (by omega) ?_ | refine e2c_lald _ rfl rfl (by omega) ?_)
  refine e2c_iald (c * 8 + w) hi rfl rfl (by rw [pk_mul, nI_add']) rfl (by omega) ?_
  repeat (first | refine e2_step rfl rfl ?_ | refine e2c_get hi rfl rfl rfl rfl ?_ | refine e2c_lget rfl rfl ?_ | refine e2c_iald _ hi rfl rfl rfl rfl (by omega) ?_ | refine e2c_lald _ rfl rfl (by omega) ?_)
  exact e2_iret rfl rfl ⟨rfl, rfl⟩
theorem k_knows {c w : Nat} (hi : i < 19) (hc : c < 6) (hw : w < 8) : FC ε jX0_knows [.inr (i, 12), .inl (nI c), .inl (nI w)] G i V s o (some (bI (decide (¬ V 16 (c * 8 + w) < nI 2)))) V s o := by
  refine C2.of (ls := [some (.inr (i, 12)), some (.inl (nI c)), some (.inl (nI w))]) okX0_knows rfl rfl ?_
  repeat (first | refine e2_step rfl rfl ?_ | refine e2c_get hi rfl rfl rfl rfl ?_ | refine e2c_lget rfl rfl ?_ | refine e2c_iald _ hi rfl rfl rfl rfl (by omega) ?_ | refine e2c_lald _ rfl rfl (by omega) ?_)
  refine e2c_fi (k_roundsOn hi hc hw) rfl rfl ⟨rfl, rfl, rfl⟩ rfl rfl rfl hi rfl rfl rfl rfl ?_
  repeat (first | refine e2_step rfl rfl ?_ | refine e2c_get hi rfl rfl rfl rfl ?_ | refine e2c_lget rfl rfl ?_ | refine e2c_iald _ hi rfl rfl rfl rfl (by omega) ?_ | refine e2c_lald _ rfl rfl (by omega) ?_)
  refine e2_if rfl rfl (fun z => ?_) (fun z => ?_)
  · rw [decide_eq_false (fun h => h z)]
    repeat (first | refine e2_step rfl rfl ?_ | refine e2c_get hi rfl rfl rfl rfl ?_ | refine e2c_lget rfl rfl ?_ | refine e2c_iald _ hi rfl rfl rfl rfl (by omega) ?_ | refine e2c_lald _ rfl rfl (by omega) ?_)
    exact e2_zret rfl rfl rfl ⟨rfl, rfl⟩
  · rw [decide_eq_true z]
    repeat (first | refine e2_step rfl rfl ?_ | refine e2c_get hi rfl rfl rfl rfl ?_ | refine e2c_lget rfl rfl ?_ | refine e2c_iald _ hi rfl rfl rfl rfl (by omega) ?_ | refine e2c_lald _ rfl rfl (by omega) ?_)
    exact e2_zret rfl rfl rfl ⟨rfl, rfl⟩
def erV (V : VV) (c w m : Nat) : VV := wv (wv (wv V 14 c (nI 0)) 15 c (V 15 c + nI m)) 16 (c * 8 + w) (V 16 (c * 8 + w) + nI 1)
theorem k_endRound {c w m : Nat} (hi : i < 19) (hc : c < 6) (hw : w < 8) (h13 : V 13 c = nI w) : FC ε jX0_endRound [.inr (i, 12), .inl (nI c), .inl (nI m)] G i V s o none (erV V c w m) s o := by
  refine C2.of (ls := [some (.inr (i, 12)), some (.inl (nI c)), some (.inl (nI m))]) okX0_endRound rfl rfl ?_
  repeat (first | refine e2_step rfl rfl ?_ | refine e2c_get hi rfl rfl rfl rfl ?_ | refine e2c_lget rfl rfl ?_ | refine e2c_iald _ hi rfl rfl rfl rfl (by omega) ?_ | refine e2c_lald _ rfl rfl (by omega) ?_)
  refine e2_fs (c_isCarrierT hc) rfl rfl ⟨rfl, rfl, rfl⟩ rfl rfl rfl ?_
  refine e2_if rfl rfl (fun z => absurd z (by decide)) (fun _ => ?_)
  repeat (first | refine e2_step rfl rfl ?_ | refine e2c_get hi rfl rfl rfl rfl ?_ | refine e2c_lget rfl rfl ?_ | refine e2c_iald _ hi rfl rfl rfl rfl (by omega) ?_ | refine e2c_lald _ rfl rfl (by omega) ?_)
  rw [h13]
  refine e2_fs (c_isWalkT hw) rfl rfl ⟨rfl, rfl, rfl⟩ rfl rfl rfl ?_
  refine e2_if rfl rfl (fun z => absurd z (by decide)) (fun _ => ?_)
  repeat (first | refine e2_step rfl rfl ?_ | refine e2c_get hi rfl rfl rfl rfl ?_ | refine e2c_lget rfl rfl ?_ | refine e2c_iald _ hi rfl rfl rfl rfl (by omega) ?_ | refine e2c_lald _ rfl rfl (by omega) ?_)
  refine e2c_zast c hi rfl rfl rfl rfl hc (Or.inl rfl) ?_
  repeat (first | refine e2_step rfl rfl ?_ | refine e2c_get hi rfl rfl rfl rfl ?_ | refine e2c_lget rfl rfl ?_ | refine e2c_iald _ hi rfl rfl rfl rfl (by omega) ?_ | refine e2c_lald _ rfl rfl (by omega) ?_)
  refine e2c_iast c hi rfl rfl rfl rfl hc ?_
  repeat (first | refine e2_step rfl rfl ?_ | refine e2c_get hi rfl rfl rfl rfl ?_ | refine e2c_lget rfl rfl ?_ | refine e2c_iald _ hi rfl rfl rfl rfl (by omega) ?_ | refine e2c_lald _ rfl rfl (by omega) ?_)
  have h13' : ∀ x y, wv (wv V 14 c x) 15 c y 13 c = nI w := fun x y => h13
  refine e2c_iald (c * 8 + w) hi rfl rfl (by rw [h13', pk_mul, nI_add']) rfl (by omega) ?_
  repeat (first | refine e2_step rfl rfl ?_ | refine e2c_get hi rfl rfl rfl rfl ?_ | refine e2c_lget rfl rfl ?_ | refine e2c_iald _ hi rfl rfl rfl rfl (by omega) ?_ | refine e2c_lald _ rfl rfl (by omega) ?_)
  refine e2c_iast (c * 8 + w) hi rfl rfl (by rw [h13', pk_mul, nI_add']) rfl (by omega) ?_
  exact e2_vret rfl rfl ⟨rfl, rfl⟩
def blnV (V : VV) (w : Nat) (R : List Nat) : Nat := cntB (fun k => decide (wkV V (revD R k) = w)) R.length
theorem w_countBelonging {N w : Nat} {R : List Nat} (hi : i < 19) (hN : N ≤ 120) (hok : okV V N) (hw : w < 8) (hRl : R.length ≤ 120) (hRlt : ∀ a, a ∈ R → a < N) : FC ε jX5_countBelonging [.inr (i, 0), .inr (0, 40), .inl (nI w)] G i V (nI R.length) (ordA R o) (some (nI (blnV V w R))) V (nI R.length) (ordA R o) := by
  refine C2.of (ls := [some (.inr (i, 0)), some (.inr (0, 40)), some (.inl (nI w)), none, none]) okX5_countBelonging rfl rfl ?_
  repeat (first | refine e2_stepS 5 rfl rfl rfl ?_ | refine e2c_getS 5 rfl hi rfl rfl rfl rfl ?_ | refine e2c_lgetS 5 rfl rfl rfl ?_ | refine e2c_ialdS 5 rfl _ hi rfl rfl rfl rfl (by omega) ?_)
  refine e2_for R.length (fun k => [some (.inr (i, 0)), some (.inr (0, 40)), some (.inl (nI w)), some (.inl (nI (cntB (fun k => decide (wkV V (revD R k) = w)) k))), some (.inl (nI k))]) (fun k => cG G i V (nI R.length) (ordA R o)) (fun k hk K => ?_) (fun M hM => ?_)
  · repeat (first | refine e2_step rfl rfl ?_ | refine e2c_get hi rfl rfl rfl rfl ?_ | refine e2c_lget rfl rfl ?_ | refine e2c_iald _ hi rfl rfl rfl rfl (by omega) ?_ | refine e2c_lald _ rfl rfl (by omega) ?_)
    refine e2_if rfl rfl (fun z => absurd z (nI_ge hk (by omega))) (fun _ => ?_)
    repeat (first | refine e2_step rfl rfl ?_ | refine e2c_get hi rfl rfl rfl rfl ?_ | refine e2c_lget rfl rfl ?_ | refine e2c_iald _ hi rfl rfl rfl rfl (by omega) ?_ | refine e2c_lald _ rfl rfl (by omega) ?_)
    refine e2c_lfi (l_letterAt (n := R.length) (j := k) (by omega) (by omega)) rfl rfl ⟨rfl, rfl, rfl⟩ rfl rfl rfl rfl ?_
    rw [if_neg (by omega), ordA_at hk]
    have hlk := hRlt _ (revD_mem R k hk)
    have hw9 := (wkV_of hok hlk).choose_spec.2.2.2
    refine e2c_fi (w_walkOf hi hN hok hlk) rfl rfl ⟨rfl, rfl, rfl⟩ rfl rfl rfl hi rfl rfl rfl rfl ?_
    repeat (first | refine e2_step rfl rfl ?_ | refine e2c_get hi rfl rfl rfl rfl ?_ | refine e2c_lget rfl rfl ?_ | refine e2c_iald _ hi rfl rfl rfl rfl (by omega) ?_ | refine e2c_lald _ rfl rfl (by omega) ?_)
    simp only [cntB] at K
    refine e2_if rfl rfl (fun z => ?_) (fun z => ?_)
    · rw [nI_eq (by omega) (by omega)] at z
      simp only [z, decide_false, Bool.false_eq_true, if_false] at K
      repeat (first | refine e2_stepS 5 rfl rfl rfl ?_ | refine e2c_getS 5 rfl hi rfl rfl rfl rfl ?_ | refine e2c_lgetS 5 rfl rfl rfl ?_ | refine e2c_ialdS 5 rfl _ hi rfl rfl rfl rfl (by omega) ?_)
      rw [nI_add']
      exact K
    · rw [nI_eq (by omega) (by omega), Classical.not_not] at z
      simp only [z, decide_true, if_true] at K
      repeat (first | refine e2_stepS 5 rfl rfl rfl ?_ | refine e2c_getS 5 rfl hi rfl rfl rfl rfl ?_ | refine e2c_lgetS 5 rfl rfl rfl ?_ | refine e2c_ialdS 5 rfl _ hi rfl rfl rfl rfl (by omega) ?_)
      rw [nI_add', nI_add']
      exact K
  · repeat (first | refine e2_step rfl rfl ?_ | refine e2c_get hi rfl rfl rfl rfl ?_ | refine e2c_lget rfl rfl ?_ | refine e2c_iald _ hi rfl rfl rfl rfl (by omega) ?_ | refine e2c_lald _ rfl rfl (by omega) ?_)
    refine e2_if rfl rfl (fun _ => ?_) (fun z => absurd (by rw [hM]; exact Int32.le_refl _) z)
    repeat (first | refine e2_step rfl rfl ?_ | refine e2c_get hi rfl rfl rfl rfl ?_ | refine e2c_lget rfl rfl ?_ | refine e2c_iald _ hi rfl rfl rfl rfl (by omega) ?_ | refine e2c_lald _ rfl rfl (by omega) ?_)
    exact e2_iret rfl rfl ⟨by rw [hM]; rfl, rfl⟩
/-- a round's end, letter by letter: the office, and how many may still be delivered -/
def brSt (w l : Nat) (q : VV × Nat) : VV × Nat :=
  if wkV q.1 l = w then (if 0 < q.2 then (finV q.1 l (nI 4) (q.1 0 4), q.2 - 1) else (pbV q.1 l w, q.2)) else (misV q.1 l, q.2)
def brL (V : VV) (w : Nat) (R : List Nat) (can : Nat) : Nat → VV × Nat
  | 0 => (V, can)
  | k + 1 => brSt w (revD R k) (brL V w R can k)
theorem finV_o {l kk : Nat} {p h : Int32} (h7 : kk ≠ 7) (h8 : kk ≠ 8) (h10 : kk ≠ 10) (h11 : kk ≠ 11) : finV V l p h kk = V kk := by
  unfold finV wv sv
  rw [if_neg h10, moveV_o h7 h8 h11]
theorem finV_ok {N l : Nat} {p h : Int32} (hok : okV V N) (hp : ¬ p = nI 1) : okV (finV V l p h) N := okV_move hok (fun z => absurd z hp)
theorem brSt_o {w l kk : Nat} {q : VV × Nat} (h6 : kk ≠ 6) (h7 : kk ≠ 7) (h8 : kk ≠ 8) (h10 : kk ≠ 10) (h11 : kk ≠ 11) : (brSt w l q).1 kk = q.1 kk := by
  unfold brSt
  split
  · split
    · exact finV_o h7 h8 h10 h11
    · dsimp only
      unfold pbV
      split
      · exact moveV_o h7 h8 h11
      · exact moveV_o h7 h8 h11
  · dsimp only
    unfold misV
    split
    · rw [moveV_o h7 h8 h11]
      unfold wv sv
      rw [if_neg h6]
    · rw [finV_o h7 h8 h10 h11]
      unfold wv sv
      rw [if_neg h6]
theorem brL_o {w can kk : Nat} {R : List Nat} (h6 : kk ≠ 6) (h7 : kk ≠ 7) (h8 : kk ≠ 8) (h10 : kk ≠ 10) (h11 : kk ≠ 11) : ∀ k, (brL V w R can k).1 kk = V kk
  | 0 => rfl
  | k + 1 => by
    unfold brL
    rw [brSt_o h6 h7 h8 h10 h11, brL_o h6 h7 h8 h10 h11 k]
theorem brSt_ok {N w l : Nat} {q : VV × Nat} (hw : w < 8) (hok : okV q.1 N) : okV (brSt w l q).1 N := by
  unfold brSt
  split
  · split
    · exact finV_ok hok n41
    · dsimp only
      unfold pbV
      split
      · exact okV_move hok (fun z => absurd z n21)
      · exact okV_move hok (fun _ => ⟨w, hw, rfl⟩)
  · dsimp only
    have hok2 : okV (wv q.1 6 l (q.1 6 l + nI 1)) N := hok
    unfold misV
    split
    · exact okV_move hok2 (fun z => absurd z n01)
    · exact finV_ok hok2 n51
theorem brL_ok {N w can : Nat} {R : List Nat} (hw : w < 8) (hok : okV V N) : ∀ k, okV (brL V w R can k).1 N
  | 0 => hok
  | k + 1 => brSt_ok hw (brL_ok hw hok k)
theorem brL_2 (V : VV) (w can : Nat) (R : List Nat) : ∀ k, (brL V w R can k).2 ≤ can
  | 0 => Nat.le_refl _
  | k + 1 => by
    have h := brL_2 V w can R k
    show (brSt w (revD R k) (brL V w R can k)).2 ≤ can
    unfold brSt
    split
    · split
      · dsimp only; omega
      · exact h
    · exact h
def cannV (V : VV) (c w : Nat) (R : List Nat) : Nat := if V 16 (c * 8 + w) < nI 2 then (blnV V w R + 1) / 2 else blnV V w R
def brgV (V : VV) (N c w : Nat) : VV := erV (brL V w (atVR V N (nI 3) (nI c)) (cannV V c w (atVR V N (nI 3) (nI c))) (atVR V N (nI 3) (nI c)).length).1 c w (cannV V c w (atVR V N (nI 3) (nI c)))
def brgn (V : VV) (N c w : Nat) : Nat := cannV V c w (atVR V N (nI 3) (nI c))
set_option maxHeartbeats 2000000 in
theorem w_bringBack {N c w : Nat} (hi : i < 19) (hN : N ≤ 120) (hcn : V 3 8 = nI N) (hok : okV V N) (hc : c < 6) (hw : w < 8) (h13 : V 13 c = nI w) : FC ε jX5_bringBack [.inr (i, 0), .inl (nI c), .inr (0, 40)] G i V s o (some (nI (brgn V N c w))) (brgV V N c w) (nI (atVR V N (nI 3) (nI c)).length) (ordA (atVR V N (nI 3) (nI c)) o) := by
  have hlay := fun (G : GG) => v_listByCode (ε := ε) (G := G) (s := s) (o := o) hi hN hcn (nI 3) (nI c)
  change ∀ (G : GG), FC ε jX2_listByCode [.inr (i, 3), .inl (nI 3), .inl (nI c), .inr (0, 40)] G i V s o none V (nI (atVR V N (nI 3) (nI c)).length) (ordA (atVR V N (nI 3) (nI c)) o) at hlay
  have hRl : (atVR V N (nI 3) (nI c)).length ≤ N := atVR_len
  have hRlt : ∀ a, a ∈ atVR V N (nI 3) (nI c) → a < N := atVR_lt
  unfold brgV brgn
  generalize hR : atVR V N (nI 3) (nI c) = R at hRl hRlt hlay ⊢
  refine C2.of (ls := [some (.inr (i, 0)), some (.inl (nI c)), some (.inr (0, 40)), none, none, none, none, none]) okX5_bringBack rfl rfl ?_
  repeat (first | refine e2_step rfl rfl ?_ | refine e2c_get hi rfl rfl rfl rfl ?_ | refine e2c_lget rfl rfl ?_ | refine e2c_iald _ hi rfl rfl rfl rfl (by omega) ?_ | refine e2c_lald _ rfl rfl (by omega) ?_)
  rw [h13]
  repeat (first | refine e2_step rfl rfl ?_ | refine e2c_get hi rfl rfl rfl rfl ?_ | refine e2c_lget rfl rfl ?_ | refine e2c_iald _ hi rfl rfl rfl rfl (by omega) ?_ | refine e2c_lald _ rfl rfl (by omega) ?_)
  refine e2c_fv (hlay G) rfl rfl ⟨rfl, rfl, rfl⟩ rfl rfl rfl hi rfl rfl rfl rfl ?_
  repeat (first | refine e2_step rfl rfl ?_ | refine e2c_get hi rfl rfl rfl rfl ?_ | refine e2c_lget rfl rfl ?_ | refine e2c_iald _ hi rfl rfl rfl rfl (by omega) ?_ | refine e2c_lald _ rfl rfl (by omega) ?_)
  refine e2c_fi (w_countBelonging hi hN hok hw (by omega) hRlt) rfl rfl ⟨rfl, rfl, rfl⟩ rfl rfl rfl hi rfl rfl rfl rfl ?_
  repeat (first | refine e2_step rfl rfl ?_ | refine e2c_get hi rfl rfl rfl rfl ?_ | refine e2c_lget rfl rfl ?_ | refine e2c_iald _ hi rfl rfl rfl rfl (by omega) ?_ | refine e2c_lald _ rfl rfl (by omega) ?_)
  refine e2c_fi (k_knows hi hc hw) rfl rfl ⟨rfl, rfl, rfl⟩ rfl rfl rfl hi rfl rfl rfl rfl ?_
  have hbl : blnV V w R ≤ 120 := Nat.le_trans (cntB_le _ _) (by omega)
  have hcan2 : cannV V c w R ≤ 120 := by unfold cannV; split <;> omega
  have hgo : E2 ε jX5_bringBack 48 [some (.inr (i, 0)), some (.inl (nI c)), some (.inr (0, 40)), some (.inl (nI w)), some (.inl (nI (cannV V c w R))), none, none, none] [] (cG G i V (nI R.length) (ordA R o)) (fun v' G' => v' = some (nI (cannV V c w R)) ∧ G' = cG G i (erV (brL V w R (cannV V c w R) R.length).1 c w (cannV V c w R)) (nI R.length) (ordA R o)) := by
    generalize hcan : cannV V c w R = can at hcan2 ⊢
    repeat (first | refine e2_stepS 55 rfl rfl rfl ?_ | refine e2c_getS 55 rfl hi rfl rfl rfl rfl ?_ | refine e2c_lgetS 55 rfl rfl rfl ?_ | refine e2c_ialdS 55 rfl _ hi rfl rfl rfl rfl (by omega) ?_)
    refine e2_for R.length (fun k => [some (.inr (i, 0)), some (.inl (nI c)), some (.inr (0, 40)), some (.inl (nI w)), some (.inl (nI can)), some (.inl (nI (brL V w R can k).2)), some (.inl (nI k)), none]) (fun k => cG G i (brL V w R can k).1 (nI R.length) (ordA R o)) (fun k hk K => ?_) (fun M hM => ?_)
    · have hok2 := brL_ok (w := w) (can := can) (R := R) hw hok k
      have h2 := brL_2 V w can R k
      have hlk := hRlt _ (revD_mem R k hk)
      simp only [brL, brSt] at K
      generalize hq : brL V w R can k = q at K hok2 h2 ⊢
      obtain ⟨Vk, d⟩ := q
      dsimp only at K hok2 h2 ⊢
      have hw9 := (wkV_of hok2 hlk).choose_spec.2.2.2
      repeat (first | refine e2_step rfl rfl ?_ | refine e2c_get hi rfl rfl rfl rfl ?_ | refine e2c_lget rfl rfl ?_ | refine e2c_iald _ hi rfl rfl rfl rfl (by omega) ?_ | refine e2c_lald _ rfl rfl (by omega) ?_)
      refine e2_if rfl rfl (fun z => absurd z (nI_ge hk (by omega))) (fun _ => ?_)
      repeat (first | refine e2_step rfl rfl ?_ | refine e2c_get hi rfl rfl rfl rfl ?_ | refine e2c_lget rfl rfl ?_ | refine e2c_iald _ hi rfl rfl rfl rfl (by omega) ?_ | refine e2c_lald _ rfl rfl (by omega) ?_)
      refine e2c_lfi (l_letterAt (n := R.length) (j := k) (by omega) (by omega)) rfl rfl ⟨rfl, rfl, rfl⟩ rfl rfl rfl rfl ?_
      rw [if_neg (by omega), ordA_at hk]
      repeat (first | refine e2_step rfl rfl ?_ | refine e2c_get hi rfl rfl rfl rfl ?_ | refine e2c_lget rfl rfl ?_ | refine e2c_iald _ hi rfl rfl rfl rfl (by omega) ?_ | refine e2c_lald _ rfl rfl (by omega) ?_)
      refine e2c_fi (w_walkOf hi hN hok2 hlk) rfl rfl ⟨rfl, rfl, rfl⟩ rfl rfl rfl hi rfl rfl rfl rfl ?_
      repeat (first | refine e2_step rfl rfl ?_ | refine e2c_get hi rfl rfl rfl rfl ?_ | refine e2c_lget rfl rfl ?_ | refine e2c_iald _ hi rfl rfl rfl rfl (by omega) ?_ | refine e2c_lald _ rfl rfl (by omega) ?_)
      refine e2_if rfl rfl (fun z => ?_) (fun z => ?_)
      · rw [nI_eq (by omega) (by omega)] at z
        rw [if_pos z] at K
        repeat (first | refine e2_step rfl rfl ?_ | refine e2c_get hi rfl rfl rfl rfl ?_ | refine e2c_lget rfl rfl ?_ | refine e2c_iald _ hi rfl rfl rfl rfl (by omega) ?_ | refine e2c_lald _ rfl rfl (by omega) ?_)
        refine e2_if rfl rfl (fun z2 => ?_) (fun z2 => ?_)
        · have z3 : nI d ≤ nI 0 := z2
          rw [nI_leI (by omega) (by omega)] at z3
          rw [if_neg (by omega)] at K
          dsimp only at K
          repeat (first | refine e2_step rfl rfl ?_ | refine e2c_get hi rfl rfl rfl rfl ?_ | refine e2c_lget rfl rfl ?_ | refine e2c_iald _ hi rfl rfl rfl rfl (by omega) ?_ | refine e2c_lald _ rfl rfl (by omega) ?_)
          refine e2c_fv (w_putBack hi hN hok2 hlk hw) rfl rfl ⟨rfl, rfl, rfl⟩ rfl rfl rfl hi rfl rfl rfl rfl ?_
          repeat (first | refine e2_stepS 55 rfl rfl rfl ?_ | refine e2c_getS 55 rfl hi rfl rfl rfl rfl ?_ | refine e2c_lgetS 55 rfl rfl rfl ?_ | refine e2c_ialdS 55 rfl _ hi rfl rfl rfl rfl (by omega) ?_)
          rw [nI_add']
          exact e2_dropK K ⟨rfl, rfl, rfl, rfl, rfl, rfl, rfl, trivial⟩
        · have z3 : ¬ nI d ≤ nI 0 := z2
          rw [nI_leI (by omega) (by omega)] at z3
          rw [if_pos (by omega)] at K
          dsimp only at K
          repeat (first | refine e2_step rfl rfl ?_ | refine e2c_get hi rfl rfl rfl rfl ?_ | refine e2c_lget rfl rfl ?_ | refine e2c_iald _ hi rfl rfl rfl rfl (by omega) ?_ | refine e2c_lald _ rfl rfl (by omega) ?_)
          refine e2c_fv (v_finish hi hN (okV_cnt hok2 hlk) hlk (nI 4) (Vk 0 4) (hok2 _ hlk).2 n41) rfl rfl ⟨rfl, rfl, rfl⟩ rfl rfl rfl hi rfl rfl rfl rfl ?_
          obtain ⟨d', rfl⟩ : ∃ d', d = d' + 1 := ⟨d - 1, by omega⟩
          rw [Nat.add_sub_cancel] at K
          repeat (first | refine e2_stepS 55 rfl rfl rfl ?_ | refine e2c_getS 55 rfl hi rfl rfl rfl rfl ?_ | refine e2c_lgetS 55 rfl rfl rfl ?_ | refine e2c_ialdS 55 rfl _ hi rfl rfl rfl rfl (by omega) ?_)
          rw [pk_m1, nI_add']
          exact e2_dropK K ⟨rfl, rfl, rfl, rfl, rfl, rfl, rfl, trivial⟩
      · rw [nI_eq (by omega) (by omega)] at z
        rw [if_neg z] at K
        repeat (first | refine e2_step rfl rfl ?_ | refine e2c_get hi rfl rfl rfl rfl ?_ | refine e2c_lget rfl rfl ?_ | refine e2c_iald _ hi rfl rfl rfl rfl (by omega) ?_ | refine e2c_lald _ rfl rfl (by omega) ?_)
        refine e2c_fv (v_misroute hi hN hok2 hlk) rfl rfl ⟨rfl, rfl, rfl⟩ rfl rfl rfl hi rfl rfl rfl rfl ?_
        repeat (first | refine e2_stepS 55 rfl rfl rfl ?_ | refine e2c_getS 55 rfl hi rfl rfl rfl rfl ?_ | refine e2c_lgetS 55 rfl rfl rfl ?_ | refine e2c_ialdS 55 rfl _ hi rfl rfl rfl rfl (by omega) ?_)
        rw [nI_add']
        exact e2_dropK K ⟨rfl, rfl, rfl, rfl, rfl, rfl, rfl, trivial⟩
    · subst hM
      have h13' : (brL V w R can R.length).1 13 c = nI w := by rw [brL_o (by decide) (by decide) (by decide) (by decide) (by decide)]; exact h13
      repeat (first | refine e2_step rfl rfl ?_ | refine e2c_get hi rfl rfl rfl rfl ?_ | refine e2c_lget rfl rfl ?_ | refine e2c_iald _ hi rfl rfl rfl rfl (by omega) ?_ | refine e2c_lald _ rfl rfl (by omega) ?_)
      refine e2_if rfl rfl (fun _ => ?_) (fun z => absurd (Int32.le_refl _) z)
      repeat (first | refine e2_step rfl rfl ?_ | refine e2c_get hi rfl rfl rfl rfl ?_ | refine e2c_lget rfl rfl ?_ | refine e2c_iald _ hi rfl rfl rfl rfl (by omega) ?_ | refine e2c_lald _ rfl rfl (by omega) ?_)
      refine e2c_fv (k_endRound (m := can) hi hc hw h13') rfl rfl ⟨rfl, rfl, rfl⟩ rfl rfl rfl hi rfl rfl rfl rfl ?_
      repeat (first | refine e2_step rfl rfl ?_ | refine e2c_get hi rfl rfl rfl rfl ?_ | refine e2c_lget rfl rfl ?_ | refine e2c_iald _ hi rfl rfl rfl rfl (by omega) ?_ | refine e2c_lald _ rfl rfl (by omega) ?_)
      exact e2_iret rfl rfl ⟨rfl, rfl⟩
  refine e2_if rfl rfl (fun z => ?_) (fun z => ?_)
  · rw [bI_0, decide_eq_false_iff_not, Classical.not_not] at z
    have e : cannV V c w R = blnV V w R := by unfold cannV; rw [if_neg z]
    rw [e] at hgo ⊢
    exact e2_dropK hgo ⟨rfl, rfl, rfl, rfl, rfl, trivial⟩
  · rw [bI_0, decide_eq_false_iff_not, Classical.not_not, Classical.not_not] at z
    have e : cannV V c w R = (blnV V w R + 1) / 2 := by unfold cannV; rw [if_pos z]
    repeat (first | refine e2_step rfl rfl ?_ | refine e2c_get hi rfl rfl rfl rfl ?_ | refine e2c_lget rfl rfl ?_ | refine e2c_iald _ hi rfl rfl rfl rfl (by omega) ?_ | refine e2c_lald _ rfl rfl (by omega) ?_)
    rw [nI_add']
    refine e2_div rfl (by decide) ?_
    rw [pk_div (by omega) (by decide) (by decide)]
    rw [e] at hgo ⊢
    repeat (first | refine e2_stepS 48 rfl rfl rfl ?_ | refine e2c_getS 48 rfl hi rfl rfl rfl rfl ?_ | refine e2c_lgetS 48 rfl rfl rfl ?_ | refine e2c_ialdS 48 rfl _ hi rfl rfl rfl rfl (by omega) ?_)
    exact e2_dropK hgo ⟨rfl, rfl, rfl, rfl, rfl, trivial⟩
end NE
end
section
/-! Office i: ranges, carriers' looks, posting; copying. -/
section NK
variable {ε : EE} {J : JT} {pc : Nat} {ls : List (Option V0)} {st : List V0} {G : GG} {i : Nat} {V : VV} {s : Int32} {o : Nat → Int32} {Q : Option Int32 → GG → Prop}
theorem g_give {a b : Nat} (hi : i < 19) (ha : a < 100) (hb : b < 100) (w : Int32) : FC ε jX7_give [.inr (i, 1), .inl (nI a), .inl (nI b), .inl w] G i V s o none (sv V 2 (rngr (V 2) a (b + 1) w)) s o := by
  refine C2.of (ls := [some (.inr (i, 1)), some (.inl (nI a)), some (.inl (nI b)), some (.inl w), none]) okX7_give rfl rfl ?_
  repeat (first | refine e2_step rfl rfl ?_ | refine e2c_get hi rfl rfl rfl rfl ?_ | refine e2c_lget rfl rfl ?_ | refine e2c_iald _ hi rfl rfl rfl rfl (by omega) ?_ | refine e2c_lald _ rfl rfl (by omega) ?_)
  refine e2_max rfl rfl rfl ?_
  have hm : (if nI a < nI 0 then nI 0 else nI a) = nI a := by rw [if_neg]; exact nI_pos (by omega)
  rw [hm]
  repeat (first | refine e2_stepS 7 rfl rfl rfl ?_ | refine e2c_getS 7 rfl hi rfl rfl rfl rfl ?_ | refine e2c_lgetS 7 rfl rfl rfl ?_ | refine e2c_ialdS 7 rfl _ hi rfl rfl rfl rfl (by omega) ?_)
  have h0 : sv V 2 (rngr (V 2) a (a + 0) w) = V := by
    funext kk
    unfold sv
    by_cases hk : kk = 2
    · subst hk
      rw [if_pos rfl]
      exact rngr_0 _ a w
    · rw [if_neg hk]
  refine Eq.mp (congrArg (fun q => E2 ε jX7_give 7 _ [] (cG G i q s o) _) h0) ?_
  refine e2_for (b + 1 - a) (fun k => [some (.inr (i, 1)), some (.inl (nI a)), some (.inl (nI b)), some (.inl w), some (.inl (nI (a + k)))]) (fun k => cG G i (sv V 2 (rngr (V 2) a (a + k) w)) s o) (fun k hk K => ?_) (fun M hM => ?_)
  · repeat (first | refine e2_step rfl rfl ?_ | refine e2c_get hi rfl rfl rfl rfl ?_ | refine e2c_lget rfl rfl ?_ | refine e2c_iald _ hi rfl rfl rfl rfl (by omega) ?_ | refine e2c_lald _ rfl rfl (by omega) ?_)
    refine e2_if rfl rfl (fun c => absurd c (nI_nlt (by omega) (by omega))) (fun _ => ?_)
    repeat (first | refine e2_step rfl rfl ?_ | refine e2c_get hi rfl rfl rfl rfl ?_ | refine e2c_lget rfl rfl ?_ | refine e2c_iald _ hi rfl rfl rfl rfl (by omega) ?_ | refine e2c_lald _ rfl rfl (by omega) ?_)
    refine e2_if rfl rfl (fun c => absurd c (nI_ge (by omega) (by omega))) (fun _ => ?_)
    repeat (first | refine e2_step rfl rfl ?_ | refine e2c_get hi rfl rfl rfl rfl ?_ | refine e2c_lget rfl rfl ?_ | refine e2c_iald _ hi rfl rfl rfl rfl (by omega) ?_ | refine e2c_lald _ rfl rfl (by omega) ?_)
    refine e2c_iast (a + k) hi rfl rfl rfl rfl (by omega) ?_
    have e : wv (sv V 2 (rngr (V 2) a (a + k) w)) 2 (a + k) w = sv V 2 (rngr (V 2) a (a + (k + 1)) w) := by
      rw [rngr_s]
      funext kk
      unfold wv sv
      by_cases hk2 : kk = 2
      · subst hk2
        rw [if_pos rfl, if_pos rfl, if_pos rfl]
      · rw [if_neg hk2, if_neg hk2, if_neg hk2]
    rw [e]
    repeat (first | refine e2_stepS 7 rfl rfl rfl ?_ | refine e2c_getS 7 rfl hi rfl rfl rfl rfl ?_ | refine e2c_lgetS 7 rfl rfl rfl ?_ | refine e2c_ialdS 7 rfl _ hi rfl rfl rfl rfl (by omega) ?_)
    rw [nI_add']
    exact K
  · have hfin : sv V 2 (rngr (V 2) a (a + M) w) = sv V 2 (rngr (V 2) a (b + 1) w) := by
      congr 1
      funext j
      simp only [rngr]
      by_cases h : a ≤ j ∧ j < b + 1
      · rw [if_pos h, if_pos (by omega)]
      · rw [if_neg h, if_neg (by omega)]
    rw [hfin]
    repeat (first | refine e2_step rfl rfl ?_ | refine e2c_get hi rfl rfl rfl rfl ?_ | refine e2c_lget rfl rfl ?_ | refine e2c_iald _ hi rfl rfl rfl rfl (by omega) ?_ | refine e2c_lald _ rfl rfl (by omega) ?_)
    by_cases hba : b < a + M
    · refine e2_if rfl rfl (fun c => ?_) (fun c => absurd (nI_lt hba (by omega)) c)
      exact e2_vret rfl rfl ⟨rfl, rfl⟩
    · omega
theorem g_stretches (hi : i < 19) : FC ε jX7_countStretches [.inr (i, 1)] G i V s o (some (nI (1 + cntB (fun c => decide (¬ V 2 (c + 1) = V 2 c)) 99))) V s o := by
  obtain ⟨n99, h99⟩ : ∃ n, n = 99 := ⟨_, rfl⟩
  rw [← h99]
  refine C2.of (ls := [some (.inr (i, 1)), none, none]) okX7_countStretches rfl rfl ?_
  repeat (first | refine e2_stepS 4 rfl rfl rfl ?_ | refine e2c_getS 4 rfl hi rfl rfl rfl rfl ?_ | refine e2c_lgetS 4 rfl rfl rfl ?_ | refine e2c_ialdS 4 rfl _ hi rfl rfl rfl rfl (by omega) ?_)
  refine e2_for n99 (fun c => [some (.inr (i, 1)), some (.inl (nI (1 + cntB (fun c => decide (¬ V 2 (c + 1) = V 2 c)) c))), some (.inl (nI (c + 1)))]) (fun _ => cG G i V s o) (fun c hc K => ?_) (fun M hM => ?_)
  · repeat (first | refine e2_step rfl rfl ?_ | refine e2c_get hi rfl rfl rfl rfl ?_ | refine e2c_lget rfl rfl ?_ | refine e2c_iald _ hi rfl rfl rfl rfl (by omega) ?_ | refine e2c_lald _ rfl rfl (by omega) ?_)
    refine e2_if rfl rfl (fun z => absurd z (nI_ge (by omega) (by omega))) (fun _ => ?_)
    repeat (first | refine e2_step rfl rfl ?_ | refine e2c_get hi rfl rfl rfl rfl ?_ | refine e2c_lget rfl rfl ?_ | refine e2c_iald _ hi rfl rfl rfl rfl (by omega) ?_ | refine e2c_lald _ rfl rfl (by omega) ?_)
    refine e2c_iald c hi rfl rfl (by rw [pk_sub (by omega), Nat.add_sub_cancel]) rfl (by omega) ?_
    simp only [cntB] at K
    refine e2_if rfl rfl (fun z => ?_) (fun z => ?_)
    · simp only [z, not_true_eq_false, decide_false, Bool.false_eq_true, if_false] at K
      repeat (first | refine e2_stepS 4 rfl rfl rfl ?_ | refine e2c_getS 4 rfl hi rfl rfl rfl rfl ?_ | refine e2c_lgetS 4 rfl rfl rfl ?_ | refine e2c_ialdS 4 rfl _ hi rfl rfl rfl rfl (by omega) ?_)
      rw [nI_add']
      simp only [Nat.add_assoc, Nat.add_zero] at K ⊢
      exact K
    · simp only [z, not_false_eq_true, decide_true, if_true] at K
      repeat (first | refine e2_stepS 4 rfl rfl rfl ?_ | refine e2c_getS 4 rfl hi rfl rfl rfl rfl ?_ | refine e2c_lgetS 4 rfl rfl rfl ?_ | refine e2c_ialdS 4 rfl _ hi rfl rfl rfl rfl (by omega) ?_)
      rw [nI_add', nI_add']
      simp only [Nat.add_assoc, Nat.add_zero] at K ⊢
      exact K
  · repeat (first | refine e2_step rfl rfl ?_ | refine e2c_get hi rfl rfl rfl rfl ?_ | refine e2c_lget rfl rfl ?_ | refine e2c_iald _ hi rfl rfl rfl rfl (by omega) ?_ | refine e2c_lald _ rfl rfl (by omega) ?_)
    refine e2_if rfl rfl (fun _ => ?_) (fun c => absurd (by rw [hM, h99]; exact Int32.le_refl _) c)
    repeat (first | refine e2_step rfl rfl ?_ | refine e2c_get hi rfl rfl rfl rfl ?_ | refine e2c_lget rfl rfl ?_ | refine e2c_iald _ hi rfl rfl rfl rfl (by omega) ?_ | refine e2c_lald _ rfl rfl (by omega) ?_)
    exact e2_iret rfl rfl ⟨by rw [hM], rfl⟩
def addV (V : VV) (N : Nat) (code cat h : Int32) : VV := wv (wv (wv (wv (wv (wv (wv (wv V 4 N code) 5 N cat) 6 N (nI 0)) 7 N (nI 0)) 8 N (-9)) 9 N h) 10 N (-9)) 3 8 (V 3 8 + nI 1)
theorem v_add {N : Nat} (hi : i < 19) (hN : N < 120) (hc : V 3 8 = nI N) (code cat h : Int32) : FC ε jX2_add [.inr (i, 3), .inl code, .inl cat, .inl h] G i V s o none (addV V N code cat h) s o := by
  refine C2.of (ls := [some (.inr (i, 3)), some (.inl code), some (.inl cat), some (.inl h)]) okX2_add rfl rfl ?_
  repeat (first | refine e2_step rfl rfl ?_ | refine e2c_get hi rfl rfl rfl rfl ?_ | refine e2c_lget rfl rfl ?_ | refine e2c_iald _ hi rfl rfl rfl rfl (by omega) ?_ | refine e2c_lald _ rfl rfl (by omega) ?_)
  rw [hc]
  refine e2_if rfl rfl (fun c => absurd c (nI_ge hN (by omega))) (fun _ => ?_)
  repeat (first | refine e2_step rfl rfl ?_ | refine e2c_get hi rfl rfl rfl rfl ?_ | refine e2c_lget rfl rfl ?_ | refine e2c_iald _ hi rfl rfl rfl rfl (by omega) ?_ | refine e2c_lald _ rfl rfl (by omega) ?_)
  rw [hc]
  repeat (first | refine e2_step rfl rfl ?_ | refine e2c_get hi rfl rfl rfl rfl ?_ | refine e2c_lget rfl rfl ?_ | refine e2c_iald _ hi rfl rfl rfl rfl (by omega) ?_ | refine e2c_lald _ rfl rfl (by omega) ?_)
  refine e2c_iast N hi rfl rfl rfl rfl hN ?_
  repeat (first | refine e2_step rfl rfl ?_ | refine e2c_get hi rfl rfl rfl rfl ?_ | refine e2c_lget rfl rfl ?_ | refine e2c_iald _ hi rfl rfl rfl rfl (by omega) ?_ | refine e2c_lald _ rfl rfl (by omega) ?_)
  refine e2c_iast N hi rfl rfl hc rfl hN ?_
  repeat (first | refine e2_step rfl rfl ?_ | refine e2c_get hi rfl rfl rfl rfl ?_ | refine e2c_lget rfl rfl ?_ | refine e2c_iald _ hi rfl rfl rfl rfl (by omega) ?_ | refine e2c_lald _ rfl rfl (by omega) ?_)
  refine e2c_iast N hi rfl rfl hc rfl hN ?_
  repeat (first | refine e2_step rfl rfl ?_ | refine e2c_get hi rfl rfl rfl rfl ?_ | refine e2c_lget rfl rfl ?_ | refine e2c_iald _ hi rfl rfl rfl rfl (by omega) ?_ | refine e2c_lald _ rfl rfl (by omega) ?_)
  refine e2c_iast N hi rfl rfl hc rfl hN ?_
  repeat (first | refine e2_step rfl rfl ?_ | refine e2c_get hi rfl rfl rfl rfl ?_ | refine e2c_lget rfl rfl ?_ | refine e2c_iald _ hi rfl rfl rfl rfl (by omega) ?_ | refine e2c_lald _ rfl rfl (by omega) ?_)
  refine e2c_iast N hi rfl rfl hc rfl hN ?_
  repeat (first | refine e2_step rfl rfl ?_ | refine e2c_get hi rfl rfl rfl rfl ?_ | refine e2c_lget rfl rfl ?_ | refine e2c_iald _ hi rfl rfl rfl rfl (by omega) ?_ | refine e2c_lald _ rfl rfl (by omega) ?_)
  refine e2c_iast N hi rfl rfl hc rfl hN ?_
  repeat (first | refine e2_step rfl rfl ?_ | refine e2c_get hi rfl rfl rfl rfl ?_ | refine e2c_lget rfl rfl ?_ | refine e2c_iald _ hi rfl rfl rfl rfl (by omega) ?_ | refine e2c_lald _ rfl rfl (by omega) ?_)
  refine e2c_iast N hi rfl rfl hc rfl hN ?_
  repeat (first | refine e2_step rfl rfl ?_ | refine e2c_get hi rfl rfl rfl rfl ?_ | refine e2c_lget rfl rfl ?_ | refine e2c_iald _ hi rfl rfl rfl rfl (by omega) ?_ | refine e2c_lald _ rfl rfl (by omega) ?_)
  refine e2c_put hi rfl rfl rfl rfl rfl rfl rfl ?_
  exact e2_vret rfl rfl ⟨rfl, rfl⟩
def ofwV (V : VV) (w : Int32) : Int32 := firstFrom (fun c => decide (V 13 c = w)) 6 0
theorem k_ofWalk (hi : i < 19) (w : Int32) : FC ε jX0_ofWalk [.inr (i, 12), .inl w] G i V s o (some (ofwV V w)) V s o := by
  refine C2.of (ls := [some (.inr (i, 12)), some (.inl w), none]) okX0_ofWalk rfl rfl ?_
  repeat (first | refine e2_stepS 2 rfl rfl rfl ?_ | refine e2c_getS 2 rfl hi rfl rfl rfl rfl ?_ | refine e2c_lgetS 2 rfl rfl rfl ?_ | refine e2c_ialdS 2 rfl _ hi rfl rfl rfl rfl (by omega) ?_)
  have h : ∀ k c, c + k = 6 → E2 ε jX0_ofWalk 2 [some (.inr (i, 12)), some (.inl w), some (.inl (nI c))] [] (cG G i V s o) (fun v' G' => v' = some (firstFrom (fun c => decide (V 13 c = w)) k c) ∧ G' = cG G i V s o) := by
    intro k
    induction k with
    | zero =>
      intro c hc
      repeat (first | refine e2_step rfl rfl ?_ | refine e2c_get hi rfl rfl rfl rfl ?_ | refine e2c_lget rfl rfl ?_ | refine e2c_iald _ hi rfl rfl rfl rfl (by omega) ?_ | refine e2c_lald _ rfl rfl (by omega) ?_)
      refine e2_if rfl rfl (fun _ => ?_) (fun z => absurd (nI_le (by omega) (by omega)) z)
      repeat (first | refine e2_step rfl rfl ?_ | refine e2c_get hi rfl rfl rfl rfl ?_ | refine e2c_lget rfl rfl ?_ | refine e2c_iald _ hi rfl rfl rfl rfl (by omega) ?_ | refine e2c_lald _ rfl rfl (by omega) ?_)
      exact e2_iret rfl rfl ⟨rfl, rfl⟩
    | succ k ih =>
      intro c hc
      repeat (first | refine e2_step rfl rfl ?_ | refine e2c_get hi rfl rfl rfl rfl ?_ | refine e2c_lget rfl rfl ?_ | refine e2c_iald _ hi rfl rfl rfl rfl (by omega) ?_ | refine e2c_lald _ rfl rfl (by omega) ?_)
      refine e2_if rfl rfl (fun z => absurd z (nI_ge (by omega) (by omega))) (fun _ => ?_)
      repeat (first | refine e2_step rfl rfl ?_ | refine e2c_get hi rfl rfl rfl rfl ?_ | refine e2c_lget rfl rfl ?_ | refine e2c_iald _ hi rfl rfl rfl rfl (by omega) ?_ | refine e2c_lald _ rfl rfl (by omega) ?_)
      refine e2_if rfl rfl (fun z => ?_) (fun z => ?_)
      · repeat (first | refine e2_stepS 2 rfl rfl rfl ?_ | refine e2c_getS 2 rfl hi rfl rfl rfl rfl ?_ | refine e2c_lgetS 2 rfl rfl rfl ?_ | refine e2c_ialdS 2 rfl _ hi rfl rfl rfl rfl (by omega) ?_)
        rw [nI_add']
        have := ih (c + 1) (by omega)
        simp only [firstFrom, z, decide_false, Bool.false_eq_true, if_false]
        exact this
      · repeat (first | refine e2_step rfl rfl ?_ | refine e2c_get hi rfl rfl rfl rfl ?_ | refine e2c_lget rfl rfl ?_ | refine e2c_iald _ hi rfl rfl rfl rfl (by omega) ?_ | refine e2c_lald _ rfl rfl (by omega) ?_)
        refine e2_iret rfl rfl ⟨?_, rfl⟩
        simp only [firstFrom, Classical.not_not.1 z, decide_true, if_true]
  exact h 6 0 rfl
/-- copying a row of the office i2 -/
theorem e2c_copy {a b nx idx kk i2 n0 : Nat} {v : Int32} {rest : List V0} (n : Nat) (hi : i < 19) (hi2 : i2 < 19) (hne : i2 ≠ i) (hk : Nat.blt kk 18 = true) (h : lk (jt J) pc = (54, a, b, v, nx, idx)) (ha : arrI kk = some (0, n0)) (hn : n ≤ n0) (hrm : (Nat.ble 1 (jf J) && Nat.ble 30 (jo J)) = true) (hrest : Nat.ble rest.length 8 = true)
    (k : E2 ε J nx ls rest (cG G i (sv V kk (fun t => if t < n then G i2 kk t else V kk t)) s o) Q) : E2 ε J pc ls (.inl (nI n) :: .inl (nI 0) :: .inr (i, kk) :: .inl (nI 0) :: .inr (i2, kk) :: rest) (cG G i V s o) Q := by
  have h18 := (lim18 hi hk).2
  refine e2_copy (n1 := 0) n h (lim18 hi2 hk).1 (lim18 hi hk).1 ha hn hrm hrest ?_
  rw [cG_set h18, cG_at h18, cG_o (Or.inl hne) (by omega) (by omega)]
  exact k
theorem e2c_copyz {a b nx idx kk i2 n0 : Nat} {v : Int32} {rest : List V0} (n : Nat) (hi : i < 19) (hi2 : i2 < 19) (hne : i2 ≠ i) (hk : Nat.blt kk 18 = true) (h : lk (jt J) pc = (54, a, b, v, nx, idx)) (ha : arrI kk = some (1, n0)) (hn : n ≤ n0) (hz : ∀ t, t < n → G i2 kk t = 0 ∨ G i2 kk t = 1) (hrm : (Nat.ble 1 (jf J) && Nat.ble 30 (jo J)) = true) (hrest : Nat.ble rest.length 8 = true)
    (k : E2 ε J nx ls rest (cG G i (sv V kk (fun t => if t < n then G i2 kk t else V kk t)) s o) Q) : E2 ε J pc ls (.inl (nI n) :: .inl (nI 0) :: .inr (i, kk) :: .inl (nI 0) :: .inr (i2, kk) :: rest) (cG G i V s o) Q := by
  have h18 := (lim18 hi hk).2
  refine e2_copyz (n1 := 0) n h (lim18 hi2 hk).1 (lim18 hi hk).1 ha hn (fun t ht => by rw [cG_o (Or.inl hne) (by omega) (by omega)]; exact hz t ht) hrm hrest ?_
  rw [cG_set h18, cG_at h18, cG_o (Or.inl hne) (by omega) (by omega)]
  exact k
theorem e2c_get2 {kf t nx idx kk i2 : Nat} {v : Int32} {fs : List V0} {w : V0} (hi2 : i2 < 19) (hne : i2 ≠ i) (hk : Nat.blt kk 18 = true) (h : lk (jt J) pc = (30, kf, t, v, nx, idx)) (ho : objV i2 kk (G i2 kk) = some (t, fs)) (hw : fs[kf]? = some w) (k : E2 ε J nx ls (w :: st) (cG G i V s o) Q) : E2 ε J pc ls (.inr (i2, kk) :: st) (cG G i V s o) Q :=
  e2_get h (lim18 hi2 hk).1 (by rw [cG_o (Or.inl hne) (by have := (lim18 hi2 hk).2; omega) (by have := (lim18 hi2 hk).2; omega)]; exact ho) hw k
def cpV (V : VV) (kk n : Nat) (g : Nat → Int32) : VV := sv V kk (fun t => if t < n then g t else V kk t)
theorem q_ranges {i2 : Nat} (hi : i < 19) (hi2 : i2 < 19) (hne : i2 ≠ i) : FC ε jX7_copyFrom [.inr (i, 1), .inr (i2, 1)] G i V s o none (cpV V 2 100 (G i2 2)) s o := by
  refine C2.of (ls := [some (.inr (i, 1)), some (.inr (i2, 1))]) okX7_copyFrom rfl rfl ?_
  repeat (first | refine e2_step rfl rfl ?_ | refine e2c_get hi rfl rfl rfl rfl ?_ | refine e2c_get2 hi2 hne rfl rfl rfl rfl ?_)
  refine e2c_copy 100 hi hi2 hne rfl rfl rfl (by omega) rfl rfl ?_
  exact e2_vret rfl rfl ⟨rfl, rfl⟩
def cpL (V : VV) (U : VV) : VV := wv (cpV (cpV (cpV (cpV (cpV (cpV (cpV (cpV V 4 120 (U 4)) 5 120 (U 5)) 6 120 (U 6)) 7 120 (U 7)) 8 120 (U 8)) 9 120 (U 9)) 10 120 (U 10)) 11 8 (U 11)) 3 8 (U 3 8)
theorem q_letters {i2 : Nat} (hi : i < 19) (hi2 : i2 < 19) (hne : i2 ≠ i) : FC ε jX2_copyFrom [.inr (i, 3), .inr (i2, 3)] G i V s o none (cpL V (G i2)) s o := by
  refine C2.of (ls := [some (.inr (i, 3)), some (.inr (i2, 3))]) okX2_copyFrom rfl rfl ?_
  repeat (first | refine e2_step rfl rfl ?_ | refine e2c_get hi rfl rfl rfl rfl ?_ | refine e2c_get2 hi2 hne rfl rfl rfl rfl ?_)
  refine e2c_copy 120 hi hi2 hne rfl rfl rfl (by omega) rfl rfl ?_
  repeat (first | refine e2_step rfl rfl ?_ | refine e2c_get hi rfl rfl rfl rfl ?_ | refine e2c_get2 hi2 hne rfl rfl rfl rfl ?_)
  refine e2c_copy 120 hi hi2 hne rfl rfl rfl (by omega) rfl rfl ?_
  repeat (first | refine e2_step rfl rfl ?_ | refine e2c_get hi rfl rfl rfl rfl ?_ | refine e2c_get2 hi2 hne rfl rfl rfl rfl ?_)
  refine e2c_copy 120 hi hi2 hne rfl rfl rfl (by omega) rfl rfl ?_
  repeat (first | refine e2_step rfl rfl ?_ | refine e2c_get hi rfl rfl rfl rfl ?_ | refine e2c_get2 hi2 hne rfl rfl rfl rfl ?_)
  refine e2c_copy 120 hi hi2 hne rfl rfl rfl (by omega) rfl rfl ?_
  repeat (first | refine e2_step rfl rfl ?_ | refine e2c_get hi rfl rfl rfl rfl ?_ | refine e2c_get2 hi2 hne rfl rfl rfl rfl ?_)
  refine e2c_copy 120 hi hi2 hne rfl rfl rfl (by omega) rfl rfl ?_
  repeat (first | refine e2_step rfl rfl ?_ | refine e2c_get hi rfl rfl rfl rfl ?_ | refine e2c_get2 hi2 hne rfl rfl rfl rfl ?_)
  refine e2c_copy 120 hi hi2 hne rfl rfl rfl (by omega) rfl rfl ?_
  repeat (first | refine e2_step rfl rfl ?_ | refine e2c_get hi rfl rfl rfl rfl ?_ | refine e2c_get2 hi2 hne rfl rfl rfl rfl ?_)
  refine e2c_copy 120 hi hi2 hne rfl rfl rfl (by omega) rfl rfl ?_
  repeat (first | refine e2_step rfl rfl ?_ | refine e2c_get hi rfl rfl rfl rfl ?_ | refine e2c_get2 hi2 hne rfl rfl rfl rfl ?_)
  refine e2c_copy 8 hi hi2 hne rfl rfl rfl (by omega) rfl rfl ?_
  repeat (first | refine e2_step rfl rfl ?_ | refine e2c_get hi rfl rfl rfl rfl ?_ | refine e2c_get2 hi2 hne rfl rfl rfl rfl ?_)
  refine e2c_put hi rfl rfl rfl rfl rfl rfl rfl ?_
  exact e2_vret rfl rfl ⟨rfl, rfl⟩
def cpK (V : VV) (U : VV) : VV := cpV (cpV (cpV (cpV V 13 6 (U 13)) 14 6 (U 14)) 15 6 (U 15)) 16 48 (U 16)
theorem q_carriers {i2 : Nat} (hi : i < 19) (hi2 : i2 < 19) (hne : i2 ≠ i) (hz : ∀ t, t < 6 → G i2 14 t = 0 ∨ G i2 14 t = 1) : FC ε jX0_copyFrom [.inr (i, 12), .inr (i2, 12)] G i V s o none (cpK V (G i2)) s o := by
  refine C2.of (ls := [some (.inr (i, 12)), some (.inr (i2, 12))]) okX0_copyFrom rfl rfl ?_
  repeat (first | refine e2_step rfl rfl ?_ | refine e2c_get hi rfl rfl rfl rfl ?_ | refine e2c_get2 hi2 hne rfl rfl rfl rfl ?_)
  refine e2c_copy 6 hi hi2 hne rfl rfl rfl (by omega) rfl rfl ?_
  repeat (first | refine e2_step rfl rfl ?_ | refine e2c_get hi rfl rfl rfl rfl ?_ | refine e2c_get2 hi2 hne rfl rfl rfl rfl ?_)
  refine e2c_copyz 6 hi hi2 hne rfl rfl rfl (by omega) hz rfl rfl ?_
  repeat (first | refine e2_step rfl rfl ?_ | refine e2c_get hi rfl rfl rfl rfl ?_ | refine e2c_get2 hi2 hne rfl rfl rfl rfl ?_)
  refine e2c_copy 6 hi hi2 hne rfl rfl rfl (by omega) rfl rfl ?_
  repeat (first | refine e2_step rfl rfl ?_ | refine e2c_get hi rfl rfl rfl rfl ?_ | refine e2c_get2 hi2 hne rfl rfl rfl rfl ?_)
  refine e2c_copy 48 hi hi2 hne rfl rfl rfl (by omega) rfl rfl ?_
  exact e2_vret rfl rfl ⟨rfl, rfl⟩
def cpO (V : VV) (U : VV) : VV := wv (wv (wv (wv (cpV (cpK (cpL (cpV V 2 100 (U 2)) U) U) 17 8 (U 17)) 0 4 (U 0 4)) 0 5 (U 0 5)) 0 6 (U 0 6)) 0 7 (U 0 7)
theorem q_office {i2 : Nat} (hi : i < 19) (hi2 : i2 < 19) (hne : i2 ≠ i) (hz : ∀ t, t < 6 → G i2 14 t = 0 ∨ G i2 14 t = 1) : FC ε jX5_copyFrom [.inr (i, 0), .inr (i2, 0)] G i V s o none (cpO V (G i2)) s o := by
  refine C2.of (ls := [some (.inr (i, 0)), some (.inr (i2, 0))]) okX5_copyFrom rfl rfl ?_
  repeat (first | refine e2_step rfl rfl ?_ | refine e2c_get hi rfl rfl rfl rfl ?_ | refine e2c_get2 hi2 hne rfl rfl rfl rfl ?_)
  refine e2c_fv (q_ranges hi hi2 hne) rfl rfl ⟨rfl, rfl, rfl⟩ rfl rfl rfl hi rfl rfl rfl rfl ?_
  repeat (first | refine e2_step rfl rfl ?_ | refine e2c_get hi rfl rfl rfl rfl ?_ | refine e2c_get2 hi2 hne rfl rfl rfl rfl ?_)
  refine e2c_fv (q_letters hi hi2 hne) rfl rfl ⟨rfl, rfl, rfl⟩ rfl rfl rfl hi rfl rfl rfl rfl ?_
  repeat (first | refine e2_step rfl rfl ?_ | refine e2c_get hi rfl rfl rfl rfl ?_ | refine e2c_get2 hi2 hne rfl rfl rfl rfl ?_)
  refine e2c_fv (q_carriers hi hi2 hne hz) rfl rfl ⟨rfl, rfl, rfl⟩ rfl rfl rfl hi rfl rfl rfl rfl ?_
  repeat (first | refine e2_step rfl rfl ?_ | refine e2c_get hi rfl rfl rfl rfl ?_ | refine e2c_get2 hi2 hne rfl rfl rfl rfl ?_)
  refine e2c_copy 8 hi hi2 hne rfl rfl rfl (by omega) rfl rfl ?_
  repeat (first | refine e2_step rfl rfl ?_ | refine e2c_get hi rfl rfl rfl rfl ?_ | refine e2c_get2 hi2 hne rfl rfl rfl rfl ?_)
  refine e2c_put hi rfl rfl rfl rfl rfl rfl rfl ?_
  repeat (first | refine e2_step rfl rfl ?_ | refine e2c_get hi rfl rfl rfl rfl ?_ | refine e2c_get2 hi2 hne rfl rfl rfl rfl ?_)
  refine e2c_put hi rfl rfl rfl rfl rfl rfl rfl ?_
  repeat (first | refine e2_step rfl rfl ?_ | refine e2c_get hi rfl rfl rfl rfl ?_ | refine e2c_get2 hi2 hne rfl rfl rfl rfl ?_)
  refine e2c_put hi rfl rfl rfl rfl rfl rfl rfl ?_
  repeat (first | refine e2_step rfl rfl ?_ | refine e2c_get hi rfl rfl rfl rfl ?_ | refine e2c_get2 hi2 hne rfl rfl rfl rfl ?_)
  refine e2c_put hi rfl rfl rfl rfl rfl rfl rfl ?_
  exact e2_vret rfl rfl ⟨rfl, rfl⟩
end NK
end
section
/-! Further of the same. -/
section Qa0
variable {V V' : VV} {r r' : Nat → Int32} {N l : Nat}
theorem sumI_congr {f g : Nat → Int32} : ∀ n, (∀ j, j < n → f j = g j) → sumI f n = sumI g n
  | 0, _ => rfl
  | n + 1, h => by
    unfold sumI
    rw [sumI_congr n (fun j hj => h j (by omega)), h n (by omega)]
theorem cntB_congr {p q : Nat → Bool} : ∀ n, (∀ j, j < n → p j = q j) → cntB p n = cntB q n
  | 0, _ => rfl
  | n + 1, h => by
    unfold cntB
    rw [cntB_congr n (fun j hj => h j (by omega)), h n (by omega)]
/-- the count without l -/
theorem cntB_one (p : Nat → Bool) {l : Nat} : ∀ n, l < n → cntB p n = cntB (fun j => p j && decide (¬ j = l)) n + (if p l then 1 else 0)
  | 0, h => by omega
  | n + 1, h => by
    unfold cntB
    by_cases hl : l = n
    · subst hl
      have : cntB (fun j => p j && decide (¬ j = l)) l = cntB p l := cntB_congr l (fun j hj => by
        show (p j && decide (¬ j = l)) = p j
        rw [decide_eq_true (by omega), Bool.and_true])
      rw [this]
      simp
    · rw [cntB_one (l := l) p n (by omega)]
      have hd : decide (¬ n = l) = true := decide_eq_true (p := ¬ n = l) (fun z => hl z.symm)
      rw [hd, Bool.and_true]
      omega
end Qa0
section Qb0
variable {V U : VV} {r : Nat → Int32} {N l : Nat}
def lenO (kk : Nat) : Nat := match kk with
  | 2 => 100 | 4 => 120 | 5 => 120 | 6 => 120 | 7 => 120 | 8 => 120 | 9 => 120 | 10 => 120 | 11 => 8 | 13 => 6 | 14 => 6 | 15 => 6 | 16 => 48 | 17 => 8 | _ => 0
/-- two offices that show the same -/
def AgO (U V : VV) : Prop := (∀ kk t, t < lenO kk → V kk t = U kk t) ∧ V 0 4 = U 0 4 ∧ V 0 5 = U 0 5 ∧ V 0 6 = U 0 6 ∧ V 0 7 = U 0 7 ∧ V 3 8 = U 3 8
theorem AgO.rf : AgO U U := ⟨fun _ _ _ => rfl, rfl, rfl, rfl, rfl, rfl⟩
theorem cpO_ag : AgO U (cpO V U) := by
  refine ⟨fun kk t ht => ?_, rfl, rfl, rfl, rfl, rfl⟩
  have hk : kk = 2 ∨ kk = 4 ∨ kk = 5 ∨ kk = 6 ∨ kk = 7 ∨ kk = 8 ∨ kk = 9 ∨ kk = 10 ∨ kk = 11 ∨ kk = 13 ∨ kk = 14 ∨ kk = 15 ∨ kk = 16 ∨ kk = 17 := by
    unfold lenO at ht
    split at ht <;> omega
  rcases hk with rfl | rfl | rfl | rfl | rfl | rfl | rfl | rfl | rfl | rfl | rfl | rfl | rfl | rfl
  · show (if t < 100 then U 2 t else _) = _
    exact if_pos ht
  · show (if t < 120 then U 4 t else _) = _
    exact if_pos ht
  · show (if t < 120 then U 5 t else _) = _
    exact if_pos ht
  · show (if t < 120 then U 6 t else _) = _
    exact if_pos ht
  · show (if t < 120 then U 7 t else _) = _
    exact if_pos ht
  · show (if t < 120 then U 8 t else _) = _
    exact if_pos ht
  · show (if t < 120 then U 9 t else _) = _
    exact if_pos ht
  · show (if t < 120 then U 10 t else _) = _
    exact if_pos ht
  · show (if t < 8 then U 11 t else _) = _
    exact if_pos ht
  · show (if t < 6 then U 13 t else _) = _
    exact if_pos ht
  · show (if t < 6 then U 14 t else _) = _
    exact if_pos ht
  · show (if t < 6 then U 15 t else _) = _
    exact if_pos ht
  · show (if t < 48 then U 16 t else _) = _
    exact if_pos ht
  · show (if t < 8 then U 17 t else _) = _
    exact if_pos ht
end Qb0
end
section
/-! Moments: an office with its slots. -/
section NM
variable {ε : EE} {J : JT} {pc : Nat} {ls : List (Option V0)} {st : List V0} {G : GG} {Q : Option Int32 → GG → Prop}
theorem e2_forP (N : Nat) (L : Nat → List (Option V0)) (I : Nat → GG → Prop) (h0 : I 0 G) (hs : ∀ i, i < N → ∀ G1, I i G1 → (∀ G2, I (i + 1) G2 → E2 ε J pc (L (i + 1)) [] G2 Q) → E2 ε J pc (L i) [] G1 Q) (he : ∀ M, M = N → ∀ G1, I M G1 → E2 ε J pc (L M) [] G1 Q) : E2 ε J pc (L 0) [] G Q := by
  have h : ∀ k i, i + k = N → ∀ G1, I i G1 → E2 ε J pc (L i) [] G1 Q := by
    intro k
    induction k with
    | zero =>
      intro i hi G1 h1
      exact he i (by omega) G1 h1
    | succ k ih =>
      intro i hi G1 h1
      exact hs i (by omega) G1 h1 (fun G2 h2 => ih (i + 1) (by omega) G2 h2)
  exact h N 0 (by omega) G h0
def cpG (G : GG) (i i2 : Nat) : GG := cG G i (cpO (G i) (G i2)) (G 0 40 1) (G 0 41)
theorem cpG_at (G : GG) (i i2 : Nat) {kk : Nat} (h : kk < 18) : cpG G i i2 i kk = cpO (G i) (G i2) kk := cG_at h
theorem cpG_o (G : GG) (i i2 : Nat) {i' kk : Nat} (h : i' ≠ i ∨ 18 ≤ kk) : cpG G i i2 i' kk = G i' kk := by
  unfold cpG cG
  rw [if_neg (by omega)]
  by_cases h1 : i' = 0 ∧ kk = 40
  · rw [if_pos h1, h1.1, h1.2]
    funext j
    unfold upd
    split
    · rename_i hj; rw [hj]
    · rfl
  · rw [if_neg h1]
    by_cases h2 : i' = 0 ∧ kk = 41
    · rw [if_pos h2, h2.1, h2.2]
    · rw [if_neg h2]
theorem cpG_ag (G : GG) (i i2 : Nat) : AgO (G i2) (cpG G i i2 i) := by
  have h := cpO_ag (V := G i) (U := G i2)
  refine ⟨fun kk t ht => ?_, ?_, ?_, ?_, ?_, ?_⟩
  · have hk : kk < 18 := by
      unfold lenO at ht
      split at ht <;> omega
    rw [cpG_at G i i2 hk]
    exact h.1 kk t ht
  · rw [cpG_at G i i2 (by decide)]; exact h.2.1
  · rw [cpG_at G i i2 (by decide)]; exact h.2.2.1
  · rw [cpG_at G i i2 (by decide)]; exact h.2.2.2.1
  · rw [cpG_at G i i2 (by decide)]; exact h.2.2.2.2.1
  · rw [cpG_at G i i2 (by decide)]; exact h.2.2.2.2.2
theorem Q_office {i i2 : Nat} (hi : i < 19) (hi2 : i2 < 19) (hne : i2 ≠ i) (hz : ∀ t, t < 6 → G i2 14 t = 0 ∨ G i2 14 t = 1) : F2 ε jX5_copyFrom [.inr (i, 0), .inr (i2, 0)] G none (cpG G i i2) := by
  have h := q_office (ε := ε) (G := G) (V := G i) (s := G 0 40 1) (o := G 0 41) hi hi2 hne hz
  unfold FC at h
  rw [cG_self] at h
  exact h
/-- an office may be copied: its carriers' truths are truths -/
def okZ (U : VV) : Prop := ∀ t, t < 6 → U 14 t = 0 ∨ U 14 t = 1
/-- moment j behind the copying of moment m -/
def CpM (G G' : GG) (j m : Nat) : Prop := AgO (G (3 * m)) (G' (3 * j)) ∧ (∀ t, t < 2 → G' j 22 t = G m 22 t ∧ (G m 22 t = 1 → AgO (G (3 * m + 1 + t)) (G' (3 * j + 1 + t)))) ∧ (∀ i kk, ¬ (3 * j ≤ i ∧ i < 3 * j + 3 ∧ kk < 18) → ¬ (i = j ∧ kk = 22) → G' i kk = G i kk)
theorem wr_o {G : GG} {j k t : Nat} {x : Int32} {i kk : Nat} (h : ¬ (i = j ∧ kk = k)) : wr G j k t x i kk = G i kk := by
  by_cases h1 : i = j
  · subst h1
    exact setA_k _ _ _ _ _ _ (fun q => h ⟨rfl, q⟩)
  · exact setA_i _ _ _ _ _ _ h1
theorem wr_s {G : GG} {j k t : Nat} {x : Int32} : wr G j k t x j k t = x := by
  unfold wr
  rw [setA_s]
  exact if_pos rfl
theorem wr_u {G : GG} {j k t u : Nat} {x : Int32} (h : u ≠ t) : wr G j k t x j k u = G j k u := by
  unfold wr
  rw [setA_s]
  exact if_neg h
set_option maxHeartbeats 2000000 in
theorem q_moment {j m : Nat} (hj : j < 6) (hm : m < 6) (hne : m ≠ j) (hz0 : okZ (G (3 * m))) (hf : ∀ t, t < 2 → (G m 22 t = 0 ∨ G m 22 t = 1) ∧ (G m 22 t = 1 → okZ (G (3 * m + 1 + t)))) : C2 ε jX4_copyFrom [.inr (j, 20), .inr (m, 20)] G (fun v G' => v = none ∧ CpM G G' j m) := by
  refine C2.of (ls := [some (.inr (j, 20)), some (.inr (m, 20)), none]) okX4_copyFrom rfl rfl ?_
  repeat (first | refine e2_step rfl rfl ?_ | refine e2_get rfl (by first | exact hj | exact hm) rfl rfl ?_)
  refine e2_fv (Q_office (i := 3 * j) (i2 := 3 * m) (by omega) (by omega) (by omega) hz0) rfl rfl ⟨rfl, rfl, rfl⟩ rfl rfl rfl (show 3 * j < 19 by omega) rfl rfl rfl ?_
  refine e2_step rfl rfl ?_
  refine e2_step rfl rfl ?_
  refine e2_forP 2 (fun t => [some (.inr (j, 20)), some (.inr (m, 20)), some (.inl (nI t))]) (fun t G1 => AgO (G (3 * m)) (G1 (3 * j)) ∧ (∀ u, u < t → G1 j 22 u = G m 22 u ∧ (G m 22 u = 1 → AgO (G (3 * m + 1 + u)) (G1 (3 * j + 1 + u)))) ∧ (∀ i kk, ¬ (3 * j ≤ i ∧ i < 3 * j + 1 + t ∧ kk < 18) → ¬ (i = j ∧ kk = 22) → G1 i kk = G i kk)) ⟨cpG_ag G (3 * j) (3 * m), fun u hu => absurd hu (by omega), fun i kk h1 h2 => cpG_o G (3 * j) (3 * m) (by omega)⟩ (fun t ht G1 hI K => ?_) (fun M hM G1 hI => ?_)
  · obtain ⟨I1, I2, I3⟩ := hI
    have hmt : G1 m 22 = G m 22 := I3 m 22 (by omega) (by omega)
    have hgo : ∀ G2 : GG, (∀ i kk, ¬ (i = j ∧ kk = 22) → ¬ (i = 3 * j + 1 + t ∧ kk < 18) → G2 i kk = G1 i kk) → (∀ u, u < t → G2 j 22 u = G1 j 22 u) → G2 j 22 t = G m 22 t → (G m 22 t = 1 → AgO (G (3 * m + 1 + t)) (G2 (3 * j + 1 + t))) → E2 ε jX4_copyFrom 54 [some (.inr (j, 20)), some (.inr (m, 20)), some (.inl (nI t))] [] G2 (fun v G' => v = none ∧ CpM G G' j m) := by
      intro G2 h1 h2 h3 h4
      refine e2_step rfl rfl ?_
      refine e2_step rfl rfl ?_
      rw [nI_add']
      refine K G2 ⟨?_, fun u hu => ?_, fun i kk a1 a2 => by rw [h1 i kk a2 (by omega)]; exact I3 i kk (by omega) a2⟩
      · have e : ∀ kk, kk < 18 → G2 (3 * j) kk = G1 (3 * j) kk := fun kk hk => h1 _ _ (by omega) (by omega)
        refine ⟨fun kk u hu => ?_, by rw [e 0 (by omega)]; exact I1.2.1, by rw [e 0 (by omega)]; exact I1.2.2.1, by rw [e 0 (by omega)]; exact I1.2.2.2.1, by rw [e 0 (by omega)]; exact I1.2.2.2.2.1, by rw [e 3 (by omega)]; exact I1.2.2.2.2.2⟩
        have hk : kk < 18 := by
          unfold lenO at hu
          split at hu <;> omega
        rw [e kk hk]
        exact I1.1 kk u hu
      · by_cases hut : u = t
        · subst hut
          exact ⟨h3, h4⟩
        · obtain ⟨b1, b2⟩ := I2 u (by omega)
          refine ⟨by rw [h2 u (by omega)]; exact b1, fun z => ?_⟩
          have e : ∀ kk, kk < 18 → G2 (3 * j + 1 + u) kk = G1 (3 * j + 1 + u) kk := fun kk hk => h1 _ _ (by omega) (by omega)
          have b3 := b2 z
          refine ⟨fun kk x hx => ?_, by rw [e 0 (by omega)]; exact b3.2.1, by rw [e 0 (by omega)]; exact b3.2.2.1, by rw [e 0 (by omega)]; exact b3.2.2.2.1, by rw [e 0 (by omega)]; exact b3.2.2.2.2.1, by rw [e 3 (by omega)]; exact b3.2.2.2.2.2⟩
          have hk : kk < 18 := by
            unfold lenO at hx
            split at hx <;> omega
          rw [e kk hk]
          exact b3.1 kk x hx
    have hge : ¬ ((2 : Int32) ≤ nI t) := by
      have e : t = 0 ∨ t = 1 := by omega
      rcases e with rfl | rfl <;> decide
    have hwo : ∀ i kk, ¬ (i = j ∧ kk = 22) → wr G1 j 22 t (G m 22 t) i kk = G1 i kk := fun i kk a => wr_o a
    have hww : wr G1 j 22 t (G m 22 t) j 22 t = G m 22 t := wr_s
    have hwu : ∀ u, u < t → wr G1 j 22 t (G m 22 t) j 22 u = G1 j 22 u := fun u hu => wr_u (by omega)
    refine e2_step rfl rfl ?_
    refine e2_step rfl rfl ?_
    refine e2_if rfl rfl (fun z => absurd z hge) (fun _ => ?_)
    repeat (first | refine e2_step rfl rfl ?_ | refine e2_get rfl (by first | exact hj | exact hm) rfl rfl ?_)
    refine e2_zald (i := m) (kk := 22) t rfl rfl hm rfl ht ?_
    rw [hmt]
    refine e2_zast (i := j) (kk := 22) t rfl rfl hj rfl ht (hf t ht).1 ?_
    generalize hG2 : wr G1 j 22 t (G m 22 t) = G2 at hwo hww hwu ⊢
    repeat (first | refine e2_step rfl rfl ?_ | refine e2_get rfl (by first | exact hj | exact hm) rfl rfl ?_)
    refine e2_zald (i := j) (kk := 22) t rfl rfl hj rfl ht ?_
    rw [hww]
    refine e2_if rfl rfl (fun z => ?_) (fun z => ?_)
    · exact hgo G2 (fun i kk a _ => hwo i kk a) hwu hww (fun q => absurd (z.symm.trans q) (by decide))
    · have h1 : G m 22 t = 1 := by
        rcases (hf t ht).1 with q | q
        · exact absurd q z
        · exact q
      repeat (first | refine e2_step rfl rfl ?_ | refine e2_get rfl (by first | exact hj | exact hm) rfl rfl ?_)
      refine e2_aald21 t rfl rfl hj ht ?_
      repeat (first | refine e2_step rfl rfl ?_ | refine e2_get rfl (by first | exact hj | exact hm) rfl rfl ?_)
      refine e2_aald21 t rfl rfl hm ht ?_
      have hms : ∀ kk, kk < 18 → G2 (3 * m + 1 + t) kk = G (3 * m + 1 + t) kk := fun kk hk => by
        rw [hwo _ _ (by omega)]; exact I3 _ _ (by omega) (by omega)
      have hz2 : okZ (G2 (3 * m + 1 + t)) := fun u hu => by
        rw [hms 14 (by omega)]; exact (hf t ht).2 h1 u hu
      refine e2_fv (Q_office (i := 3 * j + 1 + t) (i2 := 3 * m + 1 + t) (by omega) (by omega) (by omega) hz2) rfl rfl ⟨rfl, rfl, rfl⟩ rfl rfl rfl (show 3 * j + 1 + t < 19 by omega) rfl rfl rfl ?_
      have hk22 : ∀ i, cpG G2 (3 * j + 1 + t) (3 * m + 1 + t) i 22 = G2 i 22 := fun i => cpG_o G2 (3 * j + 1 + t) (3 * m + 1 + t) (by omega)
      refine hgo _ (fun i kk a b => ?_) (fun u hu => by rw [hk22]; exact hwu u hu) (by rw [hk22]; exact hww) (fun _ => ?_)
      · rw [cpG_o G2 (3 * j + 1 + t) (3 * m + 1 + t) (by omega)]
        exact hwo i kk a
      · have b3 := cpG_ag G2 (3 * j + 1 + t) (3 * m + 1 + t)
        refine ⟨fun kk x hx => ?_, by rw [← hms 0 (by omega)]; exact b3.2.1, by rw [← hms 0 (by omega)]; exact b3.2.2.1, by rw [← hms 0 (by omega)]; exact b3.2.2.2.1, by rw [← hms 0 (by omega)]; exact b3.2.2.2.2.1, by rw [← hms 3 (by omega)]; exact b3.2.2.2.2.2⟩
        have hk : kk < 18 := by
          unfold lenO at hx
          split at hx <;> omega
        rw [← hms kk hk]
        exact b3.1 kk x hx
  · obtain ⟨I1, I2, I3⟩ := hI
    subst hM
    refine e2_step rfl rfl ?_
    refine e2_step rfl rfl ?_
    refine e2_if rfl rfl (fun _ => ?_) (fun z => absurd (Int32.le_refl _) z)
    exact e2_vret rfl rfl ⟨rfl, I1, fun u hu => I2 u hu, fun i kk h1 h2 => I3 i kk (by omega) h2⟩
end NM
end
section
/-! Small looks: helpers of the class, counts of an office and of a moment, the filling of a slot. -/
section NS
variable {ε : EE} {J : JT} {pc : Nat} {ls : List (Option V0)} {st : List V0} {G : GG} {i : Nat} {V : VV} {s : Int32} {o : Nat → Int32} {Q : Option Int32 → GG → Prop}
theorem k_countOut (hi : i < 19) : FC ε jX0_countOut [.inr (i, 12)] G i V s o (some (nI (cntB (fun c => decide (¬ V 14 c = 0)) 6))) V s o := by
  obtain ⟨n6, h6⟩ : ∃ n, n = 6 := ⟨_, rfl⟩
  rw [← h6]
  refine C2.of (ls := [some (.inr (i, 12)), none, none]) okX0_countOut rfl rfl ?_
  repeat (first | refine e2_stepS 4 rfl rfl rfl ?_ | refine e2c_getS 4 rfl hi rfl rfl rfl rfl ?_ | refine e2c_lgetS 4 rfl rfl rfl ?_ | refine e2c_ialdS 4 rfl _ hi rfl rfl rfl rfl (by omega) ?_)
  refine e2_for n6 (fun c => [some (.inr (i, 12)), some (.inl (nI (cntB (fun c => decide (¬ V 14 c = 0)) c))), some (.inl (nI c))]) (fun _ => cG G i V s o) (fun c hc K => ?_) (fun M hM => ?_)
  · repeat (first | refine e2_step rfl rfl ?_ | refine e2c_get hi rfl rfl rfl rfl ?_ | refine e2c_lget rfl rfl ?_ | refine e2c_iald _ hi rfl rfl rfl rfl (by omega) ?_ | refine e2c_lald _ rfl rfl (by omega) ?_)
    refine e2_if rfl rfl (fun z => absurd z (nI_ge (by omega) (by omega))) (fun _ => ?_)
    repeat (first | refine e2_step rfl rfl ?_ | refine e2c_get hi rfl rfl rfl rfl ?_ | refine e2c_lget rfl rfl ?_ | refine e2c_iald _ hi rfl rfl rfl rfl (by omega) ?_ | refine e2c_lald _ rfl rfl (by omega) ?_)
    refine e2c_zald c hi rfl rfl rfl rfl (by omega) ?_
    simp only [cntB] at K
    refine e2_if rfl rfl (fun z => ?_) (fun z => ?_)
    · simp only [z, not_true_eq_false, decide_false, Bool.false_eq_true, if_false, Nat.add_zero] at K
      repeat (first | refine e2_stepS 4 rfl rfl rfl ?_ | refine e2c_getS 4 rfl hi rfl rfl rfl rfl ?_ | refine e2c_lgetS 4 rfl rfl rfl ?_ | refine e2c_ialdS 4 rfl _ hi rfl rfl rfl rfl (by omega) ?_)
      rw [nI_add']
      exact K
    · simp only [z, not_false_eq_true, decide_true, if_true] at K
      repeat (first | refine e2_stepS 4 rfl rfl rfl ?_ | refine e2c_getS 4 rfl hi rfl rfl rfl rfl ?_ | refine e2c_lgetS 4 rfl rfl rfl ?_ | refine e2c_ialdS 4 rfl _ hi rfl rfl rfl rfl (by omega) ?_)
      rw [nI_add', nI_add']
      exact K
  · repeat (first | refine e2_step rfl rfl ?_ | refine e2c_get hi rfl rfl rfl rfl ?_ | refine e2c_lget rfl rfl ?_ | refine e2c_iald _ hi rfl rfl rfl rfl (by omega) ?_ | refine e2c_lald _ rfl rfl (by omega) ?_)
    refine e2_if rfl rfl (fun _ => ?_) (fun c => absurd (by rw [hM, h6]; exact Int32.le_refl _) c)
    repeat (first | refine e2_step rfl rfl ?_ | refine e2c_get hi rfl rfl rfl rfl ?_ | refine e2c_lget rfl rfl ?_ | refine e2c_iald _ hi rfl rfl rfl rfl (by omega) ?_ | refine e2c_lald _ rfl rfl (by omega) ?_)
    exact e2_iret rfl rfl ⟨by rw [hM], rfl⟩
theorem q_countSnapshots {j : Nat} (hj : j < 6) : F2 ε jX4_countSnapshots [.inr (j, 20)] G (some (nI (cntB (fun c => decide (¬ G j 22 c = 0)) 2))) G := by
  obtain ⟨n2, h2⟩ : ∃ n, n = 2 := ⟨_, rfl⟩
  rw [← h2]
  refine C2.of (ls := [some (.inr (j, 20)), none, none]) okX4_countSnapshots rfl rfl ?_
  repeat (first | refine e2_stepS 4 rfl rfl rfl ?_)
  refine e2_for n2 (fun c => [some (.inr (j, 20)), some (.inl (nI (cntB (fun c => decide (¬ G j 22 c = 0)) c))), some (.inl (nI c))]) (fun _ => G) (fun c hc K => ?_) (fun M hM => ?_)
  · refine e2_step rfl rfl ?_
    refine e2_step rfl rfl ?_
    refine e2_if rfl rfl (fun z => absurd z (nI_ge (by omega) (by omega))) (fun _ => ?_)
    repeat (first | refine e2_step rfl rfl ?_ | refine e2_get rfl hj rfl rfl ?_)
    refine e2_zald (i := j) (kk := 22) c rfl rfl hj rfl (by omega) ?_
    simp only [cntB] at K
    refine e2_if rfl rfl (fun z => ?_) (fun z => ?_)
    · simp only [z, not_true_eq_false, decide_false, Bool.false_eq_true, if_false, Nat.add_zero] at K
      repeat (first | refine e2_stepS 4 rfl rfl rfl ?_)
      rw [nI_add']
      exact K
    · simp only [z, not_false_eq_true, decide_true, if_true] at K
      repeat (first | refine e2_stepS 4 rfl rfl rfl ?_)
      rw [nI_add', nI_add']
      exact K
  · refine e2_step rfl rfl ?_
    refine e2_step rfl rfl ?_
    refine e2_if rfl rfl (fun _ => ?_) (fun c => absurd (by rw [hM, h2]; exact Int32.le_refl _) c)
    refine e2_step rfl rfl ?_
    exact e2_iret rfl rfl ⟨by rw [hM], rfl⟩
theorem q_fillSlot {j t : Nat} (hj : j < 6) (ht : t < 2) (hz : okZ (G (3 * j))) : F2 ε jX4_fillSlot [.inr (j, 20), .inl (nI t)] G none (wr (cpG G (3 * j + 1 + t) (3 * j)) j 22 t 1) := by
  refine C2.of (ls := [some (.inr (j, 20)), some (.inl (nI t))]) okX4_fillSlot rfl rfl ?_
  repeat (first | refine e2_step rfl rfl ?_ | refine e2_get rfl hj rfl rfl ?_)
  refine e2_aald21 t rfl rfl hj ht ?_
  repeat (first | refine e2_step rfl rfl ?_ | refine e2_get rfl hj rfl rfl ?_)
  refine e2_fv (Q_office (i := 3 * j + 1 + t) (i2 := 3 * j) (by omega) (by omega) (by omega) hz) rfl rfl ⟨rfl, rfl, rfl⟩ rfl rfl rfl (show 3 * j + 1 + t < 19 by omega) rfl rfl rfl ?_
  repeat (first | refine e2_step rfl rfl ?_ | refine e2_get rfl hj rfl rfl ?_)
  refine e2_zast (i := j) (kk := 22) t rfl rfl hj rfl ht (Or.inr rfl) ?_
  exact e2_vret rfl rfl ⟨rfl, rfl⟩
end NS
end
section
/-! More looks of an office. -/
section NT
variable {ε : EE} {J : JT} {pc : Nat} {ls : List (Option V0)} {st : List V0} {G : GG} {i : Nat} {V : VV} {s : Int32} {o : Nat → Int32} {Q : Option Int32 → GG → Prop}
theorem k_countRounds (hi : i < 19) : FC ε jX0_countRounds [.inr (i, 12)] G i V s o (some (sumI (V 16) 48)) V s o := by
  obtain ⟨n48, h48⟩ : ∃ n, n = 48 := ⟨_, rfl⟩
  rw [← h48]
  refine C2.of (ls := [some (.inr (i, 12)), none, none]) okX0_countRounds rfl rfl ?_
  repeat (first | refine e2_stepS 4 rfl rfl rfl ?_ | refine e2c_getS 4 rfl hi rfl rfl rfl rfl ?_ | refine e2c_lgetS 4 rfl rfl rfl ?_ | refine e2c_ialdS 4 rfl _ hi rfl rfl rfl rfl (by omega) ?_)
  refine e2_for n48 (fun l => [some (.inr (i, 12)), some (.inl (sumI (V 16) l)), some (.inl (nI l))]) (fun l => cG G i V s o) (fun l hl K => ?_) (fun M hM => ?_)
  · repeat (first | refine e2_step rfl rfl ?_ | refine e2c_get hi rfl rfl rfl rfl ?_ | refine e2c_lget rfl rfl ?_ | refine e2c_iald _ hi rfl rfl rfl rfl (by omega) ?_ | refine e2c_lald _ rfl rfl (by omega) ?_)
    refine e2_alen (i := i) (kk := 16) (n := 48) rfl hi rfl (by decide) ?_
    refine e2_if rfl rfl (fun c => absurd c (nI_ge (by omega) (by omega))) (fun _ => ?_)
    repeat (first | refine e2_stepS 4 rfl rfl rfl ?_ | refine e2c_getS 4 rfl hi rfl rfl rfl rfl ?_ | refine e2c_lgetS 4 rfl rfl rfl ?_ | refine e2c_ialdS 4 rfl _ hi rfl rfl rfl rfl (by omega) ?_)
    rw [nI_add']
    exact K
  · repeat (first | refine e2_step rfl rfl ?_ | refine e2c_get hi rfl rfl rfl rfl ?_ | refine e2c_lget rfl rfl ?_ | refine e2c_iald _ hi rfl rfl rfl rfl (by omega) ?_ | refine e2c_lald _ rfl rfl (by omega) ?_)
    refine e2_alen (i := i) (kk := 16) (n := 48) rfl hi rfl (by decide) ?_
    refine e2_if rfl rfl (fun _ => ?_) (fun c => absurd (by rw [hM, h48]; exact Int32.le_refl _) c)
    repeat (first | refine e2_step rfl rfl ?_ | refine e2c_get hi rfl rfl rfl rfl ?_ | refine e2c_lget rfl rfl ?_ | refine e2c_iald _ hi rfl rfl rfl rfl (by omega) ?_ | refine e2c_lald _ rfl rfl (by omega) ?_)
    exact e2_iret rfl rfl ⟨by rw [hM], rfl⟩
def stryV (V : VV) (l : Nat) : Bool := decide (V 7 l = nI 1) && decide (¬ V 8 l = nI (wkV V l))
theorem w_countStray {N : Nat} (hi : i < 19) (hN : N ≤ 120) (hok : okV V N) (hc : V 3 8 = nI N) : FC ε jX5_countStrayLetters [.inr (i, 0)] G i V s o (some (nI (cntB (stryV V) N))) V s o := by
  refine C2.of (ls := [some (.inr (i, 0)), none, none]) okX5_countStrayLetters rfl rfl ?_
  repeat (first | refine e2_stepS 4 rfl rfl rfl ?_ | refine e2c_getS 4 rfl hi rfl rfl rfl rfl ?_ | refine e2c_lgetS 4 rfl rfl rfl ?_ | refine e2c_ialdS 4 rfl _ hi rfl rfl rfl rfl (by omega) ?_)
  refine e2_for N (fun l => [some (.inr (i, 0)), some (.inl (nI (cntB (stryV V) l))), some (.inl (nI l))]) (fun _ => cG G i V s o) (fun l hl K => ?_) (fun M hM => ?_)
  · repeat (first | refine e2_step rfl rfl ?_ | refine e2c_get hi rfl rfl rfl rfl ?_ | refine e2c_lget rfl rfl ?_ | refine e2c_iald _ hi rfl rfl rfl rfl (by omega) ?_ | refine e2c_lald _ rfl rfl (by omega) ?_)
    rw [hc]
    refine e2_if rfl rfl (fun z => absurd z (nI_ge hl (by omega))) (fun _ => ?_)
    repeat (first | refine e2_step rfl rfl ?_ | refine e2c_get hi rfl rfl rfl rfl ?_ | refine e2c_lget rfl rfl ?_ | refine e2c_iald _ hi rfl rfl rfl rfl (by omega) ?_ | refine e2c_lald _ rfl rfl (by omega) ?_)
    simp only [cntB] at K
    have hs : stryV V l = (decide (V 7 l = nI 1) && decide (¬ V 8 l = nI (wkV V l))) := rfl
    refine e2_if rfl rfl (fun z => ?_) (fun z => ?_)
    · have z' : ¬ V 7 l = nI 1 := z
      rw [hs, decide_eq_false z', Bool.false_and] at K
      simp only [Bool.false_eq_true, if_false, Nat.add_zero] at K
      repeat (first | refine e2_stepS 4 rfl rfl rfl ?_ | refine e2c_getS 4 rfl hi rfl rfl rfl rfl ?_ | refine e2c_lgetS 4 rfl rfl rfl ?_ | refine e2c_ialdS 4 rfl _ hi rfl rfl rfl rfl (by omega) ?_)
      rw [nI_add']
      exact K
    · have z' : V 7 l = nI 1 := Classical.not_not.1 z
      repeat (first | refine e2_step rfl rfl ?_ | refine e2c_get hi rfl rfl rfl rfl ?_ | refine e2c_lget rfl rfl ?_ | refine e2c_iald _ hi rfl rfl rfl rfl (by omega) ?_ | refine e2c_lald _ rfl rfl (by omega) ?_)
      refine e2c_fi (w_walkOf hi hN hok hl) rfl rfl ⟨rfl, rfl, rfl⟩ rfl rfl rfl hi rfl rfl rfl rfl ?_
      refine e2_if rfl rfl (fun y => ?_) (fun y => ?_)
      · have y' : V 8 l = nI (wkV V l) := y
        rw [hs, decide_eq_false (p := ¬ V 8 l = nI (wkV V l)) (fun q => q y'), Bool.and_false] at K
        simp only [Bool.false_eq_true, if_false, Nat.add_zero] at K
        repeat (first | refine e2_stepS 4 rfl rfl rfl ?_ | refine e2c_getS 4 rfl hi rfl rfl rfl rfl ?_ | refine e2c_lgetS 4 rfl rfl rfl ?_ | refine e2c_ialdS 4 rfl _ hi rfl rfl rfl rfl (by omega) ?_)
        rw [nI_add']
        exact K
      · have y' : ¬ V 8 l = nI (wkV V l) := y
        rw [hs, decide_eq_true z', decide_eq_true y', Bool.and_true] at K
        simp only [if_true] at K
        repeat (first | refine e2_stepS 4 rfl rfl rfl ?_ | refine e2c_getS 4 rfl hi rfl rfl rfl rfl ?_ | refine e2c_lgetS 4 rfl rfl rfl ?_ | refine e2c_ialdS 4 rfl _ hi rfl rfl rfl rfl (by omega) ?_)
        rw [nI_add', nI_add']
        exact K
  · repeat (first | refine e2_step rfl rfl ?_ | refine e2c_get hi rfl rfl rfl rfl ?_ | refine e2c_lget rfl rfl ?_ | refine e2c_iald _ hi rfl rfl rfl rfl (by omega) ?_ | refine e2c_lald _ rfl rfl (by omega) ?_)
    rw [hc]
    refine e2_if rfl rfl (fun _ => ?_) (fun c => absurd (by rw [hM]; exact Int32.le_refl _) c)
    repeat (first | refine e2_step rfl rfl ?_ | refine e2c_get hi rfl rfl rfl rfl ?_ | refine e2c_lget rfl rfl ?_ | refine e2c_iald _ hi rfl rfl rfl rfl (by omega) ?_ | refine e2c_lald _ rfl rfl (by omega) ?_)
    exact e2_iret rfl rfl ⟨by rw [hM], rfl⟩
end NT
end
section
/-! The ends of a stretch of the ranges. -/
section NU
variable {ε : EE} {J : JT} {pc : Nat} {ls : List (Option V0)} {st : List V0} {G : GG} {i : Nat} {V : VV} {s : Int32} {o : Nat → Int32} {Q : Option Int32 → GG → Prop}
def fstC (f : Nat → Int32) (w : Int32) : Nat → Nat
  | 0 => 0
  | n + 1 => if f n = w then fstC f w n else n + 1
def lstC (f : Nat → Int32) (w : Int32) : Nat → Nat → Nat
  | 0, c => c
  | k + 1, c => if f (c + 1) = w then lstC f w k (c + 1) else c
theorem nI_dec (n : Nat) : nI (n + 1) + (-1) = nI n := by
  have h : nI (n + 1) = nI n + 1 := (nI_add' n 1).symm
  rw [h, Int32.add_assoc]
  exact Int32.add_zero _
theorem g_firstCode {a : Nat} (hi : i < 19) (ha : a < 100) : FC ε jX7_firstCode [.inr (i, 1), .inl (nI a)] G i V s o (some (nI (fstC (V 2) (V 2 a) a))) V s o := by
  refine C2.of (ls := [some (.inr (i, 1)), some (.inl (nI a)), none]) okX7_firstCode rfl rfl ?_
  repeat (first | refine e2_stepS 2 rfl rfl rfl ?_ | refine e2c_getS 2 rfl hi rfl rfl rfl rfl ?_ | refine e2c_lgetS 2 rfl rfl rfl ?_ | refine e2c_ialdS 2 rfl _ hi rfl rfl rfl rfl (by omega) ?_)
  have h : ∀ n, n ≤ a → V 2 n = V 2 a → E2 ε jX7_firstCode 2 [some (.inr (i, 1)), some (.inl (nI a)), some (.inl (nI n))] [] (cG G i V s o) (fun v' G' => v' = some (nI (fstC (V 2) (V 2 a) n)) ∧ G' = cG G i V s o) := by
    intro n
    induction n with
    | zero =>
      intro _ _
      repeat (first | refine e2_step rfl rfl ?_ | refine e2c_get hi rfl rfl rfl rfl ?_ | refine e2c_lget rfl rfl ?_ | refine e2c_iald _ hi rfl rfl rfl rfl (by omega) ?_ | refine e2c_lald _ rfl rfl (by omega) ?_)
      refine e2_if rfl rfl (fun _ => ?_) (fun z => absurd (Int32.le_refl _) z)
      repeat (first | refine e2_step rfl rfl ?_ | refine e2c_get hi rfl rfl rfl rfl ?_ | refine e2c_lget rfl rfl ?_ | refine e2c_iald _ hi rfl rfl rfl rfl (by omega) ?_ | refine e2c_lald _ rfl rfl (by omega) ?_)
      exact e2_iret rfl rfl ⟨rfl, rfl⟩
    | succ n ih =>
      intro hn hw
      repeat (first | refine e2_step rfl rfl ?_ | refine e2c_get hi rfl rfl rfl rfl ?_ | refine e2c_lget rfl rfl ?_ | refine e2c_iald _ hi rfl rfl rfl rfl (by omega) ?_ | refine e2c_lald _ rfl rfl (by omega) ?_)
      refine e2_if rfl rfl (fun z => absurd (show nI (n + 1) ≤ nI 0 from z) (nI_ge (by omega) (by omega))) (fun _ => ?_)
      repeat (first | refine e2_step rfl rfl ?_ | refine e2c_get hi rfl rfl rfl rfl ?_ | refine e2c_lget rfl rfl ?_ | refine e2c_iald _ hi rfl rfl rfl rfl (by omega) ?_ | refine e2c_lald _ rfl rfl (by omega) ?_)
      refine e2_if rfl rfl (fun z => absurd (show nI 100 ≤ nI (n + 1) from z) (nI_ge (by omega) (by omega))) (fun _ => ?_)
      repeat (first | refine e2_step rfl rfl ?_ | refine e2c_get hi rfl rfl rfl rfl ?_ | refine e2c_lget rfl rfl ?_ | refine e2c_iald _ hi rfl rfl rfl rfl (by omega) ?_ | refine e2c_lald _ rfl rfl (by omega) ?_)
      refine e2c_iald n hi rfl rfl (by rw [pk_sub (by omega), Nat.add_sub_cancel]) rfl (by omega) ?_
      repeat (first | refine e2_step rfl rfl ?_ | refine e2c_get hi rfl rfl rfl rfl ?_ | refine e2c_lget rfl rfl ?_ | refine e2c_iald _ hi rfl rfl rfl rfl (by omega) ?_ | refine e2c_lald _ rfl rfl (by omega) ?_)
      rw [hw]
      have hs : fstC (V 2) (V 2 a) (n + 1) = if V 2 n = V 2 a then fstC (V 2) (V 2 a) n else n + 1 := rfl
      refine e2_if rfl rfl (fun z => ?_) (fun z => ?_)
      · rw [hs, if_neg z]
        repeat (first | refine e2_step rfl rfl ?_ | refine e2c_get hi rfl rfl rfl rfl ?_ | refine e2c_lget rfl rfl ?_ | refine e2c_iald _ hi rfl rfl rfl rfl (by omega) ?_ | refine e2c_lald _ rfl rfl (by omega) ?_)
        exact e2_iret rfl rfl ⟨rfl, rfl⟩
      · rw [hs, if_pos (Classical.not_not.1 z)]
        repeat (first | refine e2_stepS 2 rfl rfl rfl ?_ | refine e2c_getS 2 rfl hi rfl rfl rfl rfl ?_ | refine e2c_lgetS 2 rfl rfl rfl ?_ | refine e2c_ialdS 2 rfl _ hi rfl rfl rfl rfl (by omega) ?_)
        rw [nI_dec]
        exact ih (by omega) (Classical.not_not.1 z)
  exact h a (Nat.le_refl _) rfl
theorem g_lastCode {a : Nat} (hi : i < 19) (ha : a < 100) : FC ε jX7_lastCode [.inr (i, 1), .inl (nI a)] G i V s o (some (nI (lstC (V 2) (V 2 a) (99 - a) a))) V s o := by
  refine C2.of (ls := [some (.inr (i, 1)), some (.inl (nI a)), none]) okX7_lastCode rfl rfl ?_
  repeat (first | refine e2_stepS 2 rfl rfl rfl ?_ | refine e2c_getS 2 rfl hi rfl rfl rfl rfl ?_ | refine e2c_lgetS 2 rfl rfl rfl ?_ | refine e2c_ialdS 2 rfl _ hi rfl rfl rfl rfl (by omega) ?_)
  have h : ∀ k c, c + k = 99 → V 2 c = V 2 a → E2 ε jX7_lastCode 2 [some (.inr (i, 1)), some (.inl (nI a)), some (.inl (nI c))] [] (cG G i V s o) (fun v' G' => v' = some (nI (lstC (V 2) (V 2 a) k c)) ∧ G' = cG G i V s o) := by
    intro k
    induction k with
    | zero =>
      intro c hc _
      have : c = 99 := by omega
      subst this
      repeat (first | refine e2_step rfl rfl ?_ | refine e2c_get hi rfl rfl rfl rfl ?_ | refine e2c_lget rfl rfl ?_ | refine e2c_iald _ hi rfl rfl rfl rfl (by omega) ?_ | refine e2c_lald _ rfl rfl (by omega) ?_)
      refine e2_if rfl rfl (fun z => absurd z (nI_pos (by omega))) (fun _ => ?_)
      repeat (first | refine e2_step rfl rfl ?_ | refine e2c_get hi rfl rfl rfl rfl ?_ | refine e2c_lget rfl rfl ?_ | refine e2c_iald _ hi rfl rfl rfl rfl (by omega) ?_ | refine e2c_lald _ rfl rfl (by omega) ?_)
      refine e2_if rfl rfl (fun _ => ?_) (fun z => absurd (Int32.le_refl _) z)
      repeat (first | refine e2_step rfl rfl ?_ | refine e2c_get hi rfl rfl rfl rfl ?_ | refine e2c_lget rfl rfl ?_ | refine e2c_iald _ hi rfl rfl rfl rfl (by omega) ?_ | refine e2c_lald _ rfl rfl (by omega) ?_)
      exact e2_iret rfl rfl ⟨rfl, rfl⟩
    | succ k ih =>
      intro c hc hw
      repeat (first | refine e2_step rfl rfl ?_ | refine e2c_get hi rfl rfl rfl rfl ?_ | refine e2c_lget rfl rfl ?_ | refine e2c_iald _ hi rfl rfl rfl rfl (by omega) ?_ | refine e2c_lald _ rfl rfl (by omega) ?_)
      refine e2_if rfl rfl (fun z => absurd z (nI_pos (by omega))) (fun _ => ?_)
      repeat (first | refine e2_step rfl rfl ?_ | refine e2c_get hi rfl rfl rfl rfl ?_ | refine e2c_lget rfl rfl ?_ | refine e2c_iald _ hi rfl rfl rfl rfl (by omega) ?_ | refine e2c_lald _ rfl rfl (by omega) ?_)
      refine e2_if rfl rfl (fun z => absurd (show nI 99 ≤ nI c from z) (nI_ge (by omega) (by omega))) (fun _ => ?_)
      repeat (first | refine e2_step rfl rfl ?_ | refine e2c_get hi rfl rfl rfl rfl ?_ | refine e2c_lget rfl rfl ?_ | refine e2c_iald _ hi rfl rfl rfl rfl (by omega) ?_ | refine e2c_lald _ rfl rfl (by omega) ?_)
      refine e2c_iald (c + 1) hi rfl rfl (nI_add' c 1) rfl (by omega) ?_
      repeat (first | refine e2_step rfl rfl ?_ | refine e2c_get hi rfl rfl rfl rfl ?_ | refine e2c_lget rfl rfl ?_ | refine e2c_iald _ hi rfl rfl rfl rfl (by omega) ?_ | refine e2c_lald _ rfl rfl (by omega) ?_)
      rw [hw]
      have hs : lstC (V 2) (V 2 a) (k + 1) c = if V 2 (c + 1) = V 2 a then lstC (V 2) (V 2 a) k (c + 1) else c := rfl
      refine e2_if rfl rfl (fun z => ?_) (fun z => ?_)
      · rw [hs, if_neg z]
        repeat (first | refine e2_step rfl rfl ?_ | refine e2c_get hi rfl rfl rfl rfl ?_ | refine e2c_lget rfl rfl ?_ | refine e2c_iald _ hi rfl rfl rfl rfl (by omega) ?_ | refine e2c_lald _ rfl rfl (by omega) ?_)
        exact e2_iret rfl rfl ⟨rfl, rfl⟩
      · rw [hs, if_pos (Classical.not_not.1 z)]
        repeat (first | refine e2_stepS 2 rfl rfl rfl ?_ | refine e2c_getS 2 rfl hi rfl rfl rfl rfl ?_ | refine e2c_lgetS 2 rfl rfl rfl ?_ | refine e2c_ialdS 2 rfl _ hi rfl rfl rfl rfl (by omega) ?_)
        rw [nI_add']
        exact ih (c + 1) (by omega) (Classical.not_not.1 z)
  exact h (99 - a) a (by omega) rfl
end NU
end
section
/-! The best carrier. -/
section Qc0
variable {ε : EE} {J : JT} {pc : Nat} {ls : List (Option V0)} {st : List V0} {G : GG} {i : Nat} {V : VV} {s : Int32} {o : Nat → Int32} {Q : Option Int32 → GG → Prop}
/-- the carrier without a walk who has most rounds on walk w, the least of those even, among the first ones -/
def bwwV (V : VV) (w : Nat) : Nat → Option Nat
  | 0 => none
  | c + 1 => if V 13 c = -9 then (match bwwV V w c with
    | none => some c
    | some b => if V 16 (c * 8 + w) ≤ V 16 (b * 8 + w) then some b else some c) else bwwV V w c
def oI : Option Nat → Int32
  | none => -9
  | some b => nI b
theorem bwwV_lt (V : VV) (w : Nat) : ∀ n b, bwwV V w n = some b → b < n := by
  intro n
  induction n with
  | zero => intro b h; cases h
  | succ n ih =>
    intro b h
    simp only [bwwV] at h
    split at h
    · split at h
      · cases h; omega
      · rename_i b' hb
        split at h
        · cases h; have := ih _ hb; omega
        · cases h; omega
    · have := ih _ h; omega
theorem k_bww {w : Nat} (hi : i < 19) (hw : w < 8) : FC ε jX0_bestWithoutWalk [.inr (i, 12), .inl (nI w)] G i V s o (some (oI (bwwV V w 6))) V s o := by
  obtain ⟨n6, h6⟩ : ∃ n, n = 6 := ⟨_, rfl⟩
  rw [← h6]
  refine C2.of (ls := [some (.inr (i, 12)), some (.inl (nI w)), none, none]) okX0_bestWithoutWalk rfl rfl ?_
  repeat (first | refine e2_stepS 5 rfl rfl rfl ?_ | refine e2c_getS 5 rfl hi rfl rfl rfl rfl ?_ | refine e2c_lgetS 5 rfl rfl rfl ?_ | refine e2c_ialdS 5 rfl _ hi rfl rfl rfl rfl (by omega) ?_)
  refine e2_for n6 (fun c => [some (.inr (i, 12)), some (.inl (nI w)), some (.inl (oI (bwwV V w c))), some (.inl (nI c))]) (fun _ => cG G i V s o) (fun c hc K => ?_) (fun M hM => ?_)
  · repeat (first | refine e2_step rfl rfl ?_ | refine e2c_get hi rfl rfl rfl rfl ?_ | refine e2c_lget rfl rfl ?_ | refine e2c_iald _ hi rfl rfl rfl rfl (by omega) ?_ | refine e2c_lald _ rfl rfl (by omega) ?_)
    refine e2_if rfl rfl (fun z => absurd z (nI_ge (by omega) (by omega))) (fun _ => ?_)
    repeat (first | refine e2_step rfl rfl ?_ | refine e2c_get hi rfl rfl rfl rfl ?_ | refine e2c_lget rfl rfl ?_ | refine e2c_iald _ hi rfl rfl rfl rfl (by omega) ?_ | refine e2c_lald _ rfl rfl (by omega) ?_)
    have hs : bwwV V w (c + 1) = if V 13 c = -9 then (match bwwV V w c with
      | none => some c
      | some b => if V 16 (c * 8 + w) ≤ V 16 (b * 8 + w) then some b else some c) else bwwV V w c := rfl
    refine e2_if rfl rfl (fun z => ?_) (fun z => ?_)
    · have z' : ¬ V 13 c = -9 := z
      rw [hs, if_neg z'] at K
      repeat (first | refine e2_stepS 5 rfl rfl rfl ?_ | refine e2c_getS 5 rfl hi rfl rfl rfl rfl ?_ | refine e2c_lgetS 5 rfl rfl rfl ?_ | refine e2c_ialdS 5 rfl _ hi rfl rfl rfl rfl (by omega) ?_)
      rw [nI_add']
      exact K
    · have z' : V 13 c = -9 := Classical.not_not.1 z
      rw [hs, if_pos z'] at K
      repeat (first | refine e2_step rfl rfl ?_ | refine e2c_get hi rfl rfl rfl rfl ?_ | refine e2c_lget rfl rfl ?_ | refine e2c_iald _ hi rfl rfl rfl rfl (by omega) ?_ | refine e2c_lald _ rfl rfl (by omega) ?_)
      cases hb : bwwV V w c with
      | none =>
        rw [hb] at K
        refine e2_if rfl rfl (fun _ => ?_) (fun y => absurd rfl y)
        repeat (first | refine e2_stepS 5 rfl rfl rfl ?_ | refine e2c_getS 5 rfl hi rfl rfl rfl rfl ?_ | refine e2c_lgetS 5 rfl rfl rfl ?_ | refine e2c_ialdS 5 rfl _ hi rfl rfl rfl rfl (by omega) ?_)
        rw [nI_add']
        exact K
      | some b =>
        rw [hb] at K
        have hlt := bwwV_lt V w c b hb
        refine e2_if rfl rfl (fun y => absurd (show nI b = -9 from y) (nI_n9 (by omega))) (fun _ => ?_)
        repeat (first | refine e2_step rfl rfl ?_ | refine e2c_get hi rfl rfl rfl rfl ?_ | refine e2c_lget rfl rfl ?_ | refine e2c_iald _ hi rfl rfl rfl rfl (by omega) ?_ | refine e2c_lald _ rfl rfl (by omega) ?_)
        refine e2c_fi (k_roundsOn (c := c) hi (by omega) hw) rfl rfl ⟨rfl, rfl, rfl⟩ rfl rfl rfl hi rfl rfl rfl rfl ?_
        repeat (first | refine e2_step rfl rfl ?_ | refine e2c_get hi rfl rfl rfl rfl ?_ | refine e2c_lget rfl rfl ?_ | refine e2c_iald _ hi rfl rfl rfl rfl (by omega) ?_ | refine e2c_lald _ rfl rfl (by omega) ?_)
        refine e2c_fi (k_roundsOn (c := b) hi (by omega) hw) rfl rfl ⟨rfl, rfl, rfl⟩ rfl rfl rfl hi rfl rfl rfl rfl ?_
        refine e2_if rfl rfl (fun y => ?_) (fun y => ?_)
        · simp only [] at K
          rw [if_pos (show V 16 (c * 8 + w) ≤ V 16 (b * 8 + w) from y)] at K
          repeat (first | refine e2_stepS 5 rfl rfl rfl ?_ | refine e2c_getS 5 rfl hi rfl rfl rfl rfl ?_ | refine e2c_lgetS 5 rfl rfl rfl ?_ | refine e2c_ialdS 5 rfl _ hi rfl rfl rfl rfl (by omega) ?_)
          rw [nI_add']
          exact K
        · simp only [] at K
          rw [if_neg (show ¬ V 16 (c * 8 + w) ≤ V 16 (b * 8 + w) from y)] at K
          repeat (first | refine e2_stepS 5 rfl rfl rfl ?_ | refine e2c_getS 5 rfl hi rfl rfl rfl rfl ?_ | refine e2c_lgetS 5 rfl rfl rfl ?_ | refine e2c_ialdS 5 rfl _ hi rfl rfl rfl rfl (by omega) ?_)
          rw [nI_add']
          exact K
  · repeat (first | refine e2_step rfl rfl ?_ | refine e2c_get hi rfl rfl rfl rfl ?_ | refine e2c_lget rfl rfl ?_ | refine e2c_iald _ hi rfl rfl rfl rfl (by omega) ?_ | refine e2c_lald _ rfl rfl (by omega) ?_)
    refine e2_if rfl rfl (fun _ => ?_) (fun c => absurd (by rw [hM, h6]; exact Int32.le_refl _) c)
    repeat (first | refine e2_step rfl rfl ?_ | refine e2c_get hi rfl rfl rfl rfl ?_ | refine e2c_lget rfl rfl ?_ | refine e2c_iald _ hi rfl rfl rfl rfl (by omega) ?_ | refine e2c_lald _ rfl rfl (by omega) ?_)
    exact e2_iret rfl rfl ⟨by rw [hM], rfl⟩
end Qc0
end
section
/-! The history: its oldest moment goes round to the end of the row. -/
section NH
variable {ε : EE} {J : JT} {pc : Nat} {ls : List (Option V0)} {st : List V0} {G : GG} {Q : Option Int32 → GG → Prop}
theorem setA_self (G : GG) (i kk : Nat) : setA G i kk (G i kk) = G := by
  funext a b
  by_cases h1 : b = kk
  · subst h1
    by_cases h2 : a = i
    · subst h2; exact setA_s _ _ _ _
    · exact setA_i _ _ _ _ _ _ h2
  · exact setA_k _ _ _ _ _ _ h1
def rotT (f : Nat → Int32) (t : Nat) : Nat → Int32 := fun p => if p < t then f (p + 1) else f p
def rotR (f : Nat → Int32) : Nat → Int32 := fun p => if p < 4 then f (p + 1) else if p = 4 then f 0 else f p
theorem rotT_0 (f : Nat → Int32) : rotT f 0 = f := by
  funext p
  exact if_neg (by omega)
theorem rotT_s (f : Nat → Int32) (t : Nat) : upd (rotT f t) t (f (t + 1)) = rotT f (t + 1) := by
  funext p
  simp only [upd, rotT]
  by_cases h : p = t
  · rw [if_pos h, if_pos (by omega), h]
  · rw [if_neg h]
    by_cases h2 : p < t
    · rw [if_pos h2, if_pos (by omega)]
    · rw [if_neg h2, if_neg (by omega)]
theorem rotT_e (f : Nat → Int32) : upd (rotT f 4) 4 (f 0) = rotR f := by
  funext p
  simp only [upd, rotT, rotR]
  by_cases h : p = 4
  · rw [if_pos h, if_neg (by omega), if_pos h]
  · rw [if_neg h]
    by_cases h2 : p < 4
    · rw [if_pos h2, if_pos h2]
    · rw [if_neg h2, if_neg h2, if_neg h]
theorem q_dropOldest (hp : ∀ p, p < 5 → ∃ m, m < 6 ∧ G 0 32 p = nI m) : F2 ε jX1_dropOldest [.inr (0, 31)] G none (wr (setA G 0 32 (rotR (G 0 32))) 0 31 1 (G 0 31 1 - 1)) := by
  obtain ⟨m0, h0, h1⟩ := hp 0 (by decide)
  refine C2.of (ls := [some (.inr (0, 31)), none, none]) okX1_dropOldest rfl rfl ?_
  repeat (first | refine e2_step rfl rfl ?_ | refine e2_get rfl (by decide) rfl rfl ?_)
  refine e2_aald32 0 rfl rfl (by decide) h1 h0 ?_
  repeat (first | refine e2_stepS 9 rfl rfl rfl ?_)
  refine e2_forP 4 (fun t => [some (.inr (0, 31)), some (.inr (m0, 20)), some (.inl (nI (t + 1)))]) (fun t G1 => G1 = setA G 0 32 (rotT (G 0 32) t)) (by rw [rotT_0, setA_self]) (fun t ht G1 hI K => ?_) (fun M hM G1 hI => ?_)
  · subst hI
    obtain ⟨m, hm, hm1⟩ := hp (t + 1) (by omega)
    have hr : setA G 0 32 (rotT (G 0 32) t) 0 32 (t + 1) = nI m := by
      rw [setA_s, ← hm1]
      exact if_neg (by omega)
    have hw : wr (setA G 0 32 (rotT (G 0 32) t)) 0 32 t (nI m) = setA G 0 32 (rotT (G 0 32) (t + 1)) := by
      unfold wr
      rw [setA_s, setA_twice, ← hm1, rotT_s]
    refine e2_step rfl rfl ?_
    refine e2_step rfl rfl ?_
    refine e2_if rfl rfl (fun z => absurd (show nI 5 ≤ nI (t + 1) from z) (nI_ge (by omega) (by omega))) (fun _ => ?_)
    repeat (first | refine e2_step rfl rfl ?_ | refine e2_get rfl (by decide) rfl rfl ?_)
    refine e2_aald32 (t + 1) rfl rfl (by omega) hr hm ?_
    refine e2_aast32 t rfl (by rw [pk_sub (by omega), Nat.add_sub_cancel]) (by omega) hm ?_
    rw [hw]
    repeat (first | refine e2_stepS 9 rfl rfl rfl ?_)
    rw [nI_add']
    exact K _ rfl
  · subst hI
    subst hM
    have hw : wr (setA G 0 32 (rotT (G 0 32) 4)) 0 32 4 (nI m0) = setA G 0 32 (rotR (G 0 32)) := by
      unfold wr
      rw [setA_s, setA_twice, ← h1, rotT_e]
    refine e2_step rfl rfl ?_
    refine e2_step rfl rfl ?_
    refine e2_if rfl rfl (fun _ => ?_) (fun z => absurd (Int32.le_refl _) z)
    repeat (first | refine e2_step rfl rfl ?_ | refine e2_get rfl (by decide) rfl rfl ?_)
    refine e2_aast32 4 rfl rfl (by omega) h0 ?_
    rw [hw]
    repeat (first | refine e2_step rfl rfl ?_ | refine e2_get rfl (by decide) rfl rfl ?_)
    refine e2_put rfl (by decide) rfl rfl rfl rfl rfl ?_
    refine e2_vret rfl rfl ⟨rfl, ?_⟩
    rw [setA_k _ _ _ _ _ _ (by decide)]
    rfl
end NH
end
section
/-! The history: remembering and giving back. -/
section NI2
variable {ε : EE} {J : JT} {pc : Nat} {ls : List (Option V0)} {st : List V0} {G : GG} {Q : Option Int32 → GG → Prop}
/-- a moment whose offices may be copied -/
def okM (G : GG) (m : Nat) : Prop := okZ (G (3 * m)) ∧ ∀ t, t < 2 → (G m 22 t = 0 ∨ G m 22 t = 1) ∧ (G m 22 t = 1 → okZ (G (3 * m + 1 + t)))
theorem okM_o {G G' : GG} {m : Nat} (h : okM G m) (he : ∀ i kk, kk = 14 ∨ kk = 22 → G' i kk = G i kk) : okM G' m := by
  refine ⟨fun t ht => ?_, fun t ht => ⟨?_, fun z u hu => ?_⟩⟩
  · rw [he _ _ (Or.inl rfl)]; exact h.1 t ht
  · rw [he _ _ (Or.inr rfl)]; exact (h.2 t ht).1
  · rw [he _ _ (Or.inr rfl)] at z
    rw [he _ _ (Or.inl rfl)]; exact (h.2 t ht).2 z u hu
theorem q_giveBack0 {j : Nat} (hd : G 0 31 1 = nI 0) : F2 ε jX1_giveBack [.inr (0, 31), .inr (j, 20)] G none G := by
  refine C2.of (ls := [some (.inr (0, 31)), some (.inr (j, 20))]) okX1_giveBack rfl rfl ?_
  repeat (first | refine e2_step rfl rfl ?_ | refine e2_get rfl (by decide) rfl rfl ?_)
  refine e2_if rfl rfl (fun _ => ?_) (fun z => absurd (show G 0 31 1 ≤ 0 from by rw [hd]; exact Int32.le_refl _) z)
  exact e2_vret rfl rfl ⟨rfl, rfl⟩
theorem q_giveBack {d m j : Nat} (hd : G 0 31 1 = nI (d + 1)) (hd5 : d < 5) (hm : G 0 32 d = nI m) (hm6 : m < 6) (hj : j < 6) (hne : m ≠ j) (hk : okM G m) : C2 ε jX1_giveBack [.inr (0, 31), .inr (j, 20)] G (fun v G' => v = none ∧ CpM (wr G 0 31 1 (nI d)) G' j m) := by
  refine C2.of (ls := [some (.inr (0, 31)), some (.inr (j, 20))]) okX1_giveBack rfl rfl ?_
  repeat (first | refine e2_step rfl rfl ?_ | refine e2_get rfl (by decide) rfl rfl ?_)
  refine e2_if rfl rfl (fun z => absurd (show nI (d + 1) ≤ nI 0 from hd ▸ z) (nI_ge (by omega) (by omega))) (fun _ => ?_)
  repeat (first | refine e2_step rfl rfl ?_ | refine e2_get rfl (by decide) rfl rfl ?_)
  refine e2_put rfl (by decide) rfl rfl rfl rfl rfl ?_
  have hx : G 0 31 1 - 1 = nI d := by
    rw [hd]
    have := pk_sub (a := d + 1) (b := 1) (by omega)
    rw [Nat.add_sub_cancel] at this
    exact this
  rw [show ∀ y, y = nI d → wr G 0 31 1 y = wr G 0 31 1 (nI d) from fun y h => by rw [h]] <;> try exact hx
  have hr : wr G 0 31 1 (nI d) 0 32 d = nI m := by rw [wr_o (by decide)]; exact hm
  have hk2 : okM (wr G 0 31 1 (nI d)) m := okM_o hk (fun i kk h => wr_o (by omega))
  have hdd : wr G 0 31 1 (nI d) 0 31 1 = nI d := wr_s
  repeat (first | refine e2_step rfl rfl ?_ | refine e2_get rfl (by first | exact hj | decide) rfl rfl ?_)
  refine e2_aald32 d rfl hdd hd5 hr hm6 ?_
  refine e2_callVv rfl ⟨rfl, rfl, rfl⟩ rfl rfl rfl rfl hj rfl rfl rfl (q_moment hj hm6 hne hk2.1 hk2.2) (fun G' z => ?_)
  exact e2_vret rfl rfl ⟨rfl, z.2⟩
end NI2
end
section
/-! The history: remembering. -/
section NJ2
variable {ε : EE} {J : JT} {pc : Nat} {ls : List (Option V0)} {st : List V0} {G : GG} {Q : Option Int32 → GG → Prop}
/-- moment j laid at place d of the history -/
def RmM (G G' : GG) (d m j : Nat) : Prop := ∃ G1, CpM G G1 m j ∧ G' = wr G1 0 31 1 (nI (d + 1))
theorem q_rem12 {d m j : Nat} (hd : G 0 31 1 = nI d) (hd5 : d < 5) (hm : G 0 32 d = nI m) (hm6 : m < 6) (hj : j < 6) (hne : j ≠ m) (hk : okM G j) : E2 ε jX1_remember 12 [some (.inr (0, 31)), some (.inr (j, 20))] [] G (fun v G' => v = none ∧ RmM G G' d m j) := by
  repeat (first | refine e2_step rfl rfl ?_ | refine e2_get rfl (by decide) rfl rfl ?_)
  refine e2_aald32 d rfl hd hd5 hm hm6 ?_
  repeat (first | refine e2_step rfl rfl ?_ | refine e2_get rfl (by decide) rfl rfl ?_)
  refine e2_callVv rfl ⟨rfl, rfl, rfl⟩ rfl rfl rfl rfl hm6 rfl rfl rfl (q_moment hm6 hj hne hk.1 hk.2) (fun G1 z => ?_)
  have hx : G1 0 31 1 + 1 = nI (d + 1) := by
    rw [z.2.2.2 0 31 (by omega) (by omega), hd]
    exact nI_add' d 1
  repeat (first | refine e2_step rfl rfl ?_ | refine e2_get rfl (by decide) rfl rfl ?_)
  refine e2_put rfl (by decide) rfl rfl rfl rfl rfl ?_
  refine e2_vret rfl rfl ⟨rfl, G1, z.2, ?_⟩
  rw [← hx]
  rfl
theorem q_remember {d m j : Nat} (hd : G 0 31 1 = nI d) (hd5 : d < 5) (hm : G 0 32 d = nI m) (hm6 : m < 6) (hj : j < 6) (hne : j ≠ m) (hk : okM G j) : C2 ε jX1_remember [.inr (0, 31), .inr (j, 20)] G (fun v G' => v = none ∧ RmM G G' d m j) := by
  refine C2.of (ls := [some (.inr (0, 31)), some (.inr (j, 20))]) okX1_remember rfl rfl ?_
  repeat (first | refine e2_step rfl rfl ?_ | refine e2_get rfl (by decide) rfl rfl ?_)
  refine e2_if rfl rfl (fun _ => ?_) (fun z => absurd (show G 0 31 1 < nI 5 from by rw [hd]; exact Int32.not_le.1 (nI_ge (by omega) (by omega))) z)
  exact q_rem12 hd hd5 hm hm6 hj hne hk
theorem q_remember5 {m j : Nat} (hd : G 0 31 1 = nI 5) (hp : ∀ p, p < 5 → ∃ m, m < 6 ∧ G 0 32 p = nI m) (hm : G 0 32 0 = nI m) (hm6 : m < 6) (hj : j < 6) (hne : j ≠ m) (hk : okM G j) : C2 ε jX1_remember [.inr (0, 31), .inr (j, 20)] G (fun v G' => v = none ∧ RmM (wr (setA G 0 32 (rotR (G 0 32))) 0 31 1 (nI 4)) G' 4 m j) := by
  refine C2.of (ls := [some (.inr (0, 31)), some (.inr (j, 20))]) okX1_remember rfl rfl ?_
  repeat (first | refine e2_step rfl rfl ?_ | refine e2_get rfl (by decide) rfl rfl ?_)
  refine e2_if rfl rfl (fun z => absurd (show G 0 31 1 < nI 5 from z) (by rw [hd]; decide)) (fun _ => ?_)
  repeat (first | refine e2_step rfl rfl ?_ | refine e2_get rfl (by decide) rfl rfl ?_)
  refine e2_fv (q_dropOldest hp) rfl rfl ⟨rfl, rfl, rfl⟩ rfl rfl rfl (by first | exact hi | decide) rfl rfl rfl ?_
  have hx : G 0 31 1 - 1 = nI 4 := by rw [hd]; rfl
  rw [hx]
  have hs : ∀ i kk, ¬ kk = 31 → ¬ kk = 32 → wr (setA G 0 32 (rotR (G 0 32))) 0 31 1 (nI 4) i kk = G i kk := fun i kk a b => by
    rw [wr_o (by omega), setA_k _ _ _ _ _ _ b]
  refine q_rem12 (d := 4) (m := m) wr_s (by decide) ?_ hm6 hj hne (okM_o hk (fun i kk h => hs i kk (by omega) (by omega)))
  rw [wr_o (by decide), setA_s, ← hm]
  rfl
end NJ2
end
section
/-! The least value. -/
section Qd0
variable {ε : EE} {J : JT} {pc : Nat} {ls : List (Option V0)} {st : List V0} {G : GG} {Q : Option Int32 → GG → Prop}
def leaF (n : Int32) : Int32 := if n = nI 8 then nI 0 else nI 1
theorem c_leastValue (n : Int32) : F2 ε jX8_leastValue [.inl n] G (some (leaF n)) G := by
  refine C2.of (ls := [some (.inl n)]) okX8_leastValue rfl rfl ?_
  repeat (first | refine e2_step rfl rfl ?_ | refine e2_get rfl (by first | exact hi | decide) rfl rfl ?_)
  refine e2_if rfl rfl (fun z => ?_) (fun z => ?_)
  · repeat (first | refine e2_step rfl rfl ?_ | refine e2_get rfl (by first | exact hi | decide) rfl rfl ?_)
    exact e2_iret rfl rfl ⟨by rw [leaF, if_neg z], rfl⟩
  · repeat (first | refine e2_step rfl rfl ?_ | refine e2_get rfl (by first | exact hi | decide) rfl rfl ?_)
    exact e2_iret rfl rfl ⟨by rw [leaF, if_pos (Classical.not_not.1 z)], rfl⟩
end Qd0
end
section
/-! tableswitch over the machine. -/
section NZ
variable {ε : EE} {J : JT} {pc : Nat} {ls : List (Option V0)} {st : List V0} {G : GG} {Q : Option Int32 → GG → Prop}
theorem e2_tabOut {dflt lo hi : Int} {offs : Array Int} {len : Nat} {x : Int32} {tgt : Nat} (hdg : decode (jb J) pc = .ok (.tableswitch dflt lo hi offs, len)) (h : x.toInt < lo ∨ hi < x.toInt) (ht : (pc : Int) + dflt = (tgt : Int)) (k : E2 ε J tgt ls st G Q) : E2 ε J pc ls (.inl x :: st) G Q := by
  intro hT p e R s m args below meth c H locs lsA C hP hD hS hl
  have K := k hT p e R s m args below meth c H locs lsA C hP hD hS hl
  obtain ⟨hx, hb, -⟩ := C
  exact lv_tableOut hx hb hdg h ht K
theorem e2_tabIn {dflt lo hi : Int} {offs : Array Int} {len : Nat} {x : Int32} {off : Int} {tgt : Nat} (j : Nat) (hdg : decode (jb J) pc = .ok (.tableswitch dflt lo hi offs, len)) (hv : x.toInt = lo + j) (hj : lo + j ≤ hi) (ho : offs[j]? = some off) (ht : (pc : Int) + off = (tgt : Int)) (k : E2 ε J tgt ls st G Q) : E2 ε J pc ls (.inl x :: st) G Q := by
  intro hT p e R s m args below meth c H locs lsA C hP hD hS hl
  have K := k hT p e R s m args below meth c H locs lsA C hP hD hS hl
  obtain ⟨hx, hb, -⟩ := C
  have e1 : (x.toInt - lo).toNat = j := by omega
  exact lv_tableIn hx hb hdg (by omega) (by omega) (by rw [e1]; exact ho) ht K
def greF (n : Int32) : Int32 := if n = nI 8 then nI 2 else if n = nI 9 then nI 40 else if n = nI 10 then nI 30 else nI 20
theorem c_greatestValue (n : Int32) : F2 ε jX8_greatestValue [.inl n] G (some (greF n)) G := by
  refine C2.of (ls := [some (.inl n)]) okX8_greatestValue rfl rfl ?_
  refine e2_step rfl rfl ?_
  have hq : ∀ k : Nat, k < 2 ^ 31 → n.toInt = k → n = nI k := fun k hk h => Int32.toInt_inj.1 (by rw [h, nI_toInt hk])
  by_cases h8 : n = nI 8
  · subst h8
    refine e2_tabIn 0 dX8_greatestValue_1 (by decide) (by decide) rfl (tgt := 28) (by decide) ?_
    repeat (first | refine e2_step rfl rfl ?_ | refine e2_get rfl (by first | exact hi | decide) rfl rfl ?_)
    exact e2_iret rfl rfl ⟨rfl, rfl⟩
  · by_cases h9 : n = nI 9
    · subst h9
      refine e2_tabIn 1 dX8_greatestValue_1 (by decide) (by decide) rfl (tgt := 30) (by decide) ?_
      repeat (first | refine e2_step rfl rfl ?_ | refine e2_get rfl (by first | exact hi | decide) rfl rfl ?_)
      exact e2_iret rfl rfl ⟨rfl, rfl⟩
    · by_cases h10 : n = nI 10
      · subst h10
        refine e2_tabIn 2 dX8_greatestValue_1 (by decide) (by decide) rfl (tgt := 33) (by decide) ?_
        repeat (first | refine e2_step rfl rfl ?_ | refine e2_get rfl (by first | exact hi | decide) rfl rfl ?_)
        exact e2_iret rfl rfl ⟨rfl, rfl⟩
      · have ho : n.toInt < 8 ∨ (10 : Int) < n.toInt := by
          rcases (by omega : n.toInt < 8 ∨ (10 : Int) < n.toInt ∨ n.toInt = 8 ∨ n.toInt = 9 ∨ n.toInt = 10) with h | h | h | h | h
          · exact Or.inl h
          · exact Or.inr h
          · exact absurd (hq 8 (by decide) h) h8
          · exact absurd (hq 9 (by decide) h) h9
          · exact absurd (hq 10 (by decide) h) h10
        refine e2_tabOut dX8_greatestValue_1 ho (tgt := 36) (by decide) ?_
        repeat (first | refine e2_step rfl rfl ?_ | refine e2_get rfl (by first | exact hi | decide) rfl rfl ?_)
        exact e2_iret rfl rfl ⟨by rw [greF, if_neg h8, if_neg h9, if_neg h10], rfl⟩
end NZ
end
section
/-! The numbers of an office. -/
section NZ1
variable {ε : EE} {J : JT} {pc : Nat} {ls : List (Option V0)} {st : List V0} {G : GG} {i : Nat} {V : VV} {s : Int32} {o : Nat → Int32} {Q : Option Int32 → GG → Prop}
def numV (V : VV) (n : Int32) : Int32 := if n = nI 8 then V 0 5 else if n = nI 9 then V 0 6 else if n = nI 10 then V 0 7 else if isInB n (nI 0) (nI 7) = true then V 17 n.toNatClampNeg else -9
theorem tab3 {n : Int32} (h8 : ¬ n = nI 8) (h9 : ¬ n = nI 9) (h10 : ¬ n = nI 10) : n.toInt < 8 ∨ (10 : Int) < n.toInt := by
  have hq : ∀ k : Nat, k < 2 ^ 31 → n.toInt = k → n = nI k := fun k hk h => Int32.toInt_inj.1 (by rw [h, nI_toInt hk])
  rcases (by omega : n.toInt < 8 ∨ (10 : Int) < n.toInt ∨ n.toInt = 8 ∨ n.toInt = 9 ∨ n.toInt = 10) with h | h | h | h | h
  · exact Or.inl h
  · exact Or.inr h
  · exact absurd (hq 8 (by decide) h) h8
  · exact absurd (hq 9 (by decide) h) h9
  · exact absurd (hq 10 (by decide) h) h10
theorem isIn_nI {n : Int32} {b : Nat} (hb : b < 2 ^ 31) (h : isInB n (nI 0) (nI b) = true) : ∃ k, k ≤ b ∧ n = nI k := by
  simp only [isInB, Bool.and_eq_true, decide_eq_true_eq] at h
  have h1 := Int32.le_iff_toInt_le.1 h.1
  have h2 := Int32.le_iff_toInt_le.1 h.2
  rw [nI_toInt (by omega)] at h1 h2
  refine ⟨n.toInt.toNat, by omega, Int32.toInt_inj.1 ?_⟩
  rw [nI_toInt (by omega)]
  omega
theorem w_number (hi : i < 19) (n : Int32) : FC ε jX5_number [.inr (i, 0), .inl n] G i V s o (some (numV V n)) V s o := by
  refine C2.of (ls := [some (.inr (i, 0)), some (.inl n)]) okX5_number rfl rfl ?_
  refine e2_step rfl rfl ?_
  by_cases h8 : n = nI 8
  · subst h8
    refine e2_tabIn 0 dX5_number_1 (by decide) (by decide) rfl (tgt := 28) (by decide) ?_
    repeat (first | refine e2_step rfl rfl ?_ | refine e2c_get hi rfl rfl rfl rfl ?_ | refine e2c_lget rfl rfl ?_ | refine e2c_iald _ hi rfl rfl rfl rfl (by omega) ?_ | refine e2c_lald _ rfl rfl (by omega) ?_)
    exact e2_iret rfl rfl ⟨rfl, rfl⟩
  · by_cases h9 : n = nI 9
    · subst h9
      refine e2_tabIn 1 dX5_number_1 (by decide) (by decide) rfl (tgt := 33) (by decide) ?_
      repeat (first | refine e2_step rfl rfl ?_ | refine e2c_get hi rfl rfl rfl rfl ?_ | refine e2c_lget rfl rfl ?_ | refine e2c_iald _ hi rfl rfl rfl rfl (by omega) ?_ | refine e2c_lald _ rfl rfl (by omega) ?_)
      exact e2_iret rfl rfl ⟨rfl, rfl⟩
    · by_cases h10 : n = nI 10
      · subst h10
        refine e2_tabIn 2 dX5_number_1 (by decide) (by decide) rfl (tgt := 38) (by decide) ?_
        repeat (first | refine e2_step rfl rfl ?_ | refine e2c_get hi rfl rfl rfl rfl ?_ | refine e2c_lget rfl rfl ?_ | refine e2c_iald _ hi rfl rfl rfl rfl (by omega) ?_ | refine e2c_lald _ rfl rfl (by omega) ?_)
        exact e2_iret rfl rfl ⟨rfl, rfl⟩
      · refine e2_tabOut dX5_number_1 (tab3 h8 h9 h10) (tgt := 43) (by decide) ?_
        repeat (first | refine e2_step rfl rfl ?_ | refine e2c_get hi rfl rfl rfl rfl ?_ | refine e2c_lget rfl rfl ?_ | refine e2c_iald _ hi rfl rfl rfl rfl (by omega) ?_ | refine e2c_lald _ rfl rfl (by omega) ?_)
        refine e2_fs (c_isWalk n) rfl rfl ⟨rfl, rfl, rfl⟩ rfl rfl rfl ?_
        by_cases hb : isInB n (nI 0) (nI 7) = true
        · obtain ⟨k, hk, rfl⟩ := isIn_nI (by decide) hb
          have hv : numV V (nI k) = V 17 k := by
            rw [numV, if_neg h8, if_neg h9, if_neg h10, if_pos hb, nI_clamp (by omega)]
          rw [hb, hv]
          refine e2_if rfl rfl (fun z => absurd z (by decide)) (fun _ => ?_)
          repeat (first | refine e2_step rfl rfl ?_ | refine e2c_get hi rfl rfl rfl rfl ?_ | refine e2c_lget rfl rfl ?_ | refine e2c_iald _ hi rfl rfl rfl rfl (by omega) ?_ | refine e2c_lald _ rfl rfl (by omega) ?_)
          exact e2_iret rfl rfl ⟨rfl, rfl⟩
        · have hv : numV V n = -9 := by
            rw [numV, if_neg h8, if_neg h9, if_neg h10, if_neg hb]
          rw [eq_false_of_ne_true hb, hv]
          refine e2_if rfl rfl (fun _ => ?_) (fun z => absurd rfl z)
          repeat (first | refine e2_step rfl rfl ?_ | refine e2c_get hi rfl rfl rfl rfl ?_ | refine e2c_lget rfl rfl ?_ | refine e2c_iald _ hi rfl rfl rfl rfl (by omega) ?_ | refine e2c_lald _ rfl rfl (by omega) ?_)
          exact e2_iret rfl rfl ⟨rfl, rfl⟩
end NZ1
end
section
/-! Changing a number of an office. -/
section NZ2
variable {ε : EE} {J : JT} {pc : Nat} {ls : List (Option V0)} {st : List V0} {G : GG} {i : Nat} {V : VV} {s : Int32} {o : Nat → Int32} {Q : Option Int32 → GG → Prop}
def chgV (V : VV) (n v : Int32) : VV := if n = nI 8 then wv V 0 5 v else if n = nI 9 then wv V 0 6 v else if n = nI 10 then wv V 0 7 v else if isInB n (nI 0) (nI 7) = true then wv V 17 n.toNatClampNeg v else V
theorem w_changeNumber (hi : i < 19) (n v : Int32) : FC ε jX5_changeNumber [.inr (i, 0), .inl n, .inl v] G i V s o none (chgV V n v) s o := by
  refine C2.of (ls := [some (.inr (i, 0)), some (.inl n), some (.inl v)]) okX5_changeNumber rfl rfl ?_
  refine e2_step rfl rfl ?_
  by_cases h8 : n = nI 8
  · subst h8
    refine e2_tabIn 0 dX5_changeNumber_1 (by decide) (by decide) rfl (tgt := 28) (by decide) ?_
    repeat (first | refine e2_step rfl rfl ?_ | refine e2c_get hi rfl rfl rfl rfl ?_ | refine e2c_lget rfl rfl ?_ | refine e2c_iald _ hi rfl rfl rfl rfl (by omega) ?_ | refine e2c_lald _ rfl rfl (by omega) ?_)
    refine e2c_put hi rfl rfl rfl rfl rfl rfl rfl ?_
    repeat (first | refine e2_step rfl rfl ?_ | refine e2c_get hi rfl rfl rfl rfl ?_ | refine e2c_lget rfl rfl ?_ | refine e2c_iald _ hi rfl rfl rfl rfl (by omega) ?_ | refine e2c_lald _ rfl rfl (by omega) ?_)
    exact e2_vret rfl rfl ⟨rfl, rfl⟩
  · by_cases h9 : n = nI 9
    · subst h9
      refine e2_tabIn 1 dX5_changeNumber_1 (by decide) (by decide) rfl (tgt := 36) (by decide) ?_
      repeat (first | refine e2_step rfl rfl ?_ | refine e2c_get hi rfl rfl rfl rfl ?_ | refine e2c_lget rfl rfl ?_ | refine e2c_iald _ hi rfl rfl rfl rfl (by omega) ?_ | refine e2c_lald _ rfl rfl (by omega) ?_)
      refine e2c_put hi rfl rfl rfl rfl rfl rfl rfl ?_
      repeat (first | refine e2_step rfl rfl ?_ | refine e2c_get hi rfl rfl rfl rfl ?_ | refine e2c_lget rfl rfl ?_ | refine e2c_iald _ hi rfl rfl rfl rfl (by omega) ?_ | refine e2c_lald _ rfl rfl (by omega) ?_)
      exact e2_vret rfl rfl ⟨rfl, rfl⟩
    · by_cases h10 : n = nI 10
      · subst h10
        refine e2_tabIn 2 dX5_changeNumber_1 (by decide) (by decide) rfl (tgt := 44) (by decide) ?_
        repeat (first | refine e2_step rfl rfl ?_ | refine e2c_get hi rfl rfl rfl rfl ?_ | refine e2c_lget rfl rfl ?_ | refine e2c_iald _ hi rfl rfl rfl rfl (by omega) ?_ | refine e2c_lald _ rfl rfl (by omega) ?_)
        refine e2c_put hi rfl rfl rfl rfl rfl rfl rfl ?_
        repeat (first | refine e2_step rfl rfl ?_ | refine e2c_get hi rfl rfl rfl rfl ?_ | refine e2c_lget rfl rfl ?_ | refine e2c_iald _ hi rfl rfl rfl rfl (by omega) ?_ | refine e2c_lald _ rfl rfl (by omega) ?_)
        exact e2_vret rfl rfl ⟨rfl, rfl⟩
      · refine e2_tabOut dX5_changeNumber_1 (tab3 h8 h9 h10) (tgt := 52) (by decide) ?_
        repeat (first | refine e2_step rfl rfl ?_ | refine e2c_get hi rfl rfl rfl rfl ?_ | refine e2c_lget rfl rfl ?_ | refine e2c_iald _ hi rfl rfl rfl rfl (by omega) ?_ | refine e2c_lald _ rfl rfl (by omega) ?_)
        refine e2_fs (c_isWalk n) rfl rfl ⟨rfl, rfl, rfl⟩ rfl rfl rfl ?_
        by_cases hb : isInB n (nI 0) (nI 7) = true
        · obtain ⟨k, hk, rfl⟩ := isIn_nI (by decide) hb
          have hv : chgV V (nI k) v = wv V 17 k v := by
            rw [chgV, if_neg h8, if_neg h9, if_neg h10, if_pos hb, nI_clamp (by omega)]
          rw [hb, hv]
          refine e2_if rfl rfl (fun z => absurd z (by decide)) (fun _ => ?_)
          repeat (first | refine e2_step rfl rfl ?_ | refine e2c_get hi rfl rfl rfl rfl ?_ | refine e2c_lget rfl rfl ?_ | refine e2c_iald _ hi rfl rfl rfl rfl (by omega) ?_ | refine e2c_lald _ rfl rfl (by omega) ?_)
          refine e2c_iast k hi rfl rfl rfl rfl (by omega) ?_
          exact e2_vret rfl rfl ⟨rfl, rfl⟩
        · have hv : chgV V n v = V := by
            rw [chgV, if_neg h8, if_neg h9, if_neg h10, if_neg hb]
          rw [eq_false_of_ne_true hb, hv]
          refine e2_if rfl rfl (fun _ => ?_) (fun z => absurd rfl z)
          exact e2_vret rfl rfl ⟨rfl, rfl⟩
end NZ2
end
section
/-! The class's text. -/
section Ta0
variable {ε : EE} {J : JT} {pc : Nat} {ls : List (Option V0)} {st : List V0} {G : GG} {r t o x : Nat → Int32} {Q : Option Int32 → GG → Prop}
def dgB (t : Nat → Int32) (n a m : Nat) : Bool := decide (a < n) && isInB (t a) (nI 48) (nI (48 + m))
def dgt (t : Nat → Int32) (a : Nat) : Nat := (t a).toNatClampNeg - 48
theorem dgB_of {n a m : Nat} (hm : m ≤ 9) (h : dgB t n a m = true) : a < n ∧ dgt t a ≤ m ∧ t a = nI (48 + dgt t a) := by
  simp only [dgB, isInB, Bool.and_eq_true, decide_eq_true_eq] at h
  obtain ⟨h1, h2, h3⟩ := h
  have e1 : (nI 48).toInt = 48 := nI_toInt (by decide)
  have e2 : (nI (48 + m)).toInt = ((48 + m : Nat) : Int) := nI_toInt (by omega)
  rw [Int32.le_iff_toInt_le, e1] at h2
  rw [Int32.le_iff_toInt_le, e2] at h3
  have h0 : ¬ t a < 0 := by
    rw [Int32.lt_iff_toInt_lt]
    have : (0 : Int32).toInt = 0 := by decide
    omega
  obtain ⟨j, hj, hj2⟩ := nI_of h0
  have e3 : (t a).toInt = (j : Int) := by rw [hj2]; exact nI_toInt hj
  have e4 : dgt t a = j - 48 := by unfold dgt; rw [hj2, nI_clamp hj]
  refine ⟨h1, by omega, ?_⟩
  rw [hj2, e4]
  congr 1
  omega
/-- a number's end and value -/
def tkN (t : Nat → Int32) (n a : Nat) : Option (Nat × Nat) :=
  if dgB t n a 9 then (if dgt t a = 0 then some (a + 1, 0) else if dgB t n (a + 1) 9 then some (a + 2, 10 * dgt t a + dgt t (a + 1)) else some (a + 1, dgt t a)) else none
def tkS (t : Nat → Int32) (n a : Nat) (s : Int32) : Option Nat := if a < n then (if t a = s then some (a + 1) else none) else none
theorem tkN_of {n a a' f : Nat} (h : tkN t n a = some (a', f)) : a < a' ∧ a' ≤ n ∧ f < 100 := by
  unfold tkN at h
  split at h
  · rename_i h1
    obtain ⟨h2, h3, -⟩ := dgB_of (by omega) h1
    split at h
    · cases h
      omega
    · split at h
      · rename_i h4
        obtain ⟨h5, h6, -⟩ := dgB_of (by omega) h4
        cases h
        omega
      · cases h
        omega
  · cases h
theorem tkS_of {n a a' : Nat} {s : Int32} (h : tkS t n a s = some a') : a' = a + 1 ∧ a' ≤ n := by
  unfold tkS at h
  split at h
  · split at h
    · cases h
      omega
    · cases h
  · cases h
/-- one range from a: where it stops, and what it says if it is one -/
def rd1 (t : Nat → Int32) (n a : Nat) : Nat × Option (Nat × Nat × Nat) :=
  match tkN t n a with
  | none => (a, none)
  | some (a1, f) => match tkS t n a1 (nI 45) with
    | none => (a1, none)
    | some a2 => match tkN t n a2 with
      | none => (a2, none)
      | some (a3, g) => match tkS t n a3 (nI 61) with
        | none => (a3, none)
        | some a4 => if dgB t n a4 7 then (a4 + 1, some (f, g, dgt t a4)) else (a4, none)
/-- the ranges from a, and the fault -/
def prs (t : Nat → Int32) (n : Nat) : Nat → Nat → List (Nat × Nat × Nat) × Option Nat
  | 0, a => ([], some a)
  | k + 1, a => match rd1 t n a with
    | (a', none) => ([], some a')
    | (a', some q) => match tkS t n a' (nI 59) with
      | some a'' => (q :: (prs t n k a'').1, (prs t n k a'').2)
      | none => ([q], if a' < n then some a' else none)
def dwnB (l : List (Nat × Nat × Nat)) : Bool := l.any (fun q => decide (q.2.1 < q.1))
theorem rd1_of {n a a' : Nat} {q : Nat × Nat × Nat} (h : rd1 t n a = (a', some q)) : a < a' ∧ a' ≤ n ∧ q.1 < 100 ∧ q.2.1 < 100 ∧ q.2.2 < 8 := by
  unfold rd1 at h
  split at h
  · cases h
  · rename_i a1 f h1
    split at h
    · cases h
    · rename_i a2 h2
      split at h
      · cases h
      · rename_i a3 g h3
        split at h
        · cases h
        · rename_i a4 h4
          split at h
          · rename_i h5
            cases h
            have e1 := tkN_of h1
            have e2 := tkS_of h2
            have e3 := tkN_of h3
            have e4 := tkS_of h4
            obtain ⟨d1, d2, d3⟩ := dgB_of (by omega) h5
            exact ⟨by omega, by omega, e1.2.2, e3.2.2, Nat.lt_succ_of_le d2⟩
          · cases h
theorem rd1_le {n a : Nat} (ha : a ≤ n) : (rd1 t n a).1 ≤ n := by
  unfold rd1
  split
  · exact ha
  · rename_i a1 f h1
    have e1 := tkN_of h1
    split
    · exact e1.2.1
    · rename_i a2 h2
      have e2 := tkS_of h2
      split
      · exact e2.2
      · rename_i a3 g h3
        have e3 := tkN_of h3
        split
        · exact e3.2.1
        · rename_i a4 h4
          have e4 := tkS_of h4
          split
          · rename_i h5
            obtain ⟨d1, -, -⟩ := dgB_of (by omega) h5
            exact d1
          · exact e4.2
end Ta0
section Tb0
variable {ε : EE} {J : JT} {pc : Nat} {ls : List (Option V0)} {st : List V0} {G : GG} {t f u w x : Nat → Int32} {Q : Option Int32 → GG → Prop}
def xG (G : GG) (t f u w x : Nat → Int32) : GG := setA (setA (setA (setA (setA G 0 34 t) 0 35 f) 0 36 u) 0 37 w) 0 33 x
theorem xG_self (G : GG) : xG G (G 0 34) (G 0 35) (G 0 36) (G 0 37) (G 0 33) = G := by
  unfold xG
  rw [setA_self, setA_self, setA_self, setA_self, setA_self]
theorem xG_w33 (j : Nat) (v : Int32) : wr (xG G t f u w x) 0 33 j v = xG G t f u w (upd x j v) := by
  show setA _ 0 33 (upd x j v) = _
  unfold xG
  rw [setA_twice]
theorem xG_w34 (j : Nat) (v : Int32) : wr (xG G t f u w x) 0 34 j v = xG G (upd t j v) f u w x := by
  show setA _ 0 34 (upd t j v) = _
  unfold xG
  rw [setA_comm _ 0 33 0 34 _ _ (by decide), setA_comm _ 0 37 0 34 _ _ (by decide), setA_comm _ 0 36 0 34 _ _ (by decide), setA_comm _ 0 35 0 34 _ _ (by decide), setA_twice]
theorem xG_w35 (j : Nat) (v : Int32) : wr (xG G t f u w x) 0 35 j v = xG G t (upd f j v) u w x := by
  show setA _ 0 35 (upd f j v) = _
  unfold xG
  rw [setA_comm _ 0 33 0 35 _ _ (by decide), setA_comm _ 0 37 0 35 _ _ (by decide), setA_comm _ 0 36 0 35 _ _ (by decide), setA_twice]
theorem xG_w36 (j : Nat) (v : Int32) : wr (xG G t f u w x) 0 36 j v = xG G t f (upd u j v) w x := by
  show setA _ 0 36 (upd u j v) = _
  unfold xG
  rw [setA_comm _ 0 33 0 36 _ _ (by decide), setA_comm _ 0 37 0 36 _ _ (by decide), setA_twice]
theorem xG_w37 (j : Nat) (v : Int32) : wr (xG G t f u w x) 0 37 j v = xG G t f u (upd w j v) x := by
  show setA _ 0 37 (upd w j v) = _
  unfold xG
  rw [setA_comm _ 0 33 0 37 _ _ (by decide), setA_twice]
theorem e2x_get {kf nx idx : Nat} {v : Int32} {z : V0} (h : lk (jt J) pc = (30, kf, 6, v, nx, idx)) (hw : ([.inr (0, 34), .inl (x 1), .inr (0, 35), .inr (0, 36), .inr (0, 37), .inl (x 5), .inl (x 6), .inl (x 7)] : List V0)[kf]? = some z) (k : E2 ε J nx ls (z :: st) (xG G t f u w x) Q) : E2 ε J pc ls (.inr (0, 33) :: st) (xG G t f u w x) Q := e2_get h (by decide) rfl hw k
theorem e2x_getS {kf nx idx : Nat} {v : Int32} {z : V0} (stop : Nat) (_ : Nat.beq pc stop = false) (h : lk (jt J) pc = (30, kf, 6, v, nx, idx)) (hw : ([.inr (0, 34), .inl (x 1), .inr (0, 35), .inr (0, 36), .inr (0, 37), .inl (x 5), .inl (x 6), .inl (x 7)] : List V0)[kf]? = some z) (k : E2 ε J nx ls (z :: st) (xG G t f u w x) Q) : E2 ε J pc ls (.inr (0, 33) :: st) (xG G t f u w x) Q := e2_get h (by decide) rfl hw k
theorem e2x_put {kf nx idx : Nat} {v y : Int32} (h : lk (jt J) pc = (31, kf, 6, v, nx, idx)) (hk : kf = 1 ∨ kf = 5 ∨ kf = 6) (k : E2 ε J nx ls st (xG G t f u w (upd x kf y)) Q) : E2 ε J pc ls (.inl y :: .inr (0, 33) :: st) (xG G t f u w x) Q := by
  rcases hk with rfl | rfl | rfl <;> exact e2_put h (by decide) rfl rfl rfl rfl rfl (by rw [xG_w33]; exact k)
theorem e2x_putz {nx idx : Nat} {v y : Int32} (h : lk (jt J) pc = (31, 7, 6, v, nx, idx)) (hy : y = 0 ∨ y = 1) (k : E2 ε J nx ls st (xG G t f u w (upd x 7 y)) Q) : E2 ε J pc ls (.inl y :: .inr (0, 33) :: st) (xG G t f u w x) Q :=
  e2_putz h (by decide) rfl rfl rfl rfl hy rfl (by rw [xG_w33]; exact k)
theorem e2x_cald {a b nx idx : Nat} {v y : Int32} (j : Nat) (h : lk (jt J) pc = (34, a, b, v, nx, idx)) (hx : y = nI j) (hj : j < 80) (k : E2 ε J nx ls (.inl (t j) :: st) (xG G t f u w x) Q) : E2 ε J pc ls (.inl y :: .inr (0, 34) :: st) (xG G t f u w x) Q := e2_cald j h hx (by decide) rfl hj k
theorem e2x_cast {a b nx idx : Nat} {v y z : Int32} (j : Nat) (h : lk (jt J) pc = (38, a, b, v, nx, idx)) (hx : y = nI j) (hj : j < 80) (hz : vp_nar .char z = z) (k : E2 ε J nx ls st (xG G (upd t j z) f u w x) Q) : E2 ε J pc ls (.inl z :: .inl y :: .inr (0, 34) :: st) (xG G t f u w x) Q := e2_cast j h hx (by decide) rfl hj hz (by rw [xG_w34]; exact k)
/-- the numbers of the text: length stays, k ranges, next place a, broken or not -/
def xst (x : Nat → Int32) (k a : Nat) (br : Bool) : Nat → Int32 := upd (upd (upd x 5 (nI k)) 6 (nI a)) 7 (bI br)
theorem xst_5 (x : Nat → Int32) (k a k' : Nat) (br : Bool) : upd (xst x k a br) 5 (nI k') = xst x k' a br := by
  funext j
  unfold xst upd
  by_cases h : j = 5
  · simp [h]
  · simp [h]
theorem xst_6 (x : Nat → Int32) (k a a' : Nat) (br : Bool) : upd (xst x k a br) 6 (nI a') = xst x k a' br := by
  funext j
  unfold xst upd
  by_cases h : j = 6
  · simp [h]
  · simp [h]
theorem xst_7 (x : Nat → Int32) (k a : Nat) (br br' : Bool) : upd (xst x k a br) 7 (bI br') = xst x k a br' := by
  funext j
  unfold xst upd
  by_cases h : j = 7
  · simp [h]
  · simp [h]
def nxB (t : Nat → Int32) (n a : Nat) (l g : Int32) : Bool := decide (a < n) && isInB (t a) l g
theorem x_next {n a k : Nat} {br : Bool} (hx1 : x 1 = nI n) (hn : n ≤ 80) (ha : a ≤ n) (l g : Int32) : F2 ε jX6_isNextIn [.inr (0, 33), .inl l, .inl g] (xG G t f u w (xst x k a br)) (some (bI (nxB t n a l g))) (xG G t f u w (xst x k a br)) := by
  have h1 : xst x k a br 1 = nI n := hx1
  have h6 : xst x k a br 6 = nI a := rfl
  have hno : nxB t n a l g = false → E2 ε jX6_isNextIn 41 [some (.inr (0, 33)), some (.inl l), some (.inl g)] [] (xG G t f u w (xst x k a br)) (fun v' G' => v' = some (bI (nxB t n a l g)) ∧ G' = xG G t f u w (xst x k a br)) := by
    intro e
    rw [e]
    repeat (first | refine e2_step rfl rfl ?_ | refine e2x_get rfl rfl ?_)
    exact e2_zret rfl rfl rfl ⟨rfl, rfl⟩
  refine C2.of (ls := [some (.inr (0, 33)), some (.inl l), some (.inl g)]) okX6_isNextIn rfl rfl ?_
  repeat (first | refine e2_step rfl rfl ?_ | refine e2x_get rfl rfl ?_)
  rw [h6, h1]
  refine e2_if rfl rfl (fun z => ?_) (fun z => ?_)
  · rw [nI_leI (by omega) (by omega)] at z
    exact hno (by unfold nxB; rw [decide_eq_false (by omega), Bool.false_and])
  · rw [nI_leI (by omega) (by omega)] at z
    repeat (first | refine e2_step rfl rfl ?_ | refine e2x_get rfl rfl ?_)
    refine e2x_cald a rfl h6 (by omega) ?_
    repeat (first | refine e2_step rfl rfl ?_ | refine e2x_get rfl rfl ?_)
    refine e2_if rfl rfl (fun c => ?_) (fun c => ?_)
    · exact hno (by unfold nxB isInB; rw [decide_eq_false (p := l ≤ t a) (Int32.not_le.2 c), Bool.false_and, Bool.and_false])
    · repeat (first | refine e2_step rfl rfl ?_ | refine e2x_get rfl rfl ?_)
      refine e2x_cald a rfl h6 (by omega) ?_
      repeat (first | refine e2_step rfl rfl ?_ | refine e2x_get rfl rfl ?_)
      refine e2_if rfl rfl (fun d => ?_) (fun d => ?_)
      · exact hno (by unfold nxB isInB; rw [decide_eq_false (p := t a ≤ g) (Int32.not_le.2 d), Bool.and_false, Bool.and_false])
      · have e : nxB t n a l g = true := by
          unfold nxB isInB
          rw [decide_eq_true (p := a < n) (by omega), decide_eq_true (p := l ≤ t a) (Int32.not_lt.1 c), decide_eq_true (p := t a ≤ g) (Int32.not_lt.1 d)]
          rfl
        rw [e]
        repeat (first | refine e2_step rfl rfl ?_ | refine e2x_get rfl rfl ?_)
        exact e2_zret rfl rfl rfl ⟨rfl, rfl⟩
/-- a digit: where it stops, broken or not, its value -/
def rdD (t : Nat → Int32) (n a : Nat) (br : Bool) (m : Nat) : Nat × Bool × Nat := if br = false ∧ dgB t n a m = true then (a + 1, false, dgt t a) else (a, true, 0)
theorem x_digit {n a k m : Nat} {br : Bool} (hm : m ≤ 9) (hx1 : x 1 = nI n) (hn : n ≤ 80) (ha : a ≤ n) : F2 ε jX6_readDigit [.inr (0, 33), .inl (nI (48 + m))] (xG G t f u w (xst x k a br)) (some (nI (rdD t n a br m).2.2)) (xG G t f u w (xst x k (rdD t n a br m).1 (rdD t n a br m).2.1)) := by
  have h17 : rdD t n a br m = (a, true, 0) → E2 ε jX6_readDigit 17 [some (.inr (0, 33)), some (.inl (nI (48 + m))), none] [] (xG G t f u w (xst x k a br)) (fun v' G' => v' = some (nI (rdD t n a br m).2.2) ∧ G' = xG G t f u w (xst x k (rdD t n a br m).1 (rdD t n a br m).2.1)) := by
    intro he
    rw [he]
    repeat (first | refine e2_step rfl rfl ?_ | refine e2x_get rfl rfl ?_)
    refine e2x_putz rfl (Or.inr rfl) ?_
    rw [show upd (xst x k a br) 7 (nI 1) = xst x k a true from xst_7 x k a br true]
    repeat (first | refine e2_step rfl rfl ?_ | refine e2x_get rfl rfl ?_)
    exact e2_iret rfl rfl ⟨rfl, rfl⟩
  refine C2.of (ls := [some (.inr (0, 33)), some (.inl (nI (48 + m))), none]) okX6_readDigit rfl rfl ?_
  repeat (first | refine e2_step rfl rfl ?_ | refine e2x_get rfl rfl ?_)
  cases br with
  | true =>
    refine e2_if rfl rfl (fun _ => h17 (by unfold rdD; rw [if_neg (fun z => Bool.noConfusion z.1)])) (fun z => absurd (show ¬ nI 1 = 0 by decide) z)
  | false =>
    refine e2_if rfl rfl (fun z => absurd rfl z) (fun _ => ?_)
    repeat (first | refine e2_step rfl rfl ?_ | refine e2x_get rfl rfl ?_)
    refine e2_fi (x_next hx1 hn ha (nI 48) (nI (48 + m))) rfl rfl ⟨rfl, rfl, rfl⟩ rfl rfl rfl (by first | exact hi | decide) rfl rfl rfl ?_
    have hnb : nxB t n a (nI 48) (nI (48 + m)) = dgB t n a m := rfl
    rw [hnb]
    refine e2_if rfl rfl (fun c => ?_) (fun c => ?_)
    · rw [bI_0, Bool.not_eq_false] at c
      obtain ⟨d1, d2, d3⟩ := dgB_of hm c
      have he : rdD t n a false m = (a + 1, false, dgt t a) := by unfold rdD; rw [if_pos ⟨rfl, c⟩]
      rw [he]
      repeat (first | refine e2_step rfl rfl ?_ | refine e2x_get rfl rfl ?_)
      refine e2x_cald a rfl rfl (by omega) ?_
      rw [d3]
      repeat (first | refine e2_step rfl rfl ?_ | refine e2x_get rfl rfl ?_)
      rw [pk_sub (by omega), Nat.add_sub_cancel_left, show xst x k a false 6 = nI a from rfl, nI_add']
      refine e2x_put rfl (by omega) ?_
      rw [xst_6]
      repeat (first | refine e2_step rfl rfl ?_ | refine e2x_get rfl rfl ?_)
      exact e2_iret rfl rfl ⟨rfl, rfl⟩
    · rw [bI_0, Classical.not_not] at c
      exact h17 (by unfold rdD; rw [if_neg (fun z => by rw [c] at z; exact Bool.noConfusion z.2)])
/-- a sign -/
def rdS (t : Nat → Int32) (n a : Nat) (br : Bool) (s : Int32) : Nat × Bool := if br = false ∧ nxB t n a s s = true then (a + 1, false) else (a, true)
theorem x_sign {n a k : Nat} {br : Bool} (hx1 : x 1 = nI n) (hn : n ≤ 80) (ha : a ≤ n) (s : Int32) : F2 ε jX6_readSign [.inr (0, 33), .inl s] (xG G t f u w (xst x k a br)) none (xG G t f u w (xst x k (rdS t n a br s).1 (rdS t n a br s).2)) := by
  have h16 : rdS t n a br s = (a, true) → E2 ε jX6_readSign 16 [some (.inr (0, 33)), some (.inl s)] [] (xG G t f u w (xst x k a br)) (fun v' G' => v' = none ∧ G' = xG G t f u w (xst x k (rdS t n a br s).1 (rdS t n a br s).2)) := by
    intro he
    rw [he]
    repeat (first | refine e2_step rfl rfl ?_ | refine e2x_get rfl rfl ?_)
    refine e2x_putz rfl (Or.inr rfl) ?_
    rw [show upd (xst x k a br) 7 (nI 1) = xst x k a true from xst_7 x k a br true]
    repeat (first | refine e2_step rfl rfl ?_ | refine e2x_get rfl rfl ?_)
    exact e2_vret rfl rfl ⟨rfl, rfl⟩
  refine C2.of (ls := [some (.inr (0, 33)), some (.inl s)]) okX6_readSign rfl rfl ?_
  repeat (first | refine e2_step rfl rfl ?_ | refine e2x_get rfl rfl ?_)
  cases br with
  | true =>
    refine e2_if rfl rfl (fun _ => h16 (by unfold rdS; rw [if_neg (fun z => Bool.noConfusion z.1)])) (fun z => absurd (show ¬ nI 1 = 0 by decide) z)
  | false =>
    refine e2_if rfl rfl (fun z => absurd rfl z) (fun _ => ?_)
    repeat (first | refine e2_step rfl rfl ?_ | refine e2x_get rfl rfl ?_)
    refine e2_fi (x_next hx1 hn ha s s) rfl rfl ⟨rfl, rfl, rfl⟩ rfl rfl rfl (by first | exact hi | decide) rfl rfl rfl ?_
    refine e2_if rfl rfl (fun c => ?_) (fun c => ?_)
    · rw [bI_0, Bool.not_eq_false] at c
      have he : rdS t n a false s = (a + 1, false) := by unfold rdS; rw [if_pos ⟨rfl, c⟩]
      rw [he]
      repeat (first | refine e2_step rfl rfl ?_ | refine e2x_get rfl rfl ?_)
      rw [show xst x k a false 6 = nI a from rfl, nI_add']
      refine e2x_put rfl (by omega) ?_
      rw [xst_6]
      exact e2_vret rfl rfl ⟨rfl, rfl⟩
    · rw [bI_0, Classical.not_not] at c
      exact h16 (by unfold rdS; rw [if_neg (fun z => by rw [c] at z; exact Bool.noConfusion z.2)])
theorem nxB_s {n a : Nat} {s : Int32} : nxB t n a s s = (tkS t n a s).isSome := by
  unfold nxB tkS isInB
  by_cases h : a < n
  · rw [decide_eq_true h, if_pos h, Bool.true_and]
    by_cases h2 : t a = s
    · rw [if_pos h2, h2, decide_eq_true (Int32.le_refl s)]
      rfl
    · rw [if_neg h2]
      by_cases h3 : s ≤ t a
      · rw [decide_eq_true h3, decide_eq_false (p := t a ≤ s) (fun z => h2 (Int32.le_antisymm z h3))]
        rfl
      · rw [decide_eq_false h3]
        rfl
  · rw [decide_eq_false h, if_neg h]
    rfl
theorem rdS_some {n a a' : Nat} {s : Int32} (h : tkS t n a s = some a') : rdS t n a false s = (a', false) := by
  have e := (tkS_of h).1
  unfold rdS
  rw [nxB_s, h, if_pos ⟨rfl, rfl⟩, e]
theorem rdS_none {n a : Nat} {s : Int32} (h : tkS t n a s = none) : rdS t n a false s = (a, true) := by
  unfold rdS
  rw [nxB_s, h, if_neg (fun z => Bool.noConfusion z.2)]
theorem rdS_t {n a : Nat} {s : Int32} : rdS t n a true s = (a, true) := by
  unfold rdS
  rw [if_neg (fun z => Bool.noConfusion z.1)]
theorem rdD_t {n a m : Nat} : rdD t n a true m = (a, true, 0) := by
  unfold rdD
  rw [if_neg (fun z => Bool.noConfusion z.1)]
/-- a number -/
def rdN (t : Nat → Int32) (n a : Nat) (br : Bool) : Nat × Bool × Nat := if br = true then (a, true, 0) else match tkN t n a with
  | none => (a, true, 0)
  | some (a', v) => (a', false, v)
theorem x_number {n a k : Nat} {br : Bool} (hx1 : x 1 = nI n) (hn : n ≤ 80) (ha : a ≤ n) : F2 ε jX6_readNumber [.inr (0, 33)] (xG G t f u w (xst x k a br)) (some (nI (rdN t n a br).2.2)) (xG G t f u w (xst x k (rdN t n a br).1 (rdN t n a br).2.1)) := by
  refine C2.of (ls := [some (.inr (0, 33)), none]) okX6_readNumber rfl rfl ?_
  repeat (first | refine e2_step rfl rfl ?_ | refine e2x_get rfl rfl ?_)
  refine e2_fi (x_digit (m := 9) (br := br) (by omega) hx1 hn ha) rfl rfl ⟨rfl, rfl, rfl⟩ rfl rfl rfl (by first | exact hi | decide) rfl rfl rfl ?_
  cases br with
  | true =>
    rw [rdD_t]
    have e : rdN t n a true = (a, true, 0) := rfl
    rw [e]
    repeat (first | refine e2_step rfl rfl ?_ | refine e2x_get rfl rfl ?_)
    refine e2_if rfl rfl (fun _ => ?_) (fun z => absurd rfl z)
    repeat (first | refine e2_step rfl rfl ?_ | refine e2x_get rfl rfl ?_)
    exact e2_iret rfl rfl ⟨rfl, rfl⟩
  | false =>
    have e0 : rdN t n a false = match tkN t n a with
      | none => (a, true, 0)
      | some (a', v) => (a', false, v) := rfl
    cases c : dgB t n a 9 with
    | false =>
      have e1 : tkN t n a = none := by unfold tkN; rw [if_neg (by rw [c]; decide)]
      have e2 : rdD t n a false 9 = (a, true, 0) := by unfold rdD; rw [if_neg (fun z => by rw [c] at z; exact Bool.noConfusion z.2)]
      rw [e0, e1, e2]
      repeat (first | refine e2_step rfl rfl ?_ | refine e2x_get rfl rfl ?_)
      refine e2_if rfl rfl (fun _ => ?_) (fun z => absurd rfl z)
      repeat (first | refine e2_step rfl rfl ?_ | refine e2x_get rfl rfl ?_)
      exact e2_iret rfl rfl ⟨rfl, rfl⟩
    | true =>
      obtain ⟨d1, d2, d3⟩ := dgB_of (by omega) c
      have e2 : rdD t n a false 9 = (a + 1, false, dgt t a) := by unfold rdD; rw [if_pos ⟨rfl, c⟩]
      rw [e2]
      repeat (first | refine e2_step rfl rfl ?_ | refine e2x_get rfl rfl ?_)
      refine e2_if rfl rfl (fun z => ?_) (fun z => ?_)
      · have z2 : nI (dgt t a) = nI 0 := z
        rw [nI_eq (by omega) (by omega)] at z2
        have e1 : tkN t n a = some (a + 1, 0) := by unfold tkN; rw [if_pos c, if_pos z2]
        rw [e0, e1, z2]
        repeat (first | refine e2_step rfl rfl ?_ | refine e2x_get rfl rfl ?_)
        exact e2_iret rfl rfl ⟨rfl, rfl⟩
      · have z2 : ¬ nI (dgt t a) = nI 0 := z
        rw [nI_eq (by omega) (by omega)] at z2
        repeat (first | refine e2_step rfl rfl ?_ | refine e2x_get rfl rfl ?_)
        refine e2_fi (x_next (a := a + 1) (br := false) hx1 hn (by omega) (nI 48) (nI 57)) rfl rfl ⟨rfl, rfl, rfl⟩ rfl rfl rfl (by first | exact hi | decide) rfl rfl rfl ?_
        have hnb : nxB t n (a + 1) (nI 48) (nI 57) = dgB t n (a + 1) 9 := rfl
        rw [hnb]
        refine e2_if rfl rfl (fun y => ?_) (fun y => ?_)
        · rw [bI_0] at y
          have e1 : tkN t n a = some (a + 1, dgt t a) := by unfold tkN; rw [if_pos c, if_neg z2, if_neg (by rw [y]; decide)]
          rw [e0, e1]
          repeat (first | refine e2_step rfl rfl ?_ | refine e2x_get rfl rfl ?_)
          exact e2_iret rfl rfl ⟨rfl, rfl⟩
        · rw [bI_0, Bool.not_eq_false] at y
          have e1 : tkN t n a = some (a + 2, 10 * dgt t a + dgt t (a + 1)) := by unfold tkN; rw [if_pos c, if_neg z2, if_pos y]
          have e3 : rdD t n (a + 1) false 9 = (a + 2, false, dgt t (a + 1)) := by unfold rdD; rw [if_pos ⟨rfl, y⟩]
          rw [e0, e1]
          repeat (first | refine e2_step rfl rfl ?_ | refine e2x_get rfl rfl ?_)
          refine e2_fi (x_digit (a := a + 1) (br := false) (m := 9) (by omega) hx1 hn (by omega)) rfl rfl ⟨rfl, rfl, rfl⟩ rfl rfl rfl (by first | exact hi | decide) rfl rfl rfl ?_
          rw [e3]
          repeat (first | refine e2_step rfl rfl ?_ | refine e2x_get rfl rfl ?_)
          refine e2_iret rfl rfl ⟨?_, rfl⟩
          rw [pk_mul, nI_add', Nat.mul_comm]
end Tb0
section Tc0
variable {ε : EE} {J : JT} {pc : Nat} {ls : List (Option V0)} {st : List V0} {G : GG} {t f u w x : Nat → Int32} {Q : Option Int32 → GG → Prop}
/-- what reading one range leaves -/
def rgG (G : GG) (t f u w x : Nat → Int32) (k n a : Nat) : GG := match rd1 t n a with
  | (a', none) => xG G t f u w (xst x k a' true)
  | (a', some q) => xG G t (upd f k (nI q.1)) (upd u k (nI q.2.1)) (upd w k (nI q.2.2)) (xst x (k + 1) a' false)
theorem x_range {n a k : Nat} (hx1 : x 1 = nI n) (hn : n ≤ 80) (ha : a ≤ n) (hk : k < 14) : F2 ε jX6_readRange [.inr (0, 33)] (xG G t f u w (xst x k a false)) none (rgG G t f u w x k n a) := by
  have b29 : ∀ a', rd1 t n a = (a', none) → ∀ l1 l2 l3, E2 ε jX6_readRange 29 [some (.inr (0, 33)), l1, l2, l3] [] (xG G t f u w (xst x k a' true)) (fun v' G' => v' = none ∧ G' = rgG G t f u w x k n a) := by
    intro a' he l1 l2 l3
    repeat (first | refine e2_step rfl rfl ?_ | refine e2x_get rfl rfl ?_)
    refine e2_if rfl rfl (fun _ => ?_) (fun z => absurd (show ¬ nI 1 = 0 by decide) z)
    exact e2_vret rfl rfl ⟨rfl, by unfold rgG; rw [he]⟩
  have b22 : ∀ a', a' ≤ n → rd1 t n a = (a', none) → ∀ l1 l2 l3, E2 ε jX6_readRange 22 [some (.inr (0, 33)), l1, l2, l3] [] (xG G t f u w (xst x k a' true)) (fun v' G' => v' = none ∧ G' = rgG G t f u w x k n a) := by
    intro a' ha' he l1 l2 l3
    repeat (first | refine e2_step rfl rfl ?_ | refine e2x_get rfl rfl ?_)
    refine e2_fi (x_digit (a := a') (br := true) (m := 7) (by omega) hx1 hn ha') rfl rfl ⟨rfl, rfl, rfl⟩ rfl rfl rfl (by first | exact hi | decide) rfl rfl rfl ?_
    rw [rdD_t]
    repeat (first | refine e2_stepS 29 rfl rfl rfl ?_ | refine e2x_getS 29 rfl rfl rfl ?_)
    exact b29 a' he _ _ _
  have b16 : ∀ a', a' ≤ n → rd1 t n a = (a', none) → ∀ l1 l2 l3, E2 ε jX6_readRange 16 [some (.inr (0, 33)), l1, l2, l3] [] (xG G t f u w (xst x k a' true)) (fun v' G' => v' = none ∧ G' = rgG G t f u w x k n a) := by
    intro a' ha' he l1 l2 l3
    repeat (first | refine e2_step rfl rfl ?_ | refine e2x_get rfl rfl ?_)
    refine e2_fv (x_sign (a := a') (br := true) hx1 hn ha' (nI 61)) rfl rfl ⟨rfl, rfl, rfl⟩ rfl rfl rfl (by first | exact hi | decide) rfl rfl rfl ?_
    rw [rdS_t]
    exact b22 a' ha' he _ _ _
  have b11 : ∀ a', a' ≤ n → rd1 t n a = (a', none) → ∀ l1 l2 l3, E2 ε jX6_readRange 11 [some (.inr (0, 33)), l1, l2, l3] [] (xG G t f u w (xst x k a' true)) (fun v' G' => v' = none ∧ G' = rgG G t f u w x k n a) := by
    intro a' ha' he l1 l2 l3
    repeat (first | refine e2_step rfl rfl ?_ | refine e2x_get rfl rfl ?_)
    refine e2_fi (x_number (a := a') (br := true) hx1 hn ha') rfl rfl ⟨rfl, rfl, rfl⟩ rfl rfl rfl (by first | exact hi | decide) rfl rfl rfl ?_
    rw [show rdN t n a' true = (a', true, 0) from rfl]
    repeat (first | refine e2_stepS 16 rfl rfl rfl ?_ | refine e2x_getS 16 rfl rfl rfl ?_)
    exact b16 a' ha' he _ _ _
  have b5 : ∀ a', a' ≤ n → rd1 t n a = (a', none) → ∀ l1 l2 l3, E2 ε jX6_readRange 5 [some (.inr (0, 33)), l1, l2, l3] [] (xG G t f u w (xst x k a' true)) (fun v' G' => v' = none ∧ G' = rgG G t f u w x k n a) := by
    intro a' ha' he l1 l2 l3
    repeat (first | refine e2_step rfl rfl ?_ | refine e2x_get rfl rfl ?_)
    refine e2_fv (x_sign (a := a') (br := true) hx1 hn ha' (nI 45)) rfl rfl ⟨rfl, rfl, rfl⟩ rfl rfl rfl (by first | exact hi | decide) rfl rfl rfl ?_
    rw [rdS_t]
    exact b11 a' ha' he _ _ _
  refine C2.of (ls := [some (.inr (0, 33)), none, none, none]) okX6_readRange rfl rfl ?_
  repeat (first | refine e2_step rfl rfl ?_ | refine e2x_get rfl rfl ?_)
  refine e2_fi (x_number (a := a) (br := false) hx1 hn ha) rfl rfl ⟨rfl, rfl, rfl⟩ rfl rfl rfl (by first | exact hi | decide) rfl rfl rfl ?_
  have e0 : ∀ a, rdN t n a false = match tkN t n a with
    | none => (a, true, 0)
    | some (a', v) => (a', false, v) := fun _ => rfl
  rw [e0]
  cases e1 : tkN t n a with
  | none =>
    repeat (first | refine e2_stepS 5 rfl rfl rfl ?_ | refine e2x_getS 5 rfl rfl rfl ?_)
    exact b5 a ha (by unfold rd1; rw [e1]) _ _ _
  | some q1 =>
    obtain ⟨a1, v1⟩ := q1
    have b1 := tkN_of e1
    repeat (first | refine e2_step rfl rfl ?_ | refine e2x_get rfl rfl ?_)
    refine e2_fv (x_sign (a := a1) (br := false) hx1 hn b1.2.1 (nI 45)) rfl rfl ⟨rfl, rfl, rfl⟩ rfl rfl rfl (by first | exact hi | decide) rfl rfl rfl ?_
    cases e2 : tkS t n a1 (nI 45) with
    | none =>
      rw [rdS_none e2]
      exact b11 a1 b1.2.1 (by unfold rd1; rw [e1]; dsimp only; rw [e2]) _ _ _
    | some a2 =>
      have b2 := tkS_of e2
      rw [rdS_some e2]
      repeat (first | refine e2_step rfl rfl ?_ | refine e2x_get rfl rfl ?_)
      refine e2_fi (x_number (a := a2) (br := false) hx1 hn b2.2) rfl rfl ⟨rfl, rfl, rfl⟩ rfl rfl rfl (by first | exact hi | decide) rfl rfl rfl ?_
      rw [e0]
      cases e3 : tkN t n a2 with
      | none =>
        repeat (first | refine e2_stepS 16 rfl rfl rfl ?_ | refine e2x_getS 16 rfl rfl rfl ?_)
        exact b16 a2 b2.2 (by unfold rd1; rw [e1]; dsimp only; rw [e2]; dsimp only; rw [e3]) _ _ _
      | some q3 =>
        obtain ⟨a3, v3⟩ := q3
        have b3 := tkN_of e3
        repeat (first | refine e2_step rfl rfl ?_ | refine e2x_get rfl rfl ?_)
        refine e2_fv (x_sign (a := a3) (br := false) hx1 hn b3.2.1 (nI 61)) rfl rfl ⟨rfl, rfl, rfl⟩ rfl rfl rfl (by first | exact hi | decide) rfl rfl rfl ?_
        cases e4 : tkS t n a3 (nI 61) with
        | none =>
          rw [rdS_none e4]
          exact b22 a3 b3.2.1 (by unfold rd1; rw [e1]; dsimp only; rw [e2]; dsimp only; rw [e3]; dsimp only; rw [e4]) _ _ _
        | some a4 =>
          have b4 := tkS_of e4
          rw [rdS_some e4]
          repeat (first | refine e2_step rfl rfl ?_ | refine e2x_get rfl rfl ?_)
          refine e2_fi (x_digit (a := a4) (br := false) (m := 7) (by omega) hx1 hn b4.2) rfl rfl ⟨rfl, rfl, rfl⟩ rfl rfl rfl (by first | exact hi | decide) rfl rfl rfl ?_
          cases e5 : dgB t n a4 7 with
          | false =>
            have e6 : rdD t n a4 false 7 = (a4, true, 0) := by unfold rdD; rw [if_neg (fun z => by rw [e5] at z; exact Bool.noConfusion z.2)]
            rw [e6]
            repeat (first | refine e2_stepS 29 rfl rfl rfl ?_ | refine e2x_getS 29 rfl rfl rfl ?_)
            exact b29 a4 (by unfold rd1; rw [e1]; dsimp only; rw [e2]; dsimp only; rw [e3]; dsimp only; rw [e4]; dsimp only; rw [e5]; rfl) _ _ _
          | true =>
            obtain ⟨d1, d2, d3⟩ := dgB_of (by omega) e5
            have e6 : rdD t n a4 false 7 = (a4 + 1, false, dgt t a4) := by unfold rdD; rw [if_pos ⟨rfl, e5⟩]
            have hr1 : rd1 t n a = (a4 + 1, some (v1, v3, dgt t a4)) := by unfold rd1; rw [e1]; dsimp only; rw [e2]; dsimp only; rw [e3]; dsimp only; rw [e4]; dsimp only; rw [e5]; rfl
            rw [e6]
            repeat (first | refine e2_step rfl rfl ?_ | refine e2x_get rfl rfl ?_)
            refine e2_if rfl rfl (fun z => absurd rfl z) (fun _ => ?_)
            repeat (first | refine e2_step rfl rfl ?_ | refine e2x_get rfl rfl ?_)
            rw [show xst x k (a4 + 1) false 5 = nI k from rfl]
            refine e2_if rfl rfl (fun z => absurd (show nI 14 ≤ nI k from z) (nI_ge (by omega) (by omega))) (fun _ => ?_)
            repeat (first | refine e2_step rfl rfl ?_ | refine e2x_get rfl rfl ?_)
            refine e2_iast (i := 0) (kk := 35) k rfl rfl (by decide) rfl (by omega) ?_
            rw [xG_w35]
            repeat (first | refine e2_step rfl rfl ?_ | refine e2x_get rfl rfl ?_)
            refine e2_iast (i := 0) (kk := 36) k rfl rfl (by decide) rfl (by omega) ?_
            rw [xG_w36]
            repeat (first | refine e2_step rfl rfl ?_ | refine e2x_get rfl rfl ?_)
            refine e2_iast (i := 0) (kk := 37) k rfl rfl (by decide) rfl (by omega) ?_
            rw [xG_w37]
            repeat (first | refine e2_step rfl rfl ?_ | refine e2x_get rfl rfl ?_)
            rw [show xst x k (a4 + 1) false 5 = nI k from rfl, nI_add']
            refine e2x_put rfl (by omega) ?_
            rw [xst_5]
            exact e2_vret rfl rfl ⟨rfl, by unfold rgG; rw [hr1]⟩
theorem rd1_5 {n a a' : Nat} {q : Nat × Nat × Nat} (h : rd1 t n a = (a', some q)) : a + 5 ≤ a' := by
  unfold rd1 at h
  split at h
  · cases h
  · rename_i a1 f h1
    split at h
    · cases h
    · rename_i a2 h2
      split at h
      · cases h
      · rename_i a3 g h3
        split at h
        · cases h
        · rename_i a4 h4
          split at h
          · cases h
            have e1 := tkN_of h1
            have e2 := tkS_of h2
            have e3 := tkN_of h3
            have e4 := tkS_of h4
            omega
          · cases h
/-- the rows from place i on hold the ranges -/
def lsOk (f u w : Nat → Int32) (i : Nat) (L : List (Nat × Nat × Nat)) : Prop := ∀ j q, L[j]? = some q → f (i + j) = nI q.1 ∧ u (i + j) = nI q.2.1 ∧ w (i + j) = nI q.2.2
theorem lsOk_cons {i : Nat} {q : Nat × Nat × Nat} {L : List (Nat × Nat × Nat)} (h0 : f i = nI q.1 ∧ u i = nI q.2.1 ∧ w i = nI q.2.2) (h : lsOk f u w (i + 1) L) : lsOk f u w i (q :: L) := by
  intro j z hz
  cases j with
  | zero =>
    simp at hz
    subst hz
    exact h0
  | succ j =>
    have := h j z (by simpa using hz)
    rw [show i + (j + 1) = i + 1 + j by omega]
    exact this
def fltI : Option Nat → Int32
  | some p => nI p
  | none => -9
/-- how reading the ranges ends: its answer and what it leaves -/
def rdQ (G : GG) (t f u w x : Nat → Int32) (i : Nat) (P : List (Nat × Nat × Nat) × Option Nat) (v' : Option Int32) (G' : GG) : Prop := ∃ f' u' w' i' a' br', v' = some (fltI P.2) ∧ G' = xG G t f' u' w' (xst x i' a' br') ∧ (P.2 = none → i' = i + P.1.length ∧ (∀ j, j < i → f' j = f j ∧ u' j = u j ∧ w' j = w j) ∧ lsOk f' u' w' i P.1)
theorem x_readL {n : Nat} (hx1 : x 1 = nI n) (hn : n ≤ 80) : ∀ (k a i : Nat) (f u w : Nat → Int32), a ≤ n → n < a + k → 6 * i ≤ a → E2 ε jX6_read 17 [some (.inr (0, 33)), some (.inl (nI i))] [] (xG G t f u w (xst x i a false)) (rdQ G t f u w x i (prs t n k a)) := by
  intro k
  induction k with
  | zero => intro a i f u w ha hk; omega
  | succ k ih =>
    intro a i f u w ha hk hi6
    have hend : ∀ j i' a' f' u' w', (prs t n (k + 1) a).2 = some a' → j < 1000 → E2 ε jX6_read 17 [some (.inr (0, 33)), some (.inl (nI j))] [] (xG G t f' u' w' (xst x i' a' true)) (rdQ G t f u w x i (prs t n (k + 1) a)) := by
      intro j i' a' f' u' w' hp hj
      have h67 : E2 ε jX6_read 67 [some (.inr (0, 33)), some (.inl (nI j))] [] (xG G t f' u' w' (xst x i' a' true)) (rdQ G t f u w x i (prs t n (k + 1) a)) := by
        repeat (first | refine e2_step rfl rfl ?_ | refine e2x_get rfl rfl ?_)
        refine e2_iret rfl rfl ⟨f', u', w', i', a', true, ?_, rfl, fun z => ?_⟩
        · rw [hp]; rfl
        · rw [hp] at z; cases z
      repeat (first | refine e2_step rfl rfl ?_ | refine e2x_get rfl rfl ?_)
      refine e2_if rfl rfl (fun _ => h67) (fun _ => ?_)
      repeat (first | refine e2_step rfl rfl ?_ | refine e2x_get rfl rfl ?_)
      refine e2_if rfl rfl (fun _ => h67) (fun z => absurd (show ¬ nI 1 = 0 by decide) z)
    have hi : i < 14 := by omega
    have hps : prs t n (k + 1) a = match rd1 t n a with
      | (a', none) => ([], some a')
      | (a', some q) => match tkS t n a' (nI 59) with
        | some a'' => (q :: (prs t n k a'').1, (prs t n k a'').2)
        | none => ([q], if a' < n then some a' else none) := rfl
    have hle := rd1_le (t := t) ha
    repeat (first | refine e2_step rfl rfl ?_ | refine e2x_get rfl rfl ?_)
    refine e2_if rfl rfl (fun z => absurd (show nI 14 ≤ nI i from z) (nI_ge (by omega) (by omega))) (fun _ => ?_)
    repeat (first | refine e2_step rfl rfl ?_ | refine e2x_get rfl rfl ?_)
    refine e2_if rfl rfl (fun z => absurd rfl z) (fun _ => ?_)
    repeat (first | refine e2_step rfl rfl ?_ | refine e2x_get rfl rfl ?_)
    refine e2_fv (x_range (f := f) (u := u) (w := w) (a := a) (k := i) hx1 hn ha hi) rfl rfl ⟨rfl, rfl, rfl⟩ rfl rfl rfl (by first | exact hi | decide) rfl rfl rfl ?_
    unfold rgG
    cases e1 : rd1 t n a with
    | mk a' oq =>
    rw [e1] at hle
    cases oq with
    | none =>
      have hp : prs t n (k + 1) a = ([], some a') := by rw [hps, e1]
      dsimp only
      repeat (first | refine e2_step rfl rfl ?_ | refine e2x_get rfl rfl ?_)
      refine e2_if rfl rfl (fun _ => ?_) (fun z => absurd (show ¬ nI 1 = 0 by decide) z)
      repeat (first | refine e2_step rfl rfl ?_ | refine e2x_get rfl rfl ?_)
      refine e2_fv (x_sign (a := a') (br := true) hx1 hn hle (nI 59)) rfl rfl ⟨rfl, rfl, rfl⟩ rfl rfl rfl (by first | exact hi | decide) rfl rfl rfl ?_
      rw [rdS_t]
      repeat (first | refine e2_stepS 17 rfl rfl rfl ?_ | refine e2x_getS 17 rfl rfl rfl ?_)
      rw [nI_add']
      exact hend _ _ _ _ _ _ (by rw [hp]) (by omega)
    | some q =>
      have h5 := rd1_5 e1
      dsimp only
      repeat (first | refine e2_step rfl rfl ?_ | refine e2x_get rfl rfl ?_)
      refine e2_if rfl rfl (fun z => absurd rfl z) (fun _ => ?_)
      repeat (first | refine e2_step rfl rfl ?_ | refine e2x_get rfl rfl ?_)
      rw [show xst x (i + 1) a' false 6 = nI a' from rfl, show xst x (i + 1) a' false 1 = nI n from hx1]
      have h55 : ¬ (a' = n ∧ tkS t n a' (nI 59) = none) → E2 ε jX6_read 55 [some (.inr (0, 33)), some (.inl (nI i))] [] (xG G t (upd f i (nI q.1)) (upd u i (nI q.2.1)) (upd w i (nI q.2.2)) (xst x (i + 1) a' false)) (rdQ G t f u w x i (prs t n (k + 1) a)) := by
        intro hne
        repeat (first | refine e2_step rfl rfl ?_ | refine e2x_get rfl rfl ?_)
        refine e2_fv (x_sign (a := a') (br := false) hx1 hn hle (nI 59)) rfl rfl ⟨rfl, rfl, rfl⟩ rfl rfl rfl (by first | exact hi | decide) rfl rfl rfl ?_
        cases e2 : tkS t n a' (nI 59) with
        | none =>
          have hlt : a' < n := by
            rcases Nat.lt_or_ge a' n with z | z
            · exact z
            · exact absurd ⟨Nat.le_antisymm hle z, e2⟩ hne
          have hp : prs t n (k + 1) a = ([q], some a') := by rw [hps, e1]; dsimp only; rw [e2]; dsimp only; rw [if_pos hlt]
          rw [rdS_none e2]
          repeat (first | refine e2_stepS 17 rfl rfl rfl ?_ | refine e2x_getS 17 rfl rfl rfl ?_)
          rw [nI_add']
          exact hend _ _ _ _ _ _ (by rw [hp]) (by omega)
        | some a'' =>
          have b2 := tkS_of e2
          have hp : prs t n (k + 1) a = (q :: (prs t n k a'').1, (prs t n k a'').2) := by rw [hps, e1]; dsimp only; rw [e2]
          rw [rdS_some e2]
          repeat (first | refine e2_stepS 17 rfl rfl rfl ?_ | refine e2x_getS 17 rfl rfl rfl ?_)
          rw [nI_add']
          have K := ih a'' (i + 1) (upd f i (nI q.1)) (upd u i (nI q.2.1)) (upd w i (nI q.2.2)) b2.2 (by omega) (by omega)
          have hQ : ∀ v' G', rdQ G t (upd f i (nI q.1)) (upd u i (nI q.2.1)) (upd w i (nI q.2.2)) x (i + 1) (prs t n k a'') v' G' → rdQ G t f u w x i (prs t n (k + 1) a) v' G' := by
            rintro v' G' ⟨f', u', w', i', a3, br', h1, h2, h3⟩
            refine ⟨f', u', w', i', a3, br', by rw [hp]; exact h1, h2, fun z => ?_⟩
            rw [hp] at z ⊢
            obtain ⟨g1, g2, g3⟩ := h3 z
            have e9 : ∀ (g : Nat → Int32) (y : Int32) (j : Nat), j < i → upd g i y j = g j := fun g y j hj => by unfold upd; rw [if_neg (by omega)]
            refine ⟨by rw [g1, List.length_cons]; omega, fun j hj => ?_, lsOk_cons ?_ g3⟩
            · have := g2 j (by omega)
              rw [e9 _ _ _ hj, e9 _ _ _ hj, e9 _ _ _ hj] at this
              exact this
            · have := g2 i (by omega)
              simpa [upd] using this
          exact e2_post hQ K
      refine e2_if rfl rfl (fun z => ?_) (fun z => ?_)
      · have z2 : ¬ nI a' = nI n := z
        rw [nI_eq (by omega) (by omega)] at z2
        exact h55 (fun y => z2 y.1)
      · have z2 : nI a' = nI n := Classical.not_not.1 z
        rw [nI_eq (by omega) (by omega)] at z2
        have e2 : tkS t n a' (nI 59) = none := by unfold tkS; rw [if_neg (by omega)]
        have hp : prs t n (k + 1) a = ([q], none) := by rw [hps, e1]; dsimp only; rw [e2]; dsimp only; rw [if_neg (by omega)]
        have e9 : ∀ (g : Nat → Int32) (y : Int32) (j : Nat), j < i → upd g i y j = g j := fun g y j hj => by unfold upd; rw [if_neg (by omega)]
        repeat (first | refine e2_step rfl rfl ?_ | refine e2x_get rfl rfl ?_)
        refine e2_iret rfl rfl ⟨_, _, _, i + 1, a', false, by rw [hp]; rfl, rfl, fun _ => ?_⟩
        rw [hp]
        refine ⟨rfl, fun j hj => ⟨e9 _ _ _ hj, e9 _ _ _ hj, e9 _ _ _ hj⟩, lsOk_cons ?_ (fun j z hz => by simp at hz)⟩
        simp [upd]
theorem x_read {n : Nat} (hx1 : x 1 = nI n) (hn : n ≤ 80) : C2 ε jX6_read [.inr (0, 33)] (xG G t f u w x) (rdQ G t f u w x 0 (prs t n (n + 1) 0)) := by
  refine C2.of (ls := [some (.inr (0, 33)), none]) okX6_read rfl rfl ?_
  repeat (first | refine e2_step rfl rfl ?_ | refine e2x_get rfl rfl ?_)
  refine e2x_put rfl (by omega) ?_
  repeat (first | refine e2_step rfl rfl ?_ | refine e2x_get rfl rfl ?_)
  refine e2x_putz rfl (Or.inl rfl) ?_
  repeat (first | refine e2_step rfl rfl ?_ | refine e2x_get rfl rfl ?_)
  refine e2x_put rfl (by omega) ?_
  have e : upd (upd (upd x 6 (nI 0)) 7 (nI 0)) 5 (nI 0) = xst x 0 0 false := by
    funext j
    unfold xst upd
    by_cases h : j = 5
    · simp [h]
    · by_cases h2 : j = 7
      · simp [h2]; rfl
      · simp [h, h2]
  rw [e]
  repeat (first | refine e2_stepS 17 rfl rfl rfl ?_ | refine e2x_getS 17 rfl rfl rfl ?_)
  exact x_readL hx1 hn (n + 1) 0 0 f u w (by omega) (by omega) (by omega)
theorem x_reversed {L : List (Nat × Nat × Nat)} (hk : x 5 = nI L.length) (hk14 : L.length ≤ 14) (hL : lsOk f u w 0 L) (h100 : ∀ q, q ∈ L → q.1 < 100 ∧ q.2.1 < 100) : F2 ε jX6_hasReversedRange [.inr (0, 33)] (xG G t f u w x) (some (bI (dwnB L))) (xG G t f u w x) := by
  refine C2.of (ls := [some (.inr (0, 33)), none]) okX6_hasReversedRange rfl rfl ?_
  repeat (first | refine e2_stepS 2 rfl rfl rfl ?_ | refine e2x_getS 2 rfl rfl rfl ?_)
  have h : ∀ k i, i + k = L.length → E2 ε jX6_hasReversedRange 2 [some (.inr (0, 33)), some (.inl (nI i))] [] (xG G t f u w x) (fun v' G' => v' = some (bI (dwnB (L.drop i))) ∧ G' = xG G t f u w x) := by
    intro k
    induction k with
    | zero =>
      intro i hi
      have hd : L.drop i = [] := List.drop_eq_nil_of_le (by omega)
      rw [hd]
      repeat (first | refine e2_step rfl rfl ?_ | refine e2x_get rfl rfl ?_)
      rw [hk]
      refine e2_if rfl rfl (fun _ => ?_) (fun z => absurd (nI_le (by omega) (by omega)) z)
      repeat (first | refine e2_step rfl rfl ?_ | refine e2x_get rfl rfl ?_)
      exact e2_zret rfl rfl rfl ⟨rfl, rfl⟩
    | succ k ih =>
      intro i hi
      have hil : i < L.length := by omega
      have hd : L.drop i = L[i] :: L.drop (i + 1) := List.drop_eq_getElem_cons hil
      obtain ⟨g1, g2, -⟩ := hL i L[i] (by simp [hil])
      rw [Nat.zero_add] at g1 g2
      obtain ⟨y1, y2⟩ := h100 L[i] (List.getElem_mem hil)
      have e : dwnB (L.drop i) = (decide (L[i].2.1 < L[i].1) || dwnB (L.drop (i + 1))) := by rw [hd]; rfl
      have K := ih (i + 1) (by omega)
      rw [e]
      generalize L[i] = q at g1 g2 y1 y2 ⊢
      repeat (first | refine e2_step rfl rfl ?_ | refine e2x_get rfl rfl ?_)
      rw [hk]
      refine e2_if rfl rfl (fun z => absurd z (nI_ge (by omega) (by omega))) (fun _ => ?_)
      repeat (first | refine e2_step rfl rfl ?_ | refine e2x_get rfl rfl ?_)
      refine e2_iald (i := 0) (kk := 35) i rfl rfl (by decide) rfl (by omega) ?_
      repeat (first | refine e2_step rfl rfl ?_ | refine e2x_get rfl rfl ?_)
      refine e2_iald (i := 0) (kk := 36) i rfl rfl (by decide) rfl (by omega) ?_
      rw [show xG G t f u w x 0 35 i = f i from rfl, show xG G t f u w x 0 36 i = u i from rfl, g1, g2]
      refine e2_if rfl rfl (fun z => ?_) (fun z => ?_)
      · rw [nI_leI (by omega) (by omega)] at z
        rw [decide_eq_false (by omega), Bool.false_or]
        repeat (first | refine e2_stepS 2 rfl rfl rfl ?_ | refine e2x_getS 2 rfl rfl rfl ?_)
        rw [nI_add']
        exact K
      · rw [nI_leI (by omega) (by omega)] at z
        rw [decide_eq_true (by omega), Bool.true_or]
        repeat (first | refine e2_step rfl rfl ?_ | refine e2x_get rfl rfl ?_)
        exact e2_zret rfl rfl rfl ⟨rfl, rfl⟩
  exact h L.length 0 (by omega)
end Tc0
end
section
/-! Looks by offices; ranges of numbers. -/
section Qe0
variable {ε : EE} {J J1 J2 : JT} {pc : Nat} {ls : List (Option V0)} {st : List V0} {As : List V0} {G G' : GG} {r r' t x : Nat → Int32} {K K' : Nat} {Q : Option Int32 → GG → Prop}
/-- all but the line and the trial office is as it was -/
def lk1 (G G1 : GG) : Prop := ∀ i kk, ¬ (i = 18 ∧ kk < 18) → kk ≠ 40 → kk ≠ 41 → G1 i kk = G i kk
theorem fc_self {i : Nat} {v : Option Int32} {V' : VV} {s' : Int32} {o' : Nat → Int32} (h : FC ε J As G i (G i) (G 0 40 1) (G 0 41) v V' s' o') : F2 ε J As G v (cG G i V' s' o') := by
  unfold FC at h
  rw [cG_self] at h
  exact h
theorem fc_same {i : Nat} {v : Option Int32} (h : FC ε J As G i (G i) (G 0 40 1) (G 0 41) v (G i) (G 0 40 1) (G 0 41)) : F2 ε J As G v G := by
  unfold FC at h
  rw [cG_self] at h
  exact h
theorem isIn_out {n : Int32} {a b : Nat} (ha : a < 2 ^ 31) (hb : b < 2 ^ 31) (h : ¬ isInB n (nI a) (nI b) = true) : n.toInt < a ∨ (b : Int) < n.toInt := by
  rcases Int.lt_or_le n.toInt a with h1 | h1
  · exact Or.inl h1
  · rcases Int.lt_or_le (b : Int) n.toInt with h2 | h2
    · exact Or.inr h2
    · exfalso
      apply h
      unfold isInB
      rw [decide_eq_true (Int32.le_iff_toInt_le.2 (by rw [nI_toInt ha]; exact h1)), decide_eq_true (Int32.le_iff_toInt_le.2 (by rw [nI_toInt hb]; exact h2))]
      rfl
theorem isIn_nI' {k b : Nat} (h : k ≤ b) (hb : b < 2 ^ 31) : isInB (nI k) (nI 0) (nI b) = true := by
  unfold isInB
  rw [decide_eq_true (nI_le (by omega) (by omega)), decide_eq_true (nI_le h hb)]
  rfl
theorem sumI_cnt {f : Nat → Int32} {p : Nat → Bool} : ∀ n, (∀ l, l < n → f l = if p l then nI 1 else nI 0) → sumI f n = nI (cntB p n)
  | 0, _ => rfl
  | n + 1, h => by
    unfold sumI cntB
    rw [sumI_cnt n (fun l hl => h l (by omega)), h n (by omega)]
    by_cases hp : p n = true
    · rw [if_pos hp, if_pos hp, nI_add']
    · rw [if_neg hp, if_neg hp, nI_add']
end Qe0
section Qf0
variable {ε : EE} {J J1 J2 : JT} {pc : Nat} {ls : List (Option V0)} {st : List V0} {As : List V0} {G G' : GG} {r r' t x o : Nat → Int32} {K K' : Nat} {Q : Option Int32 → GG → Prop}
theorem fstC_congr {f g : Nat → Int32} {w : Int32} : ∀ n, (∀ j, j < n → f j = g j) → fstC f w n = fstC g w n
  | 0, _ => rfl
  | n + 1, h => by
    unfold fstC
    rw [fstC_congr n (fun j hj => h j (by omega)), h n (by omega)]
theorem lstC_congr {f g : Nat → Int32} {w : Int32} : ∀ k c, (∀ j, j ≤ c + k → f j = g j) → lstC f w k c = lstC g w k c
  | 0, c, _ => rfl
  | k + 1, c, h => by
    unfold lstC
    rw [lstC_congr k (c + 1) (fun j hj => h j (by omega)), h (c + 1) (by omega)]
theorem fstC_le {f : Nat → Int32} {w : Int32} : ∀ n, fstC f w n ≤ n
  | 0 => Nat.le_refl _
  | n + 1 => by
    unfold fstC
    split
    · have := fstC_le (f := f) (w := w) n
      omega
    · exact Nat.le_refl _
end Qf0
section Qg0
variable {ε : EE} {J J1 J2 : JT} {pc : Nat} {ls : List (Option V0)} {st : List V0} {As : List V0} {G G' : GG} {r r' t x o : Nat → Int32} {K K' : Nat} {Q : Option Int32 → GG → Prop}
theorem isIn_lt {n : Int32} {N : Nat} (hN : N ≤ 120) (h : isInB n (nI 0) (nI N - nI 1) = true) : ∃ l, l < N ∧ n = nI l := by
  cases N with
  | zero =>
    exfalso
    simp only [isInB, Bool.and_eq_true, decide_eq_true_eq] at h
    have h1 := Int32.le_iff_toInt_le.1 (Int32.le_trans h.1 h.2)
    exact absurd h1 (by decide)
  | succ N =>
    rw [pk_sub (by omega), Nat.add_sub_cancel] at h
    obtain ⟨k, hk, e⟩ := isIn_nI (by omega) h
    exact ⟨k, by omega, e⟩
end Qg0
section Qh0
variable {ε : EE} {J J1 J2 : JT} {pc : Nat} {ls : List (Option V0)} {st : List V0} {As : List V0} {G G' G1 : GG} {i : Nat} {V : VV} {s : Int32} {r r' r1 r2 t x x2 o : Nat → Int32} {K K' : Nat} {Q : Option Int32 → GG → Prop}
theorem isIn_ab {n : Int32} {a b : Nat} (ha : a < 2 ^ 31) (hb : b < 2 ^ 31) (h : isInB n (nI a) (nI b) = true) : ∃ k, a ≤ k ∧ k ≤ b ∧ n = nI k := by
  simp only [isInB, Bool.and_eq_true, decide_eq_true_eq] at h
  have h1 := Int32.le_iff_toInt_le.1 h.1
  have h2 := Int32.le_iff_toInt_le.1 h.2
  rw [nI_toInt ha] at h1
  rw [nI_toInt hb] at h2
  refine ⟨n.toInt.toNat, by omega, by omega, Int32.toInt_inj.1 ?_⟩
  rw [nI_toInt (by omega)]
  omega
end Qh0
section Qi0
variable {ε : EE} {J J1 J2 : JT} {pc : Nat} {ls : List (Option V0)} {st : List V0} {As : List V0} {G G' G1 : GG} {i N : Nat} {V V' : VV} {s : Int32} {r r' r1 r2 t x x2 o : Nat → Int32} {K K' : Nat} {Q : Option Int32 → GG → Prop}
def addVs (V : VV) (N : Nat) (c f h : Int32) : Nat → VV
  | 0 => V
  | k + 1 => addV (addVs V N c f h k) (N + k) c f h
theorem addVs_0 {c f h : Int32} : ∀ k, addVs V N c f h k 0 = V 0
  | 0 => rfl
  | k + 1 => by
    show addV (addVs V N c f h k) (N + k) c f h 0 = V 0
    rw [← addVs_0 (c := c) (f := f) (h := h) k]
    rfl
end Qi0
section Qj0
variable {ε : EE} {J J1 J2 : JT} {pc : Nat} {ls : List (Option V0)} {st : List V0} {As : List V0} {G G' G1 : GG} {i N : Nat} {V V' : VV} {s : Int32} {r r' r1 r2 t x x2 o : Nat → Int32} {K K' : Nat} {Q : Option Int32 → GG → Prop}
/-- the office when walk w, which has carrier p, gets carrier c -/
def asP (V : VV) (p : Option Nat) : VV := match p with
  | none => V
  | some a => wv V 13 a (-9)
def asV (V : VV) (w : Nat) (p c : Option Nat) : VV := match c with
  | none => asP V p
  | some a => wv (asP V p) 13 a (nI w)
theorem asV_o {w : Nat} {p c : Option Nat} {kk : Nat} (h : kk ≠ 13) : asV V w p c kk = V kk := by
  have e : asP V p kk = V kk := by
    cases p with
    | none => rfl
    | some a => show wv V 13 a (-9) kk = _; unfold wv sv; rw [if_neg h]
  cases c with
  | none => exact e
  | some b => show wv (asP V p) 13 b (nI w) kk = _; unfold wv sv; rw [if_neg h]; exact e
theorem asP_13 {p : Option Nat} {a : Nat} : asP V p 13 a = if p = some a then -9 else V 13 a := by
  cases p with
  | none => rfl
  | some b =>
    show upd (V 13) b (-9) a = _
    unfold upd
    by_cases h : a = b
    · subst h
      rw [if_pos rfl, if_pos rfl]
    · rw [if_neg h, if_neg (fun z => h (Option.some.inj z).symm)]
theorem asV_13 {w : Nat} {p c : Option Nat} {a : Nat} : asV V w p c 13 a = if c = some a then nI w else if p = some a then -9 else V 13 a := by
  cases c with
  | none => exact asP_13
  | some b =>
    show upd (asP V p 13) b (nI w) a = _
    unfold upd
    by_cases h : a = b
    · subst h
      rw [if_pos rfl, if_pos rfl]
    · rw [if_neg h, if_neg (fun z => h (Option.some.inj z).symm)]
      exact asP_13
theorem oI_some {c : Option Nat} {a : Nat} (ha : a < 1000) (hc : ∀ b, c = some b → b < 6) : oI c = nI a ↔ c = some a := by
  cases c with
  | none => exact ⟨fun z => absurd (show (-9 : Int32) = nI a from z).symm (nI_n9 (by omega)), fun z => by cases z⟩
  | some b =>
    have := hc b rfl
    exact ⟨fun z => by rw [(nI_eq (by omega) (by omega)).1 (show nI b = nI a from z)], fun z => by cases z; rfl⟩
def cI : Option Nat → Int32
  | none => -1
  | some b => nI b
theorem isIn_m1 {c : Int32} : isInB c (-1) (nI 5) = true ↔ c = -1 ∨ isInB c (nI 0) (nI 5) = true := by
  have e0 : (nI 0).toInt = 0 := by decide
  have e5 : (nI 5).toInt = 5 := by decide
  have e1 : (-1 : Int32).toInt = -1 := by decide
  simp only [isInB, Bool.and_eq_true, decide_eq_true_eq, Int32.le_iff_toInt_le, e0, e5, e1]
  constructor
  · intro h
    by_cases hz : c.toInt = -1
    · exact Or.inl (Int32.toInt_inj.1 (by rw [hz, e1]))
    · exact Or.inr ⟨by omega, h.2⟩
  · rintro (h | h)
    · rw [h, e1]
      omega
    · omega
end Qj0
end
section
/-! Pictures that differ only where no cell lies serve alike: copies are exact. -/
section EX
variable {ε : EE} {J : JT} {D : va_G} {cl : List vw_C} {A : Nat → Prop} {H : Heap} {G G' : GG}
def cEq (i kk : Nat) (f g : Nat → Int32) : Prop := objV i kk f = objV i kk g ∧ (∀ t n, arrI kk = some (t, n) → ∀ j, j < n → f j = g j) ∧ (arrI kk = none → objV i kk f = none → kk ≠ 21 → ∀ j, j < 5 → f j = g j)
theorem cEq.rf {i kk : Nat} {f : Nat → Int32} : cEq i kk f f := ⟨rfl, fun _ _ _ _ _ => rfl, fun _ _ _ _ _ => rfl⟩
theorem cEq.of {i kk : Nat} {f g : Nat → Int32} (h : f = g) : cEq i kk f g := by subst h; exact cEq.rf
theorem arrV_ext {cA : ClassId} {n : Nat} {f g : Nat → Value} (h : ∀ j, j < n → f j = g j) : arrV cA n f = arrV cA n g := by
  unfold arrV
  have e : (fun j : Fin n => f j.val) = (fun j : Fin n => g j.val) := funext fun j => h j.val j.isLt
  rw [e]
theorem cEq.at {i kk a : Nat} {f g : Nat → Int32} (h : cEq i kk f g) (hP : va_at D cl (a, cellE ε i kk f) H) : va_at D cl (a, cellE ε i kk g) H := by
  obtain ⟨h1, h2, h3⟩ := h
  unfold cellE at hP ⊢
  rw [← h1]
  cases ho : objV i kk f with
  | some q => rw [ho] at hP; exact hP
  | none =>
    rw [ho] at hP
    simp only [] at hP ⊢
    cases ha : arrI kk with
    | some q =>
      obtain ⟨t, n⟩ := q
      rw [ha] at hP
      have e : arrV (ε.2.2.1 t) n (fun j => Value.int (f j)) = arrV (ε.2.2.1 t) n (fun j => Value.int (g j)) := arrV_ext (fun j hj => by rw [h2 t n ha j hj])
      have hP : H[a]? = some (arrV (ε.2.2.1 t) n (fun j => Value.int (f j))) := hP
      show H[a]? = some (arrV (ε.2.2.1 t) n (fun j => Value.int (g j)))
      rw [← e]
      exact hP
    | none =>
      rw [ha] at hP
      simp only [] at hP ⊢
      by_cases hk : kk = 21
      · rw [if_pos hk] at hP ⊢
        exact hP
      · rw [if_neg hk] at hP ⊢
        have e : arrV (ε.2.2.1 4) 5 (fun s => va_rf (some (ε.2.2.2.2.1 (f s).toNatClampNeg 20))) = arrV (ε.2.2.1 4) 5 (fun s => va_rf (some (ε.2.2.2.2.1 (g s).toNatClampNeg 20))) := arrV_ext (fun j hj => by rw [h3 ha ho hk j hj])
        have hP : H[a]? = some (arrV (ε.2.2.1 4) 5 (fun s => va_rf (some (ε.2.2.2.2.1 (f s).toNatClampNeg 20)))) := hP
        show H[a]? = some (arrV (ε.2.2.1 4) 5 (fun s => va_rf (some (ε.2.2.2.2.1 (g s).toNatClampNeg 20))))
        rw [← e]
        exact hP
def WE (G G' : GG) : Prop := ∀ i kk, i < lim kk → cEq i kk (G i kk) (G' i kk)
theorem WE.rf : WE G G := fun _ _ _ => cEq.rf
set_option maxRecDepth 100000 in
theorem vals_limb : vals.all (fun q => decide (q.1 < lim q.2)) = true := by decide +kernel
theorem vals_lim {q : Nat × Nat} (h : q ∈ vals) : q.1 < lim q.2 := of_decide_eq_true (List.all_eq_true.mp vals_limb q h)
theorem WE.P (h : WE G G') (hP : va_P D cl (wd ε G) H) : va_P D cl (wd ε G') H := by
  intro k q hk
  unfold wd at hk
  by_cases hl : k < vals.length
  · rw [List.getElem?_append_left (by rw [List.length_map]; exact hl), List.getElem?_map] at hk
    obtain ⟨p, hp⟩ : ∃ p, vals[k]? = some p := ⟨_, List.getElem?_eq_getElem hl⟩
    rw [hp] at hk
    cases hk
    have h1 := hP k (ε.2.2.2.2.1 p.1 p.2, cellE ε p.1 p.2 (G p.1 p.2)) (by
      unfold wd
      rw [List.getElem?_append_left (by rw [List.length_map]; exact hl), List.getElem?_map, hp]
      rfl)
    exact (h p.1 p.2 (vals_lim (List.mem_of_getElem? hp))).at h1
  · refine hP k q ?_
    unfold wd
    rw [List.getElem?_append_right (by rw [List.length_map]; omega), List.length_map] at hk ⊢
    exact hk
theorem map_fst {α β γ : Type} (f : α → β) (F : α → γ) (z : Option α) : (z.map (fun q => (f q, F q))).map Prod.fst = z.map f := by cases z <;> rfl
theorem wd_fst (ε : EE) (G G' : GG) (k : Nat) : ((wd ε G)[k]?).map Prod.fst = ((wd ε G')[k]?).map Prod.fst := by
  unfold wd
  by_cases hl : k < vals.length
  · rw [List.getElem?_append_left (by rw [List.length_map]; exact hl), List.getElem?_append_left (by rw [List.length_map]; exact hl), List.getElem?_map, List.getElem?_map, map_fst, map_fst]
  · rw [List.getElem?_append_right (by rw [List.length_map]; omega), List.getElem?_append_right (by rw [List.length_map]; omega), List.length_map, List.length_map]
theorem wd_pre {k : Nat} {p : Nat × va_E} (h : (wd ε G')[k]? = some p) : ∃ p', (wd ε G)[k]? = some p' ∧ p'.1 = p.1 := by
  have e := wd_fst ε G G' k
  rw [h] at e
  cases hg : (wd ε G)[k]? with
  | none => rw [hg] at e; cases e
  | some p' =>
    rw [hg] at e
    exact ⟨p', rfl, Option.some.inj e⟩
theorem WE.dist (hD : va_D A (wd ε G)) : va_D A (wd ε G') := by
  refine ⟨fun i j p q hi hj e => ?_, fun k q hk => ?_⟩
  · obtain ⟨p', h1, h2⟩ := wd_pre (G := G) hi
    obtain ⟨q', h3, h4⟩ := wd_pre (G := G) hj
    exact hD.1 i j p' q' h1 h3 (by rw [h2, h4, e])
  · obtain ⟨q', h1, h2⟩ := wd_pre (G := G) hk
    rw [← h2]
    exact hD.2 k q' h1
theorem C2.conv {As : List V0} {Q Q' : Option Int32 → GG → Prop} (h : ∀ v G, Q v G → ∃ G', Q' v G' ∧ WE G G') (k : C2 ε J As G Q) : C2 ε J As G Q' := by
  unfold C2 e_Ct Met at k ⊢
  refine MetFree.mono k (fun _ _ z => z) (fun _ _ _ _ _ z => z) (fun a s o s' _ z => ⟨?_, z.2⟩)
  have b3 := z.1
  cases hj : jr J with
  | none =>
    rw [e_Qc_none hj] at b3 ⊢
    obtain ⟨⟨u, c1, ⟨G', e, q⟩, c3⟩, c4⟩ := b3
    obtain ⟨G2, q2, w⟩ := h _ _ q
    rw [e] at c3
    exact ⟨⟨wd ε G2, c1, ⟨G2, rfl, q2⟩, w.P c3.1, WE.dist c3.2⟩, c4⟩
  | some ty =>
    rw [e_Qc_some hj] at b3 ⊢
    obtain ⟨⟨r, u, c1, ⟨G', e, q⟩, c3⟩, c4⟩ := b3
    obtain ⟨G2, q2, w⟩ := h _ _ q
    rw [e] at c3
    exact ⟨⟨r, wd ε G2, c1, ⟨G2, rfl, q2⟩, w.P c3.1, WE.dist c3.2⟩, c4⟩
/-- offices that show the same serve alike -/
theorem AgO.eq {U V : VV} (h : AgO U V) {i kk : Nat} (hk : kk < 18) : cEq i kk (V kk) (U kk) := by
  obtain ⟨h1, h4, h5, h6, h7, h8⟩ := h
  have hk2 : kk = 0 ∨ kk = 1 ∨ kk = 2 ∨ kk = 3 ∨ kk = 4 ∨ kk = 5 ∨ kk = 6 ∨ kk = 7 ∨ kk = 8 ∨ kk = 9 ∨ kk = 10 ∨ kk = 11 ∨ kk = 12 ∨ kk = 13 ∨ kk = 14 ∨ kk = 15 ∨ kk = 16 ∨ kk = 17 := by omega
  have ar : ∀ kk, (∀ t n, arrI kk = some (t, n) → n = lenO kk) → objV i kk (V kk) = objV i kk (U kk) → (arrI kk = none → objV i kk (V kk) = none → False) → cEq i kk (V kk) (U kk) := fun kk a b c => ⟨b, fun t n e j hj => h1 kk j (by rw [← a t n e]; exact hj), fun e1 e2 _ => (c e1 e2).elim⟩
  rcases hk2 with rfl | rfl | rfl | rfl | rfl | rfl | rfl | rfl | rfl | rfl | rfl | rfl | rfl | rfl | rfl | rfl | rfl | rfl
  · refine ar 0 (fun t n e => by cases e) ?_ (fun _ e => by cases e)
    show some (_, _) = some (_, _)
    rw [h4, h5, h6, h7]
  · exact ar 1 (fun t n e => by cases e) rfl (fun _ e => by cases e)
  · exact ar 2 (fun t n e => by cases e; rfl) rfl (fun e => by cases e)
  · refine ar 3 (fun t n e => by cases e) ?_ (fun _ e => by cases e)
    show some (_, _) = some (_, _)
    rw [h8]
  · exact ar 4 (fun t n e => by cases e; rfl) rfl (fun e => by cases e)
  · exact ar 5 (fun t n e => by cases e; rfl) rfl (fun e => by cases e)
  · exact ar 6 (fun t n e => by cases e; rfl) rfl (fun e => by cases e)
  · exact ar 7 (fun t n e => by cases e; rfl) rfl (fun e => by cases e)
  · exact ar 8 (fun t n e => by cases e; rfl) rfl (fun e => by cases e)
  · exact ar 9 (fun t n e => by cases e; rfl) rfl (fun e => by cases e)
  · exact ar 10 (fun t n e => by cases e; rfl) rfl (fun e => by cases e)
  · exact ar 11 (fun t n e => by cases e; rfl) rfl (fun e => by cases e)
  · exact ar 12 (fun t n e => by cases e) rfl (fun _ e => by cases e)
  · exact ar 13 (fun t n e => by cases e; rfl) rfl (fun e => by cases e)
  · exact ar 14 (fun t n e => by cases e; rfl) rfl (fun e => by cases e)
  · exact ar 15 (fun t n e => by cases e; rfl) rfl (fun e => by cases e)
  · exact ar 16 (fun t n e => by cases e; rfl) rfl (fun e => by cases e)
  · exact ar 17 (fun t n e => by cases e; rfl) rfl (fun e => by cases e)
/-- office i as office i2 is -/
def cpE (G : GG) (i i2 : Nat) : GG := fun i' kk => if i' = i ∧ kk < 18 then G i2 kk else G i' kk
theorem cpE_at {i i2 kk : Nat} (h : kk < 18) : cpE G i i2 i kk = G i2 kk := by unfold cpE; rw [if_pos ⟨rfl, h⟩]
theorem cpE_o {i i2 i' kk : Nat} (h : i' ≠ i ∨ 18 ≤ kk) : cpE G i i2 i' kk = G i' kk := by unfold cpE; rw [if_neg (by omega)]
theorem Q_officeE {i i2 : Nat} (hi : i < 19) (hi2 : i2 < 19) (hne : i2 ≠ i) (hz : ∀ t, t < 6 → G i2 14 t = 0 ∨ G i2 14 t = 1) : F2 ε jX5_copyFrom [.inr (i, 0), .inr (i2, 0)] G none (cpE G i i2) := by
  refine C2.conv (fun v G1 z => ⟨cpE G i i2, ⟨z.1, rfl⟩, ?_⟩) (Q_office hi hi2 hne hz)
  rw [z.2]
  intro i' kk _
  by_cases h : i' = i ∧ kk < 18
  · obtain ⟨rfl, hk⟩ := h
    rw [cpE_at hk]
    exact (cpG_ag G i' i2).eq hk
  · rw [cpG_o G i i2 (by omega), cpE_o (by omega)]
    exact cEq.rf
/-- moment j behind the copying of moment m, exactly -/
def CpX (G G' : GG) (j m : Nat) : Prop := (∀ kk, kk < 18 → G' (3 * j) kk = G (3 * m) kk) ∧ (∀ t, t < 2 → G' j 22 t = G m 22 t ∧ (G m 22 t = 1 → ∀ kk, kk < 18 → G' (3 * j + 1 + t) kk = G (3 * m + 1 + t) kk)) ∧ (∀ i kk, ¬ (3 * j ≤ i ∧ i < 3 * j + 3 ∧ kk < 18) → ¬ (i = j ∧ kk = 22) → G' i kk = G i kk)
/-- G' with moment j as moment m of G, exactly -/
def exG (G G' : GG) (j m : Nat) : GG := fun i kk => if i = 3 * j ∧ kk < 18 then G (3 * m) kk else if (i = 3 * j + 1 ∧ G m 22 0 = 1) ∧ kk < 18 then G (3 * m + 1) kk else if (i = 3 * j + 2 ∧ G m 22 1 = 1) ∧ kk < 18 then G (3 * m + 2) kk else G' i kk
theorem exG_o {j m i kk : Nat} (h : ¬ (3 * j ≤ i ∧ i < 3 * j + 3 ∧ kk < 18)) : exG G G' j m i kk = G' i kk := by
  unfold exG
  rw [if_neg (by omega), if_neg (by omega), if_neg (by omega)]
theorem CpM.ex {j m : Nat} (h : CpM G G' j m) : ∃ G2, CpX G G2 j m ∧ WE G' G2 := by
  obtain ⟨h1, h2, h3⟩ := h
  refine ⟨exG G G' j m, ⟨fun kk hk => ?_, fun t ht => ⟨?_, fun z kk hk => ?_⟩, fun i kk a b => ?_⟩, fun i kk _ => ?_⟩
  · unfold exG
    rw [if_pos ⟨rfl, hk⟩]
  · rw [exG_o (by omega)]
    exact (h2 t ht).1
  · unfold exG
    rw [if_neg (by omega)]
    have e : t = 0 ∨ t = 1 := by omega
    rcases e with rfl | rfl
    · rw [if_pos ⟨⟨rfl, z⟩, hk⟩]
    · rw [if_neg (by omega), if_pos ⟨⟨rfl, z⟩, hk⟩]
  · rw [exG_o (by omega)]
    exact h3 i kk a b
  · unfold exG
    by_cases c0 : i = 3 * j ∧ kk < 18
    · rw [if_pos c0, c0.1]
      exact h1.eq c0.2
    · rw [if_neg c0]
      by_cases c1 : (i = 3 * j + 1 ∧ G m 22 0 = 1) ∧ kk < 18
      · rw [if_pos c1, c1.1.1]
        exact ((h2 0 (by omega)).2 c1.1.2).eq c1.2
      · rw [if_neg c1]
        by_cases c2 : (i = 3 * j + 2 ∧ G m 22 1 = 1) ∧ kk < 18
        · rw [if_pos c2, c2.1.1]
          exact ((h2 1 (by omega)).2 c2.1.2).eq c2.2
        · rw [if_neg c2]
          exact cEq.rf
end EX
end
section
/-! The history by its order alone: what remembering leaves, what undo brings back. -/
section SA
variable {ε : EE} {J : JT} {G G' G1 G0 H1 : GG} {d m : Nat} {hm : Nat → Nat}
/-- the history: d states, hm gives the places of the moments -/
def HS (G : GG) (d : Nat) (hm : Nat → Nat) : Prop := d ≤ 5 ∧ G 0 31 1 = nI d ∧ (∀ p, p < 5 → 1 ≤ hm p ∧ hm p < 6 ∧ G 0 32 p = nI (hm p)) ∧ ∀ p q, p < 5 → q < 5 → hm p = hm q → p = q
/-- moment m shows what moment 0 of G0 shows -/
def Shows (G0 G : GG) (m : Nat) : Prop := (∀ kk, kk < 18 → G (3 * m) kk = G0 0 kk) ∧ ∀ t, t < 2 → G m 22 t = G0 0 22 t ∧ (G0 0 22 t = 1 → ∀ kk, kk < 18 → G (3 * m + 1 + t) kk = G0 (1 + t) kk)
/-- G0 is what undo brings back: it lies at the end of the history -/
def Top (G0 G : GG) (d : Nat) : Prop := ∃ hm, d < 5 ∧ HS G (d + 1) hm ∧ Shows G0 G (hm d)
/-- what remembering leaves -/
def Rm (G G1 : GG) : Prop := (∃ d, Top G G1 d ∧ (G 0 31 1 = nI d ∨ (G 0 31 1 = nI 5 ∧ d = 4))) ∧ ∀ i kk, (i < 3 ∨ i = 18 ∨ 18 ≤ kk) → kk ≠ 31 → kk ≠ 32 → (kk ≠ 22 ∨ i = 0) → G1 i kk = G i kk
theorem rem_of (hd : d < 5) (hx : G 0 31 1 = nI d ∨ (G 0 31 1 = nI 5 ∧ d = 4)) (e : ∀ p, p < 5 → 1 ≤ hm p ∧ hm p < 6 ∧ G0 0 32 p = nI (hm p)) (f : ∀ p q, p < 5 → q < 5 → hm p = hm q → p = q) (hs : ∀ i kk, ¬ (i = 0 ∧ kk = 31) → ¬ (i = 0 ∧ kk = 32) → G0 i kk = G i kk) (hR : CpX G0 H1 (hm d) 0) : Rm G (wr H1 0 31 1 (nI (d + 1))) := by
  obtain ⟨c1, c2, c3⟩ := hR
  obtain ⟨m1, m6, -⟩ := e d hd
  have ho : ∀ i kk, ¬ (3 * hm d ≤ i ∧ i < 3 * hm d + 3 ∧ kk < 18) → ¬ (i = hm d ∧ kk = 22) → ¬ (i = 0 ∧ kk = 31) → wr H1 0 31 1 (nI (d + 1)) i kk = G0 i kk := fun i kk a b c => by
    rw [wr_o c]
    exact c3 i kk a b
  have hoff : ∀ i kk, kk < 30 → wr H1 0 31 1 (nI (d + 1)) i kk = H1 i kk := fun i kk a => wr_o (by omega)
  refine ⟨⟨d, ⟨hm, hd, ⟨by omega, wr_s, fun p hp => ⟨(e p hp).1, (e p hp).2.1, ?_⟩, f⟩, fun kk hk => ?_, fun t ht => ⟨?_, fun z kk hk => ?_⟩⟩, hx⟩, fun i kk a b c q => ?_⟩
  · rw [ho 0 32 (by omega) (by omega) (by omega)]
    exact (e p hp).2.2
  · rw [hoff _ _ (by omega), c1 kk hk, hs _ _ (by omega) (by omega)]
  · rw [hoff _ _ (by omega), (c2 t ht).1, hs _ _ (by omega) (by omega)]
  · rw [hoff _ _ (by omega), (c2 t ht).2 (by rw [hs _ _ (by omega) (by omega)]; exact z) kk hk, hs _ _ (by omega) (by omega)]
  · rw [ho i kk (by omega) (by omega) (by omega)]
    exact hs i kk (by omega) (by omega)
theorem WE.wrt {j : Nat} {x : Int32} (h : WE G H1) (h31 : G 0 31 = H1 0 31) : WE (wr G 0 31 j x) (wr H1 0 31 j x) := by
  intro i kk hl
  by_cases h1 : i = 0 ∧ kk = 31
  · obtain ⟨rfl, rfl⟩ := h1
    unfold wr
    rw [setA_s, setA_s, h31]
    exact cEq.rf
  · rw [wr_o h1, wr_o h1]
    exact h i kk hl
theorem RmM.ex (hd : d < 5) (hm6 : m < 6) (h : RmM G0 G' d m 0) : ∃ H1, CpX G0 H1 m 0 ∧ WE G' (wr H1 0 31 1 (nI (d + 1))) := by
  obtain ⟨G1, h1, rfl⟩ := h
  have h13 := h1.2.2
  obtain ⟨H1, h2, h3⟩ := h1.ex
  exact ⟨H1, h2, h3.wrt (by rw [h13 0 31 (by omega) (by omega), h2.2.2 0 31 (by omega) (by omega)])⟩
theorem q_rem0 (h : HS G d hm) (hk : okM G 0) : C2 ε jX1_remember [.inr (0, 31), .inr (0, 20)] G (fun v G1 => v = none ∧ Rm G G1) := by
  obtain ⟨a, b, e, f⟩ := h
  by_cases h5 : d = 5
  · subst h5
    have e0 := e 0 (by omega)
    refine C2.conv (fun v G1 z => ?_) (q_remember5 (m := hm 0) (j := 0) b (fun p hp => ⟨hm p, (e p hp).2.1, (e p hp).2.2⟩) e0.2.2 e0.2.1 (by omega) (by omega) hk)
    have hs : ∀ i kk, ¬ (i = 0 ∧ kk = 31) → ¬ (i = 0 ∧ kk = 32) → wr (setA G 0 32 (rotR (G 0 32))) 0 31 1 (nI 4) i kk = G i kk := fun i kk a b => by
      rw [wr_o a]
      by_cases hk : kk = 32
      · subst hk
        exact setA_i _ _ _ _ _ _ (by omega)
      · exact setA_k _ _ _ _ _ _ hk
    have h32 : wr (setA G 0 32 (rotR (G 0 32))) 0 31 1 (nI 4) 0 32 = rotR (G 0 32) := by rw [wr_o (by omega), setA_s]
    generalize wr (setA G 0 32 (rotR (G 0 32))) 0 31 1 (nI 4) = G0 at z hs h32
    obtain ⟨H1, k1, k2⟩ := RmM.ex (by omega) e0.2.1 z.2
    refine ⟨_, ⟨z.1, rem_of (d := 4) (hm := fun p => if p < 4 then hm (p + 1) else hm 0) (by omega) (Or.inr ⟨b, rfl⟩) (fun p hp => ?_) (fun p q hp hq z => ?_) hs k1⟩, k2⟩
    · rw [h32]
      unfold rotR
      by_cases hp4 : p < 4
      · simp only [if_pos hp4]
        exact e (p + 1) (by omega)
      · have : p = 4 := by omega
        subst this
        exact e0
    · by_cases hp4 : p < 4
      · by_cases hq4 : q < 4
        · simp only [if_pos hp4, if_pos hq4] at z
          have := f _ _ (by omega) (by omega) z
          omega
        · simp only [if_pos hp4, if_neg hq4] at z
          have := f _ _ (by omega) (by omega) z
          omega
      · by_cases hq4 : q < 4
        · simp only [if_neg hp4, if_pos hq4] at z
          have := f _ _ (by omega) (by omega) z
          omega
        · omega
  · have ed := e d (by omega)
    refine C2.conv (fun v G1 z => ?_) (q_remember (m := hm d) (j := 0) b (by omega) ed.2.2 ed.2.1 (by omega) (by omega) hk)
    obtain ⟨H1, k1, k2⟩ := RmM.ex (by omega) ed.2.1 z.2
    exact ⟨_, ⟨z.1, rem_of (d := d) (hm := hm) (by omega) (Or.inl b) e f (fun _ _ _ _ => rfl) k1⟩, k2⟩
theorem Shows.okM (h : Shows G0 G m) (hk : okM G0 0) : okM G m := by
  obtain ⟨h1, h2⟩ := h
  refine ⟨fun t ht => ?_, fun t ht => ⟨?_, fun z u hu => ?_⟩⟩
  · rw [h1 14 (by omega)]
    exact hk.1 t ht
  · rw [(h2 t ht).1]
    exact (hk.2 t ht).1
  · have z0 : G0 0 22 t = 1 := by rw [← (h2 t ht).1]; exact z
    rw [(h2 t ht).2 z0 14 (by omega)]
    have := (hk.2 t ht).2 z0 u hu
    rw [show 3 * 0 + 1 + t = 1 + t by omega] at this
    exact this
/-- what undo leaves -/
def Bk (G0 G G' : GG) (d : Nat) : Prop := (∃ hm, HS G' d hm) ∧ Shows G0 G' 0 ∧ ∀ i kk, (i = 18 ∨ 18 ≤ kk) → kk ≠ 31 → kk ≠ 22 → G' i kk = G i kk
theorem q_back (h : Top G0 G d) (hk : okM G0 0) : C2 ε jX1_giveBack [.inr (0, 31), .inr (0, 20)] G (fun v G' => v = none ∧ Bk G0 G G' d) := by
  obtain ⟨hm, hd, ⟨a, b, e, f⟩, s⟩ := h
  have ed := e d hd
  refine C2.conv (fun v G' z => ?_) (q_giveBack (d := d) (m := hm d) (j := 0) b hd ed.2.2 ed.2.1 (by omega) (by omega) (s.okM hk))
  obtain ⟨H1, ⟨c1, c2, c3⟩, k2⟩ := z.2.ex
  refine ⟨H1, ⟨z.1, ⟨hm, by omega, ?_, fun p hp => ⟨(e p hp).1, (e p hp).2.1, ?_⟩, f⟩, ⟨fun kk hkk => ?_, fun t ht => ⟨?_, fun z kk hkk => ?_⟩⟩, fun i kk q1 q2 q3 => ?_⟩, k2⟩
  · rw [c3 0 31 (by omega) (by omega)]
    exact wr_s
  · rw [c3 0 32 (by omega) (by omega), wr_o (by omega)]
    exact (e p hp).2.2
  · rw [c1 kk hkk, wr_o (by omega), s.1 kk hkk]
  · rw [(c2 t ht).1, wr_o (by omega), (s.2 t ht).1]
  · rw [(c2 t ht).2 (by rw [wr_o (by omega), (s.2 t ht).1]; exact z) kk hkk, wr_o (by omega), (s.2 t ht).2 z kk hkk]
  · rw [c3 i kk (by omega) (by omega), wr_o (by omega)]
end SA
end
section
/-! The invariant of an office, stated of its picture alone; one letter moved. -/
section IA
variable {V V' U : VV} {N Y l : Nat}
def P7 (V : VV) (p N : Nat) : Nat := cntB (fun l => decide (V 7 l = nI p)) N
def IN (V : VV) (N Y : Nat) : Prop := N ≤ 120 ∧ V 3 8 = nI N ∧ (∀ c, c < 100 → ∃ w, w < 8 ∧ V 2 c = nI w) ∧ (∀ w, w < 8 → ∃ h, 1 ≤ h ∧ h ≤ 20 ∧ V 17 w = nI h) ∧ (∃ y, y ≤ Y ∧ V 0 4 = nI y) ∧ (∃ u, u ≤ 2 ∧ V 0 5 = nI u) ∧ (∃ u, 1 ≤ u ∧ u ≤ 40 ∧ V 0 6 = nI u) ∧ (∃ u, 1 ≤ u ∧ u ≤ 30 ∧ V 0 7 = nI u)
def IK (V : VV) : Prop := (∀ c, c < 6 → (V 14 c = nI 0 ∨ V 14 c = nI 1) ∧ (V 13 c = -9 ∨ ∃ w, w < 8 ∧ V 13 c = nI w) ∧ (V 14 c = nI 1 → ¬ V 13 c = -9)) ∧ ∀ c d, c < 6 → d < 6 → V 13 c = V 13 d → V 13 c = -9 ∨ c = d
/-- a letter's place p, misroutes m, keeper k, end e -/
def IP (p m k e : Int32) : Prop := ∃ p' m' : Nat, p' ≤ 5 ∧ m' ≤ 3 ∧ p = nI p' ∧ m = nI m' ∧ (p' = 5 ↔ m' = 3) ∧ (p' = 1 → ∃ w, w < 8 ∧ k = nI w) ∧ (p' = 3 → ∃ c, c < 6 ∧ k = nI c) ∧ (p' ≤ 3 ↔ e = -9)
def IL (V : VV) (Y l : Nat) : Prop := (∃ c, c < 100 ∧ V 4 l = nI c) ∧ (V 5 l = nI 0 ∨ V 5 l = nI 1) ∧ IP (V 7 l) (V 6 l) (V 8 l) (V 10 l) ∧ ∃ h y, h ≤ y ∧ y ≤ Y ∧ V 9 l = nI h ∧ V 0 4 = nI y
def IF (V : VV) (N : Nat) : Prop := ∀ w, w < 8 → V 11 w = nI (cntB (atV V (nI 1) (nI w)) N)
def IH (V : VV) (N : Nat) : Prop := ∀ l, l < N → V 7 l = nI 3 → ∃ c, c < 6 ∧ V 8 l = nI c ∧ V 14 c = nI 1
def ID (V : VV) (N : Nat) : Prop := sumI (V 15) 6 = nI (P7 V 4 N)
/-- all but who is out, and what is delivered -/
def B0 (V : VV) (N Y : Nat) : Prop := IN V N Y ∧ IK V ∧ IF V N ∧ ∀ l, l < N → IL V Y l
def IV (V : VV) (N Y : Nat) : Prop := B0 V N Y ∧ IH V N ∧ ID V N
theorem B0.nle (h : B0 V N Y) : N ≤ 120 := h.1.1
theorem B0.cnt (h : B0 V N Y) : V 3 8 = nI N := h.1.2.1
theorem B0.okV (h : B0 V N Y) : okV V N := fun l hl => by
  obtain ⟨⟨a1, a2, a3, -⟩, -, -, hL⟩ := h
  obtain ⟨⟨c, c1, c2⟩, b, ⟨p, m, p1, m1, p2, m2, pm, e1, -⟩, -⟩ := hL l hl
  obtain ⟨w, w1, w2⟩ := a3 c c1
  refine ⟨⟨c, w, c1, w1, c2, w2, b, a2⟩, fun z => e1 ?_⟩
  rw [p2] at z
  exact (nI_eq (by omega) (by omega)).1 z
theorem IF.move {q k : Int32} (h : IF V N) (hN : N ≤ 120) (hl : l < N) (h1 : V 7 l = nI 1 → ∃ w, w < 8 ∧ V 8 l = nI w) (h2 : q = nI 1 → ∃ w, w < 8 ∧ k = nI w) : IF (moveV V l q k) N := fun w hw => by
  have hc0 : cntB (fun j => atV (moveV V l q k) (nI 1) (nI w) j && decide (¬ j = l)) N = cntB (fun j => atV V (nI 1) (nI w) j && decide (¬ j = l)) N := cntB_congr N (fun j hj => by
    by_cases hjl : j = l
    · simp [hjl]
    · unfold atV
      rw [moveV_7, moveV_8, if_neg hjl, if_neg hjl])
  have hdn : dnV V l 11 w = nI (cntB (fun j => atV V (nI 1) (nI w) j && decide (¬ j = l)) N) := by
    have hcw := cntB_one (atV V (nI 1) (nI w)) N hl
    unfold dnV
    by_cases hz : V 7 l = nI 1
    · rw [if_pos hz]
      obtain ⟨w0, g2, g3⟩ := h1 hz
      rw [g3, nI_clamp (by omega)]
      unfold wv sv
      rw [if_pos rfl]
      unfold upd
      by_cases hww : w = w0
      · subst hww
        rw [if_pos rfl, h w hw, hcw]
        have : atV V (nI 1) (nI w) l = true := by unfold atV; rw [decide_eq_true hz, decide_eq_true g3]; rfl
        rw [this, if_pos rfl, pk_sub (by omega), Nat.add_sub_cancel]
      · rw [if_neg hww, h w hw, hcw]
        have : atV V (nI 1) (nI w) l = false := by
          unfold atV
          rw [g3, decide_eq_false (p := nI w0 = nI w) (fun z => hww ((nI_eq (by omega) (by omega)).1 z).symm), Bool.and_false]
        rw [this]
        simp
    · rw [if_neg hz, h w hw, hcw]
      have : atV V (nI 1) (nI w) l = false := by unfold atV; rw [decide_eq_false hz, Bool.false_and]
      rw [this]
      simp
  rw [cntB_one (atV (moveV V l q k) (nI 1) (nI w)) N hl, hc0]
  have hat : atV (moveV V l q k) (nI 1) (nI w) l = (decide (q = nI 1) && decide (k = nI w)) := by
    unfold atV
    rw [moveV_7, moveV_8, if_pos rfl, if_pos rfl]
  rw [hat]
  have h11 : wv (wv (dnV V l) 7 l q) 8 l k 11 = dnV V l 11 := by
    unfold wv sv
    rw [if_neg (by decide), if_neg (by decide)]
  unfold moveV upV
  by_cases hq1 : q = nI 1
  · rw [if_pos hq1, decide_eq_true hq1, Bool.true_and]
    obtain ⟨w1, g2, g3⟩ := h2 hq1
    rw [g3, nI_clamp (by omega), ← g3, h11, g3]
    unfold wv sv
    rw [if_pos rfl]
    unfold upd
    by_cases hww : w = w1
    · subst hww
      rw [if_pos rfl, hdn, decide_eq_true rfl, if_pos rfl, nI_add']
    · rw [if_neg hww, if_neg (by decide), if_neg (by decide), hdn, decide_eq_false (p := nI w1 = nI w) (fun z => hww ((nI_eq (by omega) (by omega)).1 z).symm)]
      simp
  · rw [if_neg hq1, decide_eq_false hq1, Bool.false_and, h11, hdn]
    simp
theorem IF.congr (h : IF V N) (h7 : V' 7 = V 7) (h8 : V' 8 = V 8) (h11 : V' 11 = V 11) : IF V' N := fun w hw => by
  rw [h11, h w hw]
  unfold atV
  rw [h7, h8]
theorem IN.congr (h : IN V N Y) (h0 : V' 0 = V 0) (h2 : V' 2 = V 2) (h3 : V' 3 = V 3) (h17 : V' 17 = V 17) : IN V' N Y := by
  unfold IN at h ⊢
  rw [h0, h2, h3, h17]
  exact h
theorem IK.congr (h : IK V) (h13 : V' 13 = V 13) (h14 : V' 14 = V 14) : IK V' := by
  unfold IK at h ⊢
  rw [h13, h14]
  exact h
/-- one letter has changed, its place and keeper by a move -/
theorem B0.upd (h : B0 V N Y) (hl : l < N) {q k : Int32} (ho : ∀ kk, kk ≠ 6 → kk ≠ 10 → V' kk = moveV V l q k kk) (h6 : ∀ j, j ≠ l → V' 6 j = V 6 j) (h10 : ∀ j, j ≠ l → V' 10 j = V 10 j) (hp : IP q (V' 6 l) k (V' 10 l)) : B0 V' N Y := by
  have hok := h.okV
  obtain ⟨a, b, c, e⟩ := h
  obtain ⟨p', m', p1, m1, hpq, hm, pm, k1, k3, ke⟩ := hp
  have hmv : IF (moveV V l q k) N := c.move a.1 hl (hok l hl).2 (fun z => k1 ((nI_eq (by omega) (by omega)).1 (hpq.symm.trans z)))
  have o : ∀ kk, kk ≠ 6 → kk ≠ 7 → kk ≠ 8 → kk ≠ 10 → kk ≠ 11 → V' kk = V kk := fun kk a6 a7 a8 a10 a11 => by
    rw [ho kk a6 a10, moveV_o a7 a8 a11]
  refine ⟨a.congr (o 0 (by decide) (by decide) (by decide) (by decide) (by decide)) (o 2 (by decide) (by decide) (by decide) (by decide) (by decide)) (o 3 (by decide) (by decide) (by decide) (by decide) (by decide)) (o 17 (by decide) (by decide) (by decide) (by decide) (by decide)), b.congr (o 13 (by decide) (by decide) (by decide) (by decide) (by decide)) (o 14 (by decide) (by decide) (by decide) (by decide) (by decide)), hmv.congr (ho 7 (by decide) (by decide)) (ho 8 (by decide) (by decide)) (ho 11 (by decide) (by decide)), fun j hj => ?_⟩
  obtain ⟨e1, e2, e3, e4⟩ := e j hj
  unfold IL
  rw [o 4 (by decide) (by decide) (by decide) (by decide) (by decide), o 5 (by decide) (by decide) (by decide) (by decide) (by decide), o 9 (by decide) (by decide) (by decide) (by decide) (by decide), o 0 (by decide) (by decide) (by decide) (by decide) (by decide), ho 7 (by decide) (by decide), ho 8 (by decide) (by decide), moveV_7, moveV_8]
  refine ⟨e1, e2, ?_, e4⟩
  by_cases hjl : j = l
  · subst hjl
    rw [if_pos rfl, if_pos rfl]
    exact ⟨p', m', p1, m1, hpq, hm, pm, k1, k3, ke⟩
  · rw [if_neg hjl, if_neg hjl, h6 j hjl, h10 j hjl]
    exact e3
/-- a letter that is neither delivered nor sent back goes to a place of that kind -/
theorem B0.move (h : B0 V N Y) (hl : l < N) {p q : Nat} {k : Int32} (hp : V 7 l = nI p) (hp3 : p ≤ 3) (hq : q ≤ 3) (h1 : q = 1 → ∃ w, w < 8 ∧ k = nI w) (h3 : q = 3 → ∃ c, c < 6 ∧ k = nI c) : B0 (moveV V l (nI q) k) N Y := by
  obtain ⟨p', m', p1, m1, hpq, hm, pm, -, -, ke⟩ := (h.2.2.2 l hl).2.2.1
  have e : p' = p := (nI_eq (by omega) (by omega)).1 (hpq.symm.trans hp)
  subst e
  have e6 : moveV V l (nI q) k 6 = V 6 := moveV_o (by decide) (by decide) (by decide)
  have e10 : moveV V l (nI q) k 10 = V 10 := moveV_o (by decide) (by decide) (by decide)
  refine h.upd hl (fun kk _ _ => rfl) (fun j _ => by rw [e6]) (fun j _ => by rw [e10]) ⟨q, m', by omega, m1, rfl, by rw [e6]; exact hm, ⟨fun z => by omega, fun z => by omega⟩, h1, h3, ?_⟩
  rw [e10]
  exact ⟨fun _ => ke.1 hp3, fun _ => hq⟩
theorem P7_move {p q x : Nat} {k : Int32} (hl : l < N) (hp : V 7 l = nI p) (hp5 : p ≤ 5) (hq5 : q ≤ 5) (hx5 : x ≤ 5) : P7 (moveV V l (nI q) k) x N + (if p = x then 1 else 0) = P7 V x N + (if q = x then 1 else 0) := by
  unfold P7
  rw [cntB_one (fun j => decide (moveV V l (nI q) k 7 j = nI x)) N hl, cntB_one (fun j => decide (V 7 j = nI x)) N hl]
  have e : cntB (fun j => decide (moveV V l (nI q) k 7 j = nI x) && decide (¬ j = l)) N = cntB (fun j => decide (V 7 j = nI x) && decide (¬ j = l)) N := cntB_congr N (fun j hj => by
    by_cases hjl : j = l
    · simp [hjl]
    · rw [moveV_7, if_neg hjl])
  rw [e]
  have e1 : decide (moveV V l (nI q) k 7 l = nI x) = decide (q = x) := by
    rw [moveV_7, if_pos rfl]
    exact decide_eq_decide.2 (nI_eq (by omega) (by omega))
  have e2 : decide (V 7 l = nI x) = decide (p = x) := by
    rw [hp]
    exact decide_eq_decide.2 (nI_eq (by omega) (by omega))
  simp only [e1, e2, decide_eq_true_eq]
  omega
theorem P7_congr {p : Nat} (h : V' 7 = V 7) : P7 V' p N = P7 V p N := by unfold P7; rw [h]
theorem P7_le {p : Nat} : P7 V p N ≤ N := cntB_le _ _
theorem P7_0 {p : Nat} (hN : N < 2 ^ 31) (h : P7 V p N = 0) (hl : l < N) : ¬ V 7 l = nI p := fun z => by
  have := cntB_one (fun l => decide (V 7 l = nI p)) N hl
  unfold P7 at h
  rw [h] at this
  simp only [z, decide_true, if_true] at this
  omega
theorem B0.pl (h : B0 V N Y) (hl : l < N) : ∃ p, p ≤ 5 ∧ V 7 l = nI p := by
  obtain ⟨p', m', p1, m1, hpq, -⟩ := (h.2.2.2 l hl).2.2.1
  exact ⟨p', p1, hpq⟩
theorem nIp {p q : Nat} (hp : p ≤ 5) (hq : q ≤ 5) : nI p = nI q ↔ p = q := nI_eq (by omega) (by omega)
end IA
end
section
/-! An hour of an office: its invariant, and how many letters wait behind it. -/
section HA
variable {V V' V2 U : VV} {N Y l : Nat}
/-- hands and deliveries are as they were -/
def Sm (V V' : VV) (N : Nat) : Prop := V' 14 = V 14 ∧ V' 15 = V 15 ∧ ∀ l, l < N → (V' 7 l = nI 3 → V 7 l = nI 3 ∧ V' 8 l = V 8 l) ∧ (V' 7 l = nI 4 ↔ V 7 l = nI 4)
theorem Sm.rf : Sm V V N := ⟨rfl, rfl, fun _ _ => ⟨fun h => ⟨h, rfl⟩, Iff.rfl⟩⟩
theorem Sm.tr (h : Sm V V' N) (h2 : Sm V' V2 N) : Sm V V2 N := by
  obtain ⟨a, b, c⟩ := h
  obtain ⟨a2, b2, c2⟩ := h2
  refine ⟨a2.trans a, b2.trans b, fun l hl => ⟨fun z => ?_, (c2 l hl).2.trans (c l hl).2⟩⟩
  obtain ⟨z1, z2⟩ := (c2 l hl).1 z
  obtain ⟨z3, z4⟩ := (c l hl).1 z1
  exact ⟨z3, z2.trans z4⟩
theorem Sm.ih (h : Sm V V' N) (k : IH V N) : IH V' N := fun l hl z => by
  obtain ⟨z1, z2⟩ := (h.2.2 l hl).1 z
  obtain ⟨c, c1, c2, c3⟩ := k l hl z1
  exact ⟨c, c1, z2.trans c2, by rw [h.1]; exact c3⟩
theorem Sm.idd (h : Sm V V' N) (k : ID V N) : ID V' N := by
  unfold ID at k ⊢
  rw [h.2.1, k]
  unfold P7
  rw [cntB_congr N (fun j hj => decide_eq_decide.2 (h.2.2 j hj).2)]
theorem Sm.move {p q : Nat} {k : Int32} (hp : V 7 l = nI p) (hp2 : p ≤ 2) (hq : q ≤ 2) : Sm V (moveV V l (nI q) k) N := by
  refine ⟨moveV_o (by decide) (by decide) (by decide), moveV_o (by decide) (by decide) (by decide), fun j hj => ?_⟩
  rw [moveV_7, moveV_8]
  by_cases hjl : j = l
  · subst hjl
    rw [if_pos rfl, if_pos rfl, hp]
    refine ⟨fun z => ?_, ?_⟩
    · have := (nIp (by omega) (by omega)).1 z
      omega
    · rw [nIp (by omega) (by omega), nIp (by omega) (by omega)]
      omega
  · rw [if_neg hjl, if_neg hjl]
    exact ⟨fun z => ⟨z, rfl⟩, Iff.rfl⟩
/-- the overflow is emptied, letter by letter -/
theorem ov_all (h : B0 V N Y) : ∀ n, n ≤ N → B0 (ovV V n) N Y ∧ Sm V (ovV V n) N ∧ ∀ l, ovV V n 7 l = if l < n ∧ V 7 l = nI 2 then nI 0 else V 7 l
  | 0, _ => ⟨h, Sm.rf, fun l => by rw [if_neg (by omega)]; rfl⟩
  | n + 1, hn => by
    obtain ⟨a, b, c⟩ := ov_all h n (by omega)
    have hc := c n
    rw [if_neg (by omega)] at hc
    unfold ovV
    rw [hc]
    by_cases z : V 7 n = nI 2
    · rw [if_pos z]
      have hz : ovV V n 7 n = nI 2 := by rw [hc, z]
      refine ⟨a.move (p := 2) (q := 0) (by omega) hz (by omega) (by omega) (fun z => by omega) (fun z => by omega), b.tr (Sm.move (p := 2) (q := 0) hz (by omega) (by omega)), fun l => ?_⟩
      rw [moveV_7, c l]
      by_cases hln : l = n
      · subst hln
        rw [if_pos rfl, if_pos ⟨by omega, z⟩]
      · rw [if_neg hln]
        by_cases hl : l < n ∧ V 7 l = nI 2
        · rw [if_pos hl, if_pos ⟨by omega, hl.2⟩]
        · rw [if_neg hl, if_neg (fun q => hl ⟨by omega, q.2⟩)]
    · rw [if_neg z]
      refine ⟨a, b, fun l => ?_⟩
      rw [c l]
      by_cases hln : l = n
      · subst hln
        rw [if_neg (by omega), if_neg (fun q => z q.2)]
      · by_cases hl : l < n ∧ V 7 l = nI 2
        · rw [if_pos hl, if_pos ⟨by omega, hl.2⟩]
        · rw [if_neg hl, if_neg (fun q => hl ⟨by omega, q.2⟩)]
theorem cntB_sum {p q r : Nat → Bool} : ∀ n, (∀ j, j < n → (if r j then 1 else 0) = (if p j then 1 else 0) + (if q j then 1 else (0 : Nat))) → cntB r n = cntB p n + cntB q n
  | 0, _ => rfl
  | n + 1, h => by
    have h1 := h n (by omega)
    have h2 := cntB_sum n (fun j hj => h j (by omega))
    unfold cntB
    omega
theorem cntB_0 {p : Nat → Bool} : ∀ n, (∀ j, j < n → p j = false) → cntB p n = 0
  | 0, _ => rfl
  | n + 1, h => by
    unfold cntB
    rw [h n (by omega), cntB_0 n (fun j hj => h j (by omega))]
    rfl
theorem ov_cnt (h : B0 V N Y) : P7 (ovV V N) 0 N = P7 V 0 N + P7 V 2 N ∧ P7 (ovV V N) 2 N = 0 := by
  obtain ⟨-, -, c⟩ := ov_all h N (Nat.le_refl _)
  refine ⟨?_, ?_⟩
  · unfold P7
    refine cntB_sum N (fun j hj => ?_)
    obtain ⟨p, p5, hp⟩ := h.pl hj
    rw [c j, hp]
    by_cases h2 : p = 2
    · subst h2
      have e : (if j < N ∧ nI 2 = nI 2 then nI 0 else nI 2) = nI 0 := if_pos ⟨hj, rfl⟩
      rw [e]
      decide
    · have e2 : ¬ nI p = nI 2 := fun z => h2 ((nIp p5 (by omega)).1 z)
      have e : (if j < N ∧ nI p = nI 2 then nI 0 else nI p) = nI p := if_neg (fun z => e2 z.2)
      rw [e, decide_eq_false e2]
      simp
  · unfold P7
    refine cntB_0 N (fun j hj => ?_)
    rw [c j]
    by_cases h2 : V 7 j = nI 2
    · rw [if_pos ⟨hj, h2⟩]
      rfl
    · rw [if_neg (fun z => h2 z.2)]
      exact decide_eq_false h2
-- the bag's list
theorem passR_mem {p : Nat → Bool} {R : List Nat} {a : Nat} : ∀ n, a ∈ passR p R n ↔ (a < n ∧ p a = true) ∨ a ∈ R
  | 0 => by simp [passR]
  | n + 1 => by
    unfold passR
    by_cases h : p n = true
    · rw [if_pos h, List.mem_cons, passR_mem n]
      constructor
      · rintro (rfl | ⟨h1, h2⟩ | h1)
        · exact Or.inl ⟨by omega, h⟩
        · exact Or.inl ⟨by omega, h2⟩
        · exact Or.inr h1
      · rintro (⟨h1, h2⟩ | h1)
        · by_cases ha : a = n
          · exact Or.inl ha
          · exact Or.inr (Or.inl ⟨by omega, h2⟩)
        · exact Or.inr (Or.inr h1)
    · rw [if_neg h, passR_mem n]
      constructor
      · rintro (⟨h1, h2⟩ | h1)
        · exact Or.inl ⟨by omega, h2⟩
        · exact Or.inr h1
      · rintro (⟨h1, h2⟩ | h1)
        · by_cases ha : a = n
          · subst ha; exact absurd h2 h
          · exact Or.inl ⟨by omega, h2⟩
        · exact Or.inr h1
theorem passR_len {p : Nat → Bool} {R : List Nat} : ∀ n, (passR p R n).length = cntB p n + R.length
  | 0 => by simp [passR, cntB]
  | n + 1 => by
    unfold passR cntB
    by_cases h : p n = true
    · rw [if_pos h, if_pos h, List.length_cons, passR_len n]
      omega
    · rw [if_neg h, if_neg h, passR_len n, Nat.add_zero]
theorem passR_pw {p : Nat → Bool} {R : List Nat} {S : Nat → Nat → Prop} (hR : R.Pairwise S) (h1 : ∀ a b, p a = true → b ∈ R → S a b) (h2 : ∀ a b, p a = true → p b = true → b < a → S a b) : ∀ n, (passR p R n).Pairwise S
  | 0 => hR
  | n + 1 => by
    unfold passR
    by_cases h : p n = true
    · rw [if_pos h]
      refine List.pairwise_cons.2 ⟨fun b hb => ?_, passR_pw hR h1 h2 n⟩
      rcases (passR_mem n).1 hb with ⟨z1, z2⟩ | z
      · exact h2 n b h z2 z1
      · exact h1 n b h z
    · rw [if_neg h]
      exact passR_pw hR h1 h2 n
theorem bagP_of {c m : Int32} {a : Nat} (h : bagP V c m a = true) : V 7 a = 0 ∧ V 5 a = c ∧ V 6 a = m := by
  simpa only [bagP, Bool.and_eq_true, decide_eq_true_eq] using h
/-- a stands ahead of b in the bag -/
def ahead (V : VV) (b a : Nat) : Prop := (V 5 a = nI 1 ∧ V 5 b = nI 0) ∨ (V 5 a = V 5 b ∧ ∃ x y, x ≤ 2 ∧ y ≤ 2 ∧ V 6 a = nI x ∧ V 6 b = nI y ∧ (y < x ∨ (x = y ∧ a < b)))
theorem bagC_in {c : Int32} {R : List Nat} {a : Nat} (h : a ∈ bagC V N c R) : (a < N ∧ V 7 a = 0 ∧ V 5 a = c ∧ ∃ m, m ≤ 2 ∧ V 6 a = nI m) ∨ a ∈ R := by
  unfold bagC at h
  rcases (passR_mem N).1 h with ⟨h1, h2⟩ | h
  · obtain ⟨b1, b2, b3⟩ := bagP_of h2
    exact Or.inl ⟨h1, b1, b2, 0, by omega, b3⟩
  · rcases (passR_mem N).1 h with ⟨h1, h2⟩ | h
    · obtain ⟨b1, b2, b3⟩ := bagP_of h2
      exact Or.inl ⟨h1, b1, b2, 1, by omega, b3⟩
    · rcases (passR_mem N).1 h with ⟨h1, h2⟩ | h
      · obtain ⟨b1, b2, b3⟩ := bagP_of h2
        exact Or.inl ⟨h1, b1, b2, 2, by omega, b3⟩
      · exact Or.inr h
theorem bagC_pw {c : Int32} {R : List Nat} (hR : R.Pairwise (ahead V)) (h1 : ∀ a b, V 5 a = c → b ∈ R → ahead V a b) : (bagC V N c R).Pairwise (ahead V) := by
  have step : ∀ m, m ≤ 2 → ∀ a b, bagP V c (nI m) a = true → bagP V c (nI m) b = true → b < a → ahead V a b := fun m hm a b ha hb hab => by
    obtain ⟨-, a2, a3⟩ := bagP_of ha
    obtain ⟨-, b2, b3⟩ := bagP_of hb
    exact Or.inr ⟨b2.trans a2.symm, m, m, hm, hm, b3, a3, Or.inr ⟨rfl, hab⟩⟩
  have down : ∀ x y, x ≤ 2 → y ≤ 2 → y < x → ∀ a b, bagP V c (nI y) a = true → V 5 b = c → V 6 b = nI x → ahead V a b := fun x y hx hy hxy a b ha hb hb6 => by
    obtain ⟨-, a2, a3⟩ := bagP_of ha
    exact Or.inr ⟨hb.trans a2.symm, x, y, hx, hy, hb6, a3, Or.inl hxy⟩
  unfold bagC
  refine passR_pw (passR_pw (passR_pw hR (fun a b ha hb => h1 a b (bagP_of ha).2.1 hb) (step 2 (by omega)) N) (fun a b ha hb => ?_) (step 1 (by omega)) N) (fun a b ha hb => ?_) (step 0 (by omega)) N
  · rcases (passR_mem N).1 hb with ⟨-, z⟩ | z
    · exact down 2 1 (by omega) (by omega) (by omega) a b ha (bagP_of z).2.1 (bagP_of z).2.2
    · exact h1 a b (bagP_of ha).2.1 z
  · rcases (passR_mem N).1 hb with ⟨-, z⟩ | z
    · exact down 1 0 (by omega) (by omega) (by omega) a b ha (bagP_of z).2.1 (bagP_of z).2.2
    · rcases (passR_mem N).1 z with ⟨-, z⟩ | z
      · exact down 2 0 (by omega) (by omega) (by omega) a b ha (bagP_of z).2.1 (bagP_of z).2.2
      · exact h1 a b (bagP_of ha).2.1 z
theorem bag_pw : (bagVR V N).Pairwise (ahead V) := by
  unfold bagVR
  refine bagC_pw (bagC_pw List.Pairwise.nil (fun a b _ hb => absurd hb List.not_mem_nil)) (fun a b ha hb => ?_)
  rcases bagC_in hb with ⟨-, -, z, -⟩ | z
  · exact Or.inl ⟨z, ha⟩
  · exact absurd z List.not_mem_nil
theorem bag_in {a : Nat} (h : a ∈ bagVR V N) : a < N ∧ V 7 a = nI 0 := by
  unfold bagVR at h
  rcases bagC_in h with ⟨z1, z2, -⟩ | h
  · exact ⟨z1, z2⟩
  · rcases bagC_in h with ⟨z1, z2, -⟩ | h
    · exact ⟨z1, z2⟩
    · exact absurd h List.not_mem_nil
theorem cntB_0s (n : Nat) : cntB (fun _ => false) n = 0 := cntB_0 n (fun _ _ => rfl)
theorem cntB_or {p q : Nat → Bool} (n : Nat) (h : ∀ j, j < n → p j = true → q j = false) : cntB (fun j => p j || q j) n = cntB p n + cntB q n := by
  refine cntB_sum n (fun j hj => ?_)
  cases hp : p j with
  | true => rw [h j hj hp]; rfl
  | false => simp
theorem bag_len (h : B0 V N Y) : (bagVR V N).length = P7 V 0 N := by
  have e : ∀ c R, (bagC V N c R).length = cntB (fun l => decide (V 7 l = 0) && decide (V 5 l = c) && decide (¬ V 7 l = nI 5)) N + R.length := fun c R => by
    unfold bagC
    rw [passR_len, passR_len, passR_len]
    have e1 : cntB (fun l => decide (V 7 l = 0) && decide (V 5 l = c) && decide (¬ V 7 l = nI 5)) N = cntB (bagP V c (nI 0)) N + (cntB (bagP V c (nI 1)) N + cntB (bagP V c (nI 2)) N) := by
      rw [← cntB_or N (fun j hj z => ?_), ← cntB_or N (fun j hj z => ?_)]
      · refine cntB_congr N (fun j hj => ?_)
        obtain ⟨p', m', p1, m1, hpq, hm, pm, -⟩ := (h.2.2.2 j hj).2.2.1
        unfold bagP
        by_cases h7 : V 7 j = 0
        · have hp0 : p' = 0 := (nIp p1 (by omega)).1 (hpq.symm.trans h7)
          have hm2 : m' = 0 ∨ m' = 1 ∨ m' = 2 := by omega
          have h5 : ¬ V 7 j = nI 5 := by rw [h7]; decide
          rw [decide_eq_true h7, decide_eq_true h5, hm]
          by_cases h5 : V 5 j = c
          · rw [decide_eq_true h5]
            rcases hm2 with rfl | rfl | rfl <;> decide
          · rw [decide_eq_false h5]
            rfl
        · rw [decide_eq_false h7]
          rfl
      · simp only [bagP, Bool.and_eq_true, decide_eq_true_eq] at z
        simp only [bagP]
        rw [z.2.2, decide_eq_false (p := nI 0 = nI 1) (by decide), decide_eq_false (p := nI 0 = nI 2) (by decide), Bool.and_false, Bool.and_false]
        rfl
      · simp only [bagP, Bool.and_eq_true, decide_eq_true_eq] at z
        simp only [bagP]
        rw [z.2.2, decide_eq_false (p := nI 1 = nI 2) (by decide), Bool.and_false, Bool.and_false]
    omega
  unfold bagVR
  rw [e, e, List.length_nil, Nat.add_zero, ← cntB_or N (fun j hj z => ?_)]
  · unfold P7
    refine cntB_congr N (fun j hj => ?_)
    obtain ⟨-, e2, -⟩ := h.2.2.2 j hj
    by_cases h7 : V 7 j = 0
    · have h5 : ¬ V 7 j = nI 5 := by rw [h7]; decide
      have h0 : V 7 j = nI 0 := h7
      rw [decide_eq_true h7, decide_eq_true h5, decide_eq_true h0]
      rcases e2 with z | z
      · rw [z]; decide
      · rw [z]; decide
    · have h0 : ¬ V 7 j = nI 0 := h7
      rw [decide_eq_false h7, decide_eq_false h0]
      rfl
  · simp only [Bool.and_eq_true, decide_eq_true_eq] at z
    rw [z.1.2, decide_eq_false (p := nI 0 = nI 1) (by decide), Bool.and_false, Bool.false_and]
theorem pw_revD {R : List Nat} {S : Nat → Nat → Prop} : ∀ (R : List Nat), R.Pairwise S → ∀ i j, i < j → j < R.length → S (revD R j) (revD R i)
  | [], _, i, j, _, hj => by simp at hj
  | a :: t, h, i, j, hij, hj => by
    obtain ⟨h1, h2⟩ := List.pairwise_cons.1 h
    rw [List.length_cons] at hj
    have hi : revD (a :: t) i = revD t i := by
      conv => lhs; unfold revD
      rw [if_neg (by omega)]
    by_cases hjt : j = t.length
    · have hj2 : revD (a :: t) j = a := by
        conv => lhs; unfold revD
        rw [if_pos hjt]
      rw [hi, hj2]
      exact h1 _ (revD_mem t i (by omega))
    · have hj2 : revD (a :: t) j = revD t j := by
        conv => lhs; unfold revD
        rw [if_neg hjt]
      rw [hi, hj2]
      exact pw_revD (R := t) t h2 i j hij (by omega)
theorem ahead_ne {a b : Nat} (h : ahead V b a) : b ≠ a := fun z => by
  subst z
  rcases h with ⟨h1, h2⟩ | ⟨-, x, y, hx, hy, h1, h2, h3⟩
  · rw [h1] at h2
    exact absurd h2 (by decide)
  · have : x = y := (nI_eq (by omega) (by omega)).1 (h1.symm.trans h2)
    omega
end HA
end
section
/-! An hour of an office: the letters sorted one by one. -/
section HB
variable {V V' V2 U : VV} {N Y l : Nat}
theorem frm_cases (h : B0 V N Y) : (frmV V N l = V) ∨ ∃ d, d < N ∧ V 7 d = nI 1 ∧ frmV V N l = moveV V d (nI 2) (-9) ∧ ¬ frmT V N l = -9 := by
  unfold frmV frmT
  by_cases h1 : freV V (wkV V l) ≤ 0
  · rw [if_pos h1, if_pos h1]
    by_cases h2 : V 0 5 = nI 1 ∧ V 5 l = nI 1
    · rw [if_pos h2, if_pos h2]
      unfold dspV
      by_cases h3 : lastB (secV V (nI (wkV V l))) N = -9
      · rw [if_pos h3]
        exact Or.inl rfl
      · rw [if_neg h3, if_neg h3]
        rcases lastB_c (secV V (nI (wkV V l))) N with z | ⟨d, d1, d2, d3⟩
        · exact absurd z h3
        · refine Or.inr ⟨d, d1, (secV_of d3).1, by rw [d2, nI_clamp (by have := h.nle; omega)], ?_⟩
          have e := (secV_of d3).2
          obtain ⟨w, w1, w2⟩ := (h.okV d d1).2 (secV_of d3).1
          rw [← e, w2]
          exact nI_n9 (by omega)
    · rw [if_neg h2]
      exact Or.inl rfl
  · rw [if_neg h1]
    exact Or.inl rfl
/-- one letter of the bag is sorted -/
theorem srt_step (h : B0 V N Y) (hl : l < N) (h0 : V 7 l = nI 0) : B0 (srtV V N l) N Y ∧ Sm V (srtV V N l) N ∧ (∀ j, j ≠ l → V 7 j = nI 0 → srtV V N l 7 j = nI 0) ∧ P7 (srtV V N l) 0 N + 1 = P7 V 0 N ∧ P7 (srtV V N l) 0 N + P7 (srtV V N l) 2 N ≤ P7 V 0 N + P7 V 2 N ∧ P7 V 0 N + P7 V 2 N ≤ P7 (srtV V N l) 0 N + P7 (srtV V N l) 2 N + (if srtB V N l then 1 else 0) := by
  have hw := (wkV_of h.okV hl).choose_spec.2.2.2
  have hT := frmT_c (N := N) hw
  have h2 : ∀ {W : VV}, B0 W N Y → W 7 l = nI 0 → ∀ q, q = 1 ∨ q = 2 → ∀ k, (q = 1 → ∃ w, w < 8 ∧ k = nI w) → B0 (moveV W l (nI q) k) N Y ∧ Sm W (moveV W l (nI q) k) N ∧ (∀ j, j ≠ l → W 7 j = nI 0 → moveV W l (nI q) k 7 j = nI 0) ∧ P7 (moveV W l (nI q) k) 0 N + 1 = P7 W 0 N ∧ P7 (moveV W l (nI q) k) 2 N = P7 W 2 N + (if q = 2 then 1 else 0) := fun {W} hW h0 q hq k hk => by
    refine ⟨hW.move (p := 0) hl h0 (by omega) (by omega) hk (fun z => by omega), Sm.move (p := 0) h0 (by omega) (by omega), fun j hj hj0 => ?_, ?_, ?_⟩
    · rw [moveV_7, if_neg hj]
      exact hj0
    · have := P7_move (p := 0) (q := q) (x := 0) (k := k) hl h0 (by omega) (by omega) (by omega)
      rw [if_pos rfl, if_neg (by omega)] at this
      exact this
    · have := P7_move (p := 0) (q := q) (x := 2) (k := k) hl h0 (by omega) (by omega) (by omega)
      rw [if_neg (by omega)] at this
      exact this
  rcases frm_cases (l := l) h with e | ⟨d, d1, d2, d3, d4⟩
  · unfold srtV srtB
    rw [e]
    by_cases hn : frmT V N l = -9
    · rw [if_pos hn, decide_eq_false (fun z => z hn)]
      obtain ⟨a1, a2, a3, a4, a5⟩ := h2 h h0 2 (by omega) (-9) (fun z => by omega)
      rw [if_pos rfl] at a5
      refine ⟨a1, a2, a3, a4, by omega, ?_⟩
      rw [if_neg (by decide)]
      omega
    · rw [if_neg hn, decide_eq_true hn, if_pos rfl]
      obtain ⟨a1, a2, a3, a4, a5⟩ := h2 h h0 1 (by omega) (frmT V N l) (fun _ => hT.resolve_left hn)
      rw [if_neg (by omega)] at a5
      exact ⟨a1, a2, a3, a4, by omega, by omega⟩
  · unfold srtV srtB
    rw [if_neg d4, decide_eq_true d4, if_pos rfl, d3]
    have hdl : l ≠ d := fun z => by
      rw [z, d2] at h0
      exact absurd h0 (by decide)
    have b1 := h.move (q := 2) (k := -9) d1 d2 (by omega) (by omega) (fun z => by omega) (fun z => by omega)
    have b2 : Sm V (moveV V d (nI 2) (-9)) N := Sm.move (p := 1) d2 (by omega) (by omega)
    have c0 := P7_move (p := 1) (q := 2) (x := 0) (k := -9) d1 d2 (by omega) (by omega) (by omega)
    have c2 := P7_move (p := 1) (q := 2) (x := 2) (k := -9) d1 d2 (by omega) (by omega) (by omega)
    rw [if_neg (by omega), if_neg (by omega)] at c0
    rw [if_neg (by omega), if_pos rfl] at c2
    have b0 : moveV V d (nI 2) (-9) 7 l = nI 0 := by
      rw [moveV_7, if_neg hdl]
      exact h0
    obtain ⟨a1, a2, a3, a4, a5⟩ := h2 b1 b0 1 (by omega) (frmT V N l) (fun _ => hT.resolve_left d4)
    rw [if_neg (by omega)] at a5
    refine ⟨a1, b2.tr a2, fun j hj hj0 => a3 j hj ?_, by omega, by omega, by omega⟩
    rw [moveV_7]
    by_cases hjd : j = d
    · subst hjd
      rw [d2] at hj0
      exact absurd hj0 (by decide)
    · rw [if_neg hjd]
      exact hj0
/-- the first k of a list of letters in the bag are sorted -/
theorem srts_all {R : List Nat} (h : B0 V N Y) (hR : ∀ j, j < R.length → revD R j < N ∧ V 7 (revD R j) = nI 0) (hd : ∀ i j, i < j → j < R.length → revD R i ≠ revD R j) : ∀ k, k ≤ R.length → B0 (srtsV V N R k) N Y ∧ Sm V (srtsV V N R k) N ∧ (∀ j, k ≤ j → j < R.length → srtsV V N R k 7 (revD R j) = nI 0) ∧ P7 (srtsV V N R k) 0 N + k = P7 V 0 N ∧ P7 (srtsV V N R k) 0 N + P7 (srtsV V N R k) 2 N ≤ P7 V 0 N + P7 V 2 N ∧ P7 V 0 N + P7 V 2 N ≤ P7 (srtsV V N R k) 0 N + P7 (srtsV V N R k) 2 N + srtsn V N R k
  | 0, _ => ⟨h, Sm.rf, fun j _ hj => (hR j hj).2, rfl, Nat.le_refl _, Nat.le_refl _⟩
  | k + 1, hk => by
    obtain ⟨a1, a2, a3, a4, a5, a6⟩ := srts_all h hR hd k (by omega)
    obtain ⟨b1, b2, b3, b4, b5, b6⟩ := srt_step (l := revD R k) a1 (hR k (by omega)).1 (a3 k (Nat.le_refl _) (by omega))
    have e : srtsV V N R (k + 1) = srtV (srtsV V N R k) N (revD R k) := rfl
    have e2 : srtsn V N R (k + 1) = srtsn V N R k + (if srtB (srtsV V N R k) N (revD R k) then 1 else 0) := rfl
    rw [e, e2]
    refine ⟨b1, a2.tr b2, fun j hj hjl => b3 _ (fun z => hd k j (by omega) hjl z.symm) (a3 j (by omega) hjl), by omega, by omega, by omega⟩
theorem hr1_ok (h : IV V N Y) : IV (hr1V V) N (Y + 1) := by
  obtain ⟨⟨⟨a1, a2, a3, a4, ⟨y, y1, y2⟩, a6, a7, a8⟩, b, c, e⟩, f, g⟩ := h
  have h4 : hr1V V 0 4 = V 0 4 + nI 1 := by
    show upd (V 0) 4 _ 4 = _
    exact if_pos rfl
  refine ⟨⟨⟨a1, a2, a3, a4, ⟨y + 1, by omega, by rw [h4, y2, nI_add']⟩, a6, a7, a8⟩, b, c, fun l hl => ?_⟩, f, g⟩
  obtain ⟨e1, e2, e3, x, y', xy, yY, x9, y4⟩ := e l hl
  exact ⟨e1, e2, e3, x, y' + 1, by omega, by omega, x9, by rw [h4, y4, nI_add']⟩
/-- the waiting letters -/
def wtn (V : VV) (N : Nat) : Nat := P7 V 0 N + P7 V 2 N
theorem hour_all (h : IV V N Y) : IV (hrsV V N) N (Y + 1) ∧ (bagH V N).length = wtn V N ∧ (∀ a, a ∈ bagH V N → a < N) ∧ hrsV V N 0 4 = V 0 4 + nI 1 ∧ (∀ kk, kk ≠ 0 → kk ≠ 7 → kk ≠ 8 → kk ≠ 11 → hrsV V N kk = V kk) ∧ (∀ x, x ≠ 4 → hrsV V N 0 x = V 0 x) ∧ P7 (hrsV V N) 0 N + min (wtn V N) (V 0 6).toNatClampNeg = wtn V N ∧ wtn (hrsV V N) N ≤ wtn V N ∧ wtn V N ≤ wtn (hrsV V N) N + hrsn V N := by
  have h1 := hr1_ok h
  obtain ⟨o1, o2, -⟩ := ov_all h1.1 N (Nat.le_refl _)
  obtain ⟨c1, c2⟩ := ov_cnt h1.1
  have e1 : wtn V N = P7 (hr1V V) 0 N + P7 (hr1V V) 2 N := rfl
  have hlen : (bagH V N).length = wtn V N := by
    unfold bagH
    rw [bag_len o1, c1, e1]
  have hin : ∀ a, a ∈ bagH V N → a < N ∧ ovV (hr1V V) N 7 a = nI 0 := fun a ha => bag_in ha
  have hpw : (bagH V N).Pairwise (ahead (ovV (hr1V V) N)) := bag_pw
  obtain ⟨s1, s2, -, s4, s5, s6⟩ := srts_all (R := bagH V N) o1 (fun j hj => hin _ (revD_mem _ j hj)) (fun i j hij hj => fun z => ahead_ne (pw_revD (R := []) _ hpw i j hij hj) z.symm) (min (bagH V N).length (V 0 6).toNatClampNeg) (Nat.min_le_left _ _)
  have e : srtsV (ovV (hr1V V) N) N (bagH V N) (min (bagH V N).length (V 0 6).toNatClampNeg) = hrsV V N := rfl
  have en : srtsn (ovV (hr1V V) N) N (bagH V N) (min (bagH V N).length (V 0 6).toNatClampNeg) = hrsn V N := rfl
  rw [e] at s1 s2 s4 s5 s6
  rw [en] at s6
  have oo : ∀ kk, kk ≠ 7 → kk ≠ 8 → kk ≠ 11 → hrsV V N kk = hr1V V kk := fun kk k7 k8 k11 => by
    rw [← e, srtsV_o k7 k8 k11, ovV_o k7 k8 k11]
  refine ⟨⟨s1, (o2.tr s2).ih h1.2.1, (o2.tr s2).idd h1.2.2⟩, hlen, fun a ha => (hin a ha).1, ?_, fun kk k0 k7 k8 k11 => ?_, fun x hx => ?_, ?_, ?_, ?_⟩
  · rw [oo 0 (by decide) (by decide) (by decide)]
    show upd (V 0) 4 _ 4 = _
    exact if_pos rfl
  · rw [oo kk k7 k8 k11]
    unfold hr1V wv sv
    rw [if_neg k0]
  · rw [oo 0 (by decide) (by decide) (by decide)]
    show upd (V 0) 4 _ x = _
    exact if_neg hx
  · rw [hlen] at s4
    rw [s4, c1, e1]
  · unfold wtn
    unfold wtn at e1
    omega
  · unfold wtn
    unfold wtn at e1
    omega
end HB
end
section
/-! A round's beginning and end of an office. -/
section HC
variable {V V' V2 U : VV} {N Y l c w : Nat}
theorem moveV_11 {q k : Int32} : moveV V l q k 11 = if q = nI 1 then upd (dnV V l 11) k.toNatClampNeg (dnV V l 11 k.toNatClampNeg + nI 1) else dnV V l 11 := by
  have h11 : wv (wv (dnV V l) 7 l q) 8 l k 11 = dnV V l 11 := by
    unfold wv sv
    rw [if_neg (by decide), if_neg (by decide)]
  unfold moveV upV
  by_cases h : q = nI 1
  · rw [if_pos h, if_pos h]
    show upd (wv (wv (dnV V l) 7 l q) 8 l k 11) _ (wv (wv (dnV V l) 7 l q) 8 l k 11 _ + nI 1) = _
    rw [h11]
  · rw [if_neg h, if_neg h, h11]
theorem dnV_11 : dnV V l 11 = if V 7 l = nI 1 then upd (V 11) (V 8 l).toNatClampNeg (V 11 (V 8 l).toNatClampNeg - nI 1) else V 11 := by
  unfold dnV
  split
  · rfl
  · rfl
theorem moveV_w6 {x q k : Int32} {kk : Nat} (h : kk ≠ 6) : moveV (wv V 6 l x) l q k kk = moveV V l q k kk := by
  by_cases h7 : kk = 7
  · subst h7
    funext j
    rw [moveV_7, moveV_7]
    rfl
  · by_cases h8 : kk = 8
    · subst h8
      funext j
      rw [moveV_8, moveV_8]
      rfl
    · by_cases h11 : kk = 11
      · subst h11
        rw [moveV_11, moveV_11, dnV_11, dnV_11]
        rfl
      · rw [moveV_o h7 h8 h11, moveV_o h7 h8 h11]
        unfold wv sv
        rw [if_neg h]
/-- carrying letters: the hand's count grows by one -/
theorem hand_move (hl : l < N) (h3 : ¬ V 7 l = nI 3) : cntB (atV (moveV V l (nI 3) (nI c)) (nI 3) (nI c)) N = cntB (atV V (nI 3) (nI c)) N + 1 := by
  rw [cntB_one (atV (moveV V l (nI 3) (nI c)) (nI 3) (nI c)) N hl, cntB_one (atV V (nI 3) (nI c)) N hl]
  have e : cntB (fun j => atV (moveV V l (nI 3) (nI c)) (nI 3) (nI c) j && decide (¬ j = l)) N = cntB (fun j => atV V (nI 3) (nI c) j && decide (¬ j = l)) N := cntB_congr N (fun j hj => by
    by_cases hjl : j = l
    · simp [hjl]
    · unfold atV
      rw [moveV_7, moveV_8, if_neg hjl, if_neg hjl])
  have e1 : atV (moveV V l (nI 3) (nI c)) (nI 3) (nI c) l = true := by
    unfold atV
    rw [moveV_7, moveV_8, if_pos rfl, if_pos rfl, decide_eq_true rfl, decide_eq_true rfl]
    rfl
  have e2 : atV V (nI 3) (nI c) l = false := by
    unfold atV
    rw [decide_eq_false h3]
    rfl
  rw [e, e1, e2, if_pos rfl]
  simp
/-- the first k of a list of letters in frames go into a hand -/
theorem sgo_all {R : List Nat} (h : B0 V N Y) (hc : c < 6) (hR : ∀ j, j < R.length → revD R j < N ∧ V 7 (revD R j) = nI 1) (hd : ∀ i j, i < j → j < R.length → revD R i ≠ revD R j) : ∀ k, k ≤ R.length → B0 (sgo V R (nI c) k) N Y ∧ (∀ j, k ≤ j → j < R.length → sgo V R (nI c) k 7 (revD R j) = nI 1) ∧ cntB (atV (sgo V R (nI c) k) (nI 3) (nI c)) N = cntB (atV V (nI 3) (nI c)) N + k ∧ (∀ l, l < N → (sgo V R (nI c) k 7 l = nI 3 → (V 7 l = nI 3 ∧ sgo V R (nI c) k 8 l = V 8 l) ∨ sgo V R (nI c) k 8 l = nI c) ∧ (sgo V R (nI c) k 7 l = nI 4 ↔ V 7 l = nI 4))
  | 0, _ => ⟨h, fun j _ hj => (hR j hj).2, rfl, fun l hl => ⟨fun z => Or.inl ⟨z, rfl⟩, Iff.rfl⟩⟩
  | k + 1, hk => by
    obtain ⟨a1, a2, a3, a4⟩ := sgo_all h hc hR hd k (by omega)
    have h1 := a2 k (Nat.le_refl _) (by omega)
    have hl := (hR k (by omega)).1
    have e : sgo V R (nI c) (k + 1) = moveV (sgo V R (nI c) k) (revD R k) (nI 3) (nI c) := rfl
    rw [e]
    generalize sgo V R (nI c) k = W at a1 a2 a3 a4 h1 ⊢
    refine ⟨a1.move (p := 1) (q := 3) hl h1 (by omega) (by omega) (fun z => by omega) (fun _ => ⟨c, hc, rfl⟩), fun j hj hjl => ?_, ?_, fun m hm => ?_⟩
    · rw [moveV_7, if_neg (fun z => hd k j (by omega) hjl z.symm)]
      exact a2 j (by omega) hjl
    · rw [hand_move hl (by rw [h1]; decide), a3]
      omega
    · rw [moveV_7, moveV_8]
      by_cases hml : m = revD R k
      · rw [if_pos hml, if_pos hml, hml]
        refine ⟨fun _ => Or.inr rfl, ?_⟩
        have := (a4 (revD R k) hl).2
        rw [h1] at this
        rw [← this]
        exact ⟨fun z => absurd z (by decide), fun z => absurd z (by decide)⟩
      · rw [if_neg hml, if_neg hml]
        exact a4 m hm
-- the list of a place: in the order of codes and numbers, each letter once
def byc (V : VV) (b a : Nat) : Prop := V 4 a < V 4 b ∨ (V 4 a = V 4 b ∧ a < b)
theorem byc_ne {a b : Nat} (h : byc V b a) : b ≠ a := fun z => by
  subst z
  rcases h with h | ⟨-, h⟩
  · exact (Int32.lt_irrefl h).elim
  · omega
theorem insR_pw {n : Nat} : ∀ (R : List Nat), R.Pairwise (byc V) → (∀ a, a ∈ R → a < n) → (insR (gtV V) R n).Pairwise (byc V)
  | [], _, _ => List.pairwise_singleton _ _
  | a :: t, h, hn => by
    obtain ⟨h1, h2⟩ := List.pairwise_cons.1 h
    have e : insR (gtV V) (a :: t) n = if gtV V a n then a :: insR (gtV V) t n else n :: a :: t := rfl
    rw [e]
    by_cases hg : gtV V a n = true
    · rw [if_pos hg]
      refine List.pairwise_cons.2 ⟨fun b hb => ?_, insR_pw t h2 (fun b hb => hn b (List.mem_cons_of_mem _ hb))⟩
      rcases (insR_mem _ t n b).1 hb with rfl | hb
      · exact Or.inl (of_decide_eq_true hg)
      · exact h1 b hb
    · rw [if_neg hg]
      have hle : V 4 a ≤ V 4 n := Int32.not_lt.1 (fun z => hg (decide_eq_true z))
      have ha : byc V n a := by
        by_cases hq : V 4 a = V 4 n
        · exact Or.inr ⟨hq, hn a List.mem_cons_self⟩
        · exact Or.inl (Int32.lt_of_le_of_ne hle hq)
      refine List.pairwise_cons.2 ⟨fun b hb => ?_, h⟩
      rcases List.mem_cons.1 hb with rfl | hb
      · exact ha
      · rcases h1 b hb with z | ⟨z1, z2⟩
        · exact Or.inl (Int32.lt_of_lt_of_le z hle)
        · rcases ha with y | ⟨y1, y2⟩
          · exact Or.inl (by rw [z1]; exact y)
          · exact Or.inr ⟨z1.trans y1, by omega⟩
theorem layR_pw {p : Nat → Bool} : ∀ n, (layR (gtV V) p n).Pairwise (byc V)
  | 0 => List.Pairwise.nil
  | n + 1 => by
    have e : layR (gtV V) p (n + 1) = if p n then insR (gtV V) (layR (gtV V) p n) n else layR (gtV V) p n := rfl
    rw [e]
    split
    · exact insR_pw _ (layR_pw n) (fun a ha => ((layR_mem _ _ n a).1 ha).1)
    · exact layR_pw n
theorem atVR_pw {p k : Int32} : (atVR V N p k).Pairwise (byc V) := layR_pw N
theorem atVR_in {p k : Int32} {a : Nat} (h : a ∈ atVR V N p k) : a < N ∧ V 7 a = p ∧ V 8 a = k := by
  obtain ⟨h1, h2⟩ := (layR_mem _ _ N a).1 h
  simp only [atV, Bool.and_eq_true, decide_eq_true_eq] at h2
  exact ⟨h1, h2.1, h2.2⟩
theorem atVR_mem {p k : Int32} {a : Nat} (h : a < N) (h7 : V 7 a = p) (h8 : V 8 a = k) : a ∈ atVR V N p k := (layR_mem _ _ N a).2 ⟨h, by unfold atV; rw [decide_eq_true h7, decide_eq_true h8]; rfl⟩
theorem atVR_d {p k : Int32} (i j : Nat) (hij : i < j) (hj : j < (atVR V N p k).length) : revD (atVR V N p k) i ≠ revD (atVR V N p k) j := fun z => byc_ne (pw_revD (R := []) _ atVR_pw i j hij hj) z.symm
theorem atVR_n {p k : Int32} : (atVR V N p k).length = cntB (atV V p k) N := by unfold atVR; rw [layR_len]
/-- nobody who is in has letters -/
theorem IH.none (h : IH V N) (hc : c < 6) (h0 : V 14 c = nI 0) : cntB (atV V (nI 3) (nI c)) N = 0 := cntB_0 N (fun j hj => by
  cases hb : atV V (nI 3) (nI c) j with
  | false => rfl
  | true =>
    exfalso
    simp only [atV, Bool.and_eq_true, decide_eq_true_eq] at hb
    obtain ⟨d, d1, d2, d3⟩ := h j hj hb.1
    have : d = c := (nI_eq (by omega) (by omega)).1 (d2.symm.trans hb.2)
    subst this
    rw [h0] at d3
    exact absurd d3 (by decide))
theorem snd_o {kk : Nat} (h7 : kk ≠ 7) (h8 : kk ≠ 8) (h11 : kk ≠ 11) (h14 : kk ≠ 14) : sndV V N c kk = V kk := by
  unfold sndV
  show (if kk = 14 then _ else sgo V _ (nI c) _ kk) = _
  rw [if_neg h14, sgo_o h7 h8 h11]
theorem snd_all (h : IV V N Y) (hc : c < 6) (h0 : V 14 c = nI 0) (hw : w < 8) (h13 : V 13 c = nI w) : IV (sndV V N c) N Y ∧ cntB (atV (sndV V N c) (nI 3) (nI c)) N = sndn V N c ∧ sndV V N c 14 c = nI 1 := by
  obtain ⟨hb, hh, hd⟩ := h
  have hR : ∀ j, j < (atVR V N (nI 1) (V 13 c)).length → revD (atVR V N (nI 1) (V 13 c)) j < N ∧ V 7 (revD (atVR V N (nI 1) (V 13 c)) j) = nI 1 := fun j hj => by
    obtain ⟨z1, z2, -⟩ := atVR_in (revD_mem _ j hj)
    exact ⟨z1, z2⟩
  obtain ⟨a1, -, a3, a4⟩ := sgo_all hb hc hR (fun i j hij hj => atVR_d i j hij hj) (sndn V N c) (Nat.min_le_left _ _)
  have ho : ∀ kk, kk ≠ 7 → kk ≠ 8 → kk ≠ 11 → sgo V (atVR V N (nI 1) (V 13 c)) (nI c) (sndn V N c) kk = V kk := fun kk h7 h8 h11 => sgo_o h7 h8 h11 _
  have e : sndV V N c = wv (sgo V (atVR V N (nI 1) (V 13 c)) (nI c) (sndn V N c)) 14 c (nI 1) := rfl
  rw [e]
  rw [IH.none hh hc h0, Nat.zero_add] at a3
  generalize sgo V (atVR V N (nI 1) (V 13 c)) (nI c) (sndn V N c) = W at a1 a3 a4 ho ⊢
  have o14 : ∀ d, wv W 14 c (nI 1) 14 d = if d = c then nI 1 else V 14 d := fun d => by
    show (if d = c then nI 1 else W 14 d) = _
    rw [ho 14 (by decide) (by decide) (by decide)]
  obtain ⟨b1, ⟨b2, b2'⟩, b3, b4⟩ := a1
  refine ⟨⟨⟨b1, ⟨fun d hd6 => ?_, b2'⟩, b3, b4⟩, fun m hm z => ?_, ?_⟩, a3, by rw [o14, if_pos rfl]⟩
  · obtain ⟨c1, c2, c3⟩ := b2 d hd6
    rw [o14]
    show _ ∧ (W 13 d = -9 ∨ ∃ w, w < 8 ∧ W 13 d = nI w) ∧ (_ → ¬ W 13 d = -9)
    rw [ho 13 (by decide) (by decide) (by decide)] at c2 c3 ⊢
    rw [ho 14 (by decide) (by decide) (by decide)] at c1 c3
    by_cases hdc : d = c
    · rw [if_pos hdc, hdc]
      exact ⟨Or.inr rfl, by rw [hdc] at c2; exact c2, fun _ => by rw [h13]; exact nI_n9 (by omega)⟩
    · rw [if_neg hdc]
      exact ⟨c1, c2, c3⟩
  · show ∃ d, d < 6 ∧ W 8 m = nI d ∧ _
    rcases (a4 m hm).1 z with ⟨z1, z2⟩ | z1
    · obtain ⟨d, d1, d2, d3⟩ := hh m hm z1
      refine ⟨d, d1, z2.trans d2, ?_⟩
      rw [o14]
      split
      · rfl
      · exact d3
    · exact ⟨c, hc, z1, by rw [o14, if_pos rfl]⟩
  · unfold ID at hd ⊢
    show sumI (W 15) 6 = nI (P7 W 4 N)
    rw [ho 15 (by decide) (by decide) (by decide), hd]
    unfold P7
    rw [cntB_congr N (fun j hj => decide_eq_decide.2 (a4 j hj).2)]
end HC
end
section
/-! A round's end of an office. -/
section HD
variable {V V' V2 U : VV} {N Y l c w : Nat}
theorem finV_7 {p h : Int32} : finV V l p h 7 = moveV V l p (-9) 7 := by unfold finV wv sv; rw [if_neg (by decide)]
theorem finV_8 {p h : Int32} : finV V l p h 8 = moveV V l p (-9) 8 := by unfold finV wv sv; rw [if_neg (by decide)]
theorem pIP (h : B0 V N Y) (hl : l < N) {p : Nat} (hp : V 7 l = nI p) (hp5 : p ≤ 5) : ∃ m', m' ≤ 3 ∧ V 6 l = nI m' ∧ (p = 5 ↔ m' = 3) ∧ (p ≤ 3 ↔ V 10 l = -9) := by
  obtain ⟨p', m', p1, m1, hpq, hm, pm, -, -, ke⟩ := (h.2.2.2 l hl).2.2.1
  have e : p' = p := (nI_eq (by omega) (by omega)).1 (hpq.symm.trans hp)
  subst e
  exact ⟨m', m1, hm, pm, ke⟩
theorem hour_n9 (hY : Y < 2 ^ 30) (h : B0 V N Y) : ¬ V 0 4 = -9 := by
  obtain ⟨y, y1, y2⟩ := h.1.2.2.2.2.1
  rw [y2]
  exact nI_n9 (by omega)
/-- what a letter of the hand does when the round ends -/
theorem brSt_step (hY : Y < 2 ^ 30) {d : Nat} (h : B0 V N Y) (hl : l < N) (hw : w < 8) (h3 : V 7 l = nI 3) : B0 (brSt w l (V, d)).1 N Y ∧ (∀ j, j ≠ l → (brSt w l (V, d)).1 7 j = V 7 j ∧ (brSt w l (V, d)).1 8 j = V 8 j) ∧ ¬ (brSt w l (V, d)).1 7 l = nI 3 ∧ P7 (brSt w l (V, d)).1 4 N + (brSt w l (V, d)).2 = P7 V 4 N + d ∧ (brSt w l (V, d)).2 = (if wkV V l = w then d - 1 else d) := by
  obtain ⟨m, m1, hm, pm, ke⟩ := pIP h hl h3 (by omega)
  have hm2 : m ≤ 2 := by
    rcases Nat.lt_or_ge m 3 with z | z
    · omega
    · have := pm.2 (by omega)
      omega
  have h10 : V 10 l = -9 := ke.1 (by omega)
  have n9 : ¬ V 0 4 = -9 := hour_n9 hY h
  have c4 : ∀ {q : Nat} {k : Int32}, q ≤ 5 → P7 (moveV V l (nI q) k) 4 N = P7 V 4 N + (if q = 4 then 1 else 0) := fun {q} {k} hq => by
    have := P7_move (p := 3) (q := q) (x := 4) (k := k) hl h3 (by omega) hq (by omega)
    rw [if_neg (by omega)] at this
    exact this
  have o7 : ∀ {q k : Int32} (j : Nat), j ≠ l → moveV V l q k 7 j = V 7 j ∧ moveV V l q k 8 j = V 8 j := fun j hj => by
    rw [moveV_7, moveV_8, if_neg hj, if_neg hj]
    exact ⟨rfl, rfl⟩
  have s7 : ∀ {q k : Int32}, moveV V l q k 7 l = q := by
    intro q k
    rw [moveV_7, if_pos rfl]
  unfold brSt
  dsimp only
  by_cases hb : wkV V l = w
  · rw [if_pos hb, if_pos hb]
    by_cases hd : 0 < d
    · rw [if_pos hd]
      dsimp only
      refine ⟨?_, fun j hj => ?_, ?_, ?_, rfl⟩
      · refine h.upd (q := nI 4) (k := -9) hl (fun kk k6 k10 => ?_) (fun j hj => ?_) (fun j hj => ?_) ⟨4, m, by omega, m1, rfl, ?_, ⟨fun z => by omega, fun z => by omega⟩, fun z => by omega, fun z => by omega, ?_⟩
        · unfold finV wv sv
          rw [if_neg k10]
        · show moveV V l (nI 4) (-9) 6 j = _
          rw [moveV_o (by decide) (by decide) (by decide)]
        · show upd (moveV V l (nI 4) (-9) 10) l _ j = _
          rw [moveV_o (by decide) (by decide) (by decide)]
          exact if_neg hj
        · show moveV V l (nI 4) (-9) 6 l = _
          rw [moveV_o (by decide) (by decide) (by decide)]
          exact hm
        · have e : finV V l (nI 4) (V 0 4) 10 l = V 0 4 := by
            show upd _ l _ l = _
            exact if_pos rfl
          rw [e]
          exact ⟨fun z => by omega, fun z => absurd z n9⟩
      · rw [finV_7, finV_8]
        exact o7 j hj
      · rw [finV_7, s7]
        decide
      · rw [P7_congr (finV_7 (V := V) (l := l)), c4 (by omega), if_pos rfl]
        omega
    · rw [if_neg hd]
      dsimp only
      unfold pbV
      have hd0 : d - 1 = d := by omega
      rw [hd0]
      by_cases hf : freV V w ≤ 0
      · rw [if_pos hf]
        refine ⟨h.move (p := 3) (q := 2) hl h3 (by omega) (by omega) (fun z => by omega) (fun z => by omega), o7, ?_, ?_, rfl⟩
        · rw [s7]; decide
        · rw [c4 (by omega), if_neg (by omega), Nat.add_zero]
      · rw [if_neg hf]
        refine ⟨h.move (p := 3) (q := 1) hl h3 (by omega) (by omega) (fun _ => ⟨w, hw, rfl⟩) (fun z => by omega), o7, ?_, ?_, rfl⟩
        · rw [s7]; decide
        · rw [c4 (by omega), if_neg (by omega), Nat.add_zero]
  · rw [if_neg hb, if_neg hb]
    dsimp only
    unfold misV
    rw [hm, nI_add']
    by_cases hlt : nI (m + 1) < nI 3
    · rw [if_pos hlt]
      have hm3 : m + 1 < 3 := (nI_ltI (by omega) (by omega)).1 hlt
      refine ⟨?_, fun j hj => ?_, ?_, ?_, rfl⟩
      · refine h.upd (q := nI 0) (k := -9) hl (fun kk k6 k10 => moveV_w6 k6) (fun j hj => ?_) (fun j hj => ?_) ⟨0, m + 1, by omega, by omega, rfl, ?_, ⟨fun z => by omega, fun z => by omega⟩, fun z => by omega, fun z => by omega, ?_⟩
        · rw [moveV_o (kk := 6) (by decide) (by decide) (by decide)]
          show upd (V 6) l _ j = _
          exact if_neg hj
        · rw [moveV_o (kk := 10) (by decide) (by decide) (by decide)]
          rfl
        · rw [moveV_o (kk := 6) (by decide) (by decide) (by decide)]
          show upd (V 6) l _ l = _
          exact if_pos rfl
        · rw [moveV_o (kk := 10) (by decide) (by decide) (by decide)]
          exact ⟨fun _ => h10, fun _ => by omega⟩
      · rw [moveV_w6 (by decide), moveV_w6 (by decide)]
        exact o7 j hj
      · rw [moveV_w6 (by decide), s7]
        decide
      · rw [P7_congr (moveV_w6 (by decide)), c4 (q := 0) (by omega), if_neg (by omega), Nat.add_zero]
    · rw [if_neg hlt]
      have hm3 : m + 1 = 3 := by
        have : ¬ m + 1 < 3 := fun z => hlt ((nI_ltI (by omega) (by omega)).2 z)
        omega
      have f7 : ∀ kk, kk ≠ 6 → kk ≠ 10 → finV (wv V 6 l (nI (m + 1))) l (nI 5) (V 0 4) kk = moveV V l (nI 5) (-9) kk := fun kk k6 k10 => by
        show (if kk = 10 then _ else moveV (wv V 6 l (nI (m + 1))) l (nI 5) (-9) kk) = _
        rw [if_neg k10, moveV_w6 k6]
      refine ⟨?_, fun j hj => ?_, ?_, ?_, rfl⟩
      · refine h.upd (q := nI 5) (k := -9) hl f7 (fun j hj => ?_) (fun j hj => ?_) ⟨5, m + 1, by omega, by omega, rfl, ?_, ⟨fun _ => hm3, fun _ => rfl⟩, fun z => by omega, fun z => by omega, ?_⟩
        · show moveV (wv V 6 l (nI (m + 1))) l (nI 5) (-9) 6 j = _
          rw [moveV_o (kk := 6) (by decide) (by decide) (by decide)]
          show upd (V 6) l _ j = _
          exact if_neg hj
        · show upd (moveV (wv V 6 l (nI (m + 1))) l (nI 5) (-9) 10) l _ j = _
          rw [moveV_o (kk := 10) (by decide) (by decide) (by decide)]
          exact if_neg hj
        · show moveV (wv V 6 l (nI (m + 1))) l (nI 5) (-9) 6 l = _
          rw [moveV_o (kk := 6) (by decide) (by decide) (by decide)]
          show upd (V 6) l _ l = _
          exact if_pos rfl
        · have e : finV (wv V 6 l (nI (m + 1))) l (nI 5) (V 0 4) 10 l = V 0 4 := by
            show upd _ l _ l = _
            exact if_pos rfl
          rw [e]
          exact ⟨fun z => by omega, fun z => absurd z n9⟩
      · rw [f7 7 (by decide) (by decide), f7 8 (by decide) (by decide)]
        exact o7 j hj
      · rw [f7 7 (by decide) (by decide), s7]
        decide
      · rw [P7_congr (f7 7 (by decide) (by decide)), c4 (q := 5) (by omega), if_neg (by omega), Nat.add_zero]
theorem brL_all {can : Nat} {R : List Nat} (hY : Y < 2 ^ 30) (h : B0 V N Y) (hw : w < 8) (hR : ∀ j, j < R.length → revD R j < N ∧ V 7 (revD R j) = nI 3) (hd : ∀ i j, i < j → j < R.length → revD R i ≠ revD R j) : ∀ k, k ≤ R.length → B0 (brL V w R can k).1 N Y ∧ (∀ l, (∀ j, j < k → revD R j ≠ l) → (brL V w R can k).1 7 l = V 7 l ∧ (brL V w R can k).1 8 l = V 8 l) ∧ (∀ j, j < k → ¬ (brL V w R can k).1 7 (revD R j) = nI 3) ∧ P7 (brL V w R can k).1 4 N + (brL V w R can k).2 = P7 V 4 N + can ∧ (brL V w R can k).2 = can - cntB (fun k => decide (wkV V (revD R k) = w)) k
  | 0, _ => ⟨h, fun l _ => ⟨rfl, rfl⟩, fun j hj => by omega, rfl, rfl⟩
  | k + 1, hk => by
    obtain ⟨a1, a2, a3, a4, a5⟩ := brL_all hY h hw hR hd k (by omega)
    have hl := (hR k (by omega)).1
    have e : brL V w R can (k + 1) = brSt w (revD R k) (brL V w R can k) := rfl
    have h24 : (brL V w R can k).1 2 = V 2 ∧ (brL V w R can k).1 4 = V 4 := ⟨brL_o (by decide) (by decide) (by decide) (by decide) (by decide) k, brL_o (by decide) (by decide) (by decide) (by decide) (by decide) k⟩
    have hwk : wkV (brL V w R can k).1 (revD R k) = wkV V (revD R k) := by
      unfold wkV
      rw [h24.1, h24.2]
    have h3 : (brL V w R can k).1 7 (revD R k) = nI 3 := by
      rw [(a2 (revD R k) (fun j hj => hd j k hj (by omega))).1]
      exact (hR k (by omega)).2
    rw [e]
    generalize brL V w R can k = q at a1 a2 a3 a4 a5 hwk h3 ⊢
    obtain ⟨W, d⟩ := q
    dsimp only at a1 a2 a3 a4 a5 hwk h3
    obtain ⟨b1, b2, b3, b4, b5⟩ := brSt_step (V := W) (d := d) hY a1 hl hw h3
    refine ⟨b1, fun m hm => ?_, fun j hj => ?_, by omega, ?_⟩
    · have hml : m ≠ revD R k := fun z => hm k (by omega) z.symm
      obtain ⟨z1, z2⟩ := b2 m hml
      obtain ⟨z3, z4⟩ := a2 m (fun j hj => hm j (by omega))
      exact ⟨z1.trans z3, z2.trans z4⟩
    · by_cases hjk : j = k
      · subst hjk
        exact b3
      · rw [(b2 (revD R j) (hd j k (by omega) (by omega))).1]
        exact a3 j (by omega)
    · rw [b5, hwk, a5]
      show _ = can - (cntB (fun k => decide (wkV V (revD R k) = w)) k + (if decide (wkV V (revD R k) = w) then 1 else 0))
      by_cases hb : wkV V (revD R k) = w
      · rw [if_pos hb, decide_eq_true hb, if_pos rfl]
        omega
      · rw [if_neg hb, decide_eq_false hb]
        simp
theorem sumI_upd {f : Nat → Int32} {c : Nat} {x : Int32} : ∀ n, sumI (upd f c (f c + x)) n = if c < n then sumI f n + x else sumI f n
  | 0 => by rw [if_neg (by omega)]; rfl
  | n + 1 => by
    unfold sumI
    rw [sumI_upd n]
    unfold upd
    by_cases hcn : c < n
    · rw [if_pos hcn, if_neg (show ¬ n = c by omega), if_pos (show c < n + 1 by omega), Int32.add_assoc, Int32.add_comm x, ← Int32.add_assoc]
    · rw [if_neg hcn]
      by_cases hc : n = c
      · subst hc
        rw [if_pos rfl, if_pos (by omega), Int32.add_assoc]
      · rw [if_neg hc, if_neg (by omega)]
theorem can_le {R : List Nat} : cannV V c w R ≤ blnV V w R := by
  unfold cannV
  split <;> omega
/-- a round's end -/
theorem brg_all (hY : Y < 2 ^ 30) (h : IV V N Y) (hc : c < 6) (hw : w < 8) (h13 : V 13 c = nI w) : IV (brgV V N c w) N Y ∧ brgV V N c w 15 c = V 15 c + nI (brgn V N c w) ∧ brgV V N c w 16 (c * 8 + w) = V 16 (c * 8 + w) + nI 1 ∧ brgV V N c w 14 c = nI 0 := by
  obtain ⟨hb, hh, hd⟩ := h
  have hR : ∀ j, j < (atVR V N (nI 3) (nI c)).length → revD (atVR V N (nI 3) (nI c)) j < N ∧ V 7 (revD (atVR V N (nI 3) (nI c)) j) = nI 3 := fun j hj => by
    obtain ⟨z1, z2, -⟩ := atVR_in (revD_mem _ j hj)
    exact ⟨z1, z2⟩
  obtain ⟨a1, a2, a3, a4, a5⟩ := brL_all (can := cannV V c w (atVR V N (nI 3) (nI c))) hY hb hw hR (fun i j hij hj => atVR_d i j hij hj) _ (Nat.le_refl _)
  have ho : ∀ kk, kk ≠ 6 → kk ≠ 7 → kk ≠ 8 → kk ≠ 10 → kk ≠ 11 → (brL V w (atVR V N (nI 3) (nI c)) (cannV V c w (atVR V N (nI 3) (nI c))) (atVR V N (nI 3) (nI c)).length).1 kk = V kk := fun kk h6 h7 h8 h10 h11 => brL_o h6 h7 h8 h10 h11 _
  have hz : (brL V w (atVR V N (nI 3) (nI c)) (cannV V c w (atVR V N (nI 3) (nI c))) (atVR V N (nI 3) (nI c)).length).2 = 0 := by
    rw [a5]
    have := can_le (V := V) (c := c) (w := w) (R := atVR V N (nI 3) (nI c))
    unfold blnV at this
    omega
  have hin : ∀ l, l < N → V 7 l = nI 3 → V 8 l = nI c → ∃ j, j < (atVR V N (nI 3) (nI c)).length ∧ revD (atVR V N (nI 3) (nI c)) j = l := fun l hl h7 h8 => by
    have hm := atVR_mem hl h7 h8
    have key : ∀ (R : List Nat), l ∈ R → ∃ j, j < R.length ∧ revD R j = l := by
      intro R
      induction R with
      | nil => intro z; exact absurd z List.not_mem_nil
      | cons a t ih =>
        intro z
        rcases List.mem_cons.1 z with z | z
        · refine ⟨t.length, by rw [List.length_cons]; omega, ?_⟩
          unfold revD
          rw [if_pos rfl, z]
        · obtain ⟨j, j1, j2⟩ := ih z
          refine ⟨j, by rw [List.length_cons]; omega, ?_⟩
          unfold revD
          rw [if_neg (by omega)]
          exact j2
    exact key _ hm
  have e : brgV V N c w = erV (brL V w (atVR V N (nI 3) (nI c)) (cannV V c w (atVR V N (nI 3) (nI c))) (atVR V N (nI 3) (nI c)).length).1 c w (brgn V N c w) := rfl
  rw [hz] at a4
  have a4 : P7 (brL V w (atVR V N (nI 3) (nI c)) (cannV V c w (atVR V N (nI 3) (nI c))) (atVR V N (nI 3) (nI c)).length).1 4 N + 0 = P7 V 4 N + brgn V N c w := a4
  have a3' : ∀ l, l < N → V 7 l = nI 3 → V 8 l = nI c → ¬ (brL V w (atVR V N (nI 3) (nI c)) (cannV V c w (atVR V N (nI 3) (nI c))) (atVR V N (nI 3) (nI c)).length).1 7 l = nI 3 := fun l hl h7 h8 => by
    obtain ⟨j, j1, j2⟩ := hin l hl h7 h8
    rw [← j2]
    exact a3 j j1
  have a2' : ∀ l, l < N → ¬ (V 7 l = nI 3 ∧ V 8 l = nI c) → (brL V w (atVR V N (nI 3) (nI c)) (cannV V c w (atVR V N (nI 3) (nI c))) (atVR V N (nI 3) (nI c)).length).1 7 l = V 7 l ∧ (brL V w (atVR V N (nI 3) (nI c)) (cannV V c w (atVR V N (nI 3) (nI c))) (atVR V N (nI 3) (nI c)).length).1 8 l = V 8 l := fun l hl hn => a2 l (fun j hj z => by
    obtain ⟨-, z2, z3⟩ := atVR_in (revD_mem (atVR V N (nI 3) (nI c)) j hj)
    rw [z] at z2 z3
    exact hn ⟨z2, z3⟩)
  rw [e]
  generalize (brL V w (atVR V N (nI 3) (nI c)) (cannV V c w (atVR V N (nI 3) (nI c))) (atVR V N (nI 3) (nI c)).length).1 = W at a1 a4 a2' a3' ho ⊢
  generalize brgn V N c w = can at a4 ⊢
  have o14 : ∀ d, erV W c w can 14 d = if d = c then nI 0 else V 14 d := fun d => by
    show (if d = c then nI 0 else W 14 d) = _
    rw [ho 14 (by decide) (by decide) (by decide) (by decide) (by decide)]
  have o15 : erV W c w can 15 = upd (V 15) c (V 15 c + nI can) := by
    show upd (W 15) c (W 15 c + nI can) = _
    rw [ho 15 (by decide) (by decide) (by decide) (by decide) (by decide)]
  have o16 : erV W c w can 16 = upd (V 16) (c * 8 + w) (V 16 (c * 8 + w) + nI 1) := by
    show upd (W 16) _ (W 16 _ + nI 1) = _
    rw [ho 16 (by decide) (by decide) (by decide) (by decide) (by decide)]
  obtain ⟨b1, ⟨b2, b2'⟩, b3, b4⟩ := a1
  refine ⟨⟨⟨b1, ⟨fun d hd6 => ?_, b2'⟩, b3, b4⟩, fun m hm z => ?_, ?_⟩, by rw [o15]; exact if_pos rfl, by rw [o16]; exact if_pos rfl, by rw [o14, if_pos rfl]⟩
  · obtain ⟨c1, c2, c3⟩ := b2 d hd6
    rw [o14]
    show _ ∧ (W 13 d = -9 ∨ ∃ w, w < 8 ∧ W 13 d = nI w) ∧ (_ → ¬ W 13 d = -9)
    rw [ho 14 (by decide) (by decide) (by decide) (by decide) (by decide)] at c1 c3
    by_cases hdc : d = c
    · rw [if_pos hdc]
      exact ⟨Or.inl rfl, c2, fun z => absurd z (by decide)⟩
    · rw [if_neg hdc]
      exact ⟨c1, c2, c3⟩
  · show ∃ d, d < 6 ∧ W 8 m = nI d ∧ _
    have z : W 7 m = nI 3 := z
    by_cases hn : V 7 m = nI 3 ∧ V 8 m = nI c
    · exact absurd z (a3' m hm hn.1 hn.2)
    · obtain ⟨z1, z2⟩ := a2' m hm hn
      rw [z1] at z
      obtain ⟨d, d1, d2, d3⟩ := hh m hm z
      refine ⟨d, d1, z2.trans d2, ?_⟩
      rw [o14, if_neg (fun q => hn ⟨z, by rw [d2, q]⟩)]
      exact d3
  · unfold ID at hd ⊢
    rw [o15, sumI_upd, if_pos hc, hd]
    show nI (P7 V 4 N) + nI can = nI (P7 W 4 N)
    rw [nI_add', ← a4, Nat.add_zero]
end HD
end
section
/-! The state of the object as the law sees it; calls that only look. -/
section SB
variable {ε : EE} {J J' : JT} {pc : Nat} {ls : List (Option V0)} {st : List V0} {As : List V0} {G G' G0 G1 : GG} {V V' : VV} {N Y d : Nat} {Q : Option Int32 → GG → Prop}
/-- office i, with nothing else -/
def O (G : GG) (i : Nat) : VV := fun kk => if kk < 18 then G i kk else fun _ => 0
def Can (V : VV) : Prop := ∀ kk, 18 ≤ kk → V kk = fun _ => 0
theorem O_at {i kk : Nat} (h : kk < 18) : O G i kk = G i kk := if_pos h
theorem O_can {i : Nat} : Can (O G i) := fun kk hk => if_neg (by omega)
theorem O_eq {i j : Nat} (h : ∀ kk, kk < 18 → G' j kk = G i kk) : O G' j = O G i := by
  funext kk
  unfold O
  by_cases hk : kk < 18
  · rw [if_pos hk, if_pos hk, h kk hk]
  · rw [if_neg hk, if_neg hk]
theorem Can.of (h : Can V) (h2 : ∀ kk, 18 ≤ kk → V' kk = V kk) : Can V' := fun kk hk => by rw [h2 kk hk, h kk hk]
theorem cG_O {i : Nat} : cG G i (O G i) (G 0 40 1) (G 0 41) = G := by
  have e : cG G i (O G i) (G 0 40 1) (G 0 41) = cG G i (G i) (G 0 40 1) (G 0 41) := by
    funext a b
    unfold cG
    by_cases h1 : a = i ∧ b < 18
    · rw [if_pos h1, if_pos h1, O_at h1.2]
    · rw [if_neg h1, if_neg h1]
  exact e.trans (cG_self G i)
theorem O_cG {i : Nat} {s : Int32} {o : Nat → Int32} (h : Can V) : O (cG G i V s o) i = V := by
  funext kk
  by_cases hk : kk < 18
  · rw [O_at hk, cG_at hk]
  · unfold O
    rw [if_neg hk, h kk (by omega)]
theorem O_cGo {i j : Nat} {s : Int32} {o : Nat → Int32} (h : j ≠ i) : O (cG G i V s o) j = O G j := O_eq (fun kk hk => cG_o (Or.inl h) (by omega) (by omega))
theorem fo_self {i : Nat} {v : Option Int32} {V' : VV} {s' : Int32} {o' : Nat → Int32} (h : FC ε J As G i (O G i) (G 0 40 1) (G 0 41) v V' s' o') : F2 ε J As G v (cG G i V' s' o') := by
  unfold FC at h
  rw [cG_O] at h
  exact h
theorem fo_same {i : Nat} {v : Option Int32} (h : FC ε J As G i (O G i) (G 0 40 1) (G 0 41) v (O G i) (G 0 40 1) (G 0 41)) : F2 ε J As G v G := by
  unfold FC at h
  rw [cG_O] at h
  exact h
def SG (G : GG) : Prop := (∃ N, IV (O G 0) N 500) ∧ (∀ t, t < 2 → (G 0 22 t = 0 ∨ G 0 22 t = 1) ∧ (G 0 22 t = 1 → ∃ N, IV (O G (1 + t)) N 500)) ∧ (∃ d hm, HS G d hm) ∧ G 0 33 1 = nI 0
theorem lk1.oo (h : lk1 G G') {i : Nat} (hi : i ≠ 18) : O G' i = O G i := O_eq (fun kk hk => h i kk (by omega) (by omega) (by omega))
theorem lk1.rf : lk1 G G := fun _ _ _ _ _ => rfl
theorem lk1.tr (h : lk1 G G') (h2 : lk1 G' G1) : lk1 G G1 := fun i kk a b c => (h2 i kk a b c).trans (h i kk a b c)
theorem lk1.hs {hm : Nat → Nat} (h : lk1 G G') (k : HS G d hm) : HS G' d hm := by
  obtain ⟨a, b, e, f⟩ := k
  exact ⟨a, by rw [h 0 31 (by omega) (by omega) (by omega)]; exact b, fun p hp => by rw [h 0 32 (by omega) (by omega) (by omega)]; exact e p hp, f⟩
theorem lk1.sg (h : lk1 G G') (k : SG G) : SG G' := by
  obtain ⟨a, b, ⟨d, hm, c⟩, e⟩ := k
  refine ⟨by rw [h.oo (by omega)]; exact a, fun t ht => ?_, ⟨d, hm, h.hs c⟩, by rw [h 0 33 (by omega) (by omega) (by omega)]; exact e⟩
  rw [h 0 22 (by omega) (by omega) (by omega), h.oo (by omega)]
  exact b t ht
theorem lk1.sh {m : Nat} (h : lk1 G G') (hm : m < 6) (k : Shows G0 G m) : Shows G0 G' m := by
  obtain ⟨a, b⟩ := k
  refine ⟨fun kk hk => by rw [h _ kk (by omega) (by omega) (by omega)]; exact a kk hk, fun t ht => ⟨by rw [h m 22 (by omega) (by omega) (by omega)]; exact (b t ht).1, fun z kk hk => ?_⟩⟩
  rw [h _ kk (by omega) (by omega) (by omega)]
  exact (b t ht).2 z kk hk
theorem lk1.top (h : lk1 G G') (k : Top G0 G d) : Top G0 G' d := by
  obtain ⟨hm, a, b, c⟩ := k
  exact ⟨hm, a, h.hs b, h.sh (b.2.2.1 d a).2.1 c⟩
theorem IV.okZ (h : IV V N Y) : okZ V := fun t ht => ((h.1.2.1.1 t ht).1).imp id id
theorem SG.okM (h : SG G) : okM G 0 := by
  obtain ⟨⟨N, a⟩, b, -⟩ := h
  refine ⟨fun t ht => ?_, fun t ht => ⟨(b t ht).1, fun z u hu => ?_⟩⟩
  · have := a.okZ t ht
    rw [O_at (by omega)] at this
    exact this
  · obtain ⟨N2, c⟩ := (b t ht).2 z
    have := c.okZ u hu
    rw [O_at (by omega)] at this
    rw [show 3 * 0 + 1 + t = 1 + t by omega]
    exact this
/-- a look: it answers, and all but the line and the trials is as it was -/
def FL (ε : EE) (J : JT) (As : List V0) (G : GG) (a : Int32) : Prop := C2 ε J (.inr (0, 30) :: As) G (fun v G' => v = some a ∧ lk1 G G')
def Lk (ε : EE) (J : JT) (As : List V0) (G0 : GG) (a : Int32) : Prop := ∀ G, lk1 G0 G → FL ε J As G a
theorem FL.same {a : Int32} (h : F2 ε J (.inr (0, 30) :: As) G (some a) G) : FL ε J As G a := C2.post (fun v G' z => ⟨z.1, by rw [z.2]; exact lk1.rf⟩) h
theorem lk_line {s : Int32} {o : Nat → Int32} : lk1 G (cG G 0 (O G 0) s o) := fun i kk a b c => by
  unfold cG
  by_cases h1 : i = 0 ∧ kk < 18
  · rw [if_pos h1, O_at h1.2, h1.1]
  · rw [if_neg h1, if_neg (by omega), if_neg (by omega)]
theorem lk_trial {V : VV} {s : Int32} {o : Nat → Int32} : lk1 G (cG G 18 V s o) := fun i kk a b c => by
  unfold cG
  rw [if_neg a, if_neg (by omega), if_neg (by omega)]
/-- a method that looks, from any state that differs from G0 in line and trials alone -/
def E3 (ε : EE) (J : JT) (pc : Nat) (ls : List (Option V0)) (st : List V0) (G0 : GG) (Q : Option Int32 → GG → Prop) : Prop := ∀ G, lk1 G0 G → E2 ε J pc ls st G Q
theorem e3_step {o a b nx tg : Nat} {v : Int32} {ls' : List (Option V0)} {st' : List V0} (h : lk (jt J) pc = (o, a, b, v, nx, tg)) (hs : stp o a v ls st = some (ls', st')) (k : E3 ε J nx ls' st' G0 Q) : E3 ε J pc ls st G0 Q := fun G hG => e2_step h hs (k G hG)
theorem e3_stepS {o a b nx tg : Nat} {v : Int32} {ls' : List (Option V0)} {st' : List V0} (stop : Nat) (_ : Nat.beq pc stop = false) (h : lk (jt J) pc = (o, a, b, v, nx, tg)) (hs : stp o a v ls st = some (ls', st')) (k : E3 ε J nx ls' st' G0 Q) : E3 ε J pc ls st G0 Q := fun G hG => e2_step h hs (k G hG)
theorem e3_if {o a b nx tg : Nat} {v : Int32} {P : Prop} {st' : List V0} (h : lk (jt J) pc = (o, a, b, v, nx, tg)) (hs : cnd o st = some (P, st')) (kt : P → E3 ε J tg ls st' G0 Q) (kf : ¬ P → E3 ε J nx ls st' G0 Q) : E3 ε J pc ls st G0 Q := fun G hG => e2_if h hs (fun p => kt p G hG) (fun p => kf p G hG)
theorem e3_look {n idx nx : Nat} {v r : Int32} {As rest : List V0} {ty : FieldType} (hC : Lk ε J' As G0 r) (hst : st = As.reverse ++ .inr (0, 30) :: rest) (h : lk (jt J) pc = (44, n, jn J', v, nx, idx)) (hT : e_fit J J') (hr : jr J' = some ty) (hn : As.length = n) (hrest : Nat.ble rest.length 8 = true) (hcn : nmC 8 = (jy J').cls) (k : E3 ε J nx ls (.inl r :: rest) G0 Q) : E3 ε J pc ls st G0 Q := fun G hG =>
  e2_callVi (ci := 8) h hT hr hn hst hrest (by decide) rfl (by decide) hcn (hC G hG) (fun r' G' z => by
    obtain ⟨z1, z2⟩ := z
    cases z1
    exact k G' (hG.tr z2))
theorem e3_op {n idx nx : Nat} {v r : Int32} {As rest : List V0} {ty : FieldType} {P : GG → Prop} (hC : ∀ G, lk1 G0 G → C2 ε J' (.inr (0, 30) :: As) G (fun v G' => v = some r ∧ P G')) (hst : st = As.reverse ++ .inr (0, 30) :: rest) (h : lk (jt J) pc = (44, n, jn J', v, nx, idx)) (hT : e_fit J J') (hr : jr J' = some ty) (hn : As.length = n) (hrest : Nat.ble rest.length 8 = true) (hcn : nmC 8 = (jy J').cls) (k : ∀ G', P G' → E3 ε J nx ls (.inl r :: rest) G' Q) : E3 ε J pc ls st G0 Q := fun G hG =>
  e2_callVi (ci := 8) h hT hr hn hst hrest (by decide) rfl (by decide) hcn (hC G hG) (fun r' G' z => by
    obtain ⟨z1, z2⟩ := z
    cases z1
    exact k G' z2 G' lk1.rf)
/-- a static method of the law's own that looks -/
def Ls (ε : EE) (J : JT) (As : List V0) (G0 : GG) (a : Int32) : Prop := ∀ G, lk1 G0 G → C2 ε J As G (fun v G' => v = some a ∧ lk1 G G')
theorem e3_stat {n idx nx : Nat} {v r : Int32} {As rest : List V0} {ty : FieldType} (hC : Ls ε J' As G0 r) (hst : st = As.reverse ++ rest) (h : lk (jt J) pc = (46, n, jn J', v, nx, idx)) (hT : e_fit J J') (hr : jr J' = some ty) (hn : As.length = n) (hrest : Nat.ble rest.length 8 = true) (k : E3 ε J nx ls (.inl r :: rest) G0 Q) : E3 ε J pc ls st G0 Q := fun G hG =>
  e2_callSi h hT hr hn hst hrest (hC G hG) (fun r' G' z => by
    obtain ⟨z1, z2⟩ := z
    cases z1
    exact k G' (hG.tr z2))
theorem e3_statO {n idx nx : Nat} {v r : Int32} {As rest : List V0} {ty : FieldType} {P : GG → Prop} (hC : ∀ G, lk1 G0 G → C2 ε J' As G (fun v G' => v = some r ∧ P G')) (hst : st = As.reverse ++ rest) (h : lk (jt J) pc = (46, n, jn J', v, nx, idx)) (hT : e_fit J J') (hr : jr J' = some ty) (hn : As.length = n) (hrest : Nat.ble rest.length 8 = true) (k : ∀ G', P G' → E3 ε J nx ls (.inl r :: rest) G' Q) : E3 ε J pc ls st G0 Q := fun G hG =>
  e2_callSi h hT hr hn hst hrest (hC G hG) (fun r' G' z => by
    obtain ⟨z1, z2⟩ := z
    cases z1
    exact k G' z2 G' lk1.rf)
theorem e3_ret {o a b nx : Nat} {v x : Int32} (h : lk (jt J) pc = (41, a, b, v, nx, o)) (hr : jr J = some .int) (hQ : ∀ G, lk1 G0 G → Q (some x) G) : E3 ε J pc ls [.inl x] G0 Q := fun G hG => e2_iret h hr (hQ G hG)
theorem e3_zret {o a b nx : Nat} {v x : Int32} (h : lk (jt J) pc = (41, a, b, v, nx, o)) (hr : jr J = some .boolean) (hv : vp_nar .boolean x = x) (hQ : ∀ G, lk1 G0 G → Q (some x) G) : E3 ε J pc ls [.inl x] G0 Q := fun G hG => e2_zret h hr hv (hQ G hG)
/-- the law's own method by its body -/
theorem Ls.of {As : List V0} {ls : List (Option V0)} {a : Int32} (hT : e_T J) (hls : e_in As (jm J) = ls) (hlen : Nat.ble As.length (jm J) = true) (h : E3 ε J 0 ls [] G0 (fun v G' => v = some a ∧ lk1 G0 G')) : Ls ε J As G0 a := fun G hG => C2.of hT hls hlen (by
  have h1 : E3 ε J 0 ls [] G (fun v G' => v = some a ∧ lk1 G0 G') := fun G' hG' => h G' (hG.tr hG')
  have hb : lk1 G G0 := fun i kk a b c => (hG i kk a b c).symm
  exact e2_post (fun v G' z => ⟨z.1, hb.tr z.2⟩) (h1 G lk1.rf))
end SB
end
section
/-! Looks: count, letter, frame, carrier, rounds, stretch. -/
section LA
variable {ε : EE} {J J' : JT} {pc : Nat} {ls : List (Option V0)} {st : List V0} {As : List V0} {G G' G0 G1 : GG} {V V' : VV} {N Y d l : Nat} {Q : Option Int32 → GG → Prop}
theorem lk1.IVo (h : lk1 G0 G) (k : IV (O G0 0) N Y) : IV (O G 0) N Y := by rw [h.oo (by decide)]; exact k
/-- what count tells -/
def aCount (G : GG) (N k : Nat) : Int32 := if k < 6 then nI (P7 (O G 0) k N) else match k with
  | 6 => nI N
  | 7 => O G 0 0 4
  | 8 => nI (1 + cntB (fun c => decide (¬ O G 0 2 (c + 1) = O G 0 2 c)) 99)
  | 9 => nI (cntB (fun c => decide (¬ O G 0 14 c = 0)) 6)
  | 10 => nI (cntB (stryV (O G 0)) N)
  | 11 => sumI (O G 0 6) N
  | 12 => sumI (O G 0 16) 48
  | 13 => O G 0 0 5
  | 14 => O G 0 0 6
  | 15 => O G 0 0 7
  | 16 => nI (cntB (fun c => decide (¬ G 0 22 c = 0)) 2)
  | 17 => G 0 31 1
  | 18 => G 0 33 1
  | _ => -1
theorem lk1.aC (h : lk1 G0 G) {k : Nat} : aCount G N k = aCount G0 N k := by
  unfold aCount
  rw [h.oo (by decide), h 0 22 (by omega) (by omega) (by omega), h 0 31 (by omega) (by omega) (by omega), h 0 33 (by omega) (by omega) (by omega)]
theorem L_count (h : IV (O G0 0) N Y) {k : Nat} (hk : k ≤ 18) : Lk ε jX8_count [.inl (nI k)] G0 (aCount G0 N k) := by
  intro G hG
  rw [← hG.aC]
  have h := hG.IVo h
  have hN2 := h.1.nle
  have hc : G 0 3 8 = nI N := h.1.cnt
  refine FL.same ?_
  by_cases h6 : k < 6
  · have e : aCount G N k = nI (P7 (O G 0) k N) := if_pos h6
    rw [e]
    refine C2.of (ls := [some (.inr (0, 30)), some (.inl (nI k))]) okX8_count rfl rfl ?_
    repeat (first | refine e2_step rfl rfl ?_ | refine e2_get rfl (by first | exact hi | decide) rfl rfl ?_)
    refine e2_fs (c_isIn (nI k) (nI 0) (nI 5)) rfl rfl ⟨rfl, rfl, rfl⟩ rfl rfl rfl ?_
    rw [isIn_T (by omega) (by decide)]
    refine e2_if rfl rfl (fun z => absurd z (by decide)) (fun _ => ?_)
    repeat (first | refine e2_step rfl rfl ?_ | refine e2_get rfl (by first | exact hi | decide) rfl rfl ?_)
    refine e2_fi (c_countIn (i := 0) (by decide) hN2 hc (nI k)) rfl rfl ⟨rfl, rfl, rfl⟩ rfl rfl rfl (by first | exact hi | decide) rfl rfl rfl ?_
    exact e2_iret rfl rfl ⟨rfl, rfl⟩
  · have hcl : ∀ Q, E2 ε jX8_count 24 [some (.inr (0, 30)), some (.inl (nI k))] [] G Q → E2 ε jX8_count 0 [some (.inr (0, 30)), some (.inl (nI k))] [] G Q := by
      intro Q kk
      repeat (first | refine e2_step rfl rfl ?_ | refine e2_get rfl (by first | exact hi | decide) rfl rfl ?_)
      refine e2_fs (c_isIn (nI k) (nI 0) (nI 5)) rfl rfl ⟨rfl, rfl, rfl⟩ rfl rfl rfl ?_
      rw [isIn_hi (k := 5) (by decide) ((nI_leI (by omega) (by omega)).2 (by omega))]
      refine e2_if rfl rfl (fun _ => ?_) (fun z => absurd rfl z)
      exact kk
    rcases (show k = 6 ∨ k = 7 ∨ k = 8 ∨ k = 9 ∨ k = 10 ∨ k = 11 ∨ k = 12 ∨ k = 13 ∨ k = 14 ∨ k = 15 ∨ k = 16 ∨ k = 17 ∨ k = 18 by omega) with rfl | rfl | rfl | rfl | rfl | rfl | rfl | rfl | rfl | rfl | rfl | rfl | rfl
    · refine C2.of (ls := [some (.inr (0, 30)), some (.inl (nI 6))]) okX8_count rfl rfl ?_
      refine hcl _ ?_
      refine e2_step rfl rfl ?_
      refine e2_tabIn 0 dX8_count_25 (by decide) (by decide) rfl (tgt := 92) (by decide) ?_
      repeat (first | refine e2_step rfl rfl ?_ | refine e2_get rfl (by first | exact hi | decide) rfl rfl ?_)
      exact e2_iret rfl rfl ⟨congrArg some hc, rfl⟩
    · refine C2.of (ls := [some (.inr (0, 30)), some (.inl (nI 7))]) okX8_count rfl rfl ?_
      refine hcl _ ?_
      refine e2_step rfl rfl ?_
      refine e2_tabIn 1 dX8_count_25 (by decide) (by decide) rfl (tgt := 106) (by decide) ?_
      repeat (first | refine e2_step rfl rfl ?_ | refine e2_get rfl (by first | exact hi | decide) rfl rfl ?_)
      exact e2_iret rfl rfl ⟨rfl, rfl⟩
    · refine C2.of (ls := [some (.inr (0, 30)), some (.inl (nI 8))]) okX8_count rfl rfl ?_
      refine hcl _ ?_
      refine e2_step rfl rfl ?_
      refine e2_tabIn 2 dX8_count_25 (by decide) (by decide) rfl (tgt := 117) (by decide) ?_
      repeat (first | refine e2_step rfl rfl ?_ | refine e2_get rfl (by first | exact hi | decide) rfl rfl ?_)
      refine e2_fi (fo_same (i := 0) (g_stretches (by decide))) rfl rfl ⟨rfl, rfl, rfl⟩ rfl rfl rfl (by first | exact hi | decide) rfl rfl rfl ?_
      exact e2_iret rfl rfl ⟨rfl, rfl⟩
    · refine C2.of (ls := [some (.inr (0, 30)), some (.inl (nI 9))]) okX8_count rfl rfl ?_
      refine hcl _ ?_
      refine e2_step rfl rfl ?_
      refine e2_tabIn 3 dX8_count_25 (by decide) (by decide) rfl (tgt := 131) (by decide) ?_
      repeat (first | refine e2_step rfl rfl ?_ | refine e2_get rfl (by first | exact hi | decide) rfl rfl ?_)
      refine e2_fi (fo_same (i := 0) (k_countOut (by decide))) rfl rfl ⟨rfl, rfl, rfl⟩ rfl rfl rfl (by first | exact hi | decide) rfl rfl rfl ?_
      exact e2_iret rfl rfl ⟨rfl, rfl⟩
    · refine C2.of (ls := [some (.inr (0, 30)), some (.inl (nI 10))]) okX8_count rfl rfl ?_
      refine hcl _ ?_
      refine e2_step rfl rfl ?_
      refine e2_tabIn 4 dX8_count_25 (by decide) (by decide) rfl (tgt := 145) (by decide) ?_
      repeat (first | refine e2_step rfl rfl ?_ | refine e2_get rfl (by first | exact hi | decide) rfl rfl ?_)
      refine e2_fi (fo_same (i := 0) (w_countStray (by decide) hN2 h.1.okV h.1.cnt)) rfl rfl ⟨rfl, rfl, rfl⟩ rfl rfl rfl (by first | exact hi | decide) rfl rfl rfl ?_
      exact e2_iret rfl rfl ⟨rfl, rfl⟩
    · refine C2.of (ls := [some (.inr (0, 30)), some (.inl (nI 11))]) okX8_count rfl rfl ?_
      refine hcl _ ?_
      refine e2_step rfl rfl ?_
      refine e2_tabIn 5 dX8_count_25 (by decide) (by decide) rfl (tgt := 156) (by decide) ?_
      repeat (first | refine e2_step rfl rfl ?_ | refine e2_get rfl (by first | exact hi | decide) rfl rfl ?_)
      refine e2_fi (fo_same (i := 0) (v_countMisroutes (by decide) hN2 h.1.cnt)) rfl rfl ⟨rfl, rfl, rfl⟩ rfl rfl rfl (by first | exact hi | decide) rfl rfl rfl ?_
      exact e2_iret rfl rfl ⟨rfl, rfl⟩
    · refine C2.of (ls := [some (.inr (0, 30)), some (.inl (nI 12))]) okX8_count rfl rfl ?_
      refine hcl _ ?_
      refine e2_step rfl rfl ?_
      refine e2_tabIn 6 dX8_count_25 (by decide) (by decide) rfl (tgt := 170) (by decide) ?_
      repeat (first | refine e2_step rfl rfl ?_ | refine e2_get rfl (by first | exact hi | decide) rfl rfl ?_)
      refine e2_fi (fo_same (i := 0) (k_countRounds (by decide))) rfl rfl ⟨rfl, rfl, rfl⟩ rfl rfl rfl (by first | exact hi | decide) rfl rfl rfl ?_
      exact e2_iret rfl rfl ⟨rfl, rfl⟩
    · refine C2.of (ls := [some (.inr (0, 30)), some (.inl (nI 13))]) okX8_count rfl rfl ?_
      refine hcl _ ?_
      refine e2_step rfl rfl ?_
      refine e2_tabIn 7 dX8_count_25 (by decide) (by decide) rfl (tgt := 184) (by decide) ?_
      repeat (first | refine e2_step rfl rfl ?_ | refine e2_get rfl (by first | exact hi | decide) rfl rfl ?_)
      exact e2_iret rfl rfl ⟨rfl, rfl⟩
    · refine C2.of (ls := [some (.inr (0, 30)), some (.inl (nI 14))]) okX8_count rfl rfl ?_
      refine hcl _ ?_
      refine e2_step rfl rfl ?_
      refine e2_tabIn 8 dX8_count_25 (by decide) (by decide) rfl (tgt := 195) (by decide) ?_
      repeat (first | refine e2_step rfl rfl ?_ | refine e2_get rfl (by first | exact hi | decide) rfl rfl ?_)
      exact e2_iret rfl rfl ⟨rfl, rfl⟩
    · refine C2.of (ls := [some (.inr (0, 30)), some (.inl (nI 15))]) okX8_count rfl rfl ?_
      refine hcl _ ?_
      refine e2_step rfl rfl ?_
      refine e2_tabIn 9 dX8_count_25 (by decide) (by decide) rfl (tgt := 206) (by decide) ?_
      repeat (first | refine e2_step rfl rfl ?_ | refine e2_get rfl (by first | exact hi | decide) rfl rfl ?_)
      exact e2_iret rfl rfl ⟨rfl, rfl⟩
    · refine C2.of (ls := [some (.inr (0, 30)), some (.inl (nI 16))]) okX8_count rfl rfl ?_
      refine hcl _ ?_
      refine e2_step rfl rfl ?_
      refine e2_tabIn 10 dX8_count_25 (by decide) (by decide) rfl (tgt := 217) (by decide) ?_
      repeat (first | refine e2_step rfl rfl ?_ | refine e2_get rfl (by first | exact hi | decide) rfl rfl ?_)
      refine e2_fi (q_countSnapshots (j := 0) (by decide)) rfl rfl ⟨rfl, rfl, rfl⟩ rfl rfl rfl (by first | exact hi | decide) rfl rfl rfl ?_
      exact e2_iret rfl rfl ⟨rfl, rfl⟩
    · refine C2.of (ls := [some (.inr (0, 30)), some (.inl (nI 17))]) okX8_count rfl rfl ?_
      refine hcl _ ?_
      refine e2_step rfl rfl ?_
      refine e2_tabIn 11 dX8_count_25 (by decide) (by decide) rfl (tgt := 225) (by decide) ?_
      repeat (first | refine e2_step rfl rfl ?_ | refine e2_get rfl (by first | exact hi | decide) rfl rfl ?_)
      exact e2_iret rfl rfl ⟨rfl, rfl⟩
    · refine C2.of (ls := [some (.inr (0, 30)), some (.inl (nI 18))]) okX8_count rfl rfl ?_
      refine hcl _ ?_
      refine e2_step rfl rfl ?_
      refine e2_tabIn 12 dX8_count_25 (by decide) (by decide) rfl (tgt := 233) (by decide) ?_
      repeat (first | refine e2_step rfl rfl ?_ | refine e2_get rfl (by first | exact hi | decide) rfl rfl ?_)
      exact e2_iret rfl rfl ⟨rfl, rfl⟩
/-- what letter tells of a letter that is there -/
def aLetter (V : VV) (l k : Nat) : Int32 := match k with
  | 0 => V 4 l
  | 1 => V 5 l
  | 2 => V 7 l
  | 3 => if V 7 l = nI 1 then V 8 l else -9
  | 4 => if V 7 l = nI 3 then V 8 l else -9
  | 5 => V 6 l
  | 6 => V 9 l
  | 7 => V 10 l
  | 8 => nI (wkV V l)
  | _ => -1
theorem L_letter (h : IV (O G0 0) N Y) (hl : l < N) {k : Nat} (hk : k ≤ 8) : Lk ε jX8_letter [.inl (nI l), .inl (nI k)] G0 (aLetter (O G0 0) l k) := by
  intro G hG
  rw [← hG.oo (by decide)]
  have h := hG.IVo h
  have hN2 := h.1.nle
  have hl2 : l < 120 := by omega
  refine FL.same ?_
  have hcl : ∀ Q, E2 ε jX8_letter 21 [some (.inr (0, 30)), some (.inl (nI l)), some (.inl (nI k)), some (.inr (0, 3))] [] G Q → E2 ε jX8_letter 0 [some (.inr (0, 30)), some (.inl (nI l)), some (.inl (nI k)), none] [] G Q := by
    intro Q kk
    repeat (first | refine e2_step rfl rfl ?_ | refine e2_get rfl (by first | exact hi | decide) rfl rfl ?_)
    refine e2_fi (fo_same (i := 0) (v_has (by decide) hN2 h.1.cnt hl)) rfl rfl ⟨rfl, rfl, rfl⟩ rfl rfl rfl (by first | exact hi | decide) rfl rfl rfl ?_
    refine e2_if rfl rfl (fun _ => ?_) (fun z => absurd (by decide) z)
    exact kk
  rcases (show k = 0 ∨ k = 1 ∨ k = 2 ∨ k = 3 ∨ k = 4 ∨ k = 5 ∨ k = 6 ∨ k = 7 ∨ k = 8 by omega) with rfl | rfl | rfl | rfl | rfl | rfl | rfl | rfl | rfl
  · refine C2.of (ls := [some (.inr (0, 30)), some (.inl (nI l)), some (.inl (nI 0)), none]) okX8_letter rfl rfl ?_
    refine hcl _ ?_
    refine e2_step rfl rfl ?_
    refine e2_tabIn 0 dX8_letter_22 (by decide) (by decide) rfl (tgt := 72) (by decide) ?_
    repeat (first | refine e2_step rfl rfl ?_ | refine e2_get rfl (by first | exact hi | decide) rfl rfl ?_)
    refine e2_iald (i := 0) (kk := 4) l rfl rfl (by decide) rfl hl2 ?_
    exact e2_iret rfl rfl ⟨rfl, rfl⟩
  · refine C2.of (ls := [some (.inr (0, 30)), some (.inl (nI l)), some (.inl (nI 1)), none]) okX8_letter rfl rfl ?_
    refine hcl _ ?_
    refine e2_step rfl rfl ?_
    refine e2_tabIn 1 dX8_letter_22 (by decide) (by decide) rfl (tgt := 79) (by decide) ?_
    repeat (first | refine e2_step rfl rfl ?_ | refine e2_get rfl (by first | exact hi | decide) rfl rfl ?_)
    refine e2_iald (i := 0) (kk := 5) l rfl rfl (by decide) rfl hl2 ?_
    exact e2_iret rfl rfl ⟨rfl, rfl⟩
  · refine C2.of (ls := [some (.inr (0, 30)), some (.inl (nI l)), some (.inl (nI 2)), none]) okX8_letter rfl rfl ?_
    refine hcl _ ?_
    refine e2_step rfl rfl ?_
    refine e2_tabIn 2 dX8_letter_22 (by decide) (by decide) rfl (tgt := 86) (by decide) ?_
    repeat (first | refine e2_step rfl rfl ?_ | refine e2_get rfl (by first | exact hi | decide) rfl rfl ?_)
    refine e2_iald (i := 0) (kk := 7) l rfl rfl (by decide) rfl hl2 ?_
    exact e2_iret rfl rfl ⟨rfl, rfl⟩
  · refine C2.of (ls := [some (.inr (0, 30)), some (.inl (nI l)), some (.inl (nI 3)), none]) okX8_letter rfl rfl ?_
    refine hcl _ ?_
    refine e2_step rfl rfl ?_
    refine e2_tabIn 3 dX8_letter_22 (by decide) (by decide) rfl (tgt := 93) (by decide) ?_
    repeat (first | refine e2_step rfl rfl ?_ | refine e2_get rfl (by first | exact hi | decide) rfl rfl ?_)
    refine e2_iald (i := 0) (kk := 7) l rfl rfl (by decide) rfl hl2 ?_
    repeat (first | refine e2_step rfl rfl ?_ | refine e2_get rfl (by first | exact hi | decide) rfl rfl ?_)
    refine e2_if rfl rfl (fun z => ?_) (fun z => ?_)
    · repeat (first | refine e2_step rfl rfl ?_ | refine e2_get rfl (by first | exact hi | decide) rfl rfl ?_)
      refine e2_iret rfl rfl ⟨?_, rfl⟩
      exact congrArg some (if_neg z).symm
    · repeat (first | refine e2_step rfl rfl ?_ | refine e2_get rfl (by first | exact hi | decide) rfl rfl ?_)
      refine e2_iald (i := 0) (kk := 8) l rfl rfl (by decide) rfl hl2 ?_
      repeat (first | refine e2_step rfl rfl ?_ | refine e2_get rfl (by first | exact hi | decide) rfl rfl ?_)
      refine e2_iret rfl rfl ⟨?_, rfl⟩
      exact congrArg some (if_pos (Classical.not_not.1 z)).symm
  · refine C2.of (ls := [some (.inr (0, 30)), some (.inl (nI l)), some (.inl (nI 4)), none]) okX8_letter rfl rfl ?_
    refine hcl _ ?_
    refine e2_step rfl rfl ?_
    refine e2_tabIn 4 dX8_letter_22 (by decide) (by decide) rfl (tgt := 115) (by decide) ?_
    repeat (first | refine e2_step rfl rfl ?_ | refine e2_get rfl (by first | exact hi | decide) rfl rfl ?_)
    refine e2_iald (i := 0) (kk := 7) l rfl rfl (by decide) rfl hl2 ?_
    repeat (first | refine e2_step rfl rfl ?_ | refine e2_get rfl (by first | exact hi | decide) rfl rfl ?_)
    refine e2_if rfl rfl (fun z => ?_) (fun z => ?_)
    · repeat (first | refine e2_step rfl rfl ?_ | refine e2_get rfl (by first | exact hi | decide) rfl rfl ?_)
      refine e2_iret rfl rfl ⟨?_, rfl⟩
      exact congrArg some (if_neg z).symm
    · repeat (first | refine e2_step rfl rfl ?_ | refine e2_get rfl (by first | exact hi | decide) rfl rfl ?_)
      refine e2_iald (i := 0) (kk := 8) l rfl rfl (by decide) rfl hl2 ?_
      repeat (first | refine e2_step rfl rfl ?_ | refine e2_get rfl (by first | exact hi | decide) rfl rfl ?_)
      refine e2_iret rfl rfl ⟨?_, rfl⟩
      exact congrArg some (if_pos (Classical.not_not.1 z)).symm
  · refine C2.of (ls := [some (.inr (0, 30)), some (.inl (nI l)), some (.inl (nI 5)), none]) okX8_letter rfl rfl ?_
    refine hcl _ ?_
    refine e2_step rfl rfl ?_
    refine e2_tabIn 5 dX8_letter_22 (by decide) (by decide) rfl (tgt := 137) (by decide) ?_
    repeat (first | refine e2_step rfl rfl ?_ | refine e2_get rfl (by first | exact hi | decide) rfl rfl ?_)
    refine e2_iald (i := 0) (kk := 6) l rfl rfl (by decide) rfl hl2 ?_
    exact e2_iret rfl rfl ⟨rfl, rfl⟩
  · refine C2.of (ls := [some (.inr (0, 30)), some (.inl (nI l)), some (.inl (nI 6)), none]) okX8_letter rfl rfl ?_
    refine hcl _ ?_
    refine e2_step rfl rfl ?_
    refine e2_tabIn 6 dX8_letter_22 (by decide) (by decide) rfl (tgt := 144) (by decide) ?_
    repeat (first | refine e2_step rfl rfl ?_ | refine e2_get rfl (by first | exact hi | decide) rfl rfl ?_)
    refine e2_iald (i := 0) (kk := 9) l rfl rfl (by decide) rfl hl2 ?_
    exact e2_iret rfl rfl ⟨rfl, rfl⟩
  · refine C2.of (ls := [some (.inr (0, 30)), some (.inl (nI l)), some (.inl (nI 7)), none]) okX8_letter rfl rfl ?_
    refine hcl _ ?_
    refine e2_step rfl rfl ?_
    refine e2_tabIn 7 dX8_letter_22 (by decide) (by decide) rfl (tgt := 151) (by decide) ?_
    repeat (first | refine e2_step rfl rfl ?_ | refine e2_get rfl (by first | exact hi | decide) rfl rfl ?_)
    refine e2_iald (i := 0) (kk := 10) l rfl rfl (by decide) rfl hl2 ?_
    exact e2_iret rfl rfl ⟨rfl, rfl⟩
  · refine C2.of (ls := [some (.inr (0, 30)), some (.inl (nI l)), some (.inl (nI 8)), none]) okX8_letter rfl rfl ?_
    refine hcl _ ?_
    refine e2_step rfl rfl ?_
    refine e2_tabIn 8 dX8_letter_22 (by decide) (by decide) rfl (tgt := 158) (by decide) ?_
    repeat (first | refine e2_step rfl rfl ?_ | refine e2_get rfl (by first | exact hi | decide) rfl rfl ?_)
    refine e2_fi (fo_same (i := 0) (w_walkOf (by decide) hN2 h.1.okV hl)) rfl rfl ⟨rfl, rfl, rfl⟩ rfl rfl rfl (by first | exact hi | decide) rfl rfl rfl ?_
    exact e2_iret rfl rfl ⟨rfl, rfl⟩
/-- what frame tells -/
def aFrame (V : VV) (N w k : Nat) : Int32 := match k with
  | 0 => V 17 w
  | 1 => V 11 w
  | 2 => freV V w
  | 3 => nI (cntB (fun l => atV V (nI 1) (nI w) l && decide (V 5 l = nI 1)) N)
  | 4 => ofwV V (nI w)
  | _ => -1
theorem L_frame (h : IV (O G0 0) N Y) {w k : Nat} (hw : w < 8) (hk : k ≤ 4) : Lk ε jX8_frame [.inl (nI w), .inl (nI k)] G0 (aFrame (O G0 0) N w k) := by
  intro G hG
  rw [← hG.oo (by decide)]
  have h := hG.IVo h
  have hN2 := h.1.nle
  refine FL.same ?_
  have hcl : ∀ Q, E2 ε jX8_frame 9 [some (.inr (0, 30)), some (.inl (nI w)), some (.inl (nI k))] [] G Q → E2 ε jX8_frame 0 [some (.inr (0, 30)), some (.inl (nI w)), some (.inl (nI k))] [] G Q := by
    intro Q kk
    repeat (first | refine e2_step rfl rfl ?_ | refine e2_get rfl (by first | exact hi | decide) rfl rfl ?_)
    refine e2_fs (c_isWalkT hw) rfl rfl ⟨rfl, rfl, rfl⟩ rfl rfl rfl ?_
    refine e2_if rfl rfl (fun _ => ?_) (fun z => absurd (by decide) z)
    exact kk
  rcases (show k = 0 ∨ k = 1 ∨ k = 2 ∨ k = 3 ∨ k = 4 by omega) with rfl | rfl | rfl | rfl | rfl
  · refine C2.of (ls := [some (.inr (0, 30)), some (.inl (nI w)), some (.inl (nI 0))]) okX8_frame rfl rfl ?_
    refine hcl _ ?_
    refine e2_step rfl rfl ?_
    refine e2_tabIn 0 dX8_frame_10 (by decide) (by decide) rfl (tgt := 44) (by decide) ?_
    repeat (first | refine e2_step rfl rfl ?_ | refine e2_get rfl (by first | exact hi | decide) rfl rfl ?_)
    refine e2_iald (i := 0) (kk := 17) w rfl rfl (by decide) rfl hw ?_
    exact e2_iret rfl rfl ⟨rfl, rfl⟩
  · refine C2.of (ls := [some (.inr (0, 30)), some (.inl (nI w)), some (.inl (nI 1))]) okX8_frame rfl rfl ?_
    refine hcl _ ?_
    refine e2_step rfl rfl ?_
    refine e2_tabIn 1 dX8_frame_10 (by decide) (by decide) rfl (tgt := 57) (by decide) ?_
    repeat (first | refine e2_step rfl rfl ?_ | refine e2_get rfl (by first | exact hi | decide) rfl rfl ?_)
    refine e2_iald (i := 0) (kk := 11) w rfl rfl (by decide) rfl hw ?_
    exact e2_iret rfl rfl ⟨rfl, rfl⟩
  · refine C2.of (ls := [some (.inr (0, 30)), some (.inl (nI w)), some (.inl (nI 2))]) okX8_frame rfl rfl ?_
    refine hcl _ ?_
    refine e2_step rfl rfl ?_
    refine e2_tabIn 2 dX8_frame_10 (by decide) (by decide) rfl (tgt := 73) (by decide) ?_
    repeat (first | refine e2_step rfl rfl ?_ | refine e2_get rfl (by first | exact hi | decide) rfl rfl ?_)
    refine e2_fi (fo_same (i := 0) (w_freeHoles (by decide) hw)) rfl rfl ⟨rfl, rfl, rfl⟩ rfl rfl rfl (by first | exact hi | decide) rfl rfl rfl ?_
    exact e2_iret rfl rfl ⟨rfl, rfl⟩
  · refine C2.of (ls := [some (.inr (0, 30)), some (.inl (nI w)), some (.inl (nI 3))]) okX8_frame rfl rfl ?_
    refine hcl _ ?_
    refine e2_step rfl rfl ?_
    refine e2_tabIn 3 dX8_frame_10 (by decide) (by decide) rfl (tgt := 85) (by decide) ?_
    repeat (first | refine e2_step rfl rfl ?_ | refine e2_get rfl (by first | exact hi | decide) rfl rfl ?_)
    refine e2_fi (fo_same (i := 0) (v_countFirstClass (by decide) hN2 h.1.cnt (nI w))) rfl rfl ⟨rfl, rfl, rfl⟩ rfl rfl rfl (by first | exact hi | decide) rfl rfl rfl ?_
    exact e2_iret rfl rfl ⟨rfl, rfl⟩
  · refine C2.of (ls := [some (.inr (0, 30)), some (.inl (nI w)), some (.inl (nI 4))]) okX8_frame rfl rfl ?_
    refine hcl _ ?_
    refine e2_step rfl rfl ?_
    refine e2_tabIn 4 dX8_frame_10 (by decide) (by decide) rfl (tgt := 100) (by decide) ?_
    repeat (first | refine e2_step rfl rfl ?_ | refine e2_get rfl (by first | exact hi | decide) rfl rfl ?_)
    refine e2_fi (fo_same (i := 0) (k_ofWalk (by decide) (nI w))) rfl rfl ⟨rfl, rfl, rfl⟩ rfl rfl rfl (by first | exact hi | decide) rfl rfl rfl ?_
    exact e2_iret rfl rfl ⟨rfl, rfl⟩
/-- what carrier tells -/
def aCarrier (V : VV) (N c k : Nat) : Int32 := match k with
  | 0 => V 13 c
  | 1 => V 14 c
  | 2 => nI (cntB (atV V (nI 3) (nI c)) N)
  | 3 => V 15 c
  | _ => -1
theorem L_carrier (h : IV (O G0 0) N Y) {c k : Nat} (hc : c < 6) (hk : k ≤ 3) : Lk ε jX8_carrier [.inl (nI c), .inl (nI k)] G0 (aCarrier (O G0 0) N c k) := by
  intro G hG
  rw [← hG.oo (by decide)]
  have h := hG.IVo h
  have hN2 := h.1.nle
  refine FL.same ?_
  have hcl : ∀ Q, E2 ε jX8_carrier 21 [some (.inr (0, 30)), some (.inl (nI c)), some (.inl (nI k)), some (.inr (0, 12))] [.inl (nI k)] G Q → E2 ε jX8_carrier 0 [some (.inr (0, 30)), some (.inl (nI c)), some (.inl (nI k)), none] [] G Q := by
    intro Q kk
    repeat (first | refine e2_step rfl rfl ?_ | refine e2_get rfl (by first | exact hi | decide) rfl rfl ?_)
    refine e2_fs (c_isCarrierT hc) rfl rfl ⟨rfl, rfl, rfl⟩ rfl rfl rfl ?_
    refine e2_if rfl rfl (fun _ => ?_) (fun z => absurd (by decide) z)
    repeat (first | refine e2_step rfl rfl ?_ | refine e2_get rfl (by first | exact hi | decide) rfl rfl ?_)
    exact kk
  rcases (show k = 0 ∨ k = 1 ∨ k = 2 ∨ k = 3 by omega) with rfl | rfl | rfl | rfl
  · refine C2.of (ls := [some (.inr (0, 30)), some (.inl (nI c)), some (.inl (nI 0)), none]) okX8_carrier rfl rfl ?_
    refine hcl _ ?_
    refine e2_tabIn 0 dX8_carrier_21 (by decide) (by decide) rfl (tgt := 52) (by decide) ?_
    repeat (first | refine e2_step rfl rfl ?_ | refine e2_get rfl (by first | exact hi | decide) rfl rfl ?_)
    refine e2_iald (i := 0) (kk := 13) c rfl rfl (by decide) rfl hc ?_
    exact e2_iret rfl rfl ⟨rfl, rfl⟩
  · refine C2.of (ls := [some (.inr (0, 30)), some (.inl (nI c)), some (.inl (nI 1)), none]) okX8_carrier rfl rfl ?_
    refine hcl _ ?_
    refine e2_tabIn 1 dX8_carrier_21 (by decide) (by decide) rfl (tgt := 59) (by decide) ?_
    repeat (first | refine e2_step rfl rfl ?_ | refine e2_get rfl (by first | exact hi | decide) rfl rfl ?_)
    refine e2_zald (i := 0) (kk := 14) c rfl rfl (by decide) rfl hc ?_
    have hz : G 0 14 c = nI 0 ∨ G 0 14 c = nI 1 := (h.1.2.1.1 c hc).1
    refine e2_if rfl rfl (fun z => ?_) (fun z => ?_)
    · repeat (first | refine e2_step rfl rfl ?_ | refine e2_get rfl (by first | exact hi | decide) rfl rfl ?_)
      refine e2_iret rfl rfl ⟨?_, rfl⟩
      exact congrArg some (show nI 0 = G 0 14 c from z.symm)
    · repeat (first | refine e2_step rfl rfl ?_ | refine e2_get rfl (by first | exact hi | decide) rfl rfl ?_)
      refine e2_iret rfl rfl ⟨?_, rfl⟩
      exact congrArg some (show nI 1 = G 0 14 c from (hz.resolve_left z).symm)
  · refine C2.of (ls := [some (.inr (0, 30)), some (.inl (nI c)), some (.inl (nI 2)), none]) okX8_carrier rfl rfl ?_
    refine hcl _ ?_
    refine e2_tabIn 2 dX8_carrier_21 (by decide) (by decide) rfl (tgt := 74) (by decide) ?_
    repeat (first | refine e2_step rfl rfl ?_ | refine e2_get rfl (by first | exact hi | decide) rfl rfl ?_)
    refine e2_fi (fo_same (i := 0) (v_countInHand (by decide) hN2 h.1.cnt (nI c))) rfl rfl ⟨rfl, rfl, rfl⟩ rfl rfl rfl (by first | exact hi | decide) rfl rfl rfl ?_
    exact e2_iret rfl rfl ⟨rfl, rfl⟩
  · refine C2.of (ls := [some (.inr (0, 30)), some (.inl (nI c)), some (.inl (nI 3)), none]) okX8_carrier rfl rfl ?_
    refine hcl _ ?_
    refine e2_tabIn 3 dX8_carrier_21 (by decide) (by decide) rfl (tgt := 89) (by decide) ?_
    repeat (first | refine e2_step rfl rfl ?_ | refine e2_get rfl (by first | exact hi | decide) rfl rfl ?_)
    refine e2_iald (i := 0) (kk := 15) c rfl rfl (by decide) rfl hc ?_
    exact e2_iret rfl rfl ⟨rfl, rfl⟩
theorem L_rounds {c w : Nat} (hc : c < 6) (hw : w < 8) : Lk ε jX8_rounds [.inl (nI c), .inl (nI w)] G0 (O G0 0 16 (c * 8 + w)) := by
  intro G hG
  rw [← hG.oo (by decide)]
  refine FL.same ?_
  refine C2.of (ls := [some (.inr (0, 30)), some (.inl (nI c)), some (.inl (nI w))]) okX8_rounds rfl rfl ?_
  repeat (first | refine e2_step rfl rfl ?_ | refine e2_get rfl (by first | exact hi | decide) rfl rfl ?_)
  refine e2_fs (c_isCarrierT hc) rfl rfl ⟨rfl, rfl, rfl⟩ rfl rfl rfl ?_
  refine e2_if rfl rfl (fun z => absurd z (by decide)) (fun _ => ?_)
  repeat (first | refine e2_step rfl rfl ?_ | refine e2_get rfl (by first | exact hi | decide) rfl rfl ?_)
  refine e2_fs (c_isWalkT hw) rfl rfl ⟨rfl, rfl, rfl⟩ rfl rfl rfl ?_
  refine e2_if rfl rfl (fun _ => ?_) (fun z => absurd (by decide) z)
  repeat (first | refine e2_step rfl rfl ?_ | refine e2_get rfl (by first | exact hi | decide) rfl rfl ?_)
  refine e2_fi (fo_same (i := 0) (k_roundsOn (by decide) hc hw)) rfl rfl ⟨rfl, rfl, rfl⟩ rfl rfl rfl (by first | exact hi | decide) rfl rfl rfl ?_
  exact e2_iret rfl rfl ⟨rfl, rfl⟩
/-- what stretch tells -/
def aStretch (f : Nat → Int32) (c k : Nat) : Int32 := match k with
  | 0 => f c
  | 1 => nI (fstC f (f c) c)
  | 2 => nI (lstC f (f c) (99 - c) c)
  | _ => -1
theorem L_stretch {c k : Nat} (hc : c < 100) (hk : k ≤ 2) : Lk ε jX8_stretch [.inl (nI c), .inl (nI k)] G0 (aStretch (O G0 0 2) c k) := by
  intro G hG
  rw [← hG.oo (by decide)]
  refine FL.same ?_
  have hcl : ∀ Q, E2 ε jX8_stretch 12 [some (.inr (0, 30)), some (.inl (nI c)), some (.inl (nI k))] [] G Q → E2 ε jX8_stretch 0 [some (.inr (0, 30)), some (.inl (nI c)), some (.inl (nI k))] [] G Q := by
    intro Q kk
    repeat (first | refine e2_step rfl rfl ?_ | refine e2_get rfl (by first | exact hi | decide) rfl rfl ?_)
    refine e2_fs (c_isIn (nI c) (nI 0) (nI 99)) rfl rfl ⟨rfl, rfl, rfl⟩ rfl rfl rfl ?_
    rw [isIn_T (by omega) (by decide)]
    refine e2_if rfl rfl (fun _ => ?_) (fun z => absurd (by decide) z)
    exact kk
  rcases (show k = 0 ∨ k = 1 ∨ k = 2 by omega) with rfl | rfl | rfl
  · refine C2.of (ls := [some (.inr (0, 30)), some (.inl (nI c)), some (.inl (nI 0))]) okX8_stretch rfl rfl ?_
    refine hcl _ ?_
    refine e2_step rfl rfl ?_
    refine e2_tabIn 0 dX8_stretch_13 (by decide) (by decide) rfl (tgt := 40) (by decide) ?_
    repeat (first | refine e2_step rfl rfl ?_ | refine e2_get rfl (by first | exact hi | decide) rfl rfl ?_)
    refine e2_fi (fo_same (i := 0) (g_walkOf (by decide) hc)) rfl rfl ⟨rfl, rfl, rfl⟩ rfl rfl rfl (by first | exact hi | decide) rfl rfl rfl ?_
    exact e2_iret rfl rfl ⟨rfl, rfl⟩
  · refine C2.of (ls := [some (.inr (0, 30)), some (.inl (nI c)), some (.inl (nI 1))]) okX8_stretch rfl rfl ?_
    refine hcl _ ?_
    refine e2_step rfl rfl ?_
    refine e2_tabIn 1 dX8_stretch_13 (by decide) (by decide) rfl (tgt := 55) (by decide) ?_
    repeat (first | refine e2_step rfl rfl ?_ | refine e2_get rfl (by first | exact hi | decide) rfl rfl ?_)
    refine e2_fi (fo_same (i := 0) (g_firstCode (by decide) hc)) rfl rfl ⟨rfl, rfl, rfl⟩ rfl rfl rfl (by first | exact hi | decide) rfl rfl rfl ?_
    exact e2_iret rfl rfl ⟨rfl, rfl⟩
  · refine C2.of (ls := [some (.inr (0, 30)), some (.inl (nI c)), some (.inl (nI 2))]) okX8_stretch rfl rfl ?_
    refine hcl _ ?_
    refine e2_step rfl rfl ?_
    refine e2_tabIn 2 dX8_stretch_13 (by decide) (by decide) rfl (tgt := 70) (by decide) ?_
    repeat (first | refine e2_step rfl rfl ?_ | refine e2_get rfl (by first | exact hi | decide) rfl rfl ?_)
    refine e2_fi (fo_same (i := 0) (g_lastCode (by decide) hc)) rfl rfl ⟨rfl, rfl, rfl⟩ rfl rfl rfl (by first | exact hi | decide) rfl rfl rfl ?_
    exact e2_iret rfl rfl ⟨rfl, rfl⟩
end LA
end
section
/-! Looks that lay the line or try: inBag, inFrame, bestCarrier, wouldOverflow, clearIn, wouldDeliver. -/
section LB
variable {ε : EE} {J J' : JT} {pc : Nat} {ls : List (Option V0)} {st : List V0} {As : List V0} {G G' G0 G1 : GG} {V V' : VV} {i N Y d l : Nat} {s : Int32} {o : Nat → Int32} {Q : Option Int32 → GG → Prop}
theorem nI_ge0 {j : Nat} (hj : j < 2 ^ 31) : ¬ nI j < 0 := nI_pos hj
theorem L_inBag (h : IV (O G0 0) N Y) {j : Nat} (hj : j < 2 ^ 31) : Lk ε jX8_inBag [.inl (nI j)] G0 (if (bagVR (O G0 0) N).length ≤ j then -9 else nI (revD (bagVR (O G0 0) N) j)) := by
  intro G hG
  rw [← hG.oo (by decide)]
  have h := hG.IVo h
  have hN2 := h.1.nle
  have hb : (bagVR (O G 0) N).length ≤ N := by rw [bag_len h.1]; exact P7_le
  unfold FL
  refine C2.of (ls := [some (.inr (0, 30)), some (.inl (nI j))]) okX8_inBag rfl rfl ?_
  repeat (first | refine e2_step rfl rfl ?_ | refine e2_get rfl (by first | exact hi | decide) rfl rfl ?_)
  refine e2_if rfl rfl (fun _ => ?_) (fun z => absurd (Int32.not_lt.1 (nI_ge0 hj)) z)
  repeat (first | refine e2_step rfl rfl ?_ | refine e2_get rfl (by first | exact hi | decide) rfl rfl ?_)
  have hL := v_listBag (ε := ε) (G := G) (i := 0) (V := O G 0) (s := G 0 40 1) (o := G 0 41) (by decide) hN2 h.1.cnt (by omega)
  refine e2_fv (fo_self hL) rfl rfl ⟨rfl, rfl, rfl⟩ rfl rfl rfl (by first | exact hi | decide) rfl rfl rfl ?_
  repeat (first | refine e2_step rfl rfl ?_ | refine e2c_get (i := 0) (by decide) rfl rfl rfl rfl ?_ | refine e2_get rfl (by decide) rfl rfl ?_)
  refine e2c_lfi (l_letterAt (n := (bagVR (O G 0) N).length) (j := j) (by omega) hj) rfl rfl ⟨rfl, rfl, rfl⟩ rfl rfl rfl rfl ?_
  refine e2_iret rfl rfl ⟨?_, lk_line⟩
  by_cases hz : (bagVR (O G 0) N).length ≤ j
  · rw [if_pos hz, if_pos hz]
  · rw [if_neg hz, if_neg hz, ordA_at (by omega)]
theorem L_inFrame (h : IV (O G0 0) N Y) {w j : Nat} (hw : w < 8) (hj : j < 2 ^ 31) : Lk ε jX8_inFrame [.inl (nI w), .inl (nI j)] G0 (if (atVR (O G0 0) N (nI 1) (nI w)).length ≤ j then -9 else nI (revD (atVR (O G0 0) N (nI 1) (nI w)) j)) := by
  intro G hG
  rw [← hG.oo (by decide)]
  have h := hG.IVo h
  have hN2 := h.1.nle
  have hl : (atVR (O G 0) N (nI 1) (nI w)).length ≤ N := atVR_len
  unfold FL
  refine C2.of (ls := [some (.inr (0, 30)), some (.inl (nI w)), some (.inl (nI j))]) okX8_inFrame rfl rfl ?_
  repeat (first | refine e2_step rfl rfl ?_ | refine e2_get rfl (by first | exact hi | decide) rfl rfl ?_)
  refine e2_fs (c_isWalkT hw) rfl rfl ⟨rfl, rfl, rfl⟩ rfl rfl rfl ?_
  refine e2_if rfl rfl (fun z => absurd z (by decide)) (fun _ => ?_)
  repeat (first | refine e2_step rfl rfl ?_ | refine e2_get rfl (by first | exact hi | decide) rfl rfl ?_)
  refine e2_if rfl rfl (fun _ => ?_) (fun z => absurd (Int32.not_lt.1 (nI_ge0 hj)) z)
  repeat (first | refine e2_step rfl rfl ?_ | refine e2_get rfl (by first | exact hi | decide) rfl rfl ?_)
  have hL := v_listByCode (ε := ε) (G := G) (i := 0) (V := O G 0) (s := G 0 40 1) (o := G 0 41) (by decide) hN2 h.1.cnt (nI 1) (nI w)
  change FC ε jX2_listByCode [.inr (0, 3), .inl (nI 1), .inl (nI w), .inr (0, 40)] G 0 (O G 0) (G 0 40 1) (G 0 41) none (O G 0) (nI (atVR (O G 0) N (nI 1) (nI w)).length) (ordA (atVR (O G 0) N (nI 1) (nI w)) (G 0 41)) at hL
  refine e2_fv (fo_self hL) rfl rfl ⟨rfl, rfl, rfl⟩ rfl rfl rfl (by first | exact hi | decide) rfl rfl rfl ?_
  repeat (first | refine e2_step rfl rfl ?_ | refine e2c_get (i := 0) (by decide) rfl rfl rfl rfl ?_ | refine e2_get rfl (by decide) rfl rfl ?_)
  refine e2c_lfi (l_letterAt (n := (atVR (O G 0) N (nI 1) (nI w)).length) (j := j) (by omega) hj) rfl rfl ⟨rfl, rfl, rfl⟩ rfl rfl rfl rfl ?_
  refine e2_iret rfl rfl ⟨?_, lk_line⟩
  by_cases hz : (atVR (O G 0) N (nI 1) (nI w)).length ≤ j
  · rw [if_pos hz, if_pos hz]
  · rw [if_neg hz, if_neg hz, ordA_at (by omega)]
theorem L_best {w : Nat} (hw : w < 8) : Lk ε jX8_bestCarrier [.inl (nI w)] G0 (oI (bwwV (O G0 0) w 6)) := by
  intro G hG
  rw [← hG.oo (by decide)]
  refine FL.same ?_
  refine C2.of (ls := [some (.inr (0, 30)), some (.inl (nI w))]) okX8_bestCarrier rfl rfl ?_
  repeat (first | refine e2_step rfl rfl ?_ | refine e2_get rfl (by first | exact hi | decide) rfl rfl ?_)
  refine e2_fs (c_isWalkT hw) rfl rfl ⟨rfl, rfl, rfl⟩ rfl rfl rfl ?_
  refine e2_if rfl rfl (fun _ => ?_) (fun z => absurd (by decide) z)
  repeat (first | refine e2_step rfl rfl ?_ | refine e2_get rfl (by first | exact hi | decide) rfl rfl ?_)
  refine e2_fi (fo_same (i := 0) (k_bww (by decide) hw)) rfl rfl ⟨rfl, rfl, rfl⟩ rfl rfl rfl (by first | exact hi | decide) rfl rfl rfl ?_
  exact e2_iret rfl rfl ⟨rfl, rfl⟩
theorem bagH_le (h : IV V N Y) : (bagH V N).length ≤ N := by
  have h1 := hr1_ok h
  obtain ⟨o1, -⟩ := ov_all h1.1 N (Nat.le_refl _)
  unfold bagH
  rw [bag_len o1]
  exact P7_le
theorem IV.pass (h : IV V N Y) (hi : i < 19) : FC ε jX5_passHour [.inr (i, 0), .inr (0, 40)] G i V s o (some (nI (hrsn V N))) (hrsV V N) (nI (bagH V N).length) (ordA (bagH V N) o) := by
  obtain ⟨sp, sp1, sp2, sp3⟩ := h.1.1.2.2.2.2.2.2.1
  exact w_passHour (sp := sp) hi h.1.nle h.1.cnt h.1.okV sp3 (by omega) (bagH_le h) (hour_all h).2.2.1
theorem cpE_cG : cpE G 18 0 = cG G 18 (O G 0) (G 0 40 1) (G 0 41) := by
  have h := cG_self G 18
  funext a b
  by_cases h1 : a = 18 ∧ b < 18
  · unfold cpE cG
    rw [if_pos h1, if_pos h1, O_at h1.2]
  · have e : cG G 18 (O G 0) (G 0 40 1) (G 0 41) a b = cG G 18 (G 18) (G 0 40 1) (G 0 41) a b := by
      unfold cG
      rw [if_neg h1, if_neg h1]
    rw [e, h]
    unfold cpE
    rw [if_neg h1]
theorem IV.okG (h : IV (O G 0) N Y) : ∀ t, t < 6 → G 0 14 t = 0 ∨ G 0 14 t = 1 := fun t ht => h.okZ t ht
theorem L_wouldOverflow (h : IV (O G0 0) N Y) {u : Nat} (hu : u ≤ 2) (h5 : O G0 0 0 5 = nI u) : Lk ε jX8_wouldOverflow [.inl (nI u)] G0 (nI (P7 (hrsV (O G0 0) N) 2 N)) := by
  intro G hG
  rw [← hG.oo (by decide)] at h5 ⊢
  have h := hG.IVo h
  have hi : (18 : Nat) < 19 := by decide
  unfold FL
  refine C2.of (ls := [some (.inr (0, 30)), some (.inl (nI u))]) okX8_wouldOverflow rfl rfl ?_
  repeat (first | refine e2_step rfl rfl ?_ | refine e2_get rfl (by first | exact hi | decide) rfl rfl ?_)
  refine e2_fs (c_isIn (nI u) (nI 0) (nI 2)) rfl rfl ⟨rfl, rfl, rfl⟩ rfl rfl rfl ?_
  rw [isIn_T (by omega) (by decide)]
  refine e2_if rfl rfl (fun _ => ?_) (fun z => absurd (by decide) z)
  repeat (first | refine e2_step rfl rfl ?_ | refine e2_get rfl (by first | exact hi | decide) rfl rfl ?_)
  refine e2_fv (Q_officeE (i := 18) (i2 := 0) (by decide) (by decide) (by decide) h.okG) rfl rfl ⟨rfl, rfl, rfl⟩ rfl rfl rfl (by first | exact hi | decide) rfl rfl rfl ?_
  rw [cpE_cG]
  repeat (first | refine e2_step rfl rfl ?_ | refine e2c_get (i := 18) (by decide) rfl rfl rfl rfl ?_ | refine e2_get rfl (by decide) rfl rfl ?_)
  refine e2c_put (i := 18) hi rfl rfl rfl rfl rfl rfl rfl ?_
  have e : wv (O G 0) 0 5 (nI u) = O G 0 := by
    funext kk j
    unfold wv sv
    by_cases hk : kk = 0
    · subst hk
      rw [if_pos rfl]
      unfold upd
      by_cases hj : j = 5
      · rw [if_pos hj, hj, h5]
      · rw [if_neg hj]
    · rw [if_neg hk]
  rw [e]
  repeat (first | refine e2_step rfl rfl ?_ | refine e2c_get (i := 18) (by decide) rfl rfl rfl rfl ?_ | refine e2_get rfl (by decide) rfl rfl ?_)
  refine e2c_fi (h.pass hi) rfl rfl ⟨rfl, rfl, rfl⟩ rfl rfl rfl hi rfl rfl rfl rfl ?_
  repeat (first | refine e2_step rfl rfl ?_ | refine e2c_get (i := 18) (by decide) rfl rfl rfl rfl ?_ | refine e2_get rfl (by decide) rfl rfl ?_)
  refine e2c_fi (v_countIn hi (hour_all h).1.1.nle (hour_all h).1.1.cnt (nI 2)) rfl rfl ⟨rfl, rfl, rfl⟩ rfl rfl rfl hi rfl rfl rfl rfl ?_
  exact e2_iret rfl rfl ⟨rfl, lk_trial⟩
/-- in how many hours bag and overflow are empty, in at most k steps more -/
def clrF (N : Nat) : Nat → VV → Nat → Int32
  | 0, _, _ => -9
  | k + 1, V, m => if wtn V N = 0 then nI m else if hrsn V N = 0 then -9 else clrF N k (hrsV V N) (m + 1)
theorem l_clear (hi : 18 < 19) : ∀ (k m : Nat) (W : VV) (Y : Nat) (s : Int32) (o : Nat → Int32), m + k = 61 → IV W N Y → E2 ε jX8_clearIn 16 [some (.inr (0, 30)), some (.inl (nI m))] [] (cG G 18 W s o) (fun v G' => v = some (clrF N k W m) ∧ lk1 G G')
  | 0, m, W, Y, s, o, hm, h => by
    have : m = 61 := by omega
    subst this
    repeat (first | refine e2_step rfl rfl ?_ | refine e2c_get (i := 18) (by decide) rfl rfl rfl rfl ?_ | refine e2_get rfl (by decide) rfl rfl ?_)
    refine e2_if rfl rfl (fun _ => ?_) (fun z => absurd (show (60 : Int32) < nI 61 by decide) z)
    repeat (first | refine e2_step rfl rfl ?_ | refine e2c_get (i := 18) (by decide) rfl rfl rfl rfl ?_ | refine e2_get rfl (by decide) rfl rfl ?_)
    exact e2_iret rfl rfl ⟨rfl, lk_trial⟩
  | k + 1, m, W, Y, s, o, hm, h => by
    have hle := hour_all h
    repeat (first | refine e2_step rfl rfl ?_ | refine e2c_get (i := 18) (by decide) rfl rfl rfl rfl ?_ | refine e2_get rfl (by decide) rfl rfl ?_)
    refine e2_if rfl rfl (fun z => absurd ((nI_ltI (show 60 < 2 ^ 31 by decide) (show m < 2 ^ 31 by omega)).1 z) (by omega)) (fun _ => ?_)
    repeat (first | refine e2_step rfl rfl ?_ | refine e2c_get (i := 18) (by decide) rfl rfl rfl rfl ?_ | refine e2_get rfl (by decide) rfl rfl ?_)
    refine e2c_fi (w_isCleared hi h.1.nle h.1.cnt) rfl rfl ⟨rfl, rfl, rfl⟩ rfl rfl rfl hi rfl rfl rfl rfl ?_
    have ec : clrF N (k + 1) W m = if wtn W N = 0 then nI m else if hrsn W N = 0 then -9 else clrF N k (hrsV W N) (m + 1) := rfl
    rw [ec]
    have hw : wtn W N = cntB (fun l => decide (W 7 l = nI 0)) N + cntB (fun l => decide (W 7 l = nI 2)) N := rfl
    refine e2_if rfl rfl (fun z => ?_) (fun z => ?_)
    · rw [bI_0] at z
      have hn : ¬ wtn W N = 0 := fun q => by
        rw [decide_eq_true (p := cntB (fun l => decide (W 7 l = nI 0)) N = 0) (by omega), decide_eq_true (p := cntB (fun l => decide (W 7 l = nI 2)) N = 0) (by omega)] at z
        cases z
      rw [if_neg hn]
      repeat (first | refine e2_step rfl rfl ?_ | refine e2c_get (i := 18) (by decide) rfl rfl rfl rfl ?_ | refine e2_get rfl (by decide) rfl rfl ?_)
      refine e2c_fi (h.pass hi) rfl rfl ⟨rfl, rfl, rfl⟩ rfl rfl rfl hi rfl rfl rfl rfl ?_
      have hr : hrsn W N < 2 ^ 31 := by
        have h1 := srtsn_le (V := ovV (hr1V W) N) (N := N) (R := bagH W N) (min (bagH W N).length (W 0 6).toNatClampNeg)
        have h2 := bagH_le h
        have h3 := h.1.nle
        have h4 : hrsn W N ≤ min (bagH W N).length (W 0 6).toNatClampNeg := h1
        omega
      refine e2_if rfl rfl (fun y => ?_) (fun y => ?_)
      · have y2 : ¬ hrsn W N = 0 := fun q => y (by rw [q]; rfl)
        rw [if_neg y2]
        repeat (first | refine e2_stepS 16 rfl rfl rfl ?_)
        rw [nI_add']
        exact l_clear hi k (m + 1) (hrsV W N) (Y + 1) _ _ (by omega) hle.1
      · have y2 : hrsn W N = 0 := (nI_eq hr (by decide)).1 (Classical.not_not.1 y)
        rw [if_pos y2]
        repeat (first | refine e2_step rfl rfl ?_ | refine e2c_get (i := 18) (by decide) rfl rfl rfl rfl ?_ | refine e2_get rfl (by decide) rfl rfl ?_)
        exact e2_iret rfl rfl ⟨rfl, lk_trial⟩
    · rw [bI_0, Bool.not_eq_false, Bool.and_eq_true, decide_eq_true_eq, decide_eq_true_eq] at z
      rw [if_pos (by omega)]
      repeat (first | refine e2_step rfl rfl ?_ | refine e2c_get (i := 18) (by decide) rfl rfl rfl rfl ?_ | refine e2_get rfl (by decide) rfl rfl ?_)
      exact e2_iret rfl rfl ⟨rfl, lk_trial⟩
theorem L_clearIn (h : IV (O G0 0) N Y) : Lk ε jX8_clearIn [] G0 (clrF N 61 (O G0 0) 0) := by
  intro G hG
  rw [← hG.oo (by decide)]
  have h := hG.IVo h
  have hi : (18 : Nat) < 19 := by decide
  unfold FL
  refine C2.of (ls := [some (.inr (0, 30)), none]) okX8_clearIn rfl rfl ?_
  repeat (first | refine e2_step rfl rfl ?_ | refine e2_get rfl (by first | exact hi | decide) rfl rfl ?_)
  refine e2_fv (Q_officeE (i := 18) (i2 := 0) (by decide) (by decide) (by decide) h.okG) rfl rfl ⟨rfl, rfl, rfl⟩ rfl rfl rfl (by first | exact hi | decide) rfl rfl rfl ?_
  rw [cpE_cG]
  repeat (first | refine e2_stepS 16 rfl rfl rfl ?_)
  exact l_clear hi 61 0 (O G 0) Y _ _ rfl h
theorem IV.back (h : IV V N Y) (hi : i < 19) {c w : Nat} (hc : c < 6) (hw : w < 8) (h13 : V 13 c = nI w) : FC ε jX5_bringBack [.inr (i, 0), .inl (nI c), .inr (0, 40)] G i V s o (some (nI (brgn V N c w))) (brgV V N c w) (nI (atVR V N (nI 3) (nI c)).length) (ordA (atVR V N (nI 3) (nI c)) o) := w_bringBack hi h.1.nle h.1.cnt h.1.okV hc hw h13
theorem IV.send (h : IV V N Y) (hi : i < 19) {c : Nat} (hc : c < 6) : FC ε jX5_sendOut [.inr (i, 0), .inl (nI c), .inr (0, 40)] G i V s o (some (nI (sndn V N c))) (sndV V N c) (nI (atVR V N (nI 1) (V 13 c)).length) (ordA (atVR V N (nI 1) (V 13 c)) o) := by
  obtain ⟨u, u1, u2, u3⟩ := h.1.1.2.2.2.2.2.2.2
  exact w_sendOut (ld := u) hi h.1.nle h.1.cnt h.1.okV hc u3 (by omega)
theorem L_wouldOut (h : IV (O G0 0) N Y) {c w : Nat} (hc : c < 6) (hw : w < 8) (h13 : O G0 0 13 c = nI w) (h14 : O G0 0 14 c = nI 1) : Lk ε jX8_wouldDeliver [.inl (nI c)] G0 (nI (brgn (O G0 0) N c w)) := by
  intro G hG
  rw [← hG.oo (by decide)] at h13 h14 ⊢
  have h := hG.IVo h
  have hi : (18 : Nat) < 19 := by decide
  unfold FL
  refine C2.of (ls := [some (.inr (0, 30)), some (.inl (nI c)), none]) okX8_wouldDeliver rfl rfl ?_
  repeat (first | refine e2_step rfl rfl ?_ | refine e2_get rfl (by first | exact hi | decide) rfl rfl ?_)
  refine e2_fs (c_isCarrierT hc) rfl rfl ⟨rfl, rfl, rfl⟩ rfl rfl rfl ?_
  refine e2_if rfl rfl (fun _ => ?_) (fun z => absurd (by decide) z)
  repeat (first | refine e2_step rfl rfl ?_ | refine e2_get rfl (by first | exact hi | decide) rfl rfl ?_)
  refine e2_zald (i := 0) (kk := 14) c rfl rfl (by decide) rfl hc ?_
  rw [show G 0 14 c = nI 1 from h14]
  repeat (first | refine e2_step rfl rfl ?_ | refine e2_get rfl (by first | exact hi | decide) rfl rfl ?_)
  refine e2_if rfl rfl (fun _ => ?_) (fun z => absurd (by decide) z)
  repeat (first | refine e2_step rfl rfl ?_ | refine e2_get rfl (by first | exact hi | decide) rfl rfl ?_)
  refine e2_fv (Q_officeE (i := 18) (i2 := 0) (by decide) (by decide) (by decide) h.okG) rfl rfl ⟨rfl, rfl, rfl⟩ rfl rfl rfl (by first | exact hi | decide) rfl rfl rfl ?_
  rw [cpE_cG]
  repeat (first | refine e2_step rfl rfl ?_ | refine e2c_get (i := 18) (by decide) rfl rfl rfl rfl ?_ | refine e2_get rfl (by decide) rfl rfl ?_)
  refine e2_if rfl rfl (fun _ => ?_) (fun z => absurd (by decide) z)
  repeat (first | refine e2_step rfl rfl ?_ | refine e2c_get (i := 18) (by decide) rfl rfl rfl rfl ?_ | refine e2_get rfl (by decide) rfl rfl ?_)
  refine e2c_fi (h.back hi hc hw h13) rfl rfl ⟨rfl, rfl, rfl⟩ rfl rfl rfl hi rfl rfl rfl rfl ?_
  exact e2_iret rfl rfl ⟨rfl, lk_trial⟩
theorem L_wouldIn (h : IV (O G0 0) N Y) {c w : Nat} (hc : c < 6) (hw : w < 8) (h13 : O G0 0 13 c = nI w) (h14 : O G0 0 14 c = nI 0) (hg : cgB (O G0 0) c = true) : Lk ε jX8_wouldDeliver [.inl (nI c)] G0 (nI (brgn (sndV (O G0 0) N c) N c w)) := by
  intro G hG
  rw [← hG.oo (by decide)] at h13 h14 hg ⊢
  have h := hG.IVo h
  have hi : (18 : Nat) < 19 := by decide
  have hs := snd_all h hc h14 hw h13
  have h13b : sndV (O G 0) N c 13 c = nI w := by rw [snd_o (by decide) (by decide) (by decide) (by decide)]; exact h13
  unfold FL
  refine C2.of (ls := [some (.inr (0, 30)), some (.inl (nI c)), none]) okX8_wouldDeliver rfl rfl ?_
  repeat (first | refine e2_step rfl rfl ?_ | refine e2_get rfl (by first | exact hi | decide) rfl rfl ?_)
  refine e2_fs (c_isCarrierT hc) rfl rfl ⟨rfl, rfl, rfl⟩ rfl rfl rfl ?_
  refine e2_if rfl rfl (fun _ => ?_) (fun z => absurd (by decide) z)
  repeat (first | refine e2_step rfl rfl ?_ | refine e2_get rfl (by first | exact hi | decide) rfl rfl ?_)
  refine e2_zald (i := 0) (kk := 14) c rfl rfl (by decide) rfl hc ?_
  rw [show G 0 14 c = nI 0 from h14]
  repeat (first | refine e2_step rfl rfl ?_ | refine e2_get rfl (by first | exact hi | decide) rfl rfl ?_)
  refine e2_if rfl rfl (fun z => absurd rfl z) (fun _ => ?_)
  repeat (first | refine e2_step rfl rfl ?_ | refine e2_get rfl (by first | exact hi | decide) rfl rfl ?_)
  refine e2_fi (fo_same (i := 0) (w_canGoOut (by decide) hc (Or.inr ⟨w, hw, h13⟩))) rfl rfl ⟨rfl, rfl, rfl⟩ rfl rfl rfl (by first | exact hi | decide) rfl rfl rfl ?_
  rw [hg]
  refine e2_if rfl rfl (fun _ => ?_) (fun z => absurd (by decide) z)
  repeat (first | refine e2_step rfl rfl ?_ | refine e2_get rfl (by first | exact hi | decide) rfl rfl ?_)
  refine e2_fv (Q_officeE (i := 18) (i2 := 0) (by decide) (by decide) (by decide) h.okG) rfl rfl ⟨rfl, rfl, rfl⟩ rfl rfl rfl (by first | exact hi | decide) rfl rfl rfl ?_
  rw [cpE_cG]
  repeat (first | refine e2_step rfl rfl ?_ | refine e2c_get (i := 18) (by decide) rfl rfl rfl rfl ?_ | refine e2_get rfl (by decide) rfl rfl ?_)
  refine e2_if rfl rfl (fun z => absurd rfl z) (fun _ => ?_)
  repeat (first | refine e2_step rfl rfl ?_ | refine e2c_get (i := 18) (by decide) rfl rfl rfl rfl ?_ | refine e2_get rfl (by decide) rfl rfl ?_)
  refine e2c_fi (h.send hi hc) rfl rfl ⟨rfl, rfl, rfl⟩ rfl rfl rfl hi rfl rfl rfl rfl ?_
  repeat (first | refine e2_step rfl rfl ?_ | refine e2c_get (i := 18) (by decide) rfl rfl rfl rfl ?_ | refine e2_get rfl (by decide) rfl rfl ?_)
  refine e2c_fi (hs.1.back hi hc hw h13b) rfl rfl ⟨rfl, rfl, rfl⟩ rfl rfl rfl hi rfl rfl rfl rfl ?_
  exact e2_iret rfl rfl ⟨rfl, lk_trial⟩
theorem L_wouldNo (h : IV (O G0 0) N Y) {c : Nat} (hc : c < 6) (h14 : O G0 0 14 c = nI 0) (hg : cgB (O G0 0) c = false) : Lk ε jX8_wouldDeliver [.inl (nI c)] G0 (-2) := by
  intro G hG
  rw [← hG.oo (by decide)] at h14 hg
  have h := hG.IVo h
  refine FL.same ?_
  refine C2.of (ls := [some (.inr (0, 30)), some (.inl (nI c)), none]) okX8_wouldDeliver rfl rfl ?_
  repeat (first | refine e2_step rfl rfl ?_ | refine e2_get rfl (by first | exact hi | decide) rfl rfl ?_)
  refine e2_fs (c_isCarrierT hc) rfl rfl ⟨rfl, rfl, rfl⟩ rfl rfl rfl ?_
  refine e2_if rfl rfl (fun _ => ?_) (fun z => absurd (by decide) z)
  repeat (first | refine e2_step rfl rfl ?_ | refine e2_get rfl (by first | exact hi | decide) rfl rfl ?_)
  refine e2_zald (i := 0) (kk := 14) c rfl rfl (by decide) rfl hc ?_
  rw [show G 0 14 c = nI 0 from h14]
  repeat (first | refine e2_step rfl rfl ?_ | refine e2_get rfl (by first | exact hi | decide) rfl rfl ?_)
  refine e2_if rfl rfl (fun z => absurd rfl z) (fun _ => ?_)
  repeat (first | refine e2_step rfl rfl ?_ | refine e2_get rfl (by first | exact hi | decide) rfl rfl ?_)
  refine e2_fi (fo_same (i := 0) (w_canGoOut (by decide) hc (h.1.2.1.1 c hc).2.1)) rfl rfl ⟨rfl, rfl, rfl⟩ rfl rfl rfl (by first | exact hi | decide) rfl rfl rfl ?_
  rw [hg]
  refine e2_if rfl rfl (fun z => absurd rfl z) (fun _ => ?_)
  repeat (first | refine e2_step rfl rfl ?_ | refine e2_get rfl (by first | exact hi | decide) rfl rfl ?_)
  exact e2_iret rfl rfl ⟨rfl, rfl⟩
end LB
end
section
/-! Operations: what they answer, what the present office is behind them, what undo would bring back. Hour, post. -/
section OA
variable {ε : EE} {J J' : JT} {pc : Nat} {ls : List (Option V0)} {st : List V0} {As : List V0} {G G' G0 G1 : GG} {V V' : VV} {i N Y d l : Nat} {s a : Int32} {o : Nat → Int32} {Q : Option Int32 → GG → Prop}
/-- one state recorded: G0; the present office is V' -/
def Dn (G0 G' : GG) (V' : VV) : Prop := SG G' ∧ O G' 0 = V' ∧ ∃ d, Top G0 G' d ∧ (G0 0 31 1 = nI d ∨ (G0 0 31 1 = nI 5 ∧ d = 4))
theorem q_rem (h : SG G) : C2 ε jX1_remember [.inr (0, 31), .inr (0, 20)] G (fun v G1 => v = none ∧ Rm G G1) := by
  obtain ⟨d, hm, hh⟩ := h.2.2.1
  exact q_rem0 hh h.okM
theorem Rm.oo (h : Rm G G1) {j : Nat} (hj : j < 3) : O G1 j = O G j := O_eq (fun kk hk => h.2 j kk (by omega) (by omega) (by omega) (by omega))
theorem HS.same {hm : Nat → Nat} (h : HS G d hm) (h31 : G' 0 31 = G 0 31) (h32 : G' 0 32 = G 0 32) : HS G' d hm := by
  obtain ⟨a, b, e, f⟩ := h
  exact ⟨a, by rw [h31]; exact b, fun p hp => by rw [h32]; exact e p hp, f⟩
theorem Rm.dn (h : Rm G G1) (k : SG G) (ho : ∀ i kk, 3 ≤ i → i < 18 → kk < 18 → G' i kk = G1 i kk) (h22 : ∀ m, 1 ≤ m → m < 6 → G' m 22 = G1 m 22) (h31 : G' 0 31 = G1 0 31) (h32 : G' 0 32 = G1 0 32) (h33 : G' 0 33 = G1 0 33) (hV : O G' 0 = V') (hI : ∃ N, IV V' N 500) (hs : ∀ t, t < 2 → (G' 0 22 t = 0 ∨ G' 0 22 t = 1) ∧ (G' 0 22 t = 1 → ∃ N, IV (O G' (1 + t)) N 500)) : Dn G G' V' := by
  obtain ⟨⟨d, ⟨hm, hd, hH, s1, s2⟩, hx⟩, hr⟩ := h
  obtain ⟨m1, m6, -⟩ := hH.2.2.1 d hd
  refine ⟨⟨by rw [hV]; exact hI, hs, ⟨d + 1, hm, hH.same h31 h32⟩, ?_⟩, hV, d, ⟨hm, hd, hH.same h31 h32, fun kk hk => ?_, fun t ht => ⟨?_, fun z kk hk => ?_⟩⟩, hx⟩
  · rw [h33, hr 0 33 (by omega) (by omega) (by omega) (by omega)]
    exact k.2.2.2
  · rw [ho _ kk (by omega) (by omega) hk]
    exact s1 kk hk
  · rw [h22 _ m1 m6]
    exact (s2 t ht).1
  · rw [ho _ kk (by omega) (by omega) hk]
    exact (s2 t ht).2 z kk hk
theorem Rm.off (h : Rm G G1) (k : SG G) (hc : Can V') (hI : ∃ N, IV V' N 500) : Dn G (cG G1 0 V' s o) V' := by
  refine h.dn k (fun i kk a b c => cG_o (Or.inl (by omega)) (by omega) (by omega)) (fun m a b => cG_o (Or.inr (by omega)) (by omega) (by omega)) (cG_o (Or.inr (by omega)) (by omega) (by omega)) (cG_o (Or.inr (by omega)) (by omega) (by omega)) (cG_o (Or.inr (by omega)) (by omega) (by omega)) (O_cG hc) hI (fun t ht => ?_)
  rw [cG_o (Or.inr (by omega)) (by omega) (by omega), O_cGo (by omega), h.2 0 22 (by omega) (by omega) (by omega) (by omega), h.oo (by omega)]
  exact k.2.1 t ht
theorem Shows.back {m : Nat} (hG : lk1 G0 G) (h : Shows G G' m) : Shows G0 G' m := by
  obtain ⟨a, b⟩ := h
  have e22 : G 0 22 = G0 0 22 := hG 0 22 (by omega) (by omega) (by omega)
  rw [e22] at b
  refine ⟨fun kk hk => by rw [a kk hk]; exact hG 0 kk (by omega) (by omega) (by omega), fun t ht => ⟨(b t ht).1, fun z kk hk => ?_⟩⟩
  rw [(b t ht).2 z kk hk]
  exact hG (1 + t) kk (by omega) (by omega) (by omega)
theorem Dn.back (hG : lk1 G0 G) (h : Dn G G' V') : Dn G0 G' V' := by
  obtain ⟨a, b, d, ⟨hm, c1, c2, c3⟩, e⟩ := h
  rw [hG 0 31 (by omega) (by omega) (by omega)] at e
  exact ⟨a, b, d, ⟨hm, c1, c2, c3.back hG⟩, e⟩
/-- an operation that records -/
def Op (ε : EE) (J : JT) (As : List V0) (G0 : GG) (a : Int32) (V' : VV) : Prop := ∀ G, lk1 G0 G → C2 ε J (.inr (0, 30) :: As) G (fun v G' => v = some a ∧ Dn G0 G' V')
theorem Op.of (h : ∀ G, lk1 G0 G → C2 ε J (.inr (0, 30) :: As) G (fun v G' => v = some a ∧ Dn G G' V')) : Op ε J As G0 a V' := fun G hG => C2.post (fun v G' z => ⟨z.1, z.2.back hG⟩) (h G hG)
theorem IV.mono {Y' : Nat} (h : IV V N Y) (hy : Y ≤ Y') : IV V N Y' := by
  obtain ⟨⟨⟨a1, a2, a3, a4, ⟨y, y1, y2⟩, a6, a7, a8⟩, b, c, e⟩, f, g⟩ := h
  refine ⟨⟨⟨a1, a2, a3, a4, ⟨y, by omega, y2⟩, a6, a7, a8⟩, b, c, fun l hl => ?_⟩, f, g⟩
  obtain ⟨e1, e2, e3, x, y', xy, yY, x9, y4⟩ := e l hl
  exact ⟨e1, e2, e3, x, y', xy, by omega, x9, y4⟩
theorem IV.tight {y : Nat} (h : IV V N Y) (hY : Y < 2 ^ 30) (hy : V 0 4 = nI y) (hy2 : y < 2 ^ 30) : IV V N y := by
  obtain ⟨⟨⟨a1, a2, a3, a4, ⟨y', y1, y2⟩, a6, a7, a8⟩, b, c, e⟩, f, g⟩ := h
  refine ⟨⟨⟨a1, a2, a3, a4, ⟨y, Nat.le_refl _, hy⟩, a6, a7, a8⟩, b, c, fun l hl => ?_⟩, f, g⟩
  obtain ⟨e1, e2, e3, x, y', xy, yY, x9, y4⟩ := e l hl
  have : y' = y := (nI_eq (by omega) (by omega)).1 (y4.symm.trans hy)
  exact ⟨e1, e2, e3, x, y', xy, by omega, x9, y4⟩
theorem hrs_can (h : IV V N Y) (hc : Can V) : Can (hrsV V N) := hc.of (fun kk hk => (hour_all h).2.2.2.2.1 kk (by omega) (by omega) (by omega) (by omega))
theorem D_hour (h : SG G0) (hN : IV (O G0 0) N 500) {y : Nat} (hy : O G0 0 0 4 = nI y) (hlt : y < 500) : Op ε jX8_hour [] G0 (nI (P7 (hrsV (O G0 0) N) 2 N)) (hrsV (O G0 0) N) := by
  refine Op.of (fun G hG => ?_)
  rw [← hG.oo (by decide)] at hy ⊢
  have hN := hG.IVo hN
  have h := hG.sg h
  have hi : (0 : Nat) < 19 := by decide
  have hT := hN.tight (by decide) hy (by omega)
  have hall := hour_all hT
  refine C2.of (ls := [some (.inr (0, 30))]) okX8_hour rfl rfl ?_
  repeat (first | refine e2_step rfl rfl ?_ | refine e2_get rfl (by first | exact hi | decide) rfl rfl ?_)
  rw [show G 0 0 4 = nI y from hy]
  refine e2_if rfl rfl (fun _ => ?_) (fun z => absurd ((nI_ltI (by omega) (by omega)).2 hlt) z)
  repeat (first | refine e2_step rfl rfl ?_ | refine e2_get rfl (by first | exact hi | decide) rfl rfl ?_)
  refine e2_callVv rfl ⟨rfl, rfl, rfl⟩ rfl rfl rfl rfl (by decide) rfl rfl rfl (q_rem h) (fun G1 z => ?_)
  obtain ⟨-, hQ⟩ := z
  have e0 := hQ.oo (j := 0) (by omega)
  have hp := hN.pass (ε := ε) (G := G1) (s := G1 0 40 1) (o := G1 0 41) hi
  have hv := v_countIn (ε := ε) (G := G1) (s := nI (bagH (O G 0) N).length) (o := ordA (bagH (O G 0) N) (G1 0 41)) hi hall.1.1.nle hall.1.1.cnt (nI 2)
  rw [← e0] at hp hv ⊢
  repeat (first | refine e2_step rfl rfl ?_ | refine e2_get rfl (by first | exact hi | decide) rfl rfl ?_)
  refine e2_fi (fo_self hp) rfl rfl ⟨rfl, rfl, rfl⟩ rfl rfl rfl (by first | exact hi | decide) rfl rfl rfl ?_
  repeat (first | refine e2_step rfl rfl ?_ | refine e2c_get (i := 0) (by decide) rfl rfl rfl rfl ?_ | refine e2_get rfl (by decide) rfl rfl ?_)
  refine e2c_fi (hv) rfl rfl ⟨rfl, rfl, rfl⟩ rfl rfl rfl hi rfl rfl rfl rfl ?_
  rw [e0] at hp hv ⊢
  exact e2_iret rfl rfl ⟨rfl, hQ.off h (hrs_can hT O_can) ⟨N, hall.1.mono (by omega)⟩⟩
theorem L_hourFull (hN : IV (O G0 0) N 500) (hy : O G0 0 0 4 = nI 500) : Lk ε jX8_hour [] G0 (-3) := by
  intro G hG
  rw [← hG.oo (by decide)] at hy
  refine FL.same ?_
  refine C2.of (ls := [some (.inr (0, 30))]) okX8_hour rfl rfl ?_
  repeat (first | refine e2_step rfl rfl ?_ | refine e2_get rfl (by first | exact hi | decide) rfl rfl ?_)
  rw [show G 0 0 4 = nI 500 from hy]
  refine e2_if rfl rfl (fun z => absurd z (by decide)) (fun _ => ?_)
  repeat (first | refine e2_step rfl rfl ?_ | refine e2_get rfl (by first | exact hi | decide) rfl rfl ?_)
  exact e2_iret rfl rfl ⟨rfl, rfl⟩
-- post
theorem IV.add (h : IV V N Y) (hN : N < 120) {c f : Nat} (hc : c < 100) (hf : f < 2) : IV (addV V N (nI c) (nI f) (V 0 4)) (N + 1) Y := by
  obtain ⟨⟨⟨a1, a2, a3, a4, ⟨y, y1, y2⟩, a6, a7, a8⟩, b, fr, e⟩, hh, hd⟩ := h
  have w4 : addV V N (nI c) (nI f) (V 0 4) 4 = upd (V 4) N (nI c) := rfl
  have w5 : addV V N (nI c) (nI f) (V 0 4) 5 = upd (V 5) N (nI f) := rfl
  have w6 : addV V N (nI c) (nI f) (V 0 4) 6 = upd (V 6) N (nI 0) := rfl
  have w7 : addV V N (nI c) (nI f) (V 0 4) 7 = upd (V 7) N (nI 0) := rfl
  have w8 : addV V N (nI c) (nI f) (V 0 4) 8 = upd (V 8) N (-9) := rfl
  have w9 : addV V N (nI c) (nI f) (V 0 4) 9 = upd (V 9) N (V 0 4) := rfl
  have w10 : addV V N (nI c) (nI f) (V 0 4) 10 = upd (V 10) N (-9) := rfl
  have w3 : addV V N (nI c) (nI f) (V 0 4) 3 8 = nI (N + 1) := by
    show V 3 8 + nI 1 = _
    rw [a2, nI_add']
  have u : ∀ (g : Nat → Int32) (x : Int32) (l : Nat), l < N → upd g N x l = g l := fun g x l hl => by unfold upd; rw [if_neg (by omega)]
  have uN : ∀ (g : Nat → Int32) (x : Int32), upd g N x N = x := fun g x => by unfold upd; rw [if_pos rfl]
  generalize hW : addV V N (nI c) (nI f) (V 0 4) = W at w3 w4 w5 w6 w7 w8 w9 w10 ⊢
  have w0 : W 0 = V 0 := by rw [← hW]; rfl
  have w2 : W 2 = V 2 := by rw [← hW]; rfl
  have w11 : W 11 = V 11 := by rw [← hW]; rfl
  have w13 : W 13 = V 13 := by rw [← hW]; rfl
  have w14 : W 14 = V 14 := by rw [← hW]; rfl
  have w15 : W 15 = V 15 := by rw [← hW]; rfl
  have w17 : W 17 = V 17 := by rw [← hW]; rfl
  refine ⟨⟨⟨by omega, w3, by rw [w2]; exact a3, by rw [w17]; exact a4, ⟨y, y1, by rw [w0]; exact y2⟩, by rw [w0]; exact a6, by rw [w0]; exact a7, by rw [w0]; exact a8⟩, b.congr w13 w14, fun w hw => ?_, fun l hl => ?_⟩, fun l hl z => ?_, ?_⟩
  · rw [w11, fr w hw]
    show _ = nI (cntB (atV W (nI 1) (nI w)) N + _)
    have e1 : atV W (nI 1) (nI w) N = false := by
      unfold atV
      rw [w7, uN, decide_eq_false (by decide), Bool.false_and]
    rw [e1, if_neg (by decide), Nat.add_zero]
    congr 1
    refine cntB_congr N (fun j hj => ?_)
    unfold atV
    rw [w7, w8, u _ _ j hj, u _ _ j hj]
  · unfold IL
    rw [w4, w5, w6, w7, w8, w9, w10, w0]
    by_cases hlN : l < N
    · rw [u _ _ l hlN, u _ _ l hlN, u _ _ l hlN, u _ _ l hlN, u _ _ l hlN, u _ _ l hlN, u _ _ l hlN]
      exact e l hlN
    · have : l = N := by omega
      subst this
      rw [uN, uN, uN, uN, uN, uN, uN]
      refine ⟨⟨c, hc, rfl⟩, ?_, ⟨0, 0, by omega, by omega, rfl, rfl, ⟨fun z => by omega, fun z => by omega⟩, fun z => by omega, fun z => by omega, ⟨fun _ => rfl, fun _ => by omega⟩⟩, y, y, Nat.le_refl _, y1, y2, y2⟩
      have : f = 0 ∨ f = 1 := by omega
      rcases this with rfl | rfl
      · exact Or.inl rfl
      · exact Or.inr rfl
  · rw [w7] at z
    rw [w8, w14]
    by_cases hlN : l < N
    · rw [u _ _ l hlN] at z ⊢
      exact hh l hlN z
    · have : l = N := by omega
      subst this
      rw [uN] at z
      exact absurd z (by decide)
  · unfold ID at hd ⊢
    rw [w15, hd]
    show _ = nI (cntB (fun l => decide (W 7 l = nI 4)) N + (if decide (W 7 N = nI 4) then 1 else 0))
    rw [w7, uN, decide_eq_false (p := nI 0 = nI 4) (by decide), if_neg (by decide), Nat.add_zero]
    congr 1
    exact cntB_congr N (fun j hj => by rw [u _ _ j hj])
theorem IV.adds (h : IV V N Y) {c f : Nat} (hc : c < 100) (hf : f < 2) : ∀ k, N + k ≤ 120 → IV (addVs V N (nI c) (nI f) (V 0 4) k) (N + k) Y
  | 0, _ => h
  | k + 1, hk => by
    have ih := h.adds hc hf k (by omega)
    have := ih.add (by omega) hc hf
    rw [addVs_0] at this
    exact this
theorem adds_can {c f x : Int32} (hc : Can V) : ∀ k, Can (addVs V N c f x k)
  | 0 => hc
  | k + 1 => (adds_can hc k).of (fun kk hk => by
    show addV _ _ _ _ _ kk = _
    unfold addV wv sv
    rw [if_neg (by omega), if_neg (by omega), if_neg (by omega), if_neg (by omega), if_neg (by omega), if_neg (by omega), if_neg (by omega), if_neg (by omega)])
theorem isIn_ab' {k a b : Nat} (h1 : a ≤ k) (h2 : k ≤ b) (hb : b < 2 ^ 31) : isInB (nI k) (nI a) (nI b) = true := by
  unfold isInB
  rw [decide_eq_true ((nI_leI (by omega) (by omega)).2 h1), decide_eq_true ((nI_leI (by omega) hb).2 h2)]
  rfl
theorem p_in {c f m : Nat} (hc : c < 100) (hf : f < 2) (hm : 1 ≤ m) (hm2 : m ≤ 20) (hcc : G 0 3 8 = nI N) : ∀ Q, E2 ε jX8_post 46 [some (.inr (0, 30)), some (.inl (nI c)), some (.inl (nI f)), some (.inl (nI m)), some (.inl (nI N)), none] [] G Q → E2 ε jX8_post 0 [some (.inr (0, 30)), some (.inl (nI c)), some (.inl (nI f)), some (.inl (nI m)), none, none] [] G Q := by
  intro Q k
  repeat (first | refine e2_step rfl rfl ?_ | refine e2_get rfl (by first | exact hi | decide) rfl rfl ?_)
  refine e2_fs (c_isIn (nI c) (nI 0) (nI 99)) rfl rfl ⟨rfl, rfl, rfl⟩ rfl rfl rfl ?_
  rw [isIn_T (by omega) (by decide)]
  refine e2_if rfl rfl (fun z => absurd z (by decide)) (fun _ => ?_)
  repeat (first | refine e2_step rfl rfl ?_ | refine e2_get rfl (by first | exact hi | decide) rfl rfl ?_)
  refine e2_fs (c_isIn (nI f) (nI 0) (nI 1)) rfl rfl ⟨rfl, rfl, rfl⟩ rfl rfl rfl ?_
  rw [isIn_T (by omega) (by decide)]
  refine e2_if rfl rfl (fun z => absurd z (by decide)) (fun _ => ?_)
  repeat (first | refine e2_step rfl rfl ?_ | refine e2_get rfl (by first | exact hi | decide) rfl rfl ?_)
  refine e2_fs (c_isIn (nI m) (nI 1) (nI 20)) rfl rfl ⟨rfl, rfl, rfl⟩ rfl rfl rfl ?_
  rw [isIn_ab' hm hm2 (by decide)]
  refine e2_if rfl rfl (fun _ => ?_) (fun z => absurd (by decide) z)
  repeat (first | refine e2_stepS 44 rfl rfl rfl ?_ | refine e2_getS 44 rfl rfl (by decide) rfl rfl ?_)
  rw [hcc]
  refine e2_step rfl rfl ?_
  exact k
theorem e2_cGin (i : Nat) (h : E2 ε J pc ls st (cG G i (O G i) (G 0 40 1) (G 0 41)) Q) : E2 ε J pc ls st G Q := by
  rw [cG_O] at h
  exact h
theorem D_post (h : SG G0) (hN : IV (O G0 0) N 500) {c f m : Nat} (hc : c < 100) (hf : f < 2) (hm : 1 ≤ m) (hm2 : m ≤ 20) (hful : N + m ≤ 120) : Op ε jX8_post [.inl (nI c), .inl (nI f), .inl (nI m)] G0 (nI N) (addVs (O G0 0) N (nI c) (nI f) (O G0 0 0 4) m) := by
  refine Op.of (fun G hG => ?_)
  rw [← hG.oo (by decide)]
  have hN := hG.IVo hN
  have h := hG.sg h
  have hi : (0 : Nat) < 19 := by decide
  refine C2.of (ls := [some (.inr (0, 30)), some (.inl (nI c)), some (.inl (nI f)), some (.inl (nI m)), none, none]) okX8_post rfl rfl ?_
  refine p_in (G := G) hc hf hm hm2 (show G 0 3 8 = nI N from hN.1.cnt) _ ?_
  repeat (first | refine e2_step rfl rfl ?_ | refine e2_get rfl (by first | exact hi | decide) rfl rfl ?_)
  rw [nI_add']
  refine e2_if rfl rfl (fun _ => ?_) (fun z => absurd (nI_le hful (by omega)) z)
  repeat (first | refine e2_step rfl rfl ?_ | refine e2_get rfl (by first | exact hi | decide) rfl rfl ?_)
  refine e2_callVv rfl ⟨rfl, rfl, rfl⟩ rfl rfl rfl rfl (by decide) rfl rfl rfl (q_rem h) (fun G1 z => ?_)
  obtain ⟨-, hQ⟩ := z
  have e0 := hQ.oo (j := 0) (by omega)
  have hfin := hQ.off (s := G1 0 40 1) (o := G1 0 41) h (adds_can (V := O G 0) (N := N) (c := nI c) (f := nI f) (x := O G 0 0 4) O_can m) ⟨_, hN.adds hc hf m hful⟩
  have hP := fun k hk => hN.adds hc hf k hk
  rw [← e0] at hfin hP
  refine e2_cGin 0 ?_
  repeat (first | refine e2_stepS 72 rfl rfl rfl ?_)
  refine e2_for m (fun k => [some (.inr (0, 30)), some (.inl (nI c)), some (.inl (nI f)), some (.inl (nI m)), some (.inl (nI N)), some (.inl (nI k))]) (fun k => cG G1 0 (addVs (O G1 0) N (nI c) (nI f) (O G1 0 0 4) k) (G1 0 40 1) (G1 0 41)) (fun k hk K => ?_) (fun M hM => ?_)
  · repeat (first | refine e2_step rfl rfl ?_ | refine e2_get rfl (by first | exact hi | decide) rfl rfl ?_)
    refine e2_if rfl rfl (fun z => absurd z (nI_ge hk (by omega))) (fun _ => ?_)
    repeat (first | refine e2_step rfl rfl ?_ | refine e2c_get (i := 0) (by decide) rfl rfl rfl rfl ?_ | refine e2_get rfl (by decide) rfl rfl ?_)
    rw [show addVs (O G1 0) N (nI c) (nI f) (O G1 0 0 4) k 0 4 = O G1 0 0 4 by rw [addVs_0]]
    refine e2c_fv (v_add (N := N + k) hi (by omega) (hP k (by omega)).1.cnt (nI c) (nI f) (O G1 0 0 4)) rfl rfl ⟨rfl, rfl, rfl⟩ rfl rfl rfl hi rfl rfl rfl rfl ?_
    repeat (first | refine e2_stepS 72 rfl rfl rfl ?_)
    rw [nI_add']
    exact K
  · subst hM
    repeat (first | refine e2_step rfl rfl ?_ | refine e2_get rfl (by first | exact hi | decide) rfl rfl ?_)
    refine e2_if rfl rfl (fun _ => ?_) (fun z => absurd (Int32.le_refl _) z)
    repeat (first | refine e2_step rfl rfl ?_ | refine e2_get rfl (by first | exact hi | decide) rfl rfl ?_)
    exact e2_iret rfl rfl ⟨rfl, by rw [← e0]; exact hfin⟩
theorem L_postFull (hN : IV (O G0 0) N 500) {c f m : Nat} (hc : c < 100) (hf : f < 2) (hm : 1 ≤ m) (hm2 : m ≤ 20) (hful : 120 < N + m) : Lk ε jX8_post [.inl (nI c), .inl (nI f), .inl (nI m)] G0 (-3) := by
  intro G hG
  have hN := hG.IVo hN
  have hN2 := hN.1.nle
  refine FL.same ?_
  refine C2.of (ls := [some (.inr (0, 30)), some (.inl (nI c)), some (.inl (nI f)), some (.inl (nI m)), none, none]) okX8_post rfl rfl ?_
  refine p_in (G := G) hc hf hm hm2 (show G 0 3 8 = nI N from hN.1.cnt) _ ?_
  repeat (first | refine e2_step rfl rfl ?_ | refine e2_get rfl (by first | exact hi | decide) rfl rfl ?_)
  rw [nI_add']
  refine e2_if rfl rfl (fun z => absurd z (nI_ge (a := 120) (b := N + m) hful (by omega))) (fun _ => ?_)
  repeat (first | refine e2_step rfl rfl ?_ | refine e2_get rfl (by first | exact hi | decide) rfl rfl ?_)
  exact e2_iret rfl rfl ⟨rfl, rfl⟩
end OA
end
section
/-! Operations: setRange, set, goOut, comeBack, take, restore, undo. -/
section OB
variable {ε : EE} {J J' : JT} {pc : Nat} {ls : List (Option V0)} {st : List V0} {As : List V0} {G G' G0 G1 : GG} {V V' : VV} {i N Y d l : Nat} {s a : Int32} {o : Nat → Int32} {Q : Option Int32 → GG → Prop}
theorem IV.rng (h : IV V N Y) {a b w : Nat} (hw : w < 8) : IV (sv V 2 (rngr (V 2) a (b + 1) (nI w))) N Y := by
  obtain ⟨⟨⟨a1, a2, a3, a4⟩, b1, fr, e⟩, hh, hd⟩ := h
  refine ⟨⟨⟨a1, a2, fun c hc => ?_, a4⟩, b1, fr, e⟩, hh, hd⟩
  show ∃ w', w' < 8 ∧ rngr (V 2) a (b + 1) (nI w) c = nI w'
  unfold rngr
  split
  · exact ⟨w, hw, rfl⟩
  · exact a3 c hc
theorem D_setRange (h : SG G0) (hN : IV (O G0 0) N 500) {a b w : Nat} (hab : a ≤ b) (hb : b < 100) (hw : w < 8) : Op ε jX8_setRange [.inl (nI a), .inl (nI b), .inl (nI w)] G0 (nI (1 + cntB (fun c => decide (¬ rngr (O G0 0 2) a (b + 1) (nI w) (c + 1) = rngr (O G0 0 2) a (b + 1) (nI w) c)) 99)) (sv (O G0 0) 2 (rngr (O G0 0 2) a (b + 1) (nI w))) := by
  refine Op.of (fun G hG => ?_)
  rw [← hG.oo (by decide)]
  have hN := hG.IVo hN
  have h := hG.sg h
  have hi : (0 : Nat) < 19 := by decide
  refine C2.of (ls := [some (.inr (0, 30)), some (.inl (nI a)), some (.inl (nI b)), some (.inl (nI w))]) okX8_setRange rfl rfl ?_
  repeat (first | refine e2_step rfl rfl ?_ | refine e2_get rfl (by first | exact hi | decide) rfl rfl ?_)
  refine e2_fs (c_isIn (nI a) (nI 0) (nI 99)) rfl rfl ⟨rfl, rfl, rfl⟩ rfl rfl rfl ?_
  rw [isIn_T (by omega) (by decide)]
  refine e2_if rfl rfl (fun z => absurd z (by decide)) (fun _ => ?_)
  repeat (first | refine e2_step rfl rfl ?_ | refine e2_get rfl (by first | exact hi | decide) rfl rfl ?_)
  refine e2_fs (c_isIn (nI b) (nI a) (nI 99)) rfl rfl ⟨rfl, rfl, rfl⟩ rfl rfl rfl ?_
  rw [isIn_ab' hab (by omega) (by decide)]
  refine e2_if rfl rfl (fun z => absurd z (by decide)) (fun _ => ?_)
  repeat (first | refine e2_step rfl rfl ?_ | refine e2_get rfl (by first | exact hi | decide) rfl rfl ?_)
  refine e2_fs (c_isWalkT hw) rfl rfl ⟨rfl, rfl, rfl⟩ rfl rfl rfl ?_
  refine e2_if rfl rfl (fun _ => ?_) (fun z => absurd (by decide) z)
  repeat (first | refine e2_step rfl rfl ?_ | refine e2_get rfl (by first | exact hi | decide) rfl rfl ?_)
  refine e2_callVv rfl ⟨rfl, rfl, rfl⟩ rfl rfl rfl rfl (by decide) rfl rfl rfl (q_rem h) (fun G1 z => ?_)
  obtain ⟨-, hQ⟩ := z
  have e0 := hQ.oo (j := 0) (by omega)
  have hfin := hQ.off (V' := sv (O G 0) 2 (rngr (O G 0 2) a (b + 1) (nI w))) (s := G1 0 40 1) (o := G1 0 41) h (O_can.of (fun kk hk => by unfold sv; rw [if_neg (by omega)])) ⟨N, hN.rng hw⟩
  rw [← e0] at hfin ⊢
  repeat (first | refine e2_step rfl rfl ?_ | refine e2_get rfl (by first | exact hi | decide) rfl rfl ?_)
  refine e2_fv (fo_self (g_give (a := a) (b := b) hi (by omega) hb (nI w))) rfl rfl ⟨rfl, rfl, rfl⟩ rfl rfl rfl (by first | exact hi | decide) rfl rfl rfl ?_
  repeat (first | refine e2_step rfl rfl ?_ | refine e2c_get (i := 0) (by decide) rfl rfl rfl rfl ?_ | refine e2_get rfl (by decide) rfl rfl ?_)
  refine e2c_fi (g_stretches hi) rfl rfl ⟨rfl, rfl, rfl⟩ rfl rfl rfl hi rfl rfl rfl rfl ?_
  exact e2_iret rfl rfl ⟨rfl, hfin⟩
theorem lea_n {n : Nat} (hn : n < 1000) : leaF (nI n) = nI (if n = 8 then 0 else 1) := by
  unfold leaF
  by_cases h : n = 8
  · rw [if_pos (by rw [h]), if_pos h]
  · rw [if_neg (fun z => h ((nI_eq (by omega) (by omega)).1 z)), if_neg h]
theorem gre_n {n : Nat} (hn : n < 1000) : greF (nI n) = nI (if n = 8 then 2 else if n = 9 then 40 else if n = 10 then 30 else 20) := by
  unfold greF
  by_cases h : n = 8
  · rw [if_pos (by rw [h]), if_pos h]
  · rw [if_neg (fun z => h ((nI_eq (by omega) (by omega)).1 z)), if_neg h]
    by_cases h : n = 9
    · rw [if_pos (by rw [h]), if_pos h]
    · rw [if_neg (fun z => h ((nI_eq (by omega) (by omega)).1 z)), if_neg h]
      by_cases h : n = 10
      · rw [if_pos (by rw [h]), if_pos h]
      · rw [if_neg (fun z => h ((nI_eq (by omega) (by omega)).1 z)), if_neg h]
/-- a number may be so -/
def okSet (n v : Nat) : Prop := (if n = 8 then 0 else 1) ≤ v ∧ v ≤ (if n = 8 then 2 else if n = 9 then 40 else if n = 10 then 30 else 20)
theorem chg_n {n : Nat} (hn : n ≤ 10) (x : Int32) : chgV V (nI n) x = if n = 8 then wv V 0 5 x else if n = 9 then wv V 0 6 x else if n = 10 then wv V 0 7 x else wv V 17 n x := by
  unfold chgV
  by_cases h : n = 8
  · rw [if_pos (by rw [h]), if_pos h]
  · rw [if_neg (fun z => h ((nI_eq (by omega) (by omega)).1 z)), if_neg h]
    by_cases h9 : n = 9
    · rw [if_pos (by rw [h9]), if_pos h9]
    · rw [if_neg (fun z => h9 ((nI_eq (by omega) (by omega)).1 z)), if_neg h9]
      by_cases h10 : n = 10
      · rw [if_pos (by rw [h10]), if_pos h10]
      · rw [if_neg (fun z => h10 ((nI_eq (by omega) (by omega)).1 z)), if_neg h10, if_pos (isIn_T (by omega) (by decide)), nI_clamp (by omega)]
theorem num_n {n : Nat} (hn : n ≤ 10) : numV V (nI n) = if n = 8 then V 0 5 else if n = 9 then V 0 6 else if n = 10 then V 0 7 else V 17 n := by
  unfold numV
  by_cases h : n = 8
  · rw [if_pos (by rw [h]), if_pos h]
  · rw [if_neg (fun z => h ((nI_eq (by omega) (by omega)).1 z)), if_neg h]
    by_cases h9 : n = 9
    · rw [if_pos (by rw [h9]), if_pos h9]
    · rw [if_neg (fun z => h9 ((nI_eq (by omega) (by omega)).1 z)), if_neg h9]
      by_cases h10 : n = 10
      · rw [if_pos (by rw [h10]), if_pos h10]
      · rw [if_neg (fun z => h10 ((nI_eq (by omega) (by omega)).1 z)), if_neg h10, if_pos (isIn_T (by omega) (by decide)), nI_clamp (by omega)]
theorem IV.chg (h : IV V N Y) {n v : Nat} (hn : n ≤ 10) (hv : okSet n v) : IV (chgV V (nI n) (nI v)) N Y := by
  rw [chg_n hn]
  unfold okSet at hv
  obtain ⟨⟨⟨a1, a2, a3, a4, a5, a6, a7, a8⟩, b1, fr, e⟩, hh, hd⟩ := h
  by_cases h8 : n = 8
  · rw [if_pos h8] at hv ⊢
    rw [if_pos h8] at hv
    exact ⟨⟨⟨a1, a2, a3, a4, a5, ⟨v, hv.2, rfl⟩, a7, a8⟩, b1, fr, e⟩, hh, hd⟩
  · rw [if_neg h8] at hv ⊢
    rw [if_neg h8] at hv
    by_cases h9 : n = 9
    · rw [if_pos h9] at hv ⊢
      exact ⟨⟨⟨a1, a2, a3, a4, a5, a6, ⟨v, hv.1, hv.2, rfl⟩, a8⟩, b1, fr, e⟩, hh, hd⟩
    · rw [if_neg h9] at hv ⊢
      by_cases h10 : n = 10
      · rw [if_pos h10] at hv ⊢
        exact ⟨⟨⟨a1, a2, a3, a4, a5, a6, a7, ⟨v, hv.1, hv.2, rfl⟩⟩, b1, fr, e⟩, hh, hd⟩
      · rw [if_neg h10] at hv ⊢
        refine ⟨⟨⟨a1, a2, a3, fun w hw => ?_, a5, a6, a7, a8⟩, b1, fr, e⟩, hh, hd⟩
        show ∃ h, 1 ≤ h ∧ h ≤ 20 ∧ upd (V 17) n (nI v) w = nI h
        unfold upd
        split
        · exact ⟨v, hv.1, hv.2, rfl⟩
        · exact a4 w hw
theorem chg_can {n v : Nat} (hn : n ≤ 10) (hc : Can V) : Can (chgV V (nI n) (nI v)) := by
  rw [chg_n hn]
  refine hc.of (fun kk hk => ?_)
  split
  · unfold wv sv; rw [if_neg (by omega)]
  · split
    · unfold wv sv; rw [if_neg (by omega)]
    · split
      · unfold wv sv; rw [if_neg (by omega)]
      · unfold wv sv; rw [if_neg (by omega)]
theorem set_in {n v : Nat} (hn : n ≤ 10) (hv : v < 1000) : isInB (nI v) (leaF (nI n)) (greF (nI n)) = true ↔ okSet n v := by
  rw [lea_n (by omega), gre_n (by omega)]
  unfold isInB okSet
  have hg : (if n = 8 then 2 else if n = 9 then 40 else if n = 10 then 30 else 20) < 1000 := by
    split
    · omega
    · split
      · omega
      · split <;> omega
  have hl : (if n = 8 then 0 else 1) < 1000 := by split <;> omega
  rw [Bool.and_eq_true, decide_eq_true_eq, decide_eq_true_eq, nI_leI (by omega) (by omega), nI_leI (by omega) (by omega)]
theorem D_set (h : SG G0) (hN : IV (O G0 0) N 500) {n v : Nat} (hn : n ≤ 10) (hv2 : v < 1000) (hv : okSet n v) : Op ε jX8_set [.inl (nI n), .inl (nI v)] G0 (numV (O G0 0) (nI n)) (chgV (O G0 0) (nI n) (nI v)) := by
  refine Op.of (fun G hG => ?_)
  rw [← hG.oo (by decide)]
  have hN := hG.IVo hN
  have h := hG.sg h
  have hi : (0 : Nat) < 19 := by decide
  refine C2.of (ls := [some (.inr (0, 30)), some (.inl (nI n)), some (.inl (nI v)), none]) okX8_set rfl rfl ?_
  repeat (first | refine e2_step rfl rfl ?_ | refine e2_get rfl (by first | exact hi | decide) rfl rfl ?_)
  refine e2_fs (c_isIn (nI n) (nI 0) (nI 10)) rfl rfl ⟨rfl, rfl, rfl⟩ rfl rfl rfl ?_
  rw [isIn_T hn (by decide)]
  refine e2_if rfl rfl (fun z => absurd z (by decide)) (fun _ => ?_)
  repeat (first | refine e2_step rfl rfl ?_ | refine e2_get rfl (by first | exact hi | decide) rfl rfl ?_)
  refine e2_fs (c_leastValue (nI n)) rfl rfl ⟨rfl, rfl, rfl⟩ rfl rfl rfl ?_
  repeat (first | refine e2_step rfl rfl ?_ | refine e2_get rfl (by first | exact hi | decide) rfl rfl ?_)
  refine e2_fs (c_greatestValue (nI n)) rfl rfl ⟨rfl, rfl, rfl⟩ rfl rfl rfl ?_
  refine e2_fs (c_isIn (nI v) (leaF (nI n)) (greF (nI n))) rfl rfl ⟨rfl, rfl, rfl⟩ rfl rfl rfl ?_
  rw [(set_in hn hv2).2 hv]
  refine e2_if rfl rfl (fun _ => ?_) (fun z => absurd (by decide) z)
  repeat (first | refine e2_step rfl rfl ?_ | refine e2_get rfl (by first | exact hi | decide) rfl rfl ?_)
  refine e2_callVv rfl ⟨rfl, rfl, rfl⟩ rfl rfl rfl rfl (by decide) rfl rfl rfl (q_rem h) (fun G1 z => ?_)
  obtain ⟨-, hQ⟩ := z
  have e0 := hQ.oo (j := 0) (by omega)
  have hfin := hQ.off (V' := chgV (O G 0) (nI n) (nI v)) (s := G1 0 40 1) (o := G1 0 41) h (chg_can hn O_can) ⟨N, hN.chg hn hv⟩
  rw [← e0] at hfin ⊢
  repeat (first | refine e2_step rfl rfl ?_ | refine e2_get rfl (by first | exact hi | decide) rfl rfl ?_)
  refine e2_fi (fo_same (w_number hi (nI n))) rfl rfl ⟨rfl, rfl, rfl⟩ rfl rfl rfl (by first | exact hi | decide) rfl rfl rfl ?_
  repeat (first | refine e2_step rfl rfl ?_ | refine e2_get rfl (by first | exact hi | decide) rfl rfl ?_)
  refine e2_fv (fo_self (w_changeNumber hi (nI n) (nI v))) rfl rfl ⟨rfl, rfl, rfl⟩ rfl rfl rfl (by first | exact hi | decide) rfl rfl rfl ?_
  repeat (first | refine e2_step rfl rfl ?_ | refine e2c_get (i := 0) (by decide) rfl rfl rfl rfl ?_ | refine e2_get rfl (by decide) rfl rfl ?_)
  exact e2_iret rfl rfl ⟨rfl, hfin⟩
theorem L_setNo {n v : Nat} (hn : n ≤ 10) (hv2 : v < 1000) (hv : ¬ okSet n v) : Lk ε jX8_set [.inl (nI n), .inl (nI v)] G0 (-1) := by
  intro G hG
  refine FL.same ?_
  refine C2.of (ls := [some (.inr (0, 30)), some (.inl (nI n)), some (.inl (nI v)), none]) okX8_set rfl rfl ?_
  repeat (first | refine e2_step rfl rfl ?_ | refine e2_get rfl (by first | exact hi | decide) rfl rfl ?_)
  refine e2_fs (c_isIn (nI n) (nI 0) (nI 10)) rfl rfl ⟨rfl, rfl, rfl⟩ rfl rfl rfl ?_
  rw [isIn_T hn (by decide)]
  refine e2_if rfl rfl (fun z => absurd z (by decide)) (fun _ => ?_)
  repeat (first | refine e2_step rfl rfl ?_ | refine e2_get rfl (by first | exact hi | decide) rfl rfl ?_)
  refine e2_fs (c_leastValue (nI n)) rfl rfl ⟨rfl, rfl, rfl⟩ rfl rfl rfl ?_
  repeat (first | refine e2_step rfl rfl ?_ | refine e2_get rfl (by first | exact hi | decide) rfl rfl ?_)
  refine e2_fs (c_greatestValue (nI n)) rfl rfl ⟨rfl, rfl, rfl⟩ rfl rfl rfl ?_
  refine e2_fs (c_isIn (nI v) (leaF (nI n)) (greF (nI n))) rfl rfl ⟨rfl, rfl, rfl⟩ rfl rfl rfl ?_
  rw [eq_false_of_ne_true (fun z => hv ((set_in hn hv2).1 z))]
  refine e2_if rfl rfl (fun z => absurd rfl z) (fun _ => ?_)
  repeat (first | refine e2_step rfl rfl ?_ | refine e2_get rfl (by first | exact hi | decide) rfl rfl ?_)
  exact e2_iret rfl rfl ⟨rfl, rfl⟩
theorem snd_can {c : Nat} (hc : Can V) : Can (sndV V N c) := hc.of (fun kk hk => snd_o (by omega) (by omega) (by omega) (by omega))
theorem D_goOut (h : SG G0) (hN : IV (O G0 0) N 500) {c w : Nat} (hc : c < 6) (hw : w < 8) (h13 : O G0 0 13 c = nI w) (h14 : O G0 0 14 c = nI 0) (hg : cgB (O G0 0) c = true) : Op ε jX8_goOut [.inl (nI c)] G0 (nI (sndn (O G0 0) N c)) (sndV (O G0 0) N c) := by
  refine Op.of (fun G hG => ?_)
  rw [← hG.oo (by decide)] at h13 h14 hg ⊢
  have hN := hG.IVo hN
  have h := hG.sg h
  have hi : (0 : Nat) < 19 := by decide
  have hs := snd_all hN hc h14 hw h13
  refine C2.of (ls := [some (.inr (0, 30)), some (.inl (nI c))]) okX8_goOut rfl rfl ?_
  repeat (first | refine e2_step rfl rfl ?_ | refine e2_get rfl (by first | exact hi | decide) rfl rfl ?_)
  refine e2_fs (c_isCarrierT hc) rfl rfl ⟨rfl, rfl, rfl⟩ rfl rfl rfl ?_
  refine e2_if rfl rfl (fun _ => ?_) (fun z => absurd (by decide) z)
  repeat (first | refine e2_step rfl rfl ?_ | refine e2_get rfl (by first | exact hi | decide) rfl rfl ?_)
  refine e2_fi (fo_same (i := 0) (w_canGoOut (by decide) hc (Or.inr ⟨w, hw, h13⟩))) rfl rfl ⟨rfl, rfl, rfl⟩ rfl rfl rfl (by first | exact hi | decide) rfl rfl rfl ?_
  rw [hg]
  refine e2_if rfl rfl (fun _ => ?_) (fun z => absurd (by decide) z)
  repeat (first | refine e2_step rfl rfl ?_ | refine e2_get rfl (by first | exact hi | decide) rfl rfl ?_)
  refine e2_callVv rfl ⟨rfl, rfl, rfl⟩ rfl rfl rfl rfl (by decide) rfl rfl rfl (q_rem h) (fun G1 z => ?_)
  obtain ⟨-, hQ⟩ := z
  have e0 := hQ.oo (j := 0) (by omega)
  have hfin := fun s o => hQ.off (V' := sndV (O G 0) N c) (s := s) (o := o) h (snd_can O_can) ⟨N, hs.1⟩
  have hp := hN.send (ε := ε) (G := G1) (s := G1 0 40 1) (o := G1 0 41) hi hc
  rw [← e0] at hfin hp ⊢
  repeat (first | refine e2_step rfl rfl ?_ | refine e2_get rfl (by first | exact hi | decide) rfl rfl ?_)
  refine e2_fi (fo_self hp) rfl rfl ⟨rfl, rfl, rfl⟩ rfl rfl rfl (by first | exact hi | decide) rfl rfl rfl ?_
  exact e2_iret rfl rfl ⟨rfl, by rw [e0] at hfin ⊢; exact hfin _ _⟩
theorem L_goOutNo (hN : IV (O G0 0) N 500) {c : Nat} (hc : c < 6) (hg : cgB (O G0 0) c = false) : Lk ε jX8_goOut [.inl (nI c)] G0 (-2) := by
  intro G hG
  rw [← hG.oo (by decide)] at hg
  have hN := hG.IVo hN
  refine FL.same ?_
  refine C2.of (ls := [some (.inr (0, 30)), some (.inl (nI c))]) okX8_goOut rfl rfl ?_
  repeat (first | refine e2_step rfl rfl ?_ | refine e2_get rfl (by first | exact hi | decide) rfl rfl ?_)
  refine e2_fs (c_isCarrierT hc) rfl rfl ⟨rfl, rfl, rfl⟩ rfl rfl rfl ?_
  refine e2_if rfl rfl (fun _ => ?_) (fun z => absurd (by decide) z)
  repeat (first | refine e2_step rfl rfl ?_ | refine e2_get rfl (by first | exact hi | decide) rfl rfl ?_)
  refine e2_fi (fo_same (i := 0) (w_canGoOut (by decide) hc (hN.1.2.1.1 c hc).2.1)) rfl rfl ⟨rfl, rfl, rfl⟩ rfl rfl rfl (by first | exact hi | decide) rfl rfl rfl ?_
  rw [hg]
  refine e2_if rfl rfl (fun z => absurd rfl z) (fun _ => ?_)
  repeat (first | refine e2_step rfl rfl ?_ | refine e2_get rfl (by first | exact hi | decide) rfl rfl ?_)
  exact e2_iret rfl rfl ⟨rfl, rfl⟩
theorem brg_o {c w kk : Nat} (h6 : kk ≠ 6) (h7 : kk ≠ 7) (h8 : kk ≠ 8) (h10 : kk ≠ 10) (h11 : kk ≠ 11) (h14 : kk ≠ 14) (h15 : kk ≠ 15) (h16 : kk ≠ 16) : brgV V N c w kk = V kk := by
  unfold brgV erV
  show (if kk = 16 then _ else if kk = 15 then _ else if kk = 14 then _ else _) = _
  rw [if_neg h16, if_neg h15, if_neg h14, brL_o h6 h7 h8 h10 h11]
theorem brg_can {c w : Nat} (hc : Can V) : Can (brgV V N c w) := hc.of (fun kk hk => brg_o (by omega) (by omega) (by omega) (by omega) (by omega) (by omega) (by omega) (by omega))
theorem D_comeBack (h : SG G0) (hN : IV (O G0 0) N 500) {c w : Nat} (hc : c < 6) (hw : w < 8) (h13 : O G0 0 13 c = nI w) (h14 : O G0 0 14 c = nI 1) : Op ε jX8_comeBack [.inl (nI c)] G0 (nI (brgn (O G0 0) N c w)) (brgV (O G0 0) N c w) := by
  refine Op.of (fun G hG => ?_)
  rw [← hG.oo (by decide)] at h13 h14 ⊢
  have hN := hG.IVo hN
  have h := hG.sg h
  have hi : (0 : Nat) < 19 := by decide
  have hs := brg_all (by decide) hN hc hw h13
  refine C2.of (ls := [some (.inr (0, 30)), some (.inl (nI c))]) okX8_comeBack rfl rfl ?_
  repeat (first | refine e2_step rfl rfl ?_ | refine e2_get rfl (by first | exact hi | decide) rfl rfl ?_)
  refine e2_fs (c_isCarrierT hc) rfl rfl ⟨rfl, rfl, rfl⟩ rfl rfl rfl ?_
  refine e2_if rfl rfl (fun _ => ?_) (fun z => absurd (by decide) z)
  repeat (first | refine e2_step rfl rfl ?_ | refine e2_get rfl (by first | exact hi | decide) rfl rfl ?_)
  refine e2_zald (i := 0) (kk := 14) c rfl rfl (by decide) rfl hc ?_
  rw [show G 0 14 c = nI 1 from h14]
  refine e2_if rfl rfl (fun _ => ?_) (fun z => absurd (by decide) z)
  repeat (first | refine e2_step rfl rfl ?_ | refine e2_get rfl (by first | exact hi | decide) rfl rfl ?_)
  refine e2_callVv rfl ⟨rfl, rfl, rfl⟩ rfl rfl rfl rfl (by decide) rfl rfl rfl (q_rem h) (fun G1 z => ?_)
  obtain ⟨-, hQ⟩ := z
  have e0 := hQ.oo (j := 0) (by omega)
  have hfin := fun s o => hQ.off (V' := brgV (O G 0) N c w) (s := s) (o := o) h (brg_can O_can) ⟨N, hs.1⟩
  have hp := hN.back (ε := ε) (G := G1) (s := G1 0 40 1) (o := G1 0 41) hi hc hw h13
  rw [← e0] at hfin hp ⊢
  repeat (first | refine e2_step rfl rfl ?_ | refine e2_get rfl (by first | exact hi | decide) rfl rfl ?_)
  refine e2_fi (fo_self hp) rfl rfl ⟨rfl, rfl, rfl⟩ rfl rfl rfl (by first | exact hi | decide) rfl rfl rfl ?_
  exact e2_iret rfl rfl ⟨rfl, by rw [e0] at hfin ⊢; exact hfin _ _⟩
theorem L_comeBackNo {c : Nat} (hc : c < 6) (h14 : O G0 0 14 c = nI 0) : Lk ε jX8_comeBack [.inl (nI c)] G0 (-2) := by
  intro G hG
  rw [← hG.oo (by decide)] at h14
  refine FL.same ?_
  refine C2.of (ls := [some (.inr (0, 30)), some (.inl (nI c))]) okX8_comeBack rfl rfl ?_
  repeat (first | refine e2_step rfl rfl ?_ | refine e2_get rfl (by first | exact hi | decide) rfl rfl ?_)
  refine e2_fs (c_isCarrierT hc) rfl rfl ⟨rfl, rfl, rfl⟩ rfl rfl rfl ?_
  refine e2_if rfl rfl (fun _ => ?_) (fun z => absurd (by decide) z)
  repeat (first | refine e2_step rfl rfl ?_ | refine e2_get rfl (by first | exact hi | decide) rfl rfl ?_)
  refine e2_zald (i := 0) (kk := 14) c rfl rfl (by decide) rfl hc ?_
  rw [show G 0 14 c = nI 0 from h14]
  refine e2_if rfl rfl (fun z => absurd rfl z) (fun _ => ?_)
  repeat (first | refine e2_step rfl rfl ?_ | refine e2_get rfl (by first | exact hi | decide) rfl rfl ?_)
  exact e2_iret rfl rfl ⟨rfl, rfl⟩
-- slots
theorem q_fillX {t : Nat} (ht : t < 2) (hz : okZ (G 0)) : F2 ε jX4_fillSlot [.inr (0, 20), .inl (nI t)] G none (wr (cpE G (1 + t) 0) 0 22 t 1) := by
  refine C2.conv (fun v G1 z => ⟨_, ⟨z.1, rfl⟩, ?_⟩) (q_fillSlot (j := 0) (by decide) ht hz)
  rw [z.2]
  intro i kk _
  by_cases h1 : i = 0 ∧ kk = 22
  · obtain ⟨rfl, rfl⟩ := h1
    unfold wr
    rw [setA_s, setA_s, cpG_o _ _ _ (Or.inr (by omega)), cpE_o (Or.inr (by omega))]
    exact cEq.rf
  · rw [wr_o h1, wr_o h1]
    rw [show 3 * 0 + 1 + t = 1 + t by omega]
    by_cases h : i = 1 + t ∧ kk < 18
    · obtain ⟨rfl, hk⟩ := h
      rw [cpE_at hk]
      exact (cpG_ag G (1 + t) (3 * 0)).eq hk
    · rw [cpG_o G _ _ (by omega), cpE_o (by omega)]
      exact cEq.rf
theorem D_take (h : SG G0) {t : Nat} (ht : t < 2) : Op ε jX8_take [.inl (nI t)] G0 (O G0 0 0 4) (O G0 0) := by
  refine Op.of (fun G hG => ?_)
  rw [← hG.oo (by decide)]
  have h := hG.sg h
  obtain ⟨N, hN⟩ := h.1
  refine C2.of (ls := [some (.inr (0, 30)), some (.inl (nI t))]) okX8_take rfl rfl ?_
  repeat (first | refine e2_step rfl rfl ?_ | refine e2_get rfl (by first | exact hi | decide) rfl rfl ?_)
  refine e2_fs (c_isSlotT ht) rfl rfl ⟨rfl, rfl, rfl⟩ rfl rfl rfl ?_
  refine e2_if rfl rfl (fun _ => ?_) (fun z => absurd (by decide) z)
  repeat (first | refine e2_step rfl rfl ?_ | refine e2_get rfl (by first | exact hi | decide) rfl rfl ?_)
  refine e2_callVv rfl ⟨rfl, rfl, rfl⟩ rfl rfl rfl rfl (by decide) rfl rfl rfl (q_rem h) (fun G1 z => ?_)
  obtain ⟨-, hQ⟩ := z
  have e0 := hQ.oo (j := 0) (by omega)
  have hz : okZ (G1 0) := fun u hu => by
    rw [hQ.2 0 14 (by omega) (by omega) (by omega) (by omega)]
    exact hN.okG u hu
  repeat (first | refine e2_step rfl rfl ?_ | refine e2_get rfl (by first | exact hi | decide) rfl rfl ?_)
  refine e2_fv (q_fillX ht hz) rfl rfl ⟨rfl, rfl, rfl⟩ rfl rfl rfl (by first | exact hi | decide) rfl rfl rfl ?_
  have k22 : ∀ u, wr (cpE G1 (1 + t) 0) 0 22 t 1 0 22 u = if u = t then 1 else G 0 22 u := fun u => by
    by_cases hu : u = t
    · subst hu
      rw [if_pos rfl, wr_s]
    · rw [if_neg hu, wr_u hu, cpE_o (Or.inr (by omega)), hQ.2 0 22 (by omega) (by omega) (by omega) (by omega)]
  have kO : ∀ j, j ≠ 1 + t → O (wr (cpE G1 (1 + t) 0) 0 22 t 1) j = O G1 j := fun j hj => O_eq (fun kk hk => by rw [wr_o (by omega), cpE_o (Or.inl hj)])
  have kT : O (wr (cpE G1 (1 + t) 0) 0 22 t 1) (1 + t) = O G1 0 := O_eq (fun kk hk => by rw [wr_o (by omega), cpE_at hk])
  have e0' : O (wr (cpE G1 (1 + t) 0) 0 22 t 1) 0 = O G 0 := by rw [kO 0 (by omega), e0]
  have hf := hQ.dn (G' := wr (cpE G1 (1 + t) 0) 0 22 t 1) (V' := O G 0) h (fun i kk a b c => by rw [wr_o (by omega), cpE_o (Or.inl (by omega))]) (fun m a b => by rw [wr_o (by omega), cpE_o (Or.inr (by omega))]) (by rw [wr_o (by omega), cpE_o (Or.inr (by omega))]) (by rw [wr_o (by omega), cpE_o (Or.inr (by omega))]) (by rw [wr_o (by omega), cpE_o (Or.inr (by omega))]) e0' h.1 (fun u hu => by
    rw [k22]
    by_cases hut : u = t
    · subst hut
      rw [if_pos rfl]
      refine ⟨Or.inr rfl, fun _ => ?_⟩
      rw [kT, e0]
      exact h.1
    · rw [if_neg hut, kO (1 + u) (by omega), hQ.oo (by omega)]
      exact h.2.1 u hu)
  have e4 : wr (cpE G1 (1 + t) 0) 0 22 t 1 0 0 4 = O G 0 0 4 := by rw [← e0']; rfl
  repeat (first | refine e2_step rfl rfl ?_ | refine e2_get rfl (by first | exact hi | decide) rfl rfl ?_)
  exact e2_iret rfl rfl ⟨congrArg some e4, hf⟩
theorem D_restore (h : SG G0) {t : Nat} (ht : t < 2) (hf : G0 0 22 t = 1) : Op ε jX8_restore [.inl (nI t)] G0 (O G0 (1 + t) 0 4) (O G0 (1 + t)) := by
  refine Op.of (fun G hG => ?_)
  rw [← hG.oo (i := 1 + t) (by omega)]
  have hf : G 0 22 t = 1 := by rw [hG 0 22 (by omega) (by omega) (by omega)]; exact hf
  have h := hG.sg h
  obtain ⟨N, hN⟩ := (h.2.1 t ht).2 hf
  refine C2.of (ls := [some (.inr (0, 30)), some (.inl (nI t))]) okX8_restore rfl rfl ?_
  repeat (first | refine e2_step rfl rfl ?_ | refine e2_get rfl (by first | exact hi | decide) rfl rfl ?_)
  refine e2_fs (c_isSlotT ht) rfl rfl ⟨rfl, rfl, rfl⟩ rfl rfl rfl ?_
  refine e2_if rfl rfl (fun _ => ?_) (fun z => absurd (by decide) z)
  repeat (first | refine e2_step rfl rfl ?_ | refine e2_get rfl (by first | exact hi | decide) rfl rfl ?_)
  refine e2_zald (i := 0) (kk := 22) t rfl rfl (by decide) rfl ht ?_
  rw [hf]
  refine e2_if rfl rfl (fun _ => ?_) (fun z => absurd (by decide) z)
  repeat (first | refine e2_step rfl rfl ?_ | refine e2_get rfl (by first | exact hi | decide) rfl rfl ?_)
  refine e2_callVv rfl ⟨rfl, rfl, rfl⟩ rfl rfl rfl rfl (by decide) rfl rfl rfl (q_rem h) (fun G1 z => ?_)
  obtain ⟨-, hQ⟩ := z
  have eT := hQ.oo (j := 1 + t) (by omega)
  have hz : ∀ u, u < 6 → G1 (1 + t) 14 u = 0 ∨ G1 (1 + t) 14 u = 1 := fun u hu => by
    rw [hQ.2 (1 + t) 14 (by omega) (by omega) (by omega) (by omega)]
    exact hN.okZ u hu
  repeat (first | refine e2_step rfl rfl ?_ | refine e2_get rfl (by first | exact hi | decide) rfl rfl ?_)
  refine e2_aald21 (i := 0) t rfl rfl (by decide) ht ?_
  rw [show 3 * 0 + 1 + t = 1 + t by omega]
  refine e2_fv (Q_officeE (i := 0) (i2 := 1 + t) (by decide) (by omega) (by omega) hz) rfl rfl ⟨rfl, rfl, rfl⟩ rfl rfl rfl (by first | exact hi | decide) rfl rfl rfl ?_
  have kO : ∀ j, j ≠ 0 → O (cpE G1 0 (1 + t)) j = O G1 j := fun j hj => O_eq (fun kk hk => by rw [cpE_o (Or.inl hj)])
  have e0' : O (cpE G1 0 (1 + t)) 0 = O G (1 + t) := by rw [← eT]; exact O_eq (fun kk hk => cpE_at hk)
  have hf2 := hQ.dn (G' := cpE G1 0 (1 + t)) (V' := O G (1 + t)) h (fun i kk a b c => cpE_o (Or.inl (by omega))) (fun m a b => cpE_o (Or.inr (by omega))) (cpE_o (Or.inr (by omega))) (cpE_o (Or.inr (by omega))) (cpE_o (Or.inr (by omega))) e0' ⟨N, hN⟩ (fun u hu => by
    rw [cpE_o (Or.inr (by omega)), hQ.2 0 22 (by omega) (by omega) (by omega) (by omega), kO (1 + u) (by omega), hQ.oo (by omega)]
    exact h.2.1 u hu)
  have e4 : cpE G1 0 (1 + t) 0 0 4 = O G (1 + t) 0 4 := by rw [← e0']; rfl
  repeat (first | refine e2_step rfl rfl ?_ | refine e2_get rfl (by first | exact hi | decide) rfl rfl ?_)
  exact e2_iret rfl rfl ⟨congrArg some e4, hf2⟩
theorem L_restoreNo {t : Nat} (ht : t < 2) (hf : G0 0 22 t = 0) : Lk ε jX8_restore [.inl (nI t)] G0 (-2) := by
  intro G hG
  have hf : G 0 22 t = 0 := by rw [hG 0 22 (by omega) (by omega) (by omega)]; exact hf
  refine FL.same ?_
  refine C2.of (ls := [some (.inr (0, 30)), some (.inl (nI t))]) okX8_restore rfl rfl ?_
  repeat (first | refine e2_step rfl rfl ?_ | refine e2_get rfl (by first | exact hi | decide) rfl rfl ?_)
  refine e2_fs (c_isSlotT ht) rfl rfl ⟨rfl, rfl, rfl⟩ rfl rfl rfl ?_
  refine e2_if rfl rfl (fun _ => ?_) (fun z => absurd (by decide) z)
  repeat (first | refine e2_step rfl rfl ?_ | refine e2_get rfl (by first | exact hi | decide) rfl rfl ?_)
  refine e2_zald (i := 0) (kk := 22) t rfl rfl (by decide) rfl ht ?_
  rw [hf]
  refine e2_if rfl rfl (fun z => absurd rfl z) (fun _ => ?_)
  repeat (first | refine e2_step rfl rfl ?_ | refine e2_get rfl (by first | exact hi | decide) rfl rfl ?_)
  exact e2_iret rfl rfl ⟨rfl, rfl⟩
-- undo
theorem D_undo (h0 : SG G0) (hk : SG G') {d : Nat} (ht : Top G0 G' d) : ∀ G, lk1 G' G → C2 ε jX8_undo [.inr (0, 30)] G (fun v G2 => v = some (nI d) ∧ SG G2 ∧ O G2 0 = O G0 0 ∧ ∀ t, t < 2 → G2 0 22 t = G0 0 22 t) := by
  intro G hG
  have ht := hG.top ht
  have hk := hG.sg hk
  have hd5 : d < 5 := ht.choose_spec.1
  have hd1 : G 0 31 1 = nI (d + 1) := ht.choose_spec.2.1.2.1
  refine C2.of (ls := [some (.inr (0, 30))]) okX8_undo rfl rfl ?_
  repeat (first | refine e2_step rfl rfl ?_ | refine e2_get rfl (by first | exact hi | decide) rfl rfl ?_)
  refine e2_if rfl rfl (fun _ => ?_) (fun z => absurd (fun q => by
    have q : nI (d + 1) = nI 0 := hd1.symm.trans q
    have := (nI_eq (by omega) (by omega)).1 q
    omega) z)
  repeat (first | refine e2_step rfl rfl ?_ | refine e2_get rfl (by first | exact hi | decide) rfl rfl ?_)
  refine e2_callVv rfl ⟨rfl, rfl, rfl⟩ rfl rfl rfl rfl (by decide) rfl rfl rfl (q_back ht h0.okM) (fun G2 z => ?_)
  obtain ⟨-, ⟨hm, hH⟩, ⟨s1, s2⟩, hr⟩ := z
  have e0 : O G2 0 = O G0 0 := O_eq (fun kk hk => s1 kk hk)
  repeat (first | refine e2_step rfl rfl ?_ | refine e2_get rfl (by first | exact hi | decide) rfl rfl ?_)
  refine e2_iret rfl rfl ⟨congrArg some hH.2.1, ⟨by rw [e0]; exact h0.1, fun t ht => ?_, ⟨d, hm, hH⟩, ?_⟩, e0, fun t ht => (s2 t ht).1⟩
  · rw [(s2 t ht).1]
    refine ⟨(h0.2.1 t ht).1, fun z => ?_⟩
    have e1 : O G2 (1 + t) = O G0 (1 + t) := O_eq (fun kk hk => by
      have := (s2 t ht).2 z kk hk
      rw [show 3 * 0 + 1 + t = 1 + t by omega] at this
      exact this)
    rw [e1]
    exact (h0.2.1 t ht).2 z
  · rw [hr 0 33 (by omega) (by omega) (by omega)]
    exact hk.2.2.2
theorem L_undo0 (h : G0 0 31 1 = nI 0) : Lk ε jX8_undo [] G0 (-2) := by
  intro G hG
  have h : G 0 31 1 = nI 0 := by rw [hG 0 31 (by omega) (by omega) (by omega)]; exact h
  refine FL.same ?_
  refine C2.of (ls := [some (.inr (0, 30))]) okX8_undo rfl rfl ?_
  repeat (first | refine e2_step rfl rfl ?_ | refine e2_get rfl (by first | exact hi | decide) rfl rfl ?_)
  rw [h]
  refine e2_if rfl rfl (fun z => absurd rfl z) (fun _ => ?_)
  repeat (first | refine e2_step rfl rfl ?_ | refine e2_get rfl (by first | exact hi | decide) rfl rfl ?_)
  exact e2_iret rfl rfl ⟨rfl, rfl⟩
-- what is refused
theorem R_post : Lk ε jX8_post [.inl (nI 100), .inl (nI 0), .inl (nI 1)] G0 (-1) := by
  intro G hG
  refine FL.same ?_
  refine C2.of (ls := [some (.inr (0, 30)), some (.inl (nI 100)), some (.inl (nI 0)), some (.inl (nI 1)), none, none]) okX8_post rfl rfl ?_
  repeat (first | refine e2_step rfl rfl ?_ | refine e2_get rfl (by first | exact hi | decide) rfl rfl ?_)
  refine e2_fs (c_isIn (nI 100) (nI 0) (nI 99)) rfl rfl ⟨rfl, rfl, rfl⟩ rfl rfl rfl ?_
  rw [show isInB (nI 100) (nI 0) (nI 99) = false by decide]
  refine e2_if rfl rfl (fun _ => ?_) (fun z => absurd rfl z)
  repeat (first | refine e2_step rfl rfl ?_ | refine e2_get rfl (by first | exact hi | decide) rfl rfl ?_)
  exact e2_iret rfl rfl ⟨rfl, rfl⟩
theorem R_setRange : Lk ε jX8_setRange [.inl (nI 5), .inl (nI 4), .inl (nI 0)] G0 (-1) := by
  intro G hG
  refine FL.same ?_
  refine C2.of (ls := [some (.inr (0, 30)), some (.inl (nI 5)), some (.inl (nI 4)), some (.inl (nI 0))]) okX8_setRange rfl rfl ?_
  repeat (first | refine e2_step rfl rfl ?_ | refine e2_get rfl (by first | exact hi | decide) rfl rfl ?_)
  refine e2_fs (c_isIn (nI 5) (nI 0) (nI 99)) rfl rfl ⟨rfl, rfl, rfl⟩ rfl rfl rfl ?_
  rw [show isInB (nI 5) (nI 0) (nI 99) = true by decide]
  refine e2_if rfl rfl (fun z => absurd z (by decide)) (fun _ => ?_)
  repeat (first | refine e2_step rfl rfl ?_ | refine e2_get rfl (by first | exact hi | decide) rfl rfl ?_)
  refine e2_fs (c_isIn (nI 4) (nI 5) (nI 99)) rfl rfl ⟨rfl, rfl, rfl⟩ rfl rfl rfl ?_
  rw [show isInB (nI 4) (nI 5) (nI 99) = false by decide]
  refine e2_if rfl rfl (fun _ => ?_) (fun z => absurd rfl z)
  repeat (first | refine e2_step rfl rfl ?_ | refine e2_get rfl (by first | exact hi | decide) rfl rfl ?_)
  exact e2_iret rfl rfl ⟨rfl, rfl⟩
theorem R_set : Lk ε jX8_set [.inl (nI 11), .inl (nI 1)] G0 (-1) := by
  intro G hG
  refine FL.same ?_
  refine C2.of (ls := [some (.inr (0, 30)), some (.inl (nI 11)), some (.inl (nI 1)), none]) okX8_set rfl rfl ?_
  repeat (first | refine e2_step rfl rfl ?_ | refine e2_get rfl (by first | exact hi | decide) rfl rfl ?_)
  refine e2_fs (c_isIn (nI 11) (nI 0) (nI 10)) rfl rfl ⟨rfl, rfl, rfl⟩ rfl rfl rfl ?_
  rw [show isInB (nI 11) (nI 0) (nI 10) = false by decide]
  refine e2_if rfl rfl (fun _ => ?_) (fun z => absurd rfl z)
  repeat (first | refine e2_step rfl rfl ?_ | refine e2_get rfl (by first | exact hi | decide) rfl rfl ?_)
  exact e2_iret rfl rfl ⟨rfl, rfl⟩
theorem R_goOut : Lk ε jX8_goOut [.inl (nI 6)] G0 (-1) := by
  intro G hG
  refine FL.same ?_
  refine C2.of (ls := [some (.inr (0, 30)), some (.inl (nI 6))]) okX8_goOut rfl rfl ?_
  repeat (first | refine e2_step rfl rfl ?_ | refine e2_get rfl (by first | exact hi | decide) rfl rfl ?_)
  refine e2_fs (c_isCarrier (nI 6)) rfl rfl ⟨rfl, rfl, rfl⟩ rfl rfl rfl ?_
  rw [show isInB (nI 6) (nI 0) (nI 5) = false by decide]
  refine e2_if rfl rfl (fun z => absurd rfl z) (fun _ => ?_)
  repeat (first | refine e2_step rfl rfl ?_ | refine e2_get rfl (by first | exact hi | decide) rfl rfl ?_)
  exact e2_iret rfl rfl ⟨rfl, rfl⟩
theorem R_take : Lk ε jX8_take [.inl (nI 2)] G0 (-1) := by
  intro G hG
  refine FL.same ?_
  refine C2.of (ls := [some (.inr (0, 30)), some (.inl (nI 2))]) okX8_take rfl rfl ?_
  repeat (first | refine e2_step rfl rfl ?_ | refine e2_get rfl (by first | exact hi | decide) rfl rfl ?_)
  refine e2_fs (c_isSlot (nI 2)) rfl rfl ⟨rfl, rfl, rfl⟩ rfl rfl rfl ?_
  rw [show isInB (nI 2) (nI 0) (nI 1) = false by decide]
  refine e2_if rfl rfl (fun z => absurd rfl z) (fun _ => ?_)
  repeat (first | refine e2_step rfl rfl ?_ | refine e2_get rfl (by first | exact hi | decide) rfl rfl ?_)
  exact e2_iret rfl rfl ⟨rfl, rfl⟩
theorem R_count : Lk ε jX8_count [.inl (nI 19)] G0 (-1) := by
  intro G hG
  refine FL.same ?_
  refine C2.of (ls := [some (.inr (0, 30)), some (.inl (nI 19))]) okX8_count rfl rfl ?_
  repeat (first | refine e2_step rfl rfl ?_ | refine e2_get rfl (by first | exact hi | decide) rfl rfl ?_)
  refine e2_fs (c_isIn (nI 19) (nI 0) (nI 5)) rfl rfl ⟨rfl, rfl, rfl⟩ rfl rfl rfl ?_
  rw [show isInB (nI 19) (nI 0) (nI 5) = false by decide]
  refine e2_if rfl rfl (fun _ => ?_) (fun z => absurd rfl z)
  refine e2_step rfl rfl ?_
  refine e2_tabOut dX8_count_25 (Or.inr (by decide)) (tgt := 241) (by decide) ?_
  repeat (first | refine e2_step rfl rfl ?_ | refine e2_get rfl (by first | exact hi | decide) rfl rfl ?_)
  exact e2_iret rfl rfl ⟨rfl, rfl⟩
theorem R_inFrame : Lk ε jX8_inFrame [.inl (nI 8), .inl (nI 0)] G0 (-1) := by
  intro G hG
  refine FL.same ?_
  refine C2.of (ls := [some (.inr (0, 30)), some (.inl (nI 8)), some (.inl (nI 0))]) okX8_inFrame rfl rfl ?_
  repeat (first | refine e2_step rfl rfl ?_ | refine e2_get rfl (by first | exact hi | decide) rfl rfl ?_)
  refine e2_fs (c_isWalk (nI 8)) rfl rfl ⟨rfl, rfl, rfl⟩ rfl rfl rfl ?_
  rw [show isInB (nI 8) (nI 0) (nI 7) = false by decide]
  refine e2_if rfl rfl (fun _ => ?_) (fun z => absurd rfl z)
  repeat (first | refine e2_step rfl rfl ?_ | refine e2_get rfl (by first | exact hi | decide) rfl rfl ?_)
  exact e2_iret rfl rfl ⟨rfl, rfl⟩
theorem R_letter (h : IV (O G0 0) N Y) : Lk ε jX8_letter [.inl (nI 120), .inl (nI 0)] G0 (-1) := by
  intro G hG
  have h := hG.IVo h
  have hN2 := h.1.nle
  refine FL.same ?_
  have hb : isInB (nI 120) (nI 0) (nI N - nI 1) = false := by
    refine eq_false_of_ne_true (fun z => ?_)
    obtain ⟨l, hl, e⟩ := isIn_lt hN2 z
    have := (nI_eq (by decide) (by omega)).1 e
    omega
  refine C2.of (ls := [some (.inr (0, 30)), some (.inl (nI 120)), some (.inl (nI 0)), none]) okX8_letter rfl rfl ?_
  repeat (first | refine e2_step rfl rfl ?_ | refine e2_get rfl (by first | exact hi | decide) rfl rfl ?_)
  refine e2_fi (fo_same (i := 0) (v_hasF (by decide) hN2 h.1.cnt hb)) rfl rfl ⟨rfl, rfl, rfl⟩ rfl rfl rfl (by first | exact hi | decide) rfl rfl rfl ?_
  refine e2_if rfl rfl (fun z => absurd rfl z) (fun _ => ?_)
  repeat (first | refine e2_step rfl rfl ?_ | refine e2_get rfl (by first | exact hi | decide) rfl rfl ?_)
  exact e2_iret rfl rfl ⟨rfl, rfl⟩
end OB
end
section
/-! Operations: assign; the text that is empty. -/
section OC
variable {ε : EE} {J J' : JT} {pc : Nat} {ls : List (Option V0)} {st : List V0} {As : List V0} {G G' G0 G1 : GG} {V V' : VV} {i N Y d l w : Nat} {p c : Option Nat} {s a : Int32} {o : Nat → Int32} {Q : Option Int32 → GG → Prop}
theorem firstFrom_no {q : Nat → Bool} : ∀ k w, firstFrom q k w = -9 → w + k < 2 ^ 31 → ∀ j, w ≤ j → j < w + k → q j = false
  | 0, w, _, _, j, h1, h2 => by omega
  | k + 1, w, h, hb, j, h1, h2 => by
    have e : firstFrom q (k + 1) w = if q w then nI w else firstFrom q k (w + 1) := rfl
    rw [e] at h
    by_cases hq : q w = true
    · rw [if_pos hq] at h
      exact absurd h (nI_n9 (by omega))
    · rw [if_neg hq] at h
      by_cases hj : j = w
      · rw [hj]
        exact eq_false_of_ne_true hq
      · exact firstFrom_no k (w + 1) h (by omega) j (by omega) (by omega)
/-- p is the carrier that has walk w -/
def Has (V : VV) (w : Nat) (p : Option Nat) : Prop := ofwV V (nI w) = oI p ∧ (∀ a, p = some a → a < 6 ∧ V 13 a = nI w) ∧ (p = none → ∀ a, a < 6 → ¬ V 13 a = nI w)
theorem has_of (V : VV) (w : Nat) : ∃ p, Has V w p := by
  unfold Has ofwV
  rcases firstFrom_c (fun c => decide (V 13 c = nI w)) 6 0 with h | ⟨j, -, j2, j3, j4⟩
  · refine ⟨none, h, (fun a ha => by cases ha), fun _ a ha z => ?_⟩
    have := firstFrom_no 6 0 h (by decide) a (by omega) (by omega)
    rw [decide_eq_true z] at this
    cases this
  · refine ⟨some j, j3, fun a ha => ?_, fun z => by cases z⟩
    cases ha
    exact ⟨by omega, of_decide_eq_true j4⟩
theorem IV.asg (h : IV V N Y) (hw : w < 8) (hp : Has V w p) (hp0 : ∀ a, p = some a → V 14 a = nI 0) (hc : ∀ b, c = some b → b < 6 ∧ (V 13 b = -9 ∨ V 13 b = nI w)) : IV (asV V w p c) N Y := by
  obtain ⟨⟨a1, ⟨k1, k2⟩, fr, e⟩, hh, hd⟩ := h
  obtain ⟨-, h1, h2⟩ := hp
  have o : ∀ kk, kk ≠ 13 → asV V w p c kk = V kk := fun kk hk => asV_o hk
  have hw9 : ¬ nI w = -9 := nI_n9 (by omega)
  -- nobody else has the walk
  have hun : ∀ a, a < 6 → V 13 a = nI w → p = some a := fun a ha z => by
    cases hpp : p with
    | none => exact absurd z (h2 hpp a ha)
    | some b =>
      obtain ⟨b1, b2⟩ := h1 b hpp
      rcases k2 a b ha b1 (z.trans b2.symm) with q | q
      · exact absurd (z.symm.trans q) hw9
      · rw [q]
  refine ⟨⟨a1.congr (o 0 (by decide)) (o 2 (by decide)) (o 3 (by decide)) (o 17 (by decide)), ⟨fun a ha => ?_, fun a b ha hb z => ?_⟩, fr.congr (o 7 (by decide)) (o 8 (by decide)) (o 11 (by decide)), fun l hl => ?_⟩, fun l hl z => ?_, ?_⟩
  · obtain ⟨c1, c2, c3⟩ := k1 a ha
    rw [o 14 (by decide), asV_13]
    refine ⟨c1, ?_, fun z => ?_⟩
    · by_cases hca : c = some a
      · rw [if_pos hca]
        exact Or.inr ⟨w, hw, rfl⟩
      · rw [if_neg hca]
        by_cases hpa : p = some a
        · rw [if_pos hpa]
          exact Or.inl rfl
        · rw [if_neg hpa]
          exact c2
    · by_cases hca : c = some a
      · rw [if_pos hca]
        exact hw9
      · rw [if_neg hca]
        by_cases hpa : p = some a
        · rw [hp0 a hpa] at z
          exact absurd z (by decide)
        · rw [if_neg hpa]
          exact c3 z
  · rw [asV_13, asV_13] at z
    rw [asV_13]
    by_cases hca : c = some a
    · rw [if_pos hca] at z ⊢
      by_cases hcb : c = some b
      · exact Or.inr (Option.some.inj (hca.symm.trans hcb))
      · rw [if_neg hcb] at z
        by_cases hpb : p = some b
        · rw [if_pos hpb] at z
          exact absurd z hw9
        · rw [if_neg hpb] at z
          exact absurd (hun b hb z.symm) hpb
    · rw [if_neg hca] at z ⊢
      by_cases hpa : p = some a
      · rw [if_pos hpa]
        exact Or.inl rfl
      · rw [if_neg hpa] at z ⊢
        by_cases hcb : c = some b
        · rw [if_pos hcb] at z
          exact absurd (hun a ha z) hpa
        · rw [if_neg hcb] at z
          by_cases hpb : p = some b
          · rw [if_pos hpb] at z
            exact Or.inl z
          · rw [if_neg hpb] at z
            exact k2 a b ha hb z
  · have := e l hl
    unfold IL at this ⊢
    rw [o 4 (by decide), o 5 (by decide), o 7 (by decide), o 6 (by decide), o 8 (by decide), o 10 (by decide), o 9 (by decide), o 0 (by decide)]
    exact this
  · rw [o 7 (by decide)] at z
    rw [o 8 (by decide), o 14 (by decide)]
    exact hh l hl z
  · unfold ID at hd ⊢
    rw [o 15 (by decide), hd, P7_congr (o 7 (by decide))]
theorem asg_can (hc : Can V) : Can (asV V w p c) := hc.of (fun kk hk => asV_o (by omega))
theorem asg_has (h : IV (asV V w p c) N Y) (hp : Has V w p) (hw : w < 8) (hc : ∀ b, c = some b → b < 6) (hi : IV V N Y) : Has (asV V w p c) w c := by
  obtain ⟨q, e, e1, e2⟩ := has_of (asV V w p c) w
  have hw9 : ¬ nI w = -9 := nI_n9 (by omega)
  have hq : q = c := by
    cases hcc : c with
    | none =>
      cases hqq : q with
      | none => rfl
      | some a =>
        exfalso
        obtain ⟨z1, z2⟩ := e1 a hqq
        rw [asV_13, if_neg (by rw [hcc]; exact fun z => by cases z)] at z2
        by_cases hpa : p = some a
        · rw [if_pos hpa] at z2
          exact hw9 z2.symm
        · rw [if_neg hpa] at z2
          cases hpp : p with
          | none => exact hp.2.2 hpp a z1 z2
          | some b =>
            obtain ⟨b1, b2⟩ := hp.2.1 b hpp
            rcases hi.1.2.1.2 a b z1 b1 (z2.trans b2.symm) with y | y
            · exact hw9 (z2.symm.trans y)
            · exact hpa (by rw [hpp, y])
    | some b =>
      have hb6 := hc b hcc
      have e13 : asV V w p c 13 b = nI w := by rw [asV_13, if_pos hcc]
      cases hqq : q with
      | none => exact absurd e13 (e2 hqq b hb6)
      | some a =>
        obtain ⟨z1, z2⟩ := e1 a hqq
        rcases h.1.2.1.2 a b z1 hb6 (z2.trans e13.symm) with y | y
        · exact absurd (z2.symm.trans y) hw9
        · rw [y]
  rw [hq] at e e1 e2
  exact ⟨e, e1, e2⟩
theorem as_in (hw : w < 8) (hc6 : ∀ b, c = some b → b < 6) (hp : Has (O G 0) w p) : ∀ Q, E2 ε jX8_assign 36 [some (.inr (0, 30)), some (.inl (nI w)), some (.inl (cI c)), some (.inr (0, 12)), some (.inl (oI p))] [] G Q → E2 ε jX8_assign 0 [some (.inr (0, 30)), some (.inl (nI w)), some (.inl (cI c)), none, none] [] G Q := by
  intro Q k
  have hcin : isInB (cI c) (-1) (nI 5) = true := by
    rw [isIn_m1]
    cases c with
    | none => exact Or.inl rfl
    | some b => exact Or.inr (isIn_T (by have := hc6 b rfl; omega) (by decide))
  repeat (first | refine e2_step rfl rfl ?_ | refine e2_get rfl (by first | exact hi | decide) rfl rfl ?_)
  refine e2_fs (c_isWalkT hw) rfl rfl ⟨rfl, rfl, rfl⟩ rfl rfl rfl ?_
  refine e2_if rfl rfl (fun z => absurd z (by decide)) (fun _ => ?_)
  repeat (first | refine e2_step rfl rfl ?_ | refine e2_get rfl (by first | exact hi | decide) rfl rfl ?_)
  refine e2_fs (c_isIn (cI c) (-1) (nI 5)) rfl rfl ⟨rfl, rfl, rfl⟩ rfl rfl rfl ?_
  rw [hcin]
  refine e2_if rfl rfl (fun _ => ?_) (fun z => absurd (by decide) z)
  repeat (first | refine e2_step rfl rfl ?_ | refine e2_get rfl (by first | exact hi | decide) rfl rfl ?_)
  refine e2_fi (fo_same (i := 0) (k_ofWalk (by decide) (nI w))) rfl rfl ⟨rfl, rfl, rfl⟩ rfl rfl rfl (by first | exact hi | decide) rfl rfl rfl ?_
  rw [hp.1]
  repeat (first | refine e2_stepS 36 rfl rfl rfl ?_)
  exact k
theorem as_64 (hc6 : ∀ b, c = some b → b < 6) (hel : ¬ ∃ b, c = some b ∧ ¬ O G 0 13 b = -9 ∧ ¬ O G 0 13 b = nI w) : ∀ Q, E2 ε jX8_assign 64 [some (.inr (0, 30)), some (.inl (nI w)), some (.inl (cI c)), some (.inr (0, 12)), some (.inl (oI p))] [] G Q → E2 ε jX8_assign 36 [some (.inr (0, 30)), some (.inl (nI w)), some (.inl (cI c)), some (.inr (0, 12)), some (.inl (oI p))] [] G Q := by
  intro Q k
  repeat (first | refine e2_step rfl rfl ?_ | refine e2_get rfl (by first | exact hi | decide) rfl rfl ?_)
  cases c with
  | none => exact e2_if rfl rfl (fun _ => k) (fun z => absurd (show (-1 : Int32) < 0 by decide) z)
  | some b =>
    have hb := hc6 b rfl
    refine e2_if rfl rfl (fun z => absurd (show nI b < 0 from z) (nI_pos (by omega))) (fun _ => ?_)
    repeat (first | refine e2_step rfl rfl ?_ | refine e2_get rfl (by first | exact hi | decide) rfl rfl ?_)
    refine e2_iald (i := 0) (kk := 13) b rfl rfl (by decide) rfl hb ?_
    repeat (first | refine e2_step rfl rfl ?_ | refine e2_get rfl (by first | exact hi | decide) rfl rfl ?_)
    refine e2_if rfl rfl (fun _ => k) (fun e1 => ?_)
    repeat (first | refine e2_step rfl rfl ?_ | refine e2_get rfl (by first | exact hi | decide) rfl rfl ?_)
    refine e2_iald (i := 0) (kk := 13) b rfl rfl (by decide) rfl hb ?_
    repeat (first | refine e2_step rfl rfl ?_ | refine e2_get rfl (by first | exact hi | decide) rfl rfl ?_)
    exact e2_if rfl rfl (fun _ => k) (fun e2 => absurd ⟨b, rfl, e1, e2⟩ hel)
theorem D_assign (h : SG G0) (hN : IV (O G0 0) N 500) (hw : w < 8) (hp : Has (O G0 0) w p) (hp0 : ∀ a, p = some a → O G0 0 14 a = nI 0) (hc : ∀ b, c = some b → b < 6 ∧ (O G0 0 13 b = -9 ∨ O G0 0 13 b = nI w)) : Op ε jX8_assign [.inl (nI w), .inl (cI c)] G0 (oI p) (asV (O G0 0) w p c) := by
  refine Op.of (fun G hG => ?_)
  rw [← hG.oo (by decide)] at hp hp0 hc ⊢
  have hN := hG.IVo hN
  have h := hG.sg h
  have hi : (0 : Nat) < 19 := by decide
  have hel : ¬ ∃ b, c = some b ∧ ¬ O G 0 13 b = -9 ∧ ¬ O G 0 13 b = nI w := fun ⟨b, b1, b2, b3⟩ => by
    rcases (hc b b1).2 with z | z
    · exact b2 z
    · exact b3 z
  refine C2.of (ls := [some (.inr (0, 30)), some (.inl (nI w)), some (.inl (cI c)), none, none]) okX8_assign rfl rfl ?_
  refine as_in hw (fun b hb => (hc b hb).1) hp _ (as_64 (fun b hb => (hc b hb).1) hel _ ?_)
  have h82 : E2 ε jX8_assign 82 [some (.inr (0, 30)), some (.inl (nI w)), some (.inl (cI c)), some (.inr (0, 12)), some (.inl (oI p))] [] G (fun v G1 => v = some (oI p) ∧ Dn G G1 (asV (O G 0) w p c)) := by
    repeat (first | refine e2_step rfl rfl ?_ | refine e2_get rfl (by first | exact hi | decide) rfl rfl ?_)
    refine e2_callVv rfl ⟨rfl, rfl, rfl⟩ rfl rfl rfl rfl (by decide) rfl rfl rfl (q_rem h) (fun G1 z => ?_)
    obtain ⟨-, hQ⟩ := z
    have e0 := hQ.oo (j := 0) (by omega)
    have hfin := hQ.off (V' := asV (O G 0) w p c) (s := G1 0 40 1) (o := G1 0 41) h (asg_can O_can) ⟨N, hN.asg hw hp hp0 hc⟩
    rw [← e0] at hfin ⊢
    have h107 : E2 ε jX8_assign 107 [some (.inr (0, 30)), some (.inl (nI w)), some (.inl (cI c)), some (.inr (0, 12)), some (.inl (oI p))] [] (cG G1 0 (asP (O G1 0) p) (G1 0 40 1) (G1 0 41)) (fun v G2 => v = some (oI p) ∧ Dn G G2 (asV (O G1 0) w p c)) := by
      repeat (first | refine e2_step rfl rfl ?_ | refine e2_get rfl (by first | exact hi | decide) rfl rfl ?_)
      cases c with
      | none =>
        refine e2_if rfl rfl (fun _ => ?_) (fun z => absurd (show (-1 : Int32) < 0 by decide) z)
        repeat (first | refine e2_step rfl rfl ?_ | refine e2_get rfl (by first | exact hi | decide) rfl rfl ?_)
        exact e2_iret rfl rfl ⟨rfl, hfin⟩
      | some b =>
        have hb := (hc b rfl).1
        refine e2_if rfl rfl (fun z => absurd (show nI b < 0 from z) (nI_pos (by omega))) (fun _ => ?_)
        repeat (first | refine e2_step rfl rfl ?_ | refine e2c_get hi rfl rfl rfl rfl ?_ | refine e2c_lget rfl rfl ?_ | refine e2c_iald _ hi rfl rfl rfl rfl (by omega) ?_ | refine e2c_lald _ rfl rfl (by omega) ?_)
        refine e2c_iast b hi rfl rfl rfl rfl hb ?_
        repeat (first | refine e2_step rfl rfl ?_ | refine e2_get rfl (by first | exact hi | decide) rfl rfl ?_)
        exact e2_iret rfl rfl ⟨rfl, hfin⟩
    refine e2_cGin 0 ?_
    repeat (first | refine e2_step rfl rfl ?_ | refine e2_get rfl (by first | exact hi | decide) rfl rfl ?_)
    cases p with
    | none =>
      refine e2_if rfl rfl (fun _ => ?_) (fun z => absurd (show (-9 : Int32) < 0 by decide) z)
      exact h107
    | some a =>
      have ha := (hp.2.1 a rfl).1
      refine e2_if rfl rfl (fun z => absurd (show nI a < 0 from z) (nI_pos (by omega))) (fun _ => ?_)
      repeat (first | refine e2_step rfl rfl ?_ | refine e2c_get hi rfl rfl rfl rfl ?_ | refine e2c_lget rfl rfl ?_ | refine e2c_iald _ hi rfl rfl rfl rfl (by omega) ?_ | refine e2c_lald _ rfl rfl (by omega) ?_)
      refine e2c_iast a hi rfl rfl rfl rfl ha ?_
      exact h107
  repeat (first | refine e2_step rfl rfl ?_ | refine e2_get rfl (by first | exact hi | decide) rfl rfl ?_)
  cases p with
  | none => exact e2_if rfl rfl (fun _ => h82) (fun z => absurd (show (-9 : Int32) < 0 by decide) z)
  | some a =>
    have ha := (hp.2.1 a rfl).1
    refine e2_if rfl rfl (fun z => absurd (show nI a < 0 from z) (nI_pos (by omega))) (fun _ => ?_)
    repeat (first | refine e2_step rfl rfl ?_ | refine e2_get rfl (by first | exact hi | decide) rfl rfl ?_)
    refine e2_zald (i := 0) (kk := 14) a rfl rfl (by decide) rfl ha ?_
    rw [show G 0 14 a = nI 0 from hp0 a rfl]
    exact e2_if rfl rfl (fun _ => h82) (fun z => absurd rfl z)
theorem L_assignNo (hw : w < 8) (hp : Has (O G0 0) w p) (hc6 : ∀ b, c = some b → b < 6) (hno : (∃ b, c = some b ∧ ¬ O G0 0 13 b = -9 ∧ ¬ O G0 0 13 b = nI w) ∨ ∃ a, p = some a ∧ O G0 0 14 a = nI 1) : Lk ε jX8_assign [.inl (nI w), .inl (cI c)] G0 (-2) := by
  intro G hG
  rw [← hG.oo (by decide)] at hp hno
  refine FL.same ?_
  refine C2.of (ls := [some (.inr (0, 30)), some (.inl (nI w)), some (.inl (cI c)), none, none]) okX8_assign rfl rfl ?_
  refine as_in hw hc6 hp _ ?_
  by_cases hel : ∃ b, c = some b ∧ ¬ O G 0 13 b = -9 ∧ ¬ O G 0 13 b = nI w
  · obtain ⟨b, rfl, b2, b3⟩ := hel
    have hb := hc6 b rfl
    repeat (first | refine e2_step rfl rfl ?_ | refine e2_get rfl (by first | exact hi | decide) rfl rfl ?_)
    refine e2_if rfl rfl (fun z => absurd (show nI b < 0 from z) (nI_pos (by omega))) (fun _ => ?_)
    repeat (first | refine e2_step rfl rfl ?_ | refine e2_get rfl (by first | exact hi | decide) rfl rfl ?_)
    refine e2_iald (i := 0) (kk := 13) b rfl rfl (by decide) rfl hb ?_
    repeat (first | refine e2_step rfl rfl ?_ | refine e2_get rfl (by first | exact hi | decide) rfl rfl ?_)
    refine e2_if rfl rfl (fun z => absurd z b2) (fun _ => ?_)
    repeat (first | refine e2_step rfl rfl ?_ | refine e2_get rfl (by first | exact hi | decide) rfl rfl ?_)
    refine e2_iald (i := 0) (kk := 13) b rfl rfl (by decide) rfl hb ?_
    repeat (first | refine e2_step rfl rfl ?_ | refine e2_get rfl (by first | exact hi | decide) rfl rfl ?_)
    refine e2_if rfl rfl (fun z => absurd z b3) (fun _ => ?_)
    repeat (first | refine e2_step rfl rfl ?_ | refine e2_get rfl (by first | exact hi | decide) rfl rfl ?_)
    exact e2_iret rfl rfl ⟨rfl, rfl⟩
  · refine as_64 hc6 hel _ ?_
    rcases hno with z | ⟨a, rfl, e1⟩
    · exact absurd z hel
    · have ha := (hp.2.1 a rfl).1
      repeat (first | refine e2_step rfl rfl ?_ | refine e2_get rfl (by first | exact hi | decide) rfl rfl ?_)
      refine e2_if rfl rfl (fun z => absurd (show nI a < 0 from z) (nI_pos (by omega))) (fun _ => ?_)
      repeat (first | refine e2_step rfl rfl ?_ | refine e2_get rfl (by first | exact hi | decide) rfl rfl ?_)
      refine e2_zald (i := 0) (kk := 14) a rfl rfl (by decide) rfl ha ?_
      rw [show G 0 14 a = nI 1 from e1]
      refine e2_if rfl rfl (fun z => absurd z (by decide)) (fun _ => ?_)
      repeat (first | refine e2_step rfl rfl ?_ | refine e2_get rfl (by first | exact hi | decide) rfl rfl ?_)
      exact e2_iret rfl rfl ⟨rfl, rfl⟩
theorem xG_o {t f u w x : Nat → Int32} {i kk : Nat} (h : kk < 33 ∨ 37 < kk) : xG G t f u w x i kk = G i kk := by
  unfold xG
  rw [setA_k _ _ _ _ _ _ (by omega), setA_k _ _ _ _ _ _ (by omega), setA_k _ _ _ _ _ _ (by omega), setA_k _ _ _ _ _ _ (by omega), setA_k _ _ _ _ _ _ (by omega)]
/-- the empty text: a fault at its first place -/
theorem D_setRanges (h : SG G) : C2 ε jX8_setRanges [.inr (0, 30)] G (fun v G' => v = some (-1000) ∧ SG G' ∧ O G' 0 = O G 0 ∧ G' 0 22 = G 0 22 ∧ G' 0 31 = G 0 31) := by
  have hx : G 0 33 1 = nI 0 := h.2.2.2
  have hr := x_read (ε := ε) (G := G) (t := G 0 34) (f := G 0 35) (u := G 0 36) (w := G 0 37) (x := G 0 33) hx (by decide)
  rw [xG_self] at hr
  refine C2.of (ls := [some (.inr (0, 30)), none, none]) okX8_setRanges rfl rfl ?_
  repeat (first | refine e2_step rfl rfl ?_ | refine e2_get rfl (by first | exact hi | decide) rfl rfl ?_)
  refine e2_callVi rfl ⟨rfl, rfl, rfl⟩ rfl rfl rfl rfl (by decide) rfl rfl rfl hr (fun r G1 z => ?_)
  obtain ⟨f', u', w', i', a', br', z1, rfl, -⟩ := z
  have hp : fltI (prs (G 0 34) 0 (0 + 1) 0).2 = nI 0 := rfl
  rw [hp] at z1
  cases z1
  repeat (first | refine e2_step rfl rfl ?_ | refine e2_get rfl (by first | exact hi | decide) rfl rfl ?_)
  refine e2_if rfl rfl (fun z => absurd z (by decide)) (fun _ => ?_)
  repeat (first | refine e2_step rfl rfl ?_ | refine e2_get rfl (by first | exact hi | decide) rfl rfl ?_)
  have eO : ∀ j, O (xG G (G 0 34) f' u' w' (xst (G 0 33) i' a' br')) j = O G j := fun j => O_eq (fun kk hk => xG_o (by omega))
  have e33 : xG G (G 0 34) f' u' w' (xst (G 0 33) i' a' br') 0 33 1 = nI 0 := by
    unfold xG
    rw [setA_s]
    exact hx
  have e22 : xG G (G 0 34) f' u' w' (xst (G 0 33) i' a' br') 0 22 = G 0 22 := xG_o (by omega)
  have e31 : xG G (G 0 34) f' u' w' (xst (G 0 33) i' a' br') 0 31 = G 0 31 := xG_o (by omega)
  have e32 : xG G (G 0 34) f' u' w' (xst (G 0 33) i' a' br') 0 32 = G 0 32 := xG_o (by omega)
  obtain ⟨h1, h2, ⟨d, hm, h3⟩, -⟩ := h
  refine e2_iret rfl rfl ⟨rfl, ⟨by rw [eO]; exact h1, fun t ht => ?_, ⟨d, hm, h3.same e31 e32⟩, e33⟩, eO 0, e22, e31⟩
  rw [e22, eO]
  exact h2 t ht
end OC
end
section
/-! Words of the tables for the law's own constants. -/
theorem kc_all : ∀ q ∈ ([(10, 7, 2147483647)] : List (Nat × Nat × Int32)), Cond.constant (nmC q.1) q.2.1 q.2.2 ∈ Tg := List.forall_mem_cons.mpr ⟨tg_mem 645 (by decide +kernel) rfl, fun _ h => absurd h List.not_mem_nil⟩
theorem kl_46 : Cond.constantLong RL 46 7 ∈ Tg := tg_mem 637 (by decide +kernel) rfl
theorem kl_48 : Cond.constantLong RL 48 31 ∈ Tg := tg_mem 638 (by decide +kernel) rfl
end
section
/-! The law's own methods: low, hours. -/
section MA
variable {ε : EE} {J J' : JT} {pc : Nat} {ls : List (Option V0)} {st : List V0} {As : List V0} {G G' G0 G1 : GG} {V V' : VV} {i N Y d l w : Nat} {s a : Int32} {o : Nat → Int32} {Q : Option Int32 → GG → Prop}
theorem C3.of {As : List V0} {ls : List (Option V0)} (hT : e_T J) (hls : e_in As (jm J) = ls) (hlen : Nat.ble As.length (jm J) = true) (h : E3 ε J 0 ls [] G0 Q) : ∀ G, lk1 G0 G → C2 ε J As G Q := fun G hG => C2.of hT hls hlen (h G hG)
theorem ldc_ok : ∀ q ∈ ([(10, 7, 2147483647)] : List (Nat × Nat × Int32)), Cond.constant (nmC q.1) q.2.1 q.2.2 ∈ Tg := kc_all
theorem and_nn (v : Int32) : ∃ k, k < 2 ^ 31 ∧ v &&& 2147483647 = nI k := by
  have hm : (v &&& 2147483647).toBitVec.msb = false := by
    rw [Int32.toBitVec_and, BitVec.msb_and]
    have : (2147483647 : Int32).toBitVec.msb = false := by decide
    rw [this, Bool.and_false]
  have ht : (v &&& 2147483647).toInt = ((v &&& 2147483647).toBitVec.toNat : Int) := BitVec.toInt_eq_toNat_of_msb hm
  have hl : (v &&& 2147483647).toBitVec.toNat < 2 ^ 31 := by
    have := BitVec.toNat_lt_of_msb_false hm
    exact this
  refine ⟨(v &&& 2147483647).toBitVec.toNat, hl, Int32.toInt_inj.1 ?_⟩
  rw [ht, nI_toInt hl]
/-- what low answers -/
def lowI (v : Int32) (n : Nat) : Int32 := (v &&& 2147483647) - (v &&& 2147483647) / nI n * nI n
theorem lowI_of (v : Int32) {n : Nat} (h0 : 0 < n) (hn : n < 1000) : ∃ r, r < n ∧ lowI v n = nI r := by
  obtain ⟨k, hk, e⟩ := and_nn v
  refine ⟨k % n, Nat.mod_lt _ h0, ?_⟩
  unfold lowI
  have h1 := Nat.div_add_mod k n
  have h2 : k / n * n ≤ k := Nat.div_mul_le_self k n
  have h3 : k - k / n * n = k % n := by
    rw [Nat.mul_comm] at h1
    omega
  rw [e, pk_div hk h0 (by omega), pk_mul, pk_sub h2, h3]
theorem c_low (v : Int32) {n : Nat} (h0 : 0 < n) (hn : n < 1000) : F2 ε jL_low [.inl v, .inl (nI n)] G (some (lowI v n)) G := by
  refine C2.of (ls := [some (.inl v), some (.inl (nI n))]) okL_low rfl rfl ?_
  refine e2_step rfl rfl ?_
  refine e_ldc rfl ldc_ok ?_
  refine e2_step rfl rfl ?_
  refine e2_step rfl rfl ?_
  refine e_rem rfl (fun z => ?_) ?_
  · have := (nI_eq (b := 0) (by omega) (by decide)).1 z
    omega
  exact e2_iret rfl rfl ⟨rfl, rfl⟩
theorem L_low (v : Int32) {n : Nat} (h0 : 0 < n) (hn : n < 1000) : Ls ε jL_low [.inl v, .inl (nI n)] G0 (lowI v n) := fun G _ => C2.post (fun v G' z => ⟨z.1, by rw [z.2]; exact lk1.rf⟩) (c_low v h0 hn)
/-- behind an action: nothing has changed, or one state is recorded -/
def After (G0 G' : GG) : Prop := lk1 G0 G' ∨ ∃ V', Dn G0 G' V'
theorem Dn.lk (h : Dn G0 G1 V') (k : lk1 G1 G') : Dn G0 G' V' := by
  obtain ⟨a, b, d, c, e⟩ := h
  exact ⟨k.sg a, by rw [k.oo (by decide)]; exact b, d, k.top c, e⟩
def HQ (G0 : GG) (v : Option Int32) (G' : GG) : Prop := v = some (nI 1) ∧ After G0 G'
theorem HQ.lk : ∀ G', lk1 G0 G' → HQ G0 (some (nI 1)) G' := fun _ h => ⟨rfl, Or.inl h⟩
theorem HQ.dn (h : Dn G0 G1 V') : ∀ G', lk1 G1 G' → HQ G0 (some (nI 1)) G' := fun _ k => ⟨rfl, Or.inr ⟨V', h.lk k⟩⟩
theorem L_c0 (h : IV (O G0 0) N Y) : Lk ε jX8_count [.inl (nI 0)] G0 (nI (P7 (O G0 0) 0 N)) := L_count h (by decide)
theorem L_c2 (h : IV (O G0 0) N Y) : Lk ε jX8_count [.inl (nI 2)] G0 (nI (P7 (O G0 0) 2 N)) := L_count h (by decide)
theorem L_c6 (h : IV (O G0 0) N Y) : Lk ε jX8_count [.inl (nI 6)] G0 (nI N) := L_count h (by decide)
theorem L_c7 (h : IV (O G0 0) N Y) {y : Nat} (hy : O G0 0 0 4 = nI y) : Lk ε jX8_count [.inl (nI 7)] G0 (nI y) := by
  rw [← hy]
  exact L_count h (k := 7) (by decide)
theorem L_c13 (h : IV (O G0 0) N Y) {y : Nat} (hy : O G0 0 0 5 = nI y) : Lk ε jX8_count [.inl (nI 13)] G0 (nI y) := by
  rw [← hy]
  exact L_count h (k := 13) (by decide)
theorem L_c14 (h : IV (O G0 0) N Y) {y : Nat} (hy : O G0 0 0 6 = nI y) : Lk ε jX8_count [.inl (nI 14)] G0 (nI y) := by
  rw [← hy]
  exact L_count h (k := 14) (by decide)
theorem L_c15 (h : IV (O G0 0) N Y) {y : Nat} (hy : O G0 0 0 7 = nI y) : Lk ε jX8_count [.inl (nI 15)] G0 (nI y) := by
  rw [← hy]
  exact L_count h (k := 15) (by decide)
-- what clearIn tells ahead of an hour and behind it
theorem clr_c : ∀ k m (V : VV), clrF N k V m = -9 ∨ ∃ j, m ≤ j ∧ j < m + k ∧ clrF N k V m = nI j
  | 0, m, V => Or.inl rfl
  | k + 1, m, V => by
    have e : clrF N (k + 1) V m = if wtn V N = 0 then nI m else if hrsn V N = 0 then -9 else clrF N k (hrsV V N) (m + 1) := rfl
    rw [e]
    split
    · exact Or.inr ⟨m, Nat.le_refl _, by omega, rfl⟩
    · split
      · exact Or.inl rfl
      · rcases clr_c k (m + 1) (hrsV V N) with z | ⟨j, j1, j2, j3⟩
        · exact Or.inl z
        · exact Or.inr ⟨j, by omega, by omega, j3⟩
theorem clr_shift : ∀ k m (V : VV) j, clrF N k V (m + 1) = nI (j + 1) → m + k < 1000 → j < 1000 → clrF N (k + 1) V m = nI j
  | 0, m, V, j, h, _, _ => absurd (show nI (j + 1) = -9 from h.symm) (nI_n9 (by omega))
  | k + 1, m, V, j, h, hk, hj => by
    have e : clrF N (k + 1) V (m + 1) = if wtn V N = 0 then nI (m + 1) else if hrsn V N = 0 then -9 else clrF N k (hrsV V N) (m + 1 + 1) := rfl
    have e2 : clrF N (k + 1 + 1) V m = if wtn V N = 0 then nI m else if hrsn V N = 0 then -9 else clrF N (k + 1) (hrsV V N) (m + 1) := rfl
    rw [e] at h
    rw [e2]
    by_cases h1 : wtn V N = 0
    · rw [if_pos h1] at h ⊢
      have := (nI_eq (by omega) (by omega)).1 h
      rw [show m = j by omega]
    · rw [if_neg h1] at h ⊢
      by_cases h2 : hrsn V N = 0
      · rw [if_pos h2] at h
        exact absurd h.symm (nI_n9 (by omega))
      · rw [if_neg h2] at h ⊢
        exact clr_shift k (m + 1) (hrsV V N) j h (by omega) hj
/-- the last comparison of hours -/
theorem clr_hour (h : IV V N Y) : (clrF N 61 V 0 = nI 0 ∧ wtn (hrsV V N) N = 0) ∨ (clrF N 61 V 0 = nI 1 ∧ wtn (hrsV V N) N = 0) ∨ (clrF N 61 V 0 = -9 ∧ ¬ wtn (hrsV V N) N = 0) ∨ ∃ j, j < 1000 ∧ clrF N 61 V 0 = nI (j + 2) ∧ ¬ wtn (hrsV V N) N = 0 ∧ clrF N 61 (hrsV V N) 0 = nI (j + 1) := by
  obtain ⟨-, -, -, -, -, -, -, h1, h2⟩ := hour_all h
  have e : clrF N 61 V 0 = if wtn V N = 0 then nI 0 else if hrsn V N = 0 then -9 else clrF N 60 (hrsV V N) (0 + 1) := rfl
  by_cases hw : wtn V N = 0
  · rw [if_pos hw] at e
    exact Or.inl ⟨e, by omega⟩
  · rw [if_neg hw] at e
    by_cases hn : hrsn V N = 0
    · rw [if_pos hn] at e
      exact Or.inr (Or.inr (Or.inl ⟨e, by omega⟩))
    · rw [if_neg hn] at e
      have e2 : clrF N 60 (hrsV V N) (0 + 1) = if wtn (hrsV V N) N = 0 then nI (0 + 1) else if hrsn (hrsV V N) N = 0 then -9 else clrF N 59 (hrsV (hrsV V N) N) (0 + 1 + 1) := rfl
      by_cases hw2 : wtn (hrsV V N) N = 0
      · rw [if_pos hw2] at e2
        exact Or.inr (Or.inl ⟨e.trans e2, hw2⟩)
      · rcases clr_c (N := N) 60 (0 + 1) (hrsV V N) with z | ⟨j, j1, j2, j3⟩
        · exact Or.inr (Or.inr (Or.inl ⟨e.trans z, hw2⟩))
        · have j4 : j ≠ 1 := fun q => by
            rw [if_neg hw2] at e2
            by_cases hn2 : hrsn (hrsV V N) N = 0
            · rw [if_pos hn2, j3] at e2
              exact absurd e2 (nI_n9 (by omega))
            · rw [if_neg hn2] at e2
              rcases clr_c (N := N) 59 (0 + 1 + 1) (hrsV (hrsV V N) N) with y | ⟨j', y1, y2, y3⟩
              · rw [y, j3] at e2
                exact absurd e2 (nI_n9 (by omega))
              · rw [y3, j3] at e2
                have := (nI_eq (by omega) (by omega)).1 e2
                omega
          refine Or.inr (Or.inr (Or.inr ⟨j - 2, by omega, ?_, hw2, ?_⟩))
          · rw [e, j3, show j - 2 + 2 = j by omega]
          · exact clr_shift 60 0 (hrsV V N) (j - 2 + 1) (by rw [j3, show j - 2 + 1 + 1 = j by omega]) (by omega) (by omega)
end MA
end
section
/-! The law's hours. -/
section MB
variable {ε : EE} {G G' G0 G1 : GG} {V V' : VV} {N Y : Nat}
theorem wtn_le : wtn V N ≤ 2 * N := by
  have h1 : P7 V 0 N ≤ N := P7_le
  have h2 : P7 V 2 N ≤ N := P7_le
  unfold wtn
  omega
set_option maxHeartbeats 2000000 in
theorem H_hours (h : SG G0) : ∀ G, lk1 G0 G → C2 ε jL_hours [.inr (0, 30)] G (HQ G0) := by
  obtain ⟨N, hN⟩ := h.1
  obtain ⟨y, y500, hy⟩ := hN.1.1.2.2.2.2.1
  obtain ⟨u, u2, hu⟩ := hN.1.1.2.2.2.2.2.1
  obtain ⟨sp, sp1, sp40, hsp⟩ := hN.1.1.2.2.2.2.2.2.1
  have hN120 := hN.1.nle
  have hcl := clr_hour hN
  have hW := wtn_le (V := O G0 0) (N := N)
  have eW : nI (P7 (O G0 0) 0 N) + nI (P7 (O G0 0) 2 N) = nI (wtn (O G0 0) N) := nI_add' _ _
  refine C3.of (ls := [some (.inr (0, 30)), none, none, none, none, none, none, none]) okL_hours rfl rfl ?_
  repeat (first | refine e3_step rfl rfl ?_)
  refine e3_look (L_clearIn hN) rfl rfl ⟨rfl, rfl, rfl⟩ rfl rfl rfl rfl ?_
  repeat (first | refine e3_step rfl rfl ?_)
  refine e3_look (L_c13 hN hu) rfl rfl ⟨rfl, rfl, rfl⟩ rfl rfl rfl rfl ?_
  refine e3_look (L_wouldOverflow hN u2 hu) rfl rfl ⟨rfl, rfl, rfl⟩ rfl rfl rfl rfl ?_
  repeat (first | refine e3_step rfl rfl ?_)
  refine e3_look (L_c0 hN) rfl rfl ⟨rfl, rfl, rfl⟩ rfl rfl rfl rfl ?_
  repeat (first | refine e3_step rfl rfl ?_)
  refine e3_look (L_c2 hN) rfl rfl ⟨rfl, rfl, rfl⟩ rfl rfl rfl rfl ?_
  repeat (first | refine e3_step rfl rfl ?_)
  rw [eW]
  refine e3_look (L_c14 hN hsp) rfl rfl ⟨rfl, rfl, rfl⟩ rfl rfl rfl rfl ?_
  repeat (first | refine e3_step rfl rfl ?_)
  refine e3_look (L_c7 hN hy) rfl rfl ⟨rfl, rfl, rfl⟩ rfl rfl rfl rfl ?_
  repeat (first | refine e3_step rfl rfl ?_)
  by_cases hyy : y = 500
  · rw [hyy] at hy ⊢
    refine e3_look (L_hourFull hN hy) rfl rfl ⟨rfl, rfl, rfl⟩ rfl rfl rfl rfl ?_
    repeat (first | refine e3_step rfl rfl ?_)
    refine e3_if rfl rfl (fun z => absurd rfl z) (fun _ => ?_)
    repeat (first | refine e3_step rfl rfl ?_)
    refine e3_if rfl rfl (fun z => absurd rfl z) (fun _ => ?_)
    repeat (first | refine e3_step rfl rfl ?_)
    exact e3_zret rfl rfl rfl HQ.lk
  · have hlt : y < 500 := by omega
    have hT := hN.tight (by decide) hy (by omega)
    have hall := hour_all hT
    refine e3_op (D_hour h hN hy hlt) rfl rfl ⟨rfl, rfl, rfl⟩ rfl rfl rfl rfl (fun G1 zz => ?_)
    have e1 : O G1 0 = hrsV (O G0 0) N := zz.2.1
    have hN1 : IV (O G1 0) N 500 := by rw [e1]; exact hall.1.mono (by omega)
    have hy1 : O G1 0 0 4 = nI (y + 1) := by rw [e1, hall.2.2.2.1, hy, nI_add']
    have hp0 := hall.2.2.2.2.2.2.1
    have hle := hall.2.2.2.2.2.2.2.1
    rw [hsp, nI_clamp (by omega), ← e1] at hp0
    have hL := wtn_le (V := O G1 0) (N := N)
    have eL : nI (P7 (O G1 0) 0 N) + nI (P7 (O G1 0) 2 N) = nI (wtn (O G1 0) N) := nI_add' _ _
    rw [← e1] at hle hcl ⊢
    repeat (first | refine e3_step rfl rfl ?_)
    refine e3_if rfl rfl (fun _ => ?_) (fun q => absurd (fun w => hyy ((nI_eq (by omega) (by decide)).1 w)) q)
    repeat (first | refine e3_step rfl rfl ?_)
    refine e3_look (L_c0 hN1) rfl rfl ⟨rfl, rfl, rfl⟩ rfl rfl rfl rfl ?_
    repeat (first | refine e3_step rfl rfl ?_)
    refine e3_look (L_c2 hN1) rfl rfl ⟨rfl, rfl, rfl⟩ rfl rfl rfl rfl ?_
    repeat (first | refine e3_step rfl rfl ?_)
    rw [eL]
    refine e3_if rfl rfl (fun q => absurd rfl q) (fun _ => ?_)
    repeat (first | refine e3_step rfl rfl ?_)
    refine e3_look (L_c2 hN1) rfl rfl ⟨rfl, rfl, rfl⟩ rfl rfl rfl rfl ?_
    refine e3_if rfl rfl (fun q => absurd rfl q) (fun _ => ?_)
    repeat (first | refine e3_step rfl rfl ?_)
    refine e3_look (L_c7 hN1 hy1) rfl rfl ⟨rfl, rfl, rfl⟩ rfl rfl rfl rfl ?_
    repeat (first | refine e3_step rfl rfl ?_)
    rw [nI_add']
    refine e3_if rfl rfl (fun q => absurd rfl q) (fun _ => ?_)
    repeat (first | refine e3_step rfl rfl ?_)
    refine e3_look (L_c0 hN1) rfl rfl ⟨rfl, rfl, rfl⟩ rfl rfl rfl rfl ?_
    repeat (first | refine e3_step rfl rfl ?_)
    have h135 : E3 ε jL_hours 135 [some (.inr (0, 30)), some (.inl (clrF N 61 (O G0 0) 0)), some (.inl (nI (P7 (O G1 0) 2 N))), some (.inl (nI (wtn (O G0 0) N))), some (.inl (nI sp)), some (.inl (nI y)), some (.inl (nI (P7 (O G1 0) 2 N))), some (.inl (nI (wtn (O G1 0) N)))] [] G1 (HQ G0) := by
      repeat (first | refine e3_step rfl rfl ?_)
      refine e3_if rfl rfl (fun _ => ?_) (fun q => absurd ((nI_leI (by omega) (by omega)).2 hle) q)
      rcases hcl with ⟨c1, c2⟩ | ⟨c1, c2⟩ | ⟨c1, c2⟩ | ⟨j, j1, c1, c2, c3⟩
      · rw [c1, c2]
        repeat (first | refine e3_step rfl rfl ?_)
        refine e3_if rfl rfl (fun q => absurd rfl q) (fun _ => ?_)
        repeat (first | refine e3_step rfl rfl ?_)
        refine e3_if rfl rfl (fun q => absurd rfl q) (fun _ => ?_)
        repeat (first | refine e3_step rfl rfl ?_)
        exact e3_zret rfl rfl rfl (HQ.dn zz)
      · rw [c1, c2]
        repeat (first | refine e3_step rfl rfl ?_)
        refine e3_if rfl rfl (fun _ => ?_) (fun q => absurd (by decide) q)
        repeat (first | refine e3_step rfl rfl ?_)
        refine e3_if rfl rfl (fun q => absurd rfl q) (fun _ => ?_)
        repeat (first | refine e3_step rfl rfl ?_)
        refine e3_if rfl rfl (fun q => absurd rfl q) (fun _ => ?_)
        repeat (first | refine e3_step rfl rfl ?_)
        refine e3_if rfl rfl (fun q => absurd rfl q) (fun _ => ?_)
        repeat (first | refine e3_step rfl rfl ?_)
        refine e3_if rfl rfl (fun _ => ?_) (fun q => absurd (by decide) q)
        repeat (first | refine e3_step rfl rfl ?_)
        exact e3_zret rfl rfl rfl (HQ.dn zz)
      · rw [c1]
        have c2' : ¬ nI (wtn (O G1 0) N) = 0 := fun q => c2 ((nI_eq (b := 0) (by omega) (by decide)).1 q)
        repeat (first | refine e3_step rfl rfl ?_)
        refine e3_if rfl rfl (fun _ => ?_) (fun q => absurd (by decide) q)
        repeat (first | refine e3_step rfl rfl ?_)
        refine e3_if rfl rfl (fun _ => ?_) (fun q => absurd (by decide) q)
        repeat (first | refine e3_step rfl rfl ?_)
        refine e3_if rfl rfl (fun _ => ?_) (fun q => absurd c2' q)
        repeat (first | refine e3_step rfl rfl ?_)
        refine e3_if rfl rfl (fun q => absurd rfl q) (fun _ => ?_)
        repeat (first | refine e3_step rfl rfl ?_)
        refine e3_if rfl rfl (fun _ => ?_) (fun q => absurd (by decide) q)
        repeat (first | refine e3_step rfl rfl ?_)
        exact e3_zret rfl rfl rfl (HQ.dn zz)
      · rw [c1]
        have c2' : ¬ nI (wtn (O G1 0) N) = 0 := fun q => c2 ((nI_eq (b := 0) (by omega) (by decide)).1 q)
        have c4 : Lk ε jX8_clearIn [] G1 (nI (j + 1)) := by rw [← c3]; exact L_clearIn hN1
        repeat (first | refine e3_step rfl rfl ?_)
        refine e3_if rfl rfl (fun _ => ?_) (fun q => absurd (fun w => by
          have := (nI_eq (b := 0) (by omega) (by decide)).1 w
          omega) q)
        repeat (first | refine e3_step rfl rfl ?_)
        refine e3_if rfl rfl (fun _ => ?_) (fun q => absurd (fun w => by
          have := (nI_eq (b := 1) (by omega) (by decide)).1 w
          omega) q)
        repeat (first | refine e3_step rfl rfl ?_)
        refine e3_if rfl rfl (fun _ => ?_) (fun q => absurd c2' q)
        repeat (first | refine e3_step rfl rfl ?_)
        refine e3_if rfl rfl (fun q => absurd rfl q) (fun _ => ?_)
        repeat (first | refine e3_step rfl rfl ?_)
        refine e3_if rfl rfl (fun q => absurd ((nI_ltI (b := 2) (by omega) (by decide)).1 q) (by omega)) (fun _ => ?_)
        repeat (first | refine e3_step rfl rfl ?_)
        refine e3_look (c4) rfl rfl ⟨rfl, rfl, rfl⟩ rfl rfl rfl rfl ?_
        repeat (first | refine e3_step rfl rfl ?_)
        rw [pk_sub (a := j + 2) (b := 1) (by omega), show j + 2 - 1 = j + 1 by omega]
        refine e3_if rfl rfl (fun q => absurd rfl q) (fun _ => ?_)
        repeat (first | refine e3_step rfl rfl ?_)
        exact e3_zret rfl rfl rfl (HQ.dn zz)
    refine e3_if rfl rfl (fun q => ?_) (fun q => ?_)
    · have hq : wtn (O G0 0) N ≤ sp := (nI_leI (by omega) (by omega)).1 q
      rw [Nat.min_eq_left hq] at hp0
      have h0 : P7 (O G1 0) 0 N = 0 := by omega
      repeat (first | refine e3_step rfl rfl ?_)
      rw [h0]
      refine e3_if rfl rfl (fun q => absurd rfl q) (fun _ => ?_)
      exact h135
    · have hq : ¬ wtn (O G0 0) N ≤ sp := fun w => q ((nI_leI (by omega) (by omega)).2 w)
      rw [Nat.min_eq_right (by omega)] at hp0
      have h0 : P7 (O G1 0) 0 N = wtn (O G0 0) N - sp := by omega
      repeat (first | refine e3_step rfl rfl ?_)
      rw [pk_sub (by omega), ← h0]
      refine e3_if rfl rfl (fun q => absurd rfl q) (fun _ => ?_)
      exact h135
end MB
end
section
/-! The law's bag and stretches. -/
section MC2
variable {ε : EE} {J J' : JT} {pc : Nat} {ls : List (Option V0)} {st : List V0} {G G' G0 G1 : GG} {V V' : VV} {N Y : Nat} {f : Nat → Int32} {Q : Option Int32 → GG → Prop}
theorem e3_for (N : Nat) (L : Nat → List (Option V0)) (hs : ∀ i, i < N → E3 ε J pc (L (i + 1)) [] G0 Q → E3 ε J pc (L i) [] G0 Q) (he : ∀ M, M = N → E3 ε J pc (L M) [] G0 Q) : E3 ε J pc (L 0) [] G0 Q := by
  have h : ∀ k i, i + k = N → E3 ε J pc (L i) [] G0 Q := by
    intro k
    induction k with
    | zero => intro i hi; exact he i (by omega)
    | succ k ih => intro i hi; exact hs i (by omega) (ih (i + 1) (by omega))
  exact h N 0 (by omega)
theorem e3_dropK {ls' : List (Option V0)} (k : E3 ε J pc ls' st G0 Q) (h : e_sub ls' ls) : E3 ε J pc ls st G0 Q := fun G hG => e2_dropK (k G hG) h
/-- a letter of the bag -/
theorem bag_l (h : B0 V N Y) {a : Nat} (ha : a ∈ bagVR V N) : a < N ∧ V 7 a = nI 0 ∧ ∃ c m, c ≤ 1 ∧ m ≤ 2 ∧ V 5 a = nI c ∧ V 6 a = nI m := by
  obtain ⟨h1, h2⟩ := bag_in ha
  obtain ⟨-, e2, ⟨p', m', p1, m1, hpq, hm, pm, -⟩, -⟩ := h.2.2.2 a h1
  have hp0 : p' = 0 := (nIp p1 (by omega)).1 (hpq.symm.trans h2)
  refine ⟨h1, h2, ?_⟩
  rcases e2 with z | z
  · exact ⟨0, m', by omega, by omega, z, hm⟩
  · exact ⟨1, m', by omega, by omega, z, hm⟩
theorem ahead_n {a b c m c' m' : Nat} (h : ahead V b a) (hc : c ≤ 1) (hm : m ≤ 2) (hc' : c' ≤ 1) (hm' : m' ≤ 2) (ha5 : V 5 a = nI c) (ha6 : V 6 a = nI m) (hb5 : V 5 b = nI c') (hb6 : V 6 b = nI m') : 10 * c' + m' < 10 * c + m ∨ (10 * c + m = 10 * c' + m' ∧ a < b) := by
  rcases h with ⟨h1, h2⟩ | ⟨h1, x, y, hx, hy, h2, h3, h4⟩
  · have e1 : c = 1 := (nI_eq (by omega) (by omega)).1 (ha5.symm.trans h1)
    have e2 : c' = 0 := (nI_eq (by omega) (by omega)).1 (hb5.symm.trans h2)
    omega
  · have e1 : c = c' := (nI_eq (by omega) (by omega)).1 (ha5.symm.trans (h1.trans hb5))
    have e2 : m = x := (nI_eq (by omega) (by omega)).1 (ha6.symm.trans h2)
    have e3 : m' = y := (nI_eq (by omega) (by omega)).1 (hb6.symm.trans h3)
    omega
set_option maxHeartbeats 1000000 in
theorem L_bag (hN : IV (O G0 0) N Y) : Ls ε jL_bag [.inr (0, 30), .inl (nI (P7 (O G0 0) 0 N))] G0 (nI 1) := by
  have hlen := bag_len hN.1
  have hN120 := hN.1.nle
  have hle : P7 (O G0 0) 0 N ≤ N := P7_le
  refine Ls.of (ls := [some (.inr (0, 30)), some (.inl (nI (P7 (O G0 0) 0 N))), none, none, none, none, none, none]) okL_bag rfl rfl ?_
  generalize hn : P7 (O G0 0) 0 N = n at hlen hle ⊢
  have c1 : Lk ε jX8_inBag [.inl (nI n)] G0 (-9) := by
    have := L_inBag (ε := ε) hN (j := n) (by omega)
    rw [if_pos (by omega)] at this
    exact this
  have c2 : ∀ j, j < n → Lk ε jX8_inBag [.inl (nI j)] G0 (nI (revD (bagVR (O G0 0) N) j)) := fun j hj => by
    have := L_inBag (ε := ε) hN (j := j) (by omega)
    rw [if_neg (by omega)] at this
    exact this
  repeat (first | refine e3_step rfl rfl ?_)
  refine e3_look (c1) rfl rfl ⟨rfl, rfl, rfl⟩ rfl rfl rfl rfl ?_
  repeat (first | refine e3_step rfl rfl ?_)
  refine e3_if rfl rfl (fun q => absurd rfl q) (fun _ => ?_)
  repeat (first | refine e3_stepS 18 rfl rfl rfl ?_)
  refine e3_for (n - 1) (fun i => [some (.inr (0, 30)), some (.inl (nI n)), some (.inl (nI 1)), some (.inl (nI (i + 1))), none, none, none, none]) (fun i hi K => ?_) (fun M hM => ?_)
  · obtain ⟨a1, a2, ca, ma, a3, a4, a5, a6⟩ := bag_l hN.1 (revD_mem (bagVR (O G0 0) N) i (by omega))
    obtain ⟨b1, b2, cb, mb, b3, b4, b5, b6⟩ := bag_l hN.1 (revD_mem (bagVR (O G0 0) N) (i + 1) (by omega))
    have hah := ahead_n (pw_revD (R := []) _ (bag_pw (V := O G0 0) (N := N)) i (i + 1) (by omega) (by omega)) a3 a4 b3 b4 a5 a6 b5 b6
    have ci := c2 i (by omega)
    have cj := c2 (i + 1) (by omega)
    generalize revD (bagVR (O G0 0) N) i = a at a1 a2 a5 a6 ci hah
    generalize revD (bagVR (O G0 0) N) (i + 1) = b at b1 b2 b5 b6 cj hah
    have la1 : Lk ε jX8_letter [.inl (nI a), .inl (nI 1)] G0 (nI ca) := by rw [← a5]; exact L_letter hN a1 (k := 1) (by decide)
    have la5 : Lk ε jX8_letter [.inl (nI a), .inl (nI 5)] G0 (nI ma) := by rw [← a6]; exact L_letter hN a1 (k := 5) (by decide)
    have lb1 : Lk ε jX8_letter [.inl (nI b), .inl (nI 1)] G0 (nI cb) := by rw [← b5]; exact L_letter hN b1 (k := 1) (by decide)
    have lb5 : Lk ε jX8_letter [.inl (nI b), .inl (nI 5)] G0 (nI mb) := by rw [← b6]; exact L_letter hN b1 (k := 5) (by decide)
    have lb2 : Lk ε jX8_letter [.inl (nI b), .inl (nI 2)] G0 (nI 0) := by rw [← b2]; exact L_letter hN b1 (k := 2) (by decide)
    repeat (first | refine e3_step rfl rfl ?_)
    refine e3_if rfl rfl (fun q => absurd q (nI_ge (by omega) (by omega))) (fun _ => ?_)
    repeat (first | refine e3_step rfl rfl ?_)
    rw [pk_sub (by omega), Nat.add_sub_cancel]
    refine e3_look (ci) rfl rfl ⟨rfl, rfl, rfl⟩ rfl rfl rfl rfl ?_
    repeat (first | refine e3_step rfl rfl ?_)
    refine e3_look (cj) rfl rfl ⟨rfl, rfl, rfl⟩ rfl rfl rfl rfl ?_
    repeat (first | refine e3_step rfl rfl ?_)
    refine e3_look (la1) rfl rfl ⟨rfl, rfl, rfl⟩ rfl rfl rfl rfl ?_
    repeat (first | refine e3_step rfl rfl ?_)
    refine e3_look (la5) rfl rfl ⟨rfl, rfl, rfl⟩ rfl rfl rfl rfl ?_
    repeat (first | refine e3_step rfl rfl ?_)
    refine e3_look (lb1) rfl rfl ⟨rfl, rfl, rfl⟩ rfl rfl rfl rfl ?_
    repeat (first | refine e3_step rfl rfl ?_)
    refine e3_look (lb5) rfl rfl ⟨rfl, rfl, rfl⟩ rfl rfl rfl rfl ?_
    repeat (first | refine e3_step rfl rfl ?_)
    refine e3_if rfl rfl (fun q => absurd q (by decide)) (fun _ => ?_)
    repeat (first | refine e3_step rfl rfl ?_)
    refine e3_look (lb2) rfl rfl ⟨rfl, rfl, rfl⟩ rfl rfl rfl rfl ?_
    refine e3_if rfl rfl (fun q => absurd rfl q) (fun _ => ?_)
    repeat (first | refine e3_step rfl rfl ?_)
    rw [pk_mul, pk_mul, nI_add', nI_add']
    have h114 : E3 ε jL_bag 114 [some (.inr (0, 30)), some (.inl (nI n)), some (.inl (nI 1)), some (.inl (nI (i + 1))), some (.inl (nI a)), some (.inl (nI b)), some (.inl (nI (10 * ca + ma))), some (.inl (nI (10 * cb + mb)))] [] G0 (fun v G' => v = some (nI 1) ∧ lk1 G0 G') := by
      repeat (first | refine e3_stepS 18 rfl rfl rfl ?_)
      rw [nI_add']
      exact e3_dropK K ⟨rfl, rfl, rfl, rfl, trivial⟩
    refine e3_if rfl rfl (fun _ => h114) (fun q => ?_)
    have hq : ¬ 10 * cb + mb < 10 * ca + ma := fun w => q ((nI_ltI (by omega) (by omega)).2 w)
    obtain ⟨e1, e2⟩ := hah.resolve_left hq
    repeat (first | refine e3_step rfl rfl ?_)
    refine e3_if rfl rfl (fun q => absurd (by rw [e1]) q) (fun _ => ?_)
    repeat (first | refine e3_step rfl rfl ?_)
    refine e3_if rfl rfl (fun q => absurd q (nI_ge e2 (by omega))) (fun _ => ?_)
    exact h114
  · repeat (first | refine e3_step rfl rfl ?_)
    refine e3_if rfl rfl (fun _ => ?_) (fun q => absurd (nI_le (a := n) (b := M + 1) (by omega) (by omega)) q)
    repeat (first | refine e3_step rfl rfl ?_)
    exact e3_zret rfl rfl rfl (fun G' hG' => ⟨rfl, hG'⟩)
-- stretches
theorem fst_self {c : Nat} (h : c = 0 ∨ ¬ f (c - 1) = f c) : fstC f (f c) c = c := by
  cases c with
  | zero => rfl
  | succ n =>
    have h : ¬ f n = f (n + 1) := h.resolve_left (by omega)
    show (if f n = f (n + 1) then _ else n + 1) = _
    rw [if_neg h]
theorem lst_of : ∀ k c (w : Int32), f c = w → c ≤ lstC f w k c ∧ lstC f w k c ≤ c + k ∧ (∀ j, c ≤ j → j ≤ lstC f w k c → f j = w) ∧ (lstC f w k c = c + k ∨ ¬ f (lstC f w k c + 1) = w)
  | 0, c, w, h => ⟨Nat.le_refl _, Nat.le_refl _, fun j j1 j2 => by
    have : j = c := by
      have j2 : j ≤ c := j2
      omega
    rw [this]; exact h, Or.inl rfl⟩
  | k + 1, c, w, h => by
    have e : lstC f w (k + 1) c = if f (c + 1) = w then lstC f w k (c + 1) else c := rfl
    rw [e]
    by_cases h1 : f (c + 1) = w
    · rw [if_pos h1]
      obtain ⟨a1, a2, a3, a4⟩ := lst_of k (c + 1) w h1
      refine ⟨by omega, by omega, fun j j1 j2 => ?_, ?_⟩
      · by_cases hj : j = c
        · rw [hj]; exact h
        · exact a3 j (by omega) j2
      · rcases a4 with z | z
        · exact Or.inl (by omega)
        · exact Or.inr z
    · rw [if_neg h1]
      exact ⟨Nat.le_refl _, by omega, fun j j1 j2 => by rw [show j = c by omega]; exact h, Or.inr h1⟩
/-- how many stretches begin ahead of c -/
def stN (f : Nat → Int32) (c : Nat) : Nat := if c = 0 then 0 else 1 + cntB (fun j => decide (¬ f (j + 1) = f j)) (c - 1)
theorem cntB_flat {q : Nat → Bool} {a : Nat} : ∀ k, (∀ j, a ≤ j → j < a + k → q j = false) → cntB q (a + k) = cntB q a
  | 0, _ => rfl
  | k + 1, h => by
    show cntB q (a + k) + (if q (a + k) then 1 else 0) = _
    rw [h (a + k) (by omega) (by omega), cntB_flat k (fun j j1 j2 => h j j1 (by omega))]
    rfl
theorem stN_next {c e : Nat} (h : c = 0 ∨ ¬ f (c - 1) = f c) (hce : c ≤ e) (hf : ∀ j, c ≤ j → j ≤ e → f j = f c) : stN f (e + 1) = stN f c + 1 := by
  have e1 : stN f (e + 1) = 1 + cntB (fun j => decide (¬ f (j + 1) = f j)) e := by
    unfold stN
    rw [if_neg (by omega), Nat.add_sub_cancel]
  have e2 : cntB (fun j => decide (¬ f (j + 1) = f j)) e = cntB (fun j => decide (¬ f (j + 1) = f j)) c := by
    have := cntB_flat (q := fun j => decide (¬ f (j + 1) = f j)) (a := c) (e - c) (fun j j1 j2 => decide_eq_false (fun q => q (by rw [hf (j + 1) (by omega) (by omega), hf j j1 (by omega)])))
    rw [show c + (e - c) = e by omega] at this
    exact this
  rw [e1, e2]
  unfold stN
  by_cases hc : c = 0
  · subst hc
    rfl
  · rw [if_neg hc]
    have h := h.resolve_left hc
    obtain ⟨d, rfl⟩ : ∃ d, c = d + 1 := ⟨c - 1, by omega⟩
    rw [Nat.add_sub_cancel] at h ⊢
    show 1 + (cntB _ d + (if decide (¬ f (d + 1) = f d) then 1 else 0)) = _
    rw [decide_eq_true (p := ¬ f (d + 1) = f d) (fun q => h q.symm), if_pos rfl]
    omega
theorem L_str0 {c : Nat} (hc : c < 100) : Lk ε jX8_stretch [.inl (nI c), .inl (nI 0)] G0 (O G0 0 2 c) := L_stretch hc (k := 0) (by decide)
theorem l_str (hN : IV (O G0 0) N Y) : ∀ k c, c + k = 100 → (c = 100 ∨ c = 0 ∨ ¬ O G0 0 2 (c - 1) = O G0 0 2 c) → E3 ε jL_stretches 4 [some (.inr (0, 30)), some (.inl (nI (stN (O G0 0 2) c))), some (.inl (nI c))] [] G0 (fun v G' => v = some (nI 1) ∧ lk1 G0 G') := by
  intro k
  induction k using Nat.strongRecOn with
  | _ k ih =>
  intro c hck hc
  by_cases h100 : c = 100
  · subst h100
    have c8 : Lk ε jX8_count [.inl (nI 8)] G0 (nI (stN (O G0 0 2) 100)) := L_count hN (k := 8) (by decide)
    repeat (first | refine e3_step rfl rfl ?_)
    refine e3_if rfl rfl (fun _ => ?_) (fun q => absurd (Int32.le_refl _) q)
    repeat (first | refine e3_step rfl rfl ?_)
    refine e3_look (c8) rfl rfl ⟨rfl, rfl, rfl⟩ rfl rfl rfl rfl ?_
    refine e3_if rfl rfl (fun q => absurd rfl q) (fun _ => ?_)
    repeat (first | refine e3_step rfl rfl ?_)
    exact e3_zret rfl rfl rfl (fun G' hG' => ⟨rfl, hG'⟩)
  · have hs := hc.resolve_left h100
    have hlt : c < 100 := by omega
    obtain ⟨e1, e2, e3, e4⟩ := lst_of (f := O G0 0 2) (99 - c) c _ rfl
    have hn := stN_next hs e1 e3
    have c1 : Lk ε jX8_stretch [.inl (nI c), .inl (nI 1)] G0 (nI c) := by
      have := L_stretch (ε := ε) (G0 := G0) hlt (k := 1) (by decide)
      have e : aStretch (O G0 0 2) c 1 = nI c := by
        show nI (fstC (O G0 0 2) (O G0 0 2 c) c) = _
        rw [fst_self hs]
      rw [e] at this
      exact this
    have c2 : Lk ε jX8_stretch [.inl (nI c), .inl (nI 2)] G0 (nI (lstC (O G0 0 2) (O G0 0 2 c) (99 - c) c)) := L_stretch hlt (k := 2) (by decide)
    generalize he : lstC (O G0 0 2) (O G0 0 2 c) (99 - c) c = e at e1 e2 e3 e4 hn c2
    have h43 : E3 ε jL_stretches 43 [some (.inr (0, 30)), some (.inl (nI (stN (O G0 0 2) c))), some (.inl (nI c))] [] G0 (fun v G' => v = some (nI 1) ∧ lk1 G0 G') := by
      repeat (first | refine e3_step rfl rfl ?_)
      refine e3_look (c2) rfl rfl ⟨rfl, rfl, rfl⟩ rfl rfl rfl rfl ?_
      repeat (first | refine e3_stepS 4 rfl rfl rfl ?_)
      rw [nI_add', nI_add', ← hn]
      refine ih (99 - e) (by omega) (e + 1) (by omega) ?_
      rcases e4 with z | z
      · exact Or.inl (by omega)
      · refine Or.inr (Or.inr (fun q => z ?_))
        rw [Nat.add_sub_cancel] at q
        rw [← q]
        exact e3 e e1 (Nat.le_refl _)
    repeat (first | refine e3_step rfl rfl ?_)
    refine e3_if rfl rfl (fun q => absurd q (nI_ge hlt (by decide))) (fun _ => ?_)
    repeat (first | refine e3_step rfl rfl ?_)
    refine e3_look (c1) rfl rfl ⟨rfl, rfl, rfl⟩ rfl rfl rfl rfl ?_
    repeat (first | refine e3_step rfl rfl ?_)
    refine e3_if rfl rfl (fun q => absurd rfl q) (fun _ => ?_)
    repeat (first | refine e3_step rfl rfl ?_)
    by_cases h0 : c = 0
    · subst h0
      exact e3_if rfl rfl (fun _ => h43) (fun q => absurd (Int32.le_refl _) q)
    · refine e3_if rfl rfl (fun q => absurd (show nI c ≤ nI 0 from q) (nI_ge (by omega) (by omega))) (fun _ => ?_)
      repeat (first | refine e3_step rfl rfl ?_)
      rw [pk_sub (by omega)]
      refine e3_look (L_str0 (c := c - 1) (by omega)) rfl rfl ⟨rfl, rfl, rfl⟩ rfl rfl rfl rfl ?_
      repeat (first | refine e3_step rfl rfl ?_)
      refine e3_look (L_str0 hlt) rfl rfl ⟨rfl, rfl, rfl⟩ rfl rfl rfl rfl ?_
      refine e3_if rfl rfl (fun _ => h43) (fun q => absurd (hs.resolve_left h0) q)
theorem L_stretches (hN : IV (O G0 0) N Y) : Ls ε jL_stretches [.inr (0, 30)] G0 (nI 1) := by
  refine Ls.of (ls := [some (.inr (0, 30)), none, none]) okL_stretches rfl rfl ?_
  repeat (first | refine e3_stepS 4 rfl rfl rfl ?_)
  exact l_str hN 100 0 rfl (Or.inr (Or.inl rfl))
end MC2
end
section
/-! The law's acts, kind by kind: post, setRange, set. -/
section MD2
variable {ε : EE} {J J' : JT} {pc : Nat} {ls : List (Option V0)} {st : List V0} {G G' G0 G1 : GG} {V V' : VV} {N Y n k w c : Nat} {y z : Int32} {f : Nat → Int32} {Q : Option Int32 → GG → Prop}
theorem and_le (v : Int32) (m : Nat) (hm : m < 2 ^ 31) : ∃ k, k ≤ m ∧ v &&& nI m = nI k := by
  have e : (v &&& nI m).toBitVec.toNat = v.toBitVec.toNat &&& m := by
    rw [Int32.toBitVec_and, BitVec.toNat_and]
    congr 1
    show (BitVec.ofNat 32 m).toNat = m
    rw [BitVec.toNat_ofNat]
    omega
  have hle : v.toBitVec.toNat &&& m ≤ m := Nat.and_le_right
  refine ⟨v.toBitVec.toNat &&& m, hle, ?_⟩
  apply Int32.toBitVec_inj.1
  apply BitVec.eq_of_toNat_eq
  rw [e]
  show _ = (BitVec.ofNat 32 (v.toBitVec.toNat &&& m)).toNat
  rw [BitVec.toNat_ofNat]
  omega
theorem After.dn (h : Dn G0 G1 V') : ∀ G', lk1 G1 G' → HQ G0 (some (nI 1)) G' := HQ.dn h
set_option maxRecDepth 100000 in
set_option maxHeartbeats 1000000 in
theorem A_post (h : SG G0) : E3 ε jL_acts 31 [some (.inr (0, 30)), some (.inl y), some (.inl z), some (.inl (nI k)), some (.inl (nI w)), some (.inl (nI c)), none, none, none, none, none] [] G0 (HQ G0) := by
  obtain ⟨N, hN⟩ := h.1
  have hN120 := hN.1.nle
  obtain ⟨r, hr, er⟩ := lowI_of z (n := 20) (by decide) (by decide)
  obtain ⟨a, ha, ea⟩ := lowI_of (z >>> (nI 5 &&& 31)) (n := 100) (by decide) (by decide)
  obtain ⟨f, hf, ef⟩ := and_le (z >>> (nI 4 &&& 31)) 1 (by decide)
  repeat (first | refine e3_step rfl rfl ?_)
  refine e3_stat (L_low z (n := 20) (by decide) (by decide)) rfl rfl ⟨rfl, rfl, rfl⟩ rfl rfl rfl ?_
  rw [er]
  repeat (first | refine e3_step rfl rfl ?_)
  rw [nI_add']
  refine e3_look (L_c6 hN) rfl rfl ⟨rfl, rfl, rfl⟩ rfl rfl rfl rfl ?_
  repeat (first | refine e3_step rfl rfl ?_)
  refine e3_stat (L_low (z >>> (nI 5 &&& 31)) (n := 100) (by decide) (by decide)) rfl rfl ⟨rfl, rfl, rfl⟩ rfl rfl rfl ?_
  rw [ea]
  repeat (first | refine e3_step rfl rfl ?_)
  rw [ef]
  by_cases hful : N + (1 + r) ≤ 120
  · refine e3_op (D_post (c := a) (f := f) (m := 1 + r) h hN ha (by omega) (by omega) (by omega) hful) rfl rfl ⟨rfl, rfl, rfl⟩ rfl rfl rfl rfl (fun G1 zz => ?_)

    have hN1 : IV (O G1 0) (N + (1 + r)) 500 := by
      rw [zz.2.1]
      exact hN.adds ha (by omega) _ hful
    repeat (first | refine e3_step rfl rfl ?_)
    rw [nI_add']
    refine e3_if rfl rfl (fun _ => ?_) (fun q => absurd (nI_le hful (by omega)) q)
    repeat (first | refine e3_step rfl rfl ?_)
    refine e3_if rfl rfl (fun q => absurd rfl q) (fun _ => ?_)
    repeat (first | refine e3_step rfl rfl ?_)
    refine e3_look (L_c6 hN1) rfl rfl ⟨rfl, rfl, rfl⟩ rfl rfl rfl rfl ?_
    repeat (first | refine e3_step rfl rfl ?_)
    rw [nI_add']
    refine e3_if rfl rfl (fun q => absurd rfl q) (fun _ => ?_)
    repeat (first | refine e3_step rfl rfl ?_)
    exact e3_zret rfl rfl rfl (HQ.dn zz)
  · refine e3_look (L_postFull (c := a) (f := f) (m := 1 + r) hN ha (by omega) (by omega) (by omega) (by omega)) rfl rfl ⟨rfl, rfl, rfl⟩ rfl rfl rfl rfl ?_
    repeat (first | refine e3_step rfl rfl ?_)
    rw [nI_add']
    refine e3_if rfl rfl (fun q => absurd q (nI_ge (a := 120) (b := N + (1 + r)) (by omega) (by omega))) (fun _ => ?_)
    repeat (first | refine e3_step rfl rfl ?_)
    refine e3_if rfl rfl (fun q => absurd rfl q) (fun _ => ?_)
    repeat (first | refine e3_step rfl rfl ?_)
    refine e3_look (L_c6 hN) rfl rfl ⟨rfl, rfl, rfl⟩ rfl rfl rfl rfl ?_
    repeat (first | refine e3_step rfl rfl ?_)
    refine e3_if rfl rfl (fun q => absurd rfl q) (fun _ => ?_)
    repeat (first | refine e3_step rfl rfl ?_)
    exact e3_zret rfl rfl rfl HQ.lk
theorem fst_le {a : Nat} {x : Int32} : ∀ b, a ≤ b → (∀ j, a ≤ j → j < b → f j = x) → fstC f x b ≤ a
  | 0, h, _ => by
    show 0 ≤ a
    omega
  | b + 1, h, hf => by
    have e : fstC f x (b + 1) = if f b = x then fstC f x b else b + 1 := rfl
    by_cases hab : a = b + 1
    · rw [hab]
      exact fstC_le _
    · rw [e, if_pos (hf b (by omega) (by omega))]
      exact fst_le b (by omega) (fun j j1 j2 => hf j j1 (by omega))
set_option maxRecDepth 100000 in
set_option maxHeartbeats 1000000 in
theorem A_range (h : SG G0) (hw : w < 8) : E3 ε jL_acts 150 [some (.inr (0, 30)), some (.inl y), some (.inl z), some (.inl (nI k)), some (.inl (nI w)), some (.inl (nI c)), none, none, none, none, none] [] G0 (HQ G0) := by
  obtain ⟨N, hN⟩ := h.1
  obtain ⟨a, ha, ea⟩ := lowI_of z (n := 100) (by decide) (by decide)
  obtain ⟨r, hr, er⟩ := lowI_of (z >>> (nI 7 &&& 31)) (n := 100 - a) (by omega) (by omega)
  repeat (first | refine e3_step rfl rfl ?_)
  refine e3_stat (L_low z (n := 100) (by decide) (by decide)) rfl rfl ⟨rfl, rfl, rfl⟩ rfl rfl rfl ?_
  rw [ea]
  repeat (first | refine e3_step rfl rfl ?_)
  rw [pk_sub (a := 100) (b := a) (by omega)]
  refine e3_stat (L_low (z >>> (nI 7 &&& 31)) (n := 100 - a) (by omega) (by omega)) rfl rfl ⟨rfl, rfl, rfl⟩ rfl rfl rfl ?_
  rw [er]
  repeat (first | refine e3_step rfl rfl ?_)
  rw [nI_add']
  refine e3_op (D_setRange (a := a) (b := a + r) (w := w) h hN (by omega) (by omega) hw) rfl rfl ⟨rfl, rfl, rfl⟩ rfl rfl rfl rfl (fun G1 zz => ?_)

  have e1 : O G1 0 2 = rngr (O G0 0 2) a (a + r + 1) (nI w) := by rw [zz.2.1]; rfl
  have hN1 : IV (O G1 0) N 500 := by
    rw [zz.2.1]
    exact hN.rng hw
  have c8 : Lk ε jX8_count [.inl (nI 8)] G1 (nI (1 + cntB (fun c => decide (¬ O G1 0 2 (c + 1) = O G1 0 2 c)) 99)) := L_count hN1 (k := 8) (by decide)
  have gin : ∀ j, a ≤ j → j < a + r + 1 → O G1 0 2 j = nI w := fun j j1 j2 => by
    rw [e1]
    unfold rngr
    rw [if_pos ⟨j1, j2⟩]
  have s0 : Lk ε jX8_stretch [.inl (nI a), .inl (nI 0)] G1 (nI w) := by rw [← gin a (by omega) (by omega)]; exact L_str0 ha
  have s1 : Lk ε jX8_stretch [.inl (nI (a + r)), .inl (nI 0)] G1 (nI w) := by rw [← gin (a + r) (by omega) (by omega)]; exact L_str0 (by omega)
  have s2 : Lk ε jX8_stretch [.inl (nI (a + r)), .inl (nI 1)] G1 (nI (fstC (O G1 0 2) (nI w) (a + r))) := by
    have := L_stretch (ε := ε) (G0 := G1) (c := a + r) (by omega) (k := 1) (by decide)
    have e : aStretch (O G1 0 2) (a + r) 1 = nI (fstC (O G1 0 2) (nI w) (a + r)) := by
      show nI (fstC (O G1 0 2) (O G1 0 2 (a + r)) (a + r)) = _
      rw [gin (a + r) (by omega) (by omega)]
    rw [e] at this
    exact this
  have hfl := fst_le (f := O G1 0 2) (a := a) (x := nI w) (a + r) (by omega) (fun j j1 j2 => gin j j1 (by omega))
  rw [← e1]
  repeat (first | refine e3_step rfl rfl ?_)
  refine e3_look (c8) rfl rfl ⟨rfl, rfl, rfl⟩ rfl rfl rfl rfl ?_
  refine e3_if rfl rfl (fun q => absurd rfl q) (fun _ => ?_)
  repeat (first | refine e3_step rfl rfl ?_)
  refine e3_look (s0) rfl rfl ⟨rfl, rfl, rfl⟩ rfl rfl rfl rfl ?_
  repeat (first | refine e3_step rfl rfl ?_)
  refine e3_if rfl rfl (fun q => absurd rfl q) (fun _ => ?_)
  repeat (first | refine e3_step rfl rfl ?_)
  refine e3_look (s1) rfl rfl ⟨rfl, rfl, rfl⟩ rfl rfl rfl rfl ?_
  repeat (first | refine e3_step rfl rfl ?_)
  refine e3_if rfl rfl (fun q => absurd rfl q) (fun _ => ?_)
  repeat (first | refine e3_step rfl rfl ?_)
  refine e3_look (s2) rfl rfl ⟨rfl, rfl, rfl⟩ rfl rfl rfl rfl ?_
  repeat (first | refine e3_step rfl rfl ?_)
  refine e3_if rfl rfl (fun q => absurd ((nI_ltI (by omega) (by omega)).1 q) (by omega)) (fun _ => ?_)
  repeat (first | refine e3_step rfl rfl ?_)
  exact e3_zret rfl rfl rfl (HQ.dn zz)
theorem num_lk (hN : IV (O G0 0) N Y) (h8 : 8 ≤ n) (h10 : n ≤ 10) : Lk ε jX8_count [.inl (nI (5 + n))] G0 (numV (O G0 0) (nI n)) := by
  have := L_count (ε := ε) hN (k := 5 + n) (by omega)
  have e : aCount G0 N (5 + n) = numV (O G0 0) (nI n) := by
    rw [num_n h10]
    have : n = 8 ∨ n = 9 ∨ n = 10 := by omega
    rcases this with rfl | rfl | rfl
    · rfl
    · rfl
    · rfl
  rw [e] at this
  exact this
theorem num_fr (hN : IV (O G0 0) N Y) (h8 : n < 8) : Lk ε jX8_frame [.inl (nI n), .inl (nI 0)] G0 (numV (O G0 0) (nI n)) := by
  have := L_frame (ε := ε) hN (w := n) (k := 0) h8 (by decide)
  have e : aFrame (O G0 0) N n 0 = numV (O G0 0) (nI n) := by
    rw [num_n (by omega), if_neg (by omega), if_neg (by omega), if_neg (by omega)]
    rfl
  rw [e] at this
  exact this
theorem num_chg {n v : Nat} (hn : n ≤ 10) : numV (chgV V (nI n) (nI v)) (nI n) = nI v := by
  rw [num_n hn, chg_n hn]
  by_cases h8 : n = 8
  · rw [if_pos h8, if_pos h8]
    rfl
  · rw [if_neg h8, if_neg h8]
    by_cases h9 : n = 9
    · rw [if_pos h9, if_pos h9]
      rfl
    · rw [if_neg h9, if_neg h9]
      by_cases h10 : n = 10
      · rw [if_pos h10, if_pos h10]
        rfl
      · rw [if_neg h10, if_neg h10]
        show upd (V 17) n (nI v) n = _
        exact if_pos rfl
set_option maxRecDepth 100000 in
set_option maxHeartbeats 1000000 in
theorem A_set (h : SG G0) : E3 ε jL_acts 242 [some (.inr (0, 30)), some (.inl y), some (.inl z), some (.inl (nI k)), some (.inl (nI w)), some (.inl (nI c)), none, none, none, none, none] [] G0 (HQ G0) := by
  obtain ⟨N, hN⟩ := h.1
  obtain ⟨n, hn, en⟩ := lowI_of z (n := 11) (by decide) (by decide)
  obtain ⟨v, hv, ev⟩ := lowI_of (z >>> (nI 4 &&& 31)) (n := 22) (by decide) (by decide)
  have h250 : ∀ (G : GG) (L : List (Option V0)) Q, IV (O G 0) N 500 → E3 ε jL_acts 275 (some (.inr (0, 30)) :: some (.inl y) :: some (.inl z) :: some (.inl (nI k)) :: some (.inl (nI w)) :: some (.inl (nI c)) :: some (.inl (nI n)) :: L) [.inl (numV (O G 0) (nI n))] G Q → E3 ε jL_acts 250 (some (.inr (0, 30)) :: some (.inl y) :: some (.inl z) :: some (.inl (nI k)) :: some (.inl (nI w)) :: some (.inl (nI c)) :: some (.inl (nI n)) :: L) [] G Q := by
    intro G L Q hG K
    repeat (first | refine e3_step rfl rfl ?_)
    by_cases h8 : n < 8
    · refine e3_if rfl rfl (fun q => absurd q (nI_ge h8 (by decide))) (fun _ => ?_)
      repeat (first | refine e3_step rfl rfl ?_)
      refine e3_look (num_fr hG h8) rfl rfl ⟨rfl, rfl, rfl⟩ rfl rfl rfl rfl ?_
      repeat (first | refine e3_stepS 275 rfl rfl rfl ?_)
      exact K
    · refine e3_if rfl rfl (fun _ => ?_) (fun q => absurd (nI_le (a := 8) (b := n) (by omega) (by omega)) q)
      repeat (first | refine e3_step rfl rfl ?_)
      rw [nI_add']
      refine e3_look (num_lk hG (by omega) (by omega)) rfl rfl ⟨rfl, rfl, rfl⟩ rfl rfl rfl rfl ?_
      exact K
  have h356 : ∀ (G : GG) (L : List (Option V0)) Q, IV (O G 0) N 500 → E3 ε jL_acts 381 (some (.inr (0, 30)) :: some (.inl y) :: some (.inl z) :: some (.inl (nI k)) :: some (.inl (nI w)) :: some (.inl (nI c)) :: some (.inl (nI n)) :: L) [.inl (numV (O G 0) (nI n))] G Q → E3 ε jL_acts 356 (some (.inr (0, 30)) :: some (.inl y) :: some (.inl z) :: some (.inl (nI k)) :: some (.inl (nI w)) :: some (.inl (nI c)) :: some (.inl (nI n)) :: L) [] G Q := by
    intro G L Q hG K
    repeat (first | refine e3_step rfl rfl ?_)
    by_cases h8 : n < 8
    · refine e3_if rfl rfl (fun q => absurd q (nI_ge h8 (by decide))) (fun _ => ?_)
      repeat (first | refine e3_step rfl rfl ?_)
      refine e3_look (num_fr hG h8) rfl rfl ⟨rfl, rfl, rfl⟩ rfl rfl rfl rfl ?_
      repeat (first | refine e3_stepS 381 rfl rfl rfl ?_)
      exact K
    · refine e3_if rfl rfl (fun _ => ?_) (fun q => absurd (nI_le (a := 8) (b := n) (by omega) (by omega)) q)
      repeat (first | refine e3_step rfl rfl ?_)
      rw [nI_add']
      refine e3_look (num_lk hG (by omega) (by omega)) rfl rfl ⟨rfl, rfl, rfl⟩ rfl rfl rfl rfl ?_
      exact K
  repeat (first | refine e3_step rfl rfl ?_)
  refine e3_stat (L_low z (n := 11) (by decide) (by decide)) rfl rfl ⟨rfl, rfl, rfl⟩ rfl rfl rfl ?_
  rw [en]
  refine e3_step rfl rfl ?_
  refine h250 G0 _ _ hN ?_
  repeat (first | refine e3_step rfl rfl ?_)
  refine e3_stat (L_low (z >>> (nI 4 &&& 31)) (n := 22) (by decide) (by decide)) rfl rfl ⟨rfl, rfl, rfl⟩ rfl rfl rfl ?_
  rw [ev]
  refine e3_step rfl rfl ?_
  generalize hx : numV (O G0 0) (nI n) = x
  by_cases hok : okSet n v
  · have h332 : E3 ε jL_acts 332 [some (.inr (0, 30)), some (.inl y), some (.inl z), some (.inl (nI k)), some (.inl (nI w)), some (.inl (nI c)), some (.inl (nI n)), some (.inl x), some (.inl (nI v)), none, none] [.inl (nI 1)] G0 (HQ G0) := by
      repeat (first | refine e3_step rfl rfl ?_)
      refine e3_op (D_set (v := v) h hN (show n ≤ 10 by omega) (by omega) hok) rfl rfl ⟨rfl, rfl, rfl⟩ rfl rfl rfl rfl (fun G1 zz => ?_)

      have hN1 : IV (O G1 0) N 500 := by
        rw [zz.2.1]
        exact hN.chg (by omega) hok
      rw [hx]
      repeat (first | refine e3_step rfl rfl ?_)
      refine e3_if rfl rfl (fun q => absurd q (by decide)) (fun _ => ?_)
      repeat (first | refine e3_step rfl rfl ?_)
      refine e3_if rfl rfl (fun q => absurd rfl q) (fun _ => ?_)
      refine h356 G1 _ _ hN1 ?_
      rw [zz.2.1, num_chg (by omega)]
      repeat (first | refine e3_step rfl rfl ?_)
      refine e3_if rfl rfl (fun q => absurd q (by decide)) (fun _ => ?_)
      repeat (first | refine e3_step rfl rfl ?_)
      refine e3_if rfl rfl (fun q => absurd rfl q) (fun _ => ?_)
      repeat (first | refine e3_step rfl rfl ?_)
      exact e3_zret rfl rfl rfl (HQ.dn zz)
    unfold okSet at hok
    repeat (first | refine e3_step rfl rfl ?_)
    by_cases h8 : n = 8
    · rw [if_pos h8, if_pos h8] at hok
      refine e3_if rfl rfl (fun q => absurd (by rw [h8]) q) (fun _ => ?_)
      repeat (first | refine e3_step rfl rfl ?_)
      refine e3_if rfl rfl (fun q => absurd q (nI_ge (a := v) (b := 3) (by omega) (by decide))) (fun _ => ?_)
      repeat (first | refine e3_stepS 332 rfl rfl rfl ?_)
      exact h332
    · rw [if_neg h8, if_neg h8] at hok
      refine e3_if rfl rfl (fun _ => ?_) (fun q => absurd (fun w => h8 ((nI_eq (by omega) (by decide)).1 w)) q)
      repeat (first | refine e3_step rfl rfl ?_)
      refine e3_if rfl rfl (fun q => absurd (show nI v ≤ nI 0 from q) (nI_ge (by omega) (by omega))) (fun _ => ?_)
      repeat (first | refine e3_step rfl rfl ?_)
      by_cases hgt : 8 < n
      · refine e3_if rfl rfl (fun _ => ?_) (fun q => absurd ((nI_ltI (by decide) (by omega)).2 hgt) q)
        repeat (first | refine e3_stepS 332 rfl rfl rfl ?_)
        exact h332
      · refine e3_if rfl rfl (fun q => absurd ((nI_ltI (by decide) (by omega)).1 q) hgt) (fun _ => ?_)
        repeat (first | refine e3_step rfl rfl ?_)
        rw [if_neg (by omega), if_neg (by omega)] at hok
        refine e3_if rfl rfl (fun q => absurd q (nI_ge (a := v) (b := 21) (by omega) (by decide))) (fun _ => ?_)
        repeat (first | refine e3_stepS 332 rfl rfl rfl ?_)
        exact h332
  · have h332 : E3 ε jL_acts 332 [some (.inr (0, 30)), some (.inl y), some (.inl z), some (.inl (nI k)), some (.inl (nI w)), some (.inl (nI c)), some (.inl (nI n)), some (.inl x), some (.inl (nI v)), none, none] [.inl (nI 0)] G0 (HQ G0) := by
      repeat (first | refine e3_step rfl rfl ?_)
      refine e3_look (L_setNo (n := n) (v := v) (by omega) (by omega) hok) rfl rfl ⟨rfl, rfl, rfl⟩ rfl rfl rfl rfl ?_
      repeat (first | refine e3_step rfl rfl ?_)
      refine e3_if rfl rfl (fun _ => ?_) (fun q => absurd rfl q)
      repeat (first | refine e3_step rfl rfl ?_)
      refine e3_if rfl rfl (fun q => absurd rfl q) (fun _ => ?_)
      refine h356 G0 _ _ hN ?_
      rw [hx]
      repeat (first | refine e3_step rfl rfl ?_)
      refine e3_if rfl rfl (fun _ => ?_) (fun q => absurd rfl q)
      repeat (first | refine e3_step rfl rfl ?_)
      refine e3_if rfl rfl (fun q => absurd rfl q) (fun _ => ?_)
      repeat (first | refine e3_step rfl rfl ?_)
      exact e3_zret rfl rfl rfl HQ.lk
    unfold okSet at hok
    repeat (first | refine e3_step rfl rfl ?_)
    by_cases h8 : n = 8
    · rw [if_pos h8, if_pos h8] at hok
      refine e3_if rfl rfl (fun q => absurd (by rw [h8]) q) (fun _ => ?_)
      repeat (first | refine e3_step rfl rfl ?_)
      refine e3_if rfl rfl (fun _ => ?_) (fun q => absurd (nI_le (a := 3) (b := v) (by omega) (by omega)) q)
      repeat (first | refine e3_stepS 332 rfl rfl rfl ?_)
      exact h332
    · rw [if_neg h8, if_neg h8] at hok
      refine e3_if rfl rfl (fun _ => ?_) (fun q => absurd (fun w => h8 ((nI_eq (by omega) (by decide)).1 w)) q)
      repeat (first | refine e3_step rfl rfl ?_)
      by_cases hv0 : v = 0
      · subst hv0
        refine e3_if rfl rfl (fun _ => ?_) (fun q => absurd (Int32.le_refl _) q)
        repeat (first | refine e3_stepS 332 rfl rfl rfl ?_)
        exact h332
      · refine e3_if rfl rfl (fun q => absurd (show nI v ≤ nI 0 from q) (nI_ge (by omega) (by omega))) (fun _ => ?_)
        repeat (first | refine e3_step rfl rfl ?_)
        have hlt : n < 8 := by
          rcases Nat.lt_or_ge n 8 with q | q
          · exact q
          · exfalso
            refine hok ⟨by omega, ?_⟩
            by_cases h9 : n = 9
            · rw [if_pos h9]; omega
            · rw [if_neg h9, if_pos (by omega)]; omega
        refine e3_if rfl rfl (fun q => absurd ((nI_ltI (by decide) (by omega)).1 q) (by omega)) (fun _ => ?_)
        repeat (first | refine e3_step rfl rfl ?_)
        rw [if_neg (by omega), if_neg (by omega)] at hok
        refine e3_if rfl rfl (fun _ => ?_) (fun q => absurd (nI_le (a := 21) (b := v) (by omega) (by omega)) q)
        repeat (first | refine e3_stepS 332 rfl rfl rfl ?_)
        exact h332
end MD2
end
section
/-! The law's acts: assign, rounds, slots; all kinds. -/
section ME2
variable {ε : EE} {J J' : JT} {pc : Nat} {ls : List (Option V0)} {st : List V0} {G G' G0 G1 : GG} {V V' : VV} {N Y n k w c : Nat} {y z x : Int32} {f : Nat → Int32} {Q : Option Int32 → GG → Prop}
theorem L_fr4 (hN : IV (O G0 0) N Y) (hw : w < 8) {p : Option Nat} (hp : Has (O G0 0) w p) : Lk ε jX8_frame [.inl (nI w), .inl (nI 4)] G0 (oI p) := by
  have := L_frame (ε := ε) hN hw (k := 4) (by decide)
  have e : aFrame (O G0 0) N w 4 = oI p := hp.1
  rw [e] at this
  exact this
theorem L_ca0 (hN : IV (O G0 0) N Y) (hc : c < 6) : Lk ε jX8_carrier [.inl (nI c), .inl (nI 0)] G0 (O G0 0 13 c) := L_carrier hN hc (k := 0) (by decide)
theorem L_ca1 (hN : IV (O G0 0) N Y) (hc : c < 6) : Lk ε jX8_carrier [.inl (nI c), .inl (nI 1)] G0 (O G0 0 14 c) := L_carrier hN hc (k := 1) (by decide)
theorem L_ca2 (hN : IV (O G0 0) N Y) (hc : c < 6) : Lk ε jX8_carrier [.inl (nI c), .inl (nI 2)] G0 (nI (cntB (atV (O G0 0) (nI 3) (nI c)) N)) := L_carrier hN hc (k := 2) (by decide)
theorem L_ca3 (hN : IV (O G0 0) N Y) (hc : c < 6) : Lk ε jX8_carrier [.inl (nI c), .inl (nI 3)] G0 (O G0 0 15 c) := L_carrier hN hc (k := 3) (by decide)
theorem L_fr1 (hN : IV (O G0 0) N Y) (hw : w < 8) : Lk ε jX8_frame [.inl (nI w), .inl (nI 1)] G0 (O G0 0 11 w) := L_frame hN hw (k := 1) (by decide)
set_option maxRecDepth 100000 in
/-- whoever is meant, whatever was there: one of both answers -/
theorem a_asg (h : SG G0) (hN : IV (O G0 0) N 500) (hw : w < 8) {p q : Option Nat} (hp : Has (O G0 0) w p) (hq : ∀ b, q = some b → b < 6) {best : Int32} : E3 ε jL_acts 471 [some (.inr (0, 30)), some (.inl y), some (.inl z), some (.inl (nI k)), some (.inl (nI w)), some (.inl (nI c)), some (.inl (oI p)), some (.inl best), some (.inl (if q = none then nI 1 else nI 0)), some (.inl (cI q)), none] [] G0 (HQ G0) := by
  have hcan1 : (∀ b, q = some b → O G0 0 13 b = -9 ∨ O G0 0 13 b = nI w) ∨ ∃ b, q = some b ∧ ¬ O G0 0 13 b = -9 ∧ ¬ O G0 0 13 b = nI w := by
    cases q with
    | none => exact Or.inl (fun b hb => by cases hb)
    | some b =>
      by_cases h1 : O G0 0 13 b = -9
      · exact Or.inl (fun b' hb => by cases hb; exact Or.inl h1)
      · by_cases h2 : O G0 0 13 b = nI w
        · exact Or.inl (fun b' hb => by cases hb; exact Or.inr h2)
        · exact Or.inr ⟨b, rfl, h1, h2⟩
  have h522 : ∀ can : Bool, (can = true ↔ (∀ b, q = some b → O G0 0 13 b = -9 ∨ O G0 0 13 b = nI w) ∧ ∀ a, p = some a → O G0 0 14 a = nI 0) → E3 ε jL_acts 522 [some (.inr (0, 30)), some (.inl y), some (.inl z), some (.inl (nI k)), some (.inl (nI w)), some (.inl (nI c)), some (.inl (oI p)), some (.inl best), some (.inl (if q = none then nI 1 else nI 0)), some (.inl (cI q)), none] [.inl (bI can)] G0 (HQ G0) := by
    intro can hcan
    cases can with
    | true =>
      obtain ⟨c1, c2⟩ := hcan.1 rfl
      repeat (first | refine e3_step rfl rfl ?_)
      refine e3_op (D_assign (p := p) (c := q) h hN hw hp c2 (fun b hb => ⟨hq b hb, c1 b hb⟩)) rfl rfl ⟨rfl, rfl, rfl⟩ rfl rfl rfl rfl (fun G1 zz => ?_)
      have hN1 : IV (asV (O G0 0) w p q) N 500 := hN.asg hw hp c2 (fun b hb => ⟨hq b hb, c1 b hb⟩)
      have hp1 := asg_has hN1 hp hw hq hN
      rw [← zz.2.1] at hN1 hp1
      repeat (first | refine e3_step rfl rfl ?_)
      refine e3_if rfl rfl (fun q => absurd q (by decide)) (fun _ => ?_)
      repeat (first | refine e3_step rfl rfl ?_)
      refine e3_if rfl rfl (fun q => absurd rfl q) (fun _ => ?_)
      repeat (first | refine e3_step rfl rfl ?_)
      refine e3_look (L_fr4 hN1 hw hp1) rfl rfl ⟨rfl, rfl, rfl⟩ rfl rfl rfl rfl ?_
      repeat (first | refine e3_step rfl rfl ?_)
      refine e3_if rfl rfl (fun q => absurd q (by decide)) (fun _ => ?_)
      repeat (first | refine e3_step rfl rfl ?_)
      cases q with
      | none =>
        refine e3_if rfl rfl (fun q => absurd (show nI 1 = 0 from q) (by decide)) (fun _ => ?_)
        repeat (first | refine e3_step rfl rfl ?_)
        refine e3_if rfl rfl (fun q => absurd rfl q) (fun _ => ?_)
        repeat (first | refine e3_step rfl rfl ?_)
        exact e3_zret rfl rfl rfl (HQ.dn zz)
      | some b =>
        refine e3_if rfl rfl (fun _ => ?_) (fun q => absurd (show nI 0 = 0 from rfl) q)
        repeat (first | refine e3_step rfl rfl ?_)
        refine e3_if rfl rfl (fun q => absurd rfl q) (fun _ => ?_)
        repeat (first | refine e3_step rfl rfl ?_)
        exact e3_zret rfl rfl rfl (HQ.dn zz)
    | false =>
      have hno : (∃ b, q = some b ∧ ¬ O G0 0 13 b = -9 ∧ ¬ O G0 0 13 b = nI w) ∨ ∃ a, p = some a ∧ O G0 0 14 a = nI 1 := by
        rcases hcan1 with c1 | c1
        · right
          have : ¬ ∀ a, p = some a → O G0 0 14 a = nI 0 := fun c2 => by
            have := hcan.2 ⟨c1, c2⟩
            cases this
          cases p with
          | none => exact absurd (fun a ha => by cases ha) this
          | some a =>
            refine ⟨a, rfl, ?_⟩
            rcases (hN.1.2.1.1 a (hp.2.1 a rfl).1).1 with q | q
            · exact absurd (fun a' ha => by cases ha; exact q) this
            · exact q
        · exact Or.inl c1
      repeat (first | refine e3_step rfl rfl ?_)
      refine e3_look (L_assignNo (p := p) (c := q) hw hp hq hno) rfl rfl ⟨rfl, rfl, rfl⟩ rfl rfl rfl rfl ?_
      repeat (first | refine e3_step rfl rfl ?_)
      refine e3_if rfl rfl (fun _ => ?_) (fun q => absurd rfl q)
      repeat (first | refine e3_step rfl rfl ?_)
      refine e3_if rfl rfl (fun q => absurd rfl q) (fun _ => ?_)
      repeat (first | refine e3_step rfl rfl ?_)
      refine e3_look (L_fr4 hN hw hp) rfl rfl ⟨rfl, rfl, rfl⟩ rfl rfl rfl rfl ?_
      repeat (first | refine e3_step rfl rfl ?_)
      refine e3_if rfl rfl (fun _ => ?_) (fun q => absurd rfl q)
      repeat (first | refine e3_step rfl rfl ?_)
      refine e3_if rfl rfl (fun q => absurd rfl q) (fun _ => ?_)
      repeat (first | refine e3_step rfl rfl ?_)
      exact e3_zret rfl rfl rfl HQ.lk
  have h521 : (¬ ((∀ b, q = some b → O G0 0 13 b = -9 ∨ O G0 0 13 b = nI w) ∧ ∀ a, p = some a → O G0 0 14 a = nI 0)) → E3 ε jL_acts 521 [some (.inr (0, 30)), some (.inl y), some (.inl z), some (.inl (nI k)), some (.inl (nI w)), some (.inl (nI c)), some (.inl (oI p)), some (.inl best), some (.inl (if q = none then nI 1 else nI 0)), some (.inl (cI q)), none] [] G0 (HQ G0) := by
    intro hn
    refine e3_step rfl rfl ?_
    exact h522 false ⟨(fun q => by cases q), fun q => absurd q hn⟩
  have h500 : (∀ b, q = some b → O G0 0 13 b = -9 ∨ O G0 0 13 b = nI w) → E3 ε jL_acts 500 [some (.inr (0, 30)), some (.inl y), some (.inl z), some (.inl (nI k)), some (.inl (nI w)), some (.inl (nI c)), some (.inl (oI p)), some (.inl best), some (.inl (if q = none then nI 1 else nI 0)), some (.inl (cI q)), none] [] G0 (HQ G0) := by
    intro c1
    repeat (first | refine e3_step rfl rfl ?_)
    cases p with
    | none =>
      refine e3_if rfl rfl (fun _ => ?_) (fun q => absurd rfl q)
      repeat (first | refine e3_stepS 522 rfl rfl rfl ?_)
      exact h522 true ⟨fun _ => ⟨c1, fun a ha => by cases ha⟩, fun _ => rfl⟩
    | some a =>
      have ha := (hp.2.1 a rfl).1
      refine e3_if rfl rfl (fun q => absurd (show nI a = -9 from q) (nI_n9 (by omega))) (fun _ => ?_)
      repeat (first | refine e3_step rfl rfl ?_)
      refine e3_look (L_ca1 (c := a) hN ha) rfl rfl ⟨rfl, rfl, rfl⟩ rfl rfl rfl rfl ?_
      rcases (hN.1.2.1.1 a ha).1 with e | e
      · rw [e]
        refine e3_if rfl rfl (fun q => absurd rfl q) (fun _ => ?_)
        repeat (first | refine e3_stepS 522 rfl rfl rfl ?_)
        exact h522 true ⟨fun _ => ⟨c1, fun a' ha' => by cases ha'; exact e⟩, fun _ => rfl⟩
      · rw [e]
        refine e3_if rfl rfl (fun _ => ?_) (fun q => absurd (by decide) q)
        refine h521 (fun q => ?_)
        have := q.2 a rfl
        rw [e] at this
        exact absurd this (by decide)
  repeat (first | refine e3_step rfl rfl ?_)
  cases q with
  | none =>
    refine e3_if rfl rfl (fun _ => ?_) (fun q => absurd (show (-1 : Int32) < 0 by decide) q)
    exact h500 (fun b hb => by cases hb)
  | some b =>
    have hb := hq b rfl
    refine e3_if rfl rfl (fun q => absurd (show nI b < 0 from q) (nI_pos (by omega))) (fun _ => ?_)
    repeat (first | refine e3_step rfl rfl ?_)
    refine e3_look (L_ca0 (c := b) hN hb) rfl rfl ⟨rfl, rfl, rfl⟩ rfl rfl rfl rfl ?_
    repeat (first | refine e3_step rfl rfl ?_)
    by_cases e1 : O G0 0 13 b = -9
    · refine e3_if rfl rfl (fun _ => ?_) (fun q => absurd e1 q)
      exact h500 (fun b' hb' => by cases hb'; exact Or.inl e1)
    · refine e3_if rfl rfl (fun q => absurd q e1) (fun _ => ?_)
      repeat (first | refine e3_step rfl rfl ?_)
      refine e3_look (L_ca0 (c := b) hN hb) rfl rfl ⟨rfl, rfl, rfl⟩ rfl rfl rfl rfl ?_
      repeat (first | refine e3_step rfl rfl ?_)
      by_cases e2 : O G0 0 13 b = nI w
      · refine e3_if rfl rfl (fun q => absurd e2 q) (fun _ => ?_)
        exact h500 (fun b' hb' => by cases hb'; exact Or.inr e2)
      · refine e3_if rfl rfl (fun _ => ?_) (fun q => absurd e2 q)
        refine h521 (fun q => ?_)
        rcases q.1 b rfl with q | q
        · exact e1 q
        · exact e2 q
set_option maxRecDepth 100000 in
theorem A_asg (h : SG G0) (hw : w < 8) (hc : c < 6) : E3 ε jL_acts 408 [some (.inr (0, 30)), some (.inl y), some (.inl z), some (.inl (nI k)), some (.inl (nI w)), some (.inl (nI c)), none, none, none, none, none] [] G0 (HQ G0) := by
  obtain ⟨N, hN⟩ := h.1
  obtain ⟨p, hp⟩ := has_of (O G0 0) w
  repeat (first | refine e3_step rfl rfl ?_)
  refine e3_look (L_fr4 hN hw hp) rfl rfl ⟨rfl, rfl, rfl⟩ rfl rfl rfl rfl ?_
  repeat (first | refine e3_step rfl rfl ?_)
  refine e3_look (L_best hw) rfl rfl ⟨rfl, rfl, rfl⟩ rfl rfl rfl rfl ?_
  repeat (first | refine e3_step rfl rfl ?_)
  have hbb : ∀ b, bwwV (O G0 0) w 6 = some b → b < 6 := bwwV_lt (O G0 0) w 6
  by_cases hz : z &&& nI 7 = 0
  · refine e3_if rfl rfl (fun q => absurd hz q) (fun _ => ?_)
    repeat (first | refine e3_step rfl rfl ?_)
    refine e3_if rfl rfl (fun q => absurd q (by decide)) (fun _ => ?_)
    repeat (first | refine e3_stepS 471 rfl rfl rfl ?_)
    exact a_asg (p := p) (q := none) h hN hw hp (fun b hb => by cases hb)
  · refine e3_if rfl rfl (fun _ => ?_) (fun q => absurd hz q)
    repeat (first | refine e3_step rfl rfl ?_)
    refine e3_if rfl rfl (fun _ => ?_) (fun q => absurd rfl q)
    repeat (first | refine e3_step rfl rfl ?_)
    have hc0 : E3 ε jL_acts 467 [some (.inr (0, 30)), some (.inl y), some (.inl z), some (.inl (nI k)), some (.inl (nI w)), some (.inl (nI c)), some (.inl (oI p)), some (.inl (oI (bwwV (O G0 0) w 6))), some (.inl (nI 0)), none, none] [] G0 (HQ G0) := by
      repeat (first | refine e3_stepS 471 rfl rfl rfl ?_)
      exact a_asg (p := p) (q := some c) h hN hw hp (fun b hb => by cases hb; exact hc)
    by_cases hz8 : z &&& nI 8 = 0
    · refine e3_if rfl rfl (fun q => absurd hz8 q) (fun _ => ?_)
      repeat (first | refine e3_step rfl rfl ?_)
      cases hb : bwwV (O G0 0) w 6 with
      | none =>
        rw [hb] at hc0
        exact e3_if rfl rfl (fun _ => hc0) (fun q => absurd rfl q)
      | some b =>
        have hb6 := hbb b hb
        refine e3_if rfl rfl (fun q => absurd (show nI b = -9 from q) (nI_n9 (by omega))) (fun _ => ?_)
        repeat (first | refine e3_stepS 471 rfl rfl rfl ?_)
        exact a_asg (p := p) (q := some b) h hN hw hp (fun b' hb' => by cases hb'; exact hb6)
    · exact e3_if rfl rfl (fun _ => hc0) (fun q => absurd hz8 q)
theorem cg_of {V : VV} {w c : Nat} (h : IV V N Y) (hw : w < 8) (h13 : V 13 c = nI w) (h14 : V 14 c = nI 0) : cgB V c = decide (0 < cntB (atV V (nI 1) (nI w)) N) := by
  have hN := h.1.nle
  have h11 := h.1.2.2.1 w hw
  have hle : cntB (atV V (nI 1) (nI w)) N ≤ N := cntB_le _ _
  unfold cgB
  rw [h13, nI_clamp (by omega), h11, decide_eq_true (nI_n9 (by omega)), Bool.true_and, decide_eq_true (p := V 14 c = 0) h14, Bool.true_and]
  refine decide_eq_decide.2 ?_
  constructor
  · intro q
    rcases Nat.eq_zero_or_pos (cntB (atV V (nI 1) (nI w)) N) with z | z
    · rw [z] at q
      exact absurd (Int32.le_refl _) q
    · exact z
  · intro q
    exact nI_ge (a := 0) q (by omega)
set_option maxRecDepth 100000 in
set_option maxHeartbeats 2000000 in
theorem A_round (h : SG G0) (hc : c < 6) : E3 ε jL_acts 600 [some (.inr (0, 30)), some (.inl y), some (.inl z), some (.inl (nI k)), some (.inl (nI w)), some (.inl (nI c)), some (.inl (O G0 0 13 c)), none, none, none, none] [] G0 (HQ G0) := by
  obtain ⟨N, hN⟩ := h.1
  have hN120 := hN.1.nle
  obtain ⟨u, u1, u30, hu⟩ := hN.1.1.2.2.2.2.2.2.2
  obtain ⟨k1, k2, k3⟩ := hN.1.2.1.1 c hc
  rcases k1 with h14 | h14
  · -- in
    have hno : ∀ there : Nat, there = 0 → cgB (O G0 0) c = false → E3 ε jL_acts 714 [some (.inr (0, 30)), some (.inl y), some (.inl z), some (.inl (nI k)), some (.inl (nI w)), some (.inl (nI c)), some (.inl (O G0 0 13 c)), some (.inl (-2)), none, none, none] [.inl (nI there)] G0 (HQ G0) := by
      intro there ht hg
      subst ht
      have hh : cntB (atV (O G0 0) (nI 3) (nI c)) N = 0 := hN.2.1.none hc h14
      have c2 : Lk ε jX8_carrier [.inl (nI c), .inl (nI 2)] G0 (nI 0) := by rw [← hh]; exact L_ca2 hN hc
      repeat (first | refine e3_step rfl rfl ?_)
      refine e3_look (L_c15 hN hu) rfl rfl ⟨rfl, rfl, rfl⟩ rfl rfl rfl rfl ?_
      refine e3_if rfl rfl (fun q => absurd q (nI_ge (a := 0) (b := u) (by omega) (by omega))) (fun _ => ?_)
      repeat (first | refine e3_step rfl rfl ?_)
      refine e3_look (L_goOutNo hN hc hg) rfl rfl ⟨rfl, rfl, rfl⟩ rfl rfl rfl rfl ?_
      repeat (first | refine e3_step rfl rfl ?_)
      refine e3_if rfl rfl (fun _ => ?_) (fun q => absurd (Int32.le_refl _) q)
      repeat (first | refine e3_step rfl rfl ?_)
      refine e3_if rfl rfl (fun q => absurd rfl q) (fun _ => ?_)
      repeat (first | refine e3_step rfl rfl ?_)
      refine e3_look (L_wouldNo hN hc h14 hg) rfl rfl ⟨rfl, rfl, rfl⟩ rfl rfl rfl rfl ?_
      repeat (first | refine e3_step rfl rfl ?_)
      refine e3_if rfl rfl (fun q => absurd rfl q) (fun _ => ?_)
      repeat (first | refine e3_step rfl rfl ?_)
      refine e3_look (c2) rfl rfl ⟨rfl, rfl, rfl⟩ rfl rfl rfl rfl ?_
      repeat (first | refine e3_step rfl rfl ?_)
      refine e3_if rfl rfl (fun q => absurd rfl q) (fun _ => ?_)
      repeat (first | refine e3_step rfl rfl ?_)
      exact e3_zret rfl rfl rfl HQ.lk
    by_cases h9 : O G0 0 13 c = -9
    · have hg : cgB (O G0 0) c = false := by unfold cgB; rw [decide_eq_false (fun q => q h9), Bool.false_and]
      repeat (first | refine e3_step rfl rfl ?_)
      refine e3_look (L_wouldNo hN hc h14 hg) rfl rfl ⟨rfl, rfl, rfl⟩ rfl rfl rfl rfl ?_
      repeat (first | refine e3_step rfl rfl ?_)
      refine e3_look (L_ca1 hN hc) rfl rfl ⟨rfl, rfl, rfl⟩ rfl rfl rfl rfl ?_
      rw [h14]
      repeat (first | refine e3_step rfl rfl ?_)
      refine e3_if rfl rfl (fun _ => ?_) (fun q => absurd (by decide) q)
      repeat (first | refine e3_step rfl rfl ?_)
      refine e3_if rfl rfl (fun q => absurd h9 q) (fun _ => ?_)
      repeat (first | refine e3_stepS 714 rfl rfl rfl ?_)
      exact hno 0 rfl hg
    · obtain ⟨v, v8, hv⟩ := k2.resolve_left h9
      have hcg := cg_of hN v8 hv h14
      have h11 := hN.1.2.2.1 v v8
      have hle : cntB (atV (O G0 0) (nI 1) (nI v)) N ≤ N := cntB_le _ _
      have f1 : Lk ε jX8_frame [.inl (nI v), .inl (nI 1)] G0 (nI (cntB (atV (O G0 0) (nI 1) (nI v)) N)) := by rw [← h11]; exact L_fr1 hN v8
      rcases Nat.eq_zero_or_pos (cntB (atV (O G0 0) (nI 1) (nI v)) N) with z0 | z0
      · have hg : cgB (O G0 0) c = false := by rw [hcg, z0]; rfl
        have hno0 := hno _ z0 hg
        repeat (first | refine e3_step rfl rfl ?_)
        refine e3_look (L_wouldNo hN hc h14 hg) rfl rfl ⟨rfl, rfl, rfl⟩ rfl rfl rfl rfl ?_
        repeat (first | refine e3_step rfl rfl ?_)
        refine e3_look (L_ca1 hN hc) rfl rfl ⟨rfl, rfl, rfl⟩ rfl rfl rfl rfl ?_
        rw [h14]
        repeat (first | refine e3_step rfl rfl ?_)
        refine e3_if rfl rfl (fun _ => ?_) (fun q => absurd (by decide) q)
        repeat (first | refine e3_step rfl rfl ?_)
        refine e3_if rfl rfl (fun _ => ?_) (fun q => absurd h9 q)
        repeat (first | refine e3_step rfl rfl ?_)
        rw [hv] at hno0 ⊢
        refine e3_look (f1) rfl rfl ⟨rfl, rfl, rfl⟩ rfl rfl rfl rfl ?_
        exact hno0
      · have hg : cgB (O G0 0) c = true := by rw [hcg, decide_eq_true z0]
        have hs := snd_all hN hc h14 v8 hv
        have hsn : sndn (O G0 0) N c = min (cntB (atV (O G0 0) (nI 1) (nI v)) N) u := by
          unfold sndn
          rw [hv, atVR_n, hu, nI_clamp (by omega)]
        have h13b : sndV (O G0 0) N c 13 c = nI v := by rw [snd_o (by decide) (by decide) (by decide) (by decide)]; exact hv
        repeat (first | refine e3_step rfl rfl ?_)
        refine e3_look (L_wouldIn hN hc v8 hv h14 hg) rfl rfl ⟨rfl, rfl, rfl⟩ rfl rfl rfl rfl ?_
        repeat (first | refine e3_step rfl rfl ?_)
        refine e3_look (L_ca1 hN hc) rfl rfl ⟨rfl, rfl, rfl⟩ rfl rfl rfl rfl ?_
        rw [h14]
        repeat (first | refine e3_step rfl rfl ?_)
        refine e3_if rfl rfl (fun _ => ?_) (fun q => absurd (by decide) q)
        repeat (first | refine e3_step rfl rfl ?_)
        refine e3_if rfl rfl (fun _ => ?_) (fun q => absurd h9 q)
        repeat (first | refine e3_step rfl rfl ?_)
        rw [hv]
        refine e3_look (f1) rfl rfl ⟨rfl, rfl, rfl⟩ rfl rfl rfl rfl ?_
        have h738 : E3 ε jL_acts 738 [some (.inr (0, 30)), some (.inl y), some (.inl z), some (.inl (nI k)), some (.inl (nI w)), some (.inl (nI c)), some (.inl (nI v)), some (.inl (nI (brgn (sndV (O G0 0) N c) N c v))), some (.inl (nI (cntB (atV (O G0 0) (nI 1) (nI v)) N))), none, none] [.inl (nI (min (cntB (atV (O G0 0) (nI 1) (nI v)) N) u))] G0 (HQ G0) := by
          repeat (first | refine e3_step rfl rfl ?_)
          refine e3_op (D_goOut h hN hc v8 hv h14 hg) rfl rfl ⟨rfl, rfl, rfl⟩ rfl rfl rfl rfl (fun G1 zz => ?_)
          have hN1 : IV (O G1 0) N 500 := by rw [zz.2.1]; exact hs.1
          have e13 : O G1 0 13 c = nI v := by rw [zz.2.1]; exact h13b
          have e14 : O G1 0 14 c = nI 1 := by rw [zz.2.1]; exact hs.2.2
          have w1 : Lk ε jX8_wouldDeliver [.inl (nI c)] G1 (nI (brgn (sndV (O G0 0) N c) N c v)) := by
            rw [← zz.2.1]
            exact L_wouldOut hN1 hc v8 e13 e14
          have c2 : Lk ε jX8_carrier [.inl (nI c), .inl (nI 2)] G1 (nI (min (cntB (atV (O G0 0) (nI 1) (nI v)) N) u)) := by
            rw [← hsn, ← hs.2.1, ← zz.2.1]
            exact L_ca2 hN1 hc
          rw [hsn]
          repeat (first | refine e3_step rfl rfl ?_)
          refine e3_if rfl rfl (fun q => absurd (show nI _ ≤ nI 0 from q) (nI_ge z0 (by omega))) (fun _ => ?_)
          repeat (first | refine e3_step rfl rfl ?_)
          refine e3_if rfl rfl (fun q => absurd rfl q) (fun _ => ?_)
          repeat (first | refine e3_step rfl rfl ?_)
          refine e3_look (w1) rfl rfl ⟨rfl, rfl, rfl⟩ rfl rfl rfl rfl ?_
          repeat (first | refine e3_step rfl rfl ?_)
          refine e3_if rfl rfl (fun q => absurd rfl q) (fun _ => ?_)
          repeat (first | refine e3_step rfl rfl ?_)
          refine e3_look (c2) rfl rfl ⟨rfl, rfl, rfl⟩ rfl rfl rfl rfl ?_
          repeat (first | refine e3_step rfl rfl ?_)
          refine e3_if rfl rfl (fun q => absurd rfl q) (fun _ => ?_)
          repeat (first | refine e3_step rfl rfl ?_)
          exact e3_zret rfl rfl rfl (HQ.dn zz)
        repeat (first | refine e3_step rfl rfl ?_)
        refine e3_look (L_c15 hN hu) rfl rfl ⟨rfl, rfl, rfl⟩ rfl rfl rfl rfl ?_
        by_cases hlt : cntB (atV (O G0 0) (nI 1) (nI v)) N < u
        · refine e3_if rfl rfl (fun q => absurd q (nI_ge hlt (by omega))) (fun _ => ?_)
          rw [Nat.min_eq_left (by omega)] at h738
          repeat (first | refine e3_stepS 738 rfl rfl rfl ?_)
          exact h738
        · refine e3_if rfl rfl (fun _ => ?_) (fun q => absurd (nI_le (a := u) (by omega) (by omega)) q)
          rw [Nat.min_eq_right (by omega)] at h738
          repeat (first | refine e3_step rfl rfl ?_)
          refine e3_look (L_c15 hN hu) rfl rfl ⟨rfl, rfl, rfl⟩ rfl rfl rfl rfl ?_
          exact h738
  · -- out
    obtain ⟨v, v8, hv⟩ := k2.resolve_left (k3 h14)
    obtain ⟨b1, b2, b3, b4⟩ := brg_all (by decide) hN hc v8 hv
    repeat (first | refine e3_step rfl rfl ?_)
    refine e3_look (L_wouldOut hN hc v8 hv h14) rfl rfl ⟨rfl, rfl, rfl⟩ rfl rfl rfl rfl ?_
    repeat (first | refine e3_step rfl rfl ?_)
    refine e3_look (L_ca1 hN hc) rfl rfl ⟨rfl, rfl, rfl⟩ rfl rfl rfl rfl ?_
    rw [h14]
    repeat (first | refine e3_step rfl rfl ?_)
    refine e3_if rfl rfl (fun q => absurd rfl q) (fun _ => ?_)
    repeat (first | refine e3_step rfl rfl ?_)
    refine e3_look (L_ca3 hN hc) rfl rfl ⟨rfl, rfl, rfl⟩ rfl rfl rfl rfl ?_
    repeat (first | refine e3_step rfl rfl ?_)
    rw [hv]
    refine e3_look (L_rounds hc v8) rfl rfl ⟨rfl, rfl, rfl⟩ rfl rfl rfl rfl ?_
    repeat (first | refine e3_step rfl rfl ?_)
    refine e3_op (D_comeBack h hN hc v8 hv h14) rfl rfl ⟨rfl, rfl, rfl⟩ rfl rfl rfl rfl (fun G1 zz => ?_)
    have hN1 : IV (O G1 0) N 500 := by rw [zz.2.1]; exact b1
    have r1 : Lk ε jX8_rounds [.inl (nI c), .inl (nI v)] G1 (O G0 0 16 (c * 8 + v) + nI 1) := by
      rw [← b3, ← zz.2.1]
      exact L_rounds hc v8
    have c3 : Lk ε jX8_carrier [.inl (nI c), .inl (nI 3)] G1 (O G0 0 15 c + nI (brgn (O G0 0) N c v)) := by
      rw [← b2, ← zz.2.1]
      exact L_ca3 hN1 hc
    have e14 : O G1 0 14 c = nI 0 := by rw [zz.2.1]; exact b4
    repeat (first | refine e3_step rfl rfl ?_)
    refine e3_if rfl rfl (fun q => absurd rfl q) (fun _ => ?_)
    repeat (first | refine e3_step rfl rfl ?_)
    refine e3_look (c3) rfl rfl ⟨rfl, rfl, rfl⟩ rfl rfl rfl rfl ?_
    repeat (first | refine e3_step rfl rfl ?_)
    refine e3_if rfl rfl (fun q => absurd rfl q) (fun _ => ?_)
    repeat (first | refine e3_step rfl rfl ?_)
    refine e3_look (r1) rfl rfl ⟨rfl, rfl, rfl⟩ rfl rfl rfl rfl ?_
    repeat (first | refine e3_step rfl rfl ?_)
    refine e3_if rfl rfl (fun q => absurd rfl q) (fun _ => ?_)
    repeat (first | refine e3_step rfl rfl ?_)
    refine e3_look (L_comeBackNo hc e14) rfl rfl ⟨rfl, rfl, rfl⟩ rfl rfl rfl rfl ?_
    repeat (first | refine e3_step rfl rfl ?_)
    refine e3_if rfl rfl (fun q => absurd rfl q) (fun _ => ?_)
    repeat (first | refine e3_step rfl rfl ?_)
    exact e3_zret rfl rfl rfl (HQ.dn zz)
set_option maxRecDepth 100000 in
theorem A_slot (h : SG G0) : E3 ε jL_acts 790 [some (.inr (0, 30)), some (.inl y), some (.inl z), some (.inl (nI k)), some (.inl (nI w)), some (.inl (nI c)), some (.inl x), none, none, none, none] [] G0 (HQ G0) := by
  obtain ⟨N, hN⟩ := h.1
  obtain ⟨yy, y500, hy⟩ := hN.1.1.2.2.2.2.1
  obtain ⟨t, ht, et⟩ := and_le z 1 (by decide)
  repeat (first | refine e3_step rfl rfl ?_)
  rw [et]
  by_cases hz : z &&& nI 2 = 0
  · refine e3_if rfl rfl (fun q => absurd hz q) (fun _ => ?_)
    repeat (first | refine e3_step rfl rfl ?_)
    refine e3_op (D_take (t := t) h (by omega)) rfl rfl ⟨rfl, rfl, rfl⟩ rfl rfl rfl rfl (fun G1 zz => ?_)
    have hN1 : IV (O G1 0) N 500 := by rw [zz.2.1]; exact hN
    have hy1 : O G1 0 0 4 = nI yy := by rw [zz.2.1]; exact hy
    rw [hy]
    repeat (first | refine e3_step rfl rfl ?_)
    refine e3_look (L_c7 hN1 hy1) rfl rfl ⟨rfl, rfl, rfl⟩ rfl rfl rfl rfl ?_
    refine e3_if rfl rfl (fun q => absurd rfl q) (fun _ => ?_)
    repeat (first | refine e3_step rfl rfl ?_)
    exact e3_zret rfl rfl rfl (HQ.dn zz)
  · refine e3_if rfl rfl (fun _ => ?_) (fun q => absurd hz q)
    repeat (first | refine e3_step rfl rfl ?_)
    rcases (h.2.1 t (by omega)).1 with hf | hf
    · have c16 : Lk ε jX8_count [.inl (nI 16)] G0 (nI (cntB (fun c => decide (¬ G0 0 22 c = 0)) 2)) := L_count hN (k := 16) (by decide)
      have hlt : cntB (fun c => decide (¬ G0 0 22 c = 0)) 2 < 2 := by
        have ht2 : t = 0 ∨ t = 1 := by omega
        have e : cntB (fun c => decide (¬ G0 0 22 c = 0)) 2 = (0 + (if decide (¬ G0 0 22 0 = 0) = true then 1 else 0)) + (if decide (¬ G0 0 22 1 = 0) = true then 1 else 0) := rfl
        rw [e]
        rcases ht2 with rfl | rfl
        · have f0 : decide (¬ G0 0 22 0 = 0) = false := decide_eq_false (fun q => q hf)
          rw [f0, if_neg (by decide)]
          split <;> omega
        · have f0 : decide (¬ G0 0 22 1 = 0) = false := decide_eq_false (fun q => q hf)
          rw [f0, if_neg (c := false = true) (by decide)]
          split <;> omega
      refine e3_look (L_restoreNo (t := t) (by omega) hf) rfl rfl ⟨rfl, rfl, rfl⟩ rfl rfl rfl rfl ?_
      repeat (first | refine e3_step rfl rfl ?_)
      refine e3_if rfl rfl (fun q => absurd rfl q) (fun _ => ?_)
      repeat (first | refine e3_step rfl rfl ?_)
      refine e3_look (c16) rfl rfl ⟨rfl, rfl, rfl⟩ rfl rfl rfl rfl ?_
      repeat (first | refine e3_step rfl rfl ?_)
      refine e3_if rfl rfl (fun q => absurd q (nI_ge hlt (by decide))) (fun _ => ?_)
      repeat (first | refine e3_step rfl rfl ?_)
      exact e3_zret rfl rfl rfl HQ.lk
    · obtain ⟨N2, hN2⟩ := (h.2.1 t (by omega)).2 hf
      obtain ⟨y2, y2500, hy2⟩ := hN2.1.1.2.2.2.2.1
      refine e3_op (D_restore (t := t) h (by omega) hf) rfl rfl ⟨rfl, rfl, rfl⟩ rfl rfl rfl rfl (fun G1 zz => ?_)
      have hN1 : IV (O G1 0) N2 500 := by rw [zz.2.1]; exact hN2
      have hy1 : O G1 0 0 4 = nI y2 := by rw [zz.2.1]; exact hy2
      rw [hy2]
      repeat (first | refine e3_step rfl rfl ?_)
      refine e3_if rfl rfl (fun _ => ?_) (fun q => absurd (fun w => by
        have := congrArg Int32.toInt w
        rw [nI_toInt (by omega)] at this
        have e2 : (-2 : Int32).toInt = -2 := by decide
        omega) q)
      repeat (first | refine e3_step rfl rfl ?_)
      refine e3_look (L_c7 hN1 hy1) rfl rfl ⟨rfl, rfl, rfl⟩ rfl rfl rfl rfl ?_
      refine e3_if rfl rfl (fun q => absurd rfl q) (fun _ => ?_)
      repeat (first | refine e3_step rfl rfl ?_)
      exact e3_zret rfl rfl rfl (HQ.dn zz)
theorem After.tr {G2 : GG} (h : After G0 G1) (k : lk1 G1 G2) : After G0 G2 := by
  rcases h with h | ⟨V', h⟩
  · exact Or.inl (h.tr k)
  · exact Or.inr ⟨V', h.lk k⟩
set_option maxRecDepth 100000 in
theorem H_acts (h : SG G0) (y z : Int32) : ∀ G, lk1 G0 G → C2 ε jL_acts [.inr (0, 30), .inl y, .inl z] G (HQ G0) := by
  obtain ⟨N, hN⟩ := h.1
  obtain ⟨k, hk, ek⟩ := and_le y 15 (by decide)
  obtain ⟨w, hw, ew⟩ := lowI_of (y >>> (nI 4 &&& 31)) (n := 8) (by decide) (by decide)
  obtain ⟨c, hc, ec⟩ := lowI_of (y >>> (nI 8 &&& 31)) (n := 6) (by decide) (by decide)
  refine C3.of (ls := [some (.inr (0, 30)), some (.inl y), some (.inl z), none, none, none, none, none, none, none, none]) okL_acts rfl rfl ?_
  repeat (first | refine e3_step rfl rfl ?_)
  rw [ek]
  refine e3_stat (L_low (y >>> (nI 4 &&& 31)) (n := 8) (by decide) (by decide)) rfl rfl ⟨rfl, rfl, rfl⟩ rfl rfl rfl ?_
  rw [ew]
  repeat (first | refine e3_step rfl rfl ?_)
  refine e3_stat (L_low (y >>> (nI 8 &&& 31)) (n := 6) (by decide) (by decide)) rfl rfl ⟨rfl, rfl, rfl⟩ rfl rfl rfl ?_
  rw [ec]
  repeat (first | refine e3_step rfl rfl ?_)
  by_cases k3 : k < 3
  · refine e3_if rfl rfl (fun q => absurd q (nI_ge k3 (by decide))) (fun _ => ?_)
    exact A_post h
  · refine e3_if rfl rfl (fun _ => ?_) (fun q => absurd (nI_le (a := 3) (b := k) (by omega) (by omega)) q)
    repeat (first | refine e3_step rfl rfl ?_)
    by_cases k7 : k < 7
    · refine e3_if rfl rfl (fun q => absurd q (nI_ge k7 (by decide))) (fun _ => ?_)
      repeat (first | refine e3_step rfl rfl ?_)
      refine e3_statO (As := [.inr (0, 30)]) (r := nI 1) (P := fun G' => After G0 G') (H_hours h) rfl rfl ⟨rfl, rfl, rfl⟩ rfl rfl rfl (fun G1 zz => ?_)
      exact e3_zret rfl rfl rfl (fun G' hG' => ⟨rfl, zz.tr hG'⟩)
    · refine e3_if rfl rfl (fun _ => ?_) (fun q => absurd (nI_le (a := 7) (b := k) (by omega) (by omega)) q)
      repeat (first | refine e3_step rfl rfl ?_)
      by_cases k7e : k = 7
      · refine e3_if rfl rfl (fun q => absurd (by rw [k7e]) q) (fun _ => ?_)
        exact A_range h hw
      · refine e3_if rfl rfl (fun _ => ?_) (fun q => absurd (fun w => k7e ((nI_eq (by omega) (by decide)).1 w)) q)
        repeat (first | refine e3_step rfl rfl ?_)
        by_cases k8 : k = 8
        · refine e3_if rfl rfl (fun q => absurd (by rw [k8]) q) (fun _ => ?_)
          exact A_set h
        · refine e3_if rfl rfl (fun _ => ?_) (fun q => absurd (fun w => k8 ((nI_eq (by omega) (by decide)).1 w)) q)
          repeat (first | refine e3_step rfl rfl ?_)
          by_cases k11 : k < 11
          · refine e3_if rfl rfl (fun q => absurd q (nI_ge k11 (by decide))) (fun _ => ?_)
            exact A_asg h hw hc
          · refine e3_if rfl rfl (fun _ => ?_) (fun q => absurd (nI_le (a := 11) (b := k) (by omega) (by omega)) q)
            repeat (first | refine e3_step rfl rfl ?_)
            refine e3_look (L_ca0 hN hc) rfl rfl ⟨rfl, rfl, rfl⟩ rfl rfl rfl rfl ?_
            repeat (first | refine e3_step rfl rfl ?_)
            by_cases k15 : k < 15
            · refine e3_if rfl rfl (fun q => absurd q (nI_ge k15 (by decide))) (fun _ => ?_)
              exact A_round h hc
            · refine e3_if rfl rfl (fun _ => ?_) (fun q => absurd (nI_le (a := 15) (b := k) (by omega) (by omega)) q)
              exact A_slot h
end ME2
end
section
/-! The law's rules: its four rows lie beside the world. -/
section MF2
variable {ε : EE} {J' : JT} {pc : Nat} {ls : List (Option V0)} {st : List V0} {G G' G0 G1 : GG} {V V' : VV} {N Y n k w c l p : Nat} {y z x : Int32} {A : Nat × Nat × Nat × Nat} {f1 f2 f3 f4 g1 g2 g3 g4 : Nat → Int32}
/-- the same with other cells beside -/
def ex (ε : EE) (xs : va_W) : EE := (ε.1, ε.2.1, ε.2.2.1, ε.2.2.2.1, ε.2.2.2.2.1, xs)
def xl (ε : EE) (A : Nat × Nat × Nat × Nat) (f1 f2 f3 f4 : Nat → Int32) : va_W := [(A.1, .inl (ε.2.2.1 0, 8, .inl f1)), (A.2.1, .inl (ε.2.2.1 0, 8, .inl f2)), (A.2.2.1, .inl (ε.2.2.1 0, 6, .inl f3)), (A.2.2.2, .inl (ε.2.2.1 0, 6, .inl f4))]
def RQ (ε : EE) (G0 : GG) (v : Option Int32) (ws' : va_W) : Prop := v = some (nI 1) ∧ ∃ G' xs, ws' = wd (ex ε xs) G' ∧ lk1 G0 G'
def ER (ε : EE) (A : Nat × Nat × Nat × Nat) (pc : Nat) (ls : List (Option V0)) (st : List V0) (f1 f2 f3 f4 : Nat → Int32) (G0 : GG) : Prop := ∀ G, lk1 G0 G → E ε jL_rules 4 28 4 28 pc ls st (wd (ex ε (xl ε A f1 f2 f3 f4)) G) (RQ ε G0)
theorem er_step {o a b nx tg : Nat} {v : Int32} {ls' : List (Option V0)} {st' : List V0} (h : lk (jt jL_rules) pc = (o, a, b, v, nx, tg)) (hs : stp o a v ls st = some (ls', st')) (k : ER ε A nx ls' st' f1 f2 f3 f4 G0) : ER ε A pc ls st f1 f2 f3 f4 G0 := fun G hG => e_step h hs (k G hG)
theorem er_stepS {o a b nx tg : Nat} {v : Int32} {ls' : List (Option V0)} {st' : List V0} (stop : Nat) (_ : Nat.beq pc stop = false) (h : lk (jt jL_rules) pc = (o, a, b, v, nx, tg)) (hs : stp o a v ls st = some (ls', st')) (k : ER ε A nx ls' st' f1 f2 f3 f4 G0) : ER ε A pc ls st f1 f2 f3 f4 G0 := fun G hG => e_step h hs (k G hG)
theorem er_if {o a b nx tg : Nat} {v : Int32} {P : Prop} {st' : List V0} (h : lk (jt jL_rules) pc = (o, a, b, v, nx, tg)) (hs : cnd o st = some (P, st')) (kt : P → ER ε A tg ls st' f1 f2 f3 f4 G0) (kf : ¬ P → ER ε A nx ls st' f1 f2 f3 f4 G0) : ER ε A pc ls st f1 f2 f3 f4 G0 := fun G hG => e_if h hs (fun q => kt q G hG) (fun q => kf q G hG)
theorem vm_ex {xs : va_W} : e_vm (ex ε xs) = e_vm ε := rfl
theorem e_Ct_ex {J : JT} {mc ms : Nat} {As : List V0} {ws xs : va_W} {Q : Option Int32 → va_W → Prop} (h : e_Ct (ex ε xs) J mc ms As ws Q) : e_Ct ε J mc ms As ws Q := h
theorem er_look {n idx nx : Nat} {v r : Int32} {As rest : List V0} {ty : FieldType} (hC : Lk (ex ε (xl ε A f1 f2 f3 f4)) J' As G0 r) (hst : st = As.reverse ++ .inr (0, 30) :: rest) (h : lk (jt jL_rules) pc = (44, n, jn J', v, nx, idx)) (hT : e_fit jL_rules J') (hr : jr J' = some ty) (hn : As.length = n) (hrest : Nat.ble rest.length 8 = true) (hcn : nmC 8 = (jy J').cls) (k : ER ε A nx ls (.inl r :: rest) f1 f2 f3 f4 G0) : ER ε A pc ls st f1 f2 f3 f4 G0 := fun G hG => by
  obtain ⟨q0, -, h2⟩ := wd_at (ex ε (xl ε A f1 f2 f3 f4)) G (i := 0) (kk := 30) (by decide)
  have h3 : (wd (ex ε (xl ε A f1 f2 f3 f4)) G)[q0]? = some (ε.2.2.2.2.1 0 30, .inr (8, [.inr (0, 20), .inr (0, 31), .inr (0, 33), .inr (18, 0), .inr (0, 40)].map (e_vm ε))) := h2
  have hC2 : e_Ct ε J' 0 0 (.inr (0, 30) :: As) (wd (ex ε (xl ε A f1 f2 f3 f4)) G) (fun v ws' => ∃ G', ws' = wd (ex ε (xl ε A f1 f2 f3 f4)) G' ∧ v = some r ∧ lk1 G G') := e_Ct_ex (hC G hG)
  refine e_callVi (cells := 4) (slots := 28) (mc' := 0) (ms' := 0) h hT.1 hr hT.rm hn hst (Nat.le_of_ble_eq_true hrest) (e_vm_val ε (by decide)) h3 (by decide) hcn hC2 ⟨Nat.le_refl _, Nat.le_refl _⟩ (fun r' ws' zz => ?_)
  obtain ⟨G', rfl, z1, z2⟩ := zz
  cases z1
  exact k G' (hG.tr z2)
theorem er_stat {n idx nx : Nat} {v r : Int32} {As rest : List V0} {ty : FieldType} (hC : Ls (ex ε (xl ε A f1 f2 f3 f4)) J' As G0 r) (hst : st = As.reverse ++ rest) (h : lk (jt jL_rules) pc = (46, n, jn J', v, nx, idx)) (hT : e_fit jL_rules J') (hr : jr J' = some ty) (hn : As.length = n) (hrest : Nat.ble rest.length 8 = true) (k : ER ε A nx ls (.inl r :: rest) f1 f2 f3 f4 G0) : ER ε A pc ls st f1 f2 f3 f4 G0 := fun G hG => by
  have hC2 : e_Ct ε J' 0 0 As (wd (ex ε (xl ε A f1 f2 f3 f4)) G) (fun v ws' => ∃ G', ws' = wd (ex ε (xl ε A f1 f2 f3 f4)) G' ∧ v = some r ∧ lk1 G G') := e_Ct_ex (hC G hG)
  refine e_callSi (cells := 4) (slots := 28) (mc' := 0) (ms' := 0) h hT.1 hr hT.rm hn hst (Nat.le_of_ble_eq_true hrest) hC2 ⟨Nat.le_refl _, Nat.le_refl _⟩ (fun r' ws' zz => ?_)
  obtain ⟨G', rfl, z1, z2⟩ := zz
  cases z1
  exact k G' (hG.tr z2)
theorem vals_n : vals.length = 370 := by decide +kernel
theorem xl_at {xs : va_W} {i : Nat} {q : Nat × va_E} (h : xs[i]? = some q) : (wd (ex ε xs) G)[370 + i]? = some q := by
  unfold wd
  rw [List.getElem?_append_right (by rw [List.length_map, vals_n]; omega), List.length_map, vals_n, Nat.add_sub_cancel_left]
  exact h
theorem xl_set {xs : va_W} {i : Nat} {q : Nat × va_E} : (wd (ex ε xs) G).set (370 + i) q = wd (ex ε (xs.set i q)) G := by
  unfold wd
  rw [List.set_append_right _ _ (by rw [List.length_map, vals_n]; omega), List.length_map, vals_n, Nat.add_sub_cancel_left]
  rfl
theorem er_ld {o a b nx a0 n : Nat} {v : Int32} {f : Nat → Int32} (i j : Nat) (h : lk (jt jL_rules) pc = (32, a, b, v, nx, o)) (hp : (xl ε A f1 f2 f3 f4)[i]? = some (a0, .inl (ε.2.2.1 0, n, .inl f))) (hj : j < n) (hn : Nat.ble n 100 = true) (k : ER ε A nx ls (.inl (f j) :: st) f1 f2 f3 f4 G0) : ER ε A pc ls (.inl (nI j) :: .inr (a0, 99) :: st) f1 f2 f3 f4 G0 := fun G hG =>
  e_iald (q0 := 370 + i) h rfl (xl_at hp) hj (by have := Nat.le_of_ble_eq_true hn; omega) (k G hG)
theorem er_st {o a b nx a0 n : Nat} {v : Int32} {f : Nat → Int32} (i j : Nat) (h : lk (jt jL_rules) pc = (36, a, b, v, nx, o)) (hp : (xl ε A f1 f2 f3 f4)[i]? = some (a0, .inl (ε.2.2.1 0, n, .inl f))) (hj : j < n) (hn : Nat.ble n 100 = true) (hs : (xl ε A f1 f2 f3 f4).set i (a0, .inl (ε.2.2.1 0, n, .inl (upd f j x))) = xl ε A g1 g2 g3 g4) (k : ER ε A nx ls st g1 g2 g3 g4 G0) : ER ε A pc ls (.inl x :: .inl (nI j) :: .inr (a0, 99) :: st) f1 f2 f3 f4 G0 := fun G hG =>
  e_iast (q0 := 370 + i) h rfl (xl_at hp) hj (by have := Nat.le_of_ble_eq_true hn; omega) (by rw [xl_set, hs]; exact k G hG)
set_option maxRecDepth 100000 in
theorem er_zret {o a b nx : Nat} {v : Int32} (h : lk (jt jL_rules) pc = (41, a, b, v, nx, o)) : ER ε A pc ls [.inl (nI 1)] f1 f2 f3 f4 G0 := fun G hG =>
  e_zret h rfl (Nat.le_refl _) (Nat.le_refl _) rfl ⟨rfl, G, _, rfl, hG⟩
theorem e_dropK {mc ms cells slots : Nat} {J : JT} {ws : va_W} {ls' : List (Option V0)} {Q : Option Int32 → va_W → Prop} (k : E ε J mc ms cells slots pc ls' st ws Q) (h : e_sub ls' ls) : E ε J mc ms cells slots pc ls st ws Q := by
  intro hT p e R s m args below meth c H locs lsA C hP hD hS hl
  refine k hT p e R s m args below meth c H locs lsA C hP hD hS ⟨hl.1, hl.2.1, fun q hq => ?_⟩
  obtain ⟨j, v, z1, z2, z3⟩ := (e_ll_mem ε _ 0 q).1 hq
  exact hl.2.2 q ((e_ll_mem ε _ 0 q).2 ⟨j, v, z1, e_sub_at _ _ h j v z2, z3⟩)
theorem er_dropK {ls' : List (Option V0)} (k : ER ε A pc ls' st f1 f2 f3 f4 G0) (h : e_sub ls' ls) : ER ε A pc ls st f1 f2 f3 f4 G0 := fun G hG => e_dropK (k G hG) h
-- what rules counts up to letter l
def RI (V : VV) (l : Nat) (f1 f2 f3 f4 : Nat → Int32) : Prop := (∀ w, w < 8 → f1 w = nI (cntB (atV V (nI 1) (nI w)) l)) ∧ (∀ w, w < 8 → f2 w = nI (cntB (fun l => atV V (nI 1) (nI w) l && decide (V 5 l = nI 1)) l)) ∧ (∀ c, c < 6 → f3 c = nI (cntB (atV V (nI 3) (nI c)) l)) ∧ ∀ p, p < 6 → f4 p = nI (P7 V p l)
abbrev L13 (A : Nat × Nat × Nat × Nat) (a b : Int32) (r : List (Option V0)) : List (Option V0) := some (.inr (0, 30)) :: some (.inr (A.1, 99)) :: some (.inr (A.2.1, 99)) :: some (.inr (A.2.2.1, 99)) :: some (.inr (A.2.2.2, 99)) :: some (.inl a) :: some (.inl b) :: r
set_option maxRecDepth 100000 in
/-- place and walk fit -/
theorem rs_1 {w9 c9 : Int32} {r : List (Option V0)} (hp : p ≤ 5) (hw : p = 1 ↔ ¬ w9 = -9) (K : ER ε A 115 (L13 A y z (some (.inl (nI l)) :: some (.inl (nI p)) :: some (.inl w9) :: some (.inl c9) :: r)) [] f1 f2 f3 f4 G0) : ER ε A 89 (L13 A y z (some (.inl (nI l)) :: some (.inl (nI p)) :: some (.inl w9) :: some (.inl c9) :: r)) [] f1 f2 f3 f4 G0 := by
  repeat (first | refine er_step rfl rfl ?_)
  by_cases h : p = 1
  · have h9 := hw.1 h
    refine er_if rfl rfl (fun q => absurd (by rw [h]) q) (fun _ => ?_)
    repeat (first | refine er_step rfl rfl ?_)
    refine er_if rfl rfl (fun q => absurd q h9) (fun _ => ?_)
    repeat (first | refine er_step rfl rfl ?_)
    refine er_if rfl rfl (fun q => absurd rfl q) (fun _ => ?_)
    exact K
  · have h9 : w9 = -9 := Classical.not_not.1 (fun q => h (hw.2 q))
    refine er_if rfl rfl (fun _ => ?_) (fun q => absurd (fun w => h ((nI_eq (by omega) (by decide)).1 w)) q)
    repeat (first | refine er_step rfl rfl ?_)
    refine er_if rfl rfl (fun _ => ?_) (fun q => absurd h9 q)
    repeat (first | refine er_step rfl rfl ?_)
    refine er_if rfl rfl (fun q => absurd rfl q) (fun _ => ?_)
    exact K
set_option maxRecDepth 100000 in
theorem rs_2 {w9 c9 : Int32} {r : List (Option V0)} (hp : p ≤ 5) (hc : p = 3 ↔ ¬ c9 = -9) (K : ER ε A 141 (L13 A y z (some (.inl (nI l)) :: some (.inl (nI p)) :: some (.inl w9) :: some (.inl c9) :: r)) [] f1 f2 f3 f4 G0) : ER ε A 115 (L13 A y z (some (.inl (nI l)) :: some (.inl (nI p)) :: some (.inl w9) :: some (.inl c9) :: r)) [] f1 f2 f3 f4 G0 := by
  repeat (first | refine er_step rfl rfl ?_)
  by_cases h : p = 3
  · have h9 := hc.1 h
    refine er_if rfl rfl (fun q => absurd (by rw [h]) q) (fun _ => ?_)
    repeat (first | refine er_step rfl rfl ?_)
    refine er_if rfl rfl (fun q => absurd q h9) (fun _ => ?_)
    repeat (first | refine er_step rfl rfl ?_)
    refine er_if rfl rfl (fun q => absurd rfl q) (fun _ => ?_)
    exact K
  · have h9 : c9 = -9 := Classical.not_not.1 (fun q => h (hc.2 q))
    refine er_if rfl rfl (fun _ => ?_) (fun q => absurd (fun w => h ((nI_eq (by omega) (by decide)).1 w)) q)
    repeat (first | refine er_step rfl rfl ?_)
    refine er_if rfl rfl (fun _ => ?_) (fun q => absurd h9 q)
    repeat (first | refine er_step rfl rfl ?_)
    refine er_if rfl rfl (fun q => absurd rfl q) (fun _ => ?_)
    exact K
set_option maxRecDepth 100000 in
theorem rs_3 {w9 c9 e : Int32} {r : List (Option V0)} (hp : p ≤ 5) (he : p ≤ 3 ↔ e = -9) (hL : Lk (ex ε (xl ε A f1 f2 f3 f4)) jX8_letter [.inl (nI l), .inl (nI 7)] G0 e) (K : ER ε A 173 (L13 A y z (some (.inl (nI l)) :: some (.inl (nI p)) :: some (.inl w9) :: some (.inl c9) :: r)) [] f1 f2 f3 f4 G0) : ER ε A 141 (L13 A y z (some (.inl (nI l)) :: some (.inl (nI p)) :: some (.inl w9) :: some (.inl c9) :: r)) [] f1 f2 f3 f4 G0 := by
  repeat (first | refine er_step rfl rfl ?_)
  by_cases h : p ≤ 3
  · have h9 := he.1 h
    refine er_if rfl rfl (fun _ => ?_) (fun q => absurd (nI_le (b := 3) h (by decide)) q)
    repeat (first | refine er_step rfl rfl ?_)
    refine er_look (hL) rfl rfl ⟨rfl, rfl, rfl⟩ rfl rfl rfl rfl ?_
    repeat (first | refine er_step rfl rfl ?_)
    refine er_if rfl rfl (fun _ => ?_) (fun q => absurd h9 q)
    repeat (first | refine er_step rfl rfl ?_)
    refine er_if rfl rfl (fun q => absurd rfl q) (fun _ => ?_)
    exact K
  · have h9 : ¬ e = -9 := fun q => h (he.2 q)
    refine er_if rfl rfl (fun q => absurd q (nI_ge (a := 3) (b := p) (by omega) (by omega))) (fun _ => ?_)
    repeat (first | refine er_step rfl rfl ?_)
    refine er_look (hL) rfl rfl ⟨rfl, rfl, rfl⟩ rfl rfl rfl rfl ?_
    repeat (first | refine er_step rfl rfl ?_)
    refine er_if rfl rfl (fun q => absurd q h9) (fun _ => ?_)
    repeat (first | refine er_step rfl rfl ?_)
    refine er_if rfl rfl (fun q => absurd rfl q) (fun _ => ?_)
    exact K
set_option maxRecDepth 100000 in
theorem rs_4 {w9 c9 : Int32} {m : Nat} {r : List (Option V0)} (hp : p ≤ 5) (hm : m ≤ 3) (he : p = 5 ↔ m = 3) (hL : Lk (ex ε (xl ε A f1 f2 f3 f4)) jX8_letter [.inl (nI l), .inl (nI 5)] G0 (nI m)) (K : ER ε A 203 (L13 A y z (some (.inl (nI l)) :: some (.inl (nI p)) :: some (.inl w9) :: some (.inl c9) :: r)) [] f1 f2 f3 f4 G0) : ER ε A 173 (L13 A y z (some (.inl (nI l)) :: some (.inl (nI p)) :: some (.inl w9) :: some (.inl c9) :: r)) [] f1 f2 f3 f4 G0 := by
  repeat (first | refine er_step rfl rfl ?_)
  by_cases h : p = 5
  · have h9 := he.1 h
    refine er_if rfl rfl (fun q => absurd (by rw [h]) q) (fun _ => ?_)
    repeat (first | refine er_step rfl rfl ?_)
    refine er_look (hL) rfl rfl ⟨rfl, rfl, rfl⟩ rfl rfl rfl rfl ?_
    repeat (first | refine er_step rfl rfl ?_)
    refine er_if rfl rfl (fun q => absurd (by rw [h9]) q) (fun _ => ?_)
    repeat (first | refine er_step rfl rfl ?_)
    refine er_if rfl rfl (fun q => absurd rfl q) (fun _ => ?_)
    exact K
  · have h9 : ¬ m = 3 := fun q => h (he.2 q)
    refine er_if rfl rfl (fun _ => ?_) (fun q => absurd (fun w => h ((nI_eq (by omega) (by decide)).1 w)) q)
    repeat (first | refine er_step rfl rfl ?_)
    refine er_look (hL) rfl rfl ⟨rfl, rfl, rfl⟩ rfl rfl rfl rfl ?_
    repeat (first | refine er_step rfl rfl ?_)
    refine er_if rfl rfl (fun _ => ?_) (fun q => absurd (fun w => h9 ((nI_eq (by omega) (by decide)).1 w)) q)
    repeat (first | refine er_step rfl rfl ?_)
    refine er_if rfl rfl (fun q => absurd rfl q) (fun _ => ?_)
    exact K
end MF2
end
section
/-! The law's rules: over the letters, the places, the walks, the carriers. -/
section MG2
variable {ε : EE} {J' : JT} {pc : Nat} {ls : List (Option V0)} {st : List V0} {G G' G0 G1 : GG} {V V' : VV} {N Y n k w c l p : Nat} {y z x : Int32} {A : Nat × Nat × Nat × Nat} {f1 f2 f3 f4 g1 g2 g3 g4 : Nat → Int32}
theorem upd_s {f : Nat → Int32} {j : Nat} {x : Int32} : upd f j x j = x := by unfold upd; rw [if_pos rfl]
theorem upd_o {f : Nat → Int32} {j i : Nat} {x : Int32} (h : i ≠ j) : upd f j x i = f i := by unfold upd; rw [if_neg h]
theorem cnt_s (q : Nat → Bool) (n : Nat) : cntB q (n + 1) = cntB q n + (if q n then 1 else 0) := rfl
/-- behind letter l's place has been counted -/
theorem RI.s4 (h : RI V l f1 f2 f3 f4) (hp : p ≤ 5) (h7 : V 7 l = nI p) : ∀ q, q < 6 → upd f4 p (f4 p + nI 1) q = nI (P7 V q (l + 1)) := fun q hq => by
  have e : P7 V q (l + 1) = P7 V q l + (if decide (V 7 l = nI q) then 1 else 0) := rfl
  rw [e, h7]
  by_cases hqp : q = p
  · subst hqp
    rw [upd_s, h.2.2.2 q hq, nI_add', decide_eq_true rfl, if_pos rfl]
  · rw [upd_o hqp, h.2.2.2 q hq, decide_eq_false (fun z => hqp ((nIp hp (by omega)).1 z).symm), if_neg (by decide), Nat.add_zero]
theorem RI.s1 (h : RI V l f1 f2 f3 f4) (h7 : V 7 l = nI 1) {v : Nat} (hv : v < 8) (h8 : V 8 l = nI v) : ∀ w, w < 8 → upd f1 v (f1 v + nI 1) w = nI (cntB (atV V (nI 1) (nI w)) (l + 1)) := fun w hw => by
  rw [cnt_s]
  have e : atV V (nI 1) (nI w) l = decide (v = w) := by
    unfold atV
    rw [h7, h8, decide_eq_true rfl, Bool.true_and]
    exact decide_eq_decide.2 (nI_eq (by omega) (by omega))
  rw [e]
  by_cases hvw : v = w
  · subst hvw
    rw [upd_s, h.1 v hw, nI_add', decide_eq_true rfl, if_pos rfl]
  · rw [upd_o (fun q => hvw q.symm), h.1 w hw, decide_eq_false hvw, if_neg (by decide), Nat.add_zero]
theorem RI.s1n (h : RI V l f1 f2 f3 f4) (h7 : ¬ V 7 l = nI 1) : ∀ w, w < 8 → f1 w = nI (cntB (atV V (nI 1) (nI w)) (l + 1)) := fun w hw => by
  have e : atV V (nI 1) (nI w) l = false := by unfold atV; rw [decide_eq_false h7, Bool.false_and]
  rw [cnt_s, e, if_neg (by decide), Nat.add_zero]
  exact h.1 w hw
theorem RI.s2 (h : RI V l f1 f2 f3 f4) (h7 : V 7 l = nI 1) {v f : Nat} (hv : v < 8) (h8 : V 8 l = nI v) (hf : f ≤ 1) (h5 : V 5 l = nI f) : ∀ w, w < 8 → upd f2 v (f2 v + nI f) w = nI (cntB (fun l => atV V (nI 1) (nI w) l && decide (V 5 l = nI 1)) (l + 1)) := fun w hw => by
  rw [cnt_s]
  have e : atV V (nI 1) (nI w) l = decide (v = w) := by
    unfold atV
    rw [h7, h8, decide_eq_true rfl, Bool.true_and]
    exact decide_eq_decide.2 (nI_eq (by omega) (by omega))
  rw [e, h5]
  by_cases hvw : v = w
  · subst hvw
    rw [upd_s, h.2.1 v hw, nI_add', decide_eq_true rfl, Bool.true_and]
    have : f = 0 ∨ f = 1 := by omega
    rcases this with rfl | rfl
    · rfl
    · rfl
  · rw [upd_o (fun q => hvw q.symm), h.2.1 w hw, decide_eq_false hvw, Bool.false_and, if_neg (by decide), Nat.add_zero]
theorem RI.s2n (h : RI V l f1 f2 f3 f4) (h7 : ¬ V 7 l = nI 1) : ∀ w, w < 8 → f2 w = nI (cntB (fun l => atV V (nI 1) (nI w) l && decide (V 5 l = nI 1)) (l + 1)) := fun w hw => by
  have e : (atV V (nI 1) (nI w) l && decide (V 5 l = nI 1)) = false := by unfold atV; rw [decide_eq_false h7, Bool.false_and, Bool.false_and]
  rw [cnt_s, e, if_neg (by decide), Nat.add_zero]
  exact h.2.1 w hw
theorem RI.s3 (h : RI V l f1 f2 f3 f4) (h7 : V 7 l = nI 3) {v : Nat} (hv : v < 6) (h8 : V 8 l = nI v) : ∀ c, c < 6 → upd f3 v (f3 v + nI 1) c = nI (cntB (atV V (nI 3) (nI c)) (l + 1)) := fun w hw => by
  rw [cnt_s]
  have e : atV V (nI 3) (nI w) l = decide (v = w) := by
    unfold atV
    rw [h7, h8, decide_eq_true rfl, Bool.true_and]
    exact decide_eq_decide.2 (nI_eq (by omega) (by omega))
  rw [e]
  by_cases hvw : v = w
  · subst hvw
    rw [upd_s, h.2.2.1 v hw, nI_add', decide_eq_true rfl, if_pos rfl]
  · rw [upd_o (fun q => hvw q.symm), h.2.2.1 w hw, decide_eq_false hvw, if_neg (by decide), Nat.add_zero]
theorem RI.s3n (h : RI V l f1 f2 f3 f4) (h7 : ¬ V 7 l = nI 3) : ∀ c, c < 6 → f3 c = nI (cntB (atV V (nI 3) (nI c)) (l + 1)) := fun w hw => by
  have e : atV V (nI 3) (nI w) l = false := by unfold atV; rw [decide_eq_false h7, Bool.false_and]
  rw [cnt_s, e, if_neg (by decide), Nat.add_zero]
  exact h.2.2.1 w hw
theorem stry_1 (h7 : V 7 l = nI 1) : stryV V l = decide (¬ V 8 l = nI (wkV V l)) := by
  unfold stryV
  rw [decide_eq_true h7, Bool.true_and]
theorem stry_n (h7 : ¬ V 7 l = nI 1) : stryV V l = false := by
  unfold stryV
  rw [decide_eq_false h7, Bool.false_and]
abbrev L13l (A : Nat × Nat × Nat × Nat) (V : VV) (l : Nat) : List (Option V0) := L13 A (sumI (V 6) l) (nI (cntB (stryV V) l)) [some (.inl (nI l)), none, none, none, none, none]
set_option maxRecDepth 100000 in
set_option maxHeartbeats 4000000 in
/-- one letter -/
theorem rs_letter (hN : IV (O G0 0) N 500) (hl : l < N) (h : RI (O G0 0) l f1 f2 f3 f4) (K : ∀ g1 g2 g3 g4, RI (O G0 0) (l + 1) g1 g2 g3 g4 → ER ε A 30 (L13l A (O G0 0) (l + 1)) [] g1 g2 g3 g4 G0) : ER ε A 30 (L13l A (O G0 0) l) [] f1 f2 f3 f4 G0 := by
  have hN120 := hN.1.nle
  obtain ⟨⟨cd, cd1, cd2⟩, e5, ⟨p, m, p5, m3, h7, h6, pm, k1, k3, ke⟩, hh, yy, hhy, y500, h9, h4⟩ := hN.1.2.2.2 l hl
  have hf : ∃ f, f ≤ 1 ∧ O G0 0 5 l = nI f := by
    rcases e5 with q | q
    · exact ⟨0, by omega, q⟩
    · exact ⟨1, by omega, q⟩
  obtain ⟨f, f1', hf5⟩ := hf
  have q0 : Lk (ex ε (xl ε A f1 f2 f3 f4)) jX8_count [.inl (nI 6)] G0 (nI N) := L_c6 hN
  have q2 : Lk (ex ε (xl ε A f1 f2 f3 f4)) jX8_letter [.inl (nI l), .inl (nI 2)] G0 (nI p) := by rw [← h7]; exact L_letter hN hl (k := 2) (by decide)
  have q3 : Lk (ex ε (xl ε A f1 f2 f3 f4)) jX8_letter [.inl (nI l), .inl (nI 3)] G0 (if O G0 0 7 l = nI 1 then O G0 0 8 l else -9) := L_letter hN hl (k := 3) (by decide)
  have q4 : Lk (ex ε (xl ε A f1 f2 f3 f4)) jX8_letter [.inl (nI l), .inl (nI 4)] G0 (if O G0 0 7 l = nI 3 then O G0 0 8 l else -9) := L_letter hN hl (k := 4) (by decide)
  have hL : ∀ {g1 g2 g3 g4 : Nat → Int32} {k : Nat}, k ≤ 8 → Lk (ex ε (xl ε A g1 g2 g3 g4)) jX8_letter [.inl (nI l), .inl (nI k)] G0 (aLetter (O G0 0) l k) := fun hk => L_letter hN hl hk
  have hS : ∀ {g1 g2 g3 g4 : Nat → Int32}, Lk (ex ε (xl ε A g1 g2 g3 g4)) jX8_stretch [.inl (nI cd), .inl (nI 0)] G0 (O G0 0 2 cd) := L_str0 cd1
  have hwk : O G0 0 2 cd = nI (wkV (O G0 0) l) := by
    obtain ⟨c, c1, c2, c3, c4⟩ := wkV_of hN.1.okV hl
    have : c = cd := (nI_eq (by omega) (by omega)).1 (c2.symm.trans cd2)
    rw [← this]
    exact c3
  have hs4 := h.s4 p5 h7
  generalize hw9 : (if O G0 0 7 l = nI 1 then O G0 0 8 l else -9) = w9 at q3
  generalize hc9 : (if O G0 0 7 l = nI 3 then O G0 0 8 l else -9) = c9 at q4
  have iw : p = 1 ↔ ¬ w9 = -9 := by
    rw [← hw9]
    constructor
    · intro q
      obtain ⟨w, w8, w2⟩ := k1 q
      rw [if_pos (by rw [h7, q]), w2]
      exact nI_n9 (by omega)
    · intro q
      by_cases hp1 : p = 1
      · exact hp1
      · exact absurd (if_neg (fun w => hp1 ((nIp p5 (by omega)).1 (h7.symm.trans w)))) q
  have ic : p = 3 ↔ ¬ c9 = -9 := by
    rw [← hc9]
    constructor
    · intro q
      obtain ⟨w, w8, w2⟩ := k3 q
      rw [if_pos (by rw [h7, q]), w2]
      exact nI_n9 (by omega)
    · intro q
      by_cases hp1 : p = 3
      · exact hp1
      · exact absurd (if_neg (fun w => hp1 ((nIp p5 (by omega)).1 (h7.symm.trans w)))) q
  have hm5 : ∀ {g1 g2 g3 g4 : Nat → Int32}, Lk (ex ε (xl ε A g1 g2 g3 g4)) jX8_letter [.inl (nI l), .inl (nI 5)] G0 (nI m) := by
    intro g1 g2 g3 g4
    rw [← h6]
    exact L_letter hN hl (k := 5) (by decide)
  repeat (first | refine er_step rfl rfl ?_)
  refine er_look (q0) rfl rfl ⟨rfl, rfl, rfl⟩ rfl rfl rfl rfl ?_
  refine er_if rfl rfl (fun q => absurd q (nI_ge hl (by omega))) (fun _ => ?_)
  repeat (first | refine er_step rfl rfl ?_)
  refine er_look (q2) rfl rfl ⟨rfl, rfl, rfl⟩ rfl rfl rfl rfl ?_
  repeat (first | refine er_step rfl rfl ?_)
  refine er_look (q3) rfl rfl ⟨rfl, rfl, rfl⟩ rfl rfl rfl rfl ?_
  repeat (first | refine er_step rfl rfl ?_)
  refine er_look (q4) rfl rfl ⟨rfl, rfl, rfl⟩ rfl rfl rfl rfl ?_
  repeat (first | refine er_step rfl rfl ?_)
  refine er_ld 3 p rfl rfl (show p < 6 by omega) rfl ?_
  repeat (first | refine er_step rfl rfl ?_)
  refine er_st 3 p rfl rfl (show p < 6 by omega) rfl rfl ?_
  repeat (first | refine er_step rfl rfl ?_)
  refine er_look (hm5) rfl rfl ⟨rfl, rfl, rfl⟩ rfl rfl rfl rfl ?_
  repeat (first | refine er_stepS 89 rfl rfl rfl ?_)
  have e6 : sumI (O G0 0 6) l + nI m = sumI (O G0 0 6) (l + 1) := by rw [← h6]; rfl
  rw [e6]
  refine rs_1 (r := [none, none]) p5 iw ?_
  refine rs_2 (r := [none, none]) p5 ic ?_
  refine rs_3 (e := O G0 0 10 l) (r := [none, none]) p5 ke (hL (k := 7) (by decide)) ?_
  refine rs_4 (m := m) (r := [none, none]) p5 m3 pm hm5 ?_
  repeat (first | refine er_step rfl rfl ?_)
  refine er_look (hL (k := 8) (by decide)) rfl rfl ⟨rfl, rfl, rfl⟩ rfl rfl rfl rfl ?_
  repeat (first | refine er_step rfl rfl ?_)
  have hc4 : ∀ {g1 g2 g3 g4 : Nat → Int32}, Lk (ex ε (xl ε A g1 g2 g3 g4)) jX8_letter [.inl (nI l), .inl (nI 0)] G0 (nI cd) := by
    intro g1 g2 g3 g4
    rw [← cd2]
    exact L_letter hN hl (k := 0) (by decide)
  refine er_look (hc4) rfl rfl ⟨rfl, rfl, rfl⟩ rfl rfl rfl rfl ?_
  repeat (first | refine er_step rfl rfl ?_)
  refine er_look (hS) rfl rfl ⟨rfl, rfl, rfl⟩ rfl rfl rfl rfl ?_
  refine er_if rfl rfl (fun q => absurd hwk.symm q) (fun _ => ?_)
  have hh9 : ∀ {g1 g2 g3 g4 : Nat → Int32}, Lk (ex ε (xl ε A g1 g2 g3 g4)) jX8_letter [.inl (nI l), .inl (nI 6)] G0 (nI hh) := by
    intro g1 g2 g3 g4
    rw [← h9]
    exact L_letter hN hl (k := 6) (by decide)
  repeat (first | refine er_step rfl rfl ?_)
  refine er_look (hh9) rfl rfl ⟨rfl, rfl, rfl⟩ rfl rfl rfl rfl ?_
  repeat (first | refine er_step rfl rfl ?_)
  refine er_look (L_c7 hN h4) rfl rfl ⟨rfl, rfl, rfl⟩ rfl rfl rfl rfl ?_
  refine er_if rfl rfl (fun _ => ?_) (fun q => absurd (nI_le hhy (by omega)) q)
  repeat (first | refine er_step rfl rfl ?_)
  -- the hands
  have h297 : ∀ g1 g2, (∀ w, w < 8 → g1 w = nI (cntB (atV (O G0 0) (nI 1) (nI w)) (l + 1))) → (∀ w, w < 8 → g2 w = nI (cntB (fun l => atV (O G0 0) (nI 1) (nI w) l && decide (O G0 0 5 l = nI 1)) (l + 1))) → ER ε A 297 (L13 A (sumI (O G0 0 6) (l + 1)) (nI (cntB (stryV (O G0 0)) (l + 1))) [some (.inl (nI l)), some (.inl (nI p)), some (.inl w9), some (.inl c9), none, none]) [] g1 g2 f3 (upd f4 p (f4 p + nI 1)) G0 := by
    intro g1 g2 hg1 hg2
    repeat (first | refine er_step rfl rfl ?_)
    by_cases hp3 : p = 3
    · obtain ⟨v, v6, hv⟩ := k3 hp3
      have h73 : O G0 0 7 l = nI 3 := by rw [h7, hp3]
      have ec : c9 = nI v := by rw [← hc9, if_pos h73, hv]
      rw [ec]
      refine er_if rfl rfl (fun q => absurd (show nI v = -9 from q) (nI_n9 (by omega))) (fun _ => ?_)
      repeat (first | refine er_step rfl rfl ?_)
      refine er_ld 2 v rfl rfl v6 rfl ?_
      repeat (first | refine er_step rfl rfl ?_)
      refine er_st 2 v rfl rfl v6 rfl rfl ?_
      repeat (first | refine er_stepS 30 rfl rfl rfl ?_)
      rw [nI_add']
      exact er_dropK (K _ _ _ _ ⟨hg1, hg2, h.s3 h73 v6 hv, hs4⟩) ⟨rfl, rfl, rfl, rfl, rfl, rfl, rfl, rfl, trivial⟩
    · have h73 : ¬ O G0 0 7 l = nI 3 := fun q => hp3 ((nIp p5 (by omega)).1 (h7.symm.trans q))
      have ec : c9 = -9 := by rw [← hc9, if_neg h73]
      refine er_if rfl rfl (fun _ => ?_) (fun q => absurd ec q)
      repeat (first | refine er_stepS 30 rfl rfl rfl ?_)
      rw [nI_add']
      exact er_dropK (K _ _ _ _ ⟨hg1, hg2, h.s3n h73, hs4⟩) ⟨rfl, rfl, rfl, rfl, rfl, rfl, rfl, rfl, trivial⟩
  by_cases hp1 : p = 1
  · obtain ⟨v, v8, hv⟩ := k1 hp1
    have h71 : O G0 0 7 l = nI 1 := by rw [h7, hp1]
    have ew : w9 = nI v := by rw [← hw9, if_pos h71, hv]
    have hl1 : ∀ {g1 g2 g3 g4 : Nat → Int32}, Lk (ex ε (xl ε A g1 g2 g3 g4)) jX8_letter [.inl (nI l), .inl (nI 1)] G0 (nI f) := by
      intro g1 g2 g3 g4
      rw [← hf5]
      exact L_letter hN hl (k := 1) (by decide)
    have h297' := h297 _ _ (h.s1 h71 v8 hv) (h.s2 h71 v8 hv f1' hf5)
    rw [ew] at h297' ⊢
    refine er_if rfl rfl (fun q => absurd (show nI v = -9 from q) (nI_n9 (by omega))) (fun _ => ?_)
    repeat (first | refine er_step rfl rfl ?_)
    refine er_ld 0 v rfl rfl v8 rfl ?_
    repeat (first | refine er_step rfl rfl ?_)
    refine er_st 0 v rfl rfl v8 rfl rfl ?_
    repeat (first | refine er_step rfl rfl ?_)
    refine er_ld 1 v rfl rfl v8 rfl ?_
    repeat (first | refine er_step rfl rfl ?_)
    refine er_look (hl1) rfl rfl ⟨rfl, rfl, rfl⟩ rfl rfl rfl rfl ?_
    repeat (first | refine er_step rfl rfl ?_)
    refine er_st 1 v rfl rfl v8 rfl rfl ?_
    repeat (first | refine er_step rfl rfl ?_)
    refine er_look (hL (k := 8) (by decide)) rfl rfl ⟨rfl, rfl, rfl⟩ rfl rfl rfl rfl ?_
    have es : nI (cntB (stryV (O G0 0)) (l + 1)) = nI (cntB (stryV (O G0 0)) l) + (if decide (¬ nI v = nI (wkV (O G0 0) l)) = true then nI 1 else nI 0) := by
      rw [cnt_s, stry_1 h71, hv]
      split
      · rw [nI_add']
      · rw [nI_add']
    rw [es] at h297'
    refine er_if rfl rfl (fun q => ?_) (fun q => ?_)
    · have q : nI v = nI (wkV (O G0 0) l) := q
      rw [decide_eq_false (fun r => r q), if_neg (by decide)] at h297'
      repeat (first | refine er_stepS 297 rfl rfl rfl ?_)
      exact h297'
    · have q : ¬ nI v = nI (wkV (O G0 0) l) := q
      rw [decide_eq_true q, if_pos rfl] at h297'
      repeat (first | refine er_stepS 297 rfl rfl rfl ?_)
      exact h297'
  · have h71 : ¬ O G0 0 7 l = nI 1 := fun q => hp1 ((nIp p5 (by omega)).1 (h7.symm.trans q))
    have ew : w9 = -9 := by rw [← hw9, if_neg h71]
    have h297' := h297 _ _ (h.s1n h71) (h.s2n h71)
    rw [cnt_s, stry_n h71, if_neg (by decide), Nat.add_zero] at h297'
    exact er_if rfl rfl (fun _ => h297') (fun q => absurd ew q)
set_option maxRecDepth 100000 in
/-- all letters -/
theorem rs_letters (hN : IV (O G0 0) N 500) (K : ∀ g1 g2 g3 g4, RI (O G0 0) N g1 g2 g3 g4 → ER ε A 318 (L13l A (O G0 0) N) [] g1 g2 g3 g4 G0) : ∀ k l f1 f2 f3 f4, l + k = N → RI (O G0 0) l f1 f2 f3 f4 → ER ε A 30 (L13l A (O G0 0) l) [] f1 f2 f3 f4 G0
  | 0, l, f1, f2, f3, f4, hl, h => by
    have : l = N := by omega
    subst this
    have q0 : Lk (ex ε (xl ε A f1 f2 f3 f4)) jX8_count [.inl (nI 6)] G0 (nI l) := L_c6 hN
    repeat (first | refine er_step rfl rfl ?_)
    refine er_look (q0) rfl rfl ⟨rfl, rfl, rfl⟩ rfl rfl rfl rfl ?_
    refine er_if rfl rfl (fun _ => ?_) (fun q => absurd (Int32.le_refl _) q)
    exact K f1 f2 f3 f4 h
  | k + 1, l, f1, f2, f3, f4, hl, h => rs_letter hN (by omega) h (fun g1 g2 g3 g4 hg => rs_letters hN K k (l + 1) g1 g2 g3 g4 (by omega) hg)
theorem er_for (N : Nat) (L : Nat → List (Option V0)) (hs : ∀ i, i < N → ER ε A pc (L (i + 1)) [] f1 f2 f3 f4 G0 → ER ε A pc (L i) [] f1 f2 f3 f4 G0) (he : ∀ M, M = N → ER ε A pc (L M) [] f1 f2 f3 f4 G0) : ER ε A pc (L 0) [] f1 f2 f3 f4 G0 := by
  have h : ∀ k i, i + k = N → ER ε A pc (L i) [] f1 f2 f3 f4 G0 := by
    intro k
    induction k with
    | zero => intro i hi; exact he i (by omega)
    | succ k ih => intro i hi; exact hs i (by omega) (ih (i + 1) (by omega))
  exact h N 0 (by omega)
set_option maxRecDepth 100000 in
theorem rs_places (hN : IV (O G0 0) N 500) (h : RI (O G0 0) N f1 f2 f3 f4) (K : ER ε A 350 (L13 A y z [none, none, none, none, none, none]) [] f1 f2 f3 f4 G0) : ER ε A 318 (L13 A y z [some (.inl x), none, none, none, none, none]) [] f1 f2 f3 f4 G0 := by
  obtain ⟨n6, h6⟩ : ∃ n, n = 6 := ⟨_, rfl⟩
  repeat (first | refine er_stepS 321 rfl rfl rfl ?_)
  refine er_for n6 (fun p => L13 A y z [some (.inl (nI p)), none, none, none, none, none]) (fun p hp K2 => ?_) (fun M hM => ?_)
  · have hc : Lk (ex ε (xl ε A f1 f2 f3 f4)) jX8_count [.inl (nI p)] G0 (nI (P7 (O G0 0) p N)) := by
      have := L_count (ε := ex ε (xl ε A f1 f2 f3 f4)) hN (k := p) (by omega)
      have e : aCount G0 N p = nI (P7 (O G0 0) p N) := if_pos (by omega)
      rw [e] at this
      exact this
    repeat (first | refine er_step rfl rfl ?_)
    refine er_if rfl rfl (fun q => absurd q (nI_ge (a := p) (b := 6) (by omega) (by decide))) (fun _ => ?_)
    repeat (first | refine er_step rfl rfl ?_)
    refine er_look (hc) rfl rfl ⟨rfl, rfl, rfl⟩ rfl rfl rfl rfl ?_
    repeat (first | refine er_step rfl rfl ?_)
    refine er_ld 3 p rfl rfl (show p < 6 by omega) rfl ?_
    rw [h.2.2.2 p (by omega)]
    refine er_if rfl rfl (fun _ => ?_) (fun q => absurd rfl q)
    repeat (first | refine er_stepS 321 rfl rfl rfl ?_)
    rw [nI_add']
    exact K2
  · rw [hM, h6]
    repeat (first | refine er_step rfl rfl ?_)
    refine er_if rfl rfl (fun _ => ?_) (fun q => absurd (Int32.le_refl _) q)
    exact er_dropK K ⟨rfl, rfl, rfl, rfl, rfl, rfl, rfl, trivial⟩
end MG2
end
section
/-! The law's rules: over the walks and the carriers; its end. -/
section MH2
variable {ε : EE} {J' : JT} {pc : Nat} {ls : List (Option V0)} {st : List V0} {G G' G0 G1 : GG} {V V' : VV} {N Y n k w c l p : Nat} {y z x : Int32} {A : Nat × Nat × Nat × Nat} {f1 f2 f3 f4 g1 g2 g3 g4 : Nat → Int32}
theorem L_inF (hN : IV (O G0 0) N Y) {w j : Nat} (hw : w < 8) (hj : j < (atVR (O G0 0) N (nI 1) (nI w)).length) : Lk ε jX8_inFrame [.inl (nI w), .inl (nI j)] G0 (nI (revD (atVR (O G0 0) N (nI 1) (nI w)) j)) := by
  have hl : (atVR (O G0 0) N (nI 1) (nI w)).length ≤ N := atVR_len
  have hN2 := hN.1.nle
  have := L_inFrame (ε := ε) hN hw (j := j) (by omega)
  rw [if_neg (by omega)] at this
  exact this
set_option maxRecDepth 100000 in
set_option maxHeartbeats 4000000 in
theorem rs_walk (hN : IV (O G0 0) N 500) (h : RI (O G0 0) N f1 f2 f3 f4) (hw : w < 8) (K : ER ε A 353 (L13 A y z [some (.inl (nI (w + 1))), none, none, none, none, none]) [] f1 f2 f3 f4 G0) : ER ε A 353 (L13 A y z [some (.inl (nI w)), none, none, none, none, none]) [] f1 f2 f3 f4 G0 := by
  have hN120 := hN.1.nle
  obtain ⟨q, hq⟩ := has_of (O G0 0) w
  have h11 : O G0 0 11 w = f1 w := by rw [hN.1.2.2.1 w hw, h.1 w hw]
  have hlen : (atVR (O G0 0) N (nI 1) (nI w)).length = cntB (atV (O G0 0) (nI 1) (nI w)) N := atVR_n
  have hle : (atVR (O G0 0) N (nI 1) (nI w)).length ≤ N := atVR_len
  have e1 : f1 w = nI (cntB (atV (O G0 0) (nI 1) (nI w)) N) := h.1 w hw
  have b0 : Lk (ex ε (xl ε A f1 f2 f3 f4)) jX8_frame [.inl (nI w), .inl (nI 0)] G0 (O G0 0 17 w) := L_frame hN hw (k := 0) (by decide)
  have b1 : Lk (ex ε (xl ε A f1 f2 f3 f4)) jX8_frame [.inl (nI w), .inl (nI 1)] G0 (f1 w) := by rw [← h11]; exact L_frame hN hw (k := 1) (by decide)
  have b2 : Lk (ex ε (xl ε A f1 f2 f3 f4)) jX8_frame [.inl (nI w), .inl (nI 2)] G0 (if O G0 0 17 w - f1 w < nI 0 then nI 0 else O G0 0 17 w - f1 w) := by rw [← h11]; exact L_frame hN hw (k := 2) (by decide)
  have b3 : Lk (ex ε (xl ε A f1 f2 f3 f4)) jX8_frame [.inl (nI w), .inl (nI 3)] G0 (f2 w) := by rw [h.2.1 w hw]; exact L_frame hN hw (k := 3) (by decide)
  have b5 : Lk (ex ε (xl ε A f1 f2 f3 f4)) jX8_inFrame [.inl (nI w), .inl (f1 w)] G0 (-9) := by
    rw [e1]
    have := L_inFrame (ε := ex ε (xl ε A f1 f2 f3 f4)) hN hw (j := cntB (atV (O G0 0) (nI 1) (nI w)) N) (by omega)
    rw [if_pos (by omega)] at this
    exact this
  -- the list's order
  have h468 : ∀ x8 x9 : V0, ER ε A 468 (L13 A y z [some (.inl (nI w)), some x8, some x9, none, none, none]) [] f1 f2 f3 f4 G0 := by
    intro x8 x9
    repeat (first | refine er_stepS 471 rfl rfl rfl ?_)
    refine er_for (cntB (atV (O G0 0) (nI 1) (nI w)) N - 1) (fun i => L13 A y z [some (.inl (nI w)), some x8, some x9, some (.inl (nI (i + 1))), none, none]) (fun i hi K2 => ?_) (fun M hM => ?_)
    · obtain ⟨a1, a2, a3⟩ := atVR_in (revD_mem (atVR (O G0 0) N (nI 1) (nI w)) i (by omega))
      obtain ⟨c1, c2, c3⟩ := atVR_in (revD_mem (atVR (O G0 0) N (nI 1) (nI w)) (i + 1) (by omega))
      have hb := pw_revD (R := []) _ (atVR_pw (V := O G0 0) (N := N) (p := nI 1) (k := nI w)) i (i + 1) (by omega) (by omega)
      have li := L_inF (ε := ex ε (xl ε A f1 f2 f3 f4)) hN hw (j := i) (by omega)
      have lj := L_inF (ε := ex ε (xl ε A f1 f2 f3 f4)) hN hw (j := i + 1) (by omega)
      generalize revD (atVR (O G0 0) N (nI 1) (nI w)) i = a at a1 a2 a3 hb li
      generalize revD (atVR (O G0 0) N (nI 1) (nI w)) (i + 1) = b at c1 c2 c3 hb lj
      have lb3 : Lk (ex ε (xl ε A f1 f2 f3 f4)) jX8_letter [.inl (nI b), .inl (nI 3)] G0 (nI w) := by
        have := L_letter (ε := ex ε (xl ε A f1 f2 f3 f4)) hN c1 (k := 3) (by decide)
        have e : aLetter (O G0 0) b 3 = nI w := by
          show (if O G0 0 7 b = nI 1 then O G0 0 8 b else -9) = _
          rw [if_pos c2, c3]
        rw [e] at this
        exact this
      have la0 : Lk (ex ε (xl ε A f1 f2 f3 f4)) jX8_letter [.inl (nI a), .inl (nI 0)] G0 (O G0 0 4 a) := L_letter hN a1 (k := 0) (by decide)
      have lb0 : Lk (ex ε (xl ε A f1 f2 f3 f4)) jX8_letter [.inl (nI b), .inl (nI 0)] G0 (O G0 0 4 b) := L_letter hN c1 (k := 0) (by decide)
      have h557 : ER ε A 557 (L13 A y z [some (.inl (nI w)), some x8, some x9, some (.inl (nI (i + 1))), some (.inl (nI a)), some (.inl (nI b))]) [] f1 f2 f3 f4 G0 := by
        repeat (first | refine er_stepS 471 rfl rfl rfl ?_)
        rw [nI_add']
        exact er_dropK K2 ⟨rfl, rfl, rfl, rfl, rfl, rfl, rfl, rfl, rfl, rfl, rfl, trivial⟩
      repeat (first | refine er_step rfl rfl ?_)
      refine er_ld 0 w rfl rfl hw rfl ?_
      rw [e1]
      refine er_if rfl rfl (fun q => absurd q (nI_ge (by omega) (by omega))) (fun _ => ?_)
      repeat (first | refine er_step rfl rfl ?_)
      rw [pk_sub (by omega), Nat.add_sub_cancel]
      refine er_look (li) rfl rfl ⟨rfl, rfl, rfl⟩ rfl rfl rfl rfl ?_
      repeat (first | refine er_step rfl rfl ?_)
      refine er_look (lj) rfl rfl ⟨rfl, rfl, rfl⟩ rfl rfl rfl rfl ?_
      repeat (first | refine er_step rfl rfl ?_)
      refine er_look (lb3) rfl rfl ⟨rfl, rfl, rfl⟩ rfl rfl rfl rfl ?_
      repeat (first | refine er_step rfl rfl ?_)
      refine er_if rfl rfl (fun q => absurd rfl q) (fun _ => ?_)
      repeat (first | refine er_step rfl rfl ?_)
      refine er_look (la0) rfl rfl ⟨rfl, rfl, rfl⟩ rfl rfl rfl rfl ?_
      repeat (first | refine er_step rfl rfl ?_)
      refine er_look (lb0) rfl rfl ⟨rfl, rfl, rfl⟩ rfl rfl rfl rfl ?_
      refine er_if rfl rfl (fun q => ?_) (fun _ => ?_)
      · rcases hb with r | ⟨r, -⟩
        · exact (Int32.lt_irrefl (Int32.lt_trans r q)).elim
        · rw [r] at q
          exact (Int32.lt_irrefl q).elim
      · repeat (first | refine er_step rfl rfl ?_)
        refine er_look (la0) rfl rfl ⟨rfl, rfl, rfl⟩ rfl rfl rfl rfl ?_
        repeat (first | refine er_step rfl rfl ?_)
        refine er_look (lb0) rfl rfl ⟨rfl, rfl, rfl⟩ rfl rfl rfl rfl ?_
        refine er_if rfl rfl (fun _ => h557) (fun q => ?_)
        have q := Classical.not_not.1 q
        rcases hb with r | ⟨-, r⟩
        · rw [q] at r
          exact (Int32.lt_irrefl r).elim
        · repeat (first | refine er_step rfl rfl ?_)
          exact er_if rfl rfl (fun _ => h557) (fun q => absurd ((nI_ltI (by omega) (by omega)).2 r) q)
    · repeat (first | refine er_step rfl rfl ?_)
      refine er_ld 0 w rfl rfl hw rfl ?_
      rw [e1]
      refine er_if rfl rfl (fun _ => ?_) (fun q => absurd (nI_le (b := M + 1) (by omega) (by omega)) q)
      repeat (first | refine er_stepS 353 rfl rfl rfl ?_)
      rw [nI_add']
      exact er_dropK K ⟨rfl, rfl, rfl, rfl, rfl, rfl, rfl, rfl, trivial⟩
  repeat (first | refine er_step rfl rfl ?_)
  refine er_if rfl rfl (fun q => absurd q (nI_ge hw (by decide))) (fun _ => ?_)
  repeat (first | refine er_step rfl rfl ?_)
  refine er_look (b0) rfl rfl ⟨rfl, rfl, rfl⟩ rfl rfl rfl rfl ?_
  repeat (first | refine er_step rfl rfl ?_)
  refine er_ld 0 w rfl rfl hw rfl ?_
  repeat (first | refine er_step rfl rfl ?_)
  refine er_look (L_fr4 hN hw hq) rfl rfl ⟨rfl, rfl, rfl⟩ rfl rfl rfl rfl ?_
  repeat (first | refine er_step rfl rfl ?_)
  refine er_look (b1) rfl rfl ⟨rfl, rfl, rfl⟩ rfl rfl rfl rfl ?_
  repeat (first | refine er_step rfl rfl ?_)
  refine er_ld 0 w rfl rfl hw rfl ?_
  refine er_if rfl rfl (fun q => absurd rfl q) (fun _ => ?_)
  repeat (first | refine er_step rfl rfl ?_)
  refine er_look (b2) rfl rfl ⟨rfl, rfl, rfl⟩ rfl rfl rfl rfl ?_
  repeat (first | refine er_step rfl rfl ?_)
  have h418 : ER ε A 418 (L13 A y z [some (.inl (nI w)), some (.inl (O G0 0 17 w - f1 w)), some (.inl (oI q)), none, none, none]) [] f1 f2 f3 f4 G0 := by
    repeat (first | refine er_step rfl rfl ?_)
    refine er_look (b3) rfl rfl ⟨rfl, rfl, rfl⟩ rfl rfl rfl rfl ?_
    repeat (first | refine er_step rfl rfl ?_)
    refine er_ld 1 w rfl rfl hw rfl ?_
    refine er_if rfl rfl (fun q => absurd rfl q) (fun _ => ?_)
    repeat (first | refine er_step rfl rfl ?_)
    have h451 : ER ε A 451 (L13 A y z [some (.inl (nI w)), some (.inl (O G0 0 17 w - f1 w)), some (.inl (oI q)), none, none, none]) [] f1 f2 f3 f4 G0 := by
      repeat (first | refine er_step rfl rfl ?_)
      refine er_ld 0 w rfl rfl hw rfl ?_
      refine er_look (b5) rfl rfl ⟨rfl, rfl, rfl⟩ rfl rfl rfl rfl ?_
      repeat (first | refine er_step rfl rfl ?_)
      refine er_if rfl rfl (fun _ => ?_) (fun q => absurd rfl q)
      exact h468 _ _
    cases hqq : q with
    | none =>
      rw [hqq] at h451
      exact er_if rfl rfl (fun _ => h451) (fun r => absurd rfl r)
    | some b =>
      obtain ⟨b6, b13⟩ := hq.2.1 b hqq
      have lb : Lk (ex ε (xl ε A f1 f2 f3 f4)) jX8_carrier [.inl (nI b), .inl (nI 0)] G0 (nI w) := by rw [← b13]; exact L_ca0 hN b6
      rw [hqq] at h451
      refine er_if rfl rfl (fun r => absurd (show nI b = -9 from r) (nI_n9 (by omega))) (fun _ => ?_)
      repeat (first | refine er_step rfl rfl ?_)
      refine er_look (lb) rfl rfl ⟨rfl, rfl, rfl⟩ rfl rfl rfl rfl ?_
      repeat (first | refine er_step rfl rfl ?_)
      refine er_if rfl rfl (fun q => absurd rfl q) (fun _ => ?_)
      exact h451
  generalize hd : O G0 0 17 w - f1 w = dd at h418 ⊢
  refine er_if rfl rfl (fun r => ?_) (fun r => ?_)
  · have e0 : (if dd < nI 0 then nI 0 else dd) = nI 0 := by
      by_cases h0 : dd < nI 0
      · rw [if_pos h0]
      · rw [if_neg h0]
        exact Int32.le_antisymm r (Int32.not_lt.1 h0)
    rw [e0]
    repeat (first | refine er_step rfl rfl ?_)
    refine er_if rfl rfl (fun q => absurd rfl q) (fun _ => ?_)
    exact h418
  · have e0 : (if dd < nI 0 then nI 0 else dd) = dd := by
      rw [if_neg (c := dd < nI 0) (fun h0 => r (Int32.le_of_lt h0))]
    rw [e0]
    repeat (first | refine er_step rfl rfl ?_)
    refine er_if rfl rfl (fun q => absurd rfl q) (fun _ => ?_)
    exact h418
theorem sumI_s (f : Nat → Int32) (n : Nat) : sumI f n + f n = sumI f (n + 1) := rfl
set_option maxRecDepth 100000 in
theorem rs_carrier (hN : IV (O G0 0) N 500) (h : RI (O G0 0) N f1 f2 f3 f4) (hc : c < 6) (K : ER ε A 581 (L13 A y z [some (.inl (sumI (O G0 0 15) (c + 1))), some (.inl (sumI (O G0 0 14) (c + 1))), some (.inl (sumI (O G0 0 16) ((c + 1) * 8))), some (.inl (nI (c + 1))), none, none]) [] f1 f2 f3 f4 G0) : ER ε A 581 (L13 A y z [some (.inl (sumI (O G0 0 15) c)), some (.inl (sumI (O G0 0 14) c)), some (.inl (sumI (O G0 0 16) (c * 8))), some (.inl (nI c)), none, none]) [] f1 f2 f3 f4 G0 := by
  obtain ⟨k1, k2, k3⟩ := hN.1.2.1.1 c hc
  have e3 : f3 c = nI (cntB (atV (O G0 0) (nI 3) (nI c)) N) := h.2.2.1 c hc
  have a0 : Lk (ex ε (xl ε A f1 f2 f3 f4)) jX8_carrier [.inl (nI c), .inl (nI 0)] G0 (O G0 0 13 c) := L_ca0 hN hc
  have a1 : Lk (ex ε (xl ε A f1 f2 f3 f4)) jX8_carrier [.inl (nI c), .inl (nI 1)] G0 (O G0 0 14 c) := L_ca1 hN hc
  have a2 : Lk (ex ε (xl ε A f1 f2 f3 f4)) jX8_carrier [.inl (nI c), .inl (nI 2)] G0 (f3 c) := by rw [e3]; exact L_ca2 hN hc
  have a3 : Lk (ex ε (xl ε A f1 f2 f3 f4)) jX8_carrier [.inl (nI c), .inl (nI 3)] G0 (O G0 0 15 c) := L_ca3 hN hc
  have h667 : ER ε A 667 (L13 A y z [some (.inl (sumI (O G0 0 15) c)), some (.inl (sumI (O G0 0 14) c)), some (.inl (sumI (O G0 0 16) (c * 8))), some (.inl (nI c)), some (.inl (O G0 0 13 c)), none]) [] f1 f2 f3 f4 G0 := by
    repeat (first | refine er_step rfl rfl ?_)
    refine er_look (a3) rfl rfl ⟨rfl, rfl, rfl⟩ rfl rfl rfl rfl ?_
    repeat (first | refine er_step rfl rfl ?_)
    rw [sumI_s]
    refine er_look (a1) rfl rfl ⟨rfl, rfl, rfl⟩ rfl rfl rfl rfl ?_
    repeat (first | refine er_stepS 694 rfl rfl rfl ?_)
    rw [sumI_s]
    obtain ⟨n8, h8⟩ : ∃ n, n = 8 := ⟨_, rfl⟩
    refine er_for n8 (fun k => L13 A y z [some (.inl (sumI (O G0 0 15) (c + 1))), some (.inl (sumI (O G0 0 14) (c + 1))), some (.inl (sumI (O G0 0 16) (c * 8 + k))), some (.inl (nI c)), some (.inl (O G0 0 13 c)), some (.inl (nI k))]) (fun k hk K2 => ?_) (fun M hM => ?_)
    · have lr : Lk (ex ε (xl ε A f1 f2 f3 f4)) jX8_rounds [.inl (nI c), .inl (nI k)] G0 (O G0 0 16 (c * 8 + k)) := L_rounds hc (by omega)
      repeat (first | refine er_step rfl rfl ?_)
      refine er_if rfl rfl (fun q => absurd q (nI_ge (a := k) (b := 8) (by omega) (by decide))) (fun _ => ?_)
      repeat (first | refine er_step rfl rfl ?_)
      refine er_look (lr) rfl rfl ⟨rfl, rfl, rfl⟩ rfl rfl rfl rfl ?_
      repeat (first | refine er_stepS 694 rfl rfl rfl ?_)
      rw [sumI_s, nI_add']
      exact K2
    · rw [hM, h8]
      repeat (first | refine er_step rfl rfl ?_)
      refine er_if rfl rfl (fun _ => ?_) (fun q => absurd (Int32.le_refl _) q)
      repeat (first | refine er_stepS 581 rfl rfl rfl ?_)
      rw [nI_add']
      rw [show (c + 1) * 8 = c * 8 + 8 by omega] at K
      exact er_dropK K ⟨rfl, rfl, rfl, rfl, rfl, rfl, rfl, rfl, rfl, rfl, rfl, trivial⟩
  have h630 : ER ε A 630 (L13 A y z [some (.inl (sumI (O G0 0 15) c)), some (.inl (sumI (O G0 0 14) c)), some (.inl (sumI (O G0 0 16) (c * 8))), some (.inl (nI c)), some (.inl (O G0 0 13 c)), none]) [] f1 f2 f3 f4 G0 := by
    repeat (first | refine er_step rfl rfl ?_)
    refine er_look (a1) rfl rfl ⟨rfl, rfl, rfl⟩ rfl rfl rfl rfl ?_
    rcases k1 with k0 | k0
    · have e0 : f3 c = nI 0 := by rw [e3, hN.2.1.none hc k0]
      rw [k0] at a1 ⊢
      refine er_if rfl rfl (fun q => absurd rfl q) (fun _ => ?_)
      repeat (first | refine er_step rfl rfl ?_)
      refine er_ld 2 c rfl rfl hc rfl ?_
      rw [e0]
      refine er_if rfl rfl (fun q => absurd q (by decide)) (fun _ => ?_)
      repeat (first | refine er_step rfl rfl ?_)
      refine er_look (a1) rfl rfl ⟨rfl, rfl, rfl⟩ rfl rfl rfl rfl ?_
      repeat (first | refine er_step rfl rfl ?_)
      refine er_if rfl rfl (fun _ => ?_) (fun q => absurd (by decide) q)
      exact h667
    · have hn9 := k3 k0
      rw [k0] at a1 ⊢
      refine er_if rfl rfl (fun _ => ?_) (fun q => absurd (by decide) q)
      repeat (first | refine er_step rfl rfl ?_)
      refine er_look (a1) rfl rfl ⟨rfl, rfl, rfl⟩ rfl rfl rfl rfl ?_
      repeat (first | refine er_step rfl rfl ?_)
      refine er_if rfl rfl (fun q => absurd rfl q) (fun _ => ?_)
      repeat (first | refine er_step rfl rfl ?_)
      exact er_if rfl rfl (fun _ => h667) (fun q => absurd (Classical.not_not.1 q) hn9)
  repeat (first | refine er_step rfl rfl ?_)
  refine er_if rfl rfl (fun q => absurd q (nI_ge (a := c) (b := 6) hc (by decide))) (fun _ => ?_)
  repeat (first | refine er_step rfl rfl ?_)
  refine er_look (a0) rfl rfl ⟨rfl, rfl, rfl⟩ rfl rfl rfl rfl ?_
  repeat (first | refine er_step rfl rfl ?_)
  refine er_look (a2) rfl rfl ⟨rfl, rfl, rfl⟩ rfl rfl rfl rfl ?_
  repeat (first | refine er_step rfl rfl ?_)
  refine er_ld 2 c rfl rfl hc rfl ?_
  refine er_if rfl rfl (fun q => absurd rfl q) (fun _ => ?_)
  repeat (first | refine er_step rfl rfl ?_)
  rcases k2 with h9 | ⟨v, v8, hv⟩
  · exact er_if rfl rfl (fun _ => h630) (fun q => absurd h9 q)
  · obtain ⟨q, hq⟩ := has_of (O G0 0) v
    have hqc : q = some c := by
      cases hqq : q with
      | none => exact absurd hv (hq.2.2 hqq c hc)
      | some b =>
        obtain ⟨b6, b13⟩ := hq.2.1 b hqq
        rcases hN.1.2.1.2 b c b6 hc (b13.trans hv.symm) with r | r
        · exact absurd (b13.symm.trans r) (nI_n9 (by omega))
        · rw [r]
    have lq : Lk (ex ε (xl ε A f1 f2 f3 f4)) jX8_frame [.inl (nI v), .inl (nI 4)] G0 (nI c) := by
      have := L_fr4 (ε := ex ε (xl ε A f1 f2 f3 f4)) hN v8 hq
      rw [hqc] at this
      exact this
    rw [hv] at h630 ⊢
    refine er_if rfl rfl (fun r => absurd (show nI v = -9 from r) (nI_n9 (by omega))) (fun _ => ?_)
    repeat (first | refine er_step rfl rfl ?_)
    refine er_look (lq) rfl rfl ⟨rfl, rfl, rfl⟩ rfl rfl rfl rfl ?_
    repeat (first | refine er_step rfl rfl ?_)
    refine er_if rfl rfl (fun q => absurd rfl q) (fun _ => ?_)
    exact h630
set_option maxRecDepth 100000 in
theorem rs_end (hN : IV (O G0 0) N 500) (h : RI (O G0 0) N f1 f2 f3 f4) {ls : List (Option V0)} (hls : ls = L13 A (sumI (O G0 0 6) N) (nI (cntB (stryV (O G0 0)) N)) [some (.inl (sumI (O G0 0 15) 6)), some (.inl (sumI (O G0 0 14) 6)), some (.inl (sumI (O G0 0 16) 48)), none, none, none]) : ER ε A 726 ls [] f1 f2 f3 f4 G0 := by
  subst hls
  have c9 : Lk (ex ε (xl ε A f1 f2 f3 f4)) jX8_count [.inl (nI 9)] G0 (sumI (O G0 0 14) 6) := by
    have := L_count (ε := ex ε (xl ε A f1 f2 f3 f4)) hN (k := 9) (by decide)
    have e : aCount G0 N 9 = sumI (O G0 0 14) 6 := by
      show nI (cntB (fun c => decide (¬ O G0 0 14 c = 0)) 6) = _
      rw [sumI_cnt 6 (p := fun c => decide (¬ O G0 0 14 c = 0)) (fun c hc => ?_)]
      rcases (hN.1.2.1.1 c hc).1 with q | q
      · rw [q]; rfl
      · rw [q]; rfl
    rw [e] at this
    exact this
  have c10 : Lk (ex ε (xl ε A f1 f2 f3 f4)) jX8_count [.inl (nI 10)] G0 (nI (cntB (stryV (O G0 0)) N)) := L_count hN (k := 10) (by decide)
  have c11 : Lk (ex ε (xl ε A f1 f2 f3 f4)) jX8_count [.inl (nI 11)] G0 (sumI (O G0 0 6) N) := L_count hN (k := 11) (by decide)
  have c12 : Lk (ex ε (xl ε A f1 f2 f3 f4)) jX8_count [.inl (nI 12)] G0 (sumI (O G0 0 16) 48) := L_count hN (k := 12) (by decide)
  repeat (first | refine er_step rfl rfl ?_)
  refine er_ld 3 0 rfl rfl (by decide) rfl ?_
  rw [h.2.2.2 0 (by decide)]
  refine er_stat (L_bag hN) rfl rfl ⟨rfl, rfl, rfl⟩ rfl rfl rfl ?_
  refine er_if rfl rfl (fun q => absurd q (by decide)) (fun _ => ?_)
  repeat (first | refine er_step rfl rfl ?_)
  refine er_stat (L_stretches hN) rfl rfl ⟨rfl, rfl, rfl⟩ rfl rfl rfl ?_
  refine er_if rfl rfl (fun q => absurd q (by decide)) (fun _ => ?_)
  repeat (first | refine er_step rfl rfl ?_)
  refine er_ld 3 4 rfl rfl (by decide) rfl ?_
  rw [h.2.2.2 4 (by decide)]
  refine er_if rfl rfl (fun q => absurd hN.2.2 q) (fun _ => ?_)
  repeat (first | refine er_step rfl rfl ?_)
  refine er_look (c9) rfl rfl ⟨rfl, rfl, rfl⟩ rfl rfl rfl rfl ?_
  refine er_if rfl rfl (fun q => absurd rfl q) (fun _ => ?_)
  repeat (first | refine er_step rfl rfl ?_)
  refine er_look (c12) rfl rfl ⟨rfl, rfl, rfl⟩ rfl rfl rfl rfl ?_
  refine er_if rfl rfl (fun q => absurd rfl q) (fun _ => ?_)
  repeat (first | refine er_step rfl rfl ?_)
  refine er_look (c11) rfl rfl ⟨rfl, rfl, rfl⟩ rfl rfl rfl rfl ?_
  refine er_if rfl rfl (fun q => absurd rfl q) (fun _ => ?_)
  repeat (first | refine er_step rfl rfl ?_)
  refine er_look (c10) rfl rfl ⟨rfl, rfl, rfl⟩ rfl rfl rfl rfl ?_
  refine er_if rfl rfl (fun q => absurd rfl q) (fun _ => ?_)
  repeat (first | refine er_step rfl rfl ?_)
  exact er_zret rfl
set_option maxRecDepth 100000 in
theorem rs_350 (hN : IV (O G0 0) N 500) (h : RI (O G0 0) N f1 f2 f3 f4) : ER ε A 350 (L13 A (sumI (O G0 0 6) N) (nI (cntB (stryV (O G0 0)) N)) [none, none, none, none, none, none]) [] f1 f2 f3 f4 G0 := by
  obtain ⟨n8, h8⟩ : ∃ n, n = 8 := ⟨_, rfl⟩
  obtain ⟨n6, h6⟩ : ∃ n, n = 6 := ⟨_, rfl⟩
  repeat (first | refine er_stepS 353 rfl rfl rfl ?_)
  refine er_for n8 (fun w => L13 A (sumI (O G0 0 6) N) (nI (cntB (stryV (O G0 0)) N)) [some (.inl (nI w)), none, none, none, none, none]) (fun w hw K => rs_walk hN h (by omega) K) (fun M hM => ?_)
  rw [hM, h8]
  repeat (first | refine er_step rfl rfl ?_)
  refine er_if rfl rfl (fun _ => ?_) (fun q => absurd (Int32.le_refl _) q)
  repeat (first | refine er_stepS 581 rfl rfl rfl ?_)
  refine er_for n6 (fun c => L13 A (sumI (O G0 0 6) N) (nI (cntB (stryV (O G0 0)) N)) [some (.inl (sumI (O G0 0 15) c)), some (.inl (sumI (O G0 0 14) c)), some (.inl (sumI (O G0 0 16) (c * 8))), some (.inl (nI c)), none, none]) (fun c hc K => rs_carrier hN h (by omega) K) (fun M hM => ?_)
  rw [hM, h6]
  repeat (first | refine er_step rfl rfl ?_)
  refine er_if rfl rfl (fun _ => ?_) (fun q => absurd (Int32.le_refl _) q)
  exact er_dropK (rs_end hN h rfl) ⟨rfl, rfl, rfl, rfl, rfl, rfl, rfl, rfl, rfl, rfl, trivial⟩
end MH2
end
