-- ===== PART A: goes FIRST, ahead of the names: the tables' words, and 'selects' of the private methods out of them =====
/-- a private method of a class that the tables say can be made, by its rows of tables_1 -/
def lw_okq (q : MethodName × Nat) : Prop := (q.1.cls ≠ "java/lang/invoke/MethodHandle" ∧ q.1.cls ≠ "java/lang/invoke/VarHandle") ∧ Cond.instantiable q.1.cls q.2 ∈ tables_1 ∧ Cond.privateMethod q.1 ∈ tables_1 ∧ Cond.instanceMethod q.1 ∈ tables_1
theorem lw_p0 : lw_okq (⟨"WalkFrames$History", "dropOldest", "()V"⟩, 2) := ⟨⟨by decide +kernel, by decide +kernel⟩, List.mem_of_getElem? (i := 173) (by decide +kernel), List.mem_of_getElem? (i := 271) (by decide +kernel), List.mem_of_getElem? (i := 272) (by decide +kernel)⟩
theorem lw_p1 : lw_okq (⟨"WalkFrames$Letters", "isAt", "(III)Z"⟩, 9) := ⟨⟨by decide +kernel, by decide +kernel⟩, List.mem_of_getElem? (i := 53) (by decide +kernel), List.mem_of_getElem? (i := 355) (by decide +kernel), List.mem_of_getElem? (i := 356) (by decide +kernel)⟩
theorem lw_p2 : lw_okq (⟨"WalkFrames$Letters", "insertByCode", "(ILWalkFrames$Line;)V"⟩, 9) := ⟨⟨by decide +kernel, by decide +kernel⟩, List.mem_of_getElem? (i := 53) (by decide +kernel), List.mem_of_getElem? (i := 363) (by decide +kernel), List.mem_of_getElem? (i := 364) (by decide +kernel)⟩
theorem lw_p3 : lw_okq (⟨"WalkFrames$Letters", "hasGreaterCode", "(II)Z"⟩, 9) := ⟨⟨by decide +kernel, by decide +kernel⟩, List.mem_of_getElem? (i := 53) (by decide +kernel), List.mem_of_getElem? (i := 375) (by decide +kernel), List.mem_of_getElem? (i := 376) (by decide +kernel)⟩
theorem lw_p4 : lw_okq (⟨"WalkFrames$RangeText", "readRange", "()V"⟩, 8) := ⟨⟨by decide +kernel, by decide +kernel⟩, List.mem_of_getElem? (i := 190) (by decide +kernel), List.mem_of_getElem? (i := 424) (by decide +kernel), List.mem_of_getElem? (i := 425) (by decide +kernel)⟩
theorem lw_p5 : lw_okq (⟨"WalkFrames$RangeText", "readNumber", "()I"⟩, 8) := ⟨⟨by decide +kernel, by decide +kernel⟩, List.mem_of_getElem? (i := 190) (by decide +kernel), List.mem_of_getElem? (i := 428) (by decide +kernel), List.mem_of_getElem? (i := 429) (by decide +kernel)⟩
theorem lw_p6 : lw_okq (⟨"WalkFrames$RangeText", "readDigit", "(C)I"⟩, 8) := ⟨⟨by decide +kernel, by decide +kernel⟩, List.mem_of_getElem? (i := 190) (by decide +kernel), List.mem_of_getElem? (i := 432) (by decide +kernel), List.mem_of_getElem? (i := 433) (by decide +kernel)⟩
theorem lw_p7 : lw_okq (⟨"WalkFrames$RangeText", "isNextIn", "(CC)Z"⟩, 8) := ⟨⟨by decide +kernel, by decide +kernel⟩, List.mem_of_getElem? (i := 190) (by decide +kernel), List.mem_of_getElem? (i := 436) (by decide +kernel), List.mem_of_getElem? (i := 437) (by decide +kernel)⟩
theorem lw_p8 : lw_okq (⟨"WalkFrames$RangeText", "readSign", "(C)V"⟩, 8) := ⟨⟨by decide +kernel, by decide +kernel⟩, List.mem_of_getElem? (i := 190) (by decide +kernel), List.mem_of_getElem? (i := 440) (by decide +kernel), List.mem_of_getElem? (i := 441) (by decide +kernel)⟩
theorem lw_p9 : lw_okq (⟨"WalkFrames$Letters", "addFromBag", "(IILWalkFrames$Line;)V"⟩, 9) := ⟨⟨by decide +kernel, by decide +kernel⟩, List.mem_of_getElem? (i := 53) (by decide +kernel), List.mem_of_getElem? (i := 500) (by decide +kernel), List.mem_of_getElem? (i := 501) (by decide +kernel)⟩
theorem lw_p10 : lw_okq (⟨"WalkFrames$Office", "sort", "(I)Z"⟩, 8) := ⟨⟨by decide +kernel, by decide +kernel⟩, List.mem_of_getElem? (i := 27) (by decide +kernel), List.mem_of_getElem? (i := 529) (by decide +kernel), List.mem_of_getElem? (i := 530) (by decide +kernel)⟩
theorem lw_p11 : lw_okq (⟨"WalkFrames$Office", "frameFor", "(I)I"⟩, 8) := ⟨⟨by decide +kernel, by decide +kernel⟩, List.mem_of_getElem? (i := 27) (by decide +kernel), List.mem_of_getElem? (i := 533) (by decide +kernel), List.mem_of_getElem? (i := 534) (by decide +kernel)⟩
theorem lw_p12 : lw_okq (⟨"WalkFrames$Office", "walkWithMostFree", "()I"⟩, 8) := ⟨⟨by decide +kernel, by decide +kernel⟩, List.mem_of_getElem? (i := 27) (by decide +kernel), List.mem_of_getElem? (i := 551) (by decide +kernel), List.mem_of_getElem? (i := 552) (by decide +kernel)⟩
theorem lw_p13 : lw_okq (⟨"WalkFrames$Office", "countBelonging", "(LWalkFrames$Line;I)I"⟩, 8) := ⟨⟨by decide +kernel, by decide +kernel⟩, List.mem_of_getElem? (i := 27) (by decide +kernel), List.mem_of_getElem? (i := 655) (by decide +kernel), List.mem_of_getElem? (i := 656) (by decide +kernel)⟩
theorem lw_p14 : lw_okq (⟨"WalkFrames$Office", "putBack", "(II)V"⟩, 8) := ⟨⟨by decide +kernel, by decide +kernel⟩, List.mem_of_getElem? (i := 27) (by decide +kernel), List.mem_of_getElem? (i := 672) (by decide +kernel), List.mem_of_getElem? (i := 673) (by decide +kernel)⟩
def lw_privs_1 : List (MethodName × Nat) := [(⟨"WalkFrames$History", "dropOldest", "()V"⟩, 2), (⟨"WalkFrames$Letters", "isAt", "(III)Z"⟩, 9), (⟨"WalkFrames$Letters", "insertByCode", "(ILWalkFrames$Line;)V"⟩, 9), (⟨"WalkFrames$Letters", "hasGreaterCode", "(II)Z"⟩, 9), (⟨"WalkFrames$RangeText", "readRange", "()V"⟩, 8), (⟨"WalkFrames$RangeText", "readNumber", "()I"⟩, 8), (⟨"WalkFrames$RangeText", "readDigit", "(C)I"⟩, 8), (⟨"WalkFrames$RangeText", "isNextIn", "(CC)Z"⟩, 8), (⟨"WalkFrames$RangeText", "readSign", "(C)V"⟩, 8), (⟨"WalkFrames$Letters", "addFromBag", "(IILWalkFrames$Line;)V"⟩, 9), (⟨"WalkFrames$Office", "sort", "(I)Z"⟩, 8), (⟨"WalkFrames$Office", "frameFor", "(I)I"⟩, 8), (⟨"WalkFrames$Office", "walkWithMostFree", "()I"⟩, 8), (⟨"WalkFrames$Office", "countBelonging", "(LWalkFrames$Line;I)I"⟩, 8), (⟨"WalkFrames$Office", "putBack", "(II)V"⟩, 8)]
theorem lw_r1 : ∀ q ∈ lw_privs_1, lw_okq q := List.forall_mem_cons.mpr ⟨lw_p0, List.forall_mem_cons.mpr ⟨lw_p1, List.forall_mem_cons.mpr ⟨lw_p2, List.forall_mem_cons.mpr ⟨lw_p3, List.forall_mem_cons.mpr ⟨lw_p4, List.forall_mem_cons.mpr ⟨lw_p5, List.forall_mem_cons.mpr ⟨lw_p6, List.forall_mem_cons.mpr ⟨lw_p7, List.forall_mem_cons.mpr ⟨lw_p8, List.forall_mem_cons.mpr ⟨lw_p9, List.forall_mem_cons.mpr ⟨lw_p10, List.forall_mem_cons.mpr ⟨lw_p11, List.forall_mem_cons.mpr ⟨lw_p12, List.forall_mem_cons.mpr ⟨lw_p13, List.forall_mem_cons.mpr ⟨lw_p14, fun _ h => absurd h List.not_mem_nil⟩⟩⟩⟩⟩⟩⟩⟩⟩⟩⟩⟩⟩⟩⟩
def lw_privs : List (MethodName × Nat) := lw_privs_1
def lw_tbl : List Cond := k2_sels lw_privs ++ tables_1
theorem lw_privs_ok : ∀ q ∈ lw_privs, lw_okq q := lw_r1
def RX0 : String := "WalkFrames$Carriers"
def TX0 : u_T := fun k => match k with
  | 0 => ("WalkFrames$Carriers", "walk", "[I", true)
  | 1 => ("WalkFrames$Carriers", "out", "[Z", true)
  | 2 => ("WalkFrames$Carriers", "delivered", "[I", true)
  | _ => ("WalkFrames$Carriers", "roundsMade", "[I", true)
def tyX0 : Nat → FieldType := fun k => match k with
  | 0 => .array .int
  | 1 => .array .boolean
  | 2 => .array .int
  | _ => .array .int
abbrev wsX00 : List Cond := u_ws RX0 TX0 4
theorem nmX0 : ∀ a, a < 4 → ∀ b, b < 4 → a ≠ b → (TX0 a).2.1 ≠ (TX0 b).2.1 := by decide +kernel
theorem tyX0_ok : ∀ k, k < 4 → parseFieldDescriptor (TX0 k).2.2.1 = some (tyX0 k) := by decide +kernel
def RX1 : String := "WalkFrames$History"
def TX1 : u_T := fun k => match k with
  | 0 => ("WalkFrames$History", "moments", "[LWalkFrames$Moment;", true)
  | _ => ("WalkFrames$History", "depth", "I", false)
def tyX1 : Nat → FieldType := fun k => match k with
  | 0 => .array (.object "WalkFrames$Moment")
  | _ => .int
abbrev wsX10 : List Cond := u_ws RX1 TX1 2
theorem nmX1 : ∀ a, a < 2 → ∀ b, b < 2 → a ≠ b → (TX1 a).2.1 ≠ (TX1 b).2.1 := by decide +kernel
theorem tyX1_ok : ∀ k, k < 2 → parseFieldDescriptor (TX1 k).2.2.1 = some (tyX1 k) := by decide +kernel
def RX2 : String := "WalkFrames$Letters"
def TX2 : u_T := fun k => match k with
  | 0 => ("WalkFrames$Letters", "code", "[I", true)
  | 1 => ("WalkFrames$Letters", "category", "[I", true)
  | 2 => ("WalkFrames$Letters", "misroutes", "[I", true)
  | 3 => ("WalkFrames$Letters", "place", "[I", true)
  | 4 => ("WalkFrames$Letters", "keeper", "[I", true)
  | 5 => ("WalkFrames$Letters", "came", "[I", true)
  | 6 => ("WalkFrames$Letters", "ended", "[I", true)
  | 7 => ("WalkFrames$Letters", "framed", "[I", true)
  | _ => ("WalkFrames$Letters", "count", "I", false)
def tyX2 : Nat → FieldType := fun k => match k with
  | 0 => .array .int
  | 1 => .array .int
  | 2 => .array .int
  | 3 => .array .int
  | 4 => .array .int
  | 5 => .array .int
  | 6 => .array .int
  | 7 => .array .int
  | _ => .int
abbrev wsX20 : List Cond := u_ws RX2 TX2 9
theorem nmX2 : ∀ a, a < 9 → ∀ b, b < 9 → a ≠ b → (TX2 a).2.1 ≠ (TX2 b).2.1 := by decide +kernel
theorem tyX2_ok : ∀ k, k < 9 → parseFieldDescriptor (TX2 k).2.2.1 = some (tyX2 k) := by decide +kernel
def RX3 : String := "WalkFrames$Line"
def TX3 : u_T := fun k => match k with
  | 0 => ("WalkFrames$Line", "letters", "[I", true)
  | _ => ("WalkFrames$Line", "size", "I", false)
def tyX3 : Nat → FieldType := fun k => match k with
  | 0 => .array .int
  | _ => .int
abbrev wsX30 : List Cond := u_ws RX3 TX3 2
theorem nmX3 : ∀ a, a < 2 → ∀ b, b < 2 → a ≠ b → (TX3 a).2.1 ≠ (TX3 b).2.1 := by decide +kernel
theorem tyX3_ok : ∀ k, k < 2 → parseFieldDescriptor (TX3 k).2.2.1 = some (tyX3 k) := by decide +kernel
def RX4 : String := "WalkFrames$Moment"
def TX4 : u_T := fun k => match k with
  | 0 => ("WalkFrames$Moment", "office", "LWalkFrames$Office;", true)
  | 1 => ("WalkFrames$Moment", "slots", "[LWalkFrames$Office;", true)
  | _ => ("WalkFrames$Moment", "filled", "[Z", true)
def tyX4 : Nat → FieldType := fun k => match k with
  | 0 => .object "WalkFrames$Office"
  | 1 => .array (.object "WalkFrames$Office")
  | _ => .array .boolean
abbrev wsX40 : List Cond := u_ws RX4 TX4 3
theorem nmX4 : ∀ a, a < 3 → ∀ b, b < 3 → a ≠ b → (TX4 a).2.1 ≠ (TX4 b).2.1 := by decide +kernel
theorem tyX4_ok : ∀ k, k < 3 → parseFieldDescriptor (TX4 k).2.2.1 = some (tyX4 k) := by decide +kernel
def RX5 : String := "WalkFrames$Office"
def TX5 : u_T := fun k => match k with
  | 0 => ("WalkFrames$Office", "ranges", "LWalkFrames$Ranges;", true)
  | 1 => ("WalkFrames$Office", "letters", "LWalkFrames$Letters;", true)
  | 2 => ("WalkFrames$Office", "carriers", "LWalkFrames$Carriers;", true)
  | 3 => ("WalkFrames$Office", "holes", "[I", true)
  | 4 => ("WalkFrames$Office", "hour", "I", false)
  | 5 => ("WalkFrames$Office", "rule", "I", false)
  | 6 => ("WalkFrames$Office", "speed", "I", false)
  | _ => ("WalkFrames$Office", "load", "I", false)
def tyX5 : Nat → FieldType := fun k => match k with
  | 0 => .object "WalkFrames$Ranges"
  | 1 => .object "WalkFrames$Letters"
  | 2 => .object "WalkFrames$Carriers"
  | 3 => .array .int
  | 4 => .int
  | 5 => .int
  | 6 => .int
  | _ => .int
abbrev wsX50 : List Cond := u_ws RX5 TX5 8
theorem nmX5 : ∀ a, a < 8 → ∀ b, b < 8 → a ≠ b → (TX5 a).2.1 ≠ (TX5 b).2.1 := by decide +kernel
theorem tyX5_ok : ∀ k, k < 8 → parseFieldDescriptor (TX5 k).2.2.1 = some (tyX5 k) := by decide +kernel
def RX6 : String := "WalkFrames$RangeText"
def TX6 : u_T := fun k => match k with
  | 0 => ("WalkFrames$RangeText", "signs", "[C", true)
  | 1 => ("WalkFrames$RangeText", "length", "I", false)
  | 2 => ("WalkFrames$RangeText", "from", "[I", true)
  | 3 => ("WalkFrames$RangeText", "to", "[I", true)
  | 4 => ("WalkFrames$RangeText", "walk", "[I", true)
  | 5 => ("WalkFrames$RangeText", "ranges", "I", false)
  | 6 => ("WalkFrames$RangeText", "next", "I", false)
  | _ => ("WalkFrames$RangeText", "broken", "Z", false)
def tyX6 : Nat → FieldType := fun k => match k with
  | 0 => .array .char
  | 1 => .int
  | 2 => .array .int
  | 3 => .array .int
  | 4 => .array .int
  | 5 => .int
  | 6 => .int
  | _ => .boolean
abbrev wsX60 : List Cond := u_ws RX6 TX6 8
theorem nmX6 : ∀ a, a < 8 → ∀ b, b < 8 → a ≠ b → (TX6 a).2.1 ≠ (TX6 b).2.1 := by decide +kernel
theorem tyX6_ok : ∀ k, k < 8 → parseFieldDescriptor (TX6 k).2.2.1 = some (tyX6 k) := by decide +kernel
def RX7 : String := "WalkFrames$Ranges"
def TX7 : u_T := fun k => match k with
  | _ => ("WalkFrames$Ranges", "walk", "[I", true)
def tyX7 : Nat → FieldType := fun k => match k with
  | _ => .array .int
abbrev wsX70 : List Cond := u_ws RX7 TX7 1
theorem nmX7 : ∀ a, a < 1 → ∀ b, b < 1 → a ≠ b → (TX7 a).2.1 ≠ (TX7 b).2.1 := by decide +kernel
theorem tyX7_ok : ∀ k, k < 1 → parseFieldDescriptor (TX7 k).2.2.1 = some (tyX7 k) := by decide +kernel
def RX8 : String := "WalkFrames"
def TX8 : u_T := fun k => match k with
  | 0 => ("WalkFrames", "now", "LWalkFrames$Moment;", true)
  | 1 => ("WalkFrames", "history", "LWalkFrames$History;", true)
  | 2 => ("WalkFrames", "text", "LWalkFrames$RangeText;", true)
  | 3 => ("WalkFrames", "trial", "LWalkFrames$Office;", true)
  | _ => ("WalkFrames", "line", "LWalkFrames$Line;", true)
def tyX8 : Nat → FieldType := fun k => match k with
  | 0 => .object "WalkFrames$Moment"
  | 1 => .object "WalkFrames$History"
  | 2 => .object "WalkFrames$RangeText"
  | 3 => .object "WalkFrames$Office"
  | _ => .object "WalkFrames$Line"
abbrev wsX80 : List Cond := u_ws RX8 TX8 5
theorem nmX8 : ∀ a, a < 5 → ∀ b, b < 5 → a ≠ b → (TX8 a).2.1 ≠ (TX8 b).2.1 := by decide +kernel
theorem tyX8_ok : ∀ k, k < 5 → parseFieldDescriptor (TX8 k).2.2.1 = some (tyX8 k) := by decide +kernel
def RL : String := "WalkFramesLaw"
abbrev cX0_init : ByteArray := prog_2_method_1_code
def yX0_init : MethodName := ⟨RX0, "<init>", "()V"⟩
abbrev cX0_copyFrom : ByteArray := prog_2_method_2_code
def yX0_copyFrom : MethodName := ⟨RX0, "copyFrom", "(LWalkFrames$Carriers;)V"⟩
abbrev cX0_ofWalk : ByteArray := prog_2_method_3_code
def yX0_ofWalk : MethodName := ⟨RX0, "ofWalk", "(I)I"⟩
abbrev cX0_countOut : ByteArray := prog_2_method_4_code
def yX0_countOut : MethodName := ⟨RX0, "countOut", "()I"⟩
abbrev cX0_countRounds : ByteArray := prog_2_method_5_code
def yX0_countRounds : MethodName := ⟨RX0, "countRounds", "()I"⟩
abbrev cX0_roundsOn : ByteArray := prog_2_method_6_code
def yX0_roundsOn : MethodName := ⟨RX0, "roundsOn", "(II)I"⟩
abbrev cX0_knows : ByteArray := prog_2_method_7_code
def yX0_knows : MethodName := ⟨RX0, "knows", "(II)Z"⟩
abbrev cX0_endRound : ByteArray := prog_2_method_8_code
def yX0_endRound : MethodName := ⟨RX0, "endRound", "(II)V"⟩
abbrev cX0_bestWithoutWalk : ByteArray := prog_2_method_9_code
def yX0_bestWithoutWalk : MethodName := ⟨RX0, "bestWithoutWalk", "(I)I"⟩
abbrev cX1_init : ByteArray := prog_3_method_1_code
def yX1_init : MethodName := ⟨RX1, "<init>", "()V"⟩
abbrev cX1_remember : ByteArray := prog_3_method_2_code
def yX1_remember : MethodName := ⟨RX1, "remember", "(LWalkFrames$Moment;)V"⟩
abbrev cX1_dropOldest : ByteArray := prog_3_method_3_code
def yX1_dropOldest : MethodName := ⟨RX1, "dropOldest", "()V"⟩
abbrev cX1_giveBack : ByteArray := prog_3_method_4_code
def yX1_giveBack : MethodName := ⟨RX1, "giveBack", "(LWalkFrames$Moment;)V"⟩
abbrev cX2_init : ByteArray := prog_4_method_1_code
def yX2_init : MethodName := ⟨RX2, "<init>", "()V"⟩
abbrev cX2_copyFrom : ByteArray := prog_4_method_2_code
def yX2_copyFrom : MethodName := ⟨RX2, "copyFrom", "(LWalkFrames$Letters;)V"⟩
abbrev cX2_has : ByteArray := prog_4_method_3_code
def yX2_has : MethodName := ⟨RX2, "has", "(I)Z"⟩
abbrev cX2_add : ByteArray := prog_4_method_4_code
def yX2_add : MethodName := ⟨RX2, "add", "(III)V"⟩
abbrev cX2_moveTo : ByteArray := prog_4_method_5_code
def yX2_moveTo : MethodName := ⟨RX2, "moveTo", "(III)V"⟩
abbrev cX2_finish : ByteArray := prog_4_method_6_code
def yX2_finish : MethodName := ⟨RX2, "finish", "(III)V"⟩
abbrev cX2_misroute : ByteArray := prog_4_method_7_code
def yX2_misroute : MethodName := ⟨RX2, "misroute", "(II)V"⟩
abbrev cX2_isFirstClass : ByteArray := prog_4_method_8_code
def yX2_isFirstClass : MethodName := ⟨RX2, "isFirstClass", "(I)Z"⟩
abbrev cX2_emptyOverflow : ByteArray := prog_4_method_9_code
def yX2_emptyOverflow : MethodName := ⟨RX2, "emptyOverflow", "()V"⟩
abbrev cX2_countIn : ByteArray := prog_4_method_10_code
def yX2_countIn : MethodName := ⟨RX2, "countIn", "(I)I"⟩
abbrev cX2_countInHand : ByteArray := prog_4_method_11_code
def yX2_countInHand : MethodName := ⟨RX2, "countInHand", "(I)I"⟩
abbrev cX2_countFirstClass : ByteArray := prog_4_method_12_code
def yX2_countFirstClass : MethodName := ⟨RX2, "countFirstClass", "(I)I"⟩
abbrev cX2_countMisroutes : ByteArray := prog_4_method_13_code
def yX2_countMisroutes : MethodName := ⟨RX2, "countMisroutes", "()I"⟩
abbrev cX2_displaceSecondClass : ByteArray := prog_4_method_14_code
def yX2_displaceSecondClass : MethodName := ⟨RX2, "displaceSecondClass", "(I)Z"⟩
abbrev cX2_listBag : ByteArray := prog_4_method_15_code
def yX2_listBag : MethodName := ⟨RX2, "listBag", "(LWalkFrames$Line;)V"⟩
abbrev cX2_addFromBag : ByteArray := prog_4_method_16_code
def yX2_addFromBag : MethodName := ⟨RX2, "addFromBag", "(IILWalkFrames$Line;)V"⟩
abbrev cX2_listByCode : ByteArray := prog_4_method_17_code
def yX2_listByCode : MethodName := ⟨RX2, "listByCode", "(IILWalkFrames$Line;)V"⟩
abbrev cX2_insertByCode : ByteArray := prog_4_method_18_code
def yX2_insertByCode : MethodName := ⟨RX2, "insertByCode", "(ILWalkFrames$Line;)V"⟩
abbrev cX2_hasGreaterCode : ByteArray := prog_4_method_19_code
def yX2_hasGreaterCode : MethodName := ⟨RX2, "hasGreaterCode", "(II)Z"⟩
abbrev cX2_isAt : ByteArray := prog_4_method_20_code
def yX2_isAt : MethodName := ⟨RX2, "isAt", "(III)Z"⟩
abbrev cX3_init : ByteArray := prog_5_method_1_code
def yX3_init : MethodName := ⟨RX3, "<init>", "()V"⟩
abbrev cX3_addLast : ByteArray := prog_5_method_2_code
def yX3_addLast : MethodName := ⟨RX3, "addLast", "(I)V"⟩
abbrev cX3_swapWithPrevious : ByteArray := prog_5_method_3_code
def yX3_swapWithPrevious : MethodName := ⟨RX3, "swapWithPrevious", "(I)V"⟩
abbrev cX3_letterAt : ByteArray := prog_5_method_4_code
def yX3_letterAt : MethodName := ⟨RX3, "letterAt", "(I)I"⟩
abbrev cX4_init : ByteArray := prog_6_method_1_code
def yX4_init : MethodName := ⟨RX4, "<init>", "()V"⟩
abbrev cX4_copyFrom : ByteArray := prog_6_method_2_code
def yX4_copyFrom : MethodName := ⟨RX4, "copyFrom", "(LWalkFrames$Moment;)V"⟩
abbrev cX4_fillSlot : ByteArray := prog_6_method_3_code
def yX4_fillSlot : MethodName := ⟨RX4, "fillSlot", "(I)V"⟩
abbrev cX4_countSnapshots : ByteArray := prog_6_method_4_code
def yX4_countSnapshots : MethodName := ⟨RX4, "countSnapshots", "()I"⟩
abbrev cX5_init : ByteArray := prog_7_method_1_code
def yX5_init : MethodName := ⟨RX5, "<init>", "()V"⟩
abbrev cX5_copyFrom : ByteArray := prog_7_method_2_code
def yX5_copyFrom : MethodName := ⟨RX5, "copyFrom", "(LWalkFrames$Office;)V"⟩
abbrev cX5_number : ByteArray := prog_7_method_3_code
def yX5_number : MethodName := ⟨RX5, "number", "(I)I"⟩
abbrev cX5_changeNumber : ByteArray := prog_7_method_4_code
def yX5_changeNumber : MethodName := ⟨RX5, "changeNumber", "(II)V"⟩
abbrev cX5_walkOf : ByteArray := prog_7_method_5_code
def yX5_walkOf : MethodName := ⟨RX5, "walkOf", "(I)I"⟩
abbrev cX5_freeHoles : ByteArray := prog_7_method_6_code
def yX5_freeHoles : MethodName := ⟨RX5, "freeHoles", "(I)I"⟩
abbrev cX5_countStrayLetters : ByteArray := prog_7_method_7_code
def yX5_countStrayLetters : MethodName := ⟨RX5, "countStrayLetters", "()I"⟩
abbrev cX5_isCleared : ByteArray := prog_7_method_8_code
def yX5_isCleared : MethodName := ⟨RX5, "isCleared", "()Z"⟩
abbrev cX5_passHour : ByteArray := prog_7_method_9_code
def yX5_passHour : MethodName := ⟨RX5, "passHour", "(LWalkFrames$Line;)I"⟩
abbrev cX5_sort : ByteArray := prog_7_method_10_code
def yX5_sort : MethodName := ⟨RX5, "sort", "(I)Z"⟩
abbrev cX5_frameFor : ByteArray := prog_7_method_11_code
def yX5_frameFor : MethodName := ⟨RX5, "frameFor", "(I)I"⟩
abbrev cX5_walkWithMostFree : ByteArray := prog_7_method_12_code
def yX5_walkWithMostFree : MethodName := ⟨RX5, "walkWithMostFree", "()I"⟩
abbrev cX5_canGoOut : ByteArray := prog_7_method_13_code
def yX5_canGoOut : MethodName := ⟨RX5, "canGoOut", "(I)Z"⟩
abbrev cX5_sendOut : ByteArray := prog_7_method_14_code
def yX5_sendOut : MethodName := ⟨RX5, "sendOut", "(ILWalkFrames$Line;)I"⟩
abbrev cX5_bringBack : ByteArray := prog_7_method_15_code
def yX5_bringBack : MethodName := ⟨RX5, "bringBack", "(ILWalkFrames$Line;)I"⟩
abbrev cX5_countBelonging : ByteArray := prog_7_method_16_code
def yX5_countBelonging : MethodName := ⟨RX5, "countBelonging", "(LWalkFrames$Line;I)I"⟩
abbrev cX5_putBack : ByteArray := prog_7_method_17_code
def yX5_putBack : MethodName := ⟨RX5, "putBack", "(II)V"⟩
abbrev cX6_init : ByteArray := prog_8_method_1_code
def yX6_init : MethodName := ⟨RX6, "<init>", "()V"⟩
abbrev cX6_read : ByteArray := prog_8_method_4_code
def yX6_read : MethodName := ⟨RX6, "read", "()I"⟩
abbrev cX6_readRange : ByteArray := prog_8_method_5_code
def yX6_readRange : MethodName := ⟨RX6, "readRange", "()V"⟩
abbrev cX6_readNumber : ByteArray := prog_8_method_6_code
def yX6_readNumber : MethodName := ⟨RX6, "readNumber", "()I"⟩
abbrev cX6_readDigit : ByteArray := prog_8_method_7_code
def yX6_readDigit : MethodName := ⟨RX6, "readDigit", "(C)I"⟩
abbrev cX6_readSign : ByteArray := prog_8_method_8_code
def yX6_readSign : MethodName := ⟨RX6, "readSign", "(C)V"⟩
abbrev cX6_isNextIn : ByteArray := prog_8_method_9_code
def yX6_isNextIn : MethodName := ⟨RX6, "isNextIn", "(CC)Z"⟩
abbrev cX6_hasReversedRange : ByteArray := prog_8_method_10_code
def yX6_hasReversedRange : MethodName := ⟨RX6, "hasReversedRange", "()Z"⟩
abbrev cX7_init : ByteArray := prog_9_method_1_code
def yX7_init : MethodName := ⟨RX7, "<init>", "()V"⟩
abbrev cX7_copyFrom : ByteArray := prog_9_method_2_code
def yX7_copyFrom : MethodName := ⟨RX7, "copyFrom", "(LWalkFrames$Ranges;)V"⟩
abbrev cX7_walkOf : ByteArray := prog_9_method_3_code
def yX7_walkOf : MethodName := ⟨RX7, "walkOf", "(I)I"⟩
abbrev cX7_give : ByteArray := prog_9_method_4_code
def yX7_give : MethodName := ⟨RX7, "give", "(III)V"⟩
abbrev cX7_countStretches : ByteArray := prog_9_method_5_code
def yX7_countStretches : MethodName := ⟨RX7, "countStretches", "()I"⟩
abbrev cX7_firstCode : ByteArray := prog_9_method_6_code
def yX7_firstCode : MethodName := ⟨RX7, "firstCode", "(I)I"⟩
abbrev cX7_lastCode : ByteArray := prog_9_method_7_code
def yX7_lastCode : MethodName := ⟨RX7, "lastCode", "(I)I"⟩
abbrev cX8_init : ByteArray := prog_1_method_1_code
def yX8_init : MethodName := ⟨RX8, "<init>", "()V"⟩
abbrev cX8_post : ByteArray := prog_1_method_2_code
def yX8_post : MethodName := ⟨RX8, "post", "(III)I"⟩
abbrev cX8_hour : ByteArray := prog_1_method_3_code
def yX8_hour : MethodName := ⟨RX8, "hour", "()I"⟩
abbrev cX8_setRange : ByteArray := prog_1_method_4_code
def yX8_setRange : MethodName := ⟨RX8, "setRange", "(III)I"⟩
abbrev cX8_set : ByteArray := prog_1_method_5_code
def yX8_set : MethodName := ⟨RX8, "set", "(II)I"⟩
abbrev cX8_assign : ByteArray := prog_1_method_6_code
def yX8_assign : MethodName := ⟨RX8, "assign", "(II)I"⟩
abbrev cX8_goOut : ByteArray := prog_1_method_7_code
def yX8_goOut : MethodName := ⟨RX8, "goOut", "(I)I"⟩
abbrev cX8_comeBack : ByteArray := prog_1_method_8_code
def yX8_comeBack : MethodName := ⟨RX8, "comeBack", "(I)I"⟩
abbrev cX8_take : ByteArray := prog_1_method_9_code
def yX8_take : MethodName := ⟨RX8, "take", "(I)I"⟩
abbrev cX8_restore : ByteArray := prog_1_method_10_code
def yX8_restore : MethodName := ⟨RX8, "restore", "(I)I"⟩
abbrev cX8_undo : ByteArray := prog_1_method_11_code
def yX8_undo : MethodName := ⟨RX8, "undo", "()I"⟩
abbrev cX8_setRanges : ByteArray := prog_1_method_14_code
def yX8_setRanges : MethodName := ⟨RX8, "setRanges", "()I"⟩
abbrev cX8_count : ByteArray := prog_1_method_15_code
def yX8_count : MethodName := ⟨RX8, "count", "(I)I"⟩
abbrev cX8_letter : ByteArray := prog_1_method_16_code
def yX8_letter : MethodName := ⟨RX8, "letter", "(II)I"⟩
abbrev cX8_frame : ByteArray := prog_1_method_17_code
def yX8_frame : MethodName := ⟨RX8, "frame", "(II)I"⟩
abbrev cX8_carrier : ByteArray := prog_1_method_18_code
def yX8_carrier : MethodName := ⟨RX8, "carrier", "(II)I"⟩
abbrev cX8_rounds : ByteArray := prog_1_method_19_code
def yX8_rounds : MethodName := ⟨RX8, "rounds", "(II)I"⟩
abbrev cX8_stretch : ByteArray := prog_1_method_20_code
def yX8_stretch : MethodName := ⟨RX8, "stretch", "(II)I"⟩
abbrev cX8_inBag : ByteArray := prog_1_method_21_code
def yX8_inBag : MethodName := ⟨RX8, "inBag", "(I)I"⟩
abbrev cX8_inFrame : ByteArray := prog_1_method_22_code
def yX8_inFrame : MethodName := ⟨RX8, "inFrame", "(II)I"⟩
abbrev cX8_clearIn : ByteArray := prog_1_method_23_code
def yX8_clearIn : MethodName := ⟨RX8, "clearIn", "()I"⟩
abbrev cX8_wouldOverflow : ByteArray := prog_1_method_24_code
def yX8_wouldOverflow : MethodName := ⟨RX8, "wouldOverflow", "(I)I"⟩
abbrev cX8_bestCarrier : ByteArray := prog_1_method_25_code
def yX8_bestCarrier : MethodName := ⟨RX8, "bestCarrier", "(I)I"⟩
abbrev cX8_wouldDeliver : ByteArray := prog_1_method_26_code
def yX8_wouldDeliver : MethodName := ⟨RX8, "wouldDeliver", "(I)I"⟩
abbrev cX8_isIn : ByteArray := prog_1_method_27_code
def yX8_isIn : MethodName := ⟨RX8, "isIn", "(III)Z"⟩
abbrev cX8_isWalk : ByteArray := prog_1_method_28_code
def yX8_isWalk : MethodName := ⟨RX8, "isWalk", "(I)Z"⟩
abbrev cX8_isCarrier : ByteArray := prog_1_method_29_code
def yX8_isCarrier : MethodName := ⟨RX8, "isCarrier", "(I)Z"⟩
abbrev cX8_isSlot : ByteArray := prog_1_method_30_code
def yX8_isSlot : MethodName := ⟨RX8, "isSlot", "(I)Z"⟩
abbrev cX8_leastValue : ByteArray := prog_1_method_31_code
def yX8_leastValue : MethodName := ⟨RX8, "leastValue", "(I)I"⟩
abbrev cX8_greatestValue : ByteArray := prog_1_method_32_code
def yX8_greatestValue : MethodName := ⟨RX8, "greatestValue", "(I)I"⟩
abbrev cL_cell : ByteArray := method_2_code
def yL_cell : MethodName := ⟨RL, "cell", "([II)I"⟩
abbrev cL_low : ByteArray := method_3_code
def yL_low : MethodName := ⟨RL, "low", "(II)I"⟩
abbrev cL_rules : ByteArray := method_4_code
def yL_rules : MethodName := ⟨RL, "rules", "(LWalkFrames;)Z"⟩
abbrev cL_bag : ByteArray := method_5_code
def yL_bag : MethodName := ⟨RL, "bag", "(LWalkFrames;I)Z"⟩
abbrev cL_stretches : ByteArray := method_6_code
def yL_stretches : MethodName := ⟨RL, "stretches", "(LWalkFrames;)Z"⟩
abbrev cL_told : ByteArray := method_7_code
def yL_told : MethodName := ⟨RL, "told", "(LWalkFrames;)J"⟩
abbrev cL_hours : ByteArray := method_8_code
def yL_hours : MethodName := ⟨RL, "hours", "(LWalkFrames;)Z"⟩
abbrev cL_acts : ByteArray := method_9_code
def yL_acts : MethodName := ⟨RL, "acts", "(LWalkFrames;II)Z"⟩
abbrev vwCl : List vw_C := [(RX0, TX0, 4), (RX1, TX1, 2), (RX2, TX2, 9), (RX3, TX3, 2), (RX4, TX4, 3), (RX5, TX5, 8), (RX6, TX6, 8), (RX7, TX7, 1), (RX8, TX8, 5)]
/-- the tables' words that keep: what every contract asks -/
def Tg : List Cond := lw_tbl.filter goodWord
theorem tg_mem {w : Cond} (i : Nat) (h : lw_tbl[i]? = some w) (hg : goodWord w = true) : w ∈ Tg := List.mem_filter.mpr ⟨List.mem_of_getElem? h, hg⟩
theorem tg_sub {w : Cond} (h : w ∈ Tg) : w ∈ lw_tbl := (List.mem_filter.mp h).1
theorem tg_good : GoodIn Tg Tg := fun w h => ⟨h, good_of_word (List.mem_filter.mp h).2⟩
/-- links between mates of a nest: they keep, but not as the other words do -/
def isNest : Cond → Bool
  | .fieldLinkNest _ _ _ _ _ _ => true
  | .methodLinkNest _ _ _ _ => true
  | _ => false
def Nw : List Cond := lw_tbl.filter isNest
theorem nw_mem {w : Cond} (i : Nat) (h : lw_tbl[i]? = some w) (hg : isNest w = true) : w ∈ Nw := List.mem_filter.mpr ⟨List.mem_of_getElem? h, hg⟩
theorem nw_sub {w : Cond} (h : w ∈ Nw) : w ∈ lw_tbl := (List.mem_filter.mp h).1
theorem nw_tab {w : Cond} (h : w ∈ Nw) : w.onTables = true := by
  have h2 := (List.mem_filter.mp h).2
  unfold isNest at h2
  split at h2
  · rfl
  · rfl
  · cases h2
theorem nw_warm {s U : State} (hW : s.WarmedH U.vm) {w : Cond} (h : w ∈ Nw) (hZ : va_Nw w s) : va_Nw w U := by
  have h2 := (List.mem_filter.mp h).2
  unfold isNest at h2
  split at h2
  · exact va_Nw.warmF hW hZ
  · exact va_Nw.warmM hW hZ
  · cases h2
set_option maxRecDepth 100000 in
theorem tgX0 : ∀ w ∈ wsX00, w ∈ Tg := by decide +kernel
set_option maxRecDepth 100000 in
theorem tgX1 : ∀ w ∈ wsX10, w ∈ Tg := by decide +kernel
set_option maxRecDepth 100000 in
theorem tgX2 : ∀ w ∈ wsX20, w ∈ Tg := by decide +kernel
set_option maxRecDepth 100000 in
theorem tgX3 : ∀ w ∈ wsX30, w ∈ Tg := by decide +kernel
set_option maxRecDepth 100000 in
theorem tgX4 : ∀ w ∈ wsX40, w ∈ Tg := by decide +kernel
set_option maxRecDepth 100000 in
theorem tgX5 : ∀ w ∈ wsX50, w ∈ Tg := by decide +kernel
set_option maxRecDepth 100000 in
theorem tgX6 : ∀ w ∈ wsX60, w ∈ Tg := by decide +kernel
set_option maxRecDepth 100000 in
theorem tgX7 : ∀ w ∈ wsX70, w ∈ Tg := by decide +kernel
set_option maxRecDepth 100000 in
theorem tgX8 : ∀ w ∈ wsX80, w ∈ Tg := by decide +kernel
/-- the class of a number -/
def nmC (c : Nat) : String := match c with
  | 0 => RX0
  | 1 => RX1
  | 2 => RX2
  | 3 => RX3
  | 4 => RX4
  | 5 => RX5
  | 6 => RX6
  | 7 => RX7
  | 8 => RX8
  | _ => RL
def tbC (c : Nat) : u_T := match c with
  | 0 => TX0
  | 1 => TX1
  | 2 => TX2
  | 3 => TX3
  | 4 => TX4
  | 5 => TX5
  | 6 => TX6
  | 7 => TX7
  | _ => TX8
/-- a link of a field: by the class itself, or by a mate of its nest -/
def FlOk (r : Nat × Nat × Nat × Nat) : Prop := (Cond.fieldLink (nmC r.1) r.2.1 (nmC r.2.2.1) (tbC r.2.2.1 r.2.2.2).2.1 (tbC r.2.2.1 r.2.2.2).2.2.1 ∈ Tg) ∨ (∃ host, Cond.fieldLinkNest (nmC r.1) r.2.1 (nmC r.2.2.1) (tbC r.2.2.1 r.2.2.2).2.1 (tbC r.2.2.1 r.2.2.2).2.2.1 host ∈ Nw)
theorem fl_0 : FlOk (7, 9, 7, 0) := .inl (tg_mem 62 (by decide +kernel) rfl)
theorem fl_1 : FlOk (2, 9, 2, 0) := .inl (tg_mem 73 (by decide +kernel) rfl)
theorem fl_2 : FlOk (5, 72, 2, 0) := .inr ⟨"WalkFrames", nw_mem 74 (by decide +kernel) rfl⟩
theorem fl_3 : FlOk (8, 216, 2, 0) := .inr ⟨"WalkFrames", nw_mem 75 (by decide +kernel) rfl⟩
theorem fl_4 : FlOk (2, 15, 2, 1) := .inl (tg_mem 76 (by decide +kernel) rfl)
theorem fl_5 : FlOk (8, 219, 2, 1) := .inr ⟨"WalkFrames", nw_mem 77 (by decide +kernel) rfl⟩
theorem fl_6 : FlOk (2, 18, 2, 2) := .inl (tg_mem 78 (by decide +kernel) rfl)
theorem fl_7 : FlOk (8, 228, 2, 2) := .inr ⟨"WalkFrames", nw_mem 79 (by decide +kernel) rfl⟩
theorem fl_8 : FlOk (2, 21, 2, 3) := .inl (tg_mem 80 (by decide +kernel) rfl)
theorem fl_9 : FlOk (5, 91, 2, 3) := .inr ⟨"WalkFrames", nw_mem 81 (by decide +kernel) rfl⟩
theorem fl_10 : FlOk (8, 222, 2, 3) := .inr ⟨"WalkFrames", nw_mem 82 (by decide +kernel) rfl⟩
theorem fl_11 : FlOk (2, 24, 2, 4) := .inl (tg_mem 83 (by decide +kernel) rfl)
theorem fl_12 : FlOk (5, 94, 2, 4) := .inr ⟨"WalkFrames", nw_mem 84 (by decide +kernel) rfl⟩
theorem fl_13 : FlOk (8, 225, 2, 4) := .inr ⟨"WalkFrames", nw_mem 85 (by decide +kernel) rfl⟩
theorem fl_14 : FlOk (2, 27, 2, 5) := .inl (tg_mem 86 (by decide +kernel) rfl)
theorem fl_15 : FlOk (8, 231, 2, 5) := .inr ⟨"WalkFrames", nw_mem 87 (by decide +kernel) rfl⟩
theorem fl_16 : FlOk (2, 30, 2, 6) := .inl (tg_mem 88 (by decide +kernel) rfl)
theorem fl_17 : FlOk (8, 234, 2, 6) := .inr ⟨"WalkFrames", nw_mem 89 (by decide +kernel) rfl⟩
theorem fl_18 : FlOk (2, 33, 2, 7) := .inl (tg_mem 90 (by decide +kernel) rfl)
theorem fl_19 : FlOk (5, 79, 2, 7) := .inr ⟨"WalkFrames", nw_mem 91 (by decide +kernel) rfl⟩
theorem fl_20 : FlOk (8, 243, 2, 7) := .inr ⟨"WalkFrames", nw_mem 92 (by decide +kernel) rfl⟩
theorem fl_21 : FlOk (8, 55, 2, 8) := .inr ⟨"WalkFrames", nw_mem 93 (by decide +kernel) rfl⟩
theorem fl_22 : FlOk (2, 42, 2, 8) := .inl (tg_mem 94 (by decide +kernel) rfl)
theorem fl_23 : FlOk (5, 88, 2, 8) := .inr ⟨"WalkFrames", nw_mem 95 (by decide +kernel) rfl⟩
theorem fl_24 : FlOk (0, 9, 0, 0) := .inl (tg_mem 121 (by decide +kernel) rfl)
theorem fl_25 : FlOk (8, 119, 0, 0) := .inr ⟨"WalkFrames", nw_mem 122 (by decide +kernel) rfl⟩
theorem fl_26 : FlOk (5, 142, 0, 0) := .inr ⟨"WalkFrames", nw_mem 123 (by decide +kernel) rfl⟩
theorem fl_27 : FlOk (0, 15, 0, 1) := .inl (tg_mem 124 (by decide +kernel) rfl)
theorem fl_28 : FlOk (8, 123, 0, 1) := .inr ⟨"WalkFrames", nw_mem 125 (by decide +kernel) rfl⟩
theorem fl_29 : FlOk (5, 145, 0, 1) := .inr ⟨"WalkFrames", nw_mem 126 (by decide +kernel) rfl⟩
theorem fl_30 : FlOk (0, 19, 0, 2) := .inl (tg_mem 127 (by decide +kernel) rfl)
theorem fl_31 : FlOk (8, 255, 0, 2) := .inr ⟨"WalkFrames", nw_mem 128 (by decide +kernel) rfl⟩
theorem fl_32 : FlOk (0, 22, 0, 3) := .inl (tg_mem 129 (by decide +kernel) rfl)
theorem fl_33 : FlOk (5, 12, 5, 0) := .inl (tg_mem 140 (by decide +kernel) rfl)
theorem fl_34 : FlOk (8, 84, 5, 0) := .inr ⟨"WalkFrames", nw_mem 141 (by decide +kernel) rfl⟩
theorem fl_35 : FlOk (5, 21, 5, 1) := .inl (tg_mem 142 (by decide +kernel) rfl)
theorem fl_36 : FlOk (8, 51, 5, 1) := .inr ⟨"WalkFrames", nw_mem 143 (by decide +kernel) rfl⟩
theorem fl_37 : FlOk (5, 28, 5, 2) := .inl (tg_mem 144 (by decide +kernel) rfl)
theorem fl_38 : FlOk (8, 110, 5, 2) := .inr ⟨"WalkFrames", nw_mem 145 (by decide +kernel) rfl⟩
theorem fl_39 : FlOk (5, 32, 5, 3) := .inl (tg_mem 146 (by decide +kernel) rfl)
theorem fl_40 : FlOk (8, 240, 5, 3) := .inr ⟨"WalkFrames", nw_mem 147 (by decide +kernel) rfl⟩
theorem fl_41 : FlOk (5, 62, 5, 4) := .inl (tg_mem 148 (by decide +kernel) rfl)
theorem fl_42 : FlOk (8, 65, 5, 4) := .inr ⟨"WalkFrames", nw_mem 149 (by decide +kernel) rfl⟩
theorem fl_43 : FlOk (5, 36, 5, 5) := .inl (tg_mem 150 (by decide +kernel) rfl)
theorem fl_44 : FlOk (8, 201, 5, 5) := .inr ⟨"WalkFrames", nw_mem 151 (by decide +kernel) rfl⟩
theorem fl_45 : FlOk (5, 40, 5, 6) := .inl (tg_mem 152 (by decide +kernel) rfl)
theorem fl_46 : FlOk (8, 204, 5, 6) := .inr ⟨"WalkFrames", nw_mem 153 (by decide +kernel) rfl⟩
theorem fl_47 : FlOk (5, 43, 5, 7) := .inl (tg_mem 154 (by decide +kernel) rfl)
theorem fl_48 : FlOk (8, 207, 5, 7) := .inr ⟨"WalkFrames", nw_mem 155 (by decide +kernel) rfl⟩
theorem fl_49 : FlOk (4, 12, 4, 0) := .inl (tg_mem 174 (by decide +kernel) rfl)
theorem fl_50 : FlOk (8, 48, 4, 0) := .inr ⟨"WalkFrames", nw_mem 175 (by decide +kernel) rfl⟩
theorem fl_51 : FlOk (4, 18, 4, 1) := .inl (tg_mem 176 (by decide +kernel) rfl)
theorem fl_52 : FlOk (8, 150, 4, 1) := .inr ⟨"WalkFrames", nw_mem 177 (by decide +kernel) rfl⟩
theorem fl_53 : FlOk (4, 22, 4, 2) := .inl (tg_mem 178 (by decide +kernel) rfl)
theorem fl_54 : FlOk (8, 147, 4, 2) := .inr ⟨"WalkFrames", nw_mem 179 (by decide +kernel) rfl⟩
theorem fl_55 : FlOk (1, 11, 1, 0) := .inl (tg_mem 196 (by decide +kernel) rfl)
theorem fl_56 : FlOk (1, 18, 1, 1) := .inl (tg_mem 197 (by decide +kernel) rfl)
theorem fl_57 : FlOk (8, 158, 1, 1) := .inr ⟨"WalkFrames", nw_mem 198 (by decide +kernel) rfl⟩
theorem fl_58 : FlOk (6, 11, 6, 0) := .inl (tg_mem 210 (by decide +kernel) rfl)
theorem fl_59 : FlOk (6, 25, 6, 1) := .inl (tg_mem 211 (by decide +kernel) rfl)
theorem fl_60 : FlOk (8, 171, 6, 1) := .inr ⟨"WalkFrames", nw_mem 212 (by decide +kernel) rfl⟩
theorem fl_61 : FlOk (6, 15, 6, 2) := .inl (tg_mem 213 (by decide +kernel) rfl)
theorem fl_62 : FlOk (8, 182, 6, 2) := .inr ⟨"WalkFrames", nw_mem 214 (by decide +kernel) rfl⟩
theorem fl_63 : FlOk (6, 19, 6, 3) := .inl (tg_mem 215 (by decide +kernel) rfl)
theorem fl_64 : FlOk (8, 185, 6, 3) := .inr ⟨"WalkFrames", nw_mem 216 (by decide +kernel) rfl⟩
theorem fl_65 : FlOk (6, 22, 6, 4) := .inl (tg_mem 217 (by decide +kernel) rfl)
theorem fl_66 : FlOk (8, 188, 6, 4) := .inr ⟨"WalkFrames", nw_mem 218 (by decide +kernel) rfl⟩
theorem fl_67 : FlOk (6, 36, 6, 5) := .inl (tg_mem 219 (by decide +kernel) rfl)
theorem fl_68 : FlOk (8, 180, 6, 5) := .inr ⟨"WalkFrames", nw_mem 220 (by decide +kernel) rfl⟩
theorem fl_69 : FlOk (6, 29, 6, 6) := .inl (tg_mem 221 (by decide +kernel) rfl)
theorem fl_70 : FlOk (6, 32, 6, 7) := .inl (tg_mem 222 (by decide +kernel) rfl)
theorem fl_71 : FlOk (3, 9, 3, 0) := .inl (tg_mem 249 (by decide +kernel) rfl)
theorem fl_72 : FlOk (3, 15, 3, 1) := .inl (tg_mem 250 (by decide +kernel) rfl)
theorem fl_73 : FlOk (5, 108, 3, 1) := .inr ⟨"WalkFrames", nw_mem 251 (by decide +kernel) rfl⟩
theorem fl_74 : FlOk (2, 67, 3, 1) := .inr ⟨"WalkFrames", nw_mem 252 (by decide +kernel) rfl⟩
theorem fl_75 : FlOk (8, 10, 8, 0) := .inl (tg_mem 258 (by decide +kernel) rfl)
theorem fl_76 : FlOk (8, 19, 8, 1) := .inl (tg_mem 259 (by decide +kernel) rfl)
theorem fl_77 : FlOk (8, 26, 8, 2) := .inl (tg_mem 260 (by decide +kernel) rfl)
theorem fl_78 : FlOk (8, 33, 8, 3) := .inl (tg_mem 261 (by decide +kernel) rfl)
theorem fl_79 : FlOk (8, 40, 8, 4) := .inl (tg_mem 262 (by decide +kernel) rfl)
def flT : List (Nat × Nat × Nat × Nat) := [(7, 9, 7, 0), (2, 9, 2, 0), (5, 72, 2, 0), (8, 216, 2, 0), (2, 15, 2, 1), (8, 219, 2, 1), (2, 18, 2, 2), (8, 228, 2, 2), (2, 21, 2, 3), (5, 91, 2, 3), (8, 222, 2, 3), (2, 24, 2, 4), (5, 94, 2, 4), (8, 225, 2, 4), (2, 27, 2, 5), (8, 231, 2, 5), (2, 30, 2, 6), (8, 234, 2, 6), (2, 33, 2, 7), (5, 79, 2, 7), (8, 243, 2, 7), (8, 55, 2, 8), (2, 42, 2, 8), (5, 88, 2, 8), (0, 9, 0, 0), (8, 119, 0, 0), (5, 142, 0, 0), (0, 15, 0, 1), (8, 123, 0, 1), (5, 145, 0, 1), (0, 19, 0, 2), (8, 255, 0, 2), (0, 22, 0, 3), (5, 12, 5, 0), (8, 84, 5, 0), (5, 21, 5, 1), (8, 51, 5, 1), (5, 28, 5, 2), (8, 110, 5, 2), (5, 32, 5, 3), (8, 240, 5, 3), (5, 62, 5, 4), (8, 65, 5, 4), (5, 36, 5, 5), (8, 201, 5, 5), (5, 40, 5, 6), (8, 204, 5, 6), (5, 43, 5, 7), (8, 207, 5, 7), (4, 12, 4, 0), (8, 48, 4, 0), (4, 18, 4, 1), (8, 150, 4, 1), (4, 22, 4, 2), (8, 147, 4, 2), (1, 11, 1, 0), (1, 18, 1, 1), (8, 158, 1, 1), (6, 11, 6, 0), (6, 25, 6, 1), (8, 171, 6, 1), (6, 15, 6, 2), (8, 182, 6, 2), (6, 19, 6, 3), (8, 185, 6, 3), (6, 22, 6, 4), (8, 188, 6, 4), (6, 36, 6, 5), (8, 180, 6, 5), (6, 29, 6, 6), (6, 32, 6, 7), (3, 9, 3, 0), (3, 15, 3, 1), (5, 108, 3, 1), (2, 67, 3, 1), (8, 10, 8, 0), (8, 19, 8, 1), (8, 26, 8, 2), (8, 33, 8, 3), (8, 40, 8, 4)]
theorem flT_ok : ∀ r ∈ flT, FlOk r := List.forall_mem_cons.mpr ⟨fl_0, List.forall_mem_cons.mpr ⟨fl_1, List.forall_mem_cons.mpr ⟨fl_2, List.forall_mem_cons.mpr ⟨fl_3, List.forall_mem_cons.mpr ⟨fl_4, List.forall_mem_cons.mpr ⟨fl_5, List.forall_mem_cons.mpr ⟨fl_6, List.forall_mem_cons.mpr ⟨fl_7, List.forall_mem_cons.mpr ⟨fl_8, List.forall_mem_cons.mpr ⟨fl_9, List.forall_mem_cons.mpr ⟨fl_10, List.forall_mem_cons.mpr ⟨fl_11, List.forall_mem_cons.mpr ⟨fl_12, List.forall_mem_cons.mpr ⟨fl_13, List.forall_mem_cons.mpr ⟨fl_14, List.forall_mem_cons.mpr ⟨fl_15, List.forall_mem_cons.mpr ⟨fl_16, List.forall_mem_cons.mpr ⟨fl_17, List.forall_mem_cons.mpr ⟨fl_18, List.forall_mem_cons.mpr ⟨fl_19, List.forall_mem_cons.mpr ⟨fl_20, List.forall_mem_cons.mpr ⟨fl_21, List.forall_mem_cons.mpr ⟨fl_22, List.forall_mem_cons.mpr ⟨fl_23, List.forall_mem_cons.mpr ⟨fl_24, List.forall_mem_cons.mpr ⟨fl_25, List.forall_mem_cons.mpr ⟨fl_26, List.forall_mem_cons.mpr ⟨fl_27, List.forall_mem_cons.mpr ⟨fl_28, List.forall_mem_cons.mpr ⟨fl_29, List.forall_mem_cons.mpr ⟨fl_30, List.forall_mem_cons.mpr ⟨fl_31, List.forall_mem_cons.mpr ⟨fl_32, List.forall_mem_cons.mpr ⟨fl_33, List.forall_mem_cons.mpr ⟨fl_34, List.forall_mem_cons.mpr ⟨fl_35, List.forall_mem_cons.mpr ⟨fl_36, List.forall_mem_cons.mpr ⟨fl_37, List.forall_mem_cons.mpr ⟨fl_38, List.forall_mem_cons.mpr ⟨fl_39, List.forall_mem_cons.mpr ⟨fl_40, List.forall_mem_cons.mpr ⟨fl_41, List.forall_mem_cons.mpr ⟨fl_42, List.forall_mem_cons.mpr ⟨fl_43, List.forall_mem_cons.mpr ⟨fl_44, List.forall_mem_cons.mpr ⟨fl_45, List.forall_mem_cons.mpr ⟨fl_46, List.forall_mem_cons.mpr ⟨fl_47, List.forall_mem_cons.mpr ⟨fl_48, List.forall_mem_cons.mpr ⟨fl_49, List.forall_mem_cons.mpr ⟨fl_50, List.forall_mem_cons.mpr ⟨fl_51, List.forall_mem_cons.mpr ⟨fl_52, List.forall_mem_cons.mpr ⟨fl_53, List.forall_mem_cons.mpr ⟨fl_54, List.forall_mem_cons.mpr ⟨fl_55, List.forall_mem_cons.mpr ⟨fl_56, List.forall_mem_cons.mpr ⟨fl_57, List.forall_mem_cons.mpr ⟨fl_58, List.forall_mem_cons.mpr ⟨fl_59, List.forall_mem_cons.mpr ⟨fl_60, List.forall_mem_cons.mpr ⟨fl_61, List.forall_mem_cons.mpr ⟨fl_62, List.forall_mem_cons.mpr ⟨fl_63, List.forall_mem_cons.mpr ⟨fl_64, List.forall_mem_cons.mpr ⟨fl_65, List.forall_mem_cons.mpr ⟨fl_66, List.forall_mem_cons.mpr ⟨fl_67, List.forall_mem_cons.mpr ⟨fl_68, List.forall_mem_cons.mpr ⟨fl_69, List.forall_mem_cons.mpr ⟨fl_70, List.forall_mem_cons.mpr ⟨fl_71, List.forall_mem_cons.mpr ⟨fl_72, List.forall_mem_cons.mpr ⟨fl_73, List.forall_mem_cons.mpr ⟨fl_74, List.forall_mem_cons.mpr ⟨fl_75, List.forall_mem_cons.mpr ⟨fl_76, List.forall_mem_cons.mpr ⟨fl_77, List.forall_mem_cons.mpr ⟨fl_78, List.forall_mem_cons.mpr ⟨fl_79, fun _ h => absurd h List.not_mem_nil⟩⟩⟩⟩⟩⟩⟩⟩⟩⟩⟩⟩⟩⟩⟩⟩⟩⟩⟩⟩⟩⟩⟩⟩⟩⟩⟩⟩⟩⟩⟩⟩⟩⟩⟩⟩⟩⟩⟩⟩⟩⟩⟩⟩⟩⟩⟩⟩⟩⟩⟩⟩⟩⟩⟩⟩⟩⟩⟩⟩⟩⟩⟩⟩⟩⟩⟩⟩⟩⟩⟩⟩⟩⟩⟩⟩⟩⟩⟩⟩
