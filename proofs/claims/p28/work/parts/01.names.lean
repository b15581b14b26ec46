-- ===== PART A: goes FIRST, ahead of the names: the tables' words, and 'selects' of the private methods out of them =====
/-- a private method of a class that the tables say can be made, by its rows of tables_1 -/
def lw_okq (q : MethodName × Nat) : Prop := (q.1.cls ≠ "java/lang/invoke/MethodHandle" ∧ q.1.cls ≠ "java/lang/invoke/VarHandle") ∧ Cond.instantiable q.1.cls q.2 ∈ tables_1 ∧ Cond.privateMethod q.1 ∈ tables_1 ∧ Cond.instanceMethod q.1 ∈ tables_1
theorem lw_p0 : lw_okq (⟨"WalkFrames$History", "dropOldest", "()V"⟩, 2) := ⟨⟨by decide +kernel, by decide +kernel⟩, List.mem_of_getElem? (i := 173) (by decide +kernel), List.mem_of_getElem? (i := 271) (by decide +kernel), List.mem_of_getElem? (i := 272) (by decide +kernel)⟩
theorem lw_p1 : lw_okq (⟨"WalkFrames$Letters", "isAt", "(III)Z"⟩, 9) := ⟨⟨by decide +kernel, by decide +kernel⟩, List.mem_of_getElem? (i := 53) (by decide +kernel), List.mem_of_getElem? (i := 355) (by decide +kernel), List.mem_of_getElem? (i := 356) (by decide +kernel)⟩
theorem lw_p2 : lw_okq (⟨"WalkFrames$Letters", "insertByCode", "(ILWalkFrames$Line;)V"⟩, 9) := ⟨⟨by decide +kernel, by decide +kernel⟩, List.mem_of_getElem? (i := 53) (by decide +kernel), List.mem_of_getElem? (i := 363) (by decide +kernel), List.mem_of_getElem? (i := 364) (by decide +kernel)⟩
theorem lw_p3 : lw_okq (⟨"WalkFrames$Letters", "hasGreaterCode", "(II)Z"⟩, 9) := ⟨⟨by decide +kernel, by decide +kernel⟩, List.mem_of_getElem? (i := 53) (by decide +kernel), List.mem_of_getElem? (i := 375) (by decide +kernel), List.mem_of_getElem? (i := 376) (by decide +kernel)⟩
theorem lw_p4 : lw_okq (⟨"WalkFrames$RangeText", "readRange", "()V"⟩, 8) := ⟨⟨by decide +kernel, by decide +kernel⟩, List.mem_of_getElem? (i := 190) (by decide +kernel), List.mem_of_getElem? (i := 424) (by decide +kernel), List.mem_of_getElem? (i := 425) (by decide +kernel)⟩
theorem lw_p5 : lw_okq (⟨"WalkFrames$RangeText", "readNumber", "()I"⟩, 8) := ⟨⟨by decide +kernel, by decide +kernel⟩, List.mem_of_getElem? (i := 190) (by decide +kernel), List.mem_of_getElem? (i := 428) (by decide +kernel), List.mem_of_getElem? (i := 429) (by decide +kernel)⟩
theorem lw_p6 : lw_okq (⟨"WalkFrames$RangeText", "readDigit", "(C)I"⟩, 8) := ⟨⟨by decide +kernel, by decide +kernel⟩, List.mem_of_getElem? (i := 190) (by decide +kernel), List.mem_of_getElem? (i := 432) (by decide +kernel), List.mem_of_getElem? (i := 433) (by decide +kernel)⟩
theorem lw_p7 : lw_okq (⟨"WalkFrames$RangeText", "isNextIn", "(CC)Z"⟩, 8) := ⟨⟨by decide +kernel, by decide +kernel⟩, List.mem_of_getElem? (i := 190) (by decide +kernel), List.mem_of_getElem? (i := 436) (by decide +kernel), List.mem_of_getElem? (i := 437) (by decide +kernel)⟩
theorem lw_p8 : lw_okq (⟨"WalkFrames$RangeText", "readSign", "(C)V"⟩, 8) := ⟨⟨by decide +kernel, by decide +kernel⟩, List.mem_of_getElem? (i := 190) (by decide +kernel), List.mem_of_getElem? (i := 440) (by decide +kernel), List.mem_of_getElem? (i := 441) (by decide +kernel)⟩
theorem lw_p9 : lw_okq (⟨"WalkFrames$Letters", "addFromBag", "(IILWalkFrames$Line;)V"⟩, 9) := ⟨⟨by decide +kernel, by decide +kernel⟩, List.mem_of_getElem? (i := 53) (by decide +kernel), List.mem_of_getElem? (i := 500) (by decide +kernel), List.mem_of_getElem? (i := 501) (by decide +kernel)⟩
theorem lw_p10 : lw_okq (⟨"WalkFrames$Office", "sort", "(I)Z"⟩, 8) := ⟨⟨by decide +kernel, by decide +kernel⟩, List.mem_of_getElem? (i := 27) (by decide +kernel), List.mem_of_getElem? (i := 529) (by decide +kernel), List.mem_of_getElem? (i := 530) (by decide +kernel)⟩
theorem lw_p11 : lw_okq (⟨"WalkFrames$Office", "frameFor", "(I)I"⟩, 8) := ⟨⟨by decide +kernel, by decide +kernel⟩, List.mem_of_getElem? (i := 27) (by decide +kernel), List.mem_of_getElem? (i := 533) (by decide +kernel), List.mem_of_getElem? (i := 534) (by decide +kernel)⟩
theorem lw_p12 : lw_okq (⟨"WalkFrames$Office", "walkWithMostFree", "()I"⟩, 8) := ⟨⟨by decide +kernel, by decide +kernel⟩, List.mem_of_getElem? (i := 27) (by decide +kernel), List.mem_of_getElem? (i := 551) (by decide +kernel), List.mem_of_getElem? (i := 552) (by decide +kernel)⟩
theorem lw_p13 : lw_okq (⟨"WalkFrames$Office", "countBelonging", "(LWalkFrames$Line;I)I"⟩, 8) := ⟨⟨by decide +kernel, by decide +kernel⟩, List.mem_of_getElem? (i := 27) (by decide +kernel), List.mem_of_getElem? (i := 655) (by decide +kernel), List.mem_of_getElem? (i := 656) (by decide +kernel)⟩
theorem lw_p14 : lw_okq (⟨"WalkFrames$Office", "putBack", "(II)V"⟩, 8) := ⟨⟨by decide +kernel, by decide +kernel⟩, List.mem_of_getElem? (i := 27) (by decide +kernel), List.mem_of_getElem? (i := 672) (by decide +kernel), List.mem_of_getElem? (i := 673) (by decide +kernel)⟩
def lw_privs_1 : List (MethodName × Nat) := [(⟨"WalkFrames$History", "dropOldest", "()V"⟩, 2), (⟨"WalkFrames$Letters", "isAt", "(III)Z"⟩, 9), (⟨"WalkFrames$Letters", "insertByCode", "(ILWalkFrames$Line;)V"⟩, 9), (⟨"WalkFrames$Letters", "hasGreaterCode", "(II)Z"⟩, 9), (⟨"WalkFrames$RangeText", "readRange", "()V"⟩, 8), (⟨"WalkFrames$RangeText", "readNumber", "()I"⟩, 8), (⟨"WalkFrames$RangeText", "readDigit", "(C)I"⟩, 8), (⟨"WalkFrames$RangeText", "isNextIn", "(CC)Z"⟩, 8), (⟨"WalkFrames$RangeText", "readSign", "(C)V"⟩, 8), (⟨"WalkFrames$Letters", "addFromBag", "(IILWalkFrames$Line;)V"⟩, 9), (⟨"WalkFrames$Office", "sort", "(I)Z"⟩, 8), (⟨"WalkFrames$Office", "frameFor", "(I)I"⟩, 8), (⟨"WalkFrames$Office", "walkWithMostFree", "()I"⟩, 8), (⟨"WalkFrames$Office", "countBelonging", "(LWalkFrames$Line;I)I"⟩, 8), (⟨"WalkFrames$Office", "putBack", "(II)V"⟩, 8)]
theorem lw_r1 : ∀ q ∈ lw_privs_1, lw_okq q := List.forall_mem_cons.mpr ⟨lw_p0, List.forall_mem_cons.mpr ⟨lw_p1, List.forall_mem_cons.mpr ⟨lw_p2, List.forall_mem_cons.mpr ⟨lw_p3, List.forall_mem_cons.mpr ⟨lw_p4, List.forall_mem_cons.mpr ⟨lw_p5, List.forall_mem_cons.mpr ⟨lw_p6, List.forall_mem_cons.mpr ⟨lw_p7, List.forall_mem_cons.mpr ⟨lw_p8, List.forall_mem_cons.mpr ⟨lw_p9, List.forall_mem_cons.mpr ⟨lw_p10, List.forall_mem_cons.mpr ⟨lw_p11, List.forall_mem_cons.mpr ⟨lw_p12, List.forall_mem_cons.mpr ⟨lw_p13, List.forall_mem_cons.mpr ⟨lw_p14, fun _ h => absurd h List.not_mem_nil⟩⟩⟩⟩⟩⟩⟩⟩⟩⟩⟩⟩⟩⟩⟩
def lw_privs : List (MethodName × Nat) := lw_privs_1
def lw_tbl : List Cond := k2_sels lw_privs ++ tables_1
theorem lw_privs_ok : ∀ q ∈ lw_privs, lw_okq q := lw_r1
def RX0 : String := "WalkFrames$Carriers"
def TX0 : u_T := fun k => match k with
  | 0 => ("WalkFrames$Carriers", "walk", "[I", true)
  | 1 => ("WalkFrames$Carriers", "out", "[Z", true)
  | 2 => ("WalkFrames$Carriers", "delivered", "[I", true)
  | _ => ("WalkFrames$Carriers", "roundsMade", "[I", true)
def tyX0 : Nat → FieldType := fun k => match k with
  | 0 => .array .int
  | 1 => .array .boolean
  | 2 => .array .int
  | _ => .array .int
abbrev wsX00 : List Cond := u_ws RX0 TX0 4
theorem nmX0 : ∀ a, a < 4 → ∀ b, b < 4 → a ≠ b → (TX0 a).2.1 ≠ (TX0 b).2.1 := by decide +kernel
theorem tyX0_ok : ∀ k, k < 4 → parseFieldDescriptor (TX0 k).2.2.1 = some (tyX0 k) := by decide +kernel
def RX1 : String := "WalkFrames$History"
def TX1 : u_T := fun k => match k with
  | 0 => ("WalkFrames$History", "moments", "[LWalkFrames$Moment;", true)
  | _ => ("WalkFrames$History", "depth", "I", false)
def tyX1 : Nat → FieldType := fun k => match k with
  | 0 => .array (.object "WalkFrames$Moment")
  | _ => .int
abbrev wsX10 : List Cond := u_ws RX1 TX1 2
theorem nmX1 : ∀ a, a < 2 → ∀ b, b < 2 → a ≠ b → (TX1 a).2.1 ≠ (TX1 b).2.1 := by decide +kernel
theorem tyX1_ok : ∀ k, k < 2 → parseFieldDescriptor (TX1 k).2.2.1 = some (tyX1 k) := by decide +kernel
def RX2 : String := "WalkFrames$Letters"
def TX2 : u_T := fun k => match k with
  | 0 => ("WalkFrames$Letters", "code", "[I", true)
  | 1 => ("WalkFrames$Letters", "category", "[I", true)
  | 2 => ("WalkFrames$Letters", "misroutes", "[I", true)
  | 3 => ("WalkFrames$Letters", "place", "[I", true)
  | 4 => ("WalkFrames$Letters", "keeper", "[I", true)
  | 5 => ("WalkFrames$Letters", "came", "[I", true)
  | 6 => ("WalkFrames$Letters", "ended", "[I", true)
  | 7 => ("WalkFrames$Letters", "framed", "[I", true)
  | _ => ("WalkFrames$Letters", "count", "I", false)
def tyX2 : Nat → FieldType := fun k => match k with
  | 0 => .array .int
  | 1 => .array .int
  | 2 => .array .int
  | 3 => .array .int
  | 4 => .array .int
  | 5 => .array .int
  | 6 => .array .int
  | 7 => .array .int
  | _ => .int
abbrev wsX20 : List Cond := u_ws RX2 TX2 9
theorem nmX2 : ∀ a, a < 9 → ∀ b, b < 9 → a ≠ b → (TX2 a).2.1 ≠ (TX2 b).2.1 := by decide +kernel
theorem tyX2_ok : ∀ k, k < 9 → parseFieldDescriptor (TX2 k).2.2.1 = some (tyX2 k) := by decide +kernel
def RX3 : String := "WalkFrames$Line"
def TX3 : u_T := fun k => match k with
  | 0 => ("WalkFrames$Line", "letters", "[I", true)
  | _ => ("WalkFrames$Line", "size", "I", false)
def tyX3 : Nat → FieldType := fun k => match k with
  | 0 => .array .int
  | _ => .int
abbrev wsX30 : List Cond := u_ws RX3 TX3 2
theorem nmX3 : ∀ a, a < 2 → ∀ b, b < 2 → a ≠ b → (TX3 a).2.1 ≠ (TX3 b).2.1 := by decide +kernel
theorem tyX3_ok : ∀ k, k < 2 → parseFieldDescriptor (TX3 k).2.2.1 = some (tyX3 k) := by decide +kernel
def RX4 : String := "WalkFrames$Moment"
def TX4 : u_T := fun k => match k with
  | 0 => ("WalkFrames$Moment", "office", "LWalkFrames$Office;", true)
  | 1 => ("WalkFrames$Moment", "slots", "[LWalkFrames$Office;", true)
  | _ => ("WalkFrames$Moment", "filled", "[Z", true)
def tyX4 : Nat → FieldType := fun k => match k with
  | 0 => .object "WalkFrames$Office"
  | 1 => .array (.object "WalkFrames$Office")
  | _ => .array .boolean
abbrev wsX40 : List Cond := u_ws RX4 TX4 3
theorem nmX4 : ∀ a, a < 3 → ∀ b, b < 3 → a ≠ b → (TX4 a).2.1 ≠ (TX4 b).2.1 := by decide +kernel
theorem tyX4_ok : ∀ k, k < 3 → parseFieldDescriptor (TX4 k).2.2.1 = some (tyX4 k) := by decide +kernel
def RX5 : String := "WalkFrames$Office"
def TX5 : u_T := fun k => match k with
  | 0 => ("WalkFrames$Office", "ranges", "LWalkFrames$Ranges;", true)
  | 1 => ("WalkFrames$Office", "letters", "LWalkFrames$Letters;", true)
  | 2 => ("WalkFrames$Office", "carriers", "LWalkFrames$Carriers;", true)
  | 3 => ("WalkFrames$Office", "holes", "[I", true)
  | 4 => ("WalkFrames$Office", "hour", "I", false)
  | 5 => ("WalkFrames$Office", "rule", "I", false)
  | 6 => ("WalkFrames$Office", "speed", "I", false)
  | _ => ("WalkFrames$Office", "load", "I", false)
def tyX5 : Nat → FieldType := fun k => match k with
  | 0 => .object "WalkFrames$Ranges"
  | 1 => .object "WalkFrames$Letters"
  | 2 => .object "WalkFrames$Carriers"
  | 3 => .array .int
  | 4 => .int
  | 5 => .int
  | 6 => .int
  | _ => .int
abbrev wsX50 : List Cond := u_ws RX5 TX5 8
theorem nmX5 : ∀ a, a < 8 → ∀ b, b < 8 → a ≠ b → (TX5 a).2.1 ≠ (TX5 b).2.1 := by decide +kernel
theorem tyX5_ok : ∀ k, k < 8 → parseFieldDescriptor (TX5 k).2.2.1 = some (tyX5 k) := by decide +kernel
def RX6 : String := "WalkFrames$RangeText"
def TX6 : u_T := fun k => match k with
  | 0 => ("WalkFrames$RangeText", "signs", "[C", true)
  | 1 => ("WalkFrames$RangeText", "length", "I", false)
  | 2 => ("WalkFrames$RangeText", "from", "[I", true)
  | 3 => ("WalkFrames$RangeText", "to", "[I", true)
  | 4 => ("WalkFrames$RangeText", "walk", "[I", true)
  | 5 => ("WalkFrames$RangeText", "ranges", "I", false)
  | 6 => ("WalkFrames$RangeText", "next", "I", false)
  | _ => ("WalkFrames$RangeText", "broken", "Z", false)
def tyX6 : Nat → FieldType := fun k => match k with
  | 0 => .array .char
  | 1 => .int
  | 2 => .array .int
  | 3 => .array .int
  | 4 => .array .int
  | 5 => .int
  | 6 => .int
  | _ => .boolean
abbrev wsX60 : List Cond := u_ws RX6 TX6 8
theorem nmX6 : ∀ a, a < 8 → ∀ b, b < 8 → a ≠ b → (TX6 a).2.1 ≠ (TX6 b).2.1 := by decide +kernel
theorem tyX6_ok : ∀ k, k < 8 → parseFieldDescriptor (TX6 k).2.2.1 = some (tyX6 k) := by decide +kernel
def RX7 : String := "WalkFrames$Ranges"
def TX7 : u_T := fun k => match k with
  | _ => ("WalkFrames$Ranges", "walk", "[I", true)
def tyX7 : Nat → FieldType := fun k => match k with
  | _ => .array .int
abbrev wsX70 : List Cond := u_ws RX7 TX7 1
theorem nmX7 : ∀ a, a < 1 → ∀ b, b < 1 → a ≠ b → (TX7 a).2.1 ≠ (TX7 b).2.1 := by decide +kernel
theorem tyX7_ok : ∀ k, k < 1 → parseFieldDescriptor (TX7 k).2.2.1 = some (tyX7 k) := by decide +kernel
def RX8 : String := "WalkFrames"
def TX8 : u_T := fun k => match k with
  | 0 => ("WalkFrames", "now", "LWalkFrames$Moment;", true)
  | 1 => ("WalkFrames", "history", "LWalkFrames$History;", true)
  | 2 => ("WalkFrames", "text", "LWalkFrames$RangeText;", true)
  | 3 => ("WalkFrames", "trial", "LWalkFrames$Office;", true)
  | _ => ("WalkFrames", "line", "LWalkFrames$Line;", true)
def tyX8 : Nat → FieldType := fun k => match k with
  | 0 => .object "WalkFrames$Moment"
  | 1 => .object "WalkFrames$History"
  | 2 => .object "WalkFrames$RangeText"
  | 3 => .object "WalkFrames$Office"
  | _ => .object "WalkFrames$Line"
abbrev wsX80 : List Cond := u_ws RX8 TX8 5
theorem nmX8 : ∀ a, a < 5 → ∀ b, b < 5 → a ≠ b → (TX8 a).2.1 ≠ (TX8 b).2.1 := by decide +kernel
theorem tyX8_ok : ∀ k, k < 5 → parseFieldDescriptor (TX8 k).2.2.1 = some (tyX8 k) := by decide +kernel
def RL : String := "WalkFramesLaw"
abbrev cX0_init : ByteArray := prog_2_method_1_code
def yX0_init : MethodName := ⟨RX0, "<init>", "()V"⟩
abbrev cX0_copyFrom : ByteArray := prog_2_method_2_code
def yX0_copyFrom : MethodName := ⟨RX0, "copyFrom", "(LWalkFrames$Carriers;)V"⟩
abbrev cX0_ofWalk : ByteArray := prog_2_method_3_code
def yX0_ofWalk : MethodName := ⟨RX0, "ofWalk", "(I)I"⟩
abbrev cX0_countOut : ByteArray := prog_2_method_4_code
def yX0_countOut : MethodName := ⟨RX0, "countOut", "()I"⟩
abbrev cX0_countRounds : ByteArray := prog_2_method_5_code
def yX0_countRounds : MethodName := ⟨RX0, "countRounds", "()I"⟩
abbrev cX0_roundsOn : ByteArray := prog_2_method_6_code
def yX0_roundsOn : MethodName := ⟨RX0, "roundsOn", "(II)I"⟩
abbrev cX0_knows : ByteArray := prog_2_method_7_code
def yX0_knows : MethodName := ⟨RX0, "knows", "(II)Z"⟩
abbrev cX0_endRound : ByteArray := prog_2_method_8_code
def yX0_endRound : MethodName := ⟨RX0, "endRound", "(II)V"⟩
abbrev cX0_bestWithoutWalk : ByteArray := prog_2_method_9_code
def yX0_bestWithoutWalk : MethodName := ⟨RX0, "bestWithoutWalk", "(I)I"⟩
abbrev cX1_init : ByteArray := prog_3_method_1_code
def yX1_init : MethodName := ⟨RX1, "<init>", "()V"⟩
abbrev cX1_remember : ByteArray := prog_3_method_2_code
def yX1_remember : MethodName := ⟨RX1, "remember", "(LWalkFrames$Moment;)V"⟩
abbrev cX1_dropOldest : ByteArray := prog_3_method_3_code
def yX1_dropOldest : MethodName := ⟨RX1, "dropOldest", "()V"⟩
abbrev cX1_giveBack : ByteArray := prog_3_method_4_code
def yX1_giveBack : MethodName := ⟨RX1, "giveBack", "(LWalkFrames$Moment;)V"⟩
abbrev cX2_init : ByteArray := prog_4_method_1_code
def yX2_init : MethodName := ⟨RX2, "<init>", "()V"⟩
abbrev cX2_copyFrom : ByteArray := prog_4_method_2_code
def yX2_copyFrom : MethodName := ⟨RX2, "copyFrom", "(LWalkFrames$Letters;)V"⟩
abbrev cX2_has : ByteArray := prog_4_method_3_code
def yX2_has : MethodName := ⟨RX2, "has", "(I)Z"⟩
abbrev cX2_add : ByteArray := prog_4_method_4_code
def yX2_add : MethodName := ⟨RX2, "add", "(III)V"⟩
abbrev cX2_moveTo : ByteArray := prog_4_method_5_code
def yX2_moveTo : MethodName := ⟨RX2, "moveTo", "(III)V"⟩
abbrev cX2_finish : ByteArray := prog_4_method_6_code
def yX2_finish : MethodName := ⟨RX2, "finish", "(III)V"⟩
abbrev cX2_misroute : ByteArray := prog_4_method_7_code
def yX2_misroute : MethodName := ⟨RX2, "misroute", "(II)V"⟩
abbrev cX2_isFirstClass : ByteArray := prog_4_method_8_code
def yX2_isFirstClass : MethodName := ⟨RX2, "isFirstClass", "(I)Z"⟩
abbrev cX2_emptyOverflow : ByteArray := prog_4_method_9_code
def yX2_emptyOverflow : MethodName := ⟨RX2, "emptyOverflow", "()V"⟩
abbrev cX2_countIn : ByteArray := prog_4_method_10_code
def yX2_countIn : MethodName := ⟨RX2, "countIn", "(I)I"⟩
abbrev cX2_countInHand : ByteArray := prog_4_method_11_code
def yX2_countInHand : MethodName := ⟨RX2, "countInHand", "(I)I"⟩
abbrev cX2_countFirstClass : ByteArray := prog_4_method_12_code
def yX2_countFirstClass : MethodName := ⟨RX2, "countFirstClass", "(I)I"⟩
abbrev cX2_countMisroutes : ByteArray := prog_4_method_13_code
def yX2_countMisroutes : MethodName := ⟨RX2, "countMisroutes", "()I"⟩
abbrev cX2_displaceSecondClass : ByteArray := prog_4_method_14_code
def yX2_displaceSecondClass : MethodName := ⟨RX2, "displaceSecondClass", "(I)Z"⟩
abbrev cX2_listBag : ByteArray := prog_4_method_15_code
def yX2_listBag : MethodName := ⟨RX2, "listBag", "(LWalkFrames$Line;)V"⟩
abbrev cX2_addFromBag : ByteArray := prog_4_method_16_code
def yX2_addFromBag : MethodName := ⟨RX2, "addFromBag", "(IILWalkFrames$Line;)V"⟩
abbrev cX2_listByCode : ByteArray := prog_4_method_17_code
def yX2_listByCode : MethodName := ⟨RX2, "listByCode", "(IILWalkFrames$Line;)V"⟩
abbrev cX2_insertByCode : ByteArray := prog_4_method_18_code
def yX2_insertByCode : MethodName := ⟨RX2, "insertByCode", "(ILWalkFrames$Line;)V"⟩
abbrev cX2_hasGreaterCode : ByteArray := prog_4_method_19_code
def yX2_hasGreaterCode : MethodName := ⟨RX2, "hasGreaterCode", "(II)Z"⟩
abbrev cX2_isAt : ByteArray := prog_4_method_20_code
def yX2_isAt : MethodName := ⟨RX2, "isAt", "(III)Z"⟩
abbrev cX3_init : ByteArray := prog_5_method_1_code
def yX3_init : MethodName := ⟨RX3, "<init>", "()V"⟩
abbrev cX3_addLast : ByteArray := prog_5_method_2_code
def yX3_addLast : MethodName := ⟨RX3, "addLast", "(I)V"⟩
abbrev cX3_swapWithPrevious : ByteArray := prog_5_method_3_code
def yX3_swapWithPrevious : MethodName := ⟨RX3, "swapWithPrevious", "(I)V"⟩
abbrev cX3_letterAt : ByteArray := prog_5_method_4_code
def yX3_letterAt : MethodName := ⟨RX3, "letterAt", "(I)I"⟩
abbrev cX4_init : ByteArray := prog_6_method_1_code
def yX4_init : MethodName := ⟨RX4, "<init>", "()V"⟩
abbrev cX4_copyFrom : ByteArray := prog_6_method_2_code
def yX4_copyFrom : MethodName := ⟨RX4, "copyFrom", "(LWalkFrames$Moment;)V"⟩
abbrev cX4_fillSlot : ByteArray := prog_6_method_3_code
def yX4_fillSlot : MethodName := ⟨RX4, "fillSlot", "(I)V"⟩
abbrev cX4_countSnapshots : ByteArray := prog_6_method_4_code
def yX4_countSnapshots : MethodName := ⟨RX4, "countSnapshots", "()I"⟩
abbrev cX5_init : ByteArray := prog_7_method_1_code
def yX5_init : MethodName := ⟨RX5, "<init>", "()V"⟩
abbrev cX5_copyFrom : ByteArray := prog_7_method_2_code
def yX5_copyFrom : MethodName := ⟨RX5, "copyFrom", "(LWalkFrames$Office;)V"⟩
abbrev cX5_number : ByteArray := prog_7_method_3_code
def yX5_number : MethodName := ⟨RX5, "number", "(I)I"⟩
abbrev cX5_changeNumber : ByteArray := prog_7_method_4_code
def yX5_changeNumber : MethodName := ⟨RX5, "changeNumber", "(II)V"⟩
abbrev cX5_walkOf : ByteArray := prog_7_method_5_code
def yX5_walkOf : MethodName := ⟨RX5, "walkOf", "(I)I"⟩
abbrev cX5_freeHoles : ByteArray := prog_7_method_6_code
def yX5_freeHoles : MethodName := ⟨RX5, "freeHoles", "(I)I"⟩
abbrev cX5_countStrayLetters : ByteArray := prog_7_method_7_code
def yX5_countStrayLetters : MethodName := ⟨RX5, "countStrayLetters", "()I"⟩
abbrev cX5_isCleared : ByteArray := prog_7_method_8_code
def yX5_isCleared : MethodName := ⟨RX5, "isCleared", "()Z"⟩
abbrev cX5_passHour : ByteArray := prog_7_method_9_code
def yX5_passHour : MethodName := ⟨RX5, "passHour", "(LWalkFrames$Line;)I"⟩
abbrev cX5_sort : ByteArray := prog_7_method_10_code
def yX5_sort : MethodName := ⟨RX5, "sort", "(I)Z"⟩
abbrev cX5_frameFor : ByteArray := prog_7_method_11_code
def yX5_frameFor : MethodName := ⟨RX5, "frameFor", "(I)I"⟩
abbrev cX5_walkWithMostFree : ByteArray := prog_7_method_12_code
def yX5_walkWithMostFree : MethodName := ⟨RX5, "walkWithMostFree", "()I"⟩
abbrev cX5_canGoOut : ByteArray := prog_7_method_13_code
def yX5_canGoOut : MethodName := ⟨RX5, "canGoOut", "(I)Z"⟩
abbrev cX5_sendOut : ByteArray := prog_7_method_14_code
def yX5_sendOut : MethodName := ⟨RX5, "sendOut", "(ILWalkFrames$Line;)I"⟩
abbrev cX5_bringBack : ByteArray := prog_7_method_15_code
def yX5_bringBack : MethodName := ⟨RX5, "bringBack", "(ILWalkFrames$Line;)I"⟩
abbrev cX5_countBelonging : ByteArray := prog_7_method_16_code
def yX5_countBelonging : MethodName := ⟨RX5, "countBelonging", "(LWalkFrames$Line;I)I"⟩
abbrev cX5_putBack : ByteArray := prog_7_method_17_code
def yX5_putBack : MethodName := ⟨RX5, "putBack", "(II)V"⟩
abbrev cX6_init : ByteArray := prog_8_method_1_code
def yX6_init : MethodName := ⟨RX6, "<init>", "()V"⟩
abbrev cX6_read : ByteArray := prog_8_method_4_code
def yX6_read : MethodName := ⟨RX6, "read", "()I"⟩
abbrev cX6_readRange : ByteArray := prog_8_method_5_code
def yX6_readRange : MethodName := ⟨RX6, "readRange", "()V"⟩
abbrev cX6_readNumber : ByteArray := prog_8_method_6_code
def yX6_readNumber : MethodName := ⟨RX6, "readNumber", "()I"⟩
abbrev cX6_readDigit : ByteArray := prog_8_method_7_code
def yX6_readDigit : MethodName := ⟨RX6, "readDigit", "(C)I"⟩
abbrev cX6_readSign : ByteArray := prog_8_method_8_code
def yX6_readSign : MethodName := ⟨RX6, "readSign", "(C)V"⟩
abbrev cX6_isNextIn : ByteArray := prog_8_method_9_code
def yX6_isNextIn : MethodName := ⟨RX6, "isNextIn", "(CC)Z"⟩
abbrev cX6_hasReversedRange : ByteArray := prog_8_method_10_code
def yX6_hasReversedRange : MethodName := ⟨RX6, "hasReversedRange", "()Z"⟩
abbrev cX7_init : ByteArray := prog_9_method_1_code
def yX7_init : MethodName := ⟨RX7, "<init>", "()V"⟩
abbrev cX7_copyFrom : ByteArray := prog_9_method_2_code
def yX7_copyFrom : MethodName := ⟨RX7, "copyFrom", "(LWalkFrames$Ranges;)V"⟩
abbrev cX7_walkOf : ByteArray := prog_9_method_3_code
def yX7_walkOf : MethodName := ⟨RX7, "walkOf", "(I)I"⟩
abbrev cX7_give : ByteArray := prog_9_method_4_code
def yX7_give : MethodName := ⟨RX7, "give", "(III)V"⟩
abbrev cX7_countStretches : ByteArray := prog_9_method_5_code
def yX7_countStretches : MethodName := ⟨RX7, "countStretches", "()I"⟩
abbrev cX7_firstCode : ByteArray := prog_9_method_6_code
def yX7_firstCode : MethodName := ⟨RX7, "firstCode", "(I)I"⟩
abbrev cX7_lastCode : ByteArray := prog_9_method_7_code
def yX7_lastCode : MethodName := ⟨RX7, "lastCode", "(I)I"⟩
abbrev cX8_init : ByteArray := prog_1_method_1_code
def yX8_init : MethodName := ⟨RX8, "<init>", "()V"⟩
abbrev cX8_post : ByteArray := prog_1_method_2_code
def yX8_post : MethodName := ⟨RX8, "post", "(III)I"⟩
abbrev cX8_hour : ByteArray := prog_1_method_3_code
def yX8_hour : MethodName := ⟨RX8, "hour", "()I"⟩
abbrev cX8_setRange : ByteArray := prog_1_method_4_code
def yX8_setRange : MethodName := ⟨RX8, "setRange", "(III)I"⟩
abbrev cX8_set : ByteArray := prog_1_method_5_code
def yX8_set : MethodName := ⟨RX8, "set", "(II)I"⟩
abbrev cX8_assign : ByteArray := prog_1_method_6_code
def yX8_assign : MethodName := ⟨RX8, "assign", "(II)I"⟩
abbrev cX8_goOut : ByteArray := prog_1_method_7_code
def yX8_goOut : MethodName := ⟨RX8, "goOut", "(I)I"⟩
abbrev cX8_comeBack : ByteArray := prog_1_method_8_code
def yX8_comeBack : MethodName := ⟨RX8, "comeBack", "(I)I"⟩
abbrev cX8_take : ByteArray := prog_1_method_9_code
def yX8_take : MethodName := ⟨RX8, "take", "(I)I"⟩
abbrev cX8_restore : ByteArray := prog_1_method_10_code
def yX8_restore : MethodName := ⟨RX8, "restore", "(I)I"⟩
abbrev cX8_undo : ByteArray := prog_1_method_11_code
def yX8_undo : MethodName := ⟨RX8, "undo", "()I"⟩
abbrev cX8_setRanges : ByteArray := prog_1_method_14_code
def yX8_setRanges : MethodName := ⟨RX8, "setRanges", "()I"⟩
abbrev cX8_count : ByteArray := prog_1_method_15_code
def yX8_count : MethodName := ⟨RX8, "count", "(I)I"⟩
abbrev cX8_letter : ByteArray := prog_1_method_16_code
def yX8_letter : MethodName := ⟨RX8, "letter", "(II)I"⟩
abbrev cX8_frame : ByteArray := prog_1_method_17_code
def yX8_frame : MethodName := ⟨RX8, "frame", "(II)I"⟩
abbrev cX8_carrier : ByteArray := prog_1_method_18_code
def yX8_carrier : MethodName := ⟨RX8, "carrier", "(II)I"⟩
abbrev cX8_rounds : ByteArray := prog_1_method_19_code
def yX8_rounds : MethodName := ⟨RX8, "rounds", "(II)I"⟩
abbrev cX8_stretch : ByteArray := prog_1_method_20_code
def yX8_stretch : MethodName := ⟨RX8, "stretch", "(II)I"⟩
abbrev cX8_inBag : ByteArray := prog_1_method_21_code
def yX8_inBag : MethodName := ⟨RX8, "inBag", "(I)I"⟩
abbrev cX8_inFrame : ByteArray := prog_1_method_22_code
def yX8_inFrame : MethodName := ⟨RX8, "inFrame", "(II)I"⟩
abbrev cX8_clearIn : ByteArray := prog_1_method_23_code
def yX8_clearIn : MethodName := ⟨RX8, "clearIn", "()I"⟩
abbrev cX8_wouldOverflow : ByteArray := prog_1_method_24_code
def yX8_wouldOverflow : MethodName := ⟨RX8, "wouldOverflow", "(I)I"⟩
abbrev cX8_bestCarrier : ByteArray := prog_1_method_25_code
def yX8_bestCarrier : MethodName := ⟨RX8, "bestCarrier", "(I)I"⟩
abbrev cX8_wouldDeliver : ByteArray := prog_1_method_26_code
def yX8_wouldDeliver : MethodName := ⟨RX8, "wouldDeliver", "(I)I"⟩
abbrev cX8_isIn : ByteArray := prog_1_method_27_code
def yX8_isIn : MethodName := ⟨RX8, "isIn", "(III)Z"⟩
abbrev cX8_isWalk : ByteArray := prog_1_method_28_code
def yX8_isWalk : MethodName := ⟨RX8, "isWalk", "(I)Z"⟩
abbrev cX8_isCarrier : ByteArray := prog_1_method_29_code
def yX8_isCarrier : MethodName := ⟨RX8, "isCarrier", "(I)Z"⟩
abbrev cX8_isSlot : ByteArray := prog_1_method_30_code
def yX8_isSlot : MethodName := ⟨RX8, "isSlot", "(I)Z"⟩
abbrev cX8_leastValue : ByteArray := prog_1_method_31_code
def yX8_leastValue : MethodName := ⟨RX8, "leastValue", "(I)I"⟩
abbrev cX8_greatestValue : ByteArray := prog_1_method_32_code
def yX8_greatestValue : MethodName := ⟨RX8, "greatestValue", "(I)I"⟩
abbrev cL_cell : ByteArray := method_2_code
def yL_cell : MethodName := ⟨RL, "cell", "([II)I"⟩
abbrev cL_low : ByteArray := method_3_code
def yL_low : MethodName := ⟨RL, "low", "(II)I"⟩
abbrev cL_rules : ByteArray := method_4_code
def yL_rules : MethodName := ⟨RL, "rules", "(LWalkFrames;)Z"⟩
abbrev cL_bag : ByteArray := method_5_code
def yL_bag : MethodName := ⟨RL, "bag", "(LWalkFrames;I)Z"⟩
abbrev cL_stretches : ByteArray := method_6_code
def yL_stretches : MethodName := ⟨RL, "stretches", "(LWalkFrames;)Z"⟩
abbrev cL_told : ByteArray := method_7_code
def yL_told : MethodName := ⟨RL, "told", "(LWalkFrames;)J"⟩
abbrev cL_hours : ByteArray := method_8_code
def yL_hours : MethodName := ⟨RL, "hours", "(LWalkFrames;)Z"⟩
abbrev cL_acts : ByteArray := method_9_code
def yL_acts : MethodName := ⟨RL, "acts", "(LWalkFrames;II)Z"⟩
abbrev vwCl : List vw_C := [(RX0, TX0, 4), (RX1, TX1, 2), (RX2, TX2, 9), (RX3, TX3, 2), (RX4, TX4, 3), (RX5, TX5, 8), (RX6, TX6, 8), (RX7, TX7, 1), (RX8, TX8, 5)]
/-- the tables' words that keep: what every contract asks -/
def Tg : List Cond := lw_tbl.filter goodWord
theorem tg_mem {w : Cond} (i : Nat) (h : lw_tbl[i]? = some w) (hg : goodWord w = true) : w ∈ Tg := List.mem_filter.mpr ⟨List.mem_of_getElem? h, hg⟩
theorem tg_sub {w : Cond} (h : w ∈ Tg) : w ∈ lw_tbl := (List.mem_filter.mp h).1
theorem tg_good : GoodIn Tg Tg := fun w h => ⟨h, good_of_word (List.mem_filter.mp h).2⟩
/-- links between mates of a nest: they keep, but not as the other words do -/
def isNest : Cond → Bool
  | .fieldLinkNest _ _ _ _ _ _ => true
  | .methodLinkNest _ _ _ _ => true
  | _ => false
def Nw : List Cond := lw_tbl.filter isNest
theorem nw_mem {w : Cond} (i : Nat) (h : lw_tbl[i]? = some w) (hg : isNest w = true) : w ∈ Nw := List.mem_filter.mpr ⟨List.mem_of_getElem? h, hg⟩
theorem nw_sub {w : Cond} (h : w ∈ Nw) : w ∈ lw_tbl := (List.mem_filter.mp h).1
theorem nw_tab {w : Cond} (h : w ∈ Nw) : w.onTables = true := by
  have h2 := (List.mem_filter.mp h).2
  unfold isNest at h2
  split at h2
  · rfl
  · rfl
  · cases h2
theorem nw_warm {s U : State} (hW : s.WarmedH U.vm) {w : Cond} (h : w ∈ Nw) (hZ : va_Nw w s) : va_Nw w U := by
  have h2 := (List.mem_filter.mp h).2
  unfold isNest at h2
  split at h2
  · exact va_Nw.warmF hW hZ
  · exact va_Nw.warmM hW hZ
  · cases h2
set_option maxRecDepth 100000 in
theorem tgX0 : ∀ w ∈ wsX00, w ∈ Tg := by decide +kernel
set_option maxRecDepth 100000 in
theorem tgX1 : ∀ w ∈ wsX10, w ∈ Tg := by decide +kernel
set_option maxRecDepth 100000 in
theorem tgX2 : ∀ w ∈ wsX20, w ∈ Tg := by decide +kernel
set_option maxRecDepth 100000 in
theorem tgX3 : ∀ w ∈ wsX30, w ∈ Tg := by decide +kernel
set_option maxRecDepth 100000 in
theorem tgX4 : ∀ w ∈ wsX40, w ∈ Tg := by decide +kernel
set_option maxRecDepth 100000 in
theorem tgX5 : ∀ w ∈ wsX50, w ∈ Tg := by decide +kernel
set_option maxRecDepth 100000 in
theorem tgX6 : ∀ w ∈ wsX60, w ∈ Tg := by decide +kernel
set_option maxRecDepth 100000 in
theorem tgX7 : ∀ w ∈ wsX70, w ∈ Tg := by decide +kernel
set_option maxRecDepth 100000 in
theorem tgX8 : ∀ w ∈ wsX80, w ∈ Tg := by decide +kernel
/-- the class of a number -/
def nmC (c : Nat) : String := match c with
  | 0 => RX0
  | 1 => RX1
  | 2 => RX2
  | 3 => RX3
  | 4 => RX4
  | 5 => RX5
  | 6 => RX6
  | 7 => RX7
  | 8 => RX8
  | _ => RL
def tbC (c : Nat) : u_T := match c with
  | 0 => TX0
  | 1 => TX1
  | 2 => TX2
  | 3 => TX3
  | 4 => TX4
  | 5 => TX5
  | 6 => TX6
  | 7 => TX7
  | _ => TX8
/-- a link of a field: by the class itself, or by a mate of its nest -/
def FlOk (r : Nat × Nat × Nat × Nat) : Prop := (Cond.fieldLink (nmC r.1) r.2.1 (nmC r.2.2.1) (tbC r.2.2.1 r.2.2.2).2.1 (tbC r.2.2.1 r.2.2.2).2.2.1 ∈ Tg) ∨ (∃ host, Cond.fieldLinkNest (nmC r.1) r.2.1 (nmC r.2.2.1) (tbC r.2.2.1 r.2.2.2).2.1 (tbC r.2.2.1 r.2.2.2).2.2.1 host ∈ Nw)
theorem fl_0 : FlOk (7, 9, 7, 0) := .inl (tg_mem 62 (by decide +kernel) rfl)
theorem fl_1 : FlOk (2, 9, 2, 0) := .inl (tg_mem 73 (by decide +kernel) rfl)
theorem fl_2 : FlOk (5, 72, 2, 0) := .inr ⟨"WalkFrames", nw_mem 74 (by decide +kernel) rfl⟩
theorem fl_3 : FlOk (8, 216, 2, 0) := .inr ⟨"WalkFrames", nw_mem 75 (by decide +kernel) rfl⟩
theorem fl_4 : FlOk (2, 15, 2, 1) := .inl (tg_mem 76 (by decide +kernel) rfl)
theorem fl_5 : FlOk (8, 219, 2, 1) := .inr ⟨"WalkFrames", nw_mem 77 (by decide +kernel) rfl⟩
theorem fl_6 : FlOk (2, 18, 2, 2) := .inl (tg_mem 78 (by decide +kernel) rfl)
theorem fl_7 : FlOk (8, 228, 2, 2) := .inr ⟨"WalkFrames", nw_mem 79 (by decide +kernel) rfl⟩
theorem fl_8 : FlOk (2, 21, 2, 3) := .inl (tg_mem 80 (by decide +kernel) rfl)
theorem fl_9 : FlOk (5, 91, 2, 3) := .inr ⟨"WalkFrames", nw_mem 81 (by decide +kernel) rfl⟩
theorem fl_10 : FlOk (8, 222, 2, 3) := .inr ⟨"WalkFrames", nw_mem 82 (by decide +kernel) rfl⟩
theorem fl_11 : FlOk (2, 24, 2, 4) := .inl (tg_mem 83 (by decide +kernel) rfl)
theorem fl_12 : FlOk (5, 94, 2, 4) := .inr ⟨"WalkFrames", nw_mem 84 (by decide +kernel) rfl⟩
theorem fl_13 : FlOk (8, 225, 2, 4) := .inr ⟨"WalkFrames", nw_mem 85 (by decide +kernel) rfl⟩
theorem fl_14 : FlOk (2, 27, 2, 5) := .inl (tg_mem 86 (by decide +kernel) rfl)
theorem fl_15 : FlOk (8, 231, 2, 5) := .inr ⟨"WalkFrames", nw_mem 87 (by decide +kernel) rfl⟩
theorem fl_16 : FlOk (2, 30, 2, 6) := .inl (tg_mem 88 (by decide +kernel) rfl)
theorem fl_17 : FlOk (8, 234, 2, 6) := .inr ⟨"WalkFrames", nw_mem 89 (by decide +kernel) rfl⟩
theorem fl_18 : FlOk (2, 33, 2, 7) := .inl (tg_mem 90 (by decide +kernel) rfl)
theorem fl_19 : FlOk (5, 79, 2, 7) := .inr ⟨"WalkFrames", nw_mem 91 (by decide +kernel) rfl⟩
theorem fl_20 : FlOk (8, 243, 2, 7) := .inr ⟨"WalkFrames", nw_mem 92 (by decide +kernel) rfl⟩
theorem fl_21 : FlOk (8, 55, 2, 8) := .inr ⟨"WalkFrames", nw_mem 93 (by decide +kernel) rfl⟩
theorem fl_22 : FlOk (2, 42, 2, 8) := .inl (tg_mem 94 (by decide +kernel) rfl)
theorem fl_23 : FlOk (5, 88, 2, 8) := .inr ⟨"WalkFrames", nw_mem 95 (by decide +kernel) rfl⟩
theorem fl_24 : FlOk (0, 9, 0, 0) := .inl (tg_mem 121 (by decide +kernel) rfl)
theorem fl_25 : FlOk (8, 119, 0, 0) := .inr ⟨"WalkFrames", nw_mem 122 (by decide +kernel) rfl⟩
theorem fl_26 : FlOk (5, 142, 0, 0) := .inr ⟨"WalkFrames", nw_mem 123 (by decide +kernel) rfl⟩
theorem fl_27 : FlOk (0, 15, 0, 1) := .inl (tg_mem 124 (by decide +kernel) rfl)
theorem fl_28 : FlOk (8, 123, 0, 1) := .inr ⟨"WalkFrames", nw_mem 125 (by decide +kernel) rfl⟩
theorem fl_29 : FlOk (5, 145, 0, 1) := .inr ⟨"WalkFrames", nw_mem 126 (by decide +kernel) rfl⟩
theorem fl_30 : FlOk (0, 19, 0, 2) := .inl (tg_mem 127 (by decide +kernel) rfl)
theorem fl_31 : FlOk (8, 255, 0, 2) := .inr ⟨"WalkFrames", nw_mem 128 (by decide +kernel) rfl⟩
theorem fl_32 : FlOk (0, 22, 0, 3) := .inl (tg_mem 129 (by decide +kernel) rfl)
theorem fl_33 : FlOk (5, 12, 5, 0) := .inl (tg_mem 140 (by decide +kernel) rfl)
theorem fl_34 : FlOk (8, 84, 5, 0) := .inr ⟨"WalkFrames", nw_mem 141 (by decide +kernel) rfl⟩
theorem fl_35 : FlOk (5, 21, 5, 1) := .inl (tg_mem 142 (by decide +kernel) rfl)
theorem fl_36 : FlOk (8, 51, 5, 1) := .inr ⟨"WalkFrames", nw_mem 143 (by decide +kernel) rfl⟩
theorem fl_37 : FlOk (5, 28, 5, 2) := .inl (tg_mem 144 (by decide +kernel) rfl)
theorem fl_38 : FlOk (8, 110, 5, 2) := .inr ⟨"WalkFrames", nw_mem 145 (by decide +kernel) rfl⟩
theorem fl_39 : FlOk (5, 32, 5, 3) := .inl (tg_mem 146 (by decide +kernel) rfl)
theorem fl_40 : FlOk (8, 240, 5, 3) := .inr ⟨"WalkFrames", nw_mem 147 (by decide +kernel) rfl⟩
theorem fl_41 : FlOk (5, 62, 5, 4) := .inl (tg_mem 148 (by decide +kernel) rfl)
theorem fl_42 : FlOk (8, 65, 5, 4) := .inr ⟨"WalkFrames", nw_mem 149 (by decide +kernel) rfl⟩
theorem fl_43 : FlOk (5, 36, 5, 5) := .inl (tg_mem 150 (by decide +kernel) rfl)
theorem fl_44 : FlOk (8, 201, 5, 5) := .inr ⟨"WalkFrames", nw_mem 151 (by decide +kernel) rfl⟩
theorem fl_45 : FlOk (5, 40, 5, 6) := .inl (tg_mem 152 (by decide +kernel) rfl)
theorem fl_46 : FlOk (8, 204, 5, 6) := .inr ⟨"WalkFrames", nw_mem 153 (by decide +kernel) rfl⟩
theorem fl_47 : FlOk (5, 43, 5, 7) := .inl (tg_mem 154 (by decide +kernel) rfl)
theorem fl_48 : FlOk (8, 207, 5, 7) := .inr ⟨"WalkFrames", nw_mem 155 (by decide +kernel) rfl⟩
theorem fl_49 : FlOk (4, 12, 4, 0) := .inl (tg_mem 174 (by decide +kernel) rfl)
theorem fl_50 : FlOk (8, 48, 4, 0) := .inr ⟨"WalkFrames", nw_mem 175 (by decide +kernel) rfl⟩
theorem fl_51 : FlOk (4, 18, 4, 1) := .inl (tg_mem 176 (by decide +kernel) rfl)
theorem fl_52 : FlOk (8, 150, 4, 1) := .inr ⟨"WalkFrames", nw_mem 177 (by decide +kernel) rfl⟩
theorem fl_53 : FlOk (4, 22, 4, 2) := .inl (tg_mem 178 (by decide +kernel) rfl)
theorem fl_54 : FlOk (8, 147, 4, 2) := .inr ⟨"WalkFrames", nw_mem 179 (by decide +kernel) rfl⟩
theorem fl_55 : FlOk (1, 11, 1, 0) := .inl (tg_mem 196 (by decide +kernel) rfl)
theorem fl_56 : FlOk (1, 18, 1, 1) := .inl (tg_mem 197 (by decide +kernel) rfl)
theorem fl_57 : FlOk (8, 158, 1, 1) := .inr ⟨"WalkFrames", nw_mem 198 (by decide +kernel) rfl⟩
theorem fl_58 : FlOk (6, 11, 6, 0) := .inl (tg_mem 210 (by decide +kernel) rfl)
theorem fl_59 : FlOk (6, 25, 6, 1) := .inl (tg_mem 211 (by decide +kernel) rfl)
theorem fl_60 : FlOk (8, 171, 6, 1) := .inr ⟨"WalkFrames", nw_mem 212 (by decide +kernel) rfl⟩
theorem fl_61 : FlOk (6, 15, 6, 2) := .inl (tg_mem 213 (by decide +kernel) rfl)
theorem fl_62 : FlOk (8, 182, 6, 2) := .inr ⟨"WalkFrames", nw_mem 214 (by decide +kernel) rfl⟩
theorem fl_63 : FlOk (6, 19, 6, 3) := .inl (tg_mem 215 (by decide +kernel) rfl)
theorem fl_64 : FlOk (8, 185, 6, 3) := .inr ⟨"WalkFrames", nw_mem 216 (by decide +kernel) rfl⟩
theorem fl_65 : FlOk (6, 22, 6, 4) := .inl (tg_mem 217 (by decide +kernel) rfl)
theorem fl_66 : FlOk (8, 188, 6, 4) := .inr ⟨"WalkFrames", nw_mem 218 (by decide +kernel) rfl⟩
theorem fl_67 : FlOk (6, 36, 6, 5) := .inl (tg_mem 219 (by decide +kernel) rfl)
theorem fl_68 : FlOk (8, 180, 6, 5) := .inr ⟨"WalkFrames", nw_mem 220 (by decide +kernel) rfl⟩
theorem fl_69 : FlOk (6, 29, 6, 6) := .inl (tg_mem 221 (by decide +kernel) rfl)
theorem fl_70 : FlOk (6, 32, 6, 7) := .inl (tg_mem 222 (by decide +kernel) rfl)
theorem fl_71 : FlOk (3, 9, 3, 0) := .inl (tg_mem 249 (by decide +kernel) rfl)
theorem fl_72 : FlOk (3, 15, 3, 1) := .inl (tg_mem 250 (by decide +kernel) rfl)
theorem fl_73 : FlOk (5, 108, 3, 1) := .inr ⟨"WalkFrames", nw_mem 251 (by decide +kernel) rfl⟩
theorem fl_74 : FlOk (2, 67, 3, 1) := .inr ⟨"WalkFrames", nw_mem 252 (by decide +kernel) rfl⟩
theorem fl_75 : FlOk (8, 10, 8, 0) := .inl (tg_mem 258 (by decide +kernel) rfl)
theorem fl_76 : FlOk (8, 19, 8, 1) := .inl (tg_mem 259 (by decide +kernel) rfl)
theorem fl_77 : FlOk (8, 26, 8, 2) := .inl (tg_mem 260 (by decide +kernel) rfl)
theorem fl_78 : FlOk (8, 33, 8, 3) := .inl (tg_mem 261 (by decide +kernel) rfl)
theorem fl_79 : FlOk (8, 40, 8, 4) := .inl (tg_mem 262 (by decide +kernel) rfl)
def flT : List (Nat × Nat × Nat × Nat) := [(7, 9, 7, 0), (2, 9, 2, 0), (5, 72, 2, 0), (8, 216, 2, 0), (2, 15, 2, 1), (8, 219, 2, 1), (2, 18, 2, 2), (8, 228, 2, 2), (2, 21, 2, 3), (5, 91, 2, 3), (8, 222, 2, 3), (2, 24, 2, 4), (5, 94, 2, 4), (8, 225, 2, 4), (2, 27, 2, 5), (8, 231, 2, 5), (2, 30, 2, 6), (8, 234, 2, 6), (2, 33, 2, 7), (5, 79, 2, 7), (8, 243, 2, 7), (8, 55, 2, 8), (2, 42, 2, 8), (5, 88, 2, 8), (0, 9, 0, 0), (8, 119, 0, 0), (5, 142, 0, 0), (0, 15, 0, 1), (8, 123, 0, 1), (5, 145, 0, 1), (0, 19, 0, 2), (8, 255, 0, 2), (0, 22, 0, 3), (5, 12, 5, 0), (8, 84, 5, 0), (5, 21, 5, 1), (8, 51, 5, 1), (5, 28, 5, 2), (8, 110, 5, 2), (5, 32, 5, 3), (8, 240, 5, 3), (5, 62, 5, 4), (8, 65, 5, 4), (5, 36, 5, 5), (8, 201, 5, 5), (5, 40, 5, 6), (8, 204, 5, 6), (5, 43, 5, 7), (8, 207, 5, 7), (4, 12, 4, 0), (8, 48, 4, 0), (4, 18, 4, 1), (8, 150, 4, 1), (4, 22, 4, 2), (8, 147, 4, 2), (1, 11, 1, 0), (1, 18, 1, 1), (8, 158, 1, 1), (6, 11, 6, 0), (6, 25, 6, 1), (8, 171, 6, 1), (6, 15, 6, 2), (8, 182, 6, 2), (6, 19, 6, 3), (8, 185, 6, 3), (6, 22, 6, 4), (8, 188, 6, 4), (6, 36, 6, 5), (8, 180, 6, 5), (6, 29, 6, 6), (6, 32, 6, 7), (3, 9, 3, 0), (3, 15, 3, 1), (5, 108, 3, 1), (2, 67, 3, 1), (8, 10, 8, 0), (8, 19, 8, 1), (8, 26, 8, 2), (8, 33, 8, 3), (8, 40, 8, 4)]
theorem flT_ok : ∀ r ∈ flT, FlOk r := List.forall_mem_cons.mpr ⟨fl_0, List.forall_mem_cons.mpr ⟨fl_1, List.forall_mem_cons.mpr ⟨fl_2, List.forall_mem_cons.mpr ⟨fl_3, List.forall_mem_cons.mpr ⟨fl_4, List.forall_mem_cons.mpr ⟨fl_5, List.forall_mem_cons.mpr ⟨fl_6, List.forall_mem_cons.mpr ⟨fl_7, List.forall_mem_cons.mpr ⟨fl_8, List.forall_mem_cons.mpr ⟨fl_9, List.forall_mem_cons.mpr ⟨fl_10, List.forall_mem_cons.mpr ⟨fl_11, List.forall_mem_cons.mpr ⟨fl_12, List.forall_mem_cons.mpr ⟨fl_13, List.forall_mem_cons.mpr ⟨fl_14, List.forall_mem_cons.mpr ⟨fl_15, List.forall_mem_cons.mpr ⟨fl_16, List.forall_mem_cons.mpr ⟨fl_17, List.forall_mem_cons.mpr ⟨fl_18, List.forall_mem_cons.mpr ⟨fl_19, List.forall_mem_cons.mpr ⟨fl_20, List.forall_mem_cons.mpr ⟨fl_21, List.forall_mem_cons.mpr ⟨fl_22, List.forall_mem_cons.mpr ⟨fl_23, List.forall_mem_cons.mpr ⟨fl_24, List.forall_mem_cons.mpr ⟨fl_25, List.forall_mem_cons.mpr ⟨fl_26, List.forall_mem_cons.mpr ⟨fl_27, List.forall_mem_cons.mpr ⟨fl_28, List.forall_mem_cons.mpr ⟨fl_29, List.forall_mem_cons.mpr ⟨fl_30, List.forall_mem_cons.mpr ⟨fl_31, List.forall_mem_cons.mpr ⟨fl_32, List.forall_mem_cons.mpr ⟨fl_33, List.forall_mem_cons.mpr ⟨fl_34, List.forall_mem_cons.mpr ⟨fl_35, List.forall_mem_cons.mpr ⟨fl_36, List.forall_mem_cons.mpr ⟨fl_37, List.forall_mem_cons.mpr ⟨fl_38, List.forall_mem_cons.mpr ⟨fl_39, List.forall_mem_cons.mpr ⟨fl_40, List.forall_mem_cons.mpr ⟨fl_41, List.forall_mem_cons.mpr ⟨fl_42, List.forall_mem_cons.mpr ⟨fl_43, List.forall_mem_cons.mpr ⟨fl_44, List.forall_mem_cons.mpr ⟨fl_45, List.forall_mem_cons.mpr ⟨fl_46, List.forall_mem_cons.mpr ⟨fl_47, List.forall_mem_cons.mpr ⟨fl_48, List.forall_mem_cons.mpr ⟨fl_49, List.forall_mem_cons.mpr ⟨fl_50, List.forall_mem_cons.mpr ⟨fl_51, List.forall_mem_cons.mpr ⟨fl_52, List.forall_mem_cons.mpr ⟨fl_53, List.forall_mem_cons.mpr ⟨fl_54, List.forall_mem_cons.mpr ⟨fl_55, List.forall_mem_cons.mpr ⟨fl_56, List.forall_mem_cons.mpr ⟨fl_57, List.forall_mem_cons.mpr ⟨fl_58, List.forall_mem_cons.mpr ⟨fl_59, List.forall_mem_cons.mpr ⟨fl_60, List.forall_mem_cons.mpr ⟨fl_61, List.forall_mem_cons.mpr ⟨fl_62, List.forall_mem_cons.mpr ⟨fl_63, List.forall_mem_cons.mpr ⟨fl_64, List.forall_mem_cons.mpr ⟨fl_65, List.forall_mem_cons.mpr ⟨fl_66, List.forall_mem_cons.mpr ⟨fl_67, List.forall_mem_cons.mpr ⟨fl_68, List.forall_mem_cons.mpr ⟨fl_69, List.forall_mem_cons.mpr ⟨fl_70, List.forall_mem_cons.mpr ⟨fl_71, List.forall_mem_cons.mpr ⟨fl_72, List.forall_mem_cons.mpr ⟨fl_73, List.forall_mem_cons.mpr ⟨fl_74, List.forall_mem_cons.mpr ⟨fl_75, List.forall_mem_cons.mpr ⟨fl_76, List.forall_mem_cons.mpr ⟨fl_77, List.forall_mem_cons.mpr ⟨fl_78, List.forall_mem_cons.mpr ⟨fl_79, fun _ h => absurd h List.not_mem_nil⟩⟩⟩⟩⟩⟩⟩⟩⟩⟩⟩⟩⟩⟩⟩⟩⟩⟩⟩⟩⟩⟩⟩⟩⟩⟩⟩⟩⟩⟩⟩⟩⟩⟩⟩⟩⟩⟩⟩⟩⟩⟩⟩⟩⟩⟩⟩⟩⟩⟩⟩⟩⟩⟩⟩⟩⟩⟩⟩⟩⟩⟩⟩⟩⟩⟩⟩⟩⟩⟩⟩⟩⟩⟩⟩⟩⟩⟩⟩⟩
/-- the methods by their numbers: name, bytes, locals, answer -/
def mN (j : Nat) : MethodName × ByteArray × Nat × Option FieldType := bif Nat.blt j 55 then (bif Nat.blt j 27 then (bif Nat.blt j 13 then (bif Nat.blt j 6 then (bif Nat.blt j 3 then (bif Nat.blt j 1 then ((yX0_init, cX0_init, 2, none)) else (bif Nat.blt j 2 then ((yX0_copyFrom, cX0_copyFrom, 2, none)) else ((yX0_ofWalk, cX0_ofWalk, 3, (some .int))))) else (bif Nat.blt j 4 then ((yX0_countOut, cX0_countOut, 3, (some .int))) else (bif Nat.blt j 5 then ((yX0_countRounds, cX0_countRounds, 3, (some .int))) else ((yX0_roundsOn, cX0_roundsOn, 3, (some .int)))))) else (bif Nat.blt j 9 then (bif Nat.blt j 7 then ((yX0_knows, cX0_knows, 3, (some .boolean))) else (bif Nat.blt j 8 then ((yX0_endRound, cX0_endRound, 3, none)) else ((yX0_bestWithoutWalk, cX0_bestWithoutWalk, 4, (some .int))))) else (bif Nat.blt j 11 then (bif Nat.blt j 10 then ((yX1_init, cX1_init, 2, none)) else ((yX1_remember, cX1_remember, 2, none))) else (bif Nat.blt j 12 then ((yX1_dropOldest, cX1_dropOldest, 3, none)) else ((yX1_giveBack, cX1_giveBack, 2, none)))))) else (bif Nat.blt j 20 then (bif Nat.blt j 16 then (bif Nat.blt j 14 then ((yX2_init, cX2_init, 1, none)) else (bif Nat.blt j 15 then ((yX2_copyFrom, cX2_copyFrom, 2, none)) else ((yX2_has, cX2_has, 2, (some .boolean))))) else (bif Nat.blt j 18 then (bif Nat.blt j 17 then ((yX2_add, cX2_add, 4, none)) else ((yX2_moveTo, cX2_moveTo, 4, none))) else (bif Nat.blt j 19 then ((yX2_finish, cX2_finish, 4, none)) else ((yX2_misroute, cX2_misroute, 3, none))))) else (bif Nat.blt j 23 then (bif Nat.blt j 21 then ((yX2_isFirstClass, cX2_isFirstClass, 2, (some .boolean))) else (bif Nat.blt j 22 then ((yX2_emptyOverflow, cX2_emptyOverflow, 2, none)) else ((yX2_countIn, cX2_countIn, 4, (some .int))))) else (bif Nat.blt j 25 then (bif Nat.blt j 24 then ((yX2_countInHand, cX2_countInHand, 4, (some .int))) else ((yX2_countFirstClass, cX2_countFirstClass, 4, (some .int)))) else (bif Nat.blt j 26 then ((yX2_countMisroutes, cX2_countMisroutes, 3, (some .int))) else ((yX2_displaceSecondClass, cX2_displaceSecondClass, 3, (some .boolean)))))))) else (bif Nat.blt j 41 then (bif Nat.blt j 34 then (bif Nat.blt j 30 then (bif Nat.blt j 28 then ((yX2_listBag, cX2_listBag, 4, none)) else (bif Nat.blt j 29 then ((yX2_addFromBag, cX2_addFromBag, 5, none)) else ((yX2_listByCode, cX2_listByCode, 5, none)))) else (bif Nat.blt j 32 then (bif Nat.blt j 31 then ((yX2_insertByCode, cX2_insertByCode, 4, none)) else ((yX2_hasGreaterCode, cX2_hasGreaterCode, 3, (some .boolean)))) else (bif Nat.blt j 33 then ((yX2_isAt, cX2_isAt, 4, (some .boolean))) else ((yX3_init, cX3_init, 1, none))))) else (bif Nat.blt j 37 then (bif Nat.blt j 35 then ((yX3_addLast, cX3_addLast, 2, none)) else (bif Nat.blt j 36 then ((yX3_swapWithPrevious, cX3_swapWithPrevious, 3, none)) else ((yX3_letterAt, cX3_letterAt, 2, (some .int))))) else (bif Nat.blt j 39 then (bif Nat.blt j 38 then ((yX4_init, cX4_init, 2, none)) else ((yX4_copyFrom, cX4_copyFrom, 3, none))) else (bif Nat.blt j 40 then ((yX4_fillSlot, cX4_fillSlot, 2, none)) else ((yX4_countSnapshots, cX4_countSnapshots, 3, (some .int))))))) else (bif Nat.blt j 48 then (bif Nat.blt j 44 then (bif Nat.blt j 42 then ((yX5_init, cX5_init, 2, none)) else (bif Nat.blt j 43 then ((yX5_copyFrom, cX5_copyFrom, 2, none)) else ((yX5_number, cX5_number, 2, (some .int))))) else (bif Nat.blt j 46 then (bif Nat.blt j 45 then ((yX5_changeNumber, cX5_changeNumber, 3, none)) else ((yX5_walkOf, cX5_walkOf, 2, (some .int)))) else (bif Nat.blt j 47 then ((yX5_freeHoles, cX5_freeHoles, 2, (some .int))) else ((yX5_countStrayLetters, cX5_countStrayLetters, 3, (some .int)))))) else (bif Nat.blt j 51 then (bif Nat.blt j 49 then ((yX5_isCleared, cX5_isCleared, 1, (some .boolean))) else (bif Nat.blt j 50 then ((yX5_passHour, cX5_passHour, 5, (some .int))) else ((yX5_sort, cX5_sort, 3, (some .boolean))))) else (bif Nat.blt j 53 then (bif Nat.blt j 52 then ((yX5_frameFor, cX5_frameFor, 3, (some .int))) else ((yX5_walkWithMostFree, cX5_walkWithMostFree, 4, (some .int)))) else (bif Nat.blt j 54 then ((yX5_canGoOut, cX5_canGoOut, 3, (some .boolean))) else ((yX5_sendOut, cX5_sendOut, 5, (some .int))))))))) else (bif Nat.blt j 83 then (bif Nat.blt j 69 then (bif Nat.blt j 62 then (bif Nat.blt j 58 then (bif Nat.blt j 56 then ((yX5_bringBack, cX5_bringBack, 8, (some .int))) else (bif Nat.blt j 57 then ((yX5_countBelonging, cX5_countBelonging, 5, (some .int))) else ((yX5_putBack, cX5_putBack, 3, none)))) else (bif Nat.blt j 60 then (bif Nat.blt j 59 then ((yX6_init, cX6_init, 1, none)) else ((yX6_read, cX6_read, 2, (some .int)))) else (bif Nat.blt j 61 then ((yX6_readRange, cX6_readRange, 4, none)) else ((yX6_readNumber, cX6_readNumber, 2, (some .int)))))) else (bif Nat.blt j 65 then (bif Nat.blt j 63 then ((yX6_readDigit, cX6_readDigit, 3, (some .int))) else (bif Nat.blt j 64 then ((yX6_readSign, cX6_readSign, 2, none)) else ((yX6_isNextIn, cX6_isNextIn, 3, (some .boolean))))) else (bif Nat.blt j 67 then (bif Nat.blt j 66 then ((yX6_hasReversedRange, cX6_hasReversedRange, 2, (some .boolean))) else ((yX7_init, cX7_init, 2, none))) else (bif Nat.blt j 68 then ((yX7_copyFrom, cX7_copyFrom, 2, none)) else ((yX7_walkOf, cX7_walkOf, 2, (some .int))))))) else (bif Nat.blt j 76 then (bif Nat.blt j 72 then (bif Nat.blt j 70 then ((yX7_give, cX7_give, 5, none)) else (bif Nat.blt j 71 then ((yX7_countStretches, cX7_countStretches, 3, (some .int))) else ((yX7_firstCode, cX7_firstCode, 3, (some .int))))) else (bif Nat.blt j 74 then (bif Nat.blt j 73 then ((yX7_lastCode, cX7_lastCode, 3, (some .int))) else ((yX8_init, cX8_init, 1, none))) else (bif Nat.blt j 75 then ((yX8_post, cX8_post, 6, (some .int))) else ((yX8_hour, cX8_hour, 1, (some .int)))))) else (bif Nat.blt j 79 then (bif Nat.blt j 77 then ((yX8_setRange, cX8_setRange, 4, (some .int))) else (bif Nat.blt j 78 then ((yX8_set, cX8_set, 4, (some .int))) else ((yX8_assign, cX8_assign, 5, (some .int))))) else (bif Nat.blt j 81 then (bif Nat.blt j 80 then ((yX8_goOut, cX8_goOut, 2, (some .int))) else ((yX8_comeBack, cX8_comeBack, 2, (some .int)))) else (bif Nat.blt j 82 then ((yX8_take, cX8_take, 2, (some .int))) else ((yX8_restore, cX8_restore, 2, (some .int)))))))) else (bif Nat.blt j 97 then (bif Nat.blt j 90 then (bif Nat.blt j 86 then (bif Nat.blt j 84 then ((yX8_undo, cX8_undo, 1, (some .int))) else (bif Nat.blt j 85 then ((yX8_setRanges, cX8_setRanges, 3, (some .int))) else ((yX8_count, cX8_count, 2, (some .int))))) else (bif Nat.blt j 88 then (bif Nat.blt j 87 then ((yX8_letter, cX8_letter, 4, (some .int))) else ((yX8_frame, cX8_frame, 3, (some .int)))) else (bif Nat.blt j 89 then ((yX8_carrier, cX8_carrier, 4, (some .int))) else ((yX8_rounds, cX8_rounds, 3, (some .int)))))) else (bif Nat.blt j 93 then (bif Nat.blt j 91 then ((yX8_stretch, cX8_stretch, 3, (some .int))) else (bif Nat.blt j 92 then ((yX8_inBag, cX8_inBag, 2, (some .int))) else ((yX8_inFrame, cX8_inFrame, 3, (some .int))))) else (bif Nat.blt j 95 then (bif Nat.blt j 94 then ((yX8_clearIn, cX8_clearIn, 2, (some .int))) else ((yX8_wouldOverflow, cX8_wouldOverflow, 2, (some .int)))) else (bif Nat.blt j 96 then ((yX8_bestCarrier, cX8_bestCarrier, 2, (some .int))) else ((yX8_wouldDeliver, cX8_wouldDeliver, 3, (some .int))))))) else (bif Nat.blt j 104 then (bif Nat.blt j 100 then (bif Nat.blt j 98 then ((yX8_isIn, cX8_isIn, 3, (some .boolean))) else (bif Nat.blt j 99 then ((yX8_isWalk, cX8_isWalk, 1, (some .boolean))) else ((yX8_isCarrier, cX8_isCarrier, 1, (some .boolean))))) else (bif Nat.blt j 102 then (bif Nat.blt j 101 then ((yX8_isSlot, cX8_isSlot, 1, (some .boolean))) else ((yX8_leastValue, cX8_leastValue, 1, (some .int)))) else (bif Nat.blt j 103 then ((yX8_greatestValue, cX8_greatestValue, 1, (some .int))) else ((yL_cell, cL_cell, 2, (some .int)))))) else (bif Nat.blt j 107 then (bif Nat.blt j 105 then ((yL_low, cL_low, 2, (some .int))) else (bif Nat.blt j 106 then ((yL_rules, cL_rules, 13, (some .boolean))) else ((yL_bag, cL_bag, 8, (some .boolean))))) else (bif Nat.blt j 109 then (bif Nat.blt j 108 then ((yL_stretches, cL_stretches, 3, (some .boolean))) else ((yL_told, cL_told, 5, (some .long)))) else (bif Nat.blt j 110 then ((yL_hours, cL_hours, 8, (some .boolean))) else ((yL_acts, cL_acts, 11, (some .boolean)))))))))
/-- what a call's link says: (kind, own class, place, method, arguments); kinds: 44 virtual, 45 special, 46 static -/
def ClOk (r : Nat × Nat × Nat × Nat × Nat) : Prop := ((Cond.methodLink (nmC r.2.1) r.2.2.1 (mN r.2.2.2.1).1 ∈ Tg) ∨ (∃ host, Cond.methodLinkNest (nmC r.2.1) r.2.2.1 (mN r.2.2.2.1).1 host ∈ Nw)) ∧ (Cond.code (mN r.2.2.2.1).1 (mN r.2.2.2.1).2.1 (mN r.2.2.2.1).2.2.1 (mN r.2.2.2.1).2.2.2 ∈ Tg) ∧ (Cond.initialized (mN r.2.2.2.1).1.cls ∈ Tg) ∧ ((mN r.2.2.2.1).1.cls ≠ "java/lang/invoke/MethodHandle" ∧ (mN r.2.2.2.1).1.cls ≠ "java/lang/invoke/VarHandle" ∧ (parseMethodDescriptor (mN r.2.2.2.1).1.desc).map (fun d => d.parameters.length) = some r.2.2.2.2) ∧ (r.1 = 46 → Cond.static (mN r.2.2.2.1).1 ∈ Tg) ∧ (r.1 ≠ 46 → Cond.instanceMethod (mN r.2.2.2.1).1 ∈ Tg) ∧ (r.1 = 44 → Cond.selects (mN r.2.2.2.1).1.cls (mN r.2.2.2.1).1 (mN r.2.2.2.1).1 ∈ Tg) ∧ (r.1 = 45 → (mN r.2.2.2.1).1.name = "<init>")
theorem cl_0 : ClOk (46, 0, 31, 99, 1) := ⟨.inr ⟨"WalkFrames", nw_mem 581 (by decide +kernel) rfl⟩, tg_mem 356 (by decide +kernel) rfl, tg_mem 16 (by decide +kernel) rfl, by decide +kernel, fun _ => tg_mem 355 (by decide +kernel) rfl, fun h => absurd rfl h, fun h => absurd h (by decide), fun h => absurd h (by decide)⟩
theorem cl_1 : ClOk (46, 0, 35, 98, 1) := ⟨.inr ⟨"WalkFrames", nw_mem 582 (by decide +kernel) rfl⟩, tg_mem 325 (by decide +kernel) rfl, tg_mem 16 (by decide +kernel) rfl, by decide +kernel, fun _ => tg_mem 324 (by decide +kernel) rfl, fun h => absurd rfl h, fun h => absurd h (by decide), fun h => absurd h (by decide)⟩
theorem cl_2 : ClOk (44, 0, 38, 5, 2) := ⟨.inl (tg_mem 577 (by decide +kernel) rfl), tg_mem 580 (by decide +kernel) rfl, tg_mem 22 (by decide +kernel) rfl, by decide +kernel, fun h => absurd h (by decide), fun _ => tg_mem 578 (by decide +kernel) rfl, fun _ => tg_mem 579 (by decide +kernel) rfl, fun h => absurd h (by decide)⟩
theorem cl_3 : ClOk (45, 1, 17, 37, 0) := ⟨.inl (tg_mem 195 (by decide +kernel) rfl), tg_mem 39 (by decide +kernel) rfl, tg_mem 17 (by decide +kernel) rfl, by decide +kernel, fun h => absurd h (by decide), fun _ => tg_mem 38 (by decide +kernel) rfl, fun h => absurd h (by decide), fun _ => rfl⟩
theorem cl_4 : ClOk (44, 1, 22, 11, 0) := ⟨.inl (tg_mem 285 (by decide +kernel) rfl), tg_mem 288 (by decide +kernel) rfl, tg_mem 23 (by decide +kernel) rfl, by decide +kernel, fun h => absurd h (by decide), fun _ => tg_mem 287 (by decide +kernel) rfl, fun _ => tg_mem 0 (by decide +kernel) rfl, fun h => absurd h (by decide)⟩
theorem cl_5 : ClOk (44, 1, 25, 38, 1) := ⟨.inl (tg_mem 289 (by decide +kernel) rfl), tg_mem 292 (by decide +kernel) rfl, tg_mem 17 (by decide +kernel) rfl, by decide +kernel, fun h => absurd h (by decide), fun _ => tg_mem 290 (by decide +kernel) rfl, fun _ => tg_mem 291 (by decide +kernel) rfl, fun h => absurd h (by decide)⟩
theorem cl_6 : ClOk (44, 2, 46, 15, 1) := ⟨.inl (tg_mem 373 (by decide +kernel) rfl), tg_mem 376 (by decide +kernel) rfl, tg_mem 21 (by decide +kernel) rfl, by decide +kernel, fun h => absurd h (by decide), fun _ => tg_mem 374 (by decide +kernel) rfl, fun _ => tg_mem 375 (by decide +kernel) rfl, fun h => absurd h (by decide)⟩
theorem cl_7 : ClOk (46, 2, 50, 98, 1) := ⟨.inr ⟨"WalkFrames", nw_mem 405 (by decide +kernel) rfl⟩, tg_mem 325 (by decide +kernel) rfl, tg_mem 16 (by decide +kernel) rfl, by decide +kernel, fun _ => tg_mem 324 (by decide +kernel) rfl, fun h => absurd rfl h, fun h => absurd h (by decide), fun h => absurd h (by decide)⟩
theorem cl_8 : ClOk (44, 2, 53, 17, 3) := ⟨.inl (tg_mem 541 (by decide +kernel) rfl), tg_mem 404 (by decide +kernel) rfl, tg_mem 21 (by decide +kernel) rfl, by decide +kernel, fun h => absurd h (by decide), fun _ => tg_mem 402 (by decide +kernel) rfl, fun _ => tg_mem 403 (by decide +kernel) rfl, fun h => absurd h (by decide)⟩
theorem cl_9 : ClOk (44, 2, 57, 18, 3) := ⟨.inl (tg_mem 681 (by decide +kernel) rfl), tg_mem 684 (by decide +kernel) rfl, tg_mem 21 (by decide +kernel) rfl, by decide +kernel, fun h => absurd h (by decide), fun _ => tg_mem 682 (by decide +kernel) rfl, fun _ => tg_mem 683 (by decide +kernel) rfl, fun h => absurd h (by decide)⟩
theorem cl_10 : ClOk (44, 2, 60, 32, 3) := ⟨.inl (tg_mem 369 (by decide +kernel) rfl), tg_mem 372 (by decide +kernel) rfl, tg_mem 21 (by decide +kernel) rfl, by decide +kernel, fun h => absurd h (by decide), fun _ => tg_mem 371 (by decide +kernel) rfl, fun _ => tg_mem 1 (by decide +kernel) rfl, fun h => absurd h (by decide)⟩
theorem cl_11 : ClOk (44, 2, 64, 20, 1) := ⟨.inl (tg_mem 564 (by decide +kernel) rfl), tg_mem 559 (by decide +kernel) rfl, tg_mem 21 (by decide +kernel) rfl, by decide +kernel, fun h => absurd h (by decide), fun _ => tg_mem 557 (by decide +kernel) rfl, fun _ => tg_mem 558 (by decide +kernel) rfl, fun h => absurd h (by decide)⟩
theorem cl_12 : ClOk (44, 2, 72, 28, 3) := ⟨.inl (tg_mem 514 (by decide +kernel) rfl), tg_mem 517 (by decide +kernel) rfl, tg_mem 21 (by decide +kernel) rfl, by decide +kernel, fun h => absurd h (by decide), fun _ => tg_mem 516 (by decide +kernel) rfl, fun _ => tg_mem 9 (by decide +kernel) rfl, fun h => absurd h (by decide)⟩
theorem cl_13 : ClOk (44, 2, 76, 34, 1) := ⟨.inl (tg_mem 381 (by decide +kernel) rfl), tg_mem 384 (by decide +kernel) rfl, tg_mem 25 (by decide +kernel) rfl, by decide +kernel, fun h => absurd h (by decide), fun _ => tg_mem 382 (by decide +kernel) rfl, fun _ => tg_mem 383 (by decide +kernel) rfl, fun h => absurd h (by decide)⟩
theorem cl_14 : ClOk (44, 2, 80, 30, 2) := ⟨.inl (tg_mem 377 (by decide +kernel) rfl), tg_mem 380 (by decide +kernel) rfl, tg_mem 21 (by decide +kernel) rfl, by decide +kernel, fun h => absurd h (by decide), fun _ => tg_mem 379 (by decide +kernel) rfl, fun _ => tg_mem 2 (by decide +kernel) rfl, fun h => absurd h (by decide)⟩
theorem cl_15 : ClOk (44, 2, 84, 36, 1) := ⟨.inl (tg_mem 385 (by decide +kernel) rfl), tg_mem 388 (by decide +kernel) rfl, tg_mem 25 (by decide +kernel) rfl, by decide +kernel, fun h => absurd h (by decide), fun _ => tg_mem 386 (by decide +kernel) rfl, fun _ => tg_mem 387 (by decide +kernel) rfl, fun h => absurd h (by decide)⟩
theorem cl_16 : ClOk (44, 2, 88, 31, 2) := ⟨.inl (tg_mem 389 (by decide +kernel) rfl), tg_mem 392 (by decide +kernel) rfl, tg_mem 21 (by decide +kernel) rfl, by decide +kernel, fun h => absurd h (by decide), fun _ => tg_mem 391 (by decide +kernel) rfl, fun _ => tg_mem 3 (by decide +kernel) rfl, fun h => absurd h (by decide)⟩
theorem cl_17 : ClOk (44, 2, 92, 35, 1) := ⟨.inl (tg_mem 393 (by decide +kernel) rfl), tg_mem 396 (by decide +kernel) rfl, tg_mem 25 (by decide +kernel) rfl, by decide +kernel, fun h => absurd h (by decide), fun _ => tg_mem 394 (by decide +kernel) rfl, fun _ => tg_mem 395 (by decide +kernel) rfl, fun h => absurd h (by decide)⟩
theorem cl_18 : ClOk (45, 4, 11, 41, 0) := ⟨.inl (tg_mem 43 (by decide +kernel) rfl), tg_mem 45 (by decide +kernel) rfl, tg_mem 18 (by decide +kernel) rfl, by decide +kernel, fun h => absurd h (by decide), fun _ => tg_mem 44 (by decide +kernel) rfl, fun h => absurd h (by decide), fun _ => rfl⟩
theorem cl_19 : ClOk (44, 4, 26, 42, 1) := ⟨.inl (tg_mem 293 (by decide +kernel) rfl), tg_mem 296 (by decide +kernel) rfl, tg_mem 18 (by decide +kernel) rfl, by decide +kernel, fun h => absurd h (by decide), fun _ => tg_mem 294 (by decide +kernel) rfl, fun _ => tg_mem 295 (by decide +kernel) rfl, fun h => absurd h (by decide)⟩
theorem cl_20 : ClOk (45, 5, 11, 66, 0) := ⟨.inl (tg_mem 49 (by decide +kernel) rfl), tg_mem 51 (by decide +kernel) rfl, tg_mem 19 (by decide +kernel) rfl, by decide +kernel, fun h => absurd h (by decide), fun _ => tg_mem 50 (by decide +kernel) rfl, fun h => absurd h (by decide), fun _ => rfl⟩
theorem cl_21 : ClOk (45, 5, 20, 13, 0) := ⟨.inr ⟨"WalkFrames", nw_mem 69 (by decide +kernel) rfl⟩, tg_mem 71 (by decide +kernel) rfl, tg_mem 21 (by decide +kernel) rfl, by decide +kernel, fun h => absurd h (by decide), fun _ => tg_mem 70 (by decide +kernel) rfl, fun h => absurd h (by decide), fun _ => rfl⟩
theorem cl_22 : ClOk (45, 5, 27, 0, 0) := ⟨.inl (tg_mem 117 (by decide +kernel) rfl), tg_mem 119 (by decide +kernel) rfl, tg_mem 22 (by decide +kernel) rfl, by decide +kernel, fun h => absurd h (by decide), fun _ => tg_mem 118 (by decide +kernel) rfl, fun h => absurd h (by decide), fun _ => rfl⟩
theorem cl_23 : ClOk (44, 5, 46, 67, 1) := ⟨.inl (tg_mem 297 (by decide +kernel) rfl), tg_mem 300 (by decide +kernel) rfl, tg_mem 19 (by decide +kernel) rfl, by decide +kernel, fun h => absurd h (by decide), fun _ => tg_mem 298 (by decide +kernel) rfl, fun _ => tg_mem 299 (by decide +kernel) rfl, fun h => absurd h (by decide)⟩
theorem cl_24 : ClOk (44, 5, 50, 14, 1) := ⟨.inl (tg_mem 304 (by decide +kernel) rfl), tg_mem 307 (by decide +kernel) rfl, tg_mem 21 (by decide +kernel) rfl, by decide +kernel, fun h => absurd h (by decide), fun _ => tg_mem 305 (by decide +kernel) rfl, fun _ => tg_mem 306 (by decide +kernel) rfl, fun h => absurd h (by decide)⟩
theorem cl_25 : ClOk (44, 5, 53, 1, 1) := ⟨.inl (tg_mem 309 (by decide +kernel) rfl), tg_mem 312 (by decide +kernel) rfl, tg_mem 22 (by decide +kernel) rfl, by decide +kernel, fun h => absurd h (by decide), fun _ => tg_mem 310 (by decide +kernel) rfl, fun _ => tg_mem 311 (by decide +kernel) rfl, fun h => absurd h (by decide)⟩
theorem cl_26 : ClOk (46, 5, 65, 98, 1) := ⟨.inr ⟨"WalkFrames", nw_mem 345 (by decide +kernel) rfl⟩, tg_mem 325 (by decide +kernel) rfl, tg_mem 16 (by decide +kernel) rfl, by decide +kernel, fun _ => tg_mem 324 (by decide +kernel) rfl, fun h => absurd rfl h, fun h => absurd h (by decide), fun h => absurd h (by decide)⟩
theorem cl_27 : ClOk (44, 5, 69, 15, 1) := ⟨.inl (tg_mem 482 (by decide +kernel) rfl), tg_mem 376 (by decide +kernel) rfl, tg_mem 21 (by decide +kernel) rfl, by decide +kernel, fun h => absurd h (by decide), fun _ => tg_mem 374 (by decide +kernel) rfl, fun _ => tg_mem 375 (by decide +kernel) rfl, fun h => absurd h (by decide)⟩
theorem cl_28 : ClOk (44, 5, 75, 68, 1) := ⟨.inl (tg_mem 483 (by decide +kernel) rfl), tg_mem 486 (by decide +kernel) rfl, tg_mem 19 (by decide +kernel) rfl, by decide +kernel, fun h => absurd h (by decide), fun _ => tg_mem 484 (by decide +kernel) rfl, fun _ => tg_mem 485 (by decide +kernel) rfl, fun h => absurd h (by decide)⟩
theorem cl_29 : ClOk (44, 5, 97, 45, 1) := ⟨.inl (tg_mem 478 (by decide +kernel) rfl), tg_mem 481 (by decide +kernel) rfl, tg_mem 18 (by decide +kernel) rfl, by decide +kernel, fun h => absurd h (by decide), fun _ => tg_mem 479 (by decide +kernel) rfl, fun _ => tg_mem 480 (by decide +kernel) rfl, fun h => absurd h (by decide)⟩
theorem cl_30 : ClOk (44, 5, 98, 22, 1) := ⟨.inl (tg_mem 532 (by decide +kernel) rfl), tg_mem 469 (by decide +kernel) rfl, tg_mem 21 (by decide +kernel) rfl, by decide +kernel, fun h => absurd h (by decide), fun _ => tg_mem 467 (by decide +kernel) rfl, fun _ => tg_mem 468 (by decide +kernel) rfl, fun h => absurd h (by decide)⟩
theorem cl_31 : ClOk (44, 5, 101, 21, 0) := ⟨.inl (tg_mem 537 (by decide +kernel) rfl), tg_mem 540 (by decide +kernel) rfl, tg_mem 21 (by decide +kernel) rfl, by decide +kernel, fun h => absurd h (by decide), fun _ => tg_mem 538 (by decide +kernel) rfl, fun _ => tg_mem 539 (by decide +kernel) rfl, fun h => absurd h (by decide)⟩
theorem cl_32 : ClOk (44, 5, 104, 27, 1) := ⟨.inl (tg_mem 542 (by decide +kernel) rfl), tg_mem 513 (by decide +kernel) rfl, tg_mem 21 (by decide +kernel) rfl, by decide +kernel, fun h => absurd h (by decide), fun _ => tg_mem 511 (by decide +kernel) rfl, fun _ => tg_mem 512 (by decide +kernel) rfl, fun h => absurd h (by decide)⟩
theorem cl_33 : ClOk (44, 5, 116, 36, 1) := ⟨.inl (tg_mem 400 (by decide +kernel) rfl), tg_mem 388 (by decide +kernel) rfl, tg_mem 25 (by decide +kernel) rfl, by decide +kernel, fun h => absurd h (by decide), fun _ => tg_mem 386 (by decide +kernel) rfl, fun _ => tg_mem 387 (by decide +kernel) rfl, fun h => absurd h (by decide)⟩
theorem cl_34 : ClOk (44, 5, 119, 50, 1) := ⟨.inl (tg_mem 543 (by decide +kernel) rfl), tg_mem 546 (by decide +kernel) rfl, tg_mem 18 (by decide +kernel) rfl, by decide +kernel, fun h => absurd h (by decide), fun _ => tg_mem 545 (by decide +kernel) rfl, fun _ => tg_mem 10 (by decide +kernel) rfl, fun h => absurd h (by decide)⟩
theorem cl_35 : ClOk (44, 5, 122, 51, 1) := ⟨.inl (tg_mem 547 (by decide +kernel) rfl), tg_mem 550 (by decide +kernel) rfl, tg_mem 18 (by decide +kernel) rfl, by decide +kernel, fun h => absurd h (by decide), fun _ => tg_mem 549 (by decide +kernel) rfl, fun _ => tg_mem 11 (by decide +kernel) rfl, fun h => absurd h (by decide)⟩
theorem cl_36 : ClOk (44, 5, 125, 17, 3) := ⟨.inl (tg_mem 401 (by decide +kernel) rfl), tg_mem 404 (by decide +kernel) rfl, tg_mem 21 (by decide +kernel) rfl, by decide +kernel, fun h => absurd h (by decide), fun _ => tg_mem 402 (by decide +kernel) rfl, fun _ => tg_mem 403 (by decide +kernel) rfl, fun h => absurd h (by decide)⟩
theorem cl_37 : ClOk (44, 5, 129, 46, 1) := ⟨.inl (tg_mem 551 (by decide +kernel) rfl), tg_mem 554 (by decide +kernel) rfl, tg_mem 18 (by decide +kernel) rfl, by decide +kernel, fun h => absurd h (by decide), fun _ => tg_mem 552 (by decide +kernel) rfl, fun _ => tg_mem 553 (by decide +kernel) rfl, fun h => absurd h (by decide)⟩
theorem cl_38 : ClOk (44, 5, 132, 20, 1) := ⟨.inl (tg_mem 556 (by decide +kernel) rfl), tg_mem 559 (by decide +kernel) rfl, tg_mem 21 (by decide +kernel) rfl, by decide +kernel, fun h => absurd h (by decide), fun _ => tg_mem 557 (by decide +kernel) rfl, fun _ => tg_mem 558 (by decide +kernel) rfl, fun h => absurd h (by decide)⟩
theorem cl_39 : ClOk (44, 5, 135, 26, 1) := ⟨.inl (tg_mem 560 (by decide +kernel) rfl), tg_mem 563 (by decide +kernel) rfl, tg_mem 21 (by decide +kernel) rfl, by decide +kernel, fun h => absurd h (by decide), fun _ => tg_mem 561 (by decide +kernel) rfl, fun _ => tg_mem 562 (by decide +kernel) rfl, fun h => absurd h (by decide)⟩
theorem cl_40 : ClOk (44, 5, 138, 52, 0) := ⟨.inl (tg_mem 565 (by decide +kernel) rfl), tg_mem 568 (by decide +kernel) rfl, tg_mem 18 (by decide +kernel) rfl, by decide +kernel, fun h => absurd h (by decide), fun _ => tg_mem 567 (by decide +kernel) rfl, fun _ => tg_mem 12 (by decide +kernel) rfl, fun h => absurd h (by decide)⟩
theorem cl_41 : ClOk (44, 5, 149, 29, 3) := ⟨.inl (tg_mem 365 (by decide +kernel) rfl), tg_mem 368 (by decide +kernel) rfl, tg_mem 21 (by decide +kernel) rfl, by decide +kernel, fun h => absurd h (by decide), fun _ => tg_mem 366 (by decide +kernel) rfl, fun _ => tg_mem 367 (by decide +kernel) rfl, fun h => absurd h (by decide)⟩
theorem cl_42 : ClOk (44, 5, 153, 56, 2) := ⟨.inl (tg_mem 669 (by decide +kernel) rfl), tg_mem 672 (by decide +kernel) rfl, tg_mem 18 (by decide +kernel) rfl, by decide +kernel, fun h => absurd h (by decide), fun _ => tg_mem 671 (by decide +kernel) rfl, fun _ => tg_mem 13 (by decide +kernel) rfl, fun h => absurd h (by decide)⟩
theorem cl_43 : ClOk (44, 5, 157, 6, 2) := ⟨.inl (tg_mem 673 (by decide +kernel) rfl), tg_mem 676 (by decide +kernel) rfl, tg_mem 22 (by decide +kernel) rfl, by decide +kernel, fun h => absurd h (by decide), fun _ => tg_mem 674 (by decide +kernel) rfl, fun _ => tg_mem 675 (by decide +kernel) rfl, fun h => absurd h (by decide)⟩
theorem cl_44 : ClOk (44, 5, 161, 19, 2) := ⟨.inl (tg_mem 677 (by decide +kernel) rfl), tg_mem 680 (by decide +kernel) rfl, tg_mem 21 (by decide +kernel) rfl, by decide +kernel, fun h => absurd h (by decide), fun _ => tg_mem 678 (by decide +kernel) rfl, fun _ => tg_mem 679 (by decide +kernel) rfl, fun h => absurd h (by decide)⟩
theorem cl_45 : ClOk (44, 5, 165, 18, 3) := ⟨.inl (tg_mem 685 (by decide +kernel) rfl), tg_mem 684 (by decide +kernel) rfl, tg_mem 21 (by decide +kernel) rfl, by decide +kernel, fun h => absurd h (by decide), fun _ => tg_mem 682 (by decide +kernel) rfl, fun _ => tg_mem 683 (by decide +kernel) rfl, fun h => absurd h (by decide)⟩
theorem cl_46 : ClOk (44, 5, 168, 57, 2) := ⟨.inl (tg_mem 686 (by decide +kernel) rfl), tg_mem 689 (by decide +kernel) rfl, tg_mem 18 (by decide +kernel) rfl, by decide +kernel, fun h => absurd h (by decide), fun _ => tg_mem 688 (by decide +kernel) rfl, fun _ => tg_mem 14 (by decide +kernel) rfl, fun h => absurd h (by decide)⟩
theorem cl_47 : ClOk (44, 5, 171, 7, 2) := ⟨.inl (tg_mem 690 (by decide +kernel) rfl), tg_mem 693 (by decide +kernel) rfl, tg_mem 22 (by decide +kernel) rfl, by decide +kernel, fun h => absurd h (by decide), fun _ => tg_mem 691 (by decide +kernel) rfl, fun _ => tg_mem 692 (by decide +kernel) rfl, fun h => absurd h (by decide)⟩
theorem cl_48 : ClOk (44, 6, 39, 60, 0) := ⟨.inl (tg_mem 438 (by decide +kernel) rfl), tg_mem 441 (by decide +kernel) rfl, tg_mem 24 (by decide +kernel) rfl, by decide +kernel, fun h => absurd h (by decide), fun _ => tg_mem 440 (by decide +kernel) rfl, fun _ => tg_mem 4 (by decide +kernel) rfl, fun h => absurd h (by decide)⟩
theorem cl_49 : ClOk (44, 6, 42, 63, 1) := ⟨.inl (tg_mem 454 (by decide +kernel) rfl), tg_mem 457 (by decide +kernel) rfl, tg_mem 24 (by decide +kernel) rfl, by decide +kernel, fun h => absurd h (by decide), fun _ => tg_mem 456 (by decide +kernel) rfl, fun _ => tg_mem 8 (by decide +kernel) rfl, fun h => absurd h (by decide)⟩
theorem cl_50 : ClOk (44, 6, 46, 61, 0) := ⟨.inl (tg_mem 442 (by decide +kernel) rfl), tg_mem 445 (by decide +kernel) rfl, tg_mem 24 (by decide +kernel) rfl, by decide +kernel, fun h => absurd h (by decide), fun _ => tg_mem 444 (by decide +kernel) rfl, fun _ => tg_mem 5 (by decide +kernel) rfl, fun h => absurd h (by decide)⟩
theorem cl_51 : ClOk (44, 6, 50, 62, 1) := ⟨.inl (tg_mem 446 (by decide +kernel) rfl), tg_mem 449 (by decide +kernel) rfl, tg_mem 24 (by decide +kernel) rfl, by decide +kernel, fun h => absurd h (by decide), fun _ => tg_mem 448 (by decide +kernel) rfl, fun _ => tg_mem 6 (by decide +kernel) rfl, fun h => absurd h (by decide)⟩
theorem cl_52 : ClOk (44, 6, 54, 64, 2) := ⟨.inl (tg_mem 450 (by decide +kernel) rfl), tg_mem 453 (by decide +kernel) rfl, tg_mem 24 (by decide +kernel) rfl, by decide +kernel, fun h => absurd h (by decide), fun _ => tg_mem 452 (by decide +kernel) rfl, fun _ => tg_mem 7 (by decide +kernel) rfl, fun h => absurd h (by decide)⟩
theorem cl_53 : ClOk (44, 7, 18, 69, 3) := ⟨.inl (tg_mem 55 (by decide +kernel) rfl), tg_mem 58 (by decide +kernel) rfl, tg_mem 19 (by decide +kernel) rfl, by decide +kernel, fun h => absurd h (by decide), fun _ => tg_mem 56 (by decide +kernel) rfl, fun _ => tg_mem 57 (by decide +kernel) rfl, fun h => absurd h (by decide)⟩
theorem cl_54 : ClOk (46, 7, 28, 97, 3) := ⟨.inr ⟨"WalkFrames", nw_mem 487 (by decide +kernel) rfl⟩, tg_mem 280 (by decide +kernel) rfl, tg_mem 16 (by decide +kernel) rfl, by decide +kernel, fun _ => tg_mem 279 (by decide +kernel) rfl, fun h => absurd rfl h, fun h => absurd h (by decide), fun h => absurd h (by decide)⟩
theorem cl_55 : ClOk (45, 8, 9, 37, 0) := ⟨.inl (tg_mem 37 (by decide +kernel) rfl), tg_mem 39 (by decide +kernel) rfl, tg_mem 17 (by decide +kernel) rfl, by decide +kernel, fun h => absurd h (by decide), fun _ => tg_mem 38 (by decide +kernel) rfl, fun h => absurd h (by decide), fun _ => rfl⟩
theorem cl_56 : ClOk (45, 8, 18, 9, 0) := ⟨.inl (tg_mem 189 (by decide +kernel) rfl), tg_mem 191 (by decide +kernel) rfl, tg_mem 23 (by decide +kernel) rfl, by decide +kernel, fun h => absurd h (by decide), fun _ => tg_mem 190 (by decide +kernel) rfl, fun h => absurd h (by decide), fun _ => rfl⟩
theorem cl_57 : ClOk (45, 8, 25, 58, 0) := ⟨.inr ⟨"WalkFrames", nw_mem 206 (by decide +kernel) rfl⟩, tg_mem 208 (by decide +kernel) rfl, tg_mem 24 (by decide +kernel) rfl, by decide +kernel, fun h => absurd h (by decide), fun _ => tg_mem 207 (by decide +kernel) rfl, fun h => absurd h (by decide), fun _ => rfl⟩
theorem cl_58 : ClOk (45, 8, 32, 41, 0) := ⟨.inl (tg_mem 242 (by decide +kernel) rfl), tg_mem 45 (by decide +kernel) rfl, tg_mem 18 (by decide +kernel) rfl, by decide +kernel, fun h => absurd h (by decide), fun _ => tg_mem 44 (by decide +kernel) rfl, fun h => absurd h (by decide), fun _ => rfl⟩
theorem cl_59 : ClOk (45, 8, 39, 33, 0) := ⟨.inr ⟨"WalkFrames", nw_mem 245 (by decide +kernel) rfl⟩, tg_mem 247 (by decide +kernel) rfl, tg_mem 25 (by decide +kernel) rfl, by decide +kernel, fun h => absurd h (by decide), fun _ => tg_mem 246 (by decide +kernel) rfl, fun h => absurd h (by decide), fun _ => rfl⟩
theorem cl_60 : ClOk (46, 8, 44, 97, 3) := ⟨.inl (tg_mem 278 (by decide +kernel) rfl), tg_mem 280 (by decide +kernel) rfl, tg_mem 16 (by decide +kernel) rfl, by decide +kernel, fun _ => tg_mem 279 (by decide +kernel) rfl, fun h => absurd rfl h, fun h => absurd h (by decide), fun h => absurd h (by decide)⟩
theorem cl_61 : ClOk (44, 8, 61, 10, 1) := ⟨.inl (tg_mem 281 (by decide +kernel) rfl), tg_mem 284 (by decide +kernel) rfl, tg_mem 23 (by decide +kernel) rfl, by decide +kernel, fun h => absurd h (by decide), fun _ => tg_mem 282 (by decide +kernel) rfl, fun _ => tg_mem 283 (by decide +kernel) rfl, fun h => absurd h (by decide)⟩
theorem cl_62 : ClOk (44, 8, 68, 16, 3) := ⟨.inl (tg_mem 315 (by decide +kernel) rfl), tg_mem 318 (by decide +kernel) rfl, tg_mem 21 (by decide +kernel) rfl, by decide +kernel, fun h => absurd h (by decide), fun _ => tg_mem 316 (by decide +kernel) rfl, fun _ => tg_mem 317 (by decide +kernel) rfl, fun h => absurd h (by decide)⟩
theorem cl_63 : ClOk (44, 8, 72, 49, 1) := ⟨.inl (tg_mem 533 (by decide +kernel) rfl), tg_mem 536 (by decide +kernel) rfl, tg_mem 18 (by decide +kernel) rfl, by decide +kernel, fun h => absurd h (by decide), fun _ => tg_mem 534 (by decide +kernel) rfl, fun _ => tg_mem 535 (by decide +kernel) rfl, fun h => absurd h (by decide)⟩
theorem cl_64 : ClOk (44, 8, 76, 22, 1) := ⟨.inl (tg_mem 466 (by decide +kernel) rfl), tg_mem 469 (by decide +kernel) rfl, tg_mem 21 (by decide +kernel) rfl, by decide +kernel, fun h => absurd h (by decide), fun _ => tg_mem 467 (by decide +kernel) rfl, fun _ => tg_mem 468 (by decide +kernel) rfl, fun h => absurd h (by decide)⟩
theorem cl_65 : ClOk (46, 8, 80, 98, 1) := ⟨.inl (tg_mem 323 (by decide +kernel) rfl), tg_mem 325 (by decide +kernel) rfl, tg_mem 16 (by decide +kernel) rfl, by decide +kernel, fun _ => tg_mem 324 (by decide +kernel) rfl, fun h => absurd rfl h, fun h => absurd h (by decide), fun h => absurd h (by decide)⟩
theorem cl_66 : ClOk (44, 8, 88, 69, 3) := ⟨.inl (tg_mem 326 (by decide +kernel) rfl), tg_mem 58 (by decide +kernel) rfl, tg_mem 19 (by decide +kernel) rfl, by decide +kernel, fun h => absurd h (by decide), fun _ => tg_mem 56 (by decide +kernel) rfl, fun _ => tg_mem 57 (by decide +kernel) rfl, fun h => absurd h (by decide)⟩
theorem cl_67 : ClOk (44, 8, 93, 70, 0) := ⟨.inl (tg_mem 327 (by decide +kernel) rfl), tg_mem 330 (by decide +kernel) rfl, tg_mem 19 (by decide +kernel) rfl, by decide +kernel, fun h => absurd h (by decide), fun _ => tg_mem 328 (by decide +kernel) rfl, fun _ => tg_mem 329 (by decide +kernel) rfl, fun h => absurd h (by decide)⟩
theorem cl_68 : ClOk (46, 8, 97, 101, 1) := ⟨.inl (tg_mem 335 (by decide +kernel) rfl), tg_mem 337 (by decide +kernel) rfl, tg_mem 16 (by decide +kernel) rfl, by decide +kernel, fun _ => tg_mem 336 (by decide +kernel) rfl, fun h => absurd rfl h, fun h => absurd h (by decide), fun h => absurd h (by decide)⟩
theorem cl_69 : ClOk (46, 8, 100, 102, 1) := ⟨.inl (tg_mem 338 (by decide +kernel) rfl), tg_mem 340 (by decide +kernel) rfl, tg_mem 16 (by decide +kernel) rfl, by decide +kernel, fun _ => tg_mem 339 (by decide +kernel) rfl, fun h => absurd rfl h, fun h => absurd h (by decide), fun h => absurd h (by decide)⟩
theorem cl_70 : ClOk (44, 8, 103, 43, 1) := ⟨.inl (tg_mem 341 (by decide +kernel) rfl), tg_mem 344 (by decide +kernel) rfl, tg_mem 18 (by decide +kernel) rfl, by decide +kernel, fun h => absurd h (by decide), fun _ => tg_mem 342 (by decide +kernel) rfl, fun _ => tg_mem 343 (by decide +kernel) rfl, fun h => absurd h (by decide)⟩
theorem cl_71 : ClOk (44, 8, 106, 44, 2) := ⟨.inl (tg_mem 346 (by decide +kernel) rfl), tg_mem 349 (by decide +kernel) rfl, tg_mem 18 (by decide +kernel) rfl, by decide +kernel, fun h => absurd h (by decide), fun _ => tg_mem 347 (by decide +kernel) rfl, fun _ => tg_mem 348 (by decide +kernel) rfl, fun h => absurd h (by decide)⟩
theorem cl_72 : ClOk (44, 8, 114, 2, 1) := ⟨.inl (tg_mem 611 (by decide +kernel) rfl), tg_mem 614 (by decide +kernel) rfl, tg_mem 22 (by decide +kernel) rfl, by decide +kernel, fun h => absurd h (by decide), fun _ => tg_mem 612 (by decide +kernel) rfl, fun _ => tg_mem 613 (by decide +kernel) rfl, fun h => absurd h (by decide)⟩
theorem cl_73 : ClOk (46, 8, 127, 99, 1) := ⟨.inl (tg_mem 354 (by decide +kernel) rfl), tg_mem 356 (by decide +kernel) rfl, tg_mem 16 (by decide +kernel) rfl, by decide +kernel, fun _ => tg_mem 355 (by decide +kernel) rfl, fun h => absurd rfl h, fun h => absurd h (by decide), fun h => absurd h (by decide)⟩
theorem cl_74 : ClOk (44, 8, 130, 53, 1) := ⟨.inl (tg_mem 357 (by decide +kernel) rfl), tg_mem 360 (by decide +kernel) rfl, tg_mem 18 (by decide +kernel) rfl, by decide +kernel, fun h => absurd h (by decide), fun _ => tg_mem 358 (by decide +kernel) rfl, fun _ => tg_mem 359 (by decide +kernel) rfl, fun h => absurd h (by decide)⟩
theorem cl_75 : ClOk (44, 8, 133, 54, 2) := ⟨.inl (tg_mem 361 (by decide +kernel) rfl), tg_mem 364 (by decide +kernel) rfl, tg_mem 18 (by decide +kernel) rfl, by decide +kernel, fun h => absurd h (by decide), fun _ => tg_mem 362 (by decide +kernel) rfl, fun _ => tg_mem 363 (by decide +kernel) rfl, fun h => absurd h (by decide)⟩
theorem cl_76 : ClOk (44, 8, 137, 55, 2) := ⟨.inl (tg_mem 665 (by decide +kernel) rfl), tg_mem 668 (by decide +kernel) rfl, tg_mem 18 (by decide +kernel) rfl, by decide +kernel, fun h => absurd h (by decide), fun _ => tg_mem 666 (by decide +kernel) rfl, fun _ => tg_mem 667 (by decide +kernel) rfl, fun h => absurd h (by decide)⟩
theorem cl_77 : ClOk (46, 8, 140, 100, 1) := ⟨.inl (tg_mem 410 (by decide +kernel) rfl), tg_mem 412 (by decide +kernel) rfl, tg_mem 16 (by decide +kernel) rfl, by decide +kernel, fun _ => tg_mem 411 (by decide +kernel) rfl, fun h => absurd rfl h, fun h => absurd h (by decide), fun h => absurd h (by decide)⟩
theorem cl_78 : ClOk (44, 8, 143, 39, 1) := ⟨.inl (tg_mem 413 (by decide +kernel) rfl), tg_mem 416 (by decide +kernel) rfl, tg_mem 17 (by decide +kernel) rfl, by decide +kernel, fun h => absurd h (by decide), fun _ => tg_mem 414 (by decide +kernel) rfl, fun _ => tg_mem 415 (by decide +kernel) rfl, fun h => absurd h (by decide)⟩
theorem cl_79 : ClOk (44, 8, 154, 42, 1) := ⟨.inl (tg_mem 421 (by decide +kernel) rfl), tg_mem 296 (by decide +kernel) rfl, tg_mem 18 (by decide +kernel) rfl, by decide +kernel, fun h => absurd h (by decide), fun _ => tg_mem 294 (by decide +kernel) rfl, fun _ => tg_mem 295 (by decide +kernel) rfl, fun h => absurd h (by decide)⟩
theorem cl_80 : ClOk (44, 8, 161, 12, 1) := ⟨.inl (tg_mem 426 (by decide +kernel) rfl), tg_mem 429 (by decide +kernel) rfl, tg_mem 23 (by decide +kernel) rfl, by decide +kernel, fun h => absurd h (by decide), fun _ => tg_mem 427 (by decide +kernel) rfl, fun _ => tg_mem 428 (by decide +kernel) rfl, fun h => absurd h (by decide)⟩
theorem cl_81 : ClOk (44, 8, 174, 59, 0) := ⟨.inl (tg_mem 434 (by decide +kernel) rfl), tg_mem 437 (by decide +kernel) rfl, tg_mem 24 (by decide +kernel) rfl, by decide +kernel, fun h => absurd h (by decide), fun _ => tg_mem 435 (by decide +kernel) rfl, fun _ => tg_mem 436 (by decide +kernel) rfl, fun h => absurd h (by decide)⟩
theorem cl_82 : ClOk (44, 8, 177, 65, 0) := ⟨.inl (tg_mem 458 (by decide +kernel) rfl), tg_mem 461 (by decide +kernel) rfl, tg_mem 24 (by decide +kernel) rfl, by decide +kernel, fun h => absurd h (by decide), fun _ => tg_mem 459 (by decide +kernel) rfl, fun _ => tg_mem 460 (by decide +kernel) rfl, fun h => absurd h (by decide)⟩
theorem cl_83 : ClOk (44, 8, 189, 3, 0) := ⟨.inl (tg_mem 470 (by decide +kernel) rfl), tg_mem 473 (by decide +kernel) rfl, tg_mem 22 (by decide +kernel) rfl, by decide +kernel, fun h => absurd h (by decide), fun _ => tg_mem 471 (by decide +kernel) rfl, fun _ => tg_mem 472 (by decide +kernel) rfl, fun h => absurd h (by decide)⟩
theorem cl_84 : ClOk (44, 8, 192, 47, 0) := ⟨.inl (tg_mem 474 (by decide +kernel) rfl), tg_mem 477 (by decide +kernel) rfl, tg_mem 18 (by decide +kernel) rfl, by decide +kernel, fun h => absurd h (by decide), fun _ => tg_mem 475 (by decide +kernel) rfl, fun _ => tg_mem 476 (by decide +kernel) rfl, fun h => absurd h (by decide)⟩
theorem cl_85 : ClOk (44, 8, 195, 25, 0) := ⟨.inl (tg_mem 488 (by decide +kernel) rfl), tg_mem 491 (by decide +kernel) rfl, tg_mem 21 (by decide +kernel) rfl, by decide +kernel, fun h => absurd h (by decide), fun _ => tg_mem 489 (by decide +kernel) rfl, fun _ => tg_mem 490 (by decide +kernel) rfl, fun h => absurd h (by decide)⟩
theorem cl_86 : ClOk (44, 8, 198, 4, 0) := ⟨.inl (tg_mem 492 (by decide +kernel) rfl), tg_mem 495 (by decide +kernel) rfl, tg_mem 22 (by decide +kernel) rfl, by decide +kernel, fun h => absurd h (by decide), fun _ => tg_mem 493 (by decide +kernel) rfl, fun _ => tg_mem 494 (by decide +kernel) rfl, fun h => absurd h (by decide)⟩
theorem cl_87 : ClOk (44, 8, 210, 40, 0) := ⟨.inl (tg_mem 496 (by decide +kernel) rfl), tg_mem 499 (by decide +kernel) rfl, tg_mem 17 (by decide +kernel) rfl, by decide +kernel, fun h => absurd h (by decide), fun _ => tg_mem 497 (by decide +kernel) rfl, fun _ => tg_mem 498 (by decide +kernel) rfl, fun h => absurd h (by decide)⟩
theorem cl_88 : ClOk (44, 8, 213, 15, 1) := ⟨.inl (tg_mem 504 (by decide +kernel) rfl), tg_mem 376 (by decide +kernel) rfl, tg_mem 21 (by decide +kernel) rfl, by decide +kernel, fun h => absurd h (by decide), fun _ => tg_mem 374 (by decide +kernel) rfl, fun _ => tg_mem 375 (by decide +kernel) rfl, fun h => absurd h (by decide)⟩
theorem cl_89 : ClOk (44, 8, 237, 45, 1) := ⟨.inl (tg_mem 505 (by decide +kernel) rfl), tg_mem 481 (by decide +kernel) rfl, tg_mem 18 (by decide +kernel) rfl, by decide +kernel, fun h => absurd h (by decide), fun _ => tg_mem 479 (by decide +kernel) rfl, fun _ => tg_mem 480 (by decide +kernel) rfl, fun h => absurd h (by decide)⟩
theorem cl_90 : ClOk (44, 8, 246, 46, 1) := ⟨.inl (tg_mem 606 (by decide +kernel) rfl), tg_mem 554 (by decide +kernel) rfl, tg_mem 18 (by decide +kernel) rfl, by decide +kernel, fun h => absurd h (by decide), fun _ => tg_mem 552 (by decide +kernel) rfl, fun _ => tg_mem 553 (by decide +kernel) rfl, fun h => absurd h (by decide)⟩
theorem cl_91 : ClOk (44, 8, 249, 24, 1) := ⟨.inl (tg_mem 607 (by decide +kernel) rfl), tg_mem 610 (by decide +kernel) rfl, tg_mem 21 (by decide +kernel) rfl, by decide +kernel, fun h => absurd h (by decide), fun _ => tg_mem 608 (by decide +kernel) rfl, fun _ => tg_mem 609 (by decide +kernel) rfl, fun h => absurd h (by decide)⟩
theorem cl_92 : ClOk (44, 8, 252, 23, 1) := ⟨.inl (tg_mem 619 (by decide +kernel) rfl), tg_mem 622 (by decide +kernel) rfl, tg_mem 21 (by decide +kernel) rfl, by decide +kernel, fun h => absurd h (by decide), fun _ => tg_mem 620 (by decide +kernel) rfl, fun _ => tg_mem 621 (by decide +kernel) rfl, fun h => absurd h (by decide)⟩
theorem cl_93 : ClOk (44, 8, 258, 5, 2) := ⟨.inl (tg_mem 627 (by decide +kernel) rfl), tg_mem 580 (by decide +kernel) rfl, tg_mem 22 (by decide +kernel) rfl, by decide +kernel, fun h => absurd h (by decide), fun _ => tg_mem 578 (by decide +kernel) rfl, fun _ => tg_mem 579 (by decide +kernel) rfl, fun h => absurd h (by decide)⟩
theorem cl_94 : ClOk (44, 8, 262, 68, 1) := ⟨.inl (tg_mem 593 (by decide +kernel) rfl), tg_mem 486 (by decide +kernel) rfl, tg_mem 19 (by decide +kernel) rfl, by decide +kernel, fun h => absurd h (by decide), fun _ => tg_mem 484 (by decide +kernel) rfl, fun _ => tg_mem 485 (by decide +kernel) rfl, fun h => absurd h (by decide)⟩
theorem cl_95 : ClOk (44, 8, 263, 71, 1) := ⟨.inl (tg_mem 594 (by decide +kernel) rfl), tg_mem 597 (by decide +kernel) rfl, tg_mem 19 (by decide +kernel) rfl, by decide +kernel, fun h => absurd h (by decide), fun _ => tg_mem 595 (by decide +kernel) rfl, fun _ => tg_mem 596 (by decide +kernel) rfl, fun h => absurd h (by decide)⟩
theorem cl_96 : ClOk (44, 8, 266, 72, 1) := ⟨.inl (tg_mem 598 (by decide +kernel) rfl), tg_mem 601 (by decide +kernel) rfl, tg_mem 19 (by decide +kernel) rfl, by decide +kernel, fun h => absurd h (by decide), fun _ => tg_mem 599 (by decide +kernel) rfl, fun _ => tg_mem 600 (by decide +kernel) rfl, fun h => absurd h (by decide)⟩
theorem cl_97 : ClOk (44, 8, 269, 27, 1) := ⟨.inl (tg_mem 510 (by decide +kernel) rfl), tg_mem 513 (by decide +kernel) rfl, tg_mem 21 (by decide +kernel) rfl, by decide +kernel, fun h => absurd h (by decide), fun _ => tg_mem 511 (by decide +kernel) rfl, fun _ => tg_mem 512 (by decide +kernel) rfl, fun h => absurd h (by decide)⟩
theorem cl_98 : ClOk (44, 8, 273, 36, 1) := ⟨.inl (tg_mem 518 (by decide +kernel) rfl), tg_mem 388 (by decide +kernel) rfl, tg_mem 25 (by decide +kernel) rfl, by decide +kernel, fun h => absurd h (by decide), fun _ => tg_mem 386 (by decide +kernel) rfl, fun _ => tg_mem 387 (by decide +kernel) rfl, fun h => absurd h (by decide)⟩
theorem cl_99 : ClOk (44, 8, 276, 29, 3) := ⟨.inl (tg_mem 523 (by decide +kernel) rfl), tg_mem 368 (by decide +kernel) rfl, tg_mem 21 (by decide +kernel) rfl, by decide +kernel, fun h => absurd h (by decide), fun _ => tg_mem 366 (by decide +kernel) rfl, fun _ => tg_mem 367 (by decide +kernel) rfl, fun h => absurd h (by decide)⟩
theorem cl_100 : ClOk (44, 8, 280, 48, 0) := ⟨.inl (tg_mem 528 (by decide +kernel) rfl), tg_mem 531 (by decide +kernel) rfl, tg_mem 18 (by decide +kernel) rfl, by decide +kernel, fun h => absurd h (by decide), fun _ => tg_mem 529 (by decide +kernel) rfl, fun _ => tg_mem 530 (by decide +kernel) rfl, fun h => absurd h (by decide)⟩
theorem cl_101 : ClOk (44, 8, 283, 8, 1) := ⟨.inl (tg_mem 573 (by decide +kernel) rfl), tg_mem 576 (by decide +kernel) rfl, tg_mem 22 (by decide +kernel) rfl, by decide +kernel, fun h => absurd h (by decide), fun _ => tg_mem 574 (by decide +kernel) rfl, fun _ => tg_mem 575 (by decide +kernel) rfl, fun h => absurd h (by decide)⟩
theorem cl_102 : ClOk (44, 10, 8, 85, 1) := ⟨.inl (tg_mem 462 (by decide +kernel) rfl), tg_mem 465 (by decide +kernel) rfl, tg_mem 16 (by decide +kernel) rfl, by decide +kernel, fun h => absurd h (by decide), fun _ => tg_mem 463 (by decide +kernel) rfl, fun _ => tg_mem 464 (by decide +kernel) rfl, fun h => absurd h (by decide)⟩
theorem cl_103 : ClOk (44, 10, 14, 86, 2) := ⟨.inl (tg_mem 500 (by decide +kernel) rfl), tg_mem 503 (by decide +kernel) rfl, tg_mem 16 (by decide +kernel) rfl, by decide +kernel, fun h => absurd h (by decide), fun _ => tg_mem 501 (by decide +kernel) rfl, fun _ => tg_mem 502 (by decide +kernel) rfl, fun h => absurd h (by decide)⟩
theorem cl_104 : ClOk (44, 10, 18, 90, 2) := ⟨.inl (tg_mem 589 (by decide +kernel) rfl), tg_mem 592 (by decide +kernel) rfl, tg_mem 16 (by decide +kernel) rfl, by decide +kernel, fun h => absurd h (by decide), fun _ => tg_mem 590 (by decide +kernel) rfl, fun _ => tg_mem 591 (by decide +kernel) rfl, fun h => absurd h (by decide)⟩
theorem cl_105 : ClOk (44, 10, 21, 87, 2) := ⟨.inl (tg_mem 602 (by decide +kernel) rfl), tg_mem 605 (by decide +kernel) rfl, tg_mem 16 (by decide +kernel) rfl, by decide +kernel, fun h => absurd h (by decide), fun _ => tg_mem 603 (by decide +kernel) rfl, fun _ => tg_mem 604 (by decide +kernel) rfl, fun h => absurd h (by decide)⟩
theorem cl_106 : ClOk (44, 10, 24, 88, 2) := ⟨.inl (tg_mem 615 (by decide +kernel) rfl), tg_mem 618 (by decide +kernel) rfl, tg_mem 16 (by decide +kernel) rfl, by decide +kernel, fun h => absurd h (by decide), fun _ => tg_mem 616 (by decide +kernel) rfl, fun _ => tg_mem 617 (by decide +kernel) rfl, fun h => absurd h (by decide)⟩
theorem cl_107 : ClOk (44, 10, 27, 92, 2) := ⟨.inl (tg_mem 519 (by decide +kernel) rfl), tg_mem 522 (by decide +kernel) rfl, tg_mem 16 (by decide +kernel) rfl, by decide +kernel, fun h => absurd h (by decide), fun _ => tg_mem 520 (by decide +kernel) rfl, fun _ => tg_mem 521 (by decide +kernel) rfl, fun h => absurd h (by decide)⟩
theorem cl_108 : ClOk (44, 10, 30, 89, 2) := ⟨.inl (tg_mem 623 (by decide +kernel) rfl), tg_mem 626 (by decide +kernel) rfl, tg_mem 16 (by decide +kernel) rfl, by decide +kernel, fun h => absurd h (by decide), fun _ => tg_mem 624 (by decide +kernel) rfl, fun _ => tg_mem 625 (by decide +kernel) rfl, fun h => absurd h (by decide)⟩
theorem cl_109 : ClOk (46, 10, 33, 106, 2) := ⟨.inl (tg_mem 628 (by decide +kernel) rfl), tg_mem 630 (by decide +kernel) rfl, tg_mem 15 (by decide +kernel) rfl, by decide +kernel, fun _ => tg_mem 629 (by decide +kernel) rfl, fun h => absurd rfl h, fun h => absurd h (by decide), fun h => absurd h (by decide)⟩
theorem cl_110 : ClOk (46, 10, 39, 107, 1) := ⟨.inl (tg_mem 631 (by decide +kernel) rfl), tg_mem 633 (by decide +kernel) rfl, tg_mem 15 (by decide +kernel) rfl, by decide +kernel, fun _ => tg_mem 632 (by decide +kernel) rfl, fun h => absurd rfl h, fun h => absurd h (by decide), fun h => absurd h (by decide)⟩
theorem cl_111 : ClOk (44, 10, 43, 91, 1) := ⟨.inl (tg_mem 506 (by decide +kernel) rfl), tg_mem 509 (by decide +kernel) rfl, tg_mem 16 (by decide +kernel) rfl, by decide +kernel, fun h => absurd h (by decide), fun _ => tg_mem 507 (by decide +kernel) rfl, fun _ => tg_mem 508 (by decide +kernel) rfl, fun h => absurd h (by decide)⟩
theorem cl_112 : ClOk (44, 10, 50, 93, 0) := ⟨.inl (tg_mem 524 (by decide +kernel) rfl), tg_mem 527 (by decide +kernel) rfl, tg_mem 16 (by decide +kernel) rfl, by decide +kernel, fun h => absurd h (by decide), fun _ => tg_mem 525 (by decide +kernel) rfl, fun _ => tg_mem 526 (by decide +kernel) rfl, fun h => absurd h (by decide)⟩
theorem cl_113 : ClOk (44, 10, 54, 94, 1) := ⟨.inl (tg_mem 649 (by decide +kernel) rfl), tg_mem 652 (by decide +kernel) rfl, tg_mem 16 (by decide +kernel) rfl, by decide +kernel, fun h => absurd h (by decide), fun _ => tg_mem 650 (by decide +kernel) rfl, fun _ => tg_mem 651 (by decide +kernel) rfl, fun h => absurd h (by decide)⟩
theorem cl_114 : ClOk (44, 10, 57, 75, 0) := ⟨.inl (tg_mem 653 (by decide +kernel) rfl), tg_mem 656 (by decide +kernel) rfl, tg_mem 16 (by decide +kernel) rfl, by decide +kernel, fun h => absurd h (by decide), fun _ => tg_mem 654 (by decide +kernel) rfl, fun _ => tg_mem 655 (by decide +kernel) rfl, fun h => absurd h (by decide)⟩
theorem cl_115 : ClOk (46, 10, 60, 104, 2) := ⟨.inl (tg_mem 642 (by decide +kernel) rfl), tg_mem 644 (by decide +kernel) rfl, tg_mem 15 (by decide +kernel) rfl, by decide +kernel, fun _ => tg_mem 643 (by decide +kernel) rfl, fun h => absurd rfl h, fun h => absurd h (by decide), fun h => absurd h (by decide)⟩
theorem cl_116 : ClOk (44, 10, 63, 74, 3) := ⟨.inl (tg_mem 274 (by decide +kernel) rfl), tg_mem 277 (by decide +kernel) rfl, tg_mem 16 (by decide +kernel) rfl, by decide +kernel, fun h => absurd h (by decide), fun _ => tg_mem 275 (by decide +kernel) rfl, fun _ => tg_mem 276 (by decide +kernel) rfl, fun h => absurd h (by decide)⟩
theorem cl_117 : ClOk (46, 10, 67, 109, 1) := ⟨.inl (tg_mem 646 (by decide +kernel) rfl), tg_mem 648 (by decide +kernel) rfl, tg_mem 15 (by decide +kernel) rfl, by decide +kernel, fun _ => tg_mem 647 (by decide +kernel) rfl, fun h => absurd rfl h, fun h => absurd h (by decide), fun h => absurd h (by decide)⟩
theorem cl_118 : ClOk (44, 10, 70, 76, 3) := ⟨.inl (tg_mem 319 (by decide +kernel) rfl), tg_mem 322 (by decide +kernel) rfl, tg_mem 16 (by decide +kernel) rfl, by decide +kernel, fun h => absurd h (by decide), fun _ => tg_mem 320 (by decide +kernel) rfl, fun _ => tg_mem 321 (by decide +kernel) rfl, fun h => absurd h (by decide)⟩
theorem cl_119 : ClOk (44, 10, 73, 77, 2) := ⟨.inl (tg_mem 331 (by decide +kernel) rfl), tg_mem 334 (by decide +kernel) rfl, tg_mem 16 (by decide +kernel) rfl, by decide +kernel, fun h => absurd h (by decide), fun _ => tg_mem 332 (by decide +kernel) rfl, fun _ => tg_mem 333 (by decide +kernel) rfl, fun h => absurd h (by decide)⟩
theorem cl_120 : ClOk (44, 10, 76, 95, 1) := ⟨.inl (tg_mem 569 (by decide +kernel) rfl), tg_mem 572 (by decide +kernel) rfl, tg_mem 16 (by decide +kernel) rfl, by decide +kernel, fun h => absurd h (by decide), fun _ => tg_mem 570 (by decide +kernel) rfl, fun _ => tg_mem 571 (by decide +kernel) rfl, fun h => absurd h (by decide)⟩
theorem cl_121 : ClOk (44, 10, 79, 78, 2) := ⟨.inl (tg_mem 657 (by decide +kernel) rfl), tg_mem 660 (by decide +kernel) rfl, tg_mem 16 (by decide +kernel) rfl, by decide +kernel, fun h => absurd h (by decide), fun _ => tg_mem 658 (by decide +kernel) rfl, fun _ => tg_mem 659 (by decide +kernel) rfl, fun h => absurd h (by decide)⟩
theorem cl_122 : ClOk (44, 10, 82, 96, 1) := ⟨.inl (tg_mem 661 (by decide +kernel) rfl), tg_mem 664 (by decide +kernel) rfl, tg_mem 16 (by decide +kernel) rfl, by decide +kernel, fun h => absurd h (by decide), fun _ => tg_mem 662 (by decide +kernel) rfl, fun _ => tg_mem 663 (by decide +kernel) rfl, fun h => absurd h (by decide)⟩
theorem cl_123 : ClOk (44, 10, 85, 80, 1) := ⟨.inl (tg_mem 694 (by decide +kernel) rfl), tg_mem 697 (by decide +kernel) rfl, tg_mem 16 (by decide +kernel) rfl, by decide +kernel, fun h => absurd h (by decide), fun _ => tg_mem 695 (by decide +kernel) rfl, fun _ => tg_mem 696 (by decide +kernel) rfl, fun h => absurd h (by decide)⟩
theorem cl_124 : ClOk (44, 10, 88, 79, 1) := ⟨.inl (tg_mem 350 (by decide +kernel) rfl), tg_mem 353 (by decide +kernel) rfl, tg_mem 16 (by decide +kernel) rfl, by decide +kernel, fun h => absurd h (by decide), fun _ => tg_mem 351 (by decide +kernel) rfl, fun _ => tg_mem 352 (by decide +kernel) rfl, fun h => absurd h (by decide)⟩
theorem cl_125 : ClOk (44, 10, 91, 81, 1) := ⟨.inl (tg_mem 406 (by decide +kernel) rfl), tg_mem 409 (by decide +kernel) rfl, tg_mem 16 (by decide +kernel) rfl, by decide +kernel, fun h => absurd h (by decide), fun _ => tg_mem 407 (by decide +kernel) rfl, fun _ => tg_mem 408 (by decide +kernel) rfl, fun h => absurd h (by decide)⟩
theorem cl_126 : ClOk (44, 10, 94, 82, 1) := ⟨.inl (tg_mem 417 (by decide +kernel) rfl), tg_mem 420 (by decide +kernel) rfl, tg_mem 16 (by decide +kernel) rfl, by decide +kernel, fun h => absurd h (by decide), fun _ => tg_mem 418 (by decide +kernel) rfl, fun _ => tg_mem 419 (by decide +kernel) rfl, fun h => absurd h (by decide)⟩
theorem cl_127 : ClOk (45, 10, 97, 73, 0) := ⟨.inl (tg_mem 29 (by decide +kernel) rfl), tg_mem 31 (by decide +kernel) rfl, tg_mem 16 (by decide +kernel) rfl, by decide +kernel, fun h => absurd h (by decide), fun _ => tg_mem 30 (by decide +kernel) rfl, fun h => absurd h (by decide), fun _ => rfl⟩
theorem cl_128 : ClOk (44, 10, 98, 83, 0) := ⟨.inl (tg_mem 422 (by decide +kernel) rfl), tg_mem 425 (by decide +kernel) rfl, tg_mem 16 (by decide +kernel) rfl, by decide +kernel, fun h => absurd h (by decide), fun _ => tg_mem 423 (by decide +kernel) rfl, fun _ => tg_mem 424 (by decide +kernel) rfl, fun h => absurd h (by decide)⟩
theorem cl_129 : ClOk (44, 10, 101, 84, 0) := ⟨.inl (tg_mem 430 (by decide +kernel) rfl), tg_mem 433 (by decide +kernel) rfl, tg_mem 16 (by decide +kernel) rfl, by decide +kernel, fun h => absurd h (by decide), fun _ => tg_mem 431 (by decide +kernel) rfl, fun _ => tg_mem 432 (by decide +kernel) rfl, fun h => absurd h (by decide)⟩
theorem cl_130 : ClOk (46, 10, 104, 108, 1) := ⟨.inl (tg_mem 634 (by decide +kernel) rfl), tg_mem 636 (by decide +kernel) rfl, tg_mem 15 (by decide +kernel) rfl, by decide +kernel, fun _ => tg_mem 635 (by decide +kernel) rfl, fun h => absurd rfl h, fun h => absurd h (by decide), fun h => absurd h (by decide)⟩
theorem cl_131 : ClOk (46, 10, 108, 103, 2) := ⟨.inl (tg_mem 583 (by decide +kernel) rfl), tg_mem 585 (by decide +kernel) rfl, tg_mem 15 (by decide +kernel) rfl, by decide +kernel, fun _ => tg_mem 584 (by decide +kernel) rfl, fun h => absurd rfl h, fun h => absurd h (by decide), fun h => absurd h (by decide)⟩
theorem cl_132 : ClOk (46, 10, 112, 110, 3) := ⟨.inl (tg_mem 639 (by decide +kernel) rfl), tg_mem 641 (by decide +kernel) rfl, tg_mem 15 (by decide +kernel) rfl, by decide +kernel, fun _ => tg_mem 640 (by decide +kernel) rfl, fun h => absurd rfl h, fun h => absurd h (by decide), fun h => absurd h (by decide)⟩
theorem cl_133 : ClOk (46, 10, 116, 105, 1) := ⟨.inl (tg_mem 586 (by decide +kernel) rfl), tg_mem 588 (by decide +kernel) rfl, tg_mem 15 (by decide +kernel) rfl, by decide +kernel, fun _ => tg_mem 587 (by decide +kernel) rfl, fun h => absurd rfl h, fun h => absurd h (by decide), fun h => absurd h (by decide)⟩
def clT : List (Nat × Nat × Nat × Nat × Nat) := [(46, 0, 31, 99, 1), (46, 0, 35, 98, 1), (44, 0, 38, 5, 2), (45, 1, 17, 37, 0), (44, 1, 22, 11, 0), (44, 1, 25, 38, 1), (44, 2, 46, 15, 1), (46, 2, 50, 98, 1), (44, 2, 53, 17, 3), (44, 2, 57, 18, 3), (44, 2, 60, 32, 3), (44, 2, 64, 20, 1), (44, 2, 72, 28, 3), (44, 2, 76, 34, 1), (44, 2, 80, 30, 2), (44, 2, 84, 36, 1), (44, 2, 88, 31, 2), (44, 2, 92, 35, 1), (45, 4, 11, 41, 0), (44, 4, 26, 42, 1), (45, 5, 11, 66, 0), (45, 5, 20, 13, 0), (45, 5, 27, 0, 0), (44, 5, 46, 67, 1), (44, 5, 50, 14, 1), (44, 5, 53, 1, 1), (46, 5, 65, 98, 1), (44, 5, 69, 15, 1), (44, 5, 75, 68, 1), (44, 5, 97, 45, 1), (44, 5, 98, 22, 1), (44, 5, 101, 21, 0), (44, 5, 104, 27, 1), (44, 5, 116, 36, 1), (44, 5, 119, 50, 1), (44, 5, 122, 51, 1), (44, 5, 125, 17, 3), (44, 5, 129, 46, 1), (44, 5, 132, 20, 1), (44, 5, 135, 26, 1), (44, 5, 138, 52, 0), (44, 5, 149, 29, 3), (44, 5, 153, 56, 2), (44, 5, 157, 6, 2), (44, 5, 161, 19, 2), (44, 5, 165, 18, 3), (44, 5, 168, 57, 2), (44, 5, 171, 7, 2), (44, 6, 39, 60, 0), (44, 6, 42, 63, 1), (44, 6, 46, 61, 0), (44, 6, 50, 62, 1), (44, 6, 54, 64, 2), (44, 7, 18, 69, 3), (46, 7, 28, 97, 3), (45, 8, 9, 37, 0), (45, 8, 18, 9, 0), (45, 8, 25, 58, 0), (45, 8, 32, 41, 0), (45, 8, 39, 33, 0), (46, 8, 44, 97, 3), (44, 8, 61, 10, 1), (44, 8, 68, 16, 3), (44, 8, 72, 49, 1), (44, 8, 76, 22, 1), (46, 8, 80, 98, 1), (44, 8, 88, 69, 3), (44, 8, 93, 70, 0), (46, 8, 97, 101, 1), (46, 8, 100, 102, 1), (44, 8, 103, 43, 1), (44, 8, 106, 44, 2), (44, 8, 114, 2, 1), (46, 8, 127, 99, 1), (44, 8, 130, 53, 1), (44, 8, 133, 54, 2), (44, 8, 137, 55, 2), (46, 8, 140, 100, 1), (44, 8, 143, 39, 1), (44, 8, 154, 42, 1), (44, 8, 161, 12, 1), (44, 8, 174, 59, 0), (44, 8, 177, 65, 0), (44, 8, 189, 3, 0), (44, 8, 192, 47, 0), (44, 8, 195, 25, 0), (44, 8, 198, 4, 0), (44, 8, 210, 40, 0), (44, 8, 213, 15, 1), (44, 8, 237, 45, 1), (44, 8, 246, 46, 1), (44, 8, 249, 24, 1), (44, 8, 252, 23, 1), (44, 8, 258, 5, 2), (44, 8, 262, 68, 1), (44, 8, 263, 71, 1), (44, 8, 266, 72, 1), (44, 8, 269, 27, 1), (44, 8, 273, 36, 1), (44, 8, 276, 29, 3), (44, 8, 280, 48, 0), (44, 8, 283, 8, 1), (44, 10, 8, 85, 1), (44, 10, 14, 86, 2), (44, 10, 18, 90, 2), (44, 10, 21, 87, 2), (44, 10, 24, 88, 2), (44, 10, 27, 92, 2), (44, 10, 30, 89, 2), (46, 10, 33, 106, 2), (46, 10, 39, 107, 1), (44, 10, 43, 91, 1), (44, 10, 50, 93, 0), (44, 10, 54, 94, 1), (44, 10, 57, 75, 0), (46, 10, 60, 104, 2), (44, 10, 63, 74, 3), (46, 10, 67, 109, 1), (44, 10, 70, 76, 3), (44, 10, 73, 77, 2), (44, 10, 76, 95, 1), (44, 10, 79, 78, 2), (44, 10, 82, 96, 1), (44, 10, 85, 80, 1), (44, 10, 88, 79, 1), (44, 10, 91, 81, 1), (44, 10, 94, 82, 1), (45, 10, 97, 73, 0), (44, 10, 98, 83, 0), (44, 10, 101, 84, 0), (46, 10, 104, 108, 1), (46, 10, 108, 103, 2), (46, 10, 112, 110, 3), (46, 10, 116, 105, 1)]
set_option maxRecDepth 10000 in
theorem clT_ok : ∀ r ∈ clT, ClOk r := List.forall_mem_cons.mpr ⟨cl_0, List.forall_mem_cons.mpr ⟨cl_1, List.forall_mem_cons.mpr ⟨cl_2, List.forall_mem_cons.mpr ⟨cl_3, List.forall_mem_cons.mpr ⟨cl_4, List.forall_mem_cons.mpr ⟨cl_5, List.forall_mem_cons.mpr ⟨cl_6, List.forall_mem_cons.mpr ⟨cl_7, List.forall_mem_cons.mpr ⟨cl_8, List.forall_mem_cons.mpr ⟨cl_9, List.forall_mem_cons.mpr ⟨cl_10, List.forall_mem_cons.mpr ⟨cl_11, List.forall_mem_cons.mpr ⟨cl_12, List.forall_mem_cons.mpr ⟨cl_13, List.forall_mem_cons.mpr ⟨cl_14, List.forall_mem_cons.mpr ⟨cl_15, List.forall_mem_cons.mpr ⟨cl_16, List.forall_mem_cons.mpr ⟨cl_17, List.forall_mem_cons.mpr ⟨cl_18, List.forall_mem_cons.mpr ⟨cl_19, List.forall_mem_cons.mpr ⟨cl_20, List.forall_mem_cons.mpr ⟨cl_21, List.forall_mem_cons.mpr ⟨cl_22, List.forall_mem_cons.mpr ⟨cl_23, List.forall_mem_cons.mpr ⟨cl_24, List.forall_mem_cons.mpr ⟨cl_25, List.forall_mem_cons.mpr ⟨cl_26, List.forall_mem_cons.mpr ⟨cl_27, List.forall_mem_cons.mpr ⟨cl_28, List.forall_mem_cons.mpr ⟨cl_29, List.forall_mem_cons.mpr ⟨cl_30, List.forall_mem_cons.mpr ⟨cl_31, List.forall_mem_cons.mpr ⟨cl_32, List.forall_mem_cons.mpr ⟨cl_33, List.forall_mem_cons.mpr ⟨cl_34, List.forall_mem_cons.mpr ⟨cl_35, List.forall_mem_cons.mpr ⟨cl_36, List.forall_mem_cons.mpr ⟨cl_37, List.forall_mem_cons.mpr ⟨cl_38, List.forall_mem_cons.mpr ⟨cl_39, List.forall_mem_cons.mpr ⟨cl_40, List.forall_mem_cons.mpr ⟨cl_41, List.forall_mem_cons.mpr ⟨cl_42, List.forall_mem_cons.mpr ⟨cl_43, List.forall_mem_cons.mpr ⟨cl_44, List.forall_mem_cons.mpr ⟨cl_45, List.forall_mem_cons.mpr ⟨cl_46, List.forall_mem_cons.mpr ⟨cl_47, List.forall_mem_cons.mpr ⟨cl_48, List.forall_mem_cons.mpr ⟨cl_49, List.forall_mem_cons.mpr ⟨cl_50, List.forall_mem_cons.mpr ⟨cl_51, List.forall_mem_cons.mpr ⟨cl_52, List.forall_mem_cons.mpr ⟨cl_53, List.forall_mem_cons.mpr ⟨cl_54, List.forall_mem_cons.mpr ⟨cl_55, List.forall_mem_cons.mpr ⟨cl_56, List.forall_mem_cons.mpr ⟨cl_57, List.forall_mem_cons.mpr ⟨cl_58, List.forall_mem_cons.mpr ⟨cl_59, List.forall_mem_cons.mpr ⟨cl_60, List.forall_mem_cons.mpr ⟨cl_61, List.forall_mem_cons.mpr ⟨cl_62, List.forall_mem_cons.mpr ⟨cl_63, List.forall_mem_cons.mpr ⟨cl_64, List.forall_mem_cons.mpr ⟨cl_65, List.forall_mem_cons.mpr ⟨cl_66, List.forall_mem_cons.mpr ⟨cl_67, List.forall_mem_cons.mpr ⟨cl_68, List.forall_mem_cons.mpr ⟨cl_69, List.forall_mem_cons.mpr ⟨cl_70, List.forall_mem_cons.mpr ⟨cl_71, List.forall_mem_cons.mpr ⟨cl_72, List.forall_mem_cons.mpr ⟨cl_73, List.forall_mem_cons.mpr ⟨cl_74, List.forall_mem_cons.mpr ⟨cl_75, List.forall_mem_cons.mpr ⟨cl_76, List.forall_mem_cons.mpr ⟨cl_77, List.forall_mem_cons.mpr ⟨cl_78, List.forall_mem_cons.mpr ⟨cl_79, List.forall_mem_cons.mpr ⟨cl_80, List.forall_mem_cons.mpr ⟨cl_81, List.forall_mem_cons.mpr ⟨cl_82, List.forall_mem_cons.mpr ⟨cl_83, List.forall_mem_cons.mpr ⟨cl_84, List.forall_mem_cons.mpr ⟨cl_85, List.forall_mem_cons.mpr ⟨cl_86, List.forall_mem_cons.mpr ⟨cl_87, List.forall_mem_cons.mpr ⟨cl_88, List.forall_mem_cons.mpr ⟨cl_89, List.forall_mem_cons.mpr ⟨cl_90, List.forall_mem_cons.mpr ⟨cl_91, List.forall_mem_cons.mpr ⟨cl_92, List.forall_mem_cons.mpr ⟨cl_93, List.forall_mem_cons.mpr ⟨cl_94, List.forall_mem_cons.mpr ⟨cl_95, List.forall_mem_cons.mpr ⟨cl_96, List.forall_mem_cons.mpr ⟨cl_97, List.forall_mem_cons.mpr ⟨cl_98, List.forall_mem_cons.mpr ⟨cl_99, List.forall_mem_cons.mpr ⟨cl_100, List.forall_mem_cons.mpr ⟨cl_101, List.forall_mem_cons.mpr ⟨cl_102, List.forall_mem_cons.mpr ⟨cl_103, List.forall_mem_cons.mpr ⟨cl_104, List.forall_mem_cons.mpr ⟨cl_105, List.forall_mem_cons.mpr ⟨cl_106, List.forall_mem_cons.mpr ⟨cl_107, List.forall_mem_cons.mpr ⟨cl_108, List.forall_mem_cons.mpr ⟨cl_109, List.forall_mem_cons.mpr ⟨cl_110, List.forall_mem_cons.mpr ⟨cl_111, List.forall_mem_cons.mpr ⟨cl_112, List.forall_mem_cons.mpr ⟨cl_113, List.forall_mem_cons.mpr ⟨cl_114, List.forall_mem_cons.mpr ⟨cl_115, List.forall_mem_cons.mpr ⟨cl_116, List.forall_mem_cons.mpr ⟨cl_117, List.forall_mem_cons.mpr ⟨cl_118, List.forall_mem_cons.mpr ⟨cl_119, List.forall_mem_cons.mpr ⟨cl_120, List.forall_mem_cons.mpr ⟨cl_121, List.forall_mem_cons.mpr ⟨cl_122, List.forall_mem_cons.mpr ⟨cl_123, List.forall_mem_cons.mpr ⟨cl_124, List.forall_mem_cons.mpr ⟨cl_125, List.forall_mem_cons.mpr ⟨cl_126, List.forall_mem_cons.mpr ⟨cl_127, List.forall_mem_cons.mpr ⟨cl_128, List.forall_mem_cons.mpr ⟨cl_129, List.forall_mem_cons.mpr ⟨cl_130, List.forall_mem_cons.mpr ⟨cl_131, List.forall_mem_cons.mpr ⟨cl_132, List.forall_mem_cons.mpr ⟨cl_133, fun _ h => absurd h List.not_mem_nil⟩⟩⟩⟩⟩⟩⟩⟩⟩⟩⟩⟩⟩⟩⟩⟩⟩⟩⟩⟩⟩⟩⟩⟩⟩⟩⟩⟩⟩⟩⟩⟩⟩⟩⟩⟩⟩⟩⟩⟩⟩⟩⟩⟩⟩⟩⟩⟩⟩⟩⟩⟩⟩⟩⟩⟩⟩⟩⟩⟩⟩⟩⟩⟩⟩⟩⟩⟩⟩⟩⟩⟩⟩⟩⟩⟩⟩⟩⟩⟩⟩⟩⟩⟩⟩⟩⟩⟩⟩⟩⟩⟩⟩⟩⟩⟩⟩⟩⟩⟩⟩⟩⟩⟩⟩⟩⟩⟩⟩⟩⟩⟩⟩⟩⟩⟩⟩⟩⟩⟩⟩⟩⟩⟩⟩⟩⟩⟩⟩⟩⟩⟩⟩⟩
/-- links of Object's constructor (51), Math.max (52), Math.min (53), System.arraycopy (54): (kind, own class, place) -/
def MxOk (r : Nat × Nat × Nat) : Prop := (r.1 = 51 → Cond.methodLink (nmC r.2.1) r.2.2 Lib.objectInit ∈ Tg) ∧ (r.1 = 52 → Cond.methodLink (nmC r.2.1) r.2.2 Lib.Math.max.name ∈ Tg) ∧ (r.1 = 53 → Cond.methodLink (nmC r.2.1) r.2.2 Lib.Math.min.name ∈ Tg) ∧ (r.1 = 54 → Cond.methodLink (nmC r.2.1) r.2.2 arraycopyName ∈ Tg)
theorem mx_0 : MxOk (51, 0, 3) := ⟨fun _ => tg_mem 120 (by decide +kernel) rfl, fun h => absurd h (by decide), fun h => absurd h (by decide), fun h => absurd h (by decide)⟩
theorem mx_1 : MxOk (51, 1, 3) := ⟨fun _ => tg_mem 192 (by decide +kernel) rfl, fun h => absurd h (by decide), fun h => absurd h (by decide), fun h => absurd h (by decide)⟩
theorem mx_2 : MxOk (51, 2, 3) := ⟨fun _ => tg_mem 72 (by decide +kernel) rfl, fun h => absurd h (by decide), fun h => absurd h (by decide), fun h => absurd h (by decide)⟩
theorem mx_3 : MxOk (51, 3, 3) := ⟨fun _ => tg_mem 248 (by decide +kernel) rfl, fun h => absurd h (by decide), fun h => absurd h (by decide), fun h => absurd h (by decide)⟩
theorem mx_4 : MxOk (51, 4, 3) := ⟨fun _ => tg_mem 40 (by decide +kernel) rfl, fun h => absurd h (by decide), fun h => absurd h (by decide), fun h => absurd h (by decide)⟩
theorem mx_5 : MxOk (51, 5, 3) := ⟨fun _ => tg_mem 46 (by decide +kernel) rfl, fun h => absurd h (by decide), fun h => absurd h (by decide), fun h => absurd h (by decide)⟩
theorem mx_6 : MxOk (51, 6, 5) := ⟨fun _ => tg_mem 209 (by decide +kernel) rfl, fun h => absurd h (by decide), fun h => absurd h (by decide), fun h => absurd h (by decide)⟩
theorem mx_7 : MxOk (51, 7, 3) := ⟨fun _ => tg_mem 52 (by decide +kernel) rfl, fun h => absurd h (by decide), fun h => absurd h (by decide), fun h => absurd h (by decide)⟩
theorem mx_8 : MxOk (51, 8, 1) := ⟨fun _ => tg_mem 32 (by decide +kernel) rfl, fun h => absurd h (by decide), fun h => absurd h (by decide), fun h => absurd h (by decide)⟩
theorem mx_9 : MxOk (52, 5, 82) := ⟨fun h => absurd h (by decide), fun _ => tg_mem 555 (by decide +kernel) rfl, fun h => absurd h (by decide), fun h => absurd h (by decide)⟩
theorem mx_10 : MxOk (52, 7, 32) := ⟨fun h => absurd h (by decide), fun _ => tg_mem 59 (by decide +kernel) rfl, fun h => absurd h (by decide), fun h => absurd h (by decide)⟩
theorem mx_11 : MxOk (53, 5, 113) := ⟨fun h => absurd h (by decide), fun h => absurd h (by decide), fun _ => tg_mem 397 (by decide +kernel) rfl, fun h => absurd h (by decide)⟩
theorem mx_12 : MxOk (54, 0, 25) := ⟨fun h => absurd h (by decide), fun h => absurd h (by decide), fun h => absurd h (by decide), fun _ => tg_mem 313 (by decide +kernel) rfl⟩
theorem mx_13 : MxOk (54, 2, 36) := ⟨fun h => absurd h (by decide), fun h => absurd h (by decide), fun h => absurd h (by decide), fun _ => tg_mem 308 (by decide +kernel) rfl⟩
theorem mx_14 : MxOk (54, 5, 56) := ⟨fun h => absurd h (by decide), fun h => absurd h (by decide), fun h => absurd h (by decide), fun _ => tg_mem 314 (by decide +kernel) rfl⟩
theorem mx_15 : MxOk (54, 7, 22) := ⟨fun h => absurd h (by decide), fun h => absurd h (by decide), fun h => absurd h (by decide), fun _ => tg_mem 301 (by decide +kernel) rfl⟩
def mxT : List (Nat × Nat × Nat) := [(51, 0, 3), (51, 1, 3), (51, 2, 3), (51, 3, 3), (51, 4, 3), (51, 5, 3), (51, 6, 5), (51, 7, 3), (51, 8, 1), (52, 5, 82), (52, 7, 32), (53, 5, 113), (54, 0, 25), (54, 2, 36), (54, 5, 56), (54, 7, 22)]
theorem mxT_ok : ∀ r ∈ mxT, MxOk r := List.forall_mem_cons.mpr ⟨mx_0, List.forall_mem_cons.mpr ⟨mx_1, List.forall_mem_cons.mpr ⟨mx_2, List.forall_mem_cons.mpr ⟨mx_3, List.forall_mem_cons.mpr ⟨mx_4, List.forall_mem_cons.mpr ⟨mx_5, List.forall_mem_cons.mpr ⟨mx_6, List.forall_mem_cons.mpr ⟨mx_7, List.forall_mem_cons.mpr ⟨mx_8, List.forall_mem_cons.mpr ⟨mx_9, List.forall_mem_cons.mpr ⟨mx_10, List.forall_mem_cons.mpr ⟨mx_11, List.forall_mem_cons.mpr ⟨mx_12, List.forall_mem_cons.mpr ⟨mx_13, List.forall_mem_cons.mpr ⟨mx_14, List.forall_mem_cons.mpr ⟨mx_15, fun _ h => absurd h List.not_mem_nil⟩⟩⟩⟩⟩⟩⟩⟩⟩⟩⟩⟩⟩⟩⟩⟩
theorem oi_inst : Cond.instanceMethod Lib.objectInit ∈ Tg := tg_mem 33 (by decide +kernel) rfl
theorem oi_code : Cond.code Lib.objectInit ⟨#[0xb1]⟩ 1 none ∈ Tg := tg_mem 34 (by decide +kernel) rfl
theorem mx_stat : Cond.static Lib.Math.max.name ∈ Tg := tg_mem 60 (by decide +kernel) rfl
theorem mx_code : Cond.code Lib.Math.max.name Lib.Math.max.code 2 (some .int) ∈ Tg := tg_mem 61 (by decide +kernel) rfl
theorem mn_stat : Cond.static Lib.Math.min.name ∈ Tg := tg_mem 398 (by decide +kernel) rfl
theorem mn_code : Cond.code Lib.Math.min.name Lib.Math.min.code 2 (some .int) ∈ Tg := tg_mem 399 (by decide +kernel) rfl
theorem mt_ini : Cond.initialized "java/lang/Math" ∈ Tg := tg_mem 20 (by decide +kernel) rfl
theorem sy_ini : Cond.initialized "java/lang/System" ∈ Tg := tg_mem 26 (by decide +kernel) rfl
theorem ac_stat : Cond.static arraycopyName ∈ Tg := tg_mem 302 (by decide +kernel) rfl
theorem ac_nat : Cond.native arraycopyName ∈ Tg := tg_mem 303 (by decide +kernel) rfl
