-- ===== PART A: goes FIRST, ahead of the names: the tables' words, and 'selects' of the private methods out of them =====
/-- a private method of a class that the tables say can be made, by its rows of tables_1 -/
def lw_okq (q : MethodName × Nat) : Prop := (q.1.cls ≠ "java/lang/invoke/MethodHandle" ∧ q.1.cls ≠ "java/lang/invoke/VarHandle") ∧ Cond.instantiable q.1.cls q.2 ∈ tables_1 ∧ Cond.privateMethod q.1 ∈ tables_1 ∧ Cond.instanceMethod q.1 ∈ tables_1
theorem lw_p0 : lw_okq (⟨"WaterTwice$Steps", "commonLower", "()J"⟩, 5) := ⟨⟨by decide +kernel, by decide +kernel⟩, List.mem_of_getElem? (i := 21) (by decide +kernel), List.mem_of_getElem? (i := 236) (by decide +kernel), List.mem_of_getElem? (i := 237) (by decide +kernel)⟩
theorem lw_p1 : lw_okq (⟨"WaterTwice$Steps", "span", "(I)I"⟩, 5) := ⟨⟨by decide +kernel, by decide +kernel⟩, List.mem_of_getElem? (i := 21) (by decide +kernel), List.mem_of_getElem? (i := 240) (by decide +kernel), List.mem_of_getElem? (i := 241) (by decide +kernel)⟩
theorem lw_p2 : lw_okq (⟨"WaterTwice$Steps", "dirtBelow", "(IJ)J"⟩, 5) := ⟨⟨by decide +kernel, by decide +kernel⟩, List.mem_of_getElem? (i := 21) (by decide +kernel), List.mem_of_getElem? (i := 245) (by decide +kernel), List.mem_of_getElem? (i := 246) (by decide +kernel)⟩
theorem lw_p3 : lw_okq (⟨"WaterTwice$Steps", "better", "(IIJ)I"⟩, 5) := ⟨⟨by decide +kernel, by decide +kernel⟩, List.mem_of_getElem? (i := 21) (by decide +kernel), List.mem_of_getElem? (i := 274) (by decide +kernel), List.mem_of_getElem? (i := 275) (by decide +kernel)⟩
theorem lw_p4 : lw_okq (⟨"WaterTwice$Design", "takeInOrder", "()V"⟩, 8) := ⟨⟨by decide +kernel, by decide +kernel⟩, List.mem_of_getElem? (i := 67) (by decide +kernel), List.mem_of_getElem? (i := 321) (by decide +kernel), List.mem_of_getElem? (i := 322) (by decide +kernel)⟩
theorem lw_p5 : lw_okq (⟨"WaterTwice$Design", "hasOnlyOfTaken", "(I)Z"⟩, 8) := ⟨⟨by decide +kernel, by decide +kernel⟩, List.mem_of_getElem? (i := 67) (by decide +kernel), List.mem_of_getElem? (i := 325) (by decide +kernel), List.mem_of_getElem? (i := 326) (by decide +kernel)⟩
theorem lw_p6 : lw_okq (⟨"WaterTwice$Design", "soil", "(I)V"⟩, 8) := ⟨⟨by decide +kernel, by decide +kernel⟩, List.mem_of_getElem? (i := 67) (by decide +kernel), List.mem_of_getElem? (i := 337) (by decide +kernel), List.mem_of_getElem? (i := 338) (by decide +kernel)⟩
theorem lw_p7 : lw_okq (⟨"WaterTwice$Design", "hitBehindOthers", "(I)I"⟩, 8) := ⟨⟨by decide +kernel, by decide +kernel⟩, List.mem_of_getElem? (i := 67) (by decide +kernel), List.mem_of_getElem? (i := 374) (by decide +kernel), List.mem_of_getElem? (i := 375) (by decide +kernel)⟩
theorem lw_p8 : lw_okq (⟨"WaterTwiceModel", "isStep", "(I)Z"⟩, 20) := ⟨⟨by decide +kernel, by decide +kernel⟩, List.mem_of_getElem? (i := 475) (by decide +kernel), List.mem_of_getElem? (i := 557) (by decide +kernel), List.mem_of_getElem? (i := 558) (by decide +kernel)⟩
theorem lw_p9 : lw_okq (⟨"WaterTwiceModel", "limitOf", "(II)I"⟩, 20) := ⟨⟨by decide +kernel, by decide +kernel⟩, List.mem_of_getElem? (i := 475) (by decide +kernel), List.mem_of_getElem? (i := 575) (by decide +kernel), List.mem_of_getElem? (i := 576) (by decide +kernel)⟩
theorem lw_p10 : lw_okq (⟨"WaterTwiceModel", "below", "()J"⟩, 20) := ⟨⟨by decide +kernel, by decide +kernel⟩, List.mem_of_getElem? (i := 475) (by decide +kernel), List.mem_of_getElem? (i := 584) (by decide +kernel), List.mem_of_getElem? (i := 585) (by decide +kernel)⟩
theorem lw_p11 : lw_okq (⟨"WaterTwiceModel", "dirtOf", "(IJ)J"⟩, 20) := ⟨⟨by decide +kernel, by decide +kernel⟩, List.mem_of_getElem? (i := 475) (by decide +kernel), List.mem_of_getElem? (i := 591) (by decide +kernel), List.mem_of_getElem? (i := 592) (by decide +kernel)⟩
theorem lw_p12 : lw_okq (⟨"WaterTwiceModel", "pinch", "()I"⟩, 20) := ⟨⟨by decide +kernel, by decide +kernel⟩, List.mem_of_getElem? (i := 475) (by decide +kernel), List.mem_of_getElem? (i := 599) (by decide +kernel), List.mem_of_getElem? (i := 600) (by decide +kernel)⟩
theorem lw_p13 : lw_okq (⟨"WaterTwiceModel", "comes", "(I)I"⟩, 20) := ⟨⟨by decide +kernel, by decide +kernel⟩, List.mem_of_getElem? (i := 475) (by decide +kernel), List.mem_of_getElem? (i := 615) (by decide +kernel), List.mem_of_getElem? (i := 616) (by decide +kernel)⟩
theorem lw_p14 : lw_okq (⟨"WaterTwiceModel", "goes", "(I)I"⟩, 20) := ⟨⟨by decide +kernel, by decide +kernel⟩, List.mem_of_getElem? (i := 475) (by decide +kernel), List.mem_of_getElem? (i := 619) (by decide +kernel), List.mem_of_getElem? (i := 620) (by decide +kernel)⟩
theorem lw_p15 : lw_okq (⟨"WaterTwiceModel", "failsFirst", "()I"⟩, 20) := ⟨⟨by decide +kernel, by decide +kernel⟩, List.mem_of_getElem? (i := 475) (by decide +kernel), List.mem_of_getElem? (i := 627) (by decide +kernel), List.mem_of_getElem? (i := 628) (by decide +kernel)⟩
def lw_privs_1 : List (MethodName × Nat) := [(⟨"WaterTwice$Steps", "commonLower", "()J"⟩, 5), (⟨"WaterTwice$Steps", "span", "(I)I"⟩, 5), (⟨"WaterTwice$Steps", "dirtBelow", "(IJ)J"⟩, 5), (⟨"WaterTwice$Steps", "better", "(IIJ)I"⟩, 5), (⟨"WaterTwice$Design", "takeInOrder", "()V"⟩, 8), (⟨"WaterTwice$Design", "hasOnlyOfTaken", "(I)Z"⟩, 8), (⟨"WaterTwice$Design", "soil", "(I)V"⟩, 8), (⟨"WaterTwice$Design", "hitBehindOthers", "(I)I"⟩, 8), (⟨"WaterTwiceModel", "isStep", "(I)Z"⟩, 20), (⟨"WaterTwiceModel", "limitOf", "(II)I"⟩, 20), (⟨"WaterTwiceModel", "below", "()J"⟩, 20), (⟨"WaterTwiceModel", "dirtOf", "(IJ)J"⟩, 20), (⟨"WaterTwiceModel", "pinch", "()I"⟩, 20), (⟨"WaterTwiceModel", "comes", "(I)I"⟩, 20), (⟨"WaterTwiceModel", "goes", "(I)I"⟩, 20), (⟨"WaterTwiceModel", "failsFirst", "()I"⟩, 20)]
theorem lw_r1 : ∀ q ∈ lw_privs_1, lw_okq q := List.forall_mem_cons.mpr ⟨lw_p0, List.forall_mem_cons.mpr ⟨lw_p1, List.forall_mem_cons.mpr ⟨lw_p2, List.forall_mem_cons.mpr ⟨lw_p3, List.forall_mem_cons.mpr ⟨lw_p4, List.forall_mem_cons.mpr ⟨lw_p5, List.forall_mem_cons.mpr ⟨lw_p6, List.forall_mem_cons.mpr ⟨lw_p7, List.forall_mem_cons.mpr ⟨lw_p8, List.forall_mem_cons.mpr ⟨lw_p9, List.forall_mem_cons.mpr ⟨lw_p10, List.forall_mem_cons.mpr ⟨lw_p11, List.forall_mem_cons.mpr ⟨lw_p12, List.forall_mem_cons.mpr ⟨lw_p13, List.forall_mem_cons.mpr ⟨lw_p14, List.forall_mem_cons.mpr ⟨lw_p15, fun _ h => absurd h List.not_mem_nil⟩⟩⟩⟩⟩⟩⟩⟩⟩⟩⟩⟩⟩⟩⟩⟩
theorem lw_p16 : lw_okq (⟨"WaterTwiceModel", "takes", "(I)V"⟩, 20) := ⟨⟨by decide +kernel, by decide +kernel⟩, List.mem_of_getElem? (i := 475) (by decide +kernel), List.mem_of_getElem? (i := 631) (by decide +kernel), List.mem_of_getElem? (i := 632) (by decide +kernel)⟩
theorem lw_p17 : lw_okq (⟨"WaterTwiceModel", "isMeter", "(I)Z"⟩, 20) := ⟨⟨by decide +kernel, by decide +kernel⟩, List.mem_of_getElem? (i := 475) (by decide +kernel), List.mem_of_getElem? (i := 670) (by decide +kernel), List.mem_of_getElem? (i := 671) (by decide +kernel)⟩
theorem lw_p18 : lw_okq (⟨"WaterTwiceModel", "missing", "()I"⟩, 20) := ⟨⟨by decide +kernel, by decide +kernel⟩, List.mem_of_getElem? (i := 475) (by decide +kernel), List.mem_of_getElem? (i := 681) (by decide +kernel), List.mem_of_getElem? (i := 682) (by decide +kernel)⟩
theorem lw_p19 : lw_okq (⟨"WaterTwiceModel", "gapOf", "()J"⟩, 20) := ⟨⟨by decide +kernel, by decide +kernel⟩, List.mem_of_getElem? (i := 475) (by decide +kernel), List.mem_of_getElem? (i := 685) (by decide +kernel), List.mem_of_getElem? (i := 686) (by decide +kernel)⟩
def lw_privs_2 : List (MethodName × Nat) := [(⟨"WaterTwiceModel", "takes", "(I)V"⟩, 20), (⟨"WaterTwiceModel", "isMeter", "(I)Z"⟩, 20), (⟨"WaterTwiceModel", "missing", "()I"⟩, 20), (⟨"WaterTwiceModel", "gapOf", "()J"⟩, 20)]
theorem lw_r2 : ∀ q ∈ lw_privs_2, lw_okq q := List.forall_mem_cons.mpr ⟨lw_p16, List.forall_mem_cons.mpr ⟨lw_p17, List.forall_mem_cons.mpr ⟨lw_p18, List.forall_mem_cons.mpr ⟨lw_p19, fun _ h => absurd h List.not_mem_nil⟩⟩⟩⟩
def lw_privs : List (MethodName × Nat) := lw_privs_1 ++ (lw_privs_2)
def lw_tbl : List Cond := k2_sels lw_privs ++ tables_1
theorem lw_privs_ok : ∀ q ∈ lw_privs, lw_okq q := by
  show ∀ q ∈ lw_privs_1 ++ (lw_privs_2), lw_okq q
  exact List.forall_mem_append.mpr ⟨lw_r1, lw_r2⟩
def RX0 : String := "WaterTwice$Basin"
def TX0 : u_T := fun k => match k with
  | _ => ("", "", "", false)
def tyX0 : Nat → FieldType := fun k => match k with
  | _ => .int
abbrev wsX00 : List Cond := u_ws RX0 TX0 0
theorem nmX0 : ∀ a, a < 0 → ∀ b, b < 0 → a ≠ b → (TX0 a).2.1 ≠ (TX0 b).2.1 := by decide +kernel
theorem tyX0_ok : ∀ k, k < 0 → parseFieldDescriptor (TX0 k).2.2.1 = some (tyX0 k) := by decide +kernel
abbrev cX0_tellSteady : ByteArray := prog_2_method_2_code
def yX0_tellSteady : MethodName := ⟨RX0, "tellSteady", "(IIIIZ)I"⟩
abbrev cX0_behindAnHour : ByteArray := prog_2_method_3_code
def yX0_behindAnHour : MethodName := ⟨RX0, "behindAnHour", "(JIII)J"⟩
def RX1 : String := "WaterTwice$Design"
def TX1 : u_T := fun k => match k with
  | 0 => ("WaterTwice$Design", "steps", "LWaterTwice$Steps;", true)
  | 1 => ("WaterTwice$Design", "fresh", "[I", true)
  | 2 => ("WaterTwice$Design", "pipes", "[[I", true)
  | 3 => ("WaterTwice$Design", "taken", "[Z", true)
  | 4 => ("WaterTwice$Design", "order", "[I", true)
  | 5 => ("WaterTwice$Design", "comes", "[LWaterTwice$Fraction;", true)
  | 6 => ("WaterTwice$Design", "ends", "[LWaterTwice$Fraction;", true)
  | _ => ("WaterTwice$Design", "hitIn", "[I", true)
def tyX1 : Nat → FieldType := fun k => match k with
  | 0 => .object "WaterTwice$Steps"
  | 1 => .array .int
  | 2 => .array (.array .int)
  | 3 => .array .boolean
  | 4 => .array .int
  | 5 => .array (.object "WaterTwice$Fraction")
  | 6 => .array (.object "WaterTwice$Fraction")
  | _ => .array .int
abbrev wsX10 : List Cond := u_ws RX1 TX1 8
theorem nmX1 : ∀ a, a < 8 → ∀ b, b < 8 → a ≠ b → (TX1 a).2.1 ≠ (TX1 b).2.1 := by decide +kernel
theorem tyX1_ok : ∀ k, k < 8 → parseFieldDescriptor (TX1 k).2.2.1 = some (tyX1 k) := by decide +kernel
abbrev cX1_init : ByteArray := prog_3_method_1_code
def yX1_init : MethodName := ⟨RX1, "<init>", "(LWaterTwice$Steps;)V"⟩
abbrev cX1_comingTo : ByteArray := prog_3_method_2_code
def yX1_comingTo : MethodName := ⟨RX1, "comingTo", "(I)I"⟩
abbrev cX1_goingFrom : ByteArray := prog_3_method_3_code
def yX1_goingFrom : MethodName := ⟨RX1, "goingFrom", "(I)I"⟩
abbrev cX1_allFresh : ByteArray := prog_3_method_4_code
def yX1_allFresh : MethodName := ⟨RX1, "allFresh", "()I"⟩
abbrev cX1_pipesInUse : ByteArray := prog_3_method_5_code
def yX1_pipesInUse : MethodName := ⟨RX1, "pipesInUse", "()I"⟩
abbrev cX1_flawOfFlow : ByteArray := prog_3_method_6_code
def yX1_flawOfFlow : MethodName := ⟨RX1, "flawOfFlow", "()I"⟩
abbrev cX1_flawOfDirt : ByteArray := prog_3_method_7_code
def yX1_flawOfDirt : MethodName := ⟨RX1, "flawOfDirt", "(LWaterTwice$Limits;)I"⟩
abbrev cX1_spreadDirt : ByteArray := prog_3_method_8_code
def yX1_spreadDirt : MethodName := ⟨RX1, "spreadDirt", "()V"⟩
abbrev cX1_soil : ByteArray := prog_3_method_9_code
def yX1_soil : MethodName := ⟨RX1, "soil", "(I)V"⟩
abbrev cX1_takeInOrder : ByteArray := prog_3_method_10_code
def yX1_takeInOrder : MethodName := ⟨RX1, "takeInOrder", "()V"⟩
abbrev cX1_hasOnlyOfTaken : ByteArray := prog_3_method_11_code
def yX1_hasOnlyOfTaken : MethodName := ⟨RX1, "hasOnlyOfTaken", "(I)Z"⟩
abbrev cX1_spreadUpset : ByteArray := prog_3_method_12_code
def yX1_spreadUpset : MethodName := ⟨RX1, "spreadUpset", "(II)V"⟩
abbrev cX1_hitBehindOthers : ByteArray := prog_3_method_13_code
def yX1_hitBehindOthers : MethodName := ⟨RX1, "hitBehindOthers", "(I)I"⟩
def RX2 : String := "WaterTwice$Fraction"
def TX2 : u_T := fun k => match k with
  | 0 => ("WaterTwice$Fraction", "upper", "J", false)
  | _ => ("WaterTwice$Fraction", "lower", "J", false)
def tyX2 : Nat → FieldType := fun k => match k with
  | 0 => .long
  | _ => .long
abbrev wsX20 : List Cond := u_ws RX2 TX2 2
theorem nmX2 : ∀ a, a < 2 → ∀ b, b < 2 → a ≠ b → (TX2 a).2.1 ≠ (TX2 b).2.1 := by decide +kernel
theorem tyX2_ok : ∀ k, k < 2 → parseFieldDescriptor (TX2 k).2.2.1 = some (tyX2 k) := by decide +kernel
abbrev cX2_init : ByteArray := prog_4_method_1_code
def yX2_init : MethodName := ⟨RX2, "<init>", "()V"⟩
abbrev cX2_become : ByteArray := prog_4_method_2_code
def yX2_become : MethodName := ⟨RX2, "become", "(JJ)V"⟩
abbrev cX2_addTimes : ByteArray := prog_4_method_3_code
def yX2_addTimes : MethodName := ⟨RX2, "addTimes", "(LWaterTwice$Fraction;I)V"⟩
abbrev cX2_addWhole : ByteArray := prog_4_method_4_code
def yX2_addWhole : MethodName := ⟨RX2, "addWhole", "(I)V"⟩
abbrev cX2_divideBy : ByteArray := prog_4_method_5_code
def yX2_divideBy : MethodName := ⟨RX2, "divideBy", "(I)V"⟩
abbrev cX2_isAbove : ByteArray := prog_4_method_6_code
def yX2_isAbove : MethodName := ⟨RX2, "isAbove", "(I)Z"⟩
abbrev cX2_part : ByteArray := prog_4_method_7_code
def yX2_part : MethodName := ⟨RX2, "part", "(I)J"⟩
abbrev cX2_commonDivisor : ByteArray := prog_4_method_8_code
def yX2_commonDivisor : MethodName := ⟨RX2, "commonDivisor", "(JJ)J"⟩
def RX3 : String := "WaterTwice$Limits"
def TX3 : u_T := fun k => match k with
  | 0 => ("WaterTwice$Limits", "steps", "LWaterTwice$Steps;", true)
  | _ => ("WaterTwice$Limits", "settings", "[I", true)
def tyX3 : Nat → FieldType := fun k => match k with
  | 0 => .object "WaterTwice$Steps"
  | _ => .array .int
abbrev wsX30 : List Cond := u_ws RX3 TX3 2
theorem nmX3 : ∀ a, a < 2 → ∀ b, b < 2 → a ≠ b → (TX3 a).2.1 ≠ (TX3 b).2.1 := by decide +kernel
theorem tyX3_ok : ∀ k, k < 2 → parseFieldDescriptor (TX3 k).2.2.1 = some (tyX3 k) := by decide +kernel
abbrev cX3_init : ByteArray := prog_5_method_1_code
def yX3_init : MethodName := ⟨RX3, "<init>", "(LWaterTwice$Steps;)V"⟩
abbrev cX3_isSetting : ByteArray := prog_5_method_2_code
def yX3_isSetting : MethodName := ⟨RX3, "isSetting", "(I)Z"⟩
abbrev cX3_tracesOf : ByteArray := prog_5_method_3_code
def yX3_tracesOf : MethodName := ⟨RX3, "tracesOf", "(I)I"⟩
abbrev cX3_atHand : ByteArray := prog_5_method_4_code
def yX3_atHand : MethodName := ⟨RX3, "atHand", "()I"⟩
abbrev cX3_by : ByteArray := prog_5_method_5_code
def yX3_by : MethodName := ⟨RX3, "by", "(II)I"⟩
def RX4 : String := "WaterTwice$Meters"
def TX4 : u_T := fun k => match k with
  | 0 => ("WaterTwice$Meters", "sign", "[I", true)
  | 1 => ("WaterTwice$Meters", "reading", "[I", true)
  | _ => ("WaterTwice$Meters", "size", "I", false)
def tyX4 : Nat → FieldType := fun k => match k with
  | 0 => .array .int
  | 1 => .array .int
  | _ => .int
abbrev wsX40 : List Cond := u_ws RX4 TX4 3
theorem nmX4 : ∀ a, a < 3 → ∀ b, b < 3 → a ≠ b → (TX4 a).2.1 ≠ (TX4 b).2.1 := by decide +kernel
theorem tyX4_ok : ∀ k, k < 3 → parseFieldDescriptor (TX4 k).2.2.1 = some (tyX4 k) := by decide +kernel
abbrev cX4_init : ByteArray := prog_6_method_1_code
def yX4_init : MethodName := ⟨RX4, "<init>", "()V"⟩
abbrev cX4_has : ByteArray := prog_6_method_2_code
def yX4_has : MethodName := ⟨RX4, "has", "(I)Z"⟩
abbrev cX4_append : ByteArray := prog_6_method_3_code
def yX4_append : MethodName := ⟨RX4, "append", "(I)I"⟩
abbrev cX4_sum : ByteArray := prog_6_method_4_code
def yX4_sum : MethodName := ⟨RX4, "sum", "()J"⟩
abbrev cX4_missing : ByteArray := prog_6_method_5_code
def yX4_missing : MethodName := ⟨RX4, "missing", "()I"⟩
abbrev cX4_told : ByteArray := prog_6_method_6_code
def yX4_told : MethodName := ⟨RX4, "told", "()I"⟩
abbrev cX4_toldAs : ByteArray := prog_6_method_7_code
def yX4_toldAs : MethodName := ⟨RX4, "toldAs", "()J"⟩
abbrev cX4_tellMended : ByteArray := prog_6_method_8_code
def yX4_tellMended : MethodName := ⟨RX4, "tellMended", "(ILWaterTwice$Fraction;)V"⟩
def RX5 : String := "WaterTwice$Steps"
def TX5 : u_T := fun k => match k with
  | 0 => ("WaterTwice$Steps", "load", "[I", true)
  | 1 => ("WaterTwice$Steps", "in", "[I", true)
  | 2 => ("WaterTwice$Steps", "out", "[I", true)
  | 3 => ("WaterTwice$Steps", "lag", "[I", true)
  | _ => ("WaterTwice$Steps", "size", "I", false)
def tyX5 : Nat → FieldType := fun k => match k with
  | 0 => .array .int
  | 1 => .array .int
  | 2 => .array .int
  | 3 => .array .int
  | _ => .int
abbrev wsX50 : List Cond := u_ws RX5 TX5 5
theorem nmX5 : ∀ a, a < 5 → ∀ b, b < 5 → a ≠ b → (TX5 a).2.1 ≠ (TX5 b).2.1 := by decide +kernel
theorem tyX5_ok : ∀ k, k < 5 → parseFieldDescriptor (TX5 k).2.2.1 = some (tyX5 k) := by decide +kernel
abbrev cX5_init : ByteArray := prog_7_method_1_code
def yX5_init : MethodName := ⟨RX5, "<init>", "()V"⟩
abbrev cX5_has : ByteArray := prog_7_method_2_code
def yX5_has : MethodName := ⟨RX5, "has", "(I)Z"⟩
abbrev cX5_append : ByteArray := prog_7_method_3_code
def yX5_append : MethodName := ⟨RX5, "append", "(III)I"⟩
abbrev cX5_tellDirtBelow : ByteArray := prog_7_method_4_code
def yX5_tellDirtBelow : MethodName := ⟨RX5, "tellDirtBelow", "(ILWaterTwice$Fraction;)V"⟩
abbrev cX5_tellLeastFresh : ByteArray := prog_7_method_5_code
def yX5_tellLeastFresh : MethodName := ⟨RX5, "tellLeastFresh", "(ILWaterTwice$Fraction;)V"⟩
abbrev cX5_pinch : ByteArray := prog_7_method_6_code
def yX5_pinch : MethodName := ⟨RX5, "pinch", "()I"⟩
abbrev cX5_better : ByteArray := prog_7_method_7_code
def yX5_better : MethodName := ⟨RX5, "better", "(IIJ)I"⟩
abbrev cX5_commonLower : ByteArray := prog_7_method_8_code
def yX5_commonLower : MethodName := ⟨RX5, "commonLower", "()J"⟩
abbrev cX5_dirtBelow : ByteArray := prog_7_method_9_code
def yX5_dirtBelow : MethodName := ⟨RX5, "dirtBelow", "(IJ)J"⟩
abbrev cX5_span : ByteArray := prog_7_method_10_code
def yX5_span : MethodName := ⟨RX5, "span", "(I)I"⟩
def RX6 : String := "WaterTwice$Store"
def TX6 : u_T := fun k => match k with
  | 0 => ("WaterTwice$Store", "in", "[I", true)
  | _ => ("WaterTwice$Store", "out", "[I", true)
def tyX6 : Nat → FieldType := fun k => match k with
  | 0 => .array .int
  | _ => .array .int
abbrev wsX60 : List Cond := u_ws RX6 TX6 2
theorem nmX6 : ∀ a, a < 2 → ∀ b, b < 2 → a ≠ b → (TX6 a).2.1 ≠ (TX6 b).2.1 := by decide +kernel
theorem tyX6_ok : ∀ k, k < 2 → parseFieldDescriptor (TX6 k).2.2.1 = some (tyX6 k) := by decide +kernel
abbrev cX6_init : ByteArray := prog_8_method_1_code
def yX6_init : MethodName := ⟨RX6, "<init>", "()V"⟩
abbrev cX6_leastBegun : ByteArray := prog_8_method_2_code
def yX6_leastBegun : MethodName := ⟨RX6, "leastBegun", "()I"⟩
abbrev cX6_mostHeld : ByteArray := prog_8_method_3_code
def yX6_mostHeld : MethodName := ⟨RX6, "mostHeld", "(I)I"⟩
def RX7 : String := "WaterTwice"
def TX7 : u_T := fun k => match k with
  | 0 => ("WaterTwice", "steps", "LWaterTwice$Steps;", true)
  | 1 => ("WaterTwice", "limits", "LWaterTwice$Limits;", true)
  | 2 => ("WaterTwice", "design", "LWaterTwice$Design;", true)
  | 3 => ("WaterTwice", "hours", "LWaterTwice$Store;", true)
  | 4 => ("WaterTwice", "meters", "LWaterTwice$Meters;", true)
  | 5 => ("WaterTwice", "answer", "LWaterTwice$Fraction;", true)
  | _ => ("WaterTwice", "traced", "J", false)
def tyX7 : Nat → FieldType := fun k => match k with
  | 0 => .object "WaterTwice$Steps"
  | 1 => .object "WaterTwice$Limits"
  | 2 => .object "WaterTwice$Design"
  | 3 => .object "WaterTwice$Store"
  | 4 => .object "WaterTwice$Meters"
  | 5 => .object "WaterTwice$Fraction"
  | _ => .long
abbrev wsX70 : List Cond := u_ws RX7 TX7 7
theorem nmX7 : ∀ a, a < 7 → ∀ b, b < 7 → a ≠ b → (TX7 a).2.1 ≠ (TX7 b).2.1 := by decide +kernel
theorem tyX7_ok : ∀ k, k < 7 → parseFieldDescriptor (TX7 k).2.2.1 = some (tyX7 k) := by decide +kernel
abbrev cX7_init : ByteArray := prog_1_method_1_code
def yX7_init : MethodName := ⟨RX7, "<init>", "()V"⟩
abbrev cX7_step : ByteArray := prog_1_method_2_code
def yX7_step : MethodName := ⟨RX7, "step", "(III)I"⟩
abbrev cX7_change : ByteArray := prog_1_method_3_code
def yX7_change : MethodName := ⟨RX7, "change", "(III)I"⟩
abbrev cX7_set : ByteArray := prog_1_method_4_code
def yX7_set : MethodName := ⟨RX7, "set", "(II)I"⟩
abbrev cX7_limit : ByteArray := prog_1_method_5_code
def yX7_limit : MethodName := ⟨RX7, "limit", "(II)I"⟩
abbrev cX7_dirt : ByteArray := prog_1_method_6_code
def yX7_dirt : MethodName := ⟨RX7, "dirt", "(II)J"⟩
abbrev cX7_least : ByteArray := prog_1_method_7_code
def yX7_least : MethodName := ⟨RX7, "least", "(I)J"⟩
abbrev cX7_fresh : ByteArray := prog_1_method_8_code
def yX7_fresh : MethodName := ⟨RX7, "fresh", "(II)I"⟩
abbrev cX7_pipe : ByteArray := prog_1_method_9_code
def yX7_pipe : MethodName := ⟨RX7, "pipe", "(III)I"⟩
abbrev cX7_water : ByteArray := prog_1_method_10_code
def yX7_water : MethodName := ⟨RX7, "water", "(II)I"⟩
abbrev cX7_fails : ByteArray := prog_1_method_11_code
def yX7_fails : MethodName := ⟨RX7, "fails", "()I"⟩
abbrev cX7_at : ByteArray := prog_1_method_12_code
def yX7_at : MethodName := ⟨RX7, "at", "(II)J"⟩
abbrev cX7_hit : ByteArray := prog_1_method_13_code
def yX7_hit : MethodName := ⟨RX7, "hit", "(III)I"⟩
abbrev cX7_steady : ByteArray := prog_1_method_14_code
def yX7_steady : MethodName := ⟨RX7, "steady", "(IIIII)I"⟩
abbrev cX7_store : ByteArray := prog_1_method_15_code
def yX7_store : MethodName := ⟨RX7, "store", "(III)I"⟩
abbrev cX7_room : ByteArray := prog_1_method_16_code
def yX7_room : MethodName := ⟨RX7, "room", "(I)I"⟩
abbrev cX7_meter : ByteArray := prog_1_method_17_code
def yX7_meter : MethodName := ⟨RX7, "meter", "(I)I"⟩
abbrev cX7_read : ByteArray := prog_1_method_18_code
def yX7_read : MethodName := ⟨RX7, "read", "(II)I"⟩
abbrev cX7_gap : ByteArray := prog_1_method_19_code
def yX7_gap : MethodName := ⟨RX7, "gap", "(I)J"⟩
abbrev cX7_mended : ByteArray := prog_1_method_20_code
def yX7_mended : MethodName := ⟨RX7, "mended", "(II)J"⟩
abbrev cX7_count : ByteArray := prog_1_method_21_code
def yX7_count : MethodName := ⟨RX7, "count", "(I)I"⟩
abbrev cX7_trace : ByteArray := prog_1_method_22_code
def yX7_trace : MethodName := ⟨RX7, "trace", "()J"⟩
abbrev cX7_within : ByteArray := prog_1_method_23_code
def yX7_within : MethodName := ⟨RX7, "within", "(III)Z"⟩
abbrev cX7_isPart : ByteArray := prog_1_method_24_code
def yX7_isPart : MethodName := ⟨RX7, "isPart", "(I)Z"⟩
abbrev cX7_replace : ByteArray := prog_1_method_25_code
def yX7_replace : MethodName := ⟨RX7, "replace", "([III)I"⟩
def RX8 : String := "WaterTwiceModel"
def TX8 : u_T := fun k => match k with
  | 0 => ("WaterTwiceModel", "thrown", "I", false)
  | 1 => ("WaterTwiceModel", "trace", "J", false)
  | 2 => ("WaterTwiceModel", "steps", "I", false)
  | 3 => ("WaterTwiceModel", "load", "[I", true)
  | 4 => ("WaterTwiceModel", "in", "[I", true)
  | 5 => ("WaterTwiceModel", "out", "[I", true)
  | 6 => ("WaterTwiceModel", "lag", "[I", true)
  | 7 => ("WaterTwiceModel", "rules", "[I", true)
  | 8 => ("WaterTwiceModel", "fresh", "[I", true)
  | 9 => ("WaterTwiceModel", "pipe", "[I", true)
  | 10 => ("WaterTwiceModel", "upper", "[J", true)
  | 11 => ("WaterTwiceModel", "lower", "[J", true)
  | 12 => ("WaterTwiceModel", "comesUpper", "[J", true)
  | 13 => ("WaterTwiceModel", "comesLower", "[J", true)
  | 14 => ("WaterTwiceModel", "isTaken", "[Z", true)
  | 15 => ("WaterTwiceModel", "hits", "[I", true)
  | 16 => ("WaterTwiceModel", "store", "[I", true)
  | 17 => ("WaterTwiceModel", "meters", "I", false)
  | 18 => ("WaterTwiceModel", "sign", "[I", true)
  | _ => ("WaterTwiceModel", "reading", "[I", true)
def tyX8 : Nat → FieldType := fun k => match k with
  | 0 => .int
  | 1 => .long
  | 2 => .int
  | 3 => .array .int
  | 4 => .array .int
  | 5 => .array .int
  | 6 => .array .int
  | 7 => .array .int
  | 8 => .array .int
  | 9 => .array .int
  | 10 => .array .long
  | 11 => .array .long
  | 12 => .array .long
  | 13 => .array .long
  | 14 => .array .boolean
  | 15 => .array .int
  | 16 => .array .int
  | 17 => .int
  | 18 => .array .int
  | _ => .array .int
abbrev wsX80 : List Cond := u_ws RX8 TX8 20
theorem nmX8 : ∀ a, a < 20 → ∀ b, b < 20 → a ≠ b → (TX8 a).2.1 ≠ (TX8 b).2.1 := by decide +kernel
theorem tyX8_ok : ∀ k, k < 20 → parseFieldDescriptor (TX8 k).2.2.1 = some (tyX8 k) := by decide +kernel
abbrev cX8_init : ByteArray := prog_10_method_1_code
def yX8_init : MethodName := ⟨RX8, "<init>", "()V"⟩
abbrev cX8_in : ByteArray := prog_10_method_3_code
def yX8_in : MethodName := ⟨RX8, "in", "(JJJ)Z"⟩
abbrev cX8_common : ByteArray := prog_10_method_4_code
def yX8_common : MethodName := ⟨RX8, "common", "(JJ)J"⟩
abbrev cX8_isStep : ByteArray := prog_10_method_5_code
def yX8_isStep : MethodName := ⟨RX8, "isStep", "(I)Z"⟩
abbrev cX8_step : ByteArray := prog_10_method_6_code
def yX8_step : MethodName := ⟨RX8, "step", "(III)I"⟩
abbrev cX8_change : ByteArray := prog_10_method_7_code
def yX8_change : MethodName := ⟨RX8, "change", "(III)I"⟩
abbrev cX8_set : ByteArray := prog_10_method_8_code
def yX8_set : MethodName := ⟨RX8, "set", "(II)I"⟩
abbrev cX8_limitOf : ByteArray := prog_10_method_9_code
def yX8_limitOf : MethodName := ⟨RX8, "limitOf", "(II)I"⟩
abbrev cX8_limit : ByteArray := prog_10_method_10_code
def yX8_limit : MethodName := ⟨RX8, "limit", "(II)I"⟩
abbrev cX8_below : ByteArray := prog_10_method_11_code
def yX8_below : MethodName := ⟨RX8, "below", "()J"⟩
abbrev cX8_dirtOf : ByteArray := prog_10_method_12_code
def yX8_dirtOf : MethodName := ⟨RX8, "dirtOf", "(IJ)J"⟩
abbrev cX8_dirt : ByteArray := prog_10_method_13_code
def yX8_dirt : MethodName := ⟨RX8, "dirt", "(II)J"⟩
abbrev cX8_pinch : ByteArray := prog_10_method_14_code
def yX8_pinch : MethodName := ⟨RX8, "pinch", "()I"⟩
abbrev cX8_least : ByteArray := prog_10_method_15_code
def yX8_least : MethodName := ⟨RX8, "least", "(I)J"⟩
abbrev cX8_fresh : ByteArray := prog_10_method_16_code
def yX8_fresh : MethodName := ⟨RX8, "fresh", "(II)I"⟩
abbrev cX8_pipe : ByteArray := prog_10_method_17_code
def yX8_pipe : MethodName := ⟨RX8, "pipe", "(III)I"⟩
abbrev cX8_comes : ByteArray := prog_10_method_18_code
def yX8_comes : MethodName := ⟨RX8, "comes", "(I)I"⟩
abbrev cX8_goes : ByteArray := prog_10_method_19_code
def yX8_goes : MethodName := ⟨RX8, "goes", "(I)I"⟩
abbrev cX8_water : ByteArray := prog_10_method_20_code
def yX8_water : MethodName := ⟨RX8, "water", "(II)I"⟩
abbrev cX8_takes : ByteArray := prog_10_method_21_code
def yX8_takes : MethodName := ⟨RX8, "takes", "(I)V"⟩
abbrev cX8_failsFirst : ByteArray := prog_10_method_22_code
def yX8_failsFirst : MethodName := ⟨RX8, "failsFirst", "()I"⟩
abbrev cX8_fails : ByteArray := prog_10_method_23_code
def yX8_fails : MethodName := ⟨RX8, "fails", "()I"⟩
abbrev cX8_at : ByteArray := prog_10_method_24_code
def yX8_at : MethodName := ⟨RX8, "at", "(II)J"⟩
abbrev cX8_hit : ByteArray := prog_10_method_25_code
def yX8_hit : MethodName := ⟨RX8, "hit", "(III)I"⟩
abbrev cX8_hour : ByteArray := prog_10_method_26_code
def yX8_hour : MethodName := ⟨RX8, "hour", "(JIII)J"⟩
abbrev cX8_steady : ByteArray := prog_10_method_27_code
def yX8_steady : MethodName := ⟨RX8, "steady", "(IIIII)I"⟩
abbrev cX8_store : ByteArray := prog_10_method_28_code
def yX8_store : MethodName := ⟨RX8, "store", "(III)I"⟩
abbrev cX8_room : ByteArray := prog_10_method_29_code
def yX8_room : MethodName := ⟨RX8, "room", "(I)I"⟩
abbrev cX8_meter : ByteArray := prog_10_method_30_code
def yX8_meter : MethodName := ⟨RX8, "meter", "(I)I"⟩
abbrev cX8_isMeter : ByteArray := prog_10_method_31_code
def yX8_isMeter : MethodName := ⟨RX8, "isMeter", "(I)Z"⟩
abbrev cX8_read : ByteArray := prog_10_method_32_code
def yX8_read : MethodName := ⟨RX8, "read", "(II)I"⟩
abbrev cX8_missing : ByteArray := prog_10_method_33_code
def yX8_missing : MethodName := ⟨RX8, "missing", "()I"⟩
abbrev cX8_gapOf : ByteArray := prog_10_method_34_code
def yX8_gapOf : MethodName := ⟨RX8, "gapOf", "()J"⟩
abbrev cX8_gap : ByteArray := prog_10_method_35_code
def yX8_gap : MethodName := ⟨RX8, "gap", "(I)J"⟩
abbrev cX8_mended : ByteArray := prog_10_method_36_code
def yX8_mended : MethodName := ⟨RX8, "mended", "(II)J"⟩
abbrev cX8_count : ByteArray := prog_10_method_37_code
def yX8_count : MethodName := ⟨RX8, "count", "(I)I"⟩
abbrev cX8_trace : ByteArray := prog_10_method_38_code
def yX8_trace : MethodName := ⟨RX8, "trace", "()J"⟩
def RJ13 : String := "java/lang/Long"
def TJ13 : u_T := fun k => match k with
  | _ => ("", "", "", false)
def tyJ13 : Nat → FieldType := fun k => match k with
  | _ => .int
abbrev wsJ130 : List Cond := u_ws RJ13 TJ13 0
theorem nmJ13 : ∀ a, a < 0 → ∀ b, b < 0 → a ≠ b → (TJ13 a).2.1 ≠ (TJ13 b).2.1 := by decide +kernel
theorem tyJ13_ok : ∀ k, k < 0 → parseFieldDescriptor (TJ13 k).2.2.1 = some (tyJ13 k) := by decide +kernel
abbrev cJ13_compare_74951 : ByteArray := prog_11_method_42_code
def yJ13_compare_74951 : MethodName := ⟨RJ13, "compare", "(JJ)I"⟩
def RJ9 : String := "java/lang/Math"
def TJ9 : u_T := fun k => match k with
  | _ => ("", "", "", false)
def tyJ9 : Nat → FieldType := fun k => match k with
  | _ => .int
abbrev wsJ90 : List Cond := u_ws RJ9 TJ9 0
theorem nmJ9 : ∀ a, a < 0 → ∀ b, b < 0 → a ≠ b → (TJ9 a).2.1 ≠ (TJ9 b).2.1 := by decide +kernel
theorem tyJ9_ok : ∀ k, k < 0 → parseFieldDescriptor (TJ9 k).2.2.1 = some (tyJ9 k) := by decide +kernel
abbrev cJ9_abs_067f4 : ByteArray := prog_12_method_61_code
def yJ9_abs_067f4 : MethodName := ⟨RJ9, "abs", "(J)J"⟩
abbrev cJ9_max_7cf53 : ByteArray := prog_12_method_65_code
def yJ9_max_7cf53 : MethodName := ⟨RJ9, "max", "(II)I"⟩
abbrev cJ9_min_7cf53 : ByteArray := prog_12_method_69_code
def yJ9_min_7cf53 : MethodName := ⟨RJ9, "min", "(II)I"⟩
def RL : String := "WaterTwiceLaw"
abbrev cL_law : ByteArray := code
def yL_law : MethodName := ⟨RL, "law", "([I)Z"⟩
abbrev vwCl : List vw_C := [(RX1, TX1, 8), (RX2, TX2, 2), (RX3, TX3, 2), (RX4, TX4, 3), (RX5, TX5, 5), (RX6, TX6, 2), (RX7, TX7, 7), (RX8, TX8, 20)]
