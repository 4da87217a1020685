section
-- ===== PART A: goes FIRST, ahead of the names: the tables' words, and 'selects' of the private methods out of them =====
/-- a private method of a class that the tables say can be made, by its rows of tables_1 -/
def lw_okq (q : MethodName × Nat) : Prop := (q.1.cls ≠ "java/lang/invoke/MethodHandle" ∧ q.1.cls ≠ "java/lang/invoke/VarHandle") ∧ Cond.instantiable q.1.cls q.2 ∈ tables_1 ∧ Cond.privateMethod q.1 ∈ tables_1 ∧ Cond.instanceMethod q.1 ∈ tables_1
theorem lw_p0 : lw_okq (⟨"WaterTwice$Steps", "commonLower", "()J"⟩, 5) := ⟨⟨by decide +kernel, by decide +kernel⟩, List.mem_of_getElem? (i := 21) (by decide +kernel), List.mem_of_getElem? (i := 240) (by decide +kernel), List.mem_of_getElem? (i := 241) (by decide +kernel)⟩
theorem lw_p1 : lw_okq (⟨"WaterTwice$Steps", "span", "(I)I"⟩, 5) := ⟨⟨by decide +kernel, by decide +kernel⟩, List.mem_of_getElem? (i := 21) (by decide +kernel), List.mem_of_getElem? (i := 244) (by decide +kernel), List.mem_of_getElem? (i := 245) (by decide +kernel)⟩
theorem lw_p2 : lw_okq (⟨"WaterTwice$Steps", "dirtBelow", "(IJ)J"⟩, 5) := ⟨⟨by decide +kernel, by decide +kernel⟩, List.mem_of_getElem? (i := 21) (by decide +kernel), List.mem_of_getElem? (i := 249) (by decide +kernel), List.mem_of_getElem? (i := 250) (by decide +kernel)⟩
theorem lw_p3 : lw_okq (⟨"WaterTwice$Steps", "better", "(IIJ)I"⟩, 5) := ⟨⟨by decide +kernel, by decide +kernel⟩, List.mem_of_getElem? (i := 21) (by decide +kernel), List.mem_of_getElem? (i := 281) (by decide +kernel), List.mem_of_getElem? (i := 282) (by decide +kernel)⟩
theorem lw_p4 : lw_okq (⟨"WaterTwice$Design", "takeInOrder", "()V"⟩, 8) := ⟨⟨by decide +kernel, by decide +kernel⟩, List.mem_of_getElem? (i := 67) (by decide +kernel), List.mem_of_getElem? (i := 328) (by decide +kernel), List.mem_of_getElem? (i := 329) (by decide +kernel)⟩
theorem lw_p5 : lw_okq (⟨"WaterTwice$Design", "hasOnlyOfTaken", "(I)Z"⟩, 8) := ⟨⟨by decide +kernel, by decide +kernel⟩, List.mem_of_getElem? (i := 67) (by decide +kernel), List.mem_of_getElem? (i := 332) (by decide +kernel), List.mem_of_getElem? (i := 333) (by decide +kernel)⟩
theorem lw_p6 : lw_okq (⟨"WaterTwice$Design", "soil", "(I)V"⟩, 8) := ⟨⟨by decide +kernel, by decide +kernel⟩, List.mem_of_getElem? (i := 67) (by decide +kernel), List.mem_of_getElem? (i := 344) (by decide +kernel), List.mem_of_getElem? (i := 345) (by decide +kernel)⟩
theorem lw_p7 : lw_okq (⟨"WaterTwice$Design", "hitBehindOthers", "(I)I"⟩, 8) := ⟨⟨by decide +kernel, by decide +kernel⟩, List.mem_of_getElem? (i := 67) (by decide +kernel), List.mem_of_getElem? (i := 381) (by decide +kernel), List.mem_of_getElem? (i := 382) (by decide +kernel)⟩
theorem lw_p8 : lw_okq (⟨"WaterTwiceModel", "isStep", "(I)Z"⟩, 20) := ⟨⟨by decide +kernel, by decide +kernel⟩, List.mem_of_getElem? (i := 486) (by decide +kernel), List.mem_of_getElem? (i := 568) (by decide +kernel), List.mem_of_getElem? (i := 569) (by decide +kernel)⟩
theorem lw_p9 : lw_okq (⟨"WaterTwiceModel", "limitOf", "(II)I"⟩, 20) := ⟨⟨by decide +kernel, by decide +kernel⟩, List.mem_of_getElem? (i := 486) (by decide +kernel), List.mem_of_getElem? (i := 586) (by decide +kernel), List.mem_of_getElem? (i := 587) (by decide +kernel)⟩
theorem lw_p10 : lw_okq (⟨"WaterTwiceModel", "below", "()J"⟩, 20) := ⟨⟨by decide +kernel, by decide +kernel⟩, List.mem_of_getElem? (i := 486) (by decide +kernel), List.mem_of_getElem? (i := 595) (by decide +kernel), List.mem_of_getElem? (i := 596) (by decide +kernel)⟩
theorem lw_p11 : lw_okq (⟨"WaterTwiceModel", "dirtOf", "(IJ)J"⟩, 20) := ⟨⟨by decide +kernel, by decide +kernel⟩, List.mem_of_getElem? (i := 486) (by decide +kernel), List.mem_of_getElem? (i := 602) (by decide +kernel), List.mem_of_getElem? (i := 603) (by decide +kernel)⟩
theorem lw_p12 : lw_okq (⟨"WaterTwiceModel", "pinch", "()I"⟩, 20) := ⟨⟨by decide +kernel, by decide +kernel⟩, List.mem_of_getElem? (i := 486) (by decide +kernel), List.mem_of_getElem? (i := 610) (by decide +kernel), List.mem_of_getElem? (i := 611) (by decide +kernel)⟩
theorem lw_p13 : lw_okq (⟨"WaterTwiceModel", "comes", "(I)I"⟩, 20) := ⟨⟨by decide +kernel, by decide +kernel⟩, List.mem_of_getElem? (i := 486) (by decide +kernel), List.mem_of_getElem? (i := 626) (by decide +kernel), List.mem_of_getElem? (i := 627) (by decide +kernel)⟩
theorem lw_p14 : lw_okq (⟨"WaterTwiceModel", "goes", "(I)I"⟩, 20) := ⟨⟨by decide +kernel, by decide +kernel⟩, List.mem_of_getElem? (i := 486) (by decide +kernel), List.mem_of_getElem? (i := 630) (by decide +kernel), List.mem_of_getElem? (i := 631) (by decide +kernel)⟩
theorem lw_p15 : lw_okq (⟨"WaterTwiceModel", "failsFirst", "()I"⟩, 20) := ⟨⟨by decide +kernel, by decide +kernel⟩, List.mem_of_getElem? (i := 486) (by decide +kernel), List.mem_of_getElem? (i := 638) (by decide +kernel), List.mem_of_getElem? (i := 639) (by decide +kernel)⟩
def lw_privs_1 : List (MethodName × Nat) := [(⟨"WaterTwice$Steps", "commonLower", "()J"⟩, 5), (⟨"WaterTwice$Steps", "span", "(I)I"⟩, 5), (⟨"WaterTwice$Steps", "dirtBelow", "(IJ)J"⟩, 5), (⟨"WaterTwice$Steps", "better", "(IIJ)I"⟩, 5), (⟨"WaterTwice$Design", "takeInOrder", "()V"⟩, 8), (⟨"WaterTwice$Design", "hasOnlyOfTaken", "(I)Z"⟩, 8), (⟨"WaterTwice$Design", "soil", "(I)V"⟩, 8), (⟨"WaterTwice$Design", "hitBehindOthers", "(I)I"⟩, 8), (⟨"WaterTwiceModel", "isStep", "(I)Z"⟩, 20), (⟨"WaterTwiceModel", "limitOf", "(II)I"⟩, 20), (⟨"WaterTwiceModel", "below", "()J"⟩, 20), (⟨"WaterTwiceModel", "dirtOf", "(IJ)J"⟩, 20), (⟨"WaterTwiceModel", "pinch", "()I"⟩, 20), (⟨"WaterTwiceModel", "comes", "(I)I"⟩, 20), (⟨"WaterTwiceModel", "goes", "(I)I"⟩, 20), (⟨"WaterTwiceModel", "failsFirst", "()I"⟩, 20)]
theorem lw_r1 : ∀ q ∈ lw_privs_1, lw_okq q := List.forall_mem_cons.mpr ⟨lw_p0, List.forall_mem_cons.mpr ⟨lw_p1, List.forall_mem_cons.mpr ⟨lw_p2, List.forall_mem_cons.mpr ⟨lw_p3, List.forall_mem_cons.mpr ⟨lw_p4, List.forall_mem_cons.mpr ⟨lw_p5, List.forall_mem_cons.mpr ⟨lw_p6, List.forall_mem_cons.mpr ⟨lw_p7, List.forall_mem_cons.mpr ⟨lw_p8, List.forall_mem_cons.mpr ⟨lw_p9, List.forall_mem_cons.mpr ⟨lw_p10, List.forall_mem_cons.mpr ⟨lw_p11, List.forall_mem_cons.mpr ⟨lw_p12, List.forall_mem_cons.mpr ⟨lw_p13, List.forall_mem_cons.mpr ⟨lw_p14, List.forall_mem_cons.mpr ⟨lw_p15, fun _ h => absurd h List.not_mem_nil⟩⟩⟩⟩⟩⟩⟩⟩⟩⟩⟩⟩⟩⟩⟩⟩
theorem lw_p16 : lw_okq (⟨"WaterTwiceModel", "takes", "(I)V"⟩, 20) := ⟨⟨by decide +kernel, by decide +kernel⟩, List.mem_of_getElem? (i := 486) (by decide +kernel), List.mem_of_getElem? (i := 642) (by decide +kernel), List.mem_of_getElem? (i := 643) (by decide +kernel)⟩
theorem lw_p17 : lw_okq (⟨"WaterTwiceModel", "isMeter", "(I)Z"⟩, 20) := ⟨⟨by decide +kernel, by decide +kernel⟩, List.mem_of_getElem? (i := 486) (by decide +kernel), List.mem_of_getElem? (i := 681) (by decide +kernel), List.mem_of_getElem? (i := 682) (by decide +kernel)⟩
theorem lw_p18 : lw_okq (⟨"WaterTwiceModel", "missing", "()I"⟩, 20) := ⟨⟨by decide +kernel, by decide +kernel⟩, List.mem_of_getElem? (i := 486) (by decide +kernel), List.mem_of_getElem? (i := 692) (by decide +kernel), List.mem_of_getElem? (i := 693) (by decide +kernel)⟩
theorem lw_p19 : lw_okq (⟨"WaterTwiceModel", "gapOf", "()J"⟩, 20) := ⟨⟨by decide +kernel, by decide +kernel⟩, List.mem_of_getElem? (i := 486) (by decide +kernel), List.mem_of_getElem? (i := 696) (by decide +kernel), List.mem_of_getElem? (i := 697) (by decide +kernel)⟩
def lw_privs_2 : List (MethodName × Nat) := [(⟨"WaterTwiceModel", "takes", "(I)V"⟩, 20), (⟨"WaterTwiceModel", "isMeter", "(I)Z"⟩, 20), (⟨"WaterTwiceModel", "missing", "()I"⟩, 20), (⟨"WaterTwiceModel", "gapOf", "()J"⟩, 20)]
theorem lw_r2 : ∀ q ∈ lw_privs_2, lw_okq q := List.forall_mem_cons.mpr ⟨lw_p16, List.forall_mem_cons.mpr ⟨lw_p17, List.forall_mem_cons.mpr ⟨lw_p18, List.forall_mem_cons.mpr ⟨lw_p19, fun _ h => absurd h List.not_mem_nil⟩⟩⟩⟩
def lw_privs : List (MethodName × Nat) := lw_privs_1 ++ (lw_privs_2)
def lw_tbl : List Cond := k2_sels lw_privs ++ tables_1
theorem lw_privs_ok : ∀ q ∈ lw_privs, lw_okq q := by
  show ∀ q ∈ lw_privs_1 ++ (lw_privs_2), lw_okq q
  exact List.forall_mem_append.mpr ⟨lw_r1, lw_r2⟩
def RX0 : String := "WaterTwice$Basin"
def TX0 : u_T := fun k => match k with
  | _ => ("", "", "", false)
def tyX0 : Nat → FieldType := fun k => match k with
  | _ => .int
abbrev wsX00 : List Cond := u_ws RX0 TX0 0
theorem nmX0 : ∀ a, a < 0 → ∀ b, b < 0 → a ≠ b → (TX0 a).2.1 ≠ (TX0 b).2.1 := by decide +kernel
theorem tyX0_ok : ∀ k, k < 0 → parseFieldDescriptor (TX0 k).2.2.1 = some (tyX0 k) := by decide +kernel
abbrev cX0_tellSteady : ByteArray := prog_2_method_2_code
def yX0_tellSteady : MethodName := ⟨RX0, "tellSteady", "(IIIIZ)I"⟩
abbrev cX0_behindAnHour : ByteArray := prog_2_method_3_code
def yX0_behindAnHour : MethodName := ⟨RX0, "behindAnHour", "(JIII)J"⟩
def RX1 : String := "WaterTwice$Design"
def TX1 : u_T := fun k => match k with
  | 0 => ("WaterTwice$Design", "steps", "LWaterTwice$Steps;", true)
  | 1 => ("WaterTwice$Design", "fresh", "[I", true)
  | 2 => ("WaterTwice$Design", "pipes", "[[I", true)
  | 3 => ("WaterTwice$Design", "taken", "[Z", true)
  | 4 => ("WaterTwice$Design", "order", "[I", true)
  | 5 => ("WaterTwice$Design", "comes", "[LWaterTwice$Fraction;", true)
  | 6 => ("WaterTwice$Design", "ends", "[LWaterTwice$Fraction;", true)
  | _ => ("WaterTwice$Design", "hitIn", "[I", true)
def tyX1 : Nat → FieldType := fun k => match k with
  | 0 => .object "WaterTwice$Steps"
  | 1 => .array .int
  | 2 => .array (.array .int)
  | 3 => .array .boolean
  | 4 => .array .int
  | 5 => .array (.object "WaterTwice$Fraction")
  | 6 => .array (.object "WaterTwice$Fraction")
  | _ => .array .int
abbrev wsX10 : List Cond := u_ws RX1 TX1 8
theorem nmX1 : ∀ a, a < 8 → ∀ b, b < 8 → a ≠ b → (TX1 a).2.1 ≠ (TX1 b).2.1 := by decide +kernel
theorem tyX1_ok : ∀ k, k < 8 → parseFieldDescriptor (TX1 k).2.2.1 = some (tyX1 k) := by decide +kernel
abbrev cX1_init : ByteArray := prog_3_method_1_code
def yX1_init : MethodName := ⟨RX1, "<init>", "(LWaterTwice$Steps;)V"⟩
abbrev cX1_comingTo : ByteArray := prog_3_method_2_code
def yX1_comingTo : MethodName := ⟨RX1, "comingTo", "(I)I"⟩
abbrev cX1_goingFrom : ByteArray := prog_3_method_3_code
def yX1_goingFrom : MethodName := ⟨RX1, "goingFrom", "(I)I"⟩
abbrev cX1_allFresh : ByteArray := prog_3_method_4_code
def yX1_allFresh : MethodName := ⟨RX1, "allFresh", "()I"⟩
abbrev cX1_pipesInUse : ByteArray := prog_3_method_5_code
def yX1_pipesInUse : MethodName := ⟨RX1, "pipesInUse", "()I"⟩
abbrev cX1_flawOfFlow : ByteArray := prog_3_method_6_code
def yX1_flawOfFlow : MethodName := ⟨RX1, "flawOfFlow", "()I"⟩
abbrev cX1_flawOfDirt : ByteArray := prog_3_method_7_code
def yX1_flawOfDirt : MethodName := ⟨RX1, "flawOfDirt", "(LWaterTwice$Limits;)I"⟩
abbrev cX1_spreadDirt : ByteArray := prog_3_method_8_code
def yX1_spreadDirt : MethodName := ⟨RX1, "spreadDirt", "()V"⟩
abbrev cX1_soil : ByteArray := prog_3_method_9_code
def yX1_soil : MethodName := ⟨RX1, "soil", "(I)V"⟩
abbrev cX1_takeInOrder : ByteArray := prog_3_method_10_code
def yX1_takeInOrder : MethodName := ⟨RX1, "takeInOrder", "()V"⟩
abbrev cX1_hasOnlyOfTaken : ByteArray := prog_3_method_11_code
def yX1_hasOnlyOfTaken : MethodName := ⟨RX1, "hasOnlyOfTaken", "(I)Z"⟩
abbrev cX1_spreadUpset : ByteArray := prog_3_method_12_code
def yX1_spreadUpset : MethodName := ⟨RX1, "spreadUpset", "(II)V"⟩
abbrev cX1_hitBehindOthers : ByteArray := prog_3_method_13_code
def yX1_hitBehindOthers : MethodName := ⟨RX1, "hitBehindOthers", "(I)I"⟩
def RX2 : String := "WaterTwice$Fraction"
def TX2 : u_T := fun k => match k with
  | 0 => ("WaterTwice$Fraction", "upper", "J", false)
  | _ => ("WaterTwice$Fraction", "lower", "J", false)
def tyX2 : Nat → FieldType := fun k => match k with
  | 0 => .long
  | _ => .long
abbrev wsX20 : List Cond := u_ws RX2 TX2 2
theorem nmX2 : ∀ a, a < 2 → ∀ b, b < 2 → a ≠ b → (TX2 a).2.1 ≠ (TX2 b).2.1 := by decide +kernel
theorem tyX2_ok : ∀ k, k < 2 → parseFieldDescriptor (TX2 k).2.2.1 = some (tyX2 k) := by decide +kernel
abbrev cX2_init : ByteArray := prog_4_method_1_code
def yX2_init : MethodName := ⟨RX2, "<init>", "()V"⟩
abbrev cX2_become : ByteArray := prog_4_method_2_code
def yX2_become : MethodName := ⟨RX2, "become", "(JJ)V"⟩
abbrev cX2_addTimes : ByteArray := prog_4_method_3_code
def yX2_addTimes : MethodName := ⟨RX2, "addTimes", "(LWaterTwice$Fraction;I)V"⟩
abbrev cX2_addWhole : ByteArray := prog_4_method_4_code
def yX2_addWhole : MethodName := ⟨RX2, "addWhole", "(I)V"⟩
abbrev cX2_divideBy : ByteArray := prog_4_method_5_code
def yX2_divideBy : MethodName := ⟨RX2, "divideBy", "(I)V"⟩
abbrev cX2_isAbove : ByteArray := prog_4_method_6_code
def yX2_isAbove : MethodName := ⟨RX2, "isAbove", "(I)Z"⟩
abbrev cX2_part : ByteArray := prog_4_method_7_code
def yX2_part : MethodName := ⟨RX2, "part", "(I)J"⟩
abbrev cX2_commonDivisor : ByteArray := prog_4_method_8_code
def yX2_commonDivisor : MethodName := ⟨RX2, "commonDivisor", "(JJ)J"⟩
def RX3 : String := "WaterTwice$Limits"
def TX3 : u_T := fun k => match k with
  | 0 => ("WaterTwice$Limits", "steps", "LWaterTwice$Steps;", true)
  | _ => ("WaterTwice$Limits", "settings", "[I", true)
def tyX3 : Nat → FieldType := fun k => match k with
  | 0 => .object "WaterTwice$Steps"
  | _ => .array .int
abbrev wsX30 : List Cond := u_ws RX3 TX3 2
theorem nmX3 : ∀ a, a < 2 → ∀ b, b < 2 → a ≠ b → (TX3 a).2.1 ≠ (TX3 b).2.1 := by decide +kernel
theorem tyX3_ok : ∀ k, k < 2 → parseFieldDescriptor (TX3 k).2.2.1 = some (tyX3 k) := by decide +kernel
abbrev cX3_init : ByteArray := prog_5_method_1_code
def yX3_init : MethodName := ⟨RX3, "<init>", "(LWaterTwice$Steps;)V"⟩
abbrev cX3_isSetting : ByteArray := prog_5_method_2_code
def yX3_isSetting : MethodName := ⟨RX3, "isSetting", "(I)Z"⟩
abbrev cX3_tracesOf : ByteArray := prog_5_method_3_code
def yX3_tracesOf : MethodName := ⟨RX3, "tracesOf", "(I)I"⟩
abbrev cX3_atHand : ByteArray := prog_5_method_4_code
def yX3_atHand : MethodName := ⟨RX3, "atHand", "()I"⟩
abbrev cX3_by : ByteArray := prog_5_method_5_code
def yX3_by : MethodName := ⟨RX3, "by", "(II)I"⟩
def RX4 : String := "WaterTwice$Meters"
def TX4 : u_T := fun k => match k with
  | 0 => ("WaterTwice$Meters", "sign", "[I", true)
  | 1 => ("WaterTwice$Meters", "reading", "[I", true)
  | _ => ("WaterTwice$Meters", "size", "I", false)
def tyX4 : Nat → FieldType := fun k => match k with
  | 0 => .array .int
  | 1 => .array .int
  | _ => .int
abbrev wsX40 : List Cond := u_ws RX4 TX4 3
theorem nmX4 : ∀ a, a < 3 → ∀ b, b < 3 → a ≠ b → (TX4 a).2.1 ≠ (TX4 b).2.1 := by decide +kernel
theorem tyX4_ok : ∀ k, k < 3 → parseFieldDescriptor (TX4 k).2.2.1 = some (tyX4 k) := by decide +kernel
abbrev cX4_init : ByteArray := prog_6_method_1_code
def yX4_init : MethodName := ⟨RX4, "<init>", "()V"⟩
abbrev cX4_has : ByteArray := prog_6_method_2_code
def yX4_has : MethodName := ⟨RX4, "has", "(I)Z"⟩
abbrev cX4_isFull : ByteArray := prog_6_method_3_code
def yX4_isFull : MethodName := ⟨RX4, "isFull", "()Z"⟩
abbrev cX4_append : ByteArray := prog_6_method_4_code
def yX4_append : MethodName := ⟨RX4, "append", "(I)I"⟩
abbrev cX4_sum : ByteArray := prog_6_method_5_code
def yX4_sum : MethodName := ⟨RX4, "sum", "()J"⟩
abbrev cX4_missing : ByteArray := prog_6_method_6_code
def yX4_missing : MethodName := ⟨RX4, "missing", "()I"⟩
abbrev cX4_told : ByteArray := prog_6_method_7_code
def yX4_told : MethodName := ⟨RX4, "told", "()I"⟩
abbrev cX4_toldAs : ByteArray := prog_6_method_8_code
def yX4_toldAs : MethodName := ⟨RX4, "toldAs", "()J"⟩
abbrev cX4_tellMended : ByteArray := prog_6_method_9_code
def yX4_tellMended : MethodName := ⟨RX4, "tellMended", "(ILWaterTwice$Fraction;)V"⟩
def RX5 : String := "WaterTwice$Steps"
def TX5 : u_T := fun k => match k with
  | 0 => ("WaterTwice$Steps", "load", "[I", true)
  | 1 => ("WaterTwice$Steps", "in", "[I", true)
  | 2 => ("WaterTwice$Steps", "out", "[I", true)
  | 3 => ("WaterTwice$Steps", "lag", "[I", true)
  | _ => ("WaterTwice$Steps", "size", "I", false)
def tyX5 : Nat → FieldType := fun k => match k with
  | 0 => .array .int
  | 1 => .array .int
  | 2 => .array .int
  | 3 => .array .int
  | _ => .int
abbrev wsX50 : List Cond := u_ws RX5 TX5 5
theorem nmX5 : ∀ a, a < 5 → ∀ b, b < 5 → a ≠ b → (TX5 a).2.1 ≠ (TX5 b).2.1 := by decide +kernel
theorem tyX5_ok : ∀ k, k < 5 → parseFieldDescriptor (TX5 k).2.2.1 = some (tyX5 k) := by decide +kernel
abbrev cX5_init : ByteArray := prog_7_method_1_code
def yX5_init : MethodName := ⟨RX5, "<init>", "()V"⟩
abbrev cX5_has : ByteArray := prog_7_method_2_code
def yX5_has : MethodName := ⟨RX5, "has", "(I)Z"⟩
abbrev cX5_isFull : ByteArray := prog_7_method_3_code
def yX5_isFull : MethodName := ⟨RX5, "isFull", "()Z"⟩
abbrev cX5_append : ByteArray := prog_7_method_4_code
def yX5_append : MethodName := ⟨RX5, "append", "(III)I"⟩
abbrev cX5_tellDirtBelow : ByteArray := prog_7_method_5_code
def yX5_tellDirtBelow : MethodName := ⟨RX5, "tellDirtBelow", "(ILWaterTwice$Fraction;)V"⟩
abbrev cX5_tellLeastFresh : ByteArray := prog_7_method_6_code
def yX5_tellLeastFresh : MethodName := ⟨RX5, "tellLeastFresh", "(ILWaterTwice$Fraction;)V"⟩
abbrev cX5_pinch : ByteArray := prog_7_method_7_code
def yX5_pinch : MethodName := ⟨RX5, "pinch", "()I"⟩
abbrev cX5_better : ByteArray := prog_7_method_8_code
def yX5_better : MethodName := ⟨RX5, "better", "(IIJ)I"⟩
abbrev cX5_commonLower : ByteArray := prog_7_method_9_code
def yX5_commonLower : MethodName := ⟨RX5, "commonLower", "()J"⟩
abbrev cX5_dirtBelow : ByteArray := prog_7_method_10_code
def yX5_dirtBelow : MethodName := ⟨RX5, "dirtBelow", "(IJ)J"⟩
abbrev cX5_span : ByteArray := prog_7_method_11_code
def yX5_span : MethodName := ⟨RX5, "span", "(I)I"⟩
def RX6 : String := "WaterTwice$Store"
def TX6 : u_T := fun k => match k with
  | 0 => ("WaterTwice$Store", "in", "[I", true)
  | _ => ("WaterTwice$Store", "out", "[I", true)
def tyX6 : Nat → FieldType := fun k => match k with
  | 0 => .array .int
  | _ => .array .int
abbrev wsX60 : List Cond := u_ws RX6 TX6 2
theorem nmX6 : ∀ a, a < 2 → ∀ b, b < 2 → a ≠ b → (TX6 a).2.1 ≠ (TX6 b).2.1 := by decide +kernel
theorem tyX6_ok : ∀ k, k < 2 → parseFieldDescriptor (TX6 k).2.2.1 = some (tyX6 k) := by decide +kernel
abbrev cX6_init : ByteArray := prog_8_method_1_code
def yX6_init : MethodName := ⟨RX6, "<init>", "()V"⟩
abbrev cX6_leastBegun : ByteArray := prog_8_method_2_code
def yX6_leastBegun : MethodName := ⟨RX6, "leastBegun", "()I"⟩
abbrev cX6_mostHeld : ByteArray := prog_8_method_3_code
def yX6_mostHeld : MethodName := ⟨RX6, "mostHeld", "(I)I"⟩
def RX7 : String := "WaterTwice"
def TX7 : u_T := fun k => match k with
  | 0 => ("WaterTwice", "steps", "LWaterTwice$Steps;", true)
  | 1 => ("WaterTwice", "limits", "LWaterTwice$Limits;", true)
  | 2 => ("WaterTwice", "design", "LWaterTwice$Design;", true)
  | 3 => ("WaterTwice", "hours", "LWaterTwice$Store;", true)
  | 4 => ("WaterTwice", "meters", "LWaterTwice$Meters;", true)
  | 5 => ("WaterTwice", "answer", "LWaterTwice$Fraction;", true)
  | _ => ("WaterTwice", "traced", "J", false)
def tyX7 : Nat → FieldType := fun k => match k with
  | 0 => .object "WaterTwice$Steps"
  | 1 => .object "WaterTwice$Limits"
  | 2 => .object "WaterTwice$Design"
  | 3 => .object "WaterTwice$Store"
  | 4 => .object "WaterTwice$Meters"
  | 5 => .object "WaterTwice$Fraction"
  | _ => .long
abbrev wsX70 : List Cond := u_ws RX7 TX7 7
theorem nmX7 : ∀ a, a < 7 → ∀ b, b < 7 → a ≠ b → (TX7 a).2.1 ≠ (TX7 b).2.1 := by decide +kernel
theorem tyX7_ok : ∀ k, k < 7 → parseFieldDescriptor (TX7 k).2.2.1 = some (tyX7 k) := by decide +kernel
abbrev cX7_init : ByteArray := prog_1_method_1_code
def yX7_init : MethodName := ⟨RX7, "<init>", "()V"⟩
abbrev cX7_step : ByteArray := prog_1_method_2_code
def yX7_step : MethodName := ⟨RX7, "step", "(III)I"⟩
abbrev cX7_change : ByteArray := prog_1_method_3_code
def yX7_change : MethodName := ⟨RX7, "change", "(III)I"⟩
abbrev cX7_set : ByteArray := prog_1_method_4_code
def yX7_set : MethodName := ⟨RX7, "set", "(II)I"⟩
abbrev cX7_limit : ByteArray := prog_1_method_5_code
def yX7_limit : MethodName := ⟨RX7, "limit", "(II)I"⟩
abbrev cX7_dirt : ByteArray := prog_1_method_6_code
def yX7_dirt : MethodName := ⟨RX7, "dirt", "(II)J"⟩
abbrev cX7_least : ByteArray := prog_1_method_7_code
def yX7_least : MethodName := ⟨RX7, "least", "(I)J"⟩
abbrev cX7_fresh : ByteArray := prog_1_method_8_code
def yX7_fresh : MethodName := ⟨RX7, "fresh", "(II)I"⟩
abbrev cX7_pipe : ByteArray := prog_1_method_9_code
def yX7_pipe : MethodName := ⟨RX7, "pipe", "(III)I"⟩
abbrev cX7_water : ByteArray := prog_1_method_10_code
def yX7_water : MethodName := ⟨RX7, "water", "(II)I"⟩
abbrev cX7_fails : ByteArray := prog_1_method_11_code
def yX7_fails : MethodName := ⟨RX7, "fails", "()I"⟩
abbrev cX7_at : ByteArray := prog_1_method_12_code
def yX7_at : MethodName := ⟨RX7, "at", "(II)J"⟩
abbrev cX7_hit : ByteArray := prog_1_method_13_code
def yX7_hit : MethodName := ⟨RX7, "hit", "(III)I"⟩
abbrev cX7_steady : ByteArray := prog_1_method_14_code
def yX7_steady : MethodName := ⟨RX7, "steady", "(IIIII)I"⟩
abbrev cX7_store : ByteArray := prog_1_method_15_code
def yX7_store : MethodName := ⟨RX7, "store", "(III)I"⟩
abbrev cX7_room : ByteArray := prog_1_method_16_code
def yX7_room : MethodName := ⟨RX7, "room", "(I)I"⟩
abbrev cX7_meter : ByteArray := prog_1_method_17_code
def yX7_meter : MethodName := ⟨RX7, "meter", "(I)I"⟩
abbrev cX7_read : ByteArray := prog_1_method_18_code
def yX7_read : MethodName := ⟨RX7, "read", "(II)I"⟩
abbrev cX7_gap : ByteArray := prog_1_method_19_code
def yX7_gap : MethodName := ⟨RX7, "gap", "(I)J"⟩
abbrev cX7_mended : ByteArray := prog_1_method_20_code
def yX7_mended : MethodName := ⟨RX7, "mended", "(II)J"⟩
abbrev cX7_count : ByteArray := prog_1_method_21_code
def yX7_count : MethodName := ⟨RX7, "count", "(I)I"⟩
abbrev cX7_trace : ByteArray := prog_1_method_22_code
def yX7_trace : MethodName := ⟨RX7, "trace", "()J"⟩
abbrev cX7_within : ByteArray := prog_1_method_23_code
def yX7_within : MethodName := ⟨RX7, "within", "(III)Z"⟩
abbrev cX7_isPart : ByteArray := prog_1_method_24_code
def yX7_isPart : MethodName := ⟨RX7, "isPart", "(I)Z"⟩
abbrev cX7_replace : ByteArray := prog_1_method_25_code
def yX7_replace : MethodName := ⟨RX7, "replace", "([III)I"⟩
def RX8 : String := "WaterTwiceModel"
def TX8 : u_T := fun k => match k with
  | 0 => ("WaterTwiceModel", "thrown", "I", false)
  | 1 => ("WaterTwiceModel", "trace", "J", false)
  | 2 => ("WaterTwiceModel", "steps", "I", false)
  | 3 => ("WaterTwiceModel", "load", "[I", true)
  | 4 => ("WaterTwiceModel", "in", "[I", true)
  | 5 => ("WaterTwiceModel", "out", "[I", true)
  | 6 => ("WaterTwiceModel", "lag", "[I", true)
  | 7 => ("WaterTwiceModel", "rules", "[I", true)
  | 8 => ("WaterTwiceModel", "fresh", "[I", true)
  | 9 => ("WaterTwiceModel", "pipe", "[I", true)
  | 10 => ("WaterTwiceModel", "upper", "[J", true)
  | 11 => ("WaterTwiceModel", "lower", "[J", true)
  | 12 => ("WaterTwiceModel", "comesUpper", "[J", true)
  | 13 => ("WaterTwiceModel", "comesLower", "[J", true)
  | 14 => ("WaterTwiceModel", "isTaken", "[Z", true)
  | 15 => ("WaterTwiceModel", "hits", "[I", true)
  | 16 => ("WaterTwiceModel", "store", "[I", true)
  | 17 => ("WaterTwiceModel", "meters", "I", false)
  | 18 => ("WaterTwiceModel", "sign", "[I", true)
  | _ => ("WaterTwiceModel", "reading", "[I", true)
def tyX8 : Nat → FieldType := fun k => match k with
  | 0 => .int
  | 1 => .long
  | 2 => .int
  | 3 => .array .int
  | 4 => .array .int
  | 5 => .array .int
  | 6 => .array .int
  | 7 => .array .int
  | 8 => .array .int
  | 9 => .array .int
  | 10 => .array .long
  | 11 => .array .long
  | 12 => .array .long
  | 13 => .array .long
  | 14 => .array .boolean
  | 15 => .array .int
  | 16 => .array .int
  | 17 => .int
  | 18 => .array .int
  | _ => .array .int
abbrev wsX80 : List Cond := u_ws RX8 TX8 20
theorem nmX8 : ∀ a, a < 20 → ∀ b, b < 20 → a ≠ b → (TX8 a).2.1 ≠ (TX8 b).2.1 := by decide +kernel
theorem tyX8_ok : ∀ k, k < 20 → parseFieldDescriptor (TX8 k).2.2.1 = some (tyX8 k) := by decide +kernel
abbrev cX8_init : ByteArray := prog_10_method_1_code
def yX8_init : MethodName := ⟨RX8, "<init>", "()V"⟩
abbrev cX8_in : ByteArray := prog_10_method_3_code
def yX8_in : MethodName := ⟨RX8, "in", "(JJJ)Z"⟩
abbrev cX8_common : ByteArray := prog_10_method_4_code
def yX8_common : MethodName := ⟨RX8, "common", "(JJ)J"⟩
abbrev cX8_isStep : ByteArray := prog_10_method_5_code
def yX8_isStep : MethodName := ⟨RX8, "isStep", "(I)Z"⟩
abbrev cX8_step : ByteArray := prog_10_method_6_code
def yX8_step : MethodName := ⟨RX8, "step", "(III)I"⟩
abbrev cX8_change : ByteArray := prog_10_method_7_code
def yX8_change : MethodName := ⟨RX8, "change", "(III)I"⟩
abbrev cX8_set : ByteArray := prog_10_method_8_code
def yX8_set : MethodName := ⟨RX8, "set", "(II)I"⟩
abbrev cX8_limitOf : ByteArray := prog_10_method_9_code
def yX8_limitOf : MethodName := ⟨RX8, "limitOf", "(II)I"⟩
abbrev cX8_limit : ByteArray := prog_10_method_10_code
def yX8_limit : MethodName := ⟨RX8, "limit", "(II)I"⟩
abbrev cX8_below : ByteArray := prog_10_method_11_code
def yX8_below : MethodName := ⟨RX8, "below", "()J"⟩
abbrev cX8_dirtOf : ByteArray := prog_10_method_12_code
def yX8_dirtOf : MethodName := ⟨RX8, "dirtOf", "(IJ)J"⟩
abbrev cX8_dirt : ByteArray := prog_10_method_13_code
def yX8_dirt : MethodName := ⟨RX8, "dirt", "(II)J"⟩
abbrev cX8_pinch : ByteArray := prog_10_method_14_code
def yX8_pinch : MethodName := ⟨RX8, "pinch", "()I"⟩
abbrev cX8_least : ByteArray := prog_10_method_15_code
def yX8_least : MethodName := ⟨RX8, "least", "(I)J"⟩
abbrev cX8_fresh : ByteArray := prog_10_method_16_code
def yX8_fresh : MethodName := ⟨RX8, "fresh", "(II)I"⟩
abbrev cX8_pipe : ByteArray := prog_10_method_17_code
def yX8_pipe : MethodName := ⟨RX8, "pipe", "(III)I"⟩
abbrev cX8_comes : ByteArray := prog_10_method_18_code
def yX8_comes : MethodName := ⟨RX8, "comes", "(I)I"⟩
abbrev cX8_goes : ByteArray := prog_10_method_19_code
def yX8_goes : MethodName := ⟨RX8, "goes", "(I)I"⟩
abbrev cX8_water : ByteArray := prog_10_method_20_code
def yX8_water : MethodName := ⟨RX8, "water", "(II)I"⟩
abbrev cX8_takes : ByteArray := prog_10_method_21_code
def yX8_takes : MethodName := ⟨RX8, "takes", "(I)V"⟩
abbrev cX8_failsFirst : ByteArray := prog_10_method_22_code
def yX8_failsFirst : MethodName := ⟨RX8, "failsFirst", "()I"⟩
abbrev cX8_fails : ByteArray := prog_10_method_23_code
def yX8_fails : MethodName := ⟨RX8, "fails", "()I"⟩
abbrev cX8_at : ByteArray := prog_10_method_24_code
def yX8_at : MethodName := ⟨RX8, "at", "(II)J"⟩
abbrev cX8_hit : ByteArray := prog_10_method_25_code
def yX8_hit : MethodName := ⟨RX8, "hit", "(III)I"⟩
abbrev cX8_hour : ByteArray := prog_10_method_26_code
def yX8_hour : MethodName := ⟨RX8, "hour", "(JIII)J"⟩
abbrev cX8_steady : ByteArray := prog_10_method_27_code
def yX8_steady : MethodName := ⟨RX8, "steady", "(IIIII)I"⟩
abbrev cX8_store : ByteArray := prog_10_method_28_code
def yX8_store : MethodName := ⟨RX8, "store", "(III)I"⟩
abbrev cX8_room : ByteArray := prog_10_method_29_code
def yX8_room : MethodName := ⟨RX8, "room", "(I)I"⟩
abbrev cX8_meter : ByteArray := prog_10_method_30_code
def yX8_meter : MethodName := ⟨RX8, "meter", "(I)I"⟩
abbrev cX8_isMeter : ByteArray := prog_10_method_31_code
def yX8_isMeter : MethodName := ⟨RX8, "isMeter", "(I)Z"⟩
abbrev cX8_read : ByteArray := prog_10_method_32_code
def yX8_read : MethodName := ⟨RX8, "read", "(II)I"⟩
abbrev cX8_missing : ByteArray := prog_10_method_33_code
def yX8_missing : MethodName := ⟨RX8, "missing", "()I"⟩
abbrev cX8_gapOf : ByteArray := prog_10_method_34_code
def yX8_gapOf : MethodName := ⟨RX8, "gapOf", "()J"⟩
abbrev cX8_gap : ByteArray := prog_10_method_35_code
def yX8_gap : MethodName := ⟨RX8, "gap", "(I)J"⟩
abbrev cX8_mended : ByteArray := prog_10_method_36_code
def yX8_mended : MethodName := ⟨RX8, "mended", "(II)J"⟩
abbrev cX8_count : ByteArray := prog_10_method_37_code
def yX8_count : MethodName := ⟨RX8, "count", "(I)I"⟩
abbrev cX8_trace : ByteArray := prog_10_method_38_code
def yX8_trace : MethodName := ⟨RX8, "trace", "()J"⟩
def RJ13 : String := "java/lang/Long"
def TJ13 : u_T := fun k => match k with
  | _ => ("", "", "", false)
def tyJ13 : Nat → FieldType := fun k => match k with
  | _ => .int
abbrev wsJ130 : List Cond := u_ws RJ13 TJ13 0
theorem nmJ13 : ∀ a, a < 0 → ∀ b, b < 0 → a ≠ b → (TJ13 a).2.1 ≠ (TJ13 b).2.1 := by decide +kernel
theorem tyJ13_ok : ∀ k, k < 0 → parseFieldDescriptor (TJ13 k).2.2.1 = some (tyJ13 k) := by decide +kernel
abbrev cJ13_compare_74951 : ByteArray := prog_11_method_42_code
def yJ13_compare_74951 : MethodName := ⟨RJ13, "compare", "(JJ)I"⟩
def RJ9 : String := "java/lang/Math"
def TJ9 : u_T := fun k => match k with
  | _ => ("", "", "", false)
def tyJ9 : Nat → FieldType := fun k => match k with
  | _ => .int
abbrev wsJ90 : List Cond := u_ws RJ9 TJ9 0
theorem nmJ9 : ∀ a, a < 0 → ∀ b, b < 0 → a ≠ b → (TJ9 a).2.1 ≠ (TJ9 b).2.1 := by decide +kernel
theorem tyJ9_ok : ∀ k, k < 0 → parseFieldDescriptor (TJ9 k).2.2.1 = some (tyJ9 k) := by decide +kernel
abbrev cJ9_abs_067f4 : ByteArray := prog_12_method_61_code
def yJ9_abs_067f4 : MethodName := ⟨RJ9, "abs", "(J)J"⟩
abbrev cJ9_max_7cf53 : ByteArray := prog_12_method_65_code
def yJ9_max_7cf53 : MethodName := ⟨RJ9, "max", "(II)I"⟩
abbrev cJ9_max_f86c9 : ByteArray := prog_12_method_66_code
def yJ9_max_f86c9 : MethodName := ⟨RJ9, "max", "(JJ)J"⟩
abbrev cJ9_min_7cf53 : ByteArray := prog_12_method_69_code
def yJ9_min_7cf53 : MethodName := ⟨RJ9, "min", "(II)I"⟩
def RL : String := "WaterTwiceLaw"
abbrev cL_law : ByteArray := code
def yL_law : MethodName := ⟨RL, "law", "([I)Z"⟩
abbrev vwCl : List vw_C := [(RX1, TX1, 8), (RX2, TX2, 2), (RX3, TX3, 2), (RX4, TX4, 3), (RX5, TX5, 5), (RX6, TX6, 2), (RX7, TX7, 7), (RX8, TX8, 20)]
end
section
theorem dX0_tellSteady_0 : decode cX0_tellSteady 0 = .ok (.iload_n 1, 1) := by decide +kernel
theorem dX0_tellSteady_1 : decode cX0_tellSteady 1 = .ok (.i2l, 1) := by decide +kernel
theorem dX0_tellSteady_2 : decode cX0_tellSteady 2 = .ok (.iload_n 0, 1) := by decide +kernel
theorem dX0_tellSteady_3 : decode cX0_tellSteady 3 = .ok (.iload_n 2, 1) := by decide +kernel
theorem dX0_tellSteady_4 : decode cX0_tellSteady 4 = .ok (.iload_n 3, 1) := by decide +kernel
theorem dX0_tellSteady_5 : decode cX0_tellSteady 5 = .ok (.invokestatic 9, 3) := by decide +kernel
theorem dX0_tellSteady_8 : decode cX0_tellSteady 8 = .ok (.lstore 5, 2) := by decide +kernel
theorem dX0_tellSteady_10 : decode cX0_tellSteady 10 = .ok (.iconst 1, 1) := by decide +kernel
theorem dX0_tellSteady_11 : decode cX0_tellSteady 11 = .ok (.istore 7, 2) := by decide +kernel
theorem dX0_tellSteady_13 : decode cX0_tellSteady 13 = .ok (.iload 7, 2) := by decide +kernel
theorem dX0_tellSteady_15 : decode cX0_tellSteady 15 = .ok (.sipush 5000, 3) := by decide +kernel
theorem dX0_tellSteady_18 : decode cX0_tellSteady 18 = .ok (.if_icmp .gt 45, 3) := by decide +kernel
theorem dX0_tellSteady_21 : decode cX0_tellSteady 21 = .ok (.lload 5, 2) := by decide +kernel
theorem dX0_tellSteady_23 : decode cX0_tellSteady 23 = .ok (.iload_n 0, 1) := by decide +kernel
theorem dX0_tellSteady_24 : decode cX0_tellSteady 24 = .ok (.iload_n 2, 1) := by decide +kernel
theorem dX0_tellSteady_25 : decode cX0_tellSteady 25 = .ok (.iload_n 3, 1) := by decide +kernel
theorem dX0_tellSteady_26 : decode cX0_tellSteady 26 = .ok (.invokestatic 9, 3) := by decide +kernel
theorem dX0_tellSteady_29 : decode cX0_tellSteady 29 = .ok (.lstore 8, 2) := by decide +kernel
theorem dX0_tellSteady_31 : decode cX0_tellSteady 31 = .ok (.lload 8, 2) := by decide +kernel
theorem dX0_tellSteady_33 : decode cX0_tellSteady 33 = .ok (.lload 5, 2) := by decide +kernel
theorem dX0_tellSteady_35 : decode cX0_tellSteady 35 = .ok (.lcmp, 1) := by decide +kernel
theorem dX0_tellSteady_36 : decode cX0_tellSteady 36 = .ok (.ifCond .ne 17, 3) := by decide +kernel
theorem dX0_tellSteady_39 : decode cX0_tellSteady 39 = .ok (.iload 4, 2) := by decide +kernel
theorem dX0_tellSteady_41 : decode cX0_tellSteady 41 = .ok (.ifCond .eq 8, 3) := by decide +kernel
theorem dX0_tellSteady_44 : decode cX0_tellSteady 44 = .ok (.iload 7, 2) := by decide +kernel
theorem dX0_tellSteady_46 : decode cX0_tellSteady 46 = .ok (.goto 6, 3) := by decide +kernel
theorem dX0_tellSteady_49 : decode cX0_tellSteady 49 = .ok (.lload 5, 2) := by decide +kernel
theorem dX0_tellSteady_51 : decode cX0_tellSteady 51 = .ok (.l2i, 1) := by decide +kernel
theorem dX0_tellSteady_52 : decode cX0_tellSteady 52 = .ok (.ireturn, 1) := by decide +kernel
theorem dX0_tellSteady_53 : decode cX0_tellSteady 53 = .ok (.lload 8, 2) := by decide +kernel
theorem dX0_tellSteady_55 : decode cX0_tellSteady 55 = .ok (.lstore 5, 2) := by decide +kernel
theorem dX0_tellSteady_57 : decode cX0_tellSteady 57 = .ok (.iinc 7 1, 3) := by decide +kernel
theorem dX0_tellSteady_60 : decode cX0_tellSteady 60 = .ok (.goto (-47), 3) := by decide +kernel
theorem dX0_tellSteady_63 : decode cX0_tellSteady 63 = .ok (.bipush (-9), 2) := by decide +kernel
theorem dX0_tellSteady_65 : decode cX0_tellSteady 65 = .ok (.ireturn, 1) := by decide +kernel
theorem dX0_behindAnHour_0 : decode cX0_behindAnHour 0 = .ok (.lload_n 0, 1) := by decide +kernel
theorem dX0_behindAnHour_1 : decode cX0_behindAnHour 1 = .ok (.iload_n 3, 1) := by decide +kernel
theorem dX0_behindAnHour_2 : decode cX0_behindAnHour 2 = .ok (.i2l, 1) := by decide +kernel
theorem dX0_behindAnHour_3 : decode cX0_behindAnHour 3 = .ok (.ladd, 1) := by decide +kernel
theorem dX0_behindAnHour_4 : decode cX0_behindAnHour 4 = .ok (.lstore 5, 2) := by decide +kernel
theorem dX0_behindAnHour_6 : decode cX0_behindAnHour 6 = .ok (.iload_n 2, 1) := by decide +kernel
theorem dX0_behindAnHour_7 : decode cX0_behindAnHour 7 = .ok (.iconst 1, 1) := by decide +kernel
theorem dX0_behindAnHour_8 : decode cX0_behindAnHour 8 = .ok (.if_icmp .ge 8, 3) := by decide +kernel
theorem dX0_behindAnHour_11 : decode cX0_behindAnHour 11 = .ok (.lload 5, 2) := by decide +kernel
theorem dX0_behindAnHour_13 : decode cX0_behindAnHour 13 = .ok (.goto 20, 3) := by decide +kernel
theorem dX0_behindAnHour_16 : decode cX0_behindAnHour 16 = .ok (.lload 5, 2) := by decide +kernel
theorem dX0_behindAnHour_18 : decode cX0_behindAnHour 18 = .ok (.lload 5, 2) := by decide +kernel
theorem dX0_behindAnHour_20 : decode cX0_behindAnHour 20 = .ok (.iload 4, 2) := by decide +kernel
theorem dX0_behindAnHour_22 : decode cX0_behindAnHour 22 = .ok (.i2l, 1) := by decide +kernel
theorem dX0_behindAnHour_23 : decode cX0_behindAnHour 23 = .ok (.lmul, 1) := by decide +kernel
theorem dX0_behindAnHour_24 : decode cX0_behindAnHour 24 = .ok (.iload_n 2, 1) := by decide +kernel
theorem dX0_behindAnHour_25 : decode cX0_behindAnHour 25 = .ok (.i2l, 1) := by decide +kernel
theorem dX0_behindAnHour_26 : decode cX0_behindAnHour 26 = .ok (.ladd, 1) := by decide +kernel
theorem dX0_behindAnHour_27 : decode cX0_behindAnHour 27 = .ok (.lconst 1, 1) := by decide +kernel
theorem dX0_behindAnHour_28 : decode cX0_behindAnHour 28 = .ok (.lsub, 1) := by decide +kernel
theorem dX0_behindAnHour_29 : decode cX0_behindAnHour 29 = .ok (.iload_n 2, 1) := by decide +kernel
theorem dX0_behindAnHour_30 : decode cX0_behindAnHour 30 = .ok (.i2l, 1) := by decide +kernel
theorem dX0_behindAnHour_31 : decode cX0_behindAnHour 31 = .ok (.ldiv, 1) := by decide +kernel
theorem dX0_behindAnHour_32 : decode cX0_behindAnHour 32 = .ok (.lsub, 1) := by decide +kernel
theorem dX0_behindAnHour_33 : decode cX0_behindAnHour 33 = .ok (.lreturn, 1) := by decide +kernel
theorem dX1_init_0 : decode cX1_init 0 = .ok (.aload_n 0, 1) := by decide +kernel
theorem dX1_init_1 : decode cX1_init 1 = .ok (.invokespecial 3, 3) := by decide +kernel
theorem dX1_init_4 : decode cX1_init 4 = .ok (.aload_n 0, 1) := by decide +kernel
theorem dX1_init_5 : decode cX1_init 5 = .ok (.iconst 5, 1) := by decide +kernel
theorem dX1_init_6 : decode cX1_init 6 = .ok (.newarray .int, 2) := by decide +kernel
theorem dX1_init_8 : decode cX1_init 8 = .ok (.putfield 9, 3) := by decide +kernel
theorem dX1_init_11 : decode cX1_init 11 = .ok (.aload_n 0, 1) := by decide +kernel
theorem dX1_init_12 : decode cX1_init 12 = .ok (.iconst 5, 1) := by decide +kernel
theorem dX1_init_13 : decode cX1_init 13 = .ok (.iconst 5, 1) := by decide +kernel
theorem dX1_init_14 : decode cX1_init 14 = .ok (.multianewarray 15 2, 4) := by decide +kernel
theorem dX1_init_18 : decode cX1_init 18 = .ok (.putfield 17, 3) := by decide +kernel
theorem dX1_init_21 : decode cX1_init 21 = .ok (.aload_n 0, 1) := by decide +kernel
theorem dX1_init_22 : decode cX1_init 22 = .ok (.iconst 5, 1) := by decide +kernel
theorem dX1_init_23 : decode cX1_init 23 = .ok (.newarray .boolean, 2) := by decide +kernel
theorem dX1_init_25 : decode cX1_init 25 = .ok (.putfield 20, 3) := by decide +kernel
theorem dX1_init_28 : decode cX1_init 28 = .ok (.aload_n 0, 1) := by decide +kernel
theorem dX1_init_29 : decode cX1_init 29 = .ok (.iconst 5, 1) := by decide +kernel
theorem dX1_init_30 : decode cX1_init 30 = .ok (.newarray .int, 2) := by decide +kernel
theorem dX1_init_32 : decode cX1_init 32 = .ok (.putfield 24, 3) := by decide +kernel
theorem dX1_init_35 : decode cX1_init 35 = .ok (.aload_n 0, 1) := by decide +kernel
theorem dX1_init_36 : decode cX1_init 36 = .ok (.iconst 5, 1) := by decide +kernel
theorem dX1_init_37 : decode cX1_init 37 = .ok (.anewarray 27, 3) := by decide +kernel
theorem dX1_init_40 : decode cX1_init 40 = .ok (.putfield 29, 3) := by decide +kernel
theorem dX1_init_43 : decode cX1_init 43 = .ok (.aload_n 0, 1) := by decide +kernel
theorem dX1_init_44 : decode cX1_init 44 = .ok (.iconst 5, 1) := by decide +kernel
theorem dX1_init_45 : decode cX1_init 45 = .ok (.anewarray 27, 3) := by decide +kernel
theorem dX1_init_48 : decode cX1_init 48 = .ok (.putfield 33, 3) := by decide +kernel
theorem dX1_init_51 : decode cX1_init 51 = .ok (.aload_n 0, 1) := by decide +kernel
theorem dX1_init_52 : decode cX1_init 52 = .ok (.iconst 5, 1) := by decide +kernel
theorem dX1_init_53 : decode cX1_init 53 = .ok (.newarray .int, 2) := by decide +kernel
theorem dX1_init_55 : decode cX1_init 55 = .ok (.putfield 36, 3) := by decide +kernel
theorem dX1_init_58 : decode cX1_init 58 = .ok (.aload_n 0, 1) := by decide +kernel
theorem dX1_init_59 : decode cX1_init 59 = .ok (.aload_n 1, 1) := by decide +kernel
theorem dX1_init_60 : decode cX1_init 60 = .ok (.putfield 39, 3) := by decide +kernel
theorem dX1_init_63 : decode cX1_init 63 = .ok (.iconst 0, 1) := by decide +kernel
theorem dX1_init_64 : decode cX1_init 64 = .ok (.istore_n 2, 1) := by decide +kernel
theorem dX1_init_65 : decode cX1_init 65 = .ok (.iload_n 2, 1) := by decide +kernel
theorem dX1_init_66 : decode cX1_init 66 = .ok (.iconst 5, 1) := by decide +kernel
theorem dX1_init_67 : decode cX1_init 67 = .ok (.if_icmp .ge 35, 3) := by decide +kernel
theorem dX1_init_70 : decode cX1_init 70 = .ok (.aload_n 0, 1) := by decide +kernel
theorem dX1_init_71 : decode cX1_init 71 = .ok (.getfield 29, 3) := by decide +kernel
theorem dX1_init_74 : decode cX1_init 74 = .ok (.iload_n 2, 1) := by decide +kernel
theorem dX1_init_75 : decode cX1_init 75 = .ok (.new 27, 3) := by decide +kernel
theorem dX1_init_78 : decode cX1_init 78 = .ok (.dup, 1) := by decide +kernel
theorem dX1_init_79 : decode cX1_init 79 = .ok (.invokespecial 43, 3) := by decide +kernel
theorem dX1_init_82 : decode cX1_init 82 = .ok (.aastore, 1) := by decide +kernel
theorem dX1_init_83 : decode cX1_init 83 = .ok (.aload_n 0, 1) := by decide +kernel
theorem dX1_init_84 : decode cX1_init 84 = .ok (.getfield 33, 3) := by decide +kernel
theorem dX1_init_87 : decode cX1_init 87 = .ok (.iload_n 2, 1) := by decide +kernel
theorem dX1_init_88 : decode cX1_init 88 = .ok (.new 27, 3) := by decide +kernel
theorem dX1_init_91 : decode cX1_init 91 = .ok (.dup, 1) := by decide +kernel
theorem dX1_init_92 : decode cX1_init 92 = .ok (.invokespecial 43, 3) := by decide +kernel
theorem dX1_init_95 : decode cX1_init 95 = .ok (.aastore, 1) := by decide +kernel
theorem dX1_init_96 : decode cX1_init 96 = .ok (.iinc 2 1, 3) := by decide +kernel
theorem dX1_init_99 : decode cX1_init 99 = .ok (.goto (-34), 3) := by decide +kernel
theorem dX1_init_102 : decode cX1_init 102 = .ok (.return_, 1) := by decide +kernel
theorem dX1_comingTo_0 : decode cX1_comingTo 0 = .ok (.aload_n 0, 1) := by decide +kernel
theorem dX1_comingTo_1 : decode cX1_comingTo 1 = .ok (.getfield 9, 3) := by decide +kernel
theorem dX1_comingTo_4 : decode cX1_comingTo 4 = .ok (.iload_n 1, 1) := by decide +kernel
theorem dX1_comingTo_5 : decode cX1_comingTo 5 = .ok (.iaload, 1) := by decide +kernel
theorem dX1_comingTo_6 : decode cX1_comingTo 6 = .ok (.istore_n 2, 1) := by decide +kernel
theorem dX1_comingTo_7 : decode cX1_comingTo 7 = .ok (.iconst 0, 1) := by decide +kernel
theorem dX1_comingTo_8 : decode cX1_comingTo 8 = .ok (.istore_n 3, 1) := by decide +kernel
theorem dX1_comingTo_9 : decode cX1_comingTo 9 = .ok (.iload_n 3, 1) := by decide +kernel
theorem dX1_comingTo_10 : decode cX1_comingTo 10 = .ok (.aload_n 0, 1) := by decide +kernel
theorem dX1_comingTo_11 : decode cX1_comingTo 11 = .ok (.getfield 39, 3) := by decide +kernel
theorem dX1_comingTo_14 : decode cX1_comingTo 14 = .ok (.getfield 44, 3) := by decide +kernel
theorem dX1_comingTo_17 : decode cX1_comingTo 17 = .ok (.if_icmp .ge 20, 3) := by decide +kernel
theorem dX1_comingTo_20 : decode cX1_comingTo 20 = .ok (.iload_n 2, 1) := by decide +kernel
theorem dX1_comingTo_21 : decode cX1_comingTo 21 = .ok (.aload_n 0, 1) := by decide +kernel
theorem dX1_comingTo_22 : decode cX1_comingTo 22 = .ok (.getfield 17, 3) := by decide +kernel
theorem dX1_comingTo_25 : decode cX1_comingTo 25 = .ok (.iload_n 3, 1) := by decide +kernel
theorem dX1_comingTo_26 : decode cX1_comingTo 26 = .ok (.aaload, 1) := by decide +kernel
theorem dX1_comingTo_27 : decode cX1_comingTo 27 = .ok (.iload_n 1, 1) := by decide +kernel
theorem dX1_comingTo_28 : decode cX1_comingTo 28 = .ok (.iaload, 1) := by decide +kernel
theorem dX1_comingTo_29 : decode cX1_comingTo 29 = .ok (.iadd, 1) := by decide +kernel
theorem dX1_comingTo_30 : decode cX1_comingTo 30 = .ok (.istore_n 2, 1) := by decide +kernel
theorem dX1_comingTo_31 : decode cX1_comingTo 31 = .ok (.iinc 3 1, 3) := by decide +kernel
theorem dX1_comingTo_34 : decode cX1_comingTo 34 = .ok (.goto (-25), 3) := by decide +kernel
theorem dX1_comingTo_37 : decode cX1_comingTo 37 = .ok (.iload_n 2, 1) := by decide +kernel
theorem dX1_comingTo_38 : decode cX1_comingTo 38 = .ok (.ireturn, 1) := by decide +kernel
theorem dX1_goingFrom_0 : decode cX1_goingFrom 0 = .ok (.iconst 0, 1) := by decide +kernel
theorem dX1_goingFrom_1 : decode cX1_goingFrom 1 = .ok (.istore_n 2, 1) := by decide +kernel
theorem dX1_goingFrom_2 : decode cX1_goingFrom 2 = .ok (.iconst 0, 1) := by decide +kernel
theorem dX1_goingFrom_3 : decode cX1_goingFrom 3 = .ok (.istore_n 3, 1) := by decide +kernel
theorem dX1_goingFrom_4 : decode cX1_goingFrom 4 = .ok (.iload_n 3, 1) := by decide +kernel
theorem dX1_goingFrom_5 : decode cX1_goingFrom 5 = .ok (.aload_n 0, 1) := by decide +kernel
theorem dX1_goingFrom_6 : decode cX1_goingFrom 6 = .ok (.getfield 39, 3) := by decide +kernel
theorem dX1_goingFrom_9 : decode cX1_goingFrom 9 = .ok (.getfield 44, 3) := by decide +kernel
theorem dX1_goingFrom_12 : decode cX1_goingFrom 12 = .ok (.if_icmp .ge 20, 3) := by decide +kernel
theorem dX1_goingFrom_15 : decode cX1_goingFrom 15 = .ok (.iload_n 2, 1) := by decide +kernel
theorem dX1_goingFrom_16 : decode cX1_goingFrom 16 = .ok (.aload_n 0, 1) := by decide +kernel
theorem dX1_goingFrom_17 : decode cX1_goingFrom 17 = .ok (.getfield 17, 3) := by decide +kernel
theorem dX1_goingFrom_20 : decode cX1_goingFrom 20 = .ok (.iload_n 1, 1) := by decide +kernel
theorem dX1_goingFrom_21 : decode cX1_goingFrom 21 = .ok (.aaload, 1) := by decide +kernel
theorem dX1_goingFrom_22 : decode cX1_goingFrom 22 = .ok (.iload_n 3, 1) := by decide +kernel
theorem dX1_goingFrom_23 : decode cX1_goingFrom 23 = .ok (.iaload, 1) := by decide +kernel
theorem dX1_goingFrom_24 : decode cX1_goingFrom 24 = .ok (.iadd, 1) := by decide +kernel
theorem dX1_goingFrom_25 : decode cX1_goingFrom 25 = .ok (.istore_n 2, 1) := by decide +kernel
theorem dX1_goingFrom_26 : decode cX1_goingFrom 26 = .ok (.iinc 3 1, 3) := by decide +kernel
theorem dX1_goingFrom_29 : decode cX1_goingFrom 29 = .ok (.goto (-25), 3) := by decide +kernel
theorem dX1_goingFrom_32 : decode cX1_goingFrom 32 = .ok (.iload_n 2, 1) := by decide +kernel
theorem dX1_goingFrom_33 : decode cX1_goingFrom 33 = .ok (.ireturn, 1) := by decide +kernel
theorem dX1_allFresh_0 : decode cX1_allFresh 0 = .ok (.iconst 0, 1) := by decide +kernel
theorem dX1_allFresh_1 : decode cX1_allFresh 1 = .ok (.istore_n 1, 1) := by decide +kernel
theorem dX1_allFresh_2 : decode cX1_allFresh 2 = .ok (.iconst 0, 1) := by decide +kernel
theorem dX1_allFresh_3 : decode cX1_allFresh 3 = .ok (.istore_n 2, 1) := by decide +kernel
theorem dX1_allFresh_4 : decode cX1_allFresh 4 = .ok (.iload_n 2, 1) := by decide +kernel
theorem dX1_allFresh_5 : decode cX1_allFresh 5 = .ok (.aload_n 0, 1) := by decide +kernel
theorem dX1_allFresh_6 : decode cX1_allFresh 6 = .ok (.getfield 39, 3) := by decide +kernel
theorem dX1_allFresh_9 : decode cX1_allFresh 9 = .ok (.getfield 44, 3) := by decide +kernel
theorem dX1_allFresh_12 : decode cX1_allFresh 12 = .ok (.if_icmp .ge 18, 3) := by decide +kernel
theorem dX1_allFresh_15 : decode cX1_allFresh 15 = .ok (.iload_n 1, 1) := by decide +kernel
theorem dX1_allFresh_16 : decode cX1_allFresh 16 = .ok (.aload_n 0, 1) := by decide +kernel
theorem dX1_allFresh_17 : decode cX1_allFresh 17 = .ok (.getfield 9, 3) := by decide +kernel
theorem dX1_allFresh_20 : decode cX1_allFresh 20 = .ok (.iload_n 2, 1) := by decide +kernel
theorem dX1_allFresh_21 : decode cX1_allFresh 21 = .ok (.iaload, 1) := by decide +kernel
theorem dX1_allFresh_22 : decode cX1_allFresh 22 = .ok (.iadd, 1) := by decide +kernel
theorem dX1_allFresh_23 : decode cX1_allFresh 23 = .ok (.istore_n 1, 1) := by decide +kernel
theorem dX1_allFresh_24 : decode cX1_allFresh 24 = .ok (.iinc 2 1, 3) := by decide +kernel
theorem dX1_allFresh_27 : decode cX1_allFresh 27 = .ok (.goto (-23), 3) := by decide +kernel
theorem dX1_allFresh_30 : decode cX1_allFresh 30 = .ok (.iload_n 1, 1) := by decide +kernel
theorem dX1_allFresh_31 : decode cX1_allFresh 31 = .ok (.ireturn, 1) := by decide +kernel
theorem dX1_pipesInUse_0 : decode cX1_pipesInUse 0 = .ok (.iconst 0, 1) := by decide +kernel
theorem dX1_pipesInUse_1 : decode cX1_pipesInUse 1 = .ok (.istore_n 1, 1) := by decide +kernel
theorem dX1_pipesInUse_2 : decode cX1_pipesInUse 2 = .ok (.iconst 0, 1) := by decide +kernel
theorem dX1_pipesInUse_3 : decode cX1_pipesInUse 3 = .ok (.istore_n 2, 1) := by decide +kernel
theorem dX1_pipesInUse_4 : decode cX1_pipesInUse 4 = .ok (.iload_n 2, 1) := by decide +kernel
theorem dX1_pipesInUse_5 : decode cX1_pipesInUse 5 = .ok (.aload_n 0, 1) := by decide +kernel
theorem dX1_pipesInUse_6 : decode cX1_pipesInUse 6 = .ok (.getfield 39, 3) := by decide +kernel
theorem dX1_pipesInUse_9 : decode cX1_pipesInUse 9 = .ok (.getfield 44, 3) := by decide +kernel
theorem dX1_pipesInUse_12 : decode cX1_pipesInUse 12 = .ok (.if_icmp .ge 64, 3) := by decide +kernel
theorem dX1_pipesInUse_15 : decode cX1_pipesInUse 15 = .ok (.iload_n 1, 1) := by decide +kernel
theorem dX1_pipesInUse_16 : decode cX1_pipesInUse 16 = .ok (.aload_n 0, 1) := by decide +kernel
theorem dX1_pipesInUse_17 : decode cX1_pipesInUse 17 = .ok (.getfield 9, 3) := by decide +kernel
theorem dX1_pipesInUse_20 : decode cX1_pipesInUse 20 = .ok (.iload_n 2, 1) := by decide +kernel
theorem dX1_pipesInUse_21 : decode cX1_pipesInUse 21 = .ok (.iaload, 1) := by decide +kernel
theorem dX1_pipesInUse_22 : decode cX1_pipesInUse 22 = .ok (.ifCond .le 7, 3) := by decide +kernel
theorem dX1_pipesInUse_25 : decode cX1_pipesInUse 25 = .ok (.iconst 1, 1) := by decide +kernel
theorem dX1_pipesInUse_26 : decode cX1_pipesInUse 26 = .ok (.goto 4, 3) := by decide +kernel
theorem dX1_pipesInUse_29 : decode cX1_pipesInUse 29 = .ok (.iconst 0, 1) := by decide +kernel
theorem dX1_pipesInUse_30 : decode cX1_pipesInUse 30 = .ok (.iadd, 1) := by decide +kernel
theorem dX1_pipesInUse_31 : decode cX1_pipesInUse 31 = .ok (.istore_n 1, 1) := by decide +kernel
theorem dX1_pipesInUse_32 : decode cX1_pipesInUse 32 = .ok (.iconst 0, 1) := by decide +kernel
theorem dX1_pipesInUse_33 : decode cX1_pipesInUse 33 = .ok (.istore_n 3, 1) := by decide +kernel
theorem dX1_pipesInUse_34 : decode cX1_pipesInUse 34 = .ok (.iload_n 3, 1) := by decide +kernel
theorem dX1_pipesInUse_35 : decode cX1_pipesInUse 35 = .ok (.aload_n 0, 1) := by decide +kernel
theorem dX1_pipesInUse_36 : decode cX1_pipesInUse 36 = .ok (.getfield 39, 3) := by decide +kernel
theorem dX1_pipesInUse_39 : decode cX1_pipesInUse 39 = .ok (.getfield 44, 3) := by decide +kernel
theorem dX1_pipesInUse_42 : decode cX1_pipesInUse 42 = .ok (.if_icmp .ge 28, 3) := by decide +kernel
theorem dX1_pipesInUse_45 : decode cX1_pipesInUse 45 = .ok (.iload_n 1, 1) := by decide +kernel
theorem dX1_pipesInUse_46 : decode cX1_pipesInUse 46 = .ok (.aload_n 0, 1) := by decide +kernel
theorem dX1_pipesInUse_47 : decode cX1_pipesInUse 47 = .ok (.getfield 17, 3) := by decide +kernel
theorem dX1_pipesInUse_50 : decode cX1_pipesInUse 50 = .ok (.iload_n 2, 1) := by decide +kernel
theorem dX1_pipesInUse_51 : decode cX1_pipesInUse 51 = .ok (.aaload, 1) := by decide +kernel
theorem dX1_pipesInUse_52 : decode cX1_pipesInUse 52 = .ok (.iload_n 3, 1) := by decide +kernel
theorem dX1_pipesInUse_53 : decode cX1_pipesInUse 53 = .ok (.iaload, 1) := by decide +kernel
theorem dX1_pipesInUse_54 : decode cX1_pipesInUse 54 = .ok (.ifCond .le 7, 3) := by decide +kernel
theorem dX1_pipesInUse_57 : decode cX1_pipesInUse 57 = .ok (.iconst 1, 1) := by decide +kernel
theorem dX1_pipesInUse_58 : decode cX1_pipesInUse 58 = .ok (.goto 4, 3) := by decide +kernel
theorem dX1_pipesInUse_61 : decode cX1_pipesInUse 61 = .ok (.iconst 0, 1) := by decide +kernel
theorem dX1_pipesInUse_62 : decode cX1_pipesInUse 62 = .ok (.iadd, 1) := by decide +kernel
theorem dX1_pipesInUse_63 : decode cX1_pipesInUse 63 = .ok (.istore_n 1, 1) := by decide +kernel
theorem dX1_pipesInUse_64 : decode cX1_pipesInUse 64 = .ok (.iinc 3 1, 3) := by decide +kernel
theorem dX1_pipesInUse_67 : decode cX1_pipesInUse 67 = .ok (.goto (-33), 3) := by decide +kernel
theorem dX1_pipesInUse_70 : decode cX1_pipesInUse 70 = .ok (.iinc 2 1, 3) := by decide +kernel
theorem dX1_pipesInUse_73 : decode cX1_pipesInUse 73 = .ok (.goto (-69), 3) := by decide +kernel
theorem dX1_pipesInUse_76 : decode cX1_pipesInUse 76 = .ok (.iload_n 1, 1) := by decide +kernel
theorem dX1_pipesInUse_77 : decode cX1_pipesInUse 77 = .ok (.ireturn, 1) := by decide +kernel
theorem dX1_flawOfFlow_0 : decode cX1_flawOfFlow 0 = .ok (.iconst 0, 1) := by decide +kernel
theorem dX1_flawOfFlow_1 : decode cX1_flawOfFlow 1 = .ok (.istore_n 1, 1) := by decide +kernel
theorem dX1_flawOfFlow_2 : decode cX1_flawOfFlow 2 = .ok (.iload_n 1, 1) := by decide +kernel
theorem dX1_flawOfFlow_3 : decode cX1_flawOfFlow 3 = .ok (.aload_n 0, 1) := by decide +kernel
theorem dX1_flawOfFlow_4 : decode cX1_flawOfFlow 4 = .ok (.getfield 39, 3) := by decide +kernel
theorem dX1_flawOfFlow_7 : decode cX1_flawOfFlow 7 = .ok (.getfield 44, 3) := by decide +kernel
theorem dX1_flawOfFlow_10 : decode cX1_flawOfFlow 10 = .ok (.if_icmp .ge 22, 3) := by decide +kernel
theorem dX1_flawOfFlow_13 : decode cX1_flawOfFlow 13 = .ok (.aload_n 0, 1) := by decide +kernel
theorem dX1_flawOfFlow_14 : decode cX1_flawOfFlow 14 = .ok (.iload_n 1, 1) := by decide +kernel
theorem dX1_flawOfFlow_15 : decode cX1_flawOfFlow 15 = .ok (.invokevirtual 50, 3) := by decide +kernel
theorem dX1_flawOfFlow_18 : decode cX1_flawOfFlow 18 = .ok (.ifCond .ne 8, 3) := by decide +kernel
theorem dX1_flawOfFlow_21 : decode cX1_flawOfFlow 21 = .ok (.bipush 10, 2) := by decide +kernel
theorem dX1_flawOfFlow_23 : decode cX1_flawOfFlow 23 = .ok (.iload_n 1, 1) := by decide +kernel
theorem dX1_flawOfFlow_24 : decode cX1_flawOfFlow 24 = .ok (.iadd, 1) := by decide +kernel
theorem dX1_flawOfFlow_25 : decode cX1_flawOfFlow 25 = .ok (.ireturn, 1) := by decide +kernel
theorem dX1_flawOfFlow_26 : decode cX1_flawOfFlow 26 = .ok (.iinc 1 1, 3) := by decide +kernel
theorem dX1_flawOfFlow_29 : decode cX1_flawOfFlow 29 = .ok (.goto (-27), 3) := by decide +kernel
theorem dX1_flawOfFlow_32 : decode cX1_flawOfFlow 32 = .ok (.iconst 0, 1) := by decide +kernel
theorem dX1_flawOfFlow_33 : decode cX1_flawOfFlow 33 = .ok (.istore_n 1, 1) := by decide +kernel
theorem dX1_flawOfFlow_34 : decode cX1_flawOfFlow 34 = .ok (.iload_n 1, 1) := by decide +kernel
theorem dX1_flawOfFlow_35 : decode cX1_flawOfFlow 35 = .ok (.aload_n 0, 1) := by decide +kernel
theorem dX1_flawOfFlow_36 : decode cX1_flawOfFlow 36 = .ok (.getfield 39, 3) := by decide +kernel
theorem dX1_flawOfFlow_39 : decode cX1_flawOfFlow 39 = .ok (.getfield 44, 3) := by decide +kernel
theorem dX1_flawOfFlow_42 : decode cX1_flawOfFlow 42 = .ok (.if_icmp .ge 27, 3) := by decide +kernel
theorem dX1_flawOfFlow_45 : decode cX1_flawOfFlow 45 = .ok (.aload_n 0, 1) := by decide +kernel
theorem dX1_flawOfFlow_46 : decode cX1_flawOfFlow 46 = .ok (.iload_n 1, 1) := by decide +kernel
theorem dX1_flawOfFlow_47 : decode cX1_flawOfFlow 47 = .ok (.invokevirtual 54, 3) := by decide +kernel
theorem dX1_flawOfFlow_50 : decode cX1_flawOfFlow 50 = .ok (.aload_n 0, 1) := by decide +kernel
theorem dX1_flawOfFlow_51 : decode cX1_flawOfFlow 51 = .ok (.iload_n 1, 1) := by decide +kernel
theorem dX1_flawOfFlow_52 : decode cX1_flawOfFlow 52 = .ok (.invokevirtual 50, 3) := by decide +kernel
theorem dX1_flawOfFlow_55 : decode cX1_flawOfFlow 55 = .ok (.if_icmp .le 8, 3) := by decide +kernel
theorem dX1_flawOfFlow_58 : decode cX1_flawOfFlow 58 = .ok (.bipush 20, 2) := by decide +kernel
theorem dX1_flawOfFlow_60 : decode cX1_flawOfFlow 60 = .ok (.iload_n 1, 1) := by decide +kernel
theorem dX1_flawOfFlow_61 : decode cX1_flawOfFlow 61 = .ok (.iadd, 1) := by decide +kernel
theorem dX1_flawOfFlow_62 : decode cX1_flawOfFlow 62 = .ok (.ireturn, 1) := by decide +kernel
theorem dX1_flawOfFlow_63 : decode cX1_flawOfFlow 63 = .ok (.iinc 1 1, 3) := by decide +kernel
theorem dX1_flawOfFlow_66 : decode cX1_flawOfFlow 66 = .ok (.goto (-32), 3) := by decide +kernel
theorem dX1_flawOfFlow_69 : decode cX1_flawOfFlow 69 = .ok (.aload_n 0, 1) := by decide +kernel
theorem dX1_flawOfFlow_70 : decode cX1_flawOfFlow 70 = .ok (.invokevirtual 57, 3) := by decide +kernel
theorem dX1_flawOfFlow_73 : decode cX1_flawOfFlow 73 = .ok (.iconst 0, 1) := by decide +kernel
theorem dX1_flawOfFlow_74 : decode cX1_flawOfFlow 74 = .ok (.istore_n 1, 1) := by decide +kernel
theorem dX1_flawOfFlow_75 : decode cX1_flawOfFlow 75 = .ok (.iload_n 1, 1) := by decide +kernel
theorem dX1_flawOfFlow_76 : decode cX1_flawOfFlow 76 = .ok (.aload_n 0, 1) := by decide +kernel
theorem dX1_flawOfFlow_77 : decode cX1_flawOfFlow 77 = .ok (.getfield 39, 3) := by decide +kernel
theorem dX1_flawOfFlow_80 : decode cX1_flawOfFlow 80 = .ok (.getfield 44, 3) := by decide +kernel
theorem dX1_flawOfFlow_83 : decode cX1_flawOfFlow 83 = .ok (.if_icmp .ge 23, 3) := by decide +kernel
theorem dX1_flawOfFlow_86 : decode cX1_flawOfFlow 86 = .ok (.aload_n 0, 1) := by decide +kernel
theorem dX1_flawOfFlow_87 : decode cX1_flawOfFlow 87 = .ok (.getfield 20, 3) := by decide +kernel
theorem dX1_flawOfFlow_90 : decode cX1_flawOfFlow 90 = .ok (.iload_n 1, 1) := by decide +kernel
theorem dX1_flawOfFlow_91 : decode cX1_flawOfFlow 91 = .ok (.baload, 1) := by decide +kernel
theorem dX1_flawOfFlow_92 : decode cX1_flawOfFlow 92 = .ok (.ifCond .ne 8, 3) := by decide +kernel
theorem dX1_flawOfFlow_95 : decode cX1_flawOfFlow 95 = .ok (.bipush 30, 2) := by decide +kernel
theorem dX1_flawOfFlow_97 : decode cX1_flawOfFlow 97 = .ok (.iload_n 1, 1) := by decide +kernel
theorem dX1_flawOfFlow_98 : decode cX1_flawOfFlow 98 = .ok (.iadd, 1) := by decide +kernel
theorem dX1_flawOfFlow_99 : decode cX1_flawOfFlow 99 = .ok (.ireturn, 1) := by decide +kernel
theorem dX1_flawOfFlow_100 : decode cX1_flawOfFlow 100 = .ok (.iinc 1 1, 3) := by decide +kernel
theorem dX1_flawOfFlow_103 : decode cX1_flawOfFlow 103 = .ok (.goto (-28), 3) := by decide +kernel
theorem dX1_flawOfFlow_106 : decode cX1_flawOfFlow 106 = .ok (.iconst 0, 1) := by decide +kernel
theorem dX1_flawOfFlow_107 : decode cX1_flawOfFlow 107 = .ok (.ireturn, 1) := by decide +kernel
theorem dX1_flawOfDirt_0 : decode cX1_flawOfDirt 0 = .ok (.aload_n 0, 1) := by decide +kernel
theorem dX1_flawOfDirt_1 : decode cX1_flawOfDirt 1 = .ok (.invokevirtual 60, 3) := by decide +kernel
theorem dX1_flawOfDirt_4 : decode cX1_flawOfDirt 4 = .ok (.iconst 0, 1) := by decide +kernel
theorem dX1_flawOfDirt_5 : decode cX1_flawOfDirt 5 = .ok (.istore_n 2, 1) := by decide +kernel
theorem dX1_flawOfDirt_6 : decode cX1_flawOfDirt 6 = .ok (.iload_n 2, 1) := by decide +kernel
theorem dX1_flawOfDirt_7 : decode cX1_flawOfDirt 7 = .ok (.aload_n 0, 1) := by decide +kernel
theorem dX1_flawOfDirt_8 : decode cX1_flawOfDirt 8 = .ok (.getfield 39, 3) := by decide +kernel
theorem dX1_flawOfDirt_11 : decode cX1_flawOfDirt 11 = .ok (.getfield 44, 3) := by decide +kernel
theorem dX1_flawOfDirt_14 : decode cX1_flawOfDirt 14 = .ok (.if_icmp .ge 35, 3) := by decide +kernel
theorem dX1_flawOfDirt_17 : decode cX1_flawOfDirt 17 = .ok (.aload_n 0, 1) := by decide +kernel
theorem dX1_flawOfDirt_18 : decode cX1_flawOfDirt 18 = .ok (.getfield 29, 3) := by decide +kernel
theorem dX1_flawOfDirt_21 : decode cX1_flawOfDirt 21 = .ok (.iload_n 2, 1) := by decide +kernel
theorem dX1_flawOfDirt_22 : decode cX1_flawOfDirt 22 = .ok (.aaload, 1) := by decide +kernel
theorem dX1_flawOfDirt_23 : decode cX1_flawOfDirt 23 = .ok (.aload_n 0, 1) := by decide +kernel
theorem dX1_flawOfDirt_24 : decode cX1_flawOfDirt 24 = .ok (.getfield 39, 3) := by decide +kernel
theorem dX1_flawOfDirt_27 : decode cX1_flawOfDirt 27 = .ok (.getfield 63, 3) := by decide +kernel
theorem dX1_flawOfDirt_30 : decode cX1_flawOfDirt 30 = .ok (.iload_n 2, 1) := by decide +kernel
theorem dX1_flawOfDirt_31 : decode cX1_flawOfDirt 31 = .ok (.iaload, 1) := by decide +kernel
theorem dX1_flawOfDirt_32 : decode cX1_flawOfDirt 32 = .ok (.invokevirtual 66, 3) := by decide +kernel
theorem dX1_flawOfDirt_35 : decode cX1_flawOfDirt 35 = .ok (.ifCond .eq 8, 3) := by decide +kernel
theorem dX1_flawOfDirt_38 : decode cX1_flawOfDirt 38 = .ok (.bipush 40, 2) := by decide +kernel
theorem dX1_flawOfDirt_40 : decode cX1_flawOfDirt 40 = .ok (.iload_n 2, 1) := by decide +kernel
theorem dX1_flawOfDirt_41 : decode cX1_flawOfDirt 41 = .ok (.iadd, 1) := by decide +kernel
theorem dX1_flawOfDirt_42 : decode cX1_flawOfDirt 42 = .ok (.ireturn, 1) := by decide +kernel
theorem dX1_flawOfDirt_43 : decode cX1_flawOfDirt 43 = .ok (.iinc 2 1, 3) := by decide +kernel
theorem dX1_flawOfDirt_46 : decode cX1_flawOfDirt 46 = .ok (.goto (-40), 3) := by decide +kernel
theorem dX1_flawOfDirt_49 : decode cX1_flawOfDirt 49 = .ok (.iconst 0, 1) := by decide +kernel
theorem dX1_flawOfDirt_50 : decode cX1_flawOfDirt 50 = .ok (.istore_n 2, 1) := by decide +kernel
theorem dX1_flawOfDirt_51 : decode cX1_flawOfDirt 51 = .ok (.iload_n 2, 1) := by decide +kernel
theorem dX1_flawOfDirt_52 : decode cX1_flawOfDirt 52 = .ok (.aload_n 0, 1) := by decide +kernel
theorem dX1_flawOfDirt_53 : decode cX1_flawOfDirt 53 = .ok (.getfield 39, 3) := by decide +kernel
theorem dX1_flawOfDirt_56 : decode cX1_flawOfDirt 56 = .ok (.getfield 44, 3) := by decide +kernel
theorem dX1_flawOfDirt_59 : decode cX1_flawOfDirt 59 = .ok (.if_icmp .ge 35, 3) := by decide +kernel
theorem dX1_flawOfDirt_62 : decode cX1_flawOfDirt 62 = .ok (.aload_n 0, 1) := by decide +kernel
theorem dX1_flawOfDirt_63 : decode cX1_flawOfDirt 63 = .ok (.getfield 33, 3) := by decide +kernel
theorem dX1_flawOfDirt_66 : decode cX1_flawOfDirt 66 = .ok (.iload_n 2, 1) := by decide +kernel
theorem dX1_flawOfDirt_67 : decode cX1_flawOfDirt 67 = .ok (.aaload, 1) := by decide +kernel
theorem dX1_flawOfDirt_68 : decode cX1_flawOfDirt 68 = .ok (.aload_n 1, 1) := by decide +kernel
theorem dX1_flawOfDirt_69 : decode cX1_flawOfDirt 69 = .ok (.aload_n 1, 1) := by decide +kernel
theorem dX1_flawOfDirt_70 : decode cX1_flawOfDirt 70 = .ok (.invokevirtual 70, 3) := by decide +kernel
theorem dX1_flawOfDirt_73 : decode cX1_flawOfDirt 73 = .ok (.iload_n 2, 1) := by decide +kernel
theorem dX1_flawOfDirt_74 : decode cX1_flawOfDirt 74 = .ok (.invokevirtual 76, 3) := by decide +kernel
theorem dX1_flawOfDirt_77 : decode cX1_flawOfDirt 77 = .ok (.invokevirtual 66, 3) := by decide +kernel
theorem dX1_flawOfDirt_80 : decode cX1_flawOfDirt 80 = .ok (.ifCond .eq 8, 3) := by decide +kernel
theorem dX1_flawOfDirt_83 : decode cX1_flawOfDirt 83 = .ok (.bipush 50, 2) := by decide +kernel
theorem dX1_flawOfDirt_85 : decode cX1_flawOfDirt 85 = .ok (.iload_n 2, 1) := by decide +kernel
theorem dX1_flawOfDirt_86 : decode cX1_flawOfDirt 86 = .ok (.iadd, 1) := by decide +kernel
theorem dX1_flawOfDirt_87 : decode cX1_flawOfDirt 87 = .ok (.ireturn, 1) := by decide +kernel
theorem dX1_flawOfDirt_88 : decode cX1_flawOfDirt 88 = .ok (.iinc 2 1, 3) := by decide +kernel
theorem dX1_flawOfDirt_91 : decode cX1_flawOfDirt 91 = .ok (.goto (-40), 3) := by decide +kernel
theorem dX1_flawOfDirt_94 : decode cX1_flawOfDirt 94 = .ok (.iconst 0, 1) := by decide +kernel
theorem dX1_flawOfDirt_95 : decode cX1_flawOfDirt 95 = .ok (.ireturn, 1) := by decide +kernel
theorem dX1_spreadDirt_0 : decode cX1_spreadDirt 0 = .ok (.iconst 0, 1) := by decide +kernel
theorem dX1_spreadDirt_1 : decode cX1_spreadDirt 1 = .ok (.istore_n 1, 1) := by decide +kernel
theorem dX1_spreadDirt_2 : decode cX1_spreadDirt 2 = .ok (.iload_n 1, 1) := by decide +kernel
theorem dX1_spreadDirt_3 : decode cX1_spreadDirt 3 = .ok (.aload_n 0, 1) := by decide +kernel
theorem dX1_spreadDirt_4 : decode cX1_spreadDirt 4 = .ok (.getfield 39, 3) := by decide +kernel
theorem dX1_spreadDirt_7 : decode cX1_spreadDirt 7 = .ok (.getfield 44, 3) := by decide +kernel
theorem dX1_spreadDirt_10 : decode cX1_spreadDirt 10 = .ok (.if_icmp .ge 19, 3) := by decide +kernel
theorem dX1_spreadDirt_13 : decode cX1_spreadDirt 13 = .ok (.aload_n 0, 1) := by decide +kernel
theorem dX1_spreadDirt_14 : decode cX1_spreadDirt 14 = .ok (.aload_n 0, 1) := by decide +kernel
theorem dX1_spreadDirt_15 : decode cX1_spreadDirt 15 = .ok (.getfield 24, 3) := by decide +kernel
theorem dX1_spreadDirt_18 : decode cX1_spreadDirt 18 = .ok (.iload_n 1, 1) := by decide +kernel
theorem dX1_spreadDirt_19 : decode cX1_spreadDirt 19 = .ok (.iaload, 1) := by decide +kernel
theorem dX1_spreadDirt_20 : decode cX1_spreadDirt 20 = .ok (.invokevirtual 80, 3) := by decide +kernel
theorem dX1_spreadDirt_23 : decode cX1_spreadDirt 23 = .ok (.iinc 1 1, 3) := by decide +kernel
theorem dX1_spreadDirt_26 : decode cX1_spreadDirt 26 = .ok (.goto (-24), 3) := by decide +kernel
theorem dX1_spreadDirt_29 : decode cX1_spreadDirt 29 = .ok (.return_, 1) := by decide +kernel
theorem dX1_soil_0 : decode cX1_soil 0 = .ok (.aload_n 0, 1) := by decide +kernel
theorem dX1_soil_1 : decode cX1_soil 1 = .ok (.getfield 29, 3) := by decide +kernel
theorem dX1_soil_4 : decode cX1_soil 4 = .ok (.iload_n 1, 1) := by decide +kernel
theorem dX1_soil_5 : decode cX1_soil 5 = .ok (.aaload, 1) := by decide +kernel
theorem dX1_soil_6 : decode cX1_soil 6 = .ok (.astore_n 2, 1) := by decide +kernel
theorem dX1_soil_7 : decode cX1_soil 7 = .ok (.aload_n 2, 1) := by decide +kernel
theorem dX1_soil_8 : decode cX1_soil 8 = .ok (.lconst 0, 1) := by decide +kernel
theorem dX1_soil_9 : decode cX1_soil 9 = .ok (.lconst 1, 1) := by decide +kernel
theorem dX1_soil_10 : decode cX1_soil 10 = .ok (.invokevirtual 84, 3) := by decide +kernel
theorem dX1_soil_13 : decode cX1_soil 13 = .ok (.iconst 0, 1) := by decide +kernel
theorem dX1_soil_14 : decode cX1_soil 14 = .ok (.istore_n 3, 1) := by decide +kernel
theorem dX1_soil_15 : decode cX1_soil 15 = .ok (.iload_n 3, 1) := by decide +kernel
theorem dX1_soil_16 : decode cX1_soil 16 = .ok (.aload_n 0, 1) := by decide +kernel
theorem dX1_soil_17 : decode cX1_soil 17 = .ok (.getfield 39, 3) := by decide +kernel
theorem dX1_soil_20 : decode cX1_soil 20 = .ok (.getfield 44, 3) := by decide +kernel
theorem dX1_soil_23 : decode cX1_soil 23 = .ok (.if_icmp .ge 38, 3) := by decide +kernel
theorem dX1_soil_26 : decode cX1_soil 26 = .ok (.aload_n 0, 1) := by decide +kernel
theorem dX1_soil_27 : decode cX1_soil 27 = .ok (.getfield 17, 3) := by decide +kernel
theorem dX1_soil_30 : decode cX1_soil 30 = .ok (.iload_n 3, 1) := by decide +kernel
theorem dX1_soil_31 : decode cX1_soil 31 = .ok (.aaload, 1) := by decide +kernel
theorem dX1_soil_32 : decode cX1_soil 32 = .ok (.iload_n 1, 1) := by decide +kernel
theorem dX1_soil_33 : decode cX1_soil 33 = .ok (.iaload, 1) := by decide +kernel
theorem dX1_soil_34 : decode cX1_soil 34 = .ok (.ifCond .le 21, 3) := by decide +kernel
theorem dX1_soil_37 : decode cX1_soil 37 = .ok (.aload_n 2, 1) := by decide +kernel
theorem dX1_soil_38 : decode cX1_soil 38 = .ok (.aload_n 0, 1) := by decide +kernel
theorem dX1_soil_39 : decode cX1_soil 39 = .ok (.getfield 33, 3) := by decide +kernel
theorem dX1_soil_42 : decode cX1_soil 42 = .ok (.iload_n 3, 1) := by decide +kernel
theorem dX1_soil_43 : decode cX1_soil 43 = .ok (.aaload, 1) := by decide +kernel
theorem dX1_soil_44 : decode cX1_soil 44 = .ok (.aload_n 0, 1) := by decide +kernel
theorem dX1_soil_45 : decode cX1_soil 45 = .ok (.getfield 17, 3) := by decide +kernel
theorem dX1_soil_48 : decode cX1_soil 48 = .ok (.iload_n 3, 1) := by decide +kernel
theorem dX1_soil_49 : decode cX1_soil 49 = .ok (.aaload, 1) := by decide +kernel
theorem dX1_soil_50 : decode cX1_soil 50 = .ok (.iload_n 1, 1) := by decide +kernel
theorem dX1_soil_51 : decode cX1_soil 51 = .ok (.iaload, 1) := by decide +kernel
theorem dX1_soil_52 : decode cX1_soil 52 = .ok (.invokevirtual 88, 3) := by decide +kernel
theorem dX1_soil_55 : decode cX1_soil 55 = .ok (.iinc 3 1, 3) := by decide +kernel
theorem dX1_soil_58 : decode cX1_soil 58 = .ok (.goto (-43), 3) := by decide +kernel
theorem dX1_soil_61 : decode cX1_soil 61 = .ok (.aload_n 0, 1) := by decide +kernel
theorem dX1_soil_62 : decode cX1_soil 62 = .ok (.iload_n 1, 1) := by decide +kernel
theorem dX1_soil_63 : decode cX1_soil 63 = .ok (.invokevirtual 50, 3) := by decide +kernel
theorem dX1_soil_66 : decode cX1_soil 66 = .ok (.istore_n 3, 1) := by decide +kernel
theorem dX1_soil_67 : decode cX1_soil 67 = .ok (.aload_n 0, 1) := by decide +kernel
theorem dX1_soil_68 : decode cX1_soil 68 = .ok (.getfield 33, 3) := by decide +kernel
theorem dX1_soil_71 : decode cX1_soil 71 = .ok (.iload_n 1, 1) := by decide +kernel
theorem dX1_soil_72 : decode cX1_soil 72 = .ok (.aaload, 1) := by decide +kernel
theorem dX1_soil_73 : decode cX1_soil 73 = .ok (.astore 4, 2) := by decide +kernel
theorem dX1_soil_75 : decode cX1_soil 75 = .ok (.aload 4, 2) := by decide +kernel
theorem dX1_soil_77 : decode cX1_soil 77 = .ok (.aload_n 2, 1) := by decide +kernel
theorem dX1_soil_78 : decode cX1_soil 78 = .ok (.getfield 92, 3) := by decide +kernel
theorem dX1_soil_81 : decode cX1_soil 81 = .ok (.aload_n 2, 1) := by decide +kernel
theorem dX1_soil_82 : decode cX1_soil 82 = .ok (.getfield 96, 3) := by decide +kernel
theorem dX1_soil_85 : decode cX1_soil 85 = .ok (.invokevirtual 84, 3) := by decide +kernel
theorem dX1_soil_88 : decode cX1_soil 88 = .ok (.aload 4, 2) := by decide +kernel
theorem dX1_soil_90 : decode cX1_soil 90 = .ok (.aload_n 0, 1) := by decide +kernel
theorem dX1_soil_91 : decode cX1_soil 91 = .ok (.getfield 39, 3) := by decide +kernel
theorem dX1_soil_94 : decode cX1_soil 94 = .ok (.getfield 99, 3) := by decide +kernel
theorem dX1_soil_97 : decode cX1_soil 97 = .ok (.iload_n 1, 1) := by decide +kernel
theorem dX1_soil_98 : decode cX1_soil 98 = .ok (.iaload, 1) := by decide +kernel
theorem dX1_soil_99 : decode cX1_soil 99 = .ok (.invokevirtual 102, 3) := by decide +kernel
theorem dX1_soil_102 : decode cX1_soil 102 = .ok (.aload 4, 2) := by decide +kernel
theorem dX1_soil_104 : decode cX1_soil 104 = .ok (.iload_n 3, 1) := by decide +kernel
theorem dX1_soil_105 : decode cX1_soil 105 = .ok (.invokevirtual 105, 3) := by decide +kernel
theorem dX1_soil_108 : decode cX1_soil 108 = .ok (.aload_n 2, 1) := by decide +kernel
theorem dX1_soil_109 : decode cX1_soil 109 = .ok (.iload_n 3, 1) := by decide +kernel
theorem dX1_soil_110 : decode cX1_soil 110 = .ok (.invokevirtual 105, 3) := by decide +kernel
theorem dX1_soil_113 : decode cX1_soil 113 = .ok (.return_, 1) := by decide +kernel
theorem dX1_takeInOrder_0 : decode cX1_takeInOrder 0 = .ok (.iconst 0, 1) := by decide +kernel
theorem dX1_takeInOrder_1 : decode cX1_takeInOrder 1 = .ok (.istore_n 1, 1) := by decide +kernel
theorem dX1_takeInOrder_2 : decode cX1_takeInOrder 2 = .ok (.iload_n 1, 1) := by decide +kernel
theorem dX1_takeInOrder_3 : decode cX1_takeInOrder 3 = .ok (.iconst 5, 1) := by decide +kernel
theorem dX1_takeInOrder_4 : decode cX1_takeInOrder 4 = .ok (.if_icmp .ge 16, 3) := by decide +kernel
theorem dX1_takeInOrder_7 : decode cX1_takeInOrder 7 = .ok (.aload_n 0, 1) := by decide +kernel
theorem dX1_takeInOrder_8 : decode cX1_takeInOrder 8 = .ok (.getfield 20, 3) := by decide +kernel
theorem dX1_takeInOrder_11 : decode cX1_takeInOrder 11 = .ok (.iload_n 1, 1) := by decide +kernel
theorem dX1_takeInOrder_12 : decode cX1_takeInOrder 12 = .ok (.iconst 0, 1) := by decide +kernel
theorem dX1_takeInOrder_13 : decode cX1_takeInOrder 13 = .ok (.bastore, 1) := by decide +kernel
theorem dX1_takeInOrder_14 : decode cX1_takeInOrder 14 = .ok (.iinc 1 1, 3) := by decide +kernel
theorem dX1_takeInOrder_17 : decode cX1_takeInOrder 17 = .ok (.goto (-15), 3) := by decide +kernel
theorem dX1_takeInOrder_20 : decode cX1_takeInOrder 20 = .ok (.iconst 0, 1) := by decide +kernel
theorem dX1_takeInOrder_21 : decode cX1_takeInOrder 21 = .ok (.istore_n 1, 1) := by decide +kernel
theorem dX1_takeInOrder_22 : decode cX1_takeInOrder 22 = .ok (.iconst 0, 1) := by decide +kernel
theorem dX1_takeInOrder_23 : decode cX1_takeInOrder 23 = .ok (.istore_n 2, 1) := by decide +kernel
theorem dX1_takeInOrder_24 : decode cX1_takeInOrder 24 = .ok (.iload_n 2, 1) := by decide +kernel
theorem dX1_takeInOrder_25 : decode cX1_takeInOrder 25 = .ok (.aload_n 0, 1) := by decide +kernel
theorem dX1_takeInOrder_26 : decode cX1_takeInOrder 26 = .ok (.getfield 39, 3) := by decide +kernel
theorem dX1_takeInOrder_29 : decode cX1_takeInOrder 29 = .ok (.getfield 44, 3) := by decide +kernel
theorem dX1_takeInOrder_32 : decode cX1_takeInOrder 32 = .ok (.if_icmp .ge 71, 3) := by decide +kernel
theorem dX1_takeInOrder_35 : decode cX1_takeInOrder 35 = .ok (.iconst 0, 1) := by decide +kernel
theorem dX1_takeInOrder_36 : decode cX1_takeInOrder 36 = .ok (.istore_n 3, 1) := by decide +kernel
theorem dX1_takeInOrder_37 : decode cX1_takeInOrder 37 = .ok (.iload_n 3, 1) := by decide +kernel
theorem dX1_takeInOrder_38 : decode cX1_takeInOrder 38 = .ok (.aload_n 0, 1) := by decide +kernel
theorem dX1_takeInOrder_39 : decode cX1_takeInOrder 39 = .ok (.getfield 39, 3) := by decide +kernel
theorem dX1_takeInOrder_42 : decode cX1_takeInOrder 42 = .ok (.getfield 44, 3) := by decide +kernel
theorem dX1_takeInOrder_45 : decode cX1_takeInOrder 45 = .ok (.if_icmp .ge 52, 3) := by decide +kernel
theorem dX1_takeInOrder_48 : decode cX1_takeInOrder 48 = .ok (.aload_n 0, 1) := by decide +kernel
theorem dX1_takeInOrder_49 : decode cX1_takeInOrder 49 = .ok (.getfield 20, 3) := by decide +kernel
theorem dX1_takeInOrder_52 : decode cX1_takeInOrder 52 = .ok (.iload_n 3, 1) := by decide +kernel
theorem dX1_takeInOrder_53 : decode cX1_takeInOrder 53 = .ok (.baload, 1) := by decide +kernel
theorem dX1_takeInOrder_54 : decode cX1_takeInOrder 54 = .ok (.ifCond .ne 37, 3) := by decide +kernel
theorem dX1_takeInOrder_57 : decode cX1_takeInOrder 57 = .ok (.iload_n 1, 1) := by decide +kernel
theorem dX1_takeInOrder_58 : decode cX1_takeInOrder 58 = .ok (.aload_n 0, 1) := by decide +kernel
theorem dX1_takeInOrder_59 : decode cX1_takeInOrder 59 = .ok (.getfield 24, 3) := by decide +kernel
theorem dX1_takeInOrder_62 : decode cX1_takeInOrder 62 = .ok (.arraylength, 1) := by decide +kernel
theorem dX1_takeInOrder_63 : decode cX1_takeInOrder 63 = .ok (.if_icmp .ge 28, 3) := by decide +kernel
theorem dX1_takeInOrder_66 : decode cX1_takeInOrder 66 = .ok (.aload_n 0, 1) := by decide +kernel
theorem dX1_takeInOrder_67 : decode cX1_takeInOrder 67 = .ok (.iload_n 3, 1) := by decide +kernel
theorem dX1_takeInOrder_68 : decode cX1_takeInOrder 68 = .ok (.invokevirtual 108, 3) := by decide +kernel
theorem dX1_takeInOrder_71 : decode cX1_takeInOrder 71 = .ok (.ifCond .eq 20, 3) := by decide +kernel
theorem dX1_takeInOrder_74 : decode cX1_takeInOrder 74 = .ok (.aload_n 0, 1) := by decide +kernel
theorem dX1_takeInOrder_75 : decode cX1_takeInOrder 75 = .ok (.getfield 20, 3) := by decide +kernel
theorem dX1_takeInOrder_78 : decode cX1_takeInOrder 78 = .ok (.iload_n 3, 1) := by decide +kernel
theorem dX1_takeInOrder_79 : decode cX1_takeInOrder 79 = .ok (.iconst 1, 1) := by decide +kernel
theorem dX1_takeInOrder_80 : decode cX1_takeInOrder 80 = .ok (.bastore, 1) := by decide +kernel
theorem dX1_takeInOrder_81 : decode cX1_takeInOrder 81 = .ok (.aload_n 0, 1) := by decide +kernel
theorem dX1_takeInOrder_82 : decode cX1_takeInOrder 82 = .ok (.getfield 24, 3) := by decide +kernel
theorem dX1_takeInOrder_85 : decode cX1_takeInOrder 85 = .ok (.iload_n 1, 1) := by decide +kernel
theorem dX1_takeInOrder_86 : decode cX1_takeInOrder 86 = .ok (.iload_n 3, 1) := by decide +kernel
theorem dX1_takeInOrder_87 : decode cX1_takeInOrder 87 = .ok (.iastore, 1) := by decide +kernel
theorem dX1_takeInOrder_88 : decode cX1_takeInOrder 88 = .ok (.iinc 1 1, 3) := by decide +kernel
theorem dX1_takeInOrder_91 : decode cX1_takeInOrder 91 = .ok (.iinc 3 1, 3) := by decide +kernel
theorem dX1_takeInOrder_94 : decode cX1_takeInOrder 94 = .ok (.goto (-57), 3) := by decide +kernel
theorem dX1_takeInOrder_97 : decode cX1_takeInOrder 97 = .ok (.iinc 2 1, 3) := by decide +kernel
theorem dX1_takeInOrder_100 : decode cX1_takeInOrder 100 = .ok (.goto (-76), 3) := by decide +kernel
theorem dX1_takeInOrder_103 : decode cX1_takeInOrder 103 = .ok (.return_, 1) := by decide +kernel
theorem dX1_hasOnlyOfTaken_0 : decode cX1_hasOnlyOfTaken 0 = .ok (.iconst 0, 1) := by decide +kernel
theorem dX1_hasOnlyOfTaken_1 : decode cX1_hasOnlyOfTaken 1 = .ok (.istore_n 2, 1) := by decide +kernel
theorem dX1_hasOnlyOfTaken_2 : decode cX1_hasOnlyOfTaken 2 = .ok (.iload_n 2, 1) := by decide +kernel
theorem dX1_hasOnlyOfTaken_3 : decode cX1_hasOnlyOfTaken 3 = .ok (.aload_n 0, 1) := by decide +kernel
theorem dX1_hasOnlyOfTaken_4 : decode cX1_hasOnlyOfTaken 4 = .ok (.getfield 39, 3) := by decide +kernel
theorem dX1_hasOnlyOfTaken_7 : decode cX1_hasOnlyOfTaken 7 = .ok (.getfield 44, 3) := by decide +kernel
theorem dX1_hasOnlyOfTaken_10 : decode cX1_hasOnlyOfTaken 10 = .ok (.if_icmp .ge 31, 3) := by decide +kernel
theorem dX1_hasOnlyOfTaken_13 : decode cX1_hasOnlyOfTaken 13 = .ok (.aload_n 0, 1) := by decide +kernel
theorem dX1_hasOnlyOfTaken_14 : decode cX1_hasOnlyOfTaken 14 = .ok (.getfield 17, 3) := by decide +kernel
theorem dX1_hasOnlyOfTaken_17 : decode cX1_hasOnlyOfTaken 17 = .ok (.iload_n 2, 1) := by decide +kernel
theorem dX1_hasOnlyOfTaken_18 : decode cX1_hasOnlyOfTaken 18 = .ok (.aaload, 1) := by decide +kernel
theorem dX1_hasOnlyOfTaken_19 : decode cX1_hasOnlyOfTaken 19 = .ok (.iload_n 1, 1) := by decide +kernel
theorem dX1_hasOnlyOfTaken_20 : decode cX1_hasOnlyOfTaken 20 = .ok (.iaload, 1) := by decide +kernel
theorem dX1_hasOnlyOfTaken_21 : decode cX1_hasOnlyOfTaken 21 = .ok (.ifCond .le 14, 3) := by decide +kernel
theorem dX1_hasOnlyOfTaken_24 : decode cX1_hasOnlyOfTaken 24 = .ok (.aload_n 0, 1) := by decide +kernel
theorem dX1_hasOnlyOfTaken_25 : decode cX1_hasOnlyOfTaken 25 = .ok (.getfield 20, 3) := by decide +kernel
theorem dX1_hasOnlyOfTaken_28 : decode cX1_hasOnlyOfTaken 28 = .ok (.iload_n 2, 1) := by decide +kernel
theorem dX1_hasOnlyOfTaken_29 : decode cX1_hasOnlyOfTaken 29 = .ok (.baload, 1) := by decide +kernel
theorem dX1_hasOnlyOfTaken_30 : decode cX1_hasOnlyOfTaken 30 = .ok (.ifCond .ne 5, 3) := by decide +kernel
theorem dX1_hasOnlyOfTaken_33 : decode cX1_hasOnlyOfTaken 33 = .ok (.iconst 0, 1) := by decide +kernel
theorem dX1_hasOnlyOfTaken_34 : decode cX1_hasOnlyOfTaken 34 = .ok (.ireturn, 1) := by decide +kernel
theorem dX1_hasOnlyOfTaken_35 : decode cX1_hasOnlyOfTaken 35 = .ok (.iinc 2 1, 3) := by decide +kernel
theorem dX1_hasOnlyOfTaken_38 : decode cX1_hasOnlyOfTaken 38 = .ok (.goto (-36), 3) := by decide +kernel
theorem dX1_hasOnlyOfTaken_41 : decode cX1_hasOnlyOfTaken 41 = .ok (.iconst 1, 1) := by decide +kernel
theorem dX1_hasOnlyOfTaken_42 : decode cX1_hasOnlyOfTaken 42 = .ok (.ireturn, 1) := by decide +kernel
theorem dX1_spreadUpset_0 : decode cX1_spreadUpset 0 = .ok (.iconst 0, 1) := by decide +kernel
theorem dX1_spreadUpset_1 : decode cX1_spreadUpset 1 = .ok (.istore_n 3, 1) := by decide +kernel
theorem dX1_spreadUpset_2 : decode cX1_spreadUpset 2 = .ok (.iload_n 3, 1) := by decide +kernel
theorem dX1_spreadUpset_3 : decode cX1_spreadUpset 3 = .ok (.iconst 5, 1) := by decide +kernel
theorem dX1_spreadUpset_4 : decode cX1_spreadUpset 4 = .ok (.if_icmp .ge 17, 3) := by decide +kernel
theorem dX1_spreadUpset_7 : decode cX1_spreadUpset 7 = .ok (.aload_n 0, 1) := by decide +kernel
theorem dX1_spreadUpset_8 : decode cX1_spreadUpset 8 = .ok (.getfield 36, 3) := by decide +kernel
theorem dX1_spreadUpset_11 : decode cX1_spreadUpset 11 = .ok (.iload_n 3, 1) := by decide +kernel
theorem dX1_spreadUpset_12 : decode cX1_spreadUpset 12 = .ok (.bipush (-9), 2) := by decide +kernel
theorem dX1_spreadUpset_14 : decode cX1_spreadUpset 14 = .ok (.iastore, 1) := by decide +kernel
theorem dX1_spreadUpset_15 : decode cX1_spreadUpset 15 = .ok (.iinc 3 1, 3) := by decide +kernel
theorem dX1_spreadUpset_18 : decode cX1_spreadUpset 18 = .ok (.goto (-16), 3) := by decide +kernel
theorem dX1_spreadUpset_21 : decode cX1_spreadUpset 21 = .ok (.aload_n 0, 1) := by decide +kernel
theorem dX1_spreadUpset_22 : decode cX1_spreadUpset 22 = .ok (.getfield 36, 3) := by decide +kernel
theorem dX1_spreadUpset_25 : decode cX1_spreadUpset 25 = .ok (.iload_n 1, 1) := by decide +kernel
theorem dX1_spreadUpset_26 : decode cX1_spreadUpset 26 = .ok (.iload_n 2, 1) := by decide +kernel
theorem dX1_spreadUpset_27 : decode cX1_spreadUpset 27 = .ok (.iastore, 1) := by decide +kernel
theorem dX1_spreadUpset_28 : decode cX1_spreadUpset 28 = .ok (.iconst 0, 1) := by decide +kernel
theorem dX1_spreadUpset_29 : decode cX1_spreadUpset 29 = .ok (.istore_n 3, 1) := by decide +kernel
theorem dX1_spreadUpset_30 : decode cX1_spreadUpset 30 = .ok (.iload_n 3, 1) := by decide +kernel
theorem dX1_spreadUpset_31 : decode cX1_spreadUpset 31 = .ok (.aload_n 0, 1) := by decide +kernel
theorem dX1_spreadUpset_32 : decode cX1_spreadUpset 32 = .ok (.getfield 39, 3) := by decide +kernel
theorem dX1_spreadUpset_35 : decode cX1_spreadUpset 35 = .ok (.getfield 44, 3) := by decide +kernel
theorem dX1_spreadUpset_38 : decode cX1_spreadUpset 38 = .ok (.if_icmp .ge 49, 3) := by decide +kernel
theorem dX1_spreadUpset_41 : decode cX1_spreadUpset 41 = .ok (.iconst 0, 1) := by decide +kernel
theorem dX1_spreadUpset_42 : decode cX1_spreadUpset 42 = .ok (.istore 4, 2) := by decide +kernel
theorem dX1_spreadUpset_44 : decode cX1_spreadUpset 44 = .ok (.iload 4, 2) := by decide +kernel
theorem dX1_spreadUpset_46 : decode cX1_spreadUpset 46 = .ok (.aload_n 0, 1) := by decide +kernel
theorem dX1_spreadUpset_47 : decode cX1_spreadUpset 47 = .ok (.getfield 39, 3) := by decide +kernel
theorem dX1_spreadUpset_50 : decode cX1_spreadUpset 50 = .ok (.getfield 44, 3) := by decide +kernel
theorem dX1_spreadUpset_53 : decode cX1_spreadUpset 53 = .ok (.if_icmp .ge 28, 3) := by decide +kernel
theorem dX1_spreadUpset_56 : decode cX1_spreadUpset 56 = .ok (.iload 4, 2) := by decide +kernel
theorem dX1_spreadUpset_58 : decode cX1_spreadUpset 58 = .ok (.iload_n 1, 1) := by decide +kernel
theorem dX1_spreadUpset_59 : decode cX1_spreadUpset 59 = .ok (.if_icmp .eq 16, 3) := by decide +kernel
theorem dX1_spreadUpset_62 : decode cX1_spreadUpset 62 = .ok (.aload_n 0, 1) := by decide +kernel
theorem dX1_spreadUpset_63 : decode cX1_spreadUpset 63 = .ok (.getfield 36, 3) := by decide +kernel
theorem dX1_spreadUpset_66 : decode cX1_spreadUpset 66 = .ok (.iload 4, 2) := by decide +kernel
theorem dX1_spreadUpset_68 : decode cX1_spreadUpset 68 = .ok (.aload_n 0, 1) := by decide +kernel
theorem dX1_spreadUpset_69 : decode cX1_spreadUpset 69 = .ok (.iload 4, 2) := by decide +kernel
theorem dX1_spreadUpset_71 : decode cX1_spreadUpset 71 = .ok (.invokevirtual 111, 3) := by decide +kernel
theorem dX1_spreadUpset_74 : decode cX1_spreadUpset 74 = .ok (.iastore, 1) := by decide +kernel
theorem dX1_spreadUpset_75 : decode cX1_spreadUpset 75 = .ok (.iinc 4 1, 3) := by decide +kernel
theorem dX1_spreadUpset_78 : decode cX1_spreadUpset 78 = .ok (.goto (-34), 3) := by decide +kernel
theorem dX1_spreadUpset_81 : decode cX1_spreadUpset 81 = .ok (.iinc 3 1, 3) := by decide +kernel
theorem dX1_spreadUpset_84 : decode cX1_spreadUpset 84 = .ok (.goto (-54), 3) := by decide +kernel
theorem dX1_spreadUpset_87 : decode cX1_spreadUpset 87 = .ok (.return_, 1) := by decide +kernel
theorem dX1_hitBehindOthers_0 : decode cX1_hitBehindOthers 0 = .ok (.bipush (-9), 2) := by decide +kernel
theorem dX1_hitBehindOthers_2 : decode cX1_hitBehindOthers 2 = .ok (.istore_n 2, 1) := by decide +kernel
theorem dX1_hitBehindOthers_3 : decode cX1_hitBehindOthers 3 = .ok (.iconst 0, 1) := by decide +kernel
theorem dX1_hitBehindOthers_4 : decode cX1_hitBehindOthers 4 = .ok (.istore_n 3, 1) := by decide +kernel
theorem dX1_hitBehindOthers_5 : decode cX1_hitBehindOthers 5 = .ok (.iload_n 3, 1) := by decide +kernel
theorem dX1_hitBehindOthers_6 : decode cX1_hitBehindOthers 6 = .ok (.aload_n 0, 1) := by decide +kernel
theorem dX1_hitBehindOthers_7 : decode cX1_hitBehindOthers 7 = .ok (.getfield 39, 3) := by decide +kernel
theorem dX1_hitBehindOthers_10 : decode cX1_hitBehindOthers 10 = .ok (.getfield 44, 3) := by decide +kernel
theorem dX1_hitBehindOthers_13 : decode cX1_hitBehindOthers 13 = .ok (.if_icmp .ge 54, 3) := by decide +kernel
theorem dX1_hitBehindOthers_16 : decode cX1_hitBehindOthers 16 = .ok (.aload_n 0, 1) := by decide +kernel
theorem dX1_hitBehindOthers_17 : decode cX1_hitBehindOthers 17 = .ok (.getfield 17, 3) := by decide +kernel
theorem dX1_hitBehindOthers_20 : decode cX1_hitBehindOthers 20 = .ok (.iload_n 3, 1) := by decide +kernel
theorem dX1_hitBehindOthers_21 : decode cX1_hitBehindOthers 21 = .ok (.aaload, 1) := by decide +kernel
theorem dX1_hitBehindOthers_22 : decode cX1_hitBehindOthers 22 = .ok (.iload_n 1, 1) := by decide +kernel
theorem dX1_hitBehindOthers_23 : decode cX1_hitBehindOthers 23 = .ok (.iaload, 1) := by decide +kernel
theorem dX1_hitBehindOthers_24 : decode cX1_hitBehindOthers 24 = .ok (.ifCond .le 37, 3) := by decide +kernel
theorem dX1_hitBehindOthers_27 : decode cX1_hitBehindOthers 27 = .ok (.aload_n 0, 1) := by decide +kernel
theorem dX1_hitBehindOthers_28 : decode cX1_hitBehindOthers 28 = .ok (.getfield 36, 3) := by decide +kernel
theorem dX1_hitBehindOthers_31 : decode cX1_hitBehindOthers 31 = .ok (.iload_n 3, 1) := by decide +kernel
theorem dX1_hitBehindOthers_32 : decode cX1_hitBehindOthers 32 = .ok (.iaload, 1) := by decide +kernel
theorem dX1_hitBehindOthers_33 : decode cX1_hitBehindOthers 33 = .ok (.bipush (-9), 2) := by decide +kernel
theorem dX1_hitBehindOthers_35 : decode cX1_hitBehindOthers 35 = .ok (.if_icmp .eq 26, 3) := by decide +kernel
theorem dX1_hitBehindOthers_38 : decode cX1_hitBehindOthers 38 = .ok (.iload_n 2, 1) := by decide +kernel
theorem dX1_hitBehindOthers_39 : decode cX1_hitBehindOthers 39 = .ok (.bipush (-9), 2) := by decide +kernel
theorem dX1_hitBehindOthers_41 : decode cX1_hitBehindOthers 41 = .ok (.if_icmp .eq 13, 3) := by decide +kernel
theorem dX1_hitBehindOthers_44 : decode cX1_hitBehindOthers 44 = .ok (.aload_n 0, 1) := by decide +kernel
theorem dX1_hitBehindOthers_45 : decode cX1_hitBehindOthers 45 = .ok (.getfield 36, 3) := by decide +kernel
theorem dX1_hitBehindOthers_48 : decode cX1_hitBehindOthers 48 = .ok (.iload_n 3, 1) := by decide +kernel
theorem dX1_hitBehindOthers_49 : decode cX1_hitBehindOthers 49 = .ok (.iaload, 1) := by decide +kernel
theorem dX1_hitBehindOthers_50 : decode cX1_hitBehindOthers 50 = .ok (.iload_n 2, 1) := by decide +kernel
theorem dX1_hitBehindOthers_51 : decode cX1_hitBehindOthers 51 = .ok (.if_icmp .ge 10, 3) := by decide +kernel
theorem dX1_hitBehindOthers_54 : decode cX1_hitBehindOthers 54 = .ok (.aload_n 0, 1) := by decide +kernel
theorem dX1_hitBehindOthers_55 : decode cX1_hitBehindOthers 55 = .ok (.getfield 36, 3) := by decide +kernel
theorem dX1_hitBehindOthers_58 : decode cX1_hitBehindOthers 58 = .ok (.iload_n 3, 1) := by decide +kernel
theorem dX1_hitBehindOthers_59 : decode cX1_hitBehindOthers 59 = .ok (.iaload, 1) := by decide +kernel
theorem dX1_hitBehindOthers_60 : decode cX1_hitBehindOthers 60 = .ok (.istore_n 2, 1) := by decide +kernel
theorem dX1_hitBehindOthers_61 : decode cX1_hitBehindOthers 61 = .ok (.iinc 3 1, 3) := by decide +kernel
theorem dX1_hitBehindOthers_64 : decode cX1_hitBehindOthers 64 = .ok (.goto (-59), 3) := by decide +kernel
theorem dX1_hitBehindOthers_67 : decode cX1_hitBehindOthers 67 = .ok (.iload_n 2, 1) := by decide +kernel
theorem dX1_hitBehindOthers_68 : decode cX1_hitBehindOthers 68 = .ok (.bipush (-9), 2) := by decide +kernel
theorem dX1_hitBehindOthers_70 : decode cX1_hitBehindOthers 70 = .ok (.if_icmp .ne 8, 3) := by decide +kernel
theorem dX1_hitBehindOthers_73 : decode cX1_hitBehindOthers 73 = .ok (.bipush (-9), 2) := by decide +kernel
theorem dX1_hitBehindOthers_75 : decode cX1_hitBehindOthers 75 = .ok (.goto 14, 3) := by decide +kernel
theorem dX1_hitBehindOthers_78 : decode cX1_hitBehindOthers 78 = .ok (.iload_n 2, 1) := by decide +kernel
theorem dX1_hitBehindOthers_79 : decode cX1_hitBehindOthers 79 = .ok (.aload_n 0, 1) := by decide +kernel
theorem dX1_hitBehindOthers_80 : decode cX1_hitBehindOthers 80 = .ok (.getfield 39, 3) := by decide +kernel
theorem dX1_hitBehindOthers_83 : decode cX1_hitBehindOthers 83 = .ok (.getfield 114, 3) := by decide +kernel
theorem dX1_hitBehindOthers_86 : decode cX1_hitBehindOthers 86 = .ok (.iload_n 1, 1) := by decide +kernel
theorem dX1_hitBehindOthers_87 : decode cX1_hitBehindOthers 87 = .ok (.iaload, 1) := by decide +kernel
theorem dX1_hitBehindOthers_88 : decode cX1_hitBehindOthers 88 = .ok (.iadd, 1) := by decide +kernel
theorem dX1_hitBehindOthers_89 : decode cX1_hitBehindOthers 89 = .ok (.ireturn, 1) := by decide +kernel
theorem dX2_init_0 : decode cX2_init 0 = .ok (.aload_n 0, 1) := by decide +kernel
theorem dX2_init_1 : decode cX2_init 1 = .ok (.invokespecial 1, 3) := by decide +kernel
theorem dX2_init_4 : decode cX2_init 4 = .ok (.aload_n 0, 1) := by decide +kernel
theorem dX2_init_5 : decode cX2_init 5 = .ok (.lconst 1, 1) := by decide +kernel
theorem dX2_init_6 : decode cX2_init 6 = .ok (.putfield 7, 3) := by decide +kernel
theorem dX2_init_9 : decode cX2_init 9 = .ok (.return_, 1) := by decide +kernel
theorem dX2_become_0 : decode cX2_become 0 = .ok (.lload_n 1, 1) := by decide +kernel
theorem dX2_become_1 : decode cX2_become 1 = .ok (.invokestatic 13, 3) := by decide +kernel
theorem dX2_become_4 : decode cX2_become 4 = .ok (.lload_n 3, 1) := by decide +kernel
theorem dX2_become_5 : decode cX2_become 5 = .ok (.invokestatic 19, 3) := by decide +kernel
theorem dX2_become_8 : decode cX2_become 8 = .ok (.lstore 5, 2) := by decide +kernel
theorem dX2_become_10 : decode cX2_become 10 = .ok (.aload_n 0, 1) := by decide +kernel
theorem dX2_become_11 : decode cX2_become 11 = .ok (.lload_n 1, 1) := by decide +kernel
theorem dX2_become_12 : decode cX2_become 12 = .ok (.lload 5, 2) := by decide +kernel
theorem dX2_become_14 : decode cX2_become 14 = .ok (.ldiv, 1) := by decide +kernel
theorem dX2_become_15 : decode cX2_become 15 = .ok (.putfield 23, 3) := by decide +kernel
theorem dX2_become_18 : decode cX2_become 18 = .ok (.aload_n 0, 1) := by decide +kernel
theorem dX2_become_19 : decode cX2_become 19 = .ok (.lload_n 3, 1) := by decide +kernel
theorem dX2_become_20 : decode cX2_become 20 = .ok (.lload 5, 2) := by decide +kernel
theorem dX2_become_22 : decode cX2_become 22 = .ok (.ldiv, 1) := by decide +kernel
theorem dX2_become_23 : decode cX2_become 23 = .ok (.putfield 7, 3) := by decide +kernel
theorem dX2_become_26 : decode cX2_become 26 = .ok (.return_, 1) := by decide +kernel
theorem dX2_addTimes_0 : decode cX2_addTimes 0 = .ok (.aload_n 0, 1) := by decide +kernel
theorem dX2_addTimes_1 : decode cX2_addTimes 1 = .ok (.getfield 7, 3) := by decide +kernel
theorem dX2_addTimes_4 : decode cX2_addTimes 4 = .ok (.aload_n 1, 1) := by decide +kernel
theorem dX2_addTimes_5 : decode cX2_addTimes 5 = .ok (.getfield 7, 3) := by decide +kernel
theorem dX2_addTimes_8 : decode cX2_addTimes 8 = .ok (.invokestatic 19, 3) := by decide +kernel
theorem dX2_addTimes_11 : decode cX2_addTimes 11 = .ok (.lstore_n 3, 1) := by decide +kernel
theorem dX2_addTimes_12 : decode cX2_addTimes 12 = .ok (.aload_n 1, 1) := by decide +kernel
theorem dX2_addTimes_13 : decode cX2_addTimes 13 = .ok (.getfield 7, 3) := by decide +kernel
theorem dX2_addTimes_16 : decode cX2_addTimes 16 = .ok (.lload_n 3, 1) := by decide +kernel
theorem dX2_addTimes_17 : decode cX2_addTimes 17 = .ok (.ldiv, 1) := by decide +kernel
theorem dX2_addTimes_18 : decode cX2_addTimes 18 = .ok (.lstore 5, 2) := by decide +kernel
theorem dX2_addTimes_20 : decode cX2_addTimes 20 = .ok (.aload_n 0, 1) := by decide +kernel
theorem dX2_addTimes_21 : decode cX2_addTimes 21 = .ok (.getfield 7, 3) := by decide +kernel
theorem dX2_addTimes_24 : decode cX2_addTimes 24 = .ok (.lload_n 3, 1) := by decide +kernel
theorem dX2_addTimes_25 : decode cX2_addTimes 25 = .ok (.ldiv, 1) := by decide +kernel
theorem dX2_addTimes_26 : decode cX2_addTimes 26 = .ok (.lstore 7, 2) := by decide +kernel
theorem dX2_addTimes_28 : decode cX2_addTimes 28 = .ok (.aload_n 0, 1) := by decide +kernel
theorem dX2_addTimes_29 : decode cX2_addTimes 29 = .ok (.aload_n 0, 1) := by decide +kernel
theorem dX2_addTimes_30 : decode cX2_addTimes 30 = .ok (.getfield 23, 3) := by decide +kernel
theorem dX2_addTimes_33 : decode cX2_addTimes 33 = .ok (.lload 5, 2) := by decide +kernel
theorem dX2_addTimes_35 : decode cX2_addTimes 35 = .ok (.lmul, 1) := by decide +kernel
theorem dX2_addTimes_36 : decode cX2_addTimes 36 = .ok (.aload_n 1, 1) := by decide +kernel
theorem dX2_addTimes_37 : decode cX2_addTimes 37 = .ok (.getfield 23, 3) := by decide +kernel
theorem dX2_addTimes_40 : decode cX2_addTimes 40 = .ok (.iload_n 2, 1) := by decide +kernel
theorem dX2_addTimes_41 : decode cX2_addTimes 41 = .ok (.i2l, 1) := by decide +kernel
theorem dX2_addTimes_42 : decode cX2_addTimes 42 = .ok (.lmul, 1) := by decide +kernel
theorem dX2_addTimes_43 : decode cX2_addTimes 43 = .ok (.lload 7, 2) := by decide +kernel
theorem dX2_addTimes_45 : decode cX2_addTimes 45 = .ok (.lmul, 1) := by decide +kernel
theorem dX2_addTimes_46 : decode cX2_addTimes 46 = .ok (.ladd, 1) := by decide +kernel
theorem dX2_addTimes_47 : decode cX2_addTimes 47 = .ok (.aload_n 0, 1) := by decide +kernel
theorem dX2_addTimes_48 : decode cX2_addTimes 48 = .ok (.getfield 7, 3) := by decide +kernel
theorem dX2_addTimes_51 : decode cX2_addTimes 51 = .ok (.lload 5, 2) := by decide +kernel
theorem dX2_addTimes_53 : decode cX2_addTimes 53 = .ok (.lmul, 1) := by decide +kernel
theorem dX2_addTimes_54 : decode cX2_addTimes 54 = .ok (.invokevirtual 26, 3) := by decide +kernel
theorem dX2_addTimes_57 : decode cX2_addTimes 57 = .ok (.return_, 1) := by decide +kernel
theorem dX2_addWhole_0 : decode cX2_addWhole 0 = .ok (.aload_n 0, 1) := by decide +kernel
theorem dX2_addWhole_1 : decode cX2_addWhole 1 = .ok (.dup, 1) := by decide +kernel
theorem dX2_addWhole_2 : decode cX2_addWhole 2 = .ok (.getfield 23, 3) := by decide +kernel
theorem dX2_addWhole_5 : decode cX2_addWhole 5 = .ok (.iload_n 1, 1) := by decide +kernel
theorem dX2_addWhole_6 : decode cX2_addWhole 6 = .ok (.i2l, 1) := by decide +kernel
theorem dX2_addWhole_7 : decode cX2_addWhole 7 = .ok (.aload_n 0, 1) := by decide +kernel
theorem dX2_addWhole_8 : decode cX2_addWhole 8 = .ok (.getfield 7, 3) := by decide +kernel
theorem dX2_addWhole_11 : decode cX2_addWhole 11 = .ok (.lmul, 1) := by decide +kernel
theorem dX2_addWhole_12 : decode cX2_addWhole 12 = .ok (.ladd, 1) := by decide +kernel
theorem dX2_addWhole_13 : decode cX2_addWhole 13 = .ok (.putfield 23, 3) := by decide +kernel
theorem dX2_addWhole_16 : decode cX2_addWhole 16 = .ok (.return_, 1) := by decide +kernel
theorem dX2_divideBy_0 : decode cX2_divideBy 0 = .ok (.iload_n 1, 1) := by decide +kernel
theorem dX2_divideBy_1 : decode cX2_divideBy 1 = .ok (.ifCond .le 18, 3) := by decide +kernel
theorem dX2_divideBy_4 : decode cX2_divideBy 4 = .ok (.aload_n 0, 1) := by decide +kernel
theorem dX2_divideBy_5 : decode cX2_divideBy 5 = .ok (.aload_n 0, 1) := by decide +kernel
theorem dX2_divideBy_6 : decode cX2_divideBy 6 = .ok (.getfield 23, 3) := by decide +kernel
theorem dX2_divideBy_9 : decode cX2_divideBy 9 = .ok (.aload_n 0, 1) := by decide +kernel
theorem dX2_divideBy_10 : decode cX2_divideBy 10 = .ok (.getfield 7, 3) := by decide +kernel
theorem dX2_divideBy_13 : decode cX2_divideBy 13 = .ok (.iload_n 1, 1) := by decide +kernel
theorem dX2_divideBy_14 : decode cX2_divideBy 14 = .ok (.i2l, 1) := by decide +kernel
theorem dX2_divideBy_15 : decode cX2_divideBy 15 = .ok (.lmul, 1) := by decide +kernel
theorem dX2_divideBy_16 : decode cX2_divideBy 16 = .ok (.invokevirtual 26, 3) := by decide +kernel
theorem dX2_divideBy_19 : decode cX2_divideBy 19 = .ok (.return_, 1) := by decide +kernel
theorem dX2_isAbove_0 : decode cX2_isAbove 0 = .ok (.aload_n 0, 1) := by decide +kernel
theorem dX2_isAbove_1 : decode cX2_isAbove 1 = .ok (.getfield 23, 3) := by decide +kernel
theorem dX2_isAbove_4 : decode cX2_isAbove 4 = .ok (.iload_n 1, 1) := by decide +kernel
theorem dX2_isAbove_5 : decode cX2_isAbove 5 = .ok (.i2l, 1) := by decide +kernel
theorem dX2_isAbove_6 : decode cX2_isAbove 6 = .ok (.aload_n 0, 1) := by decide +kernel
theorem dX2_isAbove_7 : decode cX2_isAbove 7 = .ok (.getfield 7, 3) := by decide +kernel
theorem dX2_isAbove_10 : decode cX2_isAbove 10 = .ok (.lmul, 1) := by decide +kernel
theorem dX2_isAbove_11 : decode cX2_isAbove 11 = .ok (.lcmp, 1) := by decide +kernel
theorem dX2_isAbove_12 : decode cX2_isAbove 12 = .ok (.ifCond .le 7, 3) := by decide +kernel
theorem dX2_isAbove_15 : decode cX2_isAbove 15 = .ok (.iconst 1, 1) := by decide +kernel
theorem dX2_isAbove_16 : decode cX2_isAbove 16 = .ok (.goto 4, 3) := by decide +kernel
theorem dX2_isAbove_19 : decode cX2_isAbove 19 = .ok (.iconst 0, 1) := by decide +kernel
theorem dX2_isAbove_20 : decode cX2_isAbove 20 = .ok (.ireturn, 1) := by decide +kernel
theorem dX2_part_0 : decode cX2_part 0 = .ok (.iload_n 1, 1) := by decide +kernel
theorem dX2_part_1 : decode cX2_part 1 = .ok (.ifCond .ne 10, 3) := by decide +kernel
theorem dX2_part_4 : decode cX2_part 4 = .ok (.aload_n 0, 1) := by decide +kernel
theorem dX2_part_5 : decode cX2_part 5 = .ok (.getfield 23, 3) := by decide +kernel
theorem dX2_part_8 : decode cX2_part 8 = .ok (.goto 7, 3) := by decide +kernel
theorem dX2_part_11 : decode cX2_part 11 = .ok (.aload_n 0, 1) := by decide +kernel
theorem dX2_part_12 : decode cX2_part 12 = .ok (.getfield 7, 3) := by decide +kernel
theorem dX2_part_15 : decode cX2_part 15 = .ok (.lreturn, 1) := by decide +kernel
theorem dX2_commonDivisor_0 : decode cX2_commonDivisor 0 = .ok (.lload_n 0, 1) := by decide +kernel
theorem dX2_commonDivisor_1 : decode cX2_commonDivisor 1 = .ok (.lstore 4, 2) := by decide +kernel
theorem dX2_commonDivisor_3 : decode cX2_commonDivisor 3 = .ok (.lload_n 2, 1) := by decide +kernel
theorem dX2_commonDivisor_4 : decode cX2_commonDivisor 4 = .ok (.lstore 6, 2) := by decide +kernel
theorem dX2_commonDivisor_6 : decode cX2_commonDivisor 6 = .ok (.iconst 0, 1) := by decide +kernel
theorem dX2_commonDivisor_7 : decode cX2_commonDivisor 7 = .ok (.istore 8, 2) := by decide +kernel
theorem dX2_commonDivisor_9 : decode cX2_commonDivisor 9 = .ok (.iload 8, 2) := by decide +kernel
theorem dX2_commonDivisor_11 : decode cX2_commonDivisor 11 = .ok (.bipush 100, 2) := by decide +kernel
theorem dX2_commonDivisor_13 : decode cX2_commonDivisor 13 = .ok (.if_icmp .ge 31, 3) := by decide +kernel
theorem dX2_commonDivisor_16 : decode cX2_commonDivisor 16 = .ok (.lload 6, 2) := by decide +kernel
theorem dX2_commonDivisor_18 : decode cX2_commonDivisor 18 = .ok (.lconst 0, 1) := by decide +kernel
theorem dX2_commonDivisor_19 : decode cX2_commonDivisor 19 = .ok (.lcmp, 1) := by decide +kernel
theorem dX2_commonDivisor_20 : decode cX2_commonDivisor 20 = .ok (.ifCond .eq 24, 3) := by decide +kernel
theorem dX2_commonDivisor_23 : decode cX2_commonDivisor 23 = .ok (.lload 4, 2) := by decide +kernel
theorem dX2_commonDivisor_25 : decode cX2_commonDivisor 25 = .ok (.lload 6, 2) := by decide +kernel
theorem dX2_commonDivisor_27 : decode cX2_commonDivisor 27 = .ok (.lrem, 1) := by decide +kernel
theorem dX2_commonDivisor_28 : decode cX2_commonDivisor 28 = .ok (.lstore 9, 2) := by decide +kernel
theorem dX2_commonDivisor_30 : decode cX2_commonDivisor 30 = .ok (.lload 6, 2) := by decide +kernel
theorem dX2_commonDivisor_32 : decode cX2_commonDivisor 32 = .ok (.lstore 4, 2) := by decide +kernel
theorem dX2_commonDivisor_34 : decode cX2_commonDivisor 34 = .ok (.lload 9, 2) := by decide +kernel
theorem dX2_commonDivisor_36 : decode cX2_commonDivisor 36 = .ok (.lstore 6, 2) := by decide +kernel
theorem dX2_commonDivisor_38 : decode cX2_commonDivisor 38 = .ok (.iinc 8 1, 3) := by decide +kernel
theorem dX2_commonDivisor_41 : decode cX2_commonDivisor 41 = .ok (.goto (-32), 3) := by decide +kernel
theorem dX2_commonDivisor_44 : decode cX2_commonDivisor 44 = .ok (.lload 4, 2) := by decide +kernel
theorem dX2_commonDivisor_46 : decode cX2_commonDivisor 46 = .ok (.lconst 1, 1) := by decide +kernel
theorem dX2_commonDivisor_47 : decode cX2_commonDivisor 47 = .ok (.invokestatic 30, 3) := by decide +kernel
theorem dX2_commonDivisor_50 : decode cX2_commonDivisor 50 = .ok (.lreturn, 1) := by decide +kernel
theorem dX3_init_0 : decode cX3_init 0 = .ok (.aload_n 0, 1) := by decide +kernel
theorem dX3_init_1 : decode cX3_init 1 = .ok (.invokespecial 1, 3) := by decide +kernel
theorem dX3_init_4 : decode cX3_init 4 = .ok (.aload_n 0, 1) := by decide +kernel
theorem dX3_init_5 : decode cX3_init 5 = .ok (.iconst 3, 1) := by decide +kernel
theorem dX3_init_6 : decode cX3_init 6 = .ok (.newarray .int, 2) := by decide +kernel
theorem dX3_init_8 : decode cX3_init 8 = .ok (.putfield 7, 3) := by decide +kernel
theorem dX3_init_11 : decode cX3_init 11 = .ok (.aload_n 0, 1) := by decide +kernel
theorem dX3_init_12 : decode cX3_init 12 = .ok (.aload_n 1, 1) := by decide +kernel
theorem dX3_init_13 : decode cX3_init 13 = .ok (.putfield 13, 3) := by decide +kernel
theorem dX3_init_16 : decode cX3_init 16 = .ok (.aload_n 0, 1) := by decide +kernel
theorem dX3_init_17 : decode cX3_init 17 = .ok (.getfield 7, 3) := by decide +kernel
theorem dX3_init_20 : decode cX3_init 20 = .ok (.iconst 0, 1) := by decide +kernel
theorem dX3_init_21 : decode cX3_init 21 = .ok (.bipush 10, 2) := by decide +kernel
theorem dX3_init_23 : decode cX3_init 23 = .ok (.iastore, 1) := by decide +kernel
theorem dX3_init_24 : decode cX3_init 24 = .ok (.return_, 1) := by decide +kernel
theorem dX3_isSetting_0 : decode cX3_isSetting 0 = .ok (.iload_n 0, 1) := by decide +kernel
theorem dX3_isSetting_1 : decode cX3_isSetting 1 = .ok (.ifCond .lt 15, 3) := by decide +kernel
theorem dX3_isSetting_4 : decode cX3_isSetting 4 = .ok (.iload_n 0, 1) := by decide +kernel
theorem dX3_isSetting_5 : decode cX3_isSetting 5 = .ok (.getstatic 17, 3) := by decide +kernel
theorem dX3_isSetting_8 : decode cX3_isSetting 8 = .ok (.arraylength, 1) := by decide +kernel
theorem dX3_isSetting_9 : decode cX3_isSetting 9 = .ok (.if_icmp .ge 7, 3) := by decide +kernel
theorem dX3_isSetting_12 : decode cX3_isSetting 12 = .ok (.iconst 1, 1) := by decide +kernel
theorem dX3_isSetting_13 : decode cX3_isSetting 13 = .ok (.goto 4, 3) := by decide +kernel
theorem dX3_isSetting_16 : decode cX3_isSetting 16 = .ok (.iconst 0, 1) := by decide +kernel
theorem dX3_isSetting_17 : decode cX3_isSetting 17 = .ok (.ireturn, 1) := by decide +kernel
theorem dX3_tracesOf_0 : decode cX3_tracesOf 0 = .ok (.iload_n 0, 1) := by decide +kernel
theorem dX3_tracesOf_1 : decode cX3_tracesOf 1 = .ok (.lookupswitch 32 #[(0, 27), (1, 29)], 27) := by decide +kernel
theorem dX3_tracesOf_28 : decode cX3_tracesOf 28 = .ok (.iconst 1, 1) := by decide +kernel
theorem dX3_tracesOf_29 : decode cX3_tracesOf 29 = .ok (.ireturn, 1) := by decide +kernel
theorem dX3_tracesOf_30 : decode cX3_tracesOf 30 = .ok (.bipush 11, 2) := by decide +kernel
theorem dX3_tracesOf_32 : decode cX3_tracesOf 32 = .ok (.ireturn, 1) := by decide +kernel
theorem dX3_tracesOf_33 : decode cX3_tracesOf 33 = .ok (.bipush 111, 2) := by decide +kernel
theorem dX3_tracesOf_35 : decode cX3_tracesOf 35 = .ok (.ireturn, 1) := by decide +kernel
theorem dX3_atHand_0 : decode cX3_atHand 0 = .ok (.aload_n 0, 1) := by decide +kernel
theorem dX3_atHand_1 : decode cX3_atHand 1 = .ok (.getfield 7, 3) := by decide +kernel
theorem dX3_atHand_4 : decode cX3_atHand 4 = .ok (.iconst 2, 1) := by decide +kernel
theorem dX3_atHand_5 : decode cX3_atHand 5 = .ok (.iaload, 1) := by decide +kernel
theorem dX3_atHand_6 : decode cX3_atHand 6 = .ok (.ireturn, 1) := by decide +kernel
theorem dX3_by_0 : decode cX3_by 0 = .ok (.aload_n 0, 1) := by decide +kernel
theorem dX3_by_1 : decode cX3_by 1 = .ok (.getfield 13, 3) := by decide +kernel
theorem dX3_by_4 : decode cX3_by 4 = .ok (.getfield 20, 3) := by decide +kernel
theorem dX3_by_7 : decode cX3_by 7 = .ok (.iload_n 2, 1) := by decide +kernel
theorem dX3_by_8 : decode cX3_by 8 = .ok (.iaload, 1) := by decide +kernel
theorem dX3_by_9 : decode cX3_by 9 = .ok (.iconst 1, 1) := by decide +kernel
theorem dX3_by_10 : decode cX3_by 10 = .ok (.iadd, 1) := by decide +kernel
theorem dX3_by_11 : decode cX3_by 11 = .ok (.istore_n 3, 1) := by decide +kernel
theorem dX3_by_12 : decode cX3_by 12 = .ok (.aload_n 0, 1) := by decide +kernel
theorem dX3_by_13 : decode cX3_by 13 = .ok (.getfield 13, 3) := by decide +kernel
theorem dX3_by_16 : decode cX3_by 16 = .ok (.getfield 25, 3) := by decide +kernel
theorem dX3_by_19 : decode cX3_by 19 = .ok (.iload_n 2, 1) := by decide +kernel
theorem dX3_by_20 : decode cX3_by 20 = .ok (.iaload, 1) := by decide +kernel
theorem dX3_by_21 : decode cX3_by 21 = .ok (.istore 4, 2) := by decide +kernel
theorem dX3_by_23 : decode cX3_by 23 = .ok (.iload_n 1, 1) := by decide +kernel
theorem dX3_by_24 : decode cX3_by 24 = .ok (.iconst 1, 1) := by decide +kernel
theorem dX3_by_25 : decode cX3_by 25 = .ok (.if_icmp .lt 18, 3) := by decide +kernel
theorem dX3_by_28 : decode cX3_by 28 = .ok (.iload 4, 2) := by decide +kernel
theorem dX3_by_30 : decode cX3_by 30 = .ok (.aload_n 0, 1) := by decide +kernel
theorem dX3_by_31 : decode cX3_by 31 = .ok (.getfield 7, 3) := by decide +kernel
theorem dX3_by_34 : decode cX3_by 34 = .ok (.iconst 0, 1) := by decide +kernel
theorem dX3_by_35 : decode cX3_by 35 = .ok (.iaload, 1) := by decide +kernel
theorem dX3_by_36 : decode cX3_by 36 = .ok (.isub, 1) := by decide +kernel
theorem dX3_by_37 : decode cX3_by 37 = .ok (.iload_n 3, 1) := by decide +kernel
theorem dX3_by_38 : decode cX3_by 38 = .ok (.invokestatic 28, 3) := by decide +kernel
theorem dX3_by_41 : decode cX3_by 41 = .ok (.istore 4, 2) := by decide +kernel
theorem dX3_by_43 : decode cX3_by 43 = .ok (.iload_n 1, 1) := by decide +kernel
theorem dX3_by_44 : decode cX3_by 44 = .ok (.iconst 2, 1) := by decide +kernel
theorem dX3_by_45 : decode cX3_by 45 = .ok (.if_icmp .lt 20, 3) := by decide +kernel
theorem dX3_by_48 : decode cX3_by 48 = .ok (.iload 4, 2) := by decide +kernel
theorem dX3_by_50 : decode cX3_by 50 = .ok (.iconst 2, 1) := by decide +kernel
theorem dX3_by_51 : decode cX3_by 51 = .ok (.aload_n 0, 1) := by decide +kernel
theorem dX3_by_52 : decode cX3_by 52 = .ok (.getfield 7, 3) := by decide +kernel
theorem dX3_by_55 : decode cX3_by 55 = .ok (.iconst 1, 1) := by decide +kernel
theorem dX3_by_56 : decode cX3_by 56 = .ok (.iaload, 1) := by decide +kernel
theorem dX3_by_57 : decode cX3_by 57 = .ok (.imul, 1) := by decide +kernel
theorem dX3_by_58 : decode cX3_by 58 = .ok (.isub, 1) := by decide +kernel
theorem dX3_by_59 : decode cX3_by 59 = .ok (.iload_n 3, 1) := by decide +kernel
theorem dX3_by_60 : decode cX3_by 60 = .ok (.invokestatic 28, 3) := by decide +kernel
theorem dX3_by_63 : decode cX3_by 63 = .ok (.istore 4, 2) := by decide +kernel
theorem dX3_by_65 : decode cX3_by 65 = .ok (.iload 4, 2) := by decide +kernel
theorem dX3_by_67 : decode cX3_by 67 = .ok (.ireturn, 1) := by decide +kernel
theorem dX4_init_0 : decode cX4_init 0 = .ok (.aload_n 0, 1) := by decide +kernel
theorem dX4_init_1 : decode cX4_init 1 = .ok (.invokespecial 3, 3) := by decide +kernel
theorem dX4_init_4 : decode cX4_init 4 = .ok (.aload_n 0, 1) := by decide +kernel
theorem dX4_init_5 : decode cX4_init 5 = .ok (.bipush 8, 2) := by decide +kernel
theorem dX4_init_7 : decode cX4_init 7 = .ok (.newarray .int, 2) := by decide +kernel
theorem dX4_init_9 : decode cX4_init 9 = .ok (.putfield 11, 3) := by decide +kernel
theorem dX4_init_12 : decode cX4_init 12 = .ok (.aload_n 0, 1) := by decide +kernel
theorem dX4_init_13 : decode cX4_init 13 = .ok (.bipush 8, 2) := by decide +kernel
theorem dX4_init_15 : decode cX4_init 15 = .ok (.newarray .int, 2) := by decide +kernel
theorem dX4_init_17 : decode cX4_init 17 = .ok (.putfield 15, 3) := by decide +kernel
theorem dX4_init_20 : decode cX4_init 20 = .ok (.return_, 1) := by decide +kernel
theorem dX4_has_0 : decode cX4_has 0 = .ok (.iload_n 1, 1) := by decide +kernel
theorem dX4_has_1 : decode cX4_has 1 = .ok (.ifCond .lt 15, 3) := by decide +kernel
theorem dX4_has_4 : decode cX4_has 4 = .ok (.iload_n 1, 1) := by decide +kernel
theorem dX4_has_5 : decode cX4_has 5 = .ok (.aload_n 0, 1) := by decide +kernel
theorem dX4_has_6 : decode cX4_has 6 = .ok (.getfield 18, 3) := by decide +kernel
theorem dX4_has_9 : decode cX4_has 9 = .ok (.if_icmp .ge 7, 3) := by decide +kernel
theorem dX4_has_12 : decode cX4_has 12 = .ok (.iconst 1, 1) := by decide +kernel
theorem dX4_has_13 : decode cX4_has 13 = .ok (.goto 4, 3) := by decide +kernel
theorem dX4_has_16 : decode cX4_has 16 = .ok (.iconst 0, 1) := by decide +kernel
theorem dX4_has_17 : decode cX4_has 17 = .ok (.ireturn, 1) := by decide +kernel
theorem dX4_isFull_0 : decode cX4_isFull 0 = .ok (.aload_n 0, 1) := by decide +kernel
theorem dX4_isFull_1 : decode cX4_isFull 1 = .ok (.getfield 18, 3) := by decide +kernel
theorem dX4_isFull_4 : decode cX4_isFull 4 = .ok (.bipush 8, 2) := by decide +kernel
theorem dX4_isFull_6 : decode cX4_isFull 6 = .ok (.if_icmp .lt 7, 3) := by decide +kernel
theorem dX4_isFull_9 : decode cX4_isFull 9 = .ok (.iconst 1, 1) := by decide +kernel
theorem dX4_isFull_10 : decode cX4_isFull 10 = .ok (.goto 4, 3) := by decide +kernel
theorem dX4_isFull_13 : decode cX4_isFull 13 = .ok (.iconst 0, 1) := by decide +kernel
theorem dX4_isFull_14 : decode cX4_isFull 14 = .ok (.ireturn, 1) := by decide +kernel
theorem dX4_append_0 : decode cX4_append 0 = .ok (.aload_n 0, 1) := by decide +kernel
theorem dX4_append_1 : decode cX4_append 1 = .ok (.getfield 18, 3) := by decide +kernel
theorem dX4_append_4 : decode cX4_append 4 = .ok (.istore_n 2, 1) := by decide +kernel
theorem dX4_append_5 : decode cX4_append 5 = .ok (.aload_n 0, 1) := by decide +kernel
theorem dX4_append_6 : decode cX4_append 6 = .ok (.getfield 11, 3) := by decide +kernel
theorem dX4_append_9 : decode cX4_append 9 = .ok (.iload_n 2, 1) := by decide +kernel
theorem dX4_append_10 : decode cX4_append 10 = .ok (.iload_n 1, 1) := by decide +kernel
theorem dX4_append_11 : decode cX4_append 11 = .ok (.iastore, 1) := by decide +kernel
theorem dX4_append_12 : decode cX4_append 12 = .ok (.aload_n 0, 1) := by decide +kernel
theorem dX4_append_13 : decode cX4_append 13 = .ok (.getfield 15, 3) := by decide +kernel
theorem dX4_append_16 : decode cX4_append 16 = .ok (.iload_n 2, 1) := by decide +kernel
theorem dX4_append_17 : decode cX4_append 17 = .ok (.bipush (-9), 2) := by decide +kernel
theorem dX4_append_19 : decode cX4_append 19 = .ok (.iastore, 1) := by decide +kernel
theorem dX4_append_20 : decode cX4_append 20 = .ok (.aload_n 0, 1) := by decide +kernel
theorem dX4_append_21 : decode cX4_append 21 = .ok (.dup, 1) := by decide +kernel
theorem dX4_append_22 : decode cX4_append 22 = .ok (.getfield 18, 3) := by decide +kernel
theorem dX4_append_25 : decode cX4_append 25 = .ok (.iconst 1, 1) := by decide +kernel
theorem dX4_append_26 : decode cX4_append 26 = .ok (.iadd, 1) := by decide +kernel
theorem dX4_append_27 : decode cX4_append 27 = .ok (.putfield 18, 3) := by decide +kernel
theorem dX4_append_30 : decode cX4_append 30 = .ok (.iload_n 2, 1) := by decide +kernel
theorem dX4_append_31 : decode cX4_append 31 = .ok (.ireturn, 1) := by decide +kernel
theorem dX4_sum_0 : decode cX4_sum 0 = .ok (.lconst 0, 1) := by decide +kernel
theorem dX4_sum_1 : decode cX4_sum 1 = .ok (.lstore_n 1, 1) := by decide +kernel
theorem dX4_sum_2 : decode cX4_sum 2 = .ok (.iconst 0, 1) := by decide +kernel
theorem dX4_sum_3 : decode cX4_sum 3 = .ok (.istore_n 3, 1) := by decide +kernel
theorem dX4_sum_4 : decode cX4_sum 4 = .ok (.iload_n 3, 1) := by decide +kernel
theorem dX4_sum_5 : decode cX4_sum 5 = .ok (.aload_n 0, 1) := by decide +kernel
theorem dX4_sum_6 : decode cX4_sum 6 = .ok (.getfield 18, 3) := by decide +kernel
theorem dX4_sum_9 : decode cX4_sum 9 = .ok (.if_icmp .ge 37, 3) := by decide +kernel
theorem dX4_sum_12 : decode cX4_sum 12 = .ok (.aload_n 0, 1) := by decide +kernel
theorem dX4_sum_13 : decode cX4_sum 13 = .ok (.getfield 15, 3) := by decide +kernel
theorem dX4_sum_16 : decode cX4_sum 16 = .ok (.iload_n 3, 1) := by decide +kernel
theorem dX4_sum_17 : decode cX4_sum 17 = .ok (.iaload, 1) := by decide +kernel
theorem dX4_sum_18 : decode cX4_sum 18 = .ok (.bipush (-9), 2) := by decide +kernel
theorem dX4_sum_20 : decode cX4_sum 20 = .ok (.if_icmp .eq 20, 3) := by decide +kernel
theorem dX4_sum_23 : decode cX4_sum 23 = .ok (.lload_n 1, 1) := by decide +kernel
theorem dX4_sum_24 : decode cX4_sum 24 = .ok (.aload_n 0, 1) := by decide +kernel
theorem dX4_sum_25 : decode cX4_sum 25 = .ok (.getfield 11, 3) := by decide +kernel
theorem dX4_sum_28 : decode cX4_sum 28 = .ok (.iload_n 3, 1) := by decide +kernel
theorem dX4_sum_29 : decode cX4_sum 29 = .ok (.iaload, 1) := by decide +kernel
theorem dX4_sum_30 : decode cX4_sum 30 = .ok (.aload_n 0, 1) := by decide +kernel
theorem dX4_sum_31 : decode cX4_sum 31 = .ok (.getfield 15, 3) := by decide +kernel
theorem dX4_sum_34 : decode cX4_sum 34 = .ok (.iload_n 3, 1) := by decide +kernel
theorem dX4_sum_35 : decode cX4_sum 35 = .ok (.iaload, 1) := by decide +kernel
theorem dX4_sum_36 : decode cX4_sum 36 = .ok (.imul, 1) := by decide +kernel
theorem dX4_sum_37 : decode cX4_sum 37 = .ok (.i2l, 1) := by decide +kernel
theorem dX4_sum_38 : decode cX4_sum 38 = .ok (.ladd, 1) := by decide +kernel
theorem dX4_sum_39 : decode cX4_sum 39 = .ok (.lstore_n 1, 1) := by decide +kernel
theorem dX4_sum_40 : decode cX4_sum 40 = .ok (.iinc 3 1, 3) := by decide +kernel
theorem dX4_sum_43 : decode cX4_sum 43 = .ok (.goto (-39), 3) := by decide +kernel
theorem dX4_sum_46 : decode cX4_sum 46 = .ok (.lload_n 1, 1) := by decide +kernel
theorem dX4_sum_47 : decode cX4_sum 47 = .ok (.lreturn, 1) := by decide +kernel
theorem dX4_missing_0 : decode cX4_missing 0 = .ok (.iconst 0, 1) := by decide +kernel
theorem dX4_missing_1 : decode cX4_missing 1 = .ok (.istore_n 1, 1) := by decide +kernel
theorem dX4_missing_2 : decode cX4_missing 2 = .ok (.iconst 0, 1) := by decide +kernel
theorem dX4_missing_3 : decode cX4_missing 3 = .ok (.istore_n 2, 1) := by decide +kernel
theorem dX4_missing_4 : decode cX4_missing 4 = .ok (.iload_n 2, 1) := by decide +kernel
theorem dX4_missing_5 : decode cX4_missing 5 = .ok (.aload_n 0, 1) := by decide +kernel
theorem dX4_missing_6 : decode cX4_missing 6 = .ok (.getfield 18, 3) := by decide +kernel
theorem dX4_missing_9 : decode cX4_missing 9 = .ok (.if_icmp .ge 28, 3) := by decide +kernel
theorem dX4_missing_12 : decode cX4_missing 12 = .ok (.iload_n 1, 1) := by decide +kernel
theorem dX4_missing_13 : decode cX4_missing 13 = .ok (.aload_n 0, 1) := by decide +kernel
theorem dX4_missing_14 : decode cX4_missing 14 = .ok (.getfield 15, 3) := by decide +kernel
theorem dX4_missing_17 : decode cX4_missing 17 = .ok (.iload_n 2, 1) := by decide +kernel
theorem dX4_missing_18 : decode cX4_missing 18 = .ok (.iaload, 1) := by decide +kernel
theorem dX4_missing_19 : decode cX4_missing 19 = .ok (.bipush (-9), 2) := by decide +kernel
theorem dX4_missing_21 : decode cX4_missing 21 = .ok (.if_icmp .ne 7, 3) := by decide +kernel
theorem dX4_missing_24 : decode cX4_missing 24 = .ok (.iconst 1, 1) := by decide +kernel
theorem dX4_missing_25 : decode cX4_missing 25 = .ok (.goto 4, 3) := by decide +kernel
theorem dX4_missing_28 : decode cX4_missing 28 = .ok (.iconst 0, 1) := by decide +kernel
theorem dX4_missing_29 : decode cX4_missing 29 = .ok (.iadd, 1) := by decide +kernel
theorem dX4_missing_30 : decode cX4_missing 30 = .ok (.istore_n 1, 1) := by decide +kernel
theorem dX4_missing_31 : decode cX4_missing 31 = .ok (.iinc 2 1, 3) := by decide +kernel
theorem dX4_missing_34 : decode cX4_missing 34 = .ok (.goto (-30), 3) := by decide +kernel
theorem dX4_missing_37 : decode cX4_missing 37 = .ok (.iload_n 1, 1) := by decide +kernel
theorem dX4_missing_38 : decode cX4_missing 38 = .ok (.ireturn, 1) := by decide +kernel
theorem dX4_told_0 : decode cX4_told 0 = .ok (.aload_n 0, 1) := by decide +kernel
theorem dX4_told_1 : decode cX4_told 1 = .ok (.invokevirtual 22, 3) := by decide +kernel
theorem dX4_told_4 : decode cX4_told 4 = .ok (.iconst 1, 1) := by decide +kernel
theorem dX4_told_5 : decode cX4_told 5 = .ok (.if_icmp .eq 6, 3) := by decide +kernel
theorem dX4_told_8 : decode cX4_told 8 = .ok (.bipush (-9), 2) := by decide +kernel
theorem dX4_told_10 : decode cX4_told 10 = .ok (.ireturn, 1) := by decide +kernel
theorem dX4_told_11 : decode cX4_told 11 = .ok (.iconst 0, 1) := by decide +kernel
theorem dX4_told_12 : decode cX4_told 12 = .ok (.istore_n 1, 1) := by decide +kernel
theorem dX4_told_13 : decode cX4_told 13 = .ok (.iload_n 1, 1) := by decide +kernel
theorem dX4_told_14 : decode cX4_told 14 = .ok (.aload_n 0, 1) := by decide +kernel
theorem dX4_told_15 : decode cX4_told 15 = .ok (.getfield 18, 3) := by decide +kernel
theorem dX4_told_18 : decode cX4_told 18 = .ok (.if_icmp .ge 22, 3) := by decide +kernel
theorem dX4_told_21 : decode cX4_told 21 = .ok (.aload_n 0, 1) := by decide +kernel
theorem dX4_told_22 : decode cX4_told 22 = .ok (.getfield 15, 3) := by decide +kernel
theorem dX4_told_25 : decode cX4_told 25 = .ok (.iload_n 1, 1) := by decide +kernel
theorem dX4_told_26 : decode cX4_told 26 = .ok (.iaload, 1) := by decide +kernel
theorem dX4_told_27 : decode cX4_told 27 = .ok (.bipush (-9), 2) := by decide +kernel
theorem dX4_told_29 : decode cX4_told 29 = .ok (.if_icmp .ne 5, 3) := by decide +kernel
theorem dX4_told_32 : decode cX4_told 32 = .ok (.iload_n 1, 1) := by decide +kernel
theorem dX4_told_33 : decode cX4_told 33 = .ok (.ireturn, 1) := by decide +kernel
theorem dX4_told_34 : decode cX4_told 34 = .ok (.iinc 1 1, 3) := by decide +kernel
theorem dX4_told_37 : decode cX4_told 37 = .ok (.goto (-24), 3) := by decide +kernel
theorem dX4_told_40 : decode cX4_told 40 = .ok (.bipush (-9), 2) := by decide +kernel
theorem dX4_told_42 : decode cX4_told 42 = .ok (.ireturn, 1) := by decide +kernel
theorem dX4_toldAs_0 : decode cX4_toldAs 0 = .ok (.aload_n 0, 1) := by decide +kernel
theorem dX4_toldAs_1 : decode cX4_toldAs 1 = .ok (.invokevirtual 26, 3) := by decide +kernel
theorem dX4_toldAs_4 : decode cX4_toldAs 4 = .ok (.istore_n 1, 1) := by decide +kernel
theorem dX4_toldAs_5 : decode cX4_toldAs 5 = .ok (.iload_n 1, 1) := by decide +kernel
theorem dX4_toldAs_6 : decode cX4_toldAs 6 = .ok (.bipush (-9), 2) := by decide +kernel
theorem dX4_toldAs_8 : decode cX4_toldAs 8 = .ok (.if_icmp .ne 9, 3) := by decide +kernel
theorem dX4_toldAs_11 : decode cX4_toldAs 11 = .ok (.ldc2_w 29, 3) := by decide +kernel
theorem dX4_toldAs_14 : decode cX4_toldAs 14 = .ok (.goto 16, 3) := by decide +kernel
theorem dX4_toldAs_17 : decode cX4_toldAs 17 = .ok (.aload_n 0, 1) := by decide +kernel
theorem dX4_toldAs_18 : decode cX4_toldAs 18 = .ok (.getfield 11, 3) := by decide +kernel
theorem dX4_toldAs_21 : decode cX4_toldAs 21 = .ok (.iload_n 1, 1) := by decide +kernel
theorem dX4_toldAs_22 : decode cX4_toldAs 22 = .ok (.iaload, 1) := by decide +kernel
theorem dX4_toldAs_23 : decode cX4_toldAs 23 = .ok (.ineg, 1) := by decide +kernel
theorem dX4_toldAs_24 : decode cX4_toldAs 24 = .ok (.i2l, 1) := by decide +kernel
theorem dX4_toldAs_25 : decode cX4_toldAs 25 = .ok (.aload_n 0, 1) := by decide +kernel
theorem dX4_toldAs_26 : decode cX4_toldAs 26 = .ok (.invokevirtual 31, 3) := by decide +kernel
theorem dX4_toldAs_29 : decode cX4_toldAs 29 = .ok (.lmul, 1) := by decide +kernel
theorem dX4_toldAs_30 : decode cX4_toldAs 30 = .ok (.lreturn, 1) := by decide +kernel
theorem dX4_tellMended_0 : decode cX4_tellMended 0 = .ok (.aload_n 2, 1) := by decide +kernel
theorem dX4_tellMended_1 : decode cX4_tellMended 1 = .ok (.aload_n 0, 1) := by decide +kernel
theorem dX4_tellMended_2 : decode cX4_tellMended 2 = .ok (.getfield 15, 3) := by decide +kernel
theorem dX4_tellMended_5 : decode cX4_tellMended 5 = .ok (.iload_n 1, 1) := by decide +kernel
theorem dX4_tellMended_6 : decode cX4_tellMended 6 = .ok (.iaload, 1) := by decide +kernel
theorem dX4_tellMended_7 : decode cX4_tellMended 7 = .ok (.i2l, 1) := by decide +kernel
theorem dX4_tellMended_8 : decode cX4_tellMended 8 = .ok (.aload_n 0, 1) := by decide +kernel
theorem dX4_tellMended_9 : decode cX4_tellMended 9 = .ok (.getfield 18, 3) := by decide +kernel
theorem dX4_tellMended_12 : decode cX4_tellMended 12 = .ok (.i2l, 1) := by decide +kernel
theorem dX4_tellMended_13 : decode cX4_tellMended 13 = .ok (.lmul, 1) := by decide +kernel
theorem dX4_tellMended_14 : decode cX4_tellMended 14 = .ok (.aload_n 0, 1) := by decide +kernel
theorem dX4_tellMended_15 : decode cX4_tellMended 15 = .ok (.getfield 11, 3) := by decide +kernel
theorem dX4_tellMended_18 : decode cX4_tellMended 18 = .ok (.iload_n 1, 1) := by decide +kernel
theorem dX4_tellMended_19 : decode cX4_tellMended 19 = .ok (.iaload, 1) := by decide +kernel
theorem dX4_tellMended_20 : decode cX4_tellMended 20 = .ok (.i2l, 1) := by decide +kernel
theorem dX4_tellMended_21 : decode cX4_tellMended 21 = .ok (.aload_n 0, 1) := by decide +kernel
theorem dX4_tellMended_22 : decode cX4_tellMended 22 = .ok (.invokevirtual 31, 3) := by decide +kernel
theorem dX4_tellMended_25 : decode cX4_tellMended 25 = .ok (.lmul, 1) := by decide +kernel
theorem dX4_tellMended_26 : decode cX4_tellMended 26 = .ok (.lsub, 1) := by decide +kernel
theorem dX4_tellMended_27 : decode cX4_tellMended 27 = .ok (.aload_n 0, 1) := by decide +kernel
theorem dX4_tellMended_28 : decode cX4_tellMended 28 = .ok (.getfield 18, 3) := by decide +kernel
theorem dX4_tellMended_31 : decode cX4_tellMended 31 = .ok (.i2l, 1) := by decide +kernel
theorem dX4_tellMended_32 : decode cX4_tellMended 32 = .ok (.invokevirtual 35, 3) := by decide +kernel
theorem dX4_tellMended_35 : decode cX4_tellMended 35 = .ok (.return_, 1) := by decide +kernel
theorem dX5_init_0 : decode cX5_init 0 = .ok (.aload_n 0, 1) := by decide +kernel
theorem dX5_init_1 : decode cX5_init 1 = .ok (.invokespecial 3, 3) := by decide +kernel
theorem dX5_init_4 : decode cX5_init 4 = .ok (.aload_n 0, 1) := by decide +kernel
theorem dX5_init_5 : decode cX5_init 5 = .ok (.iconst 5, 1) := by decide +kernel
theorem dX5_init_6 : decode cX5_init 6 = .ok (.newarray .int, 2) := by decide +kernel
theorem dX5_init_8 : decode cX5_init 8 = .ok (.putfield 9, 3) := by decide +kernel
theorem dX5_init_11 : decode cX5_init 11 = .ok (.aload_n 0, 1) := by decide +kernel
theorem dX5_init_12 : decode cX5_init 12 = .ok (.iconst 5, 1) := by decide +kernel
theorem dX5_init_13 : decode cX5_init 13 = .ok (.newarray .int, 2) := by decide +kernel
theorem dX5_init_15 : decode cX5_init 15 = .ok (.putfield 15, 3) := by decide +kernel
theorem dX5_init_18 : decode cX5_init 18 = .ok (.aload_n 0, 1) := by decide +kernel
theorem dX5_init_19 : decode cX5_init 19 = .ok (.iconst 5, 1) := by decide +kernel
theorem dX5_init_20 : decode cX5_init 20 = .ok (.newarray .int, 2) := by decide +kernel
theorem dX5_init_22 : decode cX5_init 22 = .ok (.putfield 18, 3) := by decide +kernel
theorem dX5_init_25 : decode cX5_init 25 = .ok (.aload_n 0, 1) := by decide +kernel
theorem dX5_init_26 : decode cX5_init 26 = .ok (.iconst 5, 1) := by decide +kernel
theorem dX5_init_27 : decode cX5_init 27 = .ok (.newarray .int, 2) := by decide +kernel
theorem dX5_init_29 : decode cX5_init 29 = .ok (.putfield 21, 3) := by decide +kernel
theorem dX5_init_32 : decode cX5_init 32 = .ok (.return_, 1) := by decide +kernel
theorem dX5_has_0 : decode cX5_has 0 = .ok (.iload_n 1, 1) := by decide +kernel
theorem dX5_has_1 : decode cX5_has 1 = .ok (.ifCond .lt 15, 3) := by decide +kernel
theorem dX5_has_4 : decode cX5_has 4 = .ok (.iload_n 1, 1) := by decide +kernel
theorem dX5_has_5 : decode cX5_has 5 = .ok (.aload_n 0, 1) := by decide +kernel
theorem dX5_has_6 : decode cX5_has 6 = .ok (.getfield 24, 3) := by decide +kernel
theorem dX5_has_9 : decode cX5_has 9 = .ok (.if_icmp .ge 7, 3) := by decide +kernel
theorem dX5_has_12 : decode cX5_has 12 = .ok (.iconst 1, 1) := by decide +kernel
theorem dX5_has_13 : decode cX5_has 13 = .ok (.goto 4, 3) := by decide +kernel
theorem dX5_has_16 : decode cX5_has 16 = .ok (.iconst 0, 1) := by decide +kernel
theorem dX5_has_17 : decode cX5_has 17 = .ok (.ireturn, 1) := by decide +kernel
theorem dX5_isFull_0 : decode cX5_isFull 0 = .ok (.aload_n 0, 1) := by decide +kernel
theorem dX5_isFull_1 : decode cX5_isFull 1 = .ok (.getfield 24, 3) := by decide +kernel
theorem dX5_isFull_4 : decode cX5_isFull 4 = .ok (.iconst 5, 1) := by decide +kernel
theorem dX5_isFull_5 : decode cX5_isFull 5 = .ok (.if_icmp .lt 7, 3) := by decide +kernel
theorem dX5_isFull_8 : decode cX5_isFull 8 = .ok (.iconst 1, 1) := by decide +kernel
theorem dX5_isFull_9 : decode cX5_isFull 9 = .ok (.goto 4, 3) := by decide +kernel
theorem dX5_isFull_12 : decode cX5_isFull 12 = .ok (.iconst 0, 1) := by decide +kernel
theorem dX5_isFull_13 : decode cX5_isFull 13 = .ok (.ireturn, 1) := by decide +kernel
theorem dX5_append_0 : decode cX5_append 0 = .ok (.aload_n 0, 1) := by decide +kernel
theorem dX5_append_1 : decode cX5_append 1 = .ok (.getfield 24, 3) := by decide +kernel
theorem dX5_append_4 : decode cX5_append 4 = .ok (.istore 4, 2) := by decide +kernel
theorem dX5_append_6 : decode cX5_append 6 = .ok (.aload_n 0, 1) := by decide +kernel
theorem dX5_append_7 : decode cX5_append 7 = .ok (.getfield 9, 3) := by decide +kernel
theorem dX5_append_10 : decode cX5_append 10 = .ok (.iload 4, 2) := by decide +kernel
theorem dX5_append_12 : decode cX5_append 12 = .ok (.iload_n 1, 1) := by decide +kernel
theorem dX5_append_13 : decode cX5_append 13 = .ok (.iastore, 1) := by decide +kernel
theorem dX5_append_14 : decode cX5_append 14 = .ok (.aload_n 0, 1) := by decide +kernel
theorem dX5_append_15 : decode cX5_append 15 = .ok (.getfield 15, 3) := by decide +kernel
theorem dX5_append_18 : decode cX5_append 18 = .ok (.iload 4, 2) := by decide +kernel
theorem dX5_append_20 : decode cX5_append 20 = .ok (.iload_n 2, 1) := by decide +kernel
theorem dX5_append_21 : decode cX5_append 21 = .ok (.iastore, 1) := by decide +kernel
theorem dX5_append_22 : decode cX5_append 22 = .ok (.aload_n 0, 1) := by decide +kernel
theorem dX5_append_23 : decode cX5_append 23 = .ok (.getfield 18, 3) := by decide +kernel
theorem dX5_append_26 : decode cX5_append 26 = .ok (.iload 4, 2) := by decide +kernel
theorem dX5_append_28 : decode cX5_append 28 = .ok (.iload_n 3, 1) := by decide +kernel
theorem dX5_append_29 : decode cX5_append 29 = .ok (.iastore, 1) := by decide +kernel
theorem dX5_append_30 : decode cX5_append 30 = .ok (.aload_n 0, 1) := by decide +kernel
theorem dX5_append_31 : decode cX5_append 31 = .ok (.getfield 21, 3) := by decide +kernel
theorem dX5_append_34 : decode cX5_append 34 = .ok (.iload 4, 2) := by decide +kernel
theorem dX5_append_36 : decode cX5_append 36 = .ok (.iconst 1, 1) := by decide +kernel
theorem dX5_append_37 : decode cX5_append 37 = .ok (.iastore, 1) := by decide +kernel
theorem dX5_append_38 : decode cX5_append 38 = .ok (.aload_n 0, 1) := by decide +kernel
theorem dX5_append_39 : decode cX5_append 39 = .ok (.dup, 1) := by decide +kernel
theorem dX5_append_40 : decode cX5_append 40 = .ok (.getfield 24, 3) := by decide +kernel
theorem dX5_append_43 : decode cX5_append 43 = .ok (.iconst 1, 1) := by decide +kernel
theorem dX5_append_44 : decode cX5_append 44 = .ok (.iadd, 1) := by decide +kernel
theorem dX5_append_45 : decode cX5_append 45 = .ok (.putfield 24, 3) := by decide +kernel
theorem dX5_append_48 : decode cX5_append 48 = .ok (.iload 4, 2) := by decide +kernel
theorem dX5_append_50 : decode cX5_append 50 = .ok (.ireturn, 1) := by decide +kernel
theorem dX5_tellDirtBelow_0 : decode cX5_tellDirtBelow 0 = .ok (.aload_n 0, 1) := by decide +kernel
theorem dX5_tellDirtBelow_1 : decode cX5_tellDirtBelow 1 = .ok (.invokevirtual 28, 3) := by decide +kernel
theorem dX5_tellDirtBelow_4 : decode cX5_tellDirtBelow 4 = .ok (.lstore_n 3, 1) := by decide +kernel
theorem dX5_tellDirtBelow_5 : decode cX5_tellDirtBelow 5 = .ok (.aload_n 2, 1) := by decide +kernel
theorem dX5_tellDirtBelow_6 : decode cX5_tellDirtBelow 6 = .ok (.aload_n 0, 1) := by decide +kernel
theorem dX5_tellDirtBelow_7 : decode cX5_tellDirtBelow 7 = .ok (.iload_n 1, 1) := by decide +kernel
theorem dX5_tellDirtBelow_8 : decode cX5_tellDirtBelow 8 = .ok (.lload_n 3, 1) := by decide +kernel
theorem dX5_tellDirtBelow_9 : decode cX5_tellDirtBelow 9 = .ok (.invokevirtual 32, 3) := by decide +kernel
theorem dX5_tellDirtBelow_12 : decode cX5_tellDirtBelow 12 = .ok (.lload_n 3, 1) := by decide +kernel
theorem dX5_tellDirtBelow_13 : decode cX5_tellDirtBelow 13 = .ok (.invokevirtual 36, 3) := by decide +kernel
theorem dX5_tellDirtBelow_16 : decode cX5_tellDirtBelow 16 = .ok (.return_, 1) := by decide +kernel
theorem dX5_tellLeastFresh_0 : decode cX5_tellLeastFresh 0 = .ok (.aload_n 0, 1) := by decide +kernel
theorem dX5_tellLeastFresh_1 : decode cX5_tellLeastFresh 1 = .ok (.iload_n 1, 1) := by decide +kernel
theorem dX5_tellLeastFresh_2 : decode cX5_tellLeastFresh 2 = .ok (.aload_n 2, 1) := by decide +kernel
theorem dX5_tellLeastFresh_3 : decode cX5_tellLeastFresh 3 = .ok (.invokevirtual 42, 3) := by decide +kernel
theorem dX5_tellLeastFresh_6 : decode cX5_tellLeastFresh 6 = .ok (.aload_n 2, 1) := by decide +kernel
theorem dX5_tellLeastFresh_7 : decode cX5_tellLeastFresh 7 = .ok (.iload_n 1, 1) := by decide +kernel
theorem dX5_tellLeastFresh_8 : decode cX5_tellLeastFresh 8 = .ok (.invokevirtual 46, 3) := by decide +kernel
theorem dX5_tellLeastFresh_11 : decode cX5_tellLeastFresh 11 = .ok (.return_, 1) := by decide +kernel
theorem dX5_pinch_0 : decode cX5_pinch 0 = .ok (.aload_n 0, 1) := by decide +kernel
theorem dX5_pinch_1 : decode cX5_pinch 1 = .ok (.invokevirtual 28, 3) := by decide +kernel
theorem dX5_pinch_4 : decode cX5_pinch 4 = .ok (.lstore_n 1, 1) := by decide +kernel
theorem dX5_pinch_5 : decode cX5_pinch 5 = .ok (.bipush (-9), 2) := by decide +kernel
theorem dX5_pinch_7 : decode cX5_pinch 7 = .ok (.istore_n 3, 1) := by decide +kernel
theorem dX5_pinch_8 : decode cX5_pinch 8 = .ok (.iconst 0, 1) := by decide +kernel
theorem dX5_pinch_9 : decode cX5_pinch 9 = .ok (.istore 4, 2) := by decide +kernel
theorem dX5_pinch_11 : decode cX5_pinch 11 = .ok (.iload 4, 2) := by decide +kernel
theorem dX5_pinch_13 : decode cX5_pinch 13 = .ok (.aload_n 0, 1) := by decide +kernel
theorem dX5_pinch_14 : decode cX5_pinch 14 = .ok (.getfield 24, 3) := by decide +kernel
theorem dX5_pinch_17 : decode cX5_pinch 17 = .ok (.if_icmp .ge 37, 3) := by decide +kernel
theorem dX5_pinch_20 : decode cX5_pinch 20 = .ok (.aload_n 0, 1) := by decide +kernel
theorem dX5_pinch_21 : decode cX5_pinch 21 = .ok (.iload_n 3, 1) := by decide +kernel
theorem dX5_pinch_22 : decode cX5_pinch 22 = .ok (.aload_n 0, 1) := by decide +kernel
theorem dX5_pinch_23 : decode cX5_pinch 23 = .ok (.getfield 15, 3) := by decide +kernel
theorem dX5_pinch_26 : decode cX5_pinch 26 = .ok (.iload 4, 2) := by decide +kernel
theorem dX5_pinch_28 : decode cX5_pinch 28 = .ok (.iaload, 1) := by decide +kernel
theorem dX5_pinch_29 : decode cX5_pinch 29 = .ok (.lload_n 1, 1) := by decide +kernel
theorem dX5_pinch_30 : decode cX5_pinch 30 = .ok (.invokevirtual 50, 3) := by decide +kernel
theorem dX5_pinch_33 : decode cX5_pinch 33 = .ok (.istore_n 3, 1) := by decide +kernel
theorem dX5_pinch_34 : decode cX5_pinch 34 = .ok (.aload_n 0, 1) := by decide +kernel
theorem dX5_pinch_35 : decode cX5_pinch 35 = .ok (.iload_n 3, 1) := by decide +kernel
theorem dX5_pinch_36 : decode cX5_pinch 36 = .ok (.aload_n 0, 1) := by decide +kernel
theorem dX5_pinch_37 : decode cX5_pinch 37 = .ok (.getfield 18, 3) := by decide +kernel
theorem dX5_pinch_40 : decode cX5_pinch 40 = .ok (.iload 4, 2) := by decide +kernel
theorem dX5_pinch_42 : decode cX5_pinch 42 = .ok (.iaload, 1) := by decide +kernel
theorem dX5_pinch_43 : decode cX5_pinch 43 = .ok (.lload_n 1, 1) := by decide +kernel
theorem dX5_pinch_44 : decode cX5_pinch 44 = .ok (.invokevirtual 50, 3) := by decide +kernel
theorem dX5_pinch_47 : decode cX5_pinch 47 = .ok (.istore_n 3, 1) := by decide +kernel
theorem dX5_pinch_48 : decode cX5_pinch 48 = .ok (.iinc 4 1, 3) := by decide +kernel
theorem dX5_pinch_51 : decode cX5_pinch 51 = .ok (.goto (-40), 3) := by decide +kernel
theorem dX5_pinch_54 : decode cX5_pinch 54 = .ok (.iload_n 3, 1) := by decide +kernel
theorem dX5_pinch_55 : decode cX5_pinch 55 = .ok (.ireturn, 1) := by decide +kernel
theorem dX5_better_0 : decode cX5_better 0 = .ok (.iload_n 2, 1) := by decide +kernel
theorem dX5_better_1 : decode cX5_better 1 = .ok (.iconst 1, 1) := by decide +kernel
theorem dX5_better_2 : decode cX5_better 2 = .ok (.if_icmp .ge 5, 3) := by decide +kernel
theorem dX5_better_5 : decode cX5_better 5 = .ok (.iload_n 1, 1) := by decide +kernel
theorem dX5_better_6 : decode cX5_better 6 = .ok (.ireturn, 1) := by decide +kernel
theorem dX5_better_7 : decode cX5_better 7 = .ok (.iload_n 1, 1) := by decide +kernel
theorem dX5_better_8 : decode cX5_better 8 = .ok (.iconst 1, 1) := by decide +kernel
theorem dX5_better_9 : decode cX5_better 9 = .ok (.if_icmp .ge 5, 3) := by decide +kernel
theorem dX5_better_12 : decode cX5_better 12 = .ok (.iload_n 2, 1) := by decide +kernel
theorem dX5_better_13 : decode cX5_better 13 = .ok (.ireturn, 1) := by decide +kernel
theorem dX5_better_14 : decode cX5_better 14 = .ok (.aload_n 0, 1) := by decide +kernel
theorem dX5_better_15 : decode cX5_better 15 = .ok (.iload_n 1, 1) := by decide +kernel
theorem dX5_better_16 : decode cX5_better 16 = .ok (.lload_n 3, 1) := by decide +kernel
theorem dX5_better_17 : decode cX5_better 17 = .ok (.invokevirtual 32, 3) := by decide +kernel
theorem dX5_better_20 : decode cX5_better 20 = .ok (.lstore 5, 2) := by decide +kernel
theorem dX5_better_22 : decode cX5_better 22 = .ok (.aload_n 0, 1) := by decide +kernel
theorem dX5_better_23 : decode cX5_better 23 = .ok (.iload_n 2, 1) := by decide +kernel
theorem dX5_better_24 : decode cX5_better 24 = .ok (.lload_n 3, 1) := by decide +kernel
theorem dX5_better_25 : decode cX5_better 25 = .ok (.invokevirtual 32, 3) := by decide +kernel
theorem dX5_better_28 : decode cX5_better 28 = .ok (.lstore 7, 2) := by decide +kernel
theorem dX5_better_30 : decode cX5_better 30 = .ok (.lload 7, 2) := by decide +kernel
theorem dX5_better_32 : decode cX5_better 32 = .ok (.iload_n 2, 1) := by decide +kernel
theorem dX5_better_33 : decode cX5_better 33 = .ok (.i2l, 1) := by decide +kernel
theorem dX5_better_34 : decode cX5_better 34 = .ok (.ldiv, 1) := by decide +kernel
theorem dX5_better_35 : decode cX5_better 35 = .ok (.lload 5, 2) := by decide +kernel
theorem dX5_better_37 : decode cX5_better 37 = .ok (.iload_n 1, 1) := by decide +kernel
theorem dX5_better_38 : decode cX5_better 38 = .ok (.i2l, 1) := by decide +kernel
theorem dX5_better_39 : decode cX5_better 39 = .ok (.ldiv, 1) := by decide +kernel
theorem dX5_better_40 : decode cX5_better 40 = .ok (.invokestatic 54, 3) := by decide +kernel
theorem dX5_better_43 : decode cX5_better 43 = .ok (.istore 9, 2) := by decide +kernel
theorem dX5_better_45 : decode cX5_better 45 = .ok (.iload 9, 2) := by decide +kernel
theorem dX5_better_47 : decode cX5_better 47 = .ok (.ifCond .ne 24, 3) := by decide +kernel
theorem dX5_better_50 : decode cX5_better 50 = .ok (.lload 7, 2) := by decide +kernel
theorem dX5_better_52 : decode cX5_better 52 = .ok (.iload_n 2, 1) := by decide +kernel
theorem dX5_better_53 : decode cX5_better 53 = .ok (.i2l, 1) := by decide +kernel
theorem dX5_better_54 : decode cX5_better 54 = .ok (.lrem, 1) := by decide +kernel
theorem dX5_better_55 : decode cX5_better 55 = .ok (.iload_n 1, 1) := by decide +kernel
theorem dX5_better_56 : decode cX5_better 56 = .ok (.i2l, 1) := by decide +kernel
theorem dX5_better_57 : decode cX5_better 57 = .ok (.lmul, 1) := by decide +kernel
theorem dX5_better_58 : decode cX5_better 58 = .ok (.lload 5, 2) := by decide +kernel
theorem dX5_better_60 : decode cX5_better 60 = .ok (.iload_n 1, 1) := by decide +kernel
theorem dX5_better_61 : decode cX5_better 61 = .ok (.i2l, 1) := by decide +kernel
theorem dX5_better_62 : decode cX5_better 62 = .ok (.lrem, 1) := by decide +kernel
theorem dX5_better_63 : decode cX5_better 63 = .ok (.iload_n 2, 1) := by decide +kernel
theorem dX5_better_64 : decode cX5_better 64 = .ok (.i2l, 1) := by decide +kernel
theorem dX5_better_65 : decode cX5_better 65 = .ok (.lmul, 1) := by decide +kernel
theorem dX5_better_66 : decode cX5_better 66 = .ok (.invokestatic 54, 3) := by decide +kernel
theorem dX5_better_69 : decode cX5_better 69 = .ok (.istore 9, 2) := by decide +kernel
theorem dX5_better_71 : decode cX5_better 71 = .ok (.iload 9, 2) := by decide +kernel
theorem dX5_better_73 : decode cX5_better 73 = .ok (.ifCond .gt 13, 3) := by decide +kernel
theorem dX5_better_76 : decode cX5_better 76 = .ok (.iload 9, 2) := by decide +kernel
theorem dX5_better_78 : decode cX5_better 78 = .ok (.ifCond .ne 12, 3) := by decide +kernel
theorem dX5_better_81 : decode cX5_better 81 = .ok (.iload_n 2, 1) := by decide +kernel
theorem dX5_better_82 : decode cX5_better 82 = .ok (.iload_n 1, 1) := by decide +kernel
theorem dX5_better_83 : decode cX5_better 83 = .ok (.if_icmp .ge 7, 3) := by decide +kernel
theorem dX5_better_86 : decode cX5_better 86 = .ok (.iload_n 2, 1) := by decide +kernel
theorem dX5_better_87 : decode cX5_better 87 = .ok (.goto 4, 3) := by decide +kernel
theorem dX5_better_90 : decode cX5_better 90 = .ok (.iload_n 1, 1) := by decide +kernel
theorem dX5_better_91 : decode cX5_better 91 = .ok (.ireturn, 1) := by decide +kernel
theorem dX5_commonLower_0 : decode cX5_commonLower 0 = .ok (.lconst 1, 1) := by decide +kernel
theorem dX5_commonLower_1 : decode cX5_commonLower 1 = .ok (.lstore_n 1, 1) := by decide +kernel
theorem dX5_commonLower_2 : decode cX5_commonLower 2 = .ok (.iconst 0, 1) := by decide +kernel
theorem dX5_commonLower_3 : decode cX5_commonLower 3 = .ok (.istore_n 3, 1) := by decide +kernel
theorem dX5_commonLower_4 : decode cX5_commonLower 4 = .ok (.iload_n 3, 1) := by decide +kernel
theorem dX5_commonLower_5 : decode cX5_commonLower 5 = .ok (.aload_n 0, 1) := by decide +kernel
theorem dX5_commonLower_6 : decode cX5_commonLower 6 = .ok (.getfield 24, 3) := by decide +kernel
theorem dX5_commonLower_9 : decode cX5_commonLower 9 = .ok (.if_icmp .ge 18, 3) := by decide +kernel
theorem dX5_commonLower_12 : decode cX5_commonLower 12 = .ok (.lload_n 1, 1) := by decide +kernel
theorem dX5_commonLower_13 : decode cX5_commonLower 13 = .ok (.aload_n 0, 1) := by decide +kernel
theorem dX5_commonLower_14 : decode cX5_commonLower 14 = .ok (.iload_n 3, 1) := by decide +kernel
theorem dX5_commonLower_15 : decode cX5_commonLower 15 = .ok (.invokevirtual 60, 3) := by decide +kernel
theorem dX5_commonLower_18 : decode cX5_commonLower 18 = .ok (.i2l, 1) := by decide +kernel
theorem dX5_commonLower_19 : decode cX5_commonLower 19 = .ok (.lmul, 1) := by decide +kernel
theorem dX5_commonLower_20 : decode cX5_commonLower 20 = .ok (.lstore_n 1, 1) := by decide +kernel
theorem dX5_commonLower_21 : decode cX5_commonLower 21 = .ok (.iinc 3 1, 3) := by decide +kernel
theorem dX5_commonLower_24 : decode cX5_commonLower 24 = .ok (.goto (-20), 3) := by decide +kernel
theorem dX5_commonLower_27 : decode cX5_commonLower 27 = .ok (.lload_n 1, 1) := by decide +kernel
theorem dX5_commonLower_28 : decode cX5_commonLower 28 = .ok (.lreturn, 1) := by decide +kernel
theorem dX5_dirtBelow_0 : decode cX5_dirtBelow 0 = .ok (.lconst 0, 1) := by decide +kernel
theorem dX5_dirtBelow_1 : decode cX5_dirtBelow 1 = .ok (.lstore 4, 2) := by decide +kernel
theorem dX5_dirtBelow_3 : decode cX5_dirtBelow 3 = .ok (.iconst 0, 1) := by decide +kernel
theorem dX5_dirtBelow_4 : decode cX5_dirtBelow 4 = .ok (.istore 6, 2) := by decide +kernel
theorem dX5_dirtBelow_6 : decode cX5_dirtBelow 6 = .ok (.iload 6, 2) := by decide +kernel
theorem dX5_dirtBelow_8 : decode cX5_dirtBelow 8 = .ok (.aload_n 0, 1) := by decide +kernel
theorem dX5_dirtBelow_9 : decode cX5_dirtBelow 9 = .ok (.getfield 24, 3) := by decide +kernel
theorem dX5_dirtBelow_12 : decode cX5_dirtBelow 12 = .ok (.if_icmp .ge 61, 3) := by decide +kernel
theorem dX5_dirtBelow_15 : decode cX5_dirtBelow 15 = .ok (.iconst 0, 1) := by decide +kernel
theorem dX5_dirtBelow_16 : decode cX5_dirtBelow 16 = .ok (.iload_n 1, 1) := by decide +kernel
theorem dX5_dirtBelow_17 : decode cX5_dirtBelow 17 = .ok (.aload_n 0, 1) := by decide +kernel
theorem dX5_dirtBelow_18 : decode cX5_dirtBelow 18 = .ok (.getfield 18, 3) := by decide +kernel
theorem dX5_dirtBelow_21 : decode cX5_dirtBelow 21 = .ok (.iload 6, 2) := by decide +kernel
theorem dX5_dirtBelow_23 : decode cX5_dirtBelow 23 = .ok (.iaload, 1) := by decide +kernel
theorem dX5_dirtBelow_24 : decode cX5_dirtBelow 24 = .ok (.invokestatic 64, 3) := by decide +kernel
theorem dX5_dirtBelow_27 : decode cX5_dirtBelow 27 = .ok (.aload_n 0, 1) := by decide +kernel
theorem dX5_dirtBelow_28 : decode cX5_dirtBelow 28 = .ok (.getfield 15, 3) := by decide +kernel
theorem dX5_dirtBelow_31 : decode cX5_dirtBelow 31 = .ok (.iload 6, 2) := by decide +kernel
theorem dX5_dirtBelow_33 : decode cX5_dirtBelow 33 = .ok (.iaload, 1) := by decide +kernel
theorem dX5_dirtBelow_34 : decode cX5_dirtBelow 34 = .ok (.isub, 1) := by decide +kernel
theorem dX5_dirtBelow_35 : decode cX5_dirtBelow 35 = .ok (.invokestatic 70, 3) := by decide +kernel
theorem dX5_dirtBelow_38 : decode cX5_dirtBelow 38 = .ok (.i2l, 1) := by decide +kernel
theorem dX5_dirtBelow_39 : decode cX5_dirtBelow 39 = .ok (.lstore 7, 2) := by decide +kernel
theorem dX5_dirtBelow_41 : decode cX5_dirtBelow 41 = .ok (.lload 4, 2) := by decide +kernel
theorem dX5_dirtBelow_43 : decode cX5_dirtBelow 43 = .ok (.aload_n 0, 1) := by decide +kernel
theorem dX5_dirtBelow_44 : decode cX5_dirtBelow 44 = .ok (.getfield 9, 3) := by decide +kernel
theorem dX5_dirtBelow_47 : decode cX5_dirtBelow 47 = .ok (.iload 6, 2) := by decide +kernel
theorem dX5_dirtBelow_49 : decode cX5_dirtBelow 49 = .ok (.iaload, 1) := by decide +kernel
theorem dX5_dirtBelow_50 : decode cX5_dirtBelow 50 = .ok (.i2l, 1) := by decide +kernel
theorem dX5_dirtBelow_51 : decode cX5_dirtBelow 51 = .ok (.lload 7, 2) := by decide +kernel
theorem dX5_dirtBelow_53 : decode cX5_dirtBelow 53 = .ok (.lmul, 1) := by decide +kernel
theorem dX5_dirtBelow_54 : decode cX5_dirtBelow 54 = .ok (.lload_n 2, 1) := by decide +kernel
theorem dX5_dirtBelow_55 : decode cX5_dirtBelow 55 = .ok (.aload_n 0, 1) := by decide +kernel
theorem dX5_dirtBelow_56 : decode cX5_dirtBelow 56 = .ok (.iload 6, 2) := by decide +kernel
theorem dX5_dirtBelow_58 : decode cX5_dirtBelow 58 = .ok (.invokevirtual 60, 3) := by decide +kernel
theorem dX5_dirtBelow_61 : decode cX5_dirtBelow 61 = .ok (.i2l, 1) := by decide +kernel
theorem dX5_dirtBelow_62 : decode cX5_dirtBelow 62 = .ok (.ldiv, 1) := by decide +kernel
theorem dX5_dirtBelow_63 : decode cX5_dirtBelow 63 = .ok (.lmul, 1) := by decide +kernel
theorem dX5_dirtBelow_64 : decode cX5_dirtBelow 64 = .ok (.ladd, 1) := by decide +kernel
theorem dX5_dirtBelow_65 : decode cX5_dirtBelow 65 = .ok (.lstore 4, 2) := by decide +kernel
theorem dX5_dirtBelow_67 : decode cX5_dirtBelow 67 = .ok (.iinc 6 1, 3) := by decide +kernel
theorem dX5_dirtBelow_70 : decode cX5_dirtBelow 70 = .ok (.goto (-64), 3) := by decide +kernel
theorem dX5_dirtBelow_73 : decode cX5_dirtBelow 73 = .ok (.lload 4, 2) := by decide +kernel
theorem dX5_dirtBelow_75 : decode cX5_dirtBelow 75 = .ok (.lreturn, 1) := by decide +kernel
theorem dX5_span_0 : decode cX5_span 0 = .ok (.iconst 1, 1) := by decide +kernel
theorem dX5_span_1 : decode cX5_span 1 = .ok (.aload_n 0, 1) := by decide +kernel
theorem dX5_span_2 : decode cX5_span 2 = .ok (.getfield 18, 3) := by decide +kernel
theorem dX5_span_5 : decode cX5_span 5 = .ok (.iload_n 1, 1) := by decide +kernel
theorem dX5_span_6 : decode cX5_span 6 = .ok (.iaload, 1) := by decide +kernel
theorem dX5_span_7 : decode cX5_span 7 = .ok (.aload_n 0, 1) := by decide +kernel
theorem dX5_span_8 : decode cX5_span 8 = .ok (.getfield 15, 3) := by decide +kernel
theorem dX5_span_11 : decode cX5_span 11 = .ok (.iload_n 1, 1) := by decide +kernel
theorem dX5_span_12 : decode cX5_span 12 = .ok (.iaload, 1) := by decide +kernel
theorem dX5_span_13 : decode cX5_span 13 = .ok (.isub, 1) := by decide +kernel
theorem dX5_span_14 : decode cX5_span 14 = .ok (.invokestatic 70, 3) := by decide +kernel
theorem dX5_span_17 : decode cX5_span 17 = .ok (.ireturn, 1) := by decide +kernel
theorem dX6_init_0 : decode cX6_init 0 = .ok (.aload_n 0, 1) := by decide +kernel
theorem dX6_init_1 : decode cX6_init 1 = .ok (.invokespecial 1, 3) := by decide +kernel
theorem dX6_init_4 : decode cX6_init 4 = .ok (.aload_n 0, 1) := by decide +kernel
theorem dX6_init_5 : decode cX6_init 5 = .ok (.bipush 24, 2) := by decide +kernel
theorem dX6_init_7 : decode cX6_init 7 = .ok (.newarray .int, 2) := by decide +kernel
theorem dX6_init_9 : decode cX6_init 9 = .ok (.putfield 9, 3) := by decide +kernel
theorem dX6_init_12 : decode cX6_init 12 = .ok (.aload_n 0, 1) := by decide +kernel
theorem dX6_init_13 : decode cX6_init 13 = .ok (.bipush 24, 2) := by decide +kernel
theorem dX6_init_15 : decode cX6_init 15 = .ok (.newarray .int, 2) := by decide +kernel
theorem dX6_init_17 : decode cX6_init 17 = .ok (.putfield 13, 3) := by decide +kernel
theorem dX6_init_20 : decode cX6_init 20 = .ok (.return_, 1) := by decide +kernel
theorem dX6_leastBegun_0 : decode cX6_leastBegun 0 = .ok (.iconst 0, 1) := by decide +kernel
theorem dX6_leastBegun_1 : decode cX6_leastBegun 1 = .ok (.istore_n 1, 1) := by decide +kernel
theorem dX6_leastBegun_2 : decode cX6_leastBegun 2 = .ok (.iconst 0, 1) := by decide +kernel
theorem dX6_leastBegun_3 : decode cX6_leastBegun 3 = .ok (.istore_n 2, 1) := by decide +kernel
theorem dX6_leastBegun_4 : decode cX6_leastBegun 4 = .ok (.iconst 0, 1) := by decide +kernel
theorem dX6_leastBegun_5 : decode cX6_leastBegun 5 = .ok (.istore_n 3, 1) := by decide +kernel
theorem dX6_leastBegun_6 : decode cX6_leastBegun 6 = .ok (.iload_n 3, 1) := by decide +kernel
theorem dX6_leastBegun_7 : decode cX6_leastBegun 7 = .ok (.bipush 24, 2) := by decide +kernel
theorem dX6_leastBegun_9 : decode cX6_leastBegun 9 = .ok (.if_icmp .ge 31, 3) := by decide +kernel
theorem dX6_leastBegun_12 : decode cX6_leastBegun 12 = .ok (.iload_n 1, 1) := by decide +kernel
theorem dX6_leastBegun_13 : decode cX6_leastBegun 13 = .ok (.aload_n 0, 1) := by decide +kernel
theorem dX6_leastBegun_14 : decode cX6_leastBegun 14 = .ok (.getfield 9, 3) := by decide +kernel
theorem dX6_leastBegun_17 : decode cX6_leastBegun 17 = .ok (.iload_n 3, 1) := by decide +kernel
theorem dX6_leastBegun_18 : decode cX6_leastBegun 18 = .ok (.iaload, 1) := by decide +kernel
theorem dX6_leastBegun_19 : decode cX6_leastBegun 19 = .ok (.aload_n 0, 1) := by decide +kernel
theorem dX6_leastBegun_20 : decode cX6_leastBegun 20 = .ok (.getfield 13, 3) := by decide +kernel
theorem dX6_leastBegun_23 : decode cX6_leastBegun 23 = .ok (.iload_n 3, 1) := by decide +kernel
theorem dX6_leastBegun_24 : decode cX6_leastBegun 24 = .ok (.iaload, 1) := by decide +kernel
theorem dX6_leastBegun_25 : decode cX6_leastBegun 25 = .ok (.isub, 1) := by decide +kernel
theorem dX6_leastBegun_26 : decode cX6_leastBegun 26 = .ok (.iadd, 1) := by decide +kernel
theorem dX6_leastBegun_27 : decode cX6_leastBegun 27 = .ok (.istore_n 1, 1) := by decide +kernel
theorem dX6_leastBegun_28 : decode cX6_leastBegun 28 = .ok (.iload_n 2, 1) := by decide +kernel
theorem dX6_leastBegun_29 : decode cX6_leastBegun 29 = .ok (.iload_n 1, 1) := by decide +kernel
theorem dX6_leastBegun_30 : decode cX6_leastBegun 30 = .ok (.invokestatic 16, 3) := by decide +kernel
theorem dX6_leastBegun_33 : decode cX6_leastBegun 33 = .ok (.istore_n 2, 1) := by decide +kernel
theorem dX6_leastBegun_34 : decode cX6_leastBegun 34 = .ok (.iinc 3 1, 3) := by decide +kernel
theorem dX6_leastBegun_37 : decode cX6_leastBegun 37 = .ok (.goto (-31), 3) := by decide +kernel
theorem dX6_leastBegun_40 : decode cX6_leastBegun 40 = .ok (.iload_n 2, 1) := by decide +kernel
theorem dX6_leastBegun_41 : decode cX6_leastBegun 41 = .ok (.ineg, 1) := by decide +kernel
theorem dX6_leastBegun_42 : decode cX6_leastBegun 42 = .ok (.ireturn, 1) := by decide +kernel
theorem dX6_mostHeld_0 : decode cX6_mostHeld 0 = .ok (.iload_n 1, 1) := by decide +kernel
theorem dX6_mostHeld_1 : decode cX6_mostHeld 1 = .ok (.istore_n 2, 1) := by decide +kernel
theorem dX6_mostHeld_2 : decode cX6_mostHeld 2 = .ok (.iload_n 1, 1) := by decide +kernel
theorem dX6_mostHeld_3 : decode cX6_mostHeld 3 = .ok (.istore_n 3, 1) := by decide +kernel
theorem dX6_mostHeld_4 : decode cX6_mostHeld 4 = .ok (.iconst 0, 1) := by decide +kernel
theorem dX6_mostHeld_5 : decode cX6_mostHeld 5 = .ok (.istore 4, 2) := by decide +kernel
theorem dX6_mostHeld_7 : decode cX6_mostHeld 7 = .ok (.iload 4, 2) := by decide +kernel
theorem dX6_mostHeld_9 : decode cX6_mostHeld 9 = .ok (.bipush 24, 2) := by decide +kernel
theorem dX6_mostHeld_11 : decode cX6_mostHeld 11 = .ok (.if_icmp .ge 35, 3) := by decide +kernel
theorem dX6_mostHeld_14 : decode cX6_mostHeld 14 = .ok (.iload_n 2, 1) := by decide +kernel
theorem dX6_mostHeld_15 : decode cX6_mostHeld 15 = .ok (.aload_n 0, 1) := by decide +kernel
theorem dX6_mostHeld_16 : decode cX6_mostHeld 16 = .ok (.getfield 9, 3) := by decide +kernel
theorem dX6_mostHeld_19 : decode cX6_mostHeld 19 = .ok (.iload 4, 2) := by decide +kernel
theorem dX6_mostHeld_21 : decode cX6_mostHeld 21 = .ok (.iaload, 1) := by decide +kernel
theorem dX6_mostHeld_22 : decode cX6_mostHeld 22 = .ok (.iadd, 1) := by decide +kernel
theorem dX6_mostHeld_23 : decode cX6_mostHeld 23 = .ok (.istore_n 2, 1) := by decide +kernel
theorem dX6_mostHeld_24 : decode cX6_mostHeld 24 = .ok (.iload_n 3, 1) := by decide +kernel
theorem dX6_mostHeld_25 : decode cX6_mostHeld 25 = .ok (.iload_n 2, 1) := by decide +kernel
theorem dX6_mostHeld_26 : decode cX6_mostHeld 26 = .ok (.invokestatic 22, 3) := by decide +kernel
theorem dX6_mostHeld_29 : decode cX6_mostHeld 29 = .ok (.istore_n 3, 1) := by decide +kernel
theorem dX6_mostHeld_30 : decode cX6_mostHeld 30 = .ok (.iload_n 2, 1) := by decide +kernel
theorem dX6_mostHeld_31 : decode cX6_mostHeld 31 = .ok (.aload_n 0, 1) := by decide +kernel
theorem dX6_mostHeld_32 : decode cX6_mostHeld 32 = .ok (.getfield 13, 3) := by decide +kernel
theorem dX6_mostHeld_35 : decode cX6_mostHeld 35 = .ok (.iload 4, 2) := by decide +kernel
theorem dX6_mostHeld_37 : decode cX6_mostHeld 37 = .ok (.iaload, 1) := by decide +kernel
theorem dX6_mostHeld_38 : decode cX6_mostHeld 38 = .ok (.isub, 1) := by decide +kernel
theorem dX6_mostHeld_39 : decode cX6_mostHeld 39 = .ok (.istore_n 2, 1) := by decide +kernel
theorem dX6_mostHeld_40 : decode cX6_mostHeld 40 = .ok (.iinc 4 1, 3) := by decide +kernel
theorem dX6_mostHeld_43 : decode cX6_mostHeld 43 = .ok (.goto (-36), 3) := by decide +kernel
theorem dX6_mostHeld_46 : decode cX6_mostHeld 46 = .ok (.iload_n 3, 1) := by decide +kernel
theorem dX6_mostHeld_47 : decode cX6_mostHeld 47 = .ok (.ireturn, 1) := by decide +kernel
theorem dX7_init_0 : decode cX7_init 0 = .ok (.aload_n 0, 1) := by decide +kernel
theorem dX7_init_1 : decode cX7_init 1 = .ok (.invokespecial 1, 3) := by decide +kernel
theorem dX7_init_4 : decode cX7_init 4 = .ok (.aload_n 0, 1) := by decide +kernel
theorem dX7_init_5 : decode cX7_init 5 = .ok (.new 7, 3) := by decide +kernel
theorem dX7_init_8 : decode cX7_init 8 = .ok (.dup, 1) := by decide +kernel
theorem dX7_init_9 : decode cX7_init 9 = .ok (.invokespecial 9, 3) := by decide +kernel
theorem dX7_init_12 : decode cX7_init 12 = .ok (.putfield 10, 3) := by decide +kernel
theorem dX7_init_15 : decode cX7_init 15 = .ok (.aload_n 0, 1) := by decide +kernel
theorem dX7_init_16 : decode cX7_init 16 = .ok (.new 16, 3) := by decide +kernel
theorem dX7_init_19 : decode cX7_init 19 = .ok (.dup, 1) := by decide +kernel
theorem dX7_init_20 : decode cX7_init 20 = .ok (.aload_n 0, 1) := by decide +kernel
theorem dX7_init_21 : decode cX7_init 21 = .ok (.getfield 10, 3) := by decide +kernel
theorem dX7_init_24 : decode cX7_init 24 = .ok (.invokespecial 18, 3) := by decide +kernel
theorem dX7_init_27 : decode cX7_init 27 = .ok (.putfield 21, 3) := by decide +kernel
theorem dX7_init_30 : decode cX7_init 30 = .ok (.aload_n 0, 1) := by decide +kernel
theorem dX7_init_31 : decode cX7_init 31 = .ok (.new 25, 3) := by decide +kernel
theorem dX7_init_34 : decode cX7_init 34 = .ok (.dup, 1) := by decide +kernel
theorem dX7_init_35 : decode cX7_init 35 = .ok (.aload_n 0, 1) := by decide +kernel
theorem dX7_init_36 : decode cX7_init 36 = .ok (.getfield 10, 3) := by decide +kernel
theorem dX7_init_39 : decode cX7_init 39 = .ok (.invokespecial 27, 3) := by decide +kernel
theorem dX7_init_42 : decode cX7_init 42 = .ok (.putfield 28, 3) := by decide +kernel
theorem dX7_init_45 : decode cX7_init 45 = .ok (.aload_n 0, 1) := by decide +kernel
theorem dX7_init_46 : decode cX7_init 46 = .ok (.new 32, 3) := by decide +kernel
theorem dX7_init_49 : decode cX7_init 49 = .ok (.dup, 1) := by decide +kernel
theorem dX7_init_50 : decode cX7_init 50 = .ok (.invokespecial 34, 3) := by decide +kernel
theorem dX7_init_53 : decode cX7_init 53 = .ok (.putfield 35, 3) := by decide +kernel
theorem dX7_init_56 : decode cX7_init 56 = .ok (.aload_n 0, 1) := by decide +kernel
theorem dX7_init_57 : decode cX7_init 57 = .ok (.new 39, 3) := by decide +kernel
theorem dX7_init_60 : decode cX7_init 60 = .ok (.dup, 1) := by decide +kernel
theorem dX7_init_61 : decode cX7_init 61 = .ok (.invokespecial 41, 3) := by decide +kernel
theorem dX7_init_64 : decode cX7_init 64 = .ok (.putfield 42, 3) := by decide +kernel
theorem dX7_init_67 : decode cX7_init 67 = .ok (.aload_n 0, 1) := by decide +kernel
theorem dX7_init_68 : decode cX7_init 68 = .ok (.new 46, 3) := by decide +kernel
theorem dX7_init_71 : decode cX7_init 71 = .ok (.dup, 1) := by decide +kernel
theorem dX7_init_72 : decode cX7_init 72 = .ok (.invokespecial 48, 3) := by decide +kernel
theorem dX7_init_75 : decode cX7_init 75 = .ok (.putfield 49, 3) := by decide +kernel
theorem dX7_init_78 : decode cX7_init 78 = .ok (.return_, 1) := by decide +kernel
theorem dX7_step_0 : decode cX7_step 0 = .ok (.iload_n 1, 1) := by decide +kernel
theorem dX7_step_1 : decode cX7_step 1 = .ok (.iconst 1, 1) := by decide +kernel
theorem dX7_step_2 : decode cX7_step 2 = .ok (.sipush 1000, 3) := by decide +kernel
theorem dX7_step_5 : decode cX7_step 5 = .ok (.invokestatic 53, 3) := by decide +kernel
theorem dX7_step_8 : decode cX7_step 8 = .ok (.ifCond .eq 14, 3) := by decide +kernel
theorem dX7_step_11 : decode cX7_step 11 = .ok (.iload_n 2, 1) := by decide +kernel
theorem dX7_step_12 : decode cX7_step 12 = .ok (.iconst 0, 1) := by decide +kernel
theorem dX7_step_13 : decode cX7_step 13 = .ok (.sipush 400, 3) := by decide +kernel
theorem dX7_step_16 : decode cX7_step 16 = .ok (.invokestatic 53, 3) := by decide +kernel
theorem dX7_step_19 : decode cX7_step 19 = .ok (.ifCond .ne 5, 3) := by decide +kernel
theorem dX7_step_22 : decode cX7_step 22 = .ok (.iconst (-1), 1) := by decide +kernel
theorem dX7_step_23 : decode cX7_step 23 = .ok (.ireturn, 1) := by decide +kernel
theorem dX7_step_24 : decode cX7_step 24 = .ok (.iload_n 3, 1) := by decide +kernel
theorem dX7_step_25 : decode cX7_step 25 = .ok (.iload_n 2, 1) := by decide +kernel
theorem dX7_step_26 : decode cX7_step 26 = .ok (.iconst 1, 1) := by decide +kernel
theorem dX7_step_27 : decode cX7_step 27 = .ok (.iadd, 1) := by decide +kernel
theorem dX7_step_28 : decode cX7_step 28 = .ok (.sipush 500, 3) := by decide +kernel
theorem dX7_step_31 : decode cX7_step 31 = .ok (.invokestatic 53, 3) := by decide +kernel
theorem dX7_step_34 : decode cX7_step 34 = .ok (.ifCond .ne 5, 3) := by decide +kernel
theorem dX7_step_37 : decode cX7_step 37 = .ok (.iconst (-1), 1) := by decide +kernel
theorem dX7_step_38 : decode cX7_step 38 = .ok (.ireturn, 1) := by decide +kernel
theorem dX7_step_39 : decode cX7_step 39 = .ok (.aload_n 0, 1) := by decide +kernel
theorem dX7_step_40 : decode cX7_step 40 = .ok (.getfield 10, 3) := by decide +kernel
theorem dX7_step_43 : decode cX7_step 43 = .ok (.invokevirtual 57, 3) := by decide +kernel
theorem dX7_step_46 : decode cX7_step 46 = .ok (.ifCond .eq 8, 3) := by decide +kernel
theorem dX7_step_49 : decode cX7_step 49 = .ok (.bipush (-3), 2) := by decide +kernel
theorem dX7_step_51 : decode cX7_step 51 = .ok (.goto 13, 3) := by decide +kernel
theorem dX7_step_54 : decode cX7_step 54 = .ok (.aload_n 0, 1) := by decide +kernel
theorem dX7_step_55 : decode cX7_step 55 = .ok (.getfield 10, 3) := by decide +kernel
theorem dX7_step_58 : decode cX7_step 58 = .ok (.iload_n 1, 1) := by decide +kernel
theorem dX7_step_59 : decode cX7_step 59 = .ok (.iload_n 2, 1) := by decide +kernel
theorem dX7_step_60 : decode cX7_step 60 = .ok (.iload_n 3, 1) := by decide +kernel
theorem dX7_step_61 : decode cX7_step 61 = .ok (.invokevirtual 61, 3) := by decide +kernel
theorem dX7_step_64 : decode cX7_step 64 = .ok (.ireturn, 1) := by decide +kernel
theorem dX7_change_0 : decode cX7_change 0 = .ok (.aload_n 0, 1) := by decide +kernel
theorem dX7_change_1 : decode cX7_change 1 = .ok (.getfield 10, 3) := by decide +kernel
theorem dX7_change_4 : decode cX7_change 4 = .ok (.iload_n 1, 1) := by decide +kernel
theorem dX7_change_5 : decode cX7_change 5 = .ok (.invokevirtual 65, 3) := by decide +kernel
theorem dX7_change_8 : decode cX7_change 8 = .ok (.ifCond .ne 5, 3) := by decide +kernel
theorem dX7_change_11 : decode cX7_change 11 = .ok (.iconst (-1), 1) := by decide +kernel
theorem dX7_change_12 : decode cX7_change 12 = .ok (.ireturn, 1) := by decide +kernel
theorem dX7_change_13 : decode cX7_change 13 = .ok (.iload_n 2, 1) := by decide +kernel
theorem dX7_change_14 : decode cX7_change 14 = .ok (.ifCond .ne 27, 3) := by decide +kernel
theorem dX7_change_17 : decode cX7_change 17 = .ok (.iload_n 3, 1) := by decide +kernel
theorem dX7_change_18 : decode cX7_change 18 = .ok (.iconst 1, 1) := by decide +kernel
theorem dX7_change_19 : decode cX7_change 19 = .ok (.sipush 1000, 3) := by decide +kernel
theorem dX7_change_22 : decode cX7_change 22 = .ok (.invokestatic 53, 3) := by decide +kernel
theorem dX7_change_25 : decode cX7_change 25 = .ok (.ifCond .eq 16, 3) := by decide +kernel
theorem dX7_change_28 : decode cX7_change 28 = .ok (.aload_n 0, 1) := by decide +kernel
theorem dX7_change_29 : decode cX7_change 29 = .ok (.getfield 10, 3) := by decide +kernel
theorem dX7_change_32 : decode cX7_change 32 = .ok (.getfield 69, 3) := by decide +kernel
theorem dX7_change_35 : decode cX7_change 35 = .ok (.iload_n 1, 1) := by decide +kernel
theorem dX7_change_36 : decode cX7_change 36 = .ok (.iload_n 3, 1) := by decide +kernel
theorem dX7_change_37 : decode cX7_change 37 = .ok (.invokestatic 73, 3) := by decide +kernel
theorem dX7_change_40 : decode cX7_change 40 = .ok (.ireturn, 1) := by decide +kernel
theorem dX7_change_41 : decode cX7_change 41 = .ok (.iload_n 2, 1) := by decide +kernel
theorem dX7_change_42 : decode cX7_change 42 = .ok (.iconst 1, 1) := by decide +kernel
theorem dX7_change_43 : decode cX7_change 43 = .ok (.if_icmp .ne 26, 3) := by decide +kernel
theorem dX7_change_46 : decode cX7_change 46 = .ok (.iload_n 3, 1) := by decide +kernel
theorem dX7_change_47 : decode cX7_change 47 = .ok (.iconst 0, 1) := by decide +kernel
theorem dX7_change_48 : decode cX7_change 48 = .ok (.bipush 9, 2) := by decide +kernel
theorem dX7_change_50 : decode cX7_change 50 = .ok (.invokestatic 53, 3) := by decide +kernel
theorem dX7_change_53 : decode cX7_change 53 = .ok (.ifCond .eq 16, 3) := by decide +kernel
theorem dX7_change_56 : decode cX7_change 56 = .ok (.aload_n 0, 1) := by decide +kernel
theorem dX7_change_57 : decode cX7_change 57 = .ok (.getfield 10, 3) := by decide +kernel
theorem dX7_change_60 : decode cX7_change 60 = .ok (.getfield 77, 3) := by decide +kernel
theorem dX7_change_63 : decode cX7_change 63 = .ok (.iload_n 1, 1) := by decide +kernel
theorem dX7_change_64 : decode cX7_change 64 = .ok (.iload_n 3, 1) := by decide +kernel
theorem dX7_change_65 : decode cX7_change 65 = .ok (.invokestatic 73, 3) := by decide +kernel
theorem dX7_change_68 : decode cX7_change 68 = .ok (.ireturn, 1) := by decide +kernel
theorem dX7_change_69 : decode cX7_change 69 = .ok (.iconst (-1), 1) := by decide +kernel
theorem dX7_change_70 : decode cX7_change 70 = .ok (.ireturn, 1) := by decide +kernel
theorem dX7_set_0 : decode cX7_set 0 = .ok (.iload_n 1, 1) := by decide +kernel
theorem dX7_set_1 : decode cX7_set 1 = .ok (.invokestatic 80, 3) := by decide +kernel
theorem dX7_set_4 : decode cX7_set 4 = .ok (.ifCond .eq 16, 3) := by decide +kernel
theorem dX7_set_7 : decode cX7_set 7 = .ok (.iload_n 2, 1) := by decide +kernel
theorem dX7_set_8 : decode cX7_set 8 = .ok (.iconst 0, 1) := by decide +kernel
theorem dX7_set_9 : decode cX7_set 9 = .ok (.getstatic 83, 3) := by decide +kernel
theorem dX7_set_12 : decode cX7_set 12 = .ok (.iload_n 1, 1) := by decide +kernel
theorem dX7_set_13 : decode cX7_set 13 = .ok (.iaload, 1) := by decide +kernel
theorem dX7_set_14 : decode cX7_set 14 = .ok (.invokestatic 53, 3) := by decide +kernel
theorem dX7_set_17 : decode cX7_set 17 = .ok (.ifCond .ne 5, 3) := by decide +kernel
theorem dX7_set_20 : decode cX7_set 20 = .ok (.iconst (-1), 1) := by decide +kernel
theorem dX7_set_21 : decode cX7_set 21 = .ok (.ireturn, 1) := by decide +kernel
theorem dX7_set_22 : decode cX7_set 22 = .ok (.aload_n 0, 1) := by decide +kernel
theorem dX7_set_23 : decode cX7_set 23 = .ok (.getfield 21, 3) := by decide +kernel
theorem dX7_set_26 : decode cX7_set 26 = .ok (.getfield 86, 3) := by decide +kernel
theorem dX7_set_29 : decode cX7_set 29 = .ok (.iload_n 1, 1) := by decide +kernel
theorem dX7_set_30 : decode cX7_set 30 = .ok (.iload_n 2, 1) := by decide +kernel
theorem dX7_set_31 : decode cX7_set 31 = .ok (.invokestatic 73, 3) := by decide +kernel
theorem dX7_set_34 : decode cX7_set 34 = .ok (.ireturn, 1) := by decide +kernel
theorem dX7_limit_0 : decode cX7_limit 0 = .ok (.iload_n 1, 1) := by decide +kernel
theorem dX7_limit_1 : decode cX7_limit 1 = .ok (.iconst 0, 1) := by decide +kernel
theorem dX7_limit_2 : decode cX7_limit 2 = .ok (.iconst 2, 1) := by decide +kernel
theorem dX7_limit_3 : decode cX7_limit 3 = .ok (.invokestatic 53, 3) := by decide +kernel
theorem dX7_limit_6 : decode cX7_limit 6 = .ok (.ifCond .eq 14, 3) := by decide +kernel
theorem dX7_limit_9 : decode cX7_limit 9 = .ok (.aload_n 0, 1) := by decide +kernel
theorem dX7_limit_10 : decode cX7_limit 10 = .ok (.getfield 10, 3) := by decide +kernel
theorem dX7_limit_13 : decode cX7_limit 13 = .ok (.iload_n 2, 1) := by decide +kernel
theorem dX7_limit_14 : decode cX7_limit 14 = .ok (.invokevirtual 65, 3) := by decide +kernel
theorem dX7_limit_17 : decode cX7_limit 17 = .ok (.ifCond .ne 5, 3) := by decide +kernel
theorem dX7_limit_20 : decode cX7_limit 20 = .ok (.iconst (-1), 1) := by decide +kernel
theorem dX7_limit_21 : decode cX7_limit 21 = .ok (.ireturn, 1) := by decide +kernel
theorem dX7_limit_22 : decode cX7_limit 22 = .ok (.aload_n 0, 1) := by decide +kernel
theorem dX7_limit_23 : decode cX7_limit 23 = .ok (.dup, 1) := by decide +kernel
theorem dX7_limit_24 : decode cX7_limit 24 = .ok (.getfield 89, 3) := by decide +kernel
theorem dX7_limit_27 : decode cX7_limit 27 = .ok (.iload_n 1, 1) := by decide +kernel
theorem dX7_limit_28 : decode cX7_limit 28 = .ok (.invokestatic 93, 3) := by decide +kernel
theorem dX7_limit_31 : decode cX7_limit 31 = .ok (.i2l, 1) := by decide +kernel
theorem dX7_limit_32 : decode cX7_limit 32 = .ok (.ladd, 1) := by decide +kernel
theorem dX7_limit_33 : decode cX7_limit 33 = .ok (.putfield 89, 3) := by decide +kernel
theorem dX7_limit_36 : decode cX7_limit 36 = .ok (.aload_n 0, 1) := by decide +kernel
theorem dX7_limit_37 : decode cX7_limit 37 = .ok (.getfield 21, 3) := by decide +kernel
theorem dX7_limit_40 : decode cX7_limit 40 = .ok (.iload_n 1, 1) := by decide +kernel
theorem dX7_limit_41 : decode cX7_limit 41 = .ok (.iload_n 2, 1) := by decide +kernel
theorem dX7_limit_42 : decode cX7_limit 42 = .ok (.invokevirtual 97, 3) := by decide +kernel
theorem dX7_limit_45 : decode cX7_limit 45 = .ok (.ireturn, 1) := by decide +kernel
theorem dX7_dirt_0 : decode cX7_dirt 0 = .ok (.iload_n 1, 1) := by decide +kernel
theorem dX7_dirt_1 : decode cX7_dirt 1 = .ok (.iconst 1, 1) := by decide +kernel
theorem dX7_dirt_2 : decode cX7_dirt 2 = .ok (.sipush 500, 3) := by decide +kernel
theorem dX7_dirt_5 : decode cX7_dirt 5 = .ok (.invokestatic 53, 3) := by decide +kernel
theorem dX7_dirt_8 : decode cX7_dirt 8 = .ok (.ifCond .eq 10, 3) := by decide +kernel
theorem dX7_dirt_11 : decode cX7_dirt 11 = .ok (.iload_n 2, 1) := by decide +kernel
theorem dX7_dirt_12 : decode cX7_dirt 12 = .ok (.invokestatic 101, 3) := by decide +kernel
theorem dX7_dirt_15 : decode cX7_dirt 15 = .ok (.ifCond .ne 7, 3) := by decide +kernel
theorem dX7_dirt_18 : decode cX7_dirt 18 = .ok (.ldc2_w 104, 3) := by decide +kernel
theorem dX7_dirt_21 : decode cX7_dirt 21 = .ok (.lreturn, 1) := by decide +kernel
theorem dX7_dirt_22 : decode cX7_dirt 22 = .ok (.aload_n 0, 1) := by decide +kernel
theorem dX7_dirt_23 : decode cX7_dirt 23 = .ok (.getfield 10, 3) := by decide +kernel
theorem dX7_dirt_26 : decode cX7_dirt 26 = .ok (.iload_n 1, 1) := by decide +kernel
theorem dX7_dirt_27 : decode cX7_dirt 27 = .ok (.aload_n 0, 1) := by decide +kernel
theorem dX7_dirt_28 : decode cX7_dirt 28 = .ok (.getfield 49, 3) := by decide +kernel
theorem dX7_dirt_31 : decode cX7_dirt 31 = .ok (.invokevirtual 106, 3) := by decide +kernel
theorem dX7_dirt_34 : decode cX7_dirt 34 = .ok (.aload_n 0, 1) := by decide +kernel
theorem dX7_dirt_35 : decode cX7_dirt 35 = .ok (.getfield 49, 3) := by decide +kernel
theorem dX7_dirt_38 : decode cX7_dirt 38 = .ok (.iload_n 2, 1) := by decide +kernel
theorem dX7_dirt_39 : decode cX7_dirt 39 = .ok (.invokevirtual 110, 3) := by decide +kernel
theorem dX7_dirt_42 : decode cX7_dirt 42 = .ok (.lreturn, 1) := by decide +kernel
theorem dX7_least_0 : decode cX7_least 0 = .ok (.iload_n 1, 1) := by decide +kernel
theorem dX7_least_1 : decode cX7_least 1 = .ok (.iconst 0, 1) := by decide +kernel
theorem dX7_least_2 : decode cX7_least 2 = .ok (.iconst 2, 1) := by decide +kernel
theorem dX7_least_3 : decode cX7_least 3 = .ok (.invokestatic 53, 3) := by decide +kernel
theorem dX7_least_6 : decode cX7_least 6 = .ok (.ifCond .ne 7, 3) := by decide +kernel
theorem dX7_least_9 : decode cX7_least 9 = .ok (.ldc2_w 104, 3) := by decide +kernel
theorem dX7_least_12 : decode cX7_least 12 = .ok (.lreturn, 1) := by decide +kernel
theorem dX7_least_13 : decode cX7_least 13 = .ok (.aload_n 0, 1) := by decide +kernel
theorem dX7_least_14 : decode cX7_least 14 = .ok (.getfield 10, 3) := by decide +kernel
theorem dX7_least_17 : decode cX7_least 17 = .ok (.invokevirtual 114, 3) := by decide +kernel
theorem dX7_least_20 : decode cX7_least 20 = .ok (.istore_n 2, 1) := by decide +kernel
theorem dX7_least_21 : decode cX7_least 21 = .ok (.iload_n 1, 1) := by decide +kernel
theorem dX7_least_22 : decode cX7_least 22 = .ok (.iconst 2, 1) := by decide +kernel
theorem dX7_least_23 : decode cX7_least 23 = .ok (.if_icmp .ne 6, 3) := by decide +kernel
theorem dX7_least_26 : decode cX7_least 26 = .ok (.iload_n 2, 1) := by decide +kernel
theorem dX7_least_27 : decode cX7_least 27 = .ok (.i2l, 1) := by decide +kernel
theorem dX7_least_28 : decode cX7_least 28 = .ok (.lreturn, 1) := by decide +kernel
theorem dX7_least_29 : decode cX7_least 29 = .ok (.aload_n 0, 1) := by decide +kernel
theorem dX7_least_30 : decode cX7_least 30 = .ok (.getfield 10, 3) := by decide +kernel
theorem dX7_least_33 : decode cX7_least 33 = .ok (.iload_n 2, 1) := by decide +kernel
theorem dX7_least_34 : decode cX7_least 34 = .ok (.aload_n 0, 1) := by decide +kernel
theorem dX7_least_35 : decode cX7_least 35 = .ok (.getfield 49, 3) := by decide +kernel
theorem dX7_least_38 : decode cX7_least 38 = .ok (.invokevirtual 118, 3) := by decide +kernel
theorem dX7_least_41 : decode cX7_least 41 = .ok (.aload_n 0, 1) := by decide +kernel
theorem dX7_least_42 : decode cX7_least 42 = .ok (.getfield 49, 3) := by decide +kernel
theorem dX7_least_45 : decode cX7_least 45 = .ok (.iload_n 1, 1) := by decide +kernel
theorem dX7_least_46 : decode cX7_least 46 = .ok (.invokevirtual 110, 3) := by decide +kernel
theorem dX7_least_49 : decode cX7_least 49 = .ok (.lreturn, 1) := by decide +kernel
theorem dX7_fresh_0 : decode cX7_fresh 0 = .ok (.aload_n 0, 1) := by decide +kernel
theorem dX7_fresh_1 : decode cX7_fresh 1 = .ok (.getfield 10, 3) := by decide +kernel
theorem dX7_fresh_4 : decode cX7_fresh 4 = .ok (.iload_n 1, 1) := by decide +kernel
theorem dX7_fresh_5 : decode cX7_fresh 5 = .ok (.invokevirtual 65, 3) := by decide +kernel
theorem dX7_fresh_8 : decode cX7_fresh 8 = .ok (.ifCond .eq 13, 3) := by decide +kernel
theorem dX7_fresh_11 : decode cX7_fresh 11 = .ok (.iload_n 2, 1) := by decide +kernel
theorem dX7_fresh_12 : decode cX7_fresh 12 = .ok (.iconst 0, 1) := by decide +kernel
theorem dX7_fresh_13 : decode cX7_fresh 13 = .ok (.bipush 100, 2) := by decide +kernel
theorem dX7_fresh_15 : decode cX7_fresh 15 = .ok (.invokestatic 53, 3) := by decide +kernel
theorem dX7_fresh_18 : decode cX7_fresh 18 = .ok (.ifCond .ne 5, 3) := by decide +kernel
theorem dX7_fresh_21 : decode cX7_fresh 21 = .ok (.iconst (-1), 1) := by decide +kernel
theorem dX7_fresh_22 : decode cX7_fresh 22 = .ok (.ireturn, 1) := by decide +kernel
theorem dX7_fresh_23 : decode cX7_fresh 23 = .ok (.aload_n 0, 1) := by decide +kernel
theorem dX7_fresh_24 : decode cX7_fresh 24 = .ok (.getfield 28, 3) := by decide +kernel
theorem dX7_fresh_27 : decode cX7_fresh 27 = .ok (.getfield 121, 3) := by decide +kernel
theorem dX7_fresh_30 : decode cX7_fresh 30 = .ok (.iload_n 1, 1) := by decide +kernel
theorem dX7_fresh_31 : decode cX7_fresh 31 = .ok (.iload_n 2, 1) := by decide +kernel
theorem dX7_fresh_32 : decode cX7_fresh 32 = .ok (.invokestatic 73, 3) := by decide +kernel
theorem dX7_fresh_35 : decode cX7_fresh 35 = .ok (.ireturn, 1) := by decide +kernel
theorem dX7_pipe_0 : decode cX7_pipe 0 = .ok (.aload_n 0, 1) := by decide +kernel
theorem dX7_pipe_1 : decode cX7_pipe 1 = .ok (.getfield 10, 3) := by decide +kernel
theorem dX7_pipe_4 : decode cX7_pipe 4 = .ok (.iload_n 1, 1) := by decide +kernel
theorem dX7_pipe_5 : decode cX7_pipe 5 = .ok (.invokevirtual 65, 3) := by decide +kernel
theorem dX7_pipe_8 : decode cX7_pipe 8 = .ok (.ifCond .eq 29, 3) := by decide +kernel
theorem dX7_pipe_11 : decode cX7_pipe 11 = .ok (.aload_n 0, 1) := by decide +kernel
theorem dX7_pipe_12 : decode cX7_pipe 12 = .ok (.getfield 10, 3) := by decide +kernel
theorem dX7_pipe_15 : decode cX7_pipe 15 = .ok (.iload_n 2, 1) := by decide +kernel
theorem dX7_pipe_16 : decode cX7_pipe 16 = .ok (.invokevirtual 65, 3) := by decide +kernel
theorem dX7_pipe_19 : decode cX7_pipe 19 = .ok (.ifCond .eq 18, 3) := by decide +kernel
theorem dX7_pipe_22 : decode cX7_pipe 22 = .ok (.iload_n 1, 1) := by decide +kernel
theorem dX7_pipe_23 : decode cX7_pipe 23 = .ok (.iload_n 2, 1) := by decide +kernel
theorem dX7_pipe_24 : decode cX7_pipe 24 = .ok (.if_icmp .eq 13, 3) := by decide +kernel
theorem dX7_pipe_27 : decode cX7_pipe 27 = .ok (.iload_n 3, 1) := by decide +kernel
theorem dX7_pipe_28 : decode cX7_pipe 28 = .ok (.iconst 0, 1) := by decide +kernel
theorem dX7_pipe_29 : decode cX7_pipe 29 = .ok (.bipush 100, 2) := by decide +kernel
theorem dX7_pipe_31 : decode cX7_pipe 31 = .ok (.invokestatic 53, 3) := by decide +kernel
theorem dX7_pipe_34 : decode cX7_pipe 34 = .ok (.ifCond .ne 5, 3) := by decide +kernel
theorem dX7_pipe_37 : decode cX7_pipe 37 = .ok (.iconst (-1), 1) := by decide +kernel
theorem dX7_pipe_38 : decode cX7_pipe 38 = .ok (.ireturn, 1) := by decide +kernel
theorem dX7_pipe_39 : decode cX7_pipe 39 = .ok (.aload_n 0, 1) := by decide +kernel
theorem dX7_pipe_40 : decode cX7_pipe 40 = .ok (.getfield 28, 3) := by decide +kernel
theorem dX7_pipe_43 : decode cX7_pipe 43 = .ok (.getfield 124, 3) := by decide +kernel
theorem dX7_pipe_46 : decode cX7_pipe 46 = .ok (.iload_n 1, 1) := by decide +kernel
theorem dX7_pipe_47 : decode cX7_pipe 47 = .ok (.aaload, 1) := by decide +kernel
theorem dX7_pipe_48 : decode cX7_pipe 48 = .ok (.iload_n 2, 1) := by decide +kernel
theorem dX7_pipe_49 : decode cX7_pipe 49 = .ok (.iload_n 3, 1) := by decide +kernel
theorem dX7_pipe_50 : decode cX7_pipe 50 = .ok (.invokestatic 73, 3) := by decide +kernel
theorem dX7_pipe_53 : decode cX7_pipe 53 = .ok (.ireturn, 1) := by decide +kernel
theorem dX7_water_0 : decode cX7_water 0 = .ok (.aload_n 0, 1) := by decide +kernel
theorem dX7_water_1 : decode cX7_water 1 = .ok (.getfield 10, 3) := by decide +kernel
theorem dX7_water_4 : decode cX7_water 4 = .ok (.iload_n 1, 1) := by decide +kernel
theorem dX7_water_5 : decode cX7_water 5 = .ok (.invokevirtual 65, 3) := by decide +kernel
theorem dX7_water_8 : decode cX7_water 8 = .ok (.ifCond .eq 12, 3) := by decide +kernel
theorem dX7_water_11 : decode cX7_water 11 = .ok (.iload_n 2, 1) := by decide +kernel
theorem dX7_water_12 : decode cX7_water 12 = .ok (.iconst 0, 1) := by decide +kernel
theorem dX7_water_13 : decode cX7_water 13 = .ok (.iconst 1, 1) := by decide +kernel
theorem dX7_water_14 : decode cX7_water 14 = .ok (.invokestatic 53, 3) := by decide +kernel
theorem dX7_water_17 : decode cX7_water 17 = .ok (.ifCond .ne 5, 3) := by decide +kernel
theorem dX7_water_20 : decode cX7_water 20 = .ok (.iconst (-1), 1) := by decide +kernel
theorem dX7_water_21 : decode cX7_water 21 = .ok (.ireturn, 1) := by decide +kernel
theorem dX7_water_22 : decode cX7_water 22 = .ok (.iload_n 2, 1) := by decide +kernel
theorem dX7_water_23 : decode cX7_water 23 = .ok (.ifCond .ne 14, 3) := by decide +kernel
theorem dX7_water_26 : decode cX7_water 26 = .ok (.aload_n 0, 1) := by decide +kernel
theorem dX7_water_27 : decode cX7_water 27 = .ok (.getfield 28, 3) := by decide +kernel
theorem dX7_water_30 : decode cX7_water 30 = .ok (.iload_n 1, 1) := by decide +kernel
theorem dX7_water_31 : decode cX7_water 31 = .ok (.invokevirtual 128, 3) := by decide +kernel
theorem dX7_water_34 : decode cX7_water 34 = .ok (.goto 11, 3) := by decide +kernel
theorem dX7_water_37 : decode cX7_water 37 = .ok (.aload_n 0, 1) := by decide +kernel
theorem dX7_water_38 : decode cX7_water 38 = .ok (.getfield 28, 3) := by decide +kernel
theorem dX7_water_41 : decode cX7_water 41 = .ok (.iload_n 1, 1) := by decide +kernel
theorem dX7_water_42 : decode cX7_water 42 = .ok (.invokevirtual 131, 3) := by decide +kernel
theorem dX7_water_45 : decode cX7_water 45 = .ok (.ireturn, 1) := by decide +kernel
theorem dX7_fails_0 : decode cX7_fails 0 = .ok (.aload_n 0, 1) := by decide +kernel
theorem dX7_fails_1 : decode cX7_fails 1 = .ok (.getfield 28, 3) := by decide +kernel
theorem dX7_fails_4 : decode cX7_fails 4 = .ok (.invokevirtual 134, 3) := by decide +kernel
theorem dX7_fails_7 : decode cX7_fails 7 = .ok (.istore_n 1, 1) := by decide +kernel
theorem dX7_fails_8 : decode cX7_fails 8 = .ok (.iload_n 1, 1) := by decide +kernel
theorem dX7_fails_9 : decode cX7_fails 9 = .ok (.ifCond .eq 7, 3) := by decide +kernel
theorem dX7_fails_12 : decode cX7_fails 12 = .ok (.iload_n 1, 1) := by decide +kernel
theorem dX7_fails_13 : decode cX7_fails 13 = .ok (.goto 14, 3) := by decide +kernel
theorem dX7_fails_16 : decode cX7_fails 16 = .ok (.aload_n 0, 1) := by decide +kernel
theorem dX7_fails_17 : decode cX7_fails 17 = .ok (.getfield 28, 3) := by decide +kernel
theorem dX7_fails_20 : decode cX7_fails 20 = .ok (.aload_n 0, 1) := by decide +kernel
theorem dX7_fails_21 : decode cX7_fails 21 = .ok (.getfield 21, 3) := by decide +kernel
theorem dX7_fails_24 : decode cX7_fails 24 = .ok (.invokevirtual 137, 3) := by decide +kernel
theorem dX7_fails_27 : decode cX7_fails 27 = .ok (.ireturn, 1) := by decide +kernel
theorem dX7_at_0 : decode cX7_at 0 = .ok (.aload_n 0, 1) := by decide +kernel
theorem dX7_at_1 : decode cX7_at 1 = .ok (.getfield 10, 3) := by decide +kernel
theorem dX7_at_4 : decode cX7_at 4 = .ok (.iload_n 1, 1) := by decide +kernel
theorem dX7_at_5 : decode cX7_at 5 = .ok (.invokevirtual 65, 3) := by decide +kernel
theorem dX7_at_8 : decode cX7_at 8 = .ok (.ifCond .eq 10, 3) := by decide +kernel
theorem dX7_at_11 : decode cX7_at 11 = .ok (.iload_n 2, 1) := by decide +kernel
theorem dX7_at_12 : decode cX7_at 12 = .ok (.invokestatic 101, 3) := by decide +kernel
theorem dX7_at_15 : decode cX7_at 15 = .ok (.ifCond .ne 7, 3) := by decide +kernel
theorem dX7_at_18 : decode cX7_at 18 = .ok (.ldc2_w 104, 3) := by decide +kernel
theorem dX7_at_21 : decode cX7_at 21 = .ok (.lreturn, 1) := by decide +kernel
theorem dX7_at_22 : decode cX7_at 22 = .ok (.aload_n 0, 1) := by decide +kernel
theorem dX7_at_23 : decode cX7_at 23 = .ok (.getfield 28, 3) := by decide +kernel
theorem dX7_at_26 : decode cX7_at 26 = .ok (.invokevirtual 134, 3) := by decide +kernel
theorem dX7_at_29 : decode cX7_at 29 = .ok (.ifCond .eq 7, 3) := by decide +kernel
theorem dX7_at_32 : decode cX7_at 32 = .ok (.ldc2_w 141, 3) := by decide +kernel
theorem dX7_at_35 : decode cX7_at 35 = .ok (.lreturn, 1) := by decide +kernel
theorem dX7_at_36 : decode cX7_at 36 = .ok (.aload_n 0, 1) := by decide +kernel
theorem dX7_at_37 : decode cX7_at 37 = .ok (.getfield 28, 3) := by decide +kernel
theorem dX7_at_40 : decode cX7_at 40 = .ok (.invokevirtual 143, 3) := by decide +kernel
theorem dX7_at_43 : decode cX7_at 43 = .ok (.aload_n 0, 1) := by decide +kernel
theorem dX7_at_44 : decode cX7_at 44 = .ok (.getfield 28, 3) := by decide +kernel
theorem dX7_at_47 : decode cX7_at 47 = .ok (.getfield 146, 3) := by decide +kernel
theorem dX7_at_50 : decode cX7_at 50 = .ok (.iload_n 1, 1) := by decide +kernel
theorem dX7_at_51 : decode cX7_at 51 = .ok (.aaload, 1) := by decide +kernel
theorem dX7_at_52 : decode cX7_at 52 = .ok (.iload_n 2, 1) := by decide +kernel
theorem dX7_at_53 : decode cX7_at 53 = .ok (.invokevirtual 110, 3) := by decide +kernel
theorem dX7_at_56 : decode cX7_at 56 = .ok (.lreturn, 1) := by decide +kernel
theorem dX7_hit_0 : decode cX7_hit 0 = .ok (.aload_n 0, 1) := by decide +kernel
theorem dX7_hit_1 : decode cX7_hit 1 = .ok (.getfield 10, 3) := by decide +kernel
theorem dX7_hit_4 : decode cX7_hit 4 = .ok (.iload_n 1, 1) := by decide +kernel
theorem dX7_hit_5 : decode cX7_hit 5 = .ok (.invokevirtual 65, 3) := by decide +kernel
theorem dX7_hit_8 : decode cX7_hit 8 = .ok (.ifCond .eq 25, 3) := by decide +kernel
theorem dX7_hit_11 : decode cX7_hit 11 = .ok (.iload_n 2, 1) := by decide +kernel
theorem dX7_hit_12 : decode cX7_hit 12 = .ok (.iconst 0, 1) := by decide +kernel
theorem dX7_hit_13 : decode cX7_hit 13 = .ok (.sipush 1000, 3) := by decide +kernel
theorem dX7_hit_16 : decode cX7_hit 16 = .ok (.invokestatic 53, 3) := by decide +kernel
theorem dX7_hit_19 : decode cX7_hit 19 = .ok (.ifCond .eq 14, 3) := by decide +kernel
theorem dX7_hit_22 : decode cX7_hit 22 = .ok (.aload_n 0, 1) := by decide +kernel
theorem dX7_hit_23 : decode cX7_hit 23 = .ok (.getfield 10, 3) := by decide +kernel
theorem dX7_hit_26 : decode cX7_hit 26 = .ok (.iload_n 3, 1) := by decide +kernel
theorem dX7_hit_27 : decode cX7_hit 27 = .ok (.invokevirtual 65, 3) := by decide +kernel
theorem dX7_hit_30 : decode cX7_hit 30 = .ok (.ifCond .ne 5, 3) := by decide +kernel
theorem dX7_hit_33 : decode cX7_hit 33 = .ok (.iconst (-1), 1) := by decide +kernel
theorem dX7_hit_34 : decode cX7_hit 34 = .ok (.ireturn, 1) := by decide +kernel
theorem dX7_hit_35 : decode cX7_hit 35 = .ok (.aload_n 0, 1) := by decide +kernel
theorem dX7_hit_36 : decode cX7_hit 36 = .ok (.getfield 28, 3) := by decide +kernel
theorem dX7_hit_39 : decode cX7_hit 39 = .ok (.iload_n 1, 1) := by decide +kernel
theorem dX7_hit_40 : decode cX7_hit 40 = .ok (.iload_n 2, 1) := by decide +kernel
theorem dX7_hit_41 : decode cX7_hit 41 = .ok (.invokevirtual 150, 3) := by decide +kernel
theorem dX7_hit_44 : decode cX7_hit 44 = .ok (.aload_n 0, 1) := by decide +kernel
theorem dX7_hit_45 : decode cX7_hit 45 = .ok (.getfield 28, 3) := by decide +kernel
theorem dX7_hit_48 : decode cX7_hit 48 = .ok (.getfield 154, 3) := by decide +kernel
theorem dX7_hit_51 : decode cX7_hit 51 = .ok (.iload_n 3, 1) := by decide +kernel
theorem dX7_hit_52 : decode cX7_hit 52 = .ok (.iaload, 1) := by decide +kernel
theorem dX7_hit_53 : decode cX7_hit 53 = .ok (.ireturn, 1) := by decide +kernel
theorem dX7_steady_0 : decode cX7_steady 0 = .ok (.iload_n 1, 1) := by decide +kernel
theorem dX7_steady_1 : decode cX7_steady 1 = .ok (.iconst 1, 1) := by decide +kernel
theorem dX7_steady_2 : decode cX7_steady 2 = .ok (.sipush 1000, 3) := by decide +kernel
theorem dX7_steady_5 : decode cX7_steady 5 = .ok (.invokestatic 53, 3) := by decide +kernel
theorem dX7_steady_8 : decode cX7_steady 8 = .ok (.ifCond .eq 13, 3) := by decide +kernel
theorem dX7_steady_11 : decode cX7_steady 11 = .ok (.iload_n 2, 1) := by decide +kernel
theorem dX7_steady_12 : decode cX7_steady 12 = .ok (.iconst 0, 1) := by decide +kernel
theorem dX7_steady_13 : decode cX7_steady 13 = .ok (.ldc 159, 2) := by decide +kernel
theorem dX7_steady_15 : decode cX7_steady 15 = .ok (.invokestatic 53, 3) := by decide +kernel
theorem dX7_steady_18 : decode cX7_steady 18 = .ok (.ifCond .ne 5, 3) := by decide +kernel
theorem dX7_steady_21 : decode cX7_steady 21 = .ok (.iconst (-1), 1) := by decide +kernel
theorem dX7_steady_22 : decode cX7_steady 22 = .ok (.ireturn, 1) := by decide +kernel
theorem dX7_steady_23 : decode cX7_steady 23 = .ok (.iload_n 3, 1) := by decide +kernel
theorem dX7_steady_24 : decode cX7_steady 24 = .ok (.iconst 0, 1) := by decide +kernel
theorem dX7_steady_25 : decode cX7_steady 25 = .ok (.sipush 1000, 3) := by decide +kernel
theorem dX7_steady_28 : decode cX7_steady 28 = .ok (.invokestatic 53, 3) := by decide +kernel
theorem dX7_steady_31 : decode cX7_steady 31 = .ok (.ifCond .eq 23, 3) := by decide +kernel
theorem dX7_steady_34 : decode cX7_steady 34 = .ok (.iload 4, 2) := by decide +kernel
theorem dX7_steady_36 : decode cX7_steady 36 = .ok (.iconst 0, 1) := by decide +kernel
theorem dX7_steady_37 : decode cX7_steady 37 = .ok (.iload_n 1, 1) := by decide +kernel
theorem dX7_steady_38 : decode cX7_steady 38 = .ok (.invokestatic 53, 3) := by decide +kernel
theorem dX7_steady_41 : decode cX7_steady 41 = .ok (.ifCond .eq 13, 3) := by decide +kernel
theorem dX7_steady_44 : decode cX7_steady 44 = .ok (.iload 5, 2) := by decide +kernel
theorem dX7_steady_46 : decode cX7_steady 46 = .ok (.iconst 0, 1) := by decide +kernel
theorem dX7_steady_47 : decode cX7_steady 47 = .ok (.iconst 1, 1) := by decide +kernel
theorem dX7_steady_48 : decode cX7_steady 48 = .ok (.invokestatic 53, 3) := by decide +kernel
theorem dX7_steady_51 : decode cX7_steady 51 = .ok (.ifCond .ne 5, 3) := by decide +kernel
theorem dX7_steady_54 : decode cX7_steady 54 = .ok (.iconst (-1), 1) := by decide +kernel
theorem dX7_steady_55 : decode cX7_steady 55 = .ok (.ireturn, 1) := by decide +kernel
theorem dX7_steady_56 : decode cX7_steady 56 = .ok (.iload_n 1, 1) := by decide +kernel
theorem dX7_steady_57 : decode cX7_steady 57 = .ok (.iload_n 2, 1) := by decide +kernel
theorem dX7_steady_58 : decode cX7_steady 58 = .ok (.iload_n 3, 1) := by decide +kernel
theorem dX7_steady_59 : decode cX7_steady 59 = .ok (.iload 4, 2) := by decide +kernel
theorem dX7_steady_61 : decode cX7_steady 61 = .ok (.iload 5, 2) := by decide +kernel
theorem dX7_steady_63 : decode cX7_steady 63 = .ok (.ifCond .ne 7, 3) := by decide +kernel
theorem dX7_steady_66 : decode cX7_steady 66 = .ok (.iconst 1, 1) := by decide +kernel
theorem dX7_steady_67 : decode cX7_steady 67 = .ok (.goto 4, 3) := by decide +kernel
theorem dX7_steady_70 : decode cX7_steady 70 = .ok (.iconst 0, 1) := by decide +kernel
theorem dX7_steady_71 : decode cX7_steady 71 = .ok (.invokestatic 160, 3) := by decide +kernel
theorem dX7_steady_74 : decode cX7_steady 74 = .ok (.ireturn, 1) := by decide +kernel
theorem dX7_store_0 : decode cX7_store 0 = .ok (.iload_n 1, 1) := by decide +kernel
theorem dX7_store_1 : decode cX7_store 1 = .ok (.iconst 0, 1) := by decide +kernel
theorem dX7_store_2 : decode cX7_store 2 = .ok (.bipush 23, 2) := by decide +kernel
theorem dX7_store_4 : decode cX7_store 4 = .ok (.invokestatic 53, 3) := by decide +kernel
theorem dX7_store_7 : decode cX7_store 7 = .ok (.ifCond .eq 23, 3) := by decide +kernel
theorem dX7_store_10 : decode cX7_store 10 = .ok (.iload_n 2, 1) := by decide +kernel
theorem dX7_store_11 : decode cX7_store 11 = .ok (.iconst 0, 1) := by decide +kernel
theorem dX7_store_12 : decode cX7_store 12 = .ok (.iconst 1, 1) := by decide +kernel
theorem dX7_store_13 : decode cX7_store 13 = .ok (.invokestatic 53, 3) := by decide +kernel
theorem dX7_store_16 : decode cX7_store 16 = .ok (.ifCond .eq 14, 3) := by decide +kernel
theorem dX7_store_19 : decode cX7_store 19 = .ok (.iload_n 3, 1) := by decide +kernel
theorem dX7_store_20 : decode cX7_store 20 = .ok (.iconst 0, 1) := by decide +kernel
theorem dX7_store_21 : decode cX7_store 21 = .ok (.sipush 500, 3) := by decide +kernel
theorem dX7_store_24 : decode cX7_store 24 = .ok (.invokestatic 53, 3) := by decide +kernel
theorem dX7_store_27 : decode cX7_store 27 = .ok (.ifCond .ne 5, 3) := by decide +kernel
theorem dX7_store_30 : decode cX7_store 30 = .ok (.iconst (-1), 1) := by decide +kernel
theorem dX7_store_31 : decode cX7_store 31 = .ok (.ireturn, 1) := by decide +kernel
theorem dX7_store_32 : decode cX7_store 32 = .ok (.iload_n 2, 1) := by decide +kernel
theorem dX7_store_33 : decode cX7_store 33 = .ok (.ifCond .ne 13, 3) := by decide +kernel
theorem dX7_store_36 : decode cX7_store 36 = .ok (.aload_n 0, 1) := by decide +kernel
theorem dX7_store_37 : decode cX7_store 37 = .ok (.getfield 35, 3) := by decide +kernel
theorem dX7_store_40 : decode cX7_store 40 = .ok (.getfield 164, 3) := by decide +kernel
theorem dX7_store_43 : decode cX7_store 43 = .ok (.goto 10, 3) := by decide +kernel
theorem dX7_store_46 : decode cX7_store 46 = .ok (.aload_n 0, 1) := by decide +kernel
theorem dX7_store_47 : decode cX7_store 47 = .ok (.getfield 35, 3) := by decide +kernel
theorem dX7_store_50 : decode cX7_store 50 = .ok (.getfield 167, 3) := by decide +kernel
theorem dX7_store_53 : decode cX7_store 53 = .ok (.iload_n 1, 1) := by decide +kernel
theorem dX7_store_54 : decode cX7_store 54 = .ok (.iload_n 3, 1) := by decide +kernel
theorem dX7_store_55 : decode cX7_store 55 = .ok (.invokestatic 73, 3) := by decide +kernel
theorem dX7_store_58 : decode cX7_store 58 = .ok (.ireturn, 1) := by decide +kernel
theorem dX7_room_0 : decode cX7_room 0 = .ok (.iload_n 1, 1) := by decide +kernel
theorem dX7_room_1 : decode cX7_room 1 = .ok (.iconst 0, 1) := by decide +kernel
theorem dX7_room_2 : decode cX7_room 2 = .ok (.iconst 1, 1) := by decide +kernel
theorem dX7_room_3 : decode cX7_room 3 = .ok (.invokestatic 53, 3) := by decide +kernel
theorem dX7_room_6 : decode cX7_room 6 = .ok (.ifCond .ne 5, 3) := by decide +kernel
theorem dX7_room_9 : decode cX7_room 9 = .ok (.iconst (-1), 1) := by decide +kernel
theorem dX7_room_10 : decode cX7_room 10 = .ok (.ireturn, 1) := by decide +kernel
theorem dX7_room_11 : decode cX7_room 11 = .ok (.aload_n 0, 1) := by decide +kernel
theorem dX7_room_12 : decode cX7_room 12 = .ok (.getfield 35, 3) := by decide +kernel
theorem dX7_room_15 : decode cX7_room 15 = .ok (.invokevirtual 170, 3) := by decide +kernel
theorem dX7_room_18 : decode cX7_room 18 = .ok (.istore_n 2, 1) := by decide +kernel
theorem dX7_room_19 : decode cX7_room 19 = .ok (.iload_n 1, 1) := by decide +kernel
theorem dX7_room_20 : decode cX7_room 20 = .ok (.ifCond .ne 7, 3) := by decide +kernel
theorem dX7_room_23 : decode cX7_room 23 = .ok (.iload_n 2, 1) := by decide +kernel
theorem dX7_room_24 : decode cX7_room 24 = .ok (.goto 11, 3) := by decide +kernel
theorem dX7_room_27 : decode cX7_room 27 = .ok (.aload_n 0, 1) := by decide +kernel
theorem dX7_room_28 : decode cX7_room 28 = .ok (.getfield 35, 3) := by decide +kernel
theorem dX7_room_31 : decode cX7_room 31 = .ok (.iload_n 2, 1) := by decide +kernel
theorem dX7_room_32 : decode cX7_room 32 = .ok (.invokevirtual 173, 3) := by decide +kernel
theorem dX7_room_35 : decode cX7_room 35 = .ok (.ireturn, 1) := by decide +kernel
theorem dX7_meter_0 : decode cX7_meter 0 = .ok (.iload_n 1, 1) := by decide +kernel
theorem dX7_meter_1 : decode cX7_meter 1 = .ok (.iconst 1, 1) := by decide +kernel
theorem dX7_meter_2 : decode cX7_meter 2 = .ok (.if_icmp .eq 10, 3) := by decide +kernel
theorem dX7_meter_5 : decode cX7_meter 5 = .ok (.iload_n 1, 1) := by decide +kernel
theorem dX7_meter_6 : decode cX7_meter 6 = .ok (.iconst (-1), 1) := by decide +kernel
theorem dX7_meter_7 : decode cX7_meter 7 = .ok (.if_icmp .eq 5, 3) := by decide +kernel
theorem dX7_meter_10 : decode cX7_meter 10 = .ok (.iconst (-1), 1) := by decide +kernel
theorem dX7_meter_11 : decode cX7_meter 11 = .ok (.ireturn, 1) := by decide +kernel
theorem dX7_meter_12 : decode cX7_meter 12 = .ok (.aload_n 0, 1) := by decide +kernel
theorem dX7_meter_13 : decode cX7_meter 13 = .ok (.getfield 42, 3) := by decide +kernel
theorem dX7_meter_16 : decode cX7_meter 16 = .ok (.invokevirtual 176, 3) := by decide +kernel
theorem dX7_meter_19 : decode cX7_meter 19 = .ok (.ifCond .eq 8, 3) := by decide +kernel
theorem dX7_meter_22 : decode cX7_meter 22 = .ok (.bipush (-3), 2) := by decide +kernel
theorem dX7_meter_24 : decode cX7_meter 24 = .ok (.goto 11, 3) := by decide +kernel
theorem dX7_meter_27 : decode cX7_meter 27 = .ok (.aload_n 0, 1) := by decide +kernel
theorem dX7_meter_28 : decode cX7_meter 28 = .ok (.getfield 42, 3) := by decide +kernel
theorem dX7_meter_31 : decode cX7_meter 31 = .ok (.iload_n 1, 1) := by decide +kernel
theorem dX7_meter_32 : decode cX7_meter 32 = .ok (.invokevirtual 177, 3) := by decide +kernel
theorem dX7_meter_35 : decode cX7_meter 35 = .ok (.ireturn, 1) := by decide +kernel
theorem dX7_read_0 : decode cX7_read 0 = .ok (.aload_n 0, 1) := by decide +kernel
theorem dX7_read_1 : decode cX7_read 1 = .ok (.getfield 42, 3) := by decide +kernel
theorem dX7_read_4 : decode cX7_read 4 = .ok (.iload_n 1, 1) := by decide +kernel
theorem dX7_read_5 : decode cX7_read 5 = .ok (.invokevirtual 179, 3) := by decide +kernel
theorem dX7_read_8 : decode cX7_read 8 = .ok (.ifCond .eq 19, 3) := by decide +kernel
theorem dX7_read_11 : decode cX7_read 11 = .ok (.iload_n 2, 1) := by decide +kernel
theorem dX7_read_12 : decode cX7_read 12 = .ok (.bipush (-9), 2) := by decide +kernel
theorem dX7_read_14 : decode cX7_read 14 = .ok (.if_icmp .eq 15, 3) := by decide +kernel
theorem dX7_read_17 : decode cX7_read 17 = .ok (.iload_n 2, 1) := by decide +kernel
theorem dX7_read_18 : decode cX7_read 18 = .ok (.iconst 0, 1) := by decide +kernel
theorem dX7_read_19 : decode cX7_read 19 = .ok (.ldc 180, 2) := by decide +kernel
theorem dX7_read_21 : decode cX7_read 21 = .ok (.invokestatic 53, 3) := by decide +kernel
theorem dX7_read_24 : decode cX7_read 24 = .ok (.ifCond .ne 5, 3) := by decide +kernel
theorem dX7_read_27 : decode cX7_read 27 = .ok (.iconst (-1), 1) := by decide +kernel
theorem dX7_read_28 : decode cX7_read 28 = .ok (.ireturn, 1) := by decide +kernel
theorem dX7_read_29 : decode cX7_read 29 = .ok (.aload_n 0, 1) := by decide +kernel
theorem dX7_read_30 : decode cX7_read 30 = .ok (.getfield 42, 3) := by decide +kernel
theorem dX7_read_33 : decode cX7_read 33 = .ok (.getfield 181, 3) := by decide +kernel
theorem dX7_read_36 : decode cX7_read 36 = .ok (.iload_n 1, 1) := by decide +kernel
theorem dX7_read_37 : decode cX7_read 37 = .ok (.iload_n 2, 1) := by decide +kernel
theorem dX7_read_38 : decode cX7_read 38 = .ok (.invokestatic 73, 3) := by decide +kernel
theorem dX7_read_41 : decode cX7_read 41 = .ok (.ireturn, 1) := by decide +kernel
theorem dX7_gap_0 : decode cX7_gap 0 = .ok (.iload_n 1, 1) := by decide +kernel
theorem dX7_gap_1 : decode cX7_gap 1 = .ok (.tableswitch 65 0 3 #[31, 39, 48, 57], 31) := by decide +kernel
theorem dX7_gap_32 : decode cX7_gap 32 = .ok (.aload_n 0, 1) := by decide +kernel
theorem dX7_gap_33 : decode cX7_gap 33 = .ok (.getfield 42, 3) := by decide +kernel
theorem dX7_gap_36 : decode cX7_gap 36 = .ok (.invokevirtual 184, 3) := by decide +kernel
theorem dX7_gap_39 : decode cX7_gap 39 = .ok (.lreturn, 1) := by decide +kernel
theorem dX7_gap_40 : decode cX7_gap 40 = .ok (.aload_n 0, 1) := by decide +kernel
theorem dX7_gap_41 : decode cX7_gap 41 = .ok (.getfield 42, 3) := by decide +kernel
theorem dX7_gap_44 : decode cX7_gap 44 = .ok (.invokevirtual 188, 3) := by decide +kernel
theorem dX7_gap_47 : decode cX7_gap 47 = .ok (.i2l, 1) := by decide +kernel
theorem dX7_gap_48 : decode cX7_gap 48 = .ok (.lreturn, 1) := by decide +kernel
theorem dX7_gap_49 : decode cX7_gap 49 = .ok (.aload_n 0, 1) := by decide +kernel
theorem dX7_gap_50 : decode cX7_gap 50 = .ok (.getfield 42, 3) := by decide +kernel
theorem dX7_gap_53 : decode cX7_gap 53 = .ok (.invokevirtual 191, 3) := by decide +kernel
theorem dX7_gap_56 : decode cX7_gap 56 = .ok (.i2l, 1) := by decide +kernel
theorem dX7_gap_57 : decode cX7_gap 57 = .ok (.lreturn, 1) := by decide +kernel
theorem dX7_gap_58 : decode cX7_gap 58 = .ok (.aload_n 0, 1) := by decide +kernel
theorem dX7_gap_59 : decode cX7_gap 59 = .ok (.getfield 42, 3) := by decide +kernel
theorem dX7_gap_62 : decode cX7_gap 62 = .ok (.invokevirtual 194, 3) := by decide +kernel
theorem dX7_gap_65 : decode cX7_gap 65 = .ok (.lreturn, 1) := by decide +kernel
theorem dX7_gap_66 : decode cX7_gap 66 = .ok (.ldc2_w 197, 3) := by decide +kernel
theorem dX7_gap_69 : decode cX7_gap 69 = .ok (.lreturn, 1) := by decide +kernel
theorem dX7_mended_0 : decode cX7_mended 0 = .ok (.aload_n 0, 1) := by decide +kernel
theorem dX7_mended_1 : decode cX7_mended 1 = .ok (.getfield 42, 3) := by decide +kernel
theorem dX7_mended_4 : decode cX7_mended 4 = .ok (.iload_n 1, 1) := by decide +kernel
theorem dX7_mended_5 : decode cX7_mended 5 = .ok (.invokevirtual 179, 3) := by decide +kernel
theorem dX7_mended_8 : decode cX7_mended 8 = .ok (.ifCond .eq 10, 3) := by decide +kernel
theorem dX7_mended_11 : decode cX7_mended 11 = .ok (.iload_n 2, 1) := by decide +kernel
theorem dX7_mended_12 : decode cX7_mended 12 = .ok (.invokestatic 101, 3) := by decide +kernel
theorem dX7_mended_15 : decode cX7_mended 15 = .ok (.ifCond .ne 7, 3) := by decide +kernel
theorem dX7_mended_18 : decode cX7_mended 18 = .ok (.ldc2_w 197, 3) := by decide +kernel
theorem dX7_mended_21 : decode cX7_mended 21 = .ok (.lreturn, 1) := by decide +kernel
theorem dX7_mended_22 : decode cX7_mended 22 = .ok (.aload_n 0, 1) := by decide +kernel
theorem dX7_mended_23 : decode cX7_mended 23 = .ok (.getfield 42, 3) := by decide +kernel
theorem dX7_mended_26 : decode cX7_mended 26 = .ok (.invokevirtual 188, 3) := by decide +kernel
theorem dX7_mended_29 : decode cX7_mended 29 = .ok (.ifCond .le 7, 3) := by decide +kernel
theorem dX7_mended_32 : decode cX7_mended 32 = .ok (.ldc2_w 199, 3) := by decide +kernel
theorem dX7_mended_35 : decode cX7_mended 35 = .ok (.lreturn, 1) := by decide +kernel
theorem dX7_mended_36 : decode cX7_mended 36 = .ok (.aload_n 0, 1) := by decide +kernel
theorem dX7_mended_37 : decode cX7_mended 37 = .ok (.getfield 42, 3) := by decide +kernel
theorem dX7_mended_40 : decode cX7_mended 40 = .ok (.iload_n 1, 1) := by decide +kernel
theorem dX7_mended_41 : decode cX7_mended 41 = .ok (.aload_n 0, 1) := by decide +kernel
theorem dX7_mended_42 : decode cX7_mended 42 = .ok (.getfield 49, 3) := by decide +kernel
theorem dX7_mended_45 : decode cX7_mended 45 = .ok (.invokevirtual 201, 3) := by decide +kernel
theorem dX7_mended_48 : decode cX7_mended 48 = .ok (.aload_n 0, 1) := by decide +kernel
theorem dX7_mended_49 : decode cX7_mended 49 = .ok (.getfield 49, 3) := by decide +kernel
theorem dX7_mended_52 : decode cX7_mended 52 = .ok (.iload_n 2, 1) := by decide +kernel
theorem dX7_mended_53 : decode cX7_mended 53 = .ok (.invokevirtual 110, 3) := by decide +kernel
theorem dX7_mended_56 : decode cX7_mended 56 = .ok (.lreturn, 1) := by decide +kernel
theorem dX7_count_0 : decode cX7_count 0 = .ok (.iload_n 1, 1) := by decide +kernel
theorem dX7_count_1 : decode cX7_count 1 = .ok (.tableswitch 105 0 6 #[43, 51, 59, 67, 75, 85, 95], 43) := by decide +kernel
theorem dX7_count_44 : decode cX7_count 44 = .ok (.aload_n 0, 1) := by decide +kernel
theorem dX7_count_45 : decode cX7_count 45 = .ok (.getfield 10, 3) := by decide +kernel
theorem dX7_count_48 : decode cX7_count 48 = .ok (.getfield 204, 3) := by decide +kernel
theorem dX7_count_51 : decode cX7_count 51 = .ok (.ireturn, 1) := by decide +kernel
theorem dX7_count_52 : decode cX7_count 52 = .ok (.aload_n 0, 1) := by decide +kernel
theorem dX7_count_53 : decode cX7_count 53 = .ok (.getfield 28, 3) := by decide +kernel
theorem dX7_count_56 : decode cX7_count 56 = .ok (.invokevirtual 208, 3) := by decide +kernel
theorem dX7_count_59 : decode cX7_count 59 = .ok (.ireturn, 1) := by decide +kernel
theorem dX7_count_60 : decode cX7_count 60 = .ok (.aload_n 0, 1) := by decide +kernel
theorem dX7_count_61 : decode cX7_count 61 = .ok (.getfield 28, 3) := by decide +kernel
theorem dX7_count_64 : decode cX7_count 64 = .ok (.invokevirtual 211, 3) := by decide +kernel
theorem dX7_count_67 : decode cX7_count 67 = .ok (.ireturn, 1) := by decide +kernel
theorem dX7_count_68 : decode cX7_count 68 = .ok (.aload_n 0, 1) := by decide +kernel
theorem dX7_count_69 : decode cX7_count 69 = .ok (.getfield 42, 3) := by decide +kernel
theorem dX7_count_72 : decode cX7_count 72 = .ok (.getfield 214, 3) := by decide +kernel
theorem dX7_count_75 : decode cX7_count 75 = .ok (.ireturn, 1) := by decide +kernel
theorem dX7_count_76 : decode cX7_count 76 = .ok (.aload_n 0, 1) := by decide +kernel
theorem dX7_count_77 : decode cX7_count 77 = .ok (.getfield 21, 3) := by decide +kernel
theorem dX7_count_80 : decode cX7_count 80 = .ok (.getfield 86, 3) := by decide +kernel
theorem dX7_count_83 : decode cX7_count 83 = .ok (.iconst 0, 1) := by decide +kernel
theorem dX7_count_84 : decode cX7_count 84 = .ok (.iaload, 1) := by decide +kernel
theorem dX7_count_85 : decode cX7_count 85 = .ok (.ireturn, 1) := by decide +kernel
theorem dX7_count_86 : decode cX7_count 86 = .ok (.aload_n 0, 1) := by decide +kernel
theorem dX7_count_87 : decode cX7_count 87 = .ok (.getfield 21, 3) := by decide +kernel
theorem dX7_count_90 : decode cX7_count 90 = .ok (.getfield 86, 3) := by decide +kernel
theorem dX7_count_93 : decode cX7_count 93 = .ok (.iconst 1, 1) := by decide +kernel
theorem dX7_count_94 : decode cX7_count 94 = .ok (.iaload, 1) := by decide +kernel
theorem dX7_count_95 : decode cX7_count 95 = .ok (.ireturn, 1) := by decide +kernel
theorem dX7_count_96 : decode cX7_count 96 = .ok (.aload_n 0, 1) := by decide +kernel
theorem dX7_count_97 : decode cX7_count 97 = .ok (.getfield 21, 3) := by decide +kernel
theorem dX7_count_100 : decode cX7_count 100 = .ok (.getfield 86, 3) := by decide +kernel
theorem dX7_count_103 : decode cX7_count 103 = .ok (.iconst 2, 1) := by decide +kernel
theorem dX7_count_104 : decode cX7_count 104 = .ok (.iaload, 1) := by decide +kernel
theorem dX7_count_105 : decode cX7_count 105 = .ok (.ireturn, 1) := by decide +kernel
theorem dX7_count_106 : decode cX7_count 106 = .ok (.iconst (-1), 1) := by decide +kernel
theorem dX7_count_107 : decode cX7_count 107 = .ok (.ireturn, 1) := by decide +kernel
theorem dX7_trace_0 : decode cX7_trace 0 = .ok (.aload_n 0, 1) := by decide +kernel
theorem dX7_trace_1 : decode cX7_trace 1 = .ok (.getfield 89, 3) := by decide +kernel
theorem dX7_trace_4 : decode cX7_trace 4 = .ok (.lreturn, 1) := by decide +kernel
theorem dX7_within_0 : decode cX7_within 0 = .ok (.iload_n 0, 1) := by decide +kernel
theorem dX7_within_1 : decode cX7_within 1 = .ok (.iload_n 1, 1) := by decide +kernel
theorem dX7_within_2 : decode cX7_within 2 = .ok (.if_icmp .lt 12, 3) := by decide +kernel
theorem dX7_within_5 : decode cX7_within 5 = .ok (.iload_n 0, 1) := by decide +kernel
theorem dX7_within_6 : decode cX7_within 6 = .ok (.iload_n 2, 1) := by decide +kernel
theorem dX7_within_7 : decode cX7_within 7 = .ok (.if_icmp .gt 7, 3) := by decide +kernel
theorem dX7_within_10 : decode cX7_within 10 = .ok (.iconst 1, 1) := by decide +kernel
theorem dX7_within_11 : decode cX7_within 11 = .ok (.goto 4, 3) := by decide +kernel
theorem dX7_within_14 : decode cX7_within 14 = .ok (.iconst 0, 1) := by decide +kernel
theorem dX7_within_15 : decode cX7_within 15 = .ok (.ireturn, 1) := by decide +kernel
theorem dX7_isPart_0 : decode cX7_isPart 0 = .ok (.iload_n 0, 1) := by decide +kernel
theorem dX7_isPart_1 : decode cX7_isPart 1 = .ok (.iconst 0, 1) := by decide +kernel
theorem dX7_isPart_2 : decode cX7_isPart 2 = .ok (.iconst 1, 1) := by decide +kernel
theorem dX7_isPart_3 : decode cX7_isPart 3 = .ok (.invokestatic 53, 3) := by decide +kernel
theorem dX7_isPart_6 : decode cX7_isPart 6 = .ok (.ireturn, 1) := by decide +kernel
theorem dX7_replace_0 : decode cX7_replace 0 = .ok (.iload_n 1, 1) := by decide +kernel
theorem dX7_replace_1 : decode cX7_replace 1 = .ok (.ifCond .lt 9, 3) := by decide +kernel
theorem dX7_replace_4 : decode cX7_replace 4 = .ok (.iload_n 1, 1) := by decide +kernel
theorem dX7_replace_5 : decode cX7_replace 5 = .ok (.aload_n 0, 1) := by decide +kernel
theorem dX7_replace_6 : decode cX7_replace 6 = .ok (.arraylength, 1) := by decide +kernel
theorem dX7_replace_7 : decode cX7_replace 7 = .ok (.if_icmp .lt 5, 3) := by decide +kernel
theorem dX7_replace_10 : decode cX7_replace 10 = .ok (.iconst (-1), 1) := by decide +kernel
theorem dX7_replace_11 : decode cX7_replace 11 = .ok (.ireturn, 1) := by decide +kernel
theorem dX7_replace_12 : decode cX7_replace 12 = .ok (.aload_n 0, 1) := by decide +kernel
theorem dX7_replace_13 : decode cX7_replace 13 = .ok (.iload_n 1, 1) := by decide +kernel
theorem dX7_replace_14 : decode cX7_replace 14 = .ok (.iaload, 1) := by decide +kernel
theorem dX7_replace_15 : decode cX7_replace 15 = .ok (.istore_n 3, 1) := by decide +kernel
theorem dX7_replace_16 : decode cX7_replace 16 = .ok (.aload_n 0, 1) := by decide +kernel
theorem dX7_replace_17 : decode cX7_replace 17 = .ok (.iload_n 1, 1) := by decide +kernel
theorem dX7_replace_18 : decode cX7_replace 18 = .ok (.iload_n 2, 1) := by decide +kernel
theorem dX7_replace_19 : decode cX7_replace 19 = .ok (.iastore, 1) := by decide +kernel
theorem dX7_replace_20 : decode cX7_replace 20 = .ok (.iload_n 3, 1) := by decide +kernel
theorem dX7_replace_21 : decode cX7_replace 21 = .ok (.ireturn, 1) := by decide +kernel
theorem dJ13_compare_74951_0 : decode cJ13_compare_74951 0 = .ok (.lload_n 0, 1) := by decide +kernel
theorem dJ13_compare_74951_1 : decode cJ13_compare_74951 1 = .ok (.lload_n 2, 1) := by decide +kernel
theorem dJ13_compare_74951_2 : decode cJ13_compare_74951 2 = .ok (.lcmp, 1) := by decide +kernel
theorem dJ13_compare_74951_3 : decode cJ13_compare_74951 3 = .ok (.ifCond .ge 7, 3) := by decide +kernel
theorem dJ13_compare_74951_6 : decode cJ13_compare_74951 6 = .ok (.iconst (-1), 1) := by decide +kernel
theorem dJ13_compare_74951_7 : decode cJ13_compare_74951 7 = .ok (.goto 14, 3) := by decide +kernel
theorem dJ13_compare_74951_10 : decode cJ13_compare_74951 10 = .ok (.lload_n 0, 1) := by decide +kernel
theorem dJ13_compare_74951_11 : decode cJ13_compare_74951 11 = .ok (.lload_n 2, 1) := by decide +kernel
theorem dJ13_compare_74951_12 : decode cJ13_compare_74951 12 = .ok (.lcmp, 1) := by decide +kernel
theorem dJ13_compare_74951_13 : decode cJ13_compare_74951 13 = .ok (.ifCond .ne 7, 3) := by decide +kernel
theorem dJ13_compare_74951_16 : decode cJ13_compare_74951 16 = .ok (.iconst 0, 1) := by decide +kernel
theorem dJ13_compare_74951_17 : decode cJ13_compare_74951 17 = .ok (.goto 4, 3) := by decide +kernel
theorem dJ13_compare_74951_20 : decode cJ13_compare_74951 20 = .ok (.iconst 1, 1) := by decide +kernel
theorem dJ13_compare_74951_21 : decode cJ13_compare_74951 21 = .ok (.ireturn, 1) := by decide +kernel
theorem dJ9_abs_067f4_0 : decode cJ9_abs_067f4 0 = .ok (.lload_n 0, 1) := by decide +kernel
theorem dJ9_abs_067f4_1 : decode cJ9_abs_067f4 1 = .ok (.lconst 0, 1) := by decide +kernel
theorem dJ9_abs_067f4_2 : decode cJ9_abs_067f4 2 = .ok (.lcmp, 1) := by decide +kernel
theorem dJ9_abs_067f4_3 : decode cJ9_abs_067f4 3 = .ok (.ifCond .ge 8, 3) := by decide +kernel
theorem dJ9_abs_067f4_6 : decode cJ9_abs_067f4 6 = .ok (.lload_n 0, 1) := by decide +kernel
theorem dJ9_abs_067f4_7 : decode cJ9_abs_067f4 7 = .ok (.lneg, 1) := by decide +kernel
theorem dJ9_abs_067f4_8 : decode cJ9_abs_067f4 8 = .ok (.goto 4, 3) := by decide +kernel
theorem dJ9_abs_067f4_11 : decode cJ9_abs_067f4 11 = .ok (.lload_n 0, 1) := by decide +kernel
theorem dJ9_abs_067f4_12 : decode cJ9_abs_067f4 12 = .ok (.lreturn, 1) := by decide +kernel
theorem dJ9_max_7cf53_0 : decode cJ9_max_7cf53 0 = .ok (.iload_n 0, 1) := by decide +kernel
theorem dJ9_max_7cf53_1 : decode cJ9_max_7cf53 1 = .ok (.iload_n 1, 1) := by decide +kernel
theorem dJ9_max_7cf53_2 : decode cJ9_max_7cf53 2 = .ok (.if_icmp .lt 7, 3) := by decide +kernel
theorem dJ9_max_7cf53_5 : decode cJ9_max_7cf53 5 = .ok (.iload_n 0, 1) := by decide +kernel
theorem dJ9_max_7cf53_6 : decode cJ9_max_7cf53 6 = .ok (.goto 4, 3) := by decide +kernel
theorem dJ9_max_7cf53_9 : decode cJ9_max_7cf53 9 = .ok (.iload_n 1, 1) := by decide +kernel
theorem dJ9_max_7cf53_10 : decode cJ9_max_7cf53 10 = .ok (.ireturn, 1) := by decide +kernel
theorem dJ9_max_f86c9_0 : decode cJ9_max_f86c9 0 = .ok (.lload_n 0, 1) := by decide +kernel
theorem dJ9_max_f86c9_1 : decode cJ9_max_f86c9 1 = .ok (.lload_n 2, 1) := by decide +kernel
theorem dJ9_max_f86c9_2 : decode cJ9_max_f86c9 2 = .ok (.lcmp, 1) := by decide +kernel
theorem dJ9_max_f86c9_3 : decode cJ9_max_f86c9 3 = .ok (.ifCond .lt 7, 3) := by decide +kernel
theorem dJ9_max_f86c9_6 : decode cJ9_max_f86c9 6 = .ok (.lload_n 0, 1) := by decide +kernel
theorem dJ9_max_f86c9_7 : decode cJ9_max_f86c9 7 = .ok (.goto 4, 3) := by decide +kernel
theorem dJ9_max_f86c9_10 : decode cJ9_max_f86c9 10 = .ok (.lload_n 2, 1) := by decide +kernel
theorem dJ9_max_f86c9_11 : decode cJ9_max_f86c9 11 = .ok (.lreturn, 1) := by decide +kernel
theorem dJ9_min_7cf53_0 : decode cJ9_min_7cf53 0 = .ok (.iload_n 0, 1) := by decide +kernel
theorem dJ9_min_7cf53_1 : decode cJ9_min_7cf53 1 = .ok (.iload_n 1, 1) := by decide +kernel
theorem dJ9_min_7cf53_2 : decode cJ9_min_7cf53 2 = .ok (.if_icmp .gt 7, 3) := by decide +kernel
theorem dJ9_min_7cf53_5 : decode cJ9_min_7cf53 5 = .ok (.iload_n 0, 1) := by decide +kernel
theorem dJ9_min_7cf53_6 : decode cJ9_min_7cf53 6 = .ok (.goto 4, 3) := by decide +kernel
theorem dJ9_min_7cf53_9 : decode cJ9_min_7cf53 9 = .ok (.iload_n 1, 1) := by decide +kernel
theorem dJ9_min_7cf53_10 : decode cJ9_min_7cf53 10 = .ok (.ireturn, 1) := by decide +kernel
end
section
theorem dX8_init_0 : decode cX8_init 0 = .ok (.aload_n 0, 1) := by decide +kernel
theorem dX8_init_1 : decode cX8_init 1 = .ok (.invokespecial 1, 3) := by decide +kernel
theorem dX8_init_4 : decode cX8_init 4 = .ok (.aload_n 0, 1) := by decide +kernel
theorem dX8_init_5 : decode cX8_init 5 = .ok (.iconst 5, 1) := by decide +kernel
theorem dX8_init_6 : decode cX8_init 6 = .ok (.newarray .int, 2) := by decide +kernel
theorem dX8_init_8 : decode cX8_init 8 = .ok (.putfield 7, 3) := by decide +kernel
theorem dX8_init_11 : decode cX8_init 11 = .ok (.aload_n 0, 1) := by decide +kernel
theorem dX8_init_12 : decode cX8_init 12 = .ok (.iconst 5, 1) := by decide +kernel
theorem dX8_init_13 : decode cX8_init 13 = .ok (.newarray .int, 2) := by decide +kernel
theorem dX8_init_15 : decode cX8_init 15 = .ok (.putfield 13, 3) := by decide +kernel
theorem dX8_init_18 : decode cX8_init 18 = .ok (.aload_n 0, 1) := by decide +kernel
theorem dX8_init_19 : decode cX8_init 19 = .ok (.iconst 5, 1) := by decide +kernel
theorem dX8_init_20 : decode cX8_init 20 = .ok (.newarray .int, 2) := by decide +kernel
theorem dX8_init_22 : decode cX8_init 22 = .ok (.putfield 16, 3) := by decide +kernel
theorem dX8_init_25 : decode cX8_init 25 = .ok (.aload_n 0, 1) := by decide +kernel
theorem dX8_init_26 : decode cX8_init 26 = .ok (.iconst 5, 1) := by decide +kernel
theorem dX8_init_27 : decode cX8_init 27 = .ok (.newarray .int, 2) := by decide +kernel
theorem dX8_init_29 : decode cX8_init 29 = .ok (.putfield 19, 3) := by decide +kernel
theorem dX8_init_32 : decode cX8_init 32 = .ok (.aload_n 0, 1) := by decide +kernel
theorem dX8_init_33 : decode cX8_init 33 = .ok (.iconst 3, 1) := by decide +kernel
theorem dX8_init_34 : decode cX8_init 34 = .ok (.newarray .int, 2) := by decide +kernel
theorem dX8_init_36 : decode cX8_init 36 = .ok (.putfield 22, 3) := by decide +kernel
theorem dX8_init_39 : decode cX8_init 39 = .ok (.aload_n 0, 1) := by decide +kernel
theorem dX8_init_40 : decode cX8_init 40 = .ok (.iconst 5, 1) := by decide +kernel
theorem dX8_init_41 : decode cX8_init 41 = .ok (.newarray .int, 2) := by decide +kernel
theorem dX8_init_43 : decode cX8_init 43 = .ok (.putfield 25, 3) := by decide +kernel
theorem dX8_init_46 : decode cX8_init 46 = .ok (.aload_n 0, 1) := by decide +kernel
theorem dX8_init_47 : decode cX8_init 47 = .ok (.bipush 25, 2) := by decide +kernel
theorem dX8_init_49 : decode cX8_init 49 = .ok (.newarray .int, 2) := by decide +kernel
theorem dX8_init_51 : decode cX8_init 51 = .ok (.putfield 28, 3) := by decide +kernel
theorem dX8_init_54 : decode cX8_init 54 = .ok (.aload_n 0, 1) := by decide +kernel
theorem dX8_init_55 : decode cX8_init 55 = .ok (.iconst 5, 1) := by decide +kernel
theorem dX8_init_56 : decode cX8_init 56 = .ok (.newarray .long, 2) := by decide +kernel
theorem dX8_init_58 : decode cX8_init 58 = .ok (.putfield 31, 3) := by decide +kernel
theorem dX8_init_61 : decode cX8_init 61 = .ok (.aload_n 0, 1) := by decide +kernel
theorem dX8_init_62 : decode cX8_init 62 = .ok (.iconst 5, 1) := by decide +kernel
theorem dX8_init_63 : decode cX8_init 63 = .ok (.newarray .long, 2) := by decide +kernel
theorem dX8_init_65 : decode cX8_init 65 = .ok (.putfield 35, 3) := by decide +kernel
theorem dX8_init_68 : decode cX8_init 68 = .ok (.aload_n 0, 1) := by decide +kernel
theorem dX8_init_69 : decode cX8_init 69 = .ok (.iconst 5, 1) := by decide +kernel
theorem dX8_init_70 : decode cX8_init 70 = .ok (.newarray .long, 2) := by decide +kernel
theorem dX8_init_72 : decode cX8_init 72 = .ok (.putfield 38, 3) := by decide +kernel
theorem dX8_init_75 : decode cX8_init 75 = .ok (.aload_n 0, 1) := by decide +kernel
theorem dX8_init_76 : decode cX8_init 76 = .ok (.iconst 5, 1) := by decide +kernel
theorem dX8_init_77 : decode cX8_init 77 = .ok (.newarray .long, 2) := by decide +kernel
theorem dX8_init_79 : decode cX8_init 79 = .ok (.putfield 41, 3) := by decide +kernel
theorem dX8_init_82 : decode cX8_init 82 = .ok (.aload_n 0, 1) := by decide +kernel
theorem dX8_init_83 : decode cX8_init 83 = .ok (.iconst 5, 1) := by decide +kernel
theorem dX8_init_84 : decode cX8_init 84 = .ok (.newarray .boolean, 2) := by decide +kernel
theorem dX8_init_86 : decode cX8_init 86 = .ok (.putfield 44, 3) := by decide +kernel
theorem dX8_init_89 : decode cX8_init 89 = .ok (.aload_n 0, 1) := by decide +kernel
theorem dX8_init_90 : decode cX8_init 90 = .ok (.iconst 5, 1) := by decide +kernel
theorem dX8_init_91 : decode cX8_init 91 = .ok (.newarray .int, 2) := by decide +kernel
theorem dX8_init_93 : decode cX8_init 93 = .ok (.putfield 48, 3) := by decide +kernel
theorem dX8_init_96 : decode cX8_init 96 = .ok (.aload_n 0, 1) := by decide +kernel
theorem dX8_init_97 : decode cX8_init 97 = .ok (.bipush 48, 2) := by decide +kernel
theorem dX8_init_99 : decode cX8_init 99 = .ok (.newarray .int, 2) := by decide +kernel
theorem dX8_init_101 : decode cX8_init 101 = .ok (.putfield 51, 3) := by decide +kernel
theorem dX8_init_104 : decode cX8_init 104 = .ok (.aload_n 0, 1) := by decide +kernel
theorem dX8_init_105 : decode cX8_init 105 = .ok (.bipush 8, 2) := by decide +kernel
theorem dX8_init_107 : decode cX8_init 107 = .ok (.newarray .int, 2) := by decide +kernel
theorem dX8_init_109 : decode cX8_init 109 = .ok (.putfield 54, 3) := by decide +kernel
theorem dX8_init_112 : decode cX8_init 112 = .ok (.aload_n 0, 1) := by decide +kernel
theorem dX8_init_113 : decode cX8_init 113 = .ok (.bipush 8, 2) := by decide +kernel
theorem dX8_init_115 : decode cX8_init 115 = .ok (.newarray .int, 2) := by decide +kernel
theorem dX8_init_117 : decode cX8_init 117 = .ok (.putfield 57, 3) := by decide +kernel
theorem dX8_init_120 : decode cX8_init 120 = .ok (.aload_n 0, 1) := by decide +kernel
theorem dX8_init_121 : decode cX8_init 121 = .ok (.getfield 22, 3) := by decide +kernel
theorem dX8_init_124 : decode cX8_init 124 = .ok (.iconst 0, 1) := by decide +kernel
theorem dX8_init_125 : decode cX8_init 125 = .ok (.bipush 10, 2) := by decide +kernel
theorem dX8_init_127 : decode cX8_init 127 = .ok (.iastore, 1) := by decide +kernel
theorem dX8_init_128 : decode cX8_init 128 = .ok (.return_, 1) := by decide +kernel
theorem dX8_in_0 : decode cX8_in 0 = .ok (.lload_n 0, 1) := by decide +kernel
theorem dX8_in_1 : decode cX8_in 1 = .ok (.lload_n 2, 1) := by decide +kernel
theorem dX8_in_2 : decode cX8_in 2 = .ok (.lcmp, 1) := by decide +kernel
theorem dX8_in_3 : decode cX8_in 3 = .ok (.ifCond .lt 14, 3) := by decide +kernel
theorem dX8_in_6 : decode cX8_in 6 = .ok (.lload_n 0, 1) := by decide +kernel
theorem dX8_in_7 : decode cX8_in 7 = .ok (.lload 4, 2) := by decide +kernel
theorem dX8_in_9 : decode cX8_in 9 = .ok (.lcmp, 1) := by decide +kernel
theorem dX8_in_10 : decode cX8_in 10 = .ok (.ifCond .gt 7, 3) := by decide +kernel
theorem dX8_in_13 : decode cX8_in 13 = .ok (.iconst 1, 1) := by decide +kernel
theorem dX8_in_14 : decode cX8_in 14 = .ok (.goto 4, 3) := by decide +kernel
theorem dX8_in_17 : decode cX8_in 17 = .ok (.iconst 0, 1) := by decide +kernel
theorem dX8_in_18 : decode cX8_in 18 = .ok (.ireturn, 1) := by decide +kernel
theorem dX8_common_0 : decode cX8_common 0 = .ok (.lload_n 0, 1) := by decide +kernel
theorem dX8_common_1 : decode cX8_common 1 = .ok (.lconst 0, 1) := by decide +kernel
theorem dX8_common_2 : decode cX8_common 2 = .ok (.lcmp, 1) := by decide +kernel
theorem dX8_common_3 : decode cX8_common 3 = .ok (.ifCond .ge 8, 3) := by decide +kernel
theorem dX8_common_6 : decode cX8_common 6 = .ok (.lload_n 0, 1) := by decide +kernel
theorem dX8_common_7 : decode cX8_common 7 = .ok (.lneg, 1) := by decide +kernel
theorem dX8_common_8 : decode cX8_common 8 = .ok (.goto 4, 3) := by decide +kernel
theorem dX8_common_11 : decode cX8_common 11 = .ok (.lload_n 0, 1) := by decide +kernel
theorem dX8_common_12 : decode cX8_common 12 = .ok (.lstore 4, 2) := by decide +kernel
theorem dX8_common_14 : decode cX8_common 14 = .ok (.lload_n 2, 1) := by decide +kernel
theorem dX8_common_15 : decode cX8_common 15 = .ok (.lstore 6, 2) := by decide +kernel
theorem dX8_common_17 : decode cX8_common 17 = .ok (.lload 6, 2) := by decide +kernel
theorem dX8_common_19 : decode cX8_common 19 = .ok (.lconst 0, 1) := by decide +kernel
theorem dX8_common_20 : decode cX8_common 20 = .ok (.lcmp, 1) := by decide +kernel
theorem dX8_common_21 : decode cX8_common 21 = .ok (.ifCond .eq 21, 3) := by decide +kernel
theorem dX8_common_24 : decode cX8_common 24 = .ok (.lload 4, 2) := by decide +kernel
theorem dX8_common_26 : decode cX8_common 26 = .ok (.lload 6, 2) := by decide +kernel
theorem dX8_common_28 : decode cX8_common 28 = .ok (.lrem, 1) := by decide +kernel
theorem dX8_common_29 : decode cX8_common 29 = .ok (.lstore 8, 2) := by decide +kernel
theorem dX8_common_31 : decode cX8_common 31 = .ok (.lload 6, 2) := by decide +kernel
theorem dX8_common_33 : decode cX8_common 33 = .ok (.lstore 4, 2) := by decide +kernel
theorem dX8_common_35 : decode cX8_common 35 = .ok (.lload 8, 2) := by decide +kernel
theorem dX8_common_37 : decode cX8_common 37 = .ok (.lstore 6, 2) := by decide +kernel
theorem dX8_common_39 : decode cX8_common 39 = .ok (.goto (-22), 3) := by decide +kernel
theorem dX8_common_42 : decode cX8_common 42 = .ok (.lload 4, 2) := by decide +kernel
theorem dX8_common_44 : decode cX8_common 44 = .ok (.lreturn, 1) := by decide +kernel
theorem dX8_isStep_0 : decode cX8_isStep 0 = .ok (.iload_n 1, 1) := by decide +kernel
theorem dX8_isStep_1 : decode cX8_isStep 1 = .ok (.i2l, 1) := by decide +kernel
theorem dX8_isStep_2 : decode cX8_isStep 2 = .ok (.lconst 0, 1) := by decide +kernel
theorem dX8_isStep_3 : decode cX8_isStep 3 = .ok (.aload_n 0, 1) := by decide +kernel
theorem dX8_isStep_4 : decode cX8_isStep 4 = .ok (.getfield 64, 3) := by decide +kernel
theorem dX8_isStep_7 : decode cX8_isStep 7 = .ok (.iconst 1, 1) := by decide +kernel
theorem dX8_isStep_8 : decode cX8_isStep 8 = .ok (.isub, 1) := by decide +kernel
theorem dX8_isStep_9 : decode cX8_isStep 9 = .ok (.i2l, 1) := by decide +kernel
theorem dX8_isStep_10 : decode cX8_isStep 10 = .ok (.invokestatic 67, 3) := by decide +kernel
theorem dX8_isStep_13 : decode cX8_isStep 13 = .ok (.ireturn, 1) := by decide +kernel
theorem dX8_step_0 : decode cX8_step 0 = .ok (.aload_n 0, 1) := by decide +kernel
theorem dX8_step_1 : decode cX8_step 1 = .ok (.iconst 0, 1) := by decide +kernel
theorem dX8_step_2 : decode cX8_step 2 = .ok (.putfield 60, 3) := by decide +kernel
theorem dX8_step_5 : decode cX8_step 5 = .ok (.iload_n 1, 1) := by decide +kernel
theorem dX8_step_6 : decode cX8_step 6 = .ok (.i2l, 1) := by decide +kernel
theorem dX8_step_7 : decode cX8_step 7 = .ok (.lconst 1, 1) := by decide +kernel
theorem dX8_step_8 : decode cX8_step 8 = .ok (.ldc2_w 70, 3) := by decide +kernel
theorem dX8_step_11 : decode cX8_step 11 = .ok (.invokestatic 67, 3) := by decide +kernel
theorem dX8_step_14 : decode cX8_step 14 = .ok (.ifCond .eq 30, 3) := by decide +kernel
theorem dX8_step_17 : decode cX8_step 17 = .ok (.iload_n 2, 1) := by decide +kernel
theorem dX8_step_18 : decode cX8_step 18 = .ok (.i2l, 1) := by decide +kernel
theorem dX8_step_19 : decode cX8_step 19 = .ok (.lconst 0, 1) := by decide +kernel
theorem dX8_step_20 : decode cX8_step 20 = .ok (.ldc2_w 72, 3) := by decide +kernel
theorem dX8_step_23 : decode cX8_step 23 = .ok (.invokestatic 67, 3) := by decide +kernel
theorem dX8_step_26 : decode cX8_step 26 = .ok (.ifCond .eq 18, 3) := by decide +kernel
theorem dX8_step_29 : decode cX8_step 29 = .ok (.iload_n 3, 1) := by decide +kernel
theorem dX8_step_30 : decode cX8_step 30 = .ok (.i2l, 1) := by decide +kernel
theorem dX8_step_31 : decode cX8_step 31 = .ok (.iload_n 2, 1) := by decide +kernel
theorem dX8_step_32 : decode cX8_step 32 = .ok (.iconst 1, 1) := by decide +kernel
theorem dX8_step_33 : decode cX8_step 33 = .ok (.iadd, 1) := by decide +kernel
theorem dX8_step_34 : decode cX8_step 34 = .ok (.i2l, 1) := by decide +kernel
theorem dX8_step_35 : decode cX8_step 35 = .ok (.ldc2_w 74, 3) := by decide +kernel
theorem dX8_step_38 : decode cX8_step 38 = .ok (.invokestatic 67, 3) := by decide +kernel
theorem dX8_step_41 : decode cX8_step 41 = .ok (.ifCond .ne 5, 3) := by decide +kernel
theorem dX8_step_44 : decode cX8_step 44 = .ok (.iconst (-1), 1) := by decide +kernel
theorem dX8_step_45 : decode cX8_step 45 = .ok (.ireturn, 1) := by decide +kernel
theorem dX8_step_46 : decode cX8_step 46 = .ok (.aload_n 0, 1) := by decide +kernel
theorem dX8_step_47 : decode cX8_step 47 = .ok (.getfield 64, 3) := by decide +kernel
theorem dX8_step_50 : decode cX8_step 50 = .ok (.iconst 5, 1) := by decide +kernel
theorem dX8_step_51 : decode cX8_step 51 = .ok (.if_icmp .ne 6, 3) := by decide +kernel
theorem dX8_step_54 : decode cX8_step 54 = .ok (.bipush (-3), 2) := by decide +kernel
theorem dX8_step_56 : decode cX8_step 56 = .ok (.ireturn, 1) := by decide +kernel
theorem dX8_step_57 : decode cX8_step 57 = .ok (.aload_n 0, 1) := by decide +kernel
theorem dX8_step_58 : decode cX8_step 58 = .ok (.getfield 7, 3) := by decide +kernel
theorem dX8_step_61 : decode cX8_step 61 = .ok (.aload_n 0, 1) := by decide +kernel
theorem dX8_step_62 : decode cX8_step 62 = .ok (.getfield 64, 3) := by decide +kernel
theorem dX8_step_65 : decode cX8_step 65 = .ok (.iload_n 1, 1) := by decide +kernel
theorem dX8_step_66 : decode cX8_step 66 = .ok (.iastore, 1) := by decide +kernel
theorem dX8_step_67 : decode cX8_step 67 = .ok (.aload_n 0, 1) := by decide +kernel
theorem dX8_step_68 : decode cX8_step 68 = .ok (.getfield 13, 3) := by decide +kernel
theorem dX8_step_71 : decode cX8_step 71 = .ok (.aload_n 0, 1) := by decide +kernel
theorem dX8_step_72 : decode cX8_step 72 = .ok (.getfield 64, 3) := by decide +kernel
theorem dX8_step_75 : decode cX8_step 75 = .ok (.iload_n 2, 1) := by decide +kernel
theorem dX8_step_76 : decode cX8_step 76 = .ok (.iastore, 1) := by decide +kernel
theorem dX8_step_77 : decode cX8_step 77 = .ok (.aload_n 0, 1) := by decide +kernel
theorem dX8_step_78 : decode cX8_step 78 = .ok (.getfield 16, 3) := by decide +kernel
theorem dX8_step_81 : decode cX8_step 81 = .ok (.aload_n 0, 1) := by decide +kernel
theorem dX8_step_82 : decode cX8_step 82 = .ok (.getfield 64, 3) := by decide +kernel
theorem dX8_step_85 : decode cX8_step 85 = .ok (.iload_n 3, 1) := by decide +kernel
theorem dX8_step_86 : decode cX8_step 86 = .ok (.iastore, 1) := by decide +kernel
theorem dX8_step_87 : decode cX8_step 87 = .ok (.aload_n 0, 1) := by decide +kernel
theorem dX8_step_88 : decode cX8_step 88 = .ok (.getfield 19, 3) := by decide +kernel
theorem dX8_step_91 : decode cX8_step 91 = .ok (.aload_n 0, 1) := by decide +kernel
theorem dX8_step_92 : decode cX8_step 92 = .ok (.getfield 64, 3) := by decide +kernel
theorem dX8_step_95 : decode cX8_step 95 = .ok (.iconst 1, 1) := by decide +kernel
theorem dX8_step_96 : decode cX8_step 96 = .ok (.iastore, 1) := by decide +kernel
theorem dX8_step_97 : decode cX8_step 97 = .ok (.aload_n 0, 1) := by decide +kernel
theorem dX8_step_98 : decode cX8_step 98 = .ok (.dup, 1) := by decide +kernel
theorem dX8_step_99 : decode cX8_step 99 = .ok (.getfield 64, 3) := by decide +kernel
theorem dX8_step_102 : decode cX8_step 102 = .ok (.iconst 1, 1) := by decide +kernel
theorem dX8_step_103 : decode cX8_step 103 = .ok (.iadd, 1) := by decide +kernel
theorem dX8_step_104 : decode cX8_step 104 = .ok (.putfield 64, 3) := by decide +kernel
theorem dX8_step_107 : decode cX8_step 107 = .ok (.aload_n 0, 1) := by decide +kernel
theorem dX8_step_108 : decode cX8_step 108 = .ok (.getfield 64, 3) := by decide +kernel
theorem dX8_step_111 : decode cX8_step 111 = .ok (.iconst 1, 1) := by decide +kernel
theorem dX8_step_112 : decode cX8_step 112 = .ok (.isub, 1) := by decide +kernel
theorem dX8_step_113 : decode cX8_step 113 = .ok (.ireturn, 1) := by decide +kernel
theorem dX8_change_0 : decode cX8_change 0 = .ok (.aload_n 0, 1) := by decide +kernel
theorem dX8_change_1 : decode cX8_change 1 = .ok (.iconst 0, 1) := by decide +kernel
theorem dX8_change_2 : decode cX8_change 2 = .ok (.putfield 60, 3) := by decide +kernel
theorem dX8_change_5 : decode cX8_change 5 = .ok (.aload_n 0, 1) := by decide +kernel
theorem dX8_change_6 : decode cX8_change 6 = .ok (.iload_n 1, 1) := by decide +kernel
theorem dX8_change_7 : decode cX8_change 7 = .ok (.invokevirtual 76, 3) := by decide +kernel
theorem dX8_change_10 : decode cX8_change 10 = .ok (.ifCond .eq 43, 3) := by decide +kernel
theorem dX8_change_13 : decode cX8_change 13 = .ok (.iload_n 2, 1) := by decide +kernel
theorem dX8_change_14 : decode cX8_change 14 = .ok (.i2l, 1) := by decide +kernel
theorem dX8_change_15 : decode cX8_change 15 = .ok (.lconst 0, 1) := by decide +kernel
theorem dX8_change_16 : decode cX8_change 16 = .ok (.lconst 1, 1) := by decide +kernel
theorem dX8_change_17 : decode cX8_change 17 = .ok (.invokestatic 67, 3) := by decide +kernel
theorem dX8_change_20 : decode cX8_change 20 = .ok (.ifCond .eq 33, 3) := by decide +kernel
theorem dX8_change_23 : decode cX8_change 23 = .ok (.iload_n 3, 1) := by decide +kernel
theorem dX8_change_24 : decode cX8_change 24 = .ok (.i2l, 1) := by decide +kernel
theorem dX8_change_25 : decode cX8_change 25 = .ok (.iload_n 2, 1) := by decide +kernel
theorem dX8_change_26 : decode cX8_change 26 = .ok (.ifCond .ne 7, 3) := by decide +kernel
theorem dX8_change_29 : decode cX8_change 29 = .ok (.lconst 1, 1) := by decide +kernel
theorem dX8_change_30 : decode cX8_change 30 = .ok (.goto 4, 3) := by decide +kernel
theorem dX8_change_33 : decode cX8_change 33 = .ok (.lconst 0, 1) := by decide +kernel
theorem dX8_change_34 : decode cX8_change 34 = .ok (.iload_n 2, 1) := by decide +kernel
theorem dX8_change_35 : decode cX8_change 35 = .ok (.ifCond .ne 9, 3) := by decide +kernel
theorem dX8_change_38 : decode cX8_change 38 = .ok (.ldc2_w 70, 3) := by decide +kernel
theorem dX8_change_41 : decode cX8_change 41 = .ok (.goto 6, 3) := by decide +kernel
theorem dX8_change_44 : decode cX8_change 44 = .ok (.ldc2_w 80, 3) := by decide +kernel
theorem dX8_change_47 : decode cX8_change 47 = .ok (.invokestatic 67, 3) := by decide +kernel
theorem dX8_change_50 : decode cX8_change 50 = .ok (.ifCond .ne 5, 3) := by decide +kernel
theorem dX8_change_53 : decode cX8_change 53 = .ok (.iconst (-1), 1) := by decide +kernel
theorem dX8_change_54 : decode cX8_change 54 = .ok (.ireturn, 1) := by decide +kernel
theorem dX8_change_55 : decode cX8_change 55 = .ok (.iload_n 2, 1) := by decide +kernel
theorem dX8_change_56 : decode cX8_change 56 = .ok (.ifCond .ne 12, 3) := by decide +kernel
theorem dX8_change_59 : decode cX8_change 59 = .ok (.aload_n 0, 1) := by decide +kernel
theorem dX8_change_60 : decode cX8_change 60 = .ok (.getfield 7, 3) := by decide +kernel
theorem dX8_change_63 : decode cX8_change 63 = .ok (.iload_n 1, 1) := by decide +kernel
theorem dX8_change_64 : decode cX8_change 64 = .ok (.iaload, 1) := by decide +kernel
theorem dX8_change_65 : decode cX8_change 65 = .ok (.goto 9, 3) := by decide +kernel
theorem dX8_change_68 : decode cX8_change 68 = .ok (.aload_n 0, 1) := by decide +kernel
theorem dX8_change_69 : decode cX8_change 69 = .ok (.getfield 19, 3) := by decide +kernel
theorem dX8_change_72 : decode cX8_change 72 = .ok (.iload_n 1, 1) := by decide +kernel
theorem dX8_change_73 : decode cX8_change 73 = .ok (.iaload, 1) := by decide +kernel
theorem dX8_change_74 : decode cX8_change 74 = .ok (.istore 4, 2) := by decide +kernel
theorem dX8_change_76 : decode cX8_change 76 = .ok (.aload_n 0, 1) := by decide +kernel
theorem dX8_change_77 : decode cX8_change 77 = .ok (.getfield 7, 3) := by decide +kernel
theorem dX8_change_80 : decode cX8_change 80 = .ok (.iload_n 1, 1) := by decide +kernel
theorem dX8_change_81 : decode cX8_change 81 = .ok (.iload_n 2, 1) := by decide +kernel
theorem dX8_change_82 : decode cX8_change 82 = .ok (.ifCond .ne 7, 3) := by decide +kernel
theorem dX8_change_85 : decode cX8_change 85 = .ok (.iload_n 3, 1) := by decide +kernel
theorem dX8_change_86 : decode cX8_change 86 = .ok (.goto 9, 3) := by decide +kernel
theorem dX8_change_89 : decode cX8_change 89 = .ok (.aload_n 0, 1) := by decide +kernel
theorem dX8_change_90 : decode cX8_change 90 = .ok (.getfield 7, 3) := by decide +kernel
theorem dX8_change_93 : decode cX8_change 93 = .ok (.iload_n 1, 1) := by decide +kernel
theorem dX8_change_94 : decode cX8_change 94 = .ok (.iaload, 1) := by decide +kernel
theorem dX8_change_95 : decode cX8_change 95 = .ok (.iastore, 1) := by decide +kernel
theorem dX8_change_96 : decode cX8_change 96 = .ok (.aload_n 0, 1) := by decide +kernel
theorem dX8_change_97 : decode cX8_change 97 = .ok (.getfield 19, 3) := by decide +kernel
theorem dX8_change_100 : decode cX8_change 100 = .ok (.iload_n 1, 1) := by decide +kernel
theorem dX8_change_101 : decode cX8_change 101 = .ok (.iload_n 2, 1) := by decide +kernel
theorem dX8_change_102 : decode cX8_change 102 = .ok (.iconst 1, 1) := by decide +kernel
theorem dX8_change_103 : decode cX8_change 103 = .ok (.if_icmp .ne 7, 3) := by decide +kernel
theorem dX8_change_106 : decode cX8_change 106 = .ok (.iload_n 3, 1) := by decide +kernel
theorem dX8_change_107 : decode cX8_change 107 = .ok (.goto 9, 3) := by decide +kernel
theorem dX8_change_110 : decode cX8_change 110 = .ok (.aload_n 0, 1) := by decide +kernel
theorem dX8_change_111 : decode cX8_change 111 = .ok (.getfield 19, 3) := by decide +kernel
theorem dX8_change_114 : decode cX8_change 114 = .ok (.iload_n 1, 1) := by decide +kernel
theorem dX8_change_115 : decode cX8_change 115 = .ok (.iaload, 1) := by decide +kernel
theorem dX8_change_116 : decode cX8_change 116 = .ok (.iastore, 1) := by decide +kernel
theorem dX8_change_117 : decode cX8_change 117 = .ok (.iload 4, 2) := by decide +kernel
theorem dX8_change_119 : decode cX8_change 119 = .ok (.ireturn, 1) := by decide +kernel
theorem dX8_set_0 : decode cX8_set 0 = .ok (.aload_n 0, 1) := by decide +kernel
theorem dX8_set_1 : decode cX8_set 1 = .ok (.iconst 0, 1) := by decide +kernel
theorem dX8_set_2 : decode cX8_set 2 = .ok (.putfield 60, 3) := by decide +kernel
theorem dX8_set_5 : decode cX8_set 5 = .ok (.iload_n 1, 1) := by decide +kernel
theorem dX8_set_6 : decode cX8_set 6 = .ok (.i2l, 1) := by decide +kernel
theorem dX8_set_7 : decode cX8_set 7 = .ok (.lconst 0, 1) := by decide +kernel
theorem dX8_set_8 : decode cX8_set 8 = .ok (.ldc2_w 82, 3) := by decide +kernel
theorem dX8_set_11 : decode cX8_set 11 = .ok (.invokestatic 67, 3) := by decide +kernel
theorem dX8_set_14 : decode cX8_set 14 = .ok (.ifCond .eq 36, 3) := by decide +kernel
theorem dX8_set_17 : decode cX8_set 17 = .ok (.iload_n 2, 1) := by decide +kernel
theorem dX8_set_18 : decode cX8_set 18 = .ok (.i2l, 1) := by decide +kernel
theorem dX8_set_19 : decode cX8_set 19 = .ok (.lconst 0, 1) := by decide +kernel
theorem dX8_set_20 : decode cX8_set 20 = .ok (.iload_n 1, 1) := by decide +kernel
theorem dX8_set_21 : decode cX8_set 21 = .ok (.ifCond .ne 9, 3) := by decide +kernel
theorem dX8_set_24 : decode cX8_set 24 = .ok (.ldc2_w 84, 3) := by decide +kernel
theorem dX8_set_27 : decode cX8_set 27 = .ok (.goto 17, 3) := by decide +kernel
theorem dX8_set_30 : decode cX8_set 30 = .ok (.iload_n 1, 1) := by decide +kernel
theorem dX8_set_31 : decode cX8_set 31 = .ok (.iconst 1, 1) := by decide +kernel
theorem dX8_set_32 : decode cX8_set 32 = .ok (.if_icmp .ne 9, 3) := by decide +kernel
theorem dX8_set_35 : decode cX8_set 35 = .ok (.ldc2_w 86, 3) := by decide +kernel
theorem dX8_set_38 : decode cX8_set 38 = .ok (.goto 6, 3) := by decide +kernel
theorem dX8_set_41 : decode cX8_set 41 = .ok (.ldc2_w 82, 3) := by decide +kernel
theorem dX8_set_44 : decode cX8_set 44 = .ok (.invokestatic 67, 3) := by decide +kernel
theorem dX8_set_47 : decode cX8_set 47 = .ok (.ifCond .ne 5, 3) := by decide +kernel
theorem dX8_set_50 : decode cX8_set 50 = .ok (.iconst (-1), 1) := by decide +kernel
theorem dX8_set_51 : decode cX8_set 51 = .ok (.ireturn, 1) := by decide +kernel
theorem dX8_set_52 : decode cX8_set 52 = .ok (.aload_n 0, 1) := by decide +kernel
theorem dX8_set_53 : decode cX8_set 53 = .ok (.getfield 22, 3) := by decide +kernel
theorem dX8_set_56 : decode cX8_set 56 = .ok (.iload_n 1, 1) := by decide +kernel
theorem dX8_set_57 : decode cX8_set 57 = .ok (.iaload, 1) := by decide +kernel
theorem dX8_set_58 : decode cX8_set 58 = .ok (.istore_n 3, 1) := by decide +kernel
theorem dX8_set_59 : decode cX8_set 59 = .ok (.aload_n 0, 1) := by decide +kernel
theorem dX8_set_60 : decode cX8_set 60 = .ok (.getfield 22, 3) := by decide +kernel
theorem dX8_set_63 : decode cX8_set 63 = .ok (.iload_n 1, 1) := by decide +kernel
theorem dX8_set_64 : decode cX8_set 64 = .ok (.iload_n 2, 1) := by decide +kernel
theorem dX8_set_65 : decode cX8_set 65 = .ok (.iastore, 1) := by decide +kernel
theorem dX8_set_66 : decode cX8_set 66 = .ok (.iload_n 3, 1) := by decide +kernel
theorem dX8_set_67 : decode cX8_set 67 = .ok (.ireturn, 1) := by decide +kernel
theorem dX8_limitOf_0 : decode cX8_limitOf 0 = .ok (.aload_n 0, 1) := by decide +kernel
theorem dX8_limitOf_1 : decode cX8_limitOf 1 = .ok (.getfield 16, 3) := by decide +kernel
theorem dX8_limitOf_4 : decode cX8_limitOf 4 = .ok (.iload_n 2, 1) := by decide +kernel
theorem dX8_limitOf_5 : decode cX8_limitOf 5 = .ok (.iaload, 1) := by decide +kernel
theorem dX8_limitOf_6 : decode cX8_limitOf 6 = .ok (.istore_n 3, 1) := by decide +kernel
theorem dX8_limitOf_7 : decode cX8_limitOf 7 = .ok (.iload_n 1, 1) := by decide +kernel
theorem dX8_limitOf_8 : decode cX8_limitOf 8 = .ok (.ifCond .le 40, 3) := by decide +kernel
theorem dX8_limitOf_11 : decode cX8_limitOf 11 = .ok (.iload_n 3, 1) := by decide +kernel
theorem dX8_limitOf_12 : decode cX8_limitOf 12 = .ok (.aload_n 0, 1) := by decide +kernel
theorem dX8_limitOf_13 : decode cX8_limitOf 13 = .ok (.getfield 22, 3) := by decide +kernel
theorem dX8_limitOf_16 : decode cX8_limitOf 16 = .ok (.iconst 0, 1) := by decide +kernel
theorem dX8_limitOf_17 : decode cX8_limitOf 17 = .ok (.iaload, 1) := by decide +kernel
theorem dX8_limitOf_18 : decode cX8_limitOf 18 = .ok (.isub, 1) := by decide +kernel
theorem dX8_limitOf_19 : decode cX8_limitOf 19 = .ok (.aload_n 0, 1) := by decide +kernel
theorem dX8_limitOf_20 : decode cX8_limitOf 20 = .ok (.getfield 13, 3) := by decide +kernel
theorem dX8_limitOf_23 : decode cX8_limitOf 23 = .ok (.iload_n 2, 1) := by decide +kernel
theorem dX8_limitOf_24 : decode cX8_limitOf 24 = .ok (.iaload, 1) := by decide +kernel
theorem dX8_limitOf_25 : decode cX8_limitOf 25 = .ok (.if_icmp .le 14, 3) := by decide +kernel
theorem dX8_limitOf_28 : decode cX8_limitOf 28 = .ok (.iload_n 3, 1) := by decide +kernel
theorem dX8_limitOf_29 : decode cX8_limitOf 29 = .ok (.aload_n 0, 1) := by decide +kernel
theorem dX8_limitOf_30 : decode cX8_limitOf 30 = .ok (.getfield 22, 3) := by decide +kernel
theorem dX8_limitOf_33 : decode cX8_limitOf 33 = .ok (.iconst 0, 1) := by decide +kernel
theorem dX8_limitOf_34 : decode cX8_limitOf 34 = .ok (.iaload, 1) := by decide +kernel
theorem dX8_limitOf_35 : decode cX8_limitOf 35 = .ok (.isub, 1) := by decide +kernel
theorem dX8_limitOf_36 : decode cX8_limitOf 36 = .ok (.goto 11, 3) := by decide +kernel
theorem dX8_limitOf_39 : decode cX8_limitOf 39 = .ok (.aload_n 0, 1) := by decide +kernel
theorem dX8_limitOf_40 : decode cX8_limitOf 40 = .ok (.getfield 13, 3) := by decide +kernel
theorem dX8_limitOf_43 : decode cX8_limitOf 43 = .ok (.iload_n 2, 1) := by decide +kernel
theorem dX8_limitOf_44 : decode cX8_limitOf 44 = .ok (.iaload, 1) := by decide +kernel
theorem dX8_limitOf_45 : decode cX8_limitOf 45 = .ok (.iconst 1, 1) := by decide +kernel
theorem dX8_limitOf_46 : decode cX8_limitOf 46 = .ok (.iadd, 1) := by decide +kernel
theorem dX8_limitOf_47 : decode cX8_limitOf 47 = .ok (.istore_n 3, 1) := by decide +kernel
theorem dX8_limitOf_48 : decode cX8_limitOf 48 = .ok (.iload_n 1, 1) := by decide +kernel
theorem dX8_limitOf_49 : decode cX8_limitOf 49 = .ok (.iconst 1, 1) := by decide +kernel
theorem dX8_limitOf_50 : decode cX8_limitOf 50 = .ok (.if_icmp .le 44, 3) := by decide +kernel
theorem dX8_limitOf_53 : decode cX8_limitOf 53 = .ok (.iload_n 3, 1) := by decide +kernel
theorem dX8_limitOf_54 : decode cX8_limitOf 54 = .ok (.iconst 2, 1) := by decide +kernel
theorem dX8_limitOf_55 : decode cX8_limitOf 55 = .ok (.aload_n 0, 1) := by decide +kernel
theorem dX8_limitOf_56 : decode cX8_limitOf 56 = .ok (.getfield 22, 3) := by decide +kernel
theorem dX8_limitOf_59 : decode cX8_limitOf 59 = .ok (.iconst 1, 1) := by decide +kernel
theorem dX8_limitOf_60 : decode cX8_limitOf 60 = .ok (.iaload, 1) := by decide +kernel
theorem dX8_limitOf_61 : decode cX8_limitOf 61 = .ok (.imul, 1) := by decide +kernel
theorem dX8_limitOf_62 : decode cX8_limitOf 62 = .ok (.isub, 1) := by decide +kernel
theorem dX8_limitOf_63 : decode cX8_limitOf 63 = .ok (.aload_n 0, 1) := by decide +kernel
theorem dX8_limitOf_64 : decode cX8_limitOf 64 = .ok (.getfield 13, 3) := by decide +kernel
theorem dX8_limitOf_67 : decode cX8_limitOf 67 = .ok (.iload_n 2, 1) := by decide +kernel
theorem dX8_limitOf_68 : decode cX8_limitOf 68 = .ok (.iaload, 1) := by decide +kernel
theorem dX8_limitOf_69 : decode cX8_limitOf 69 = .ok (.if_icmp .le 16, 3) := by decide +kernel
theorem dX8_limitOf_72 : decode cX8_limitOf 72 = .ok (.iload_n 3, 1) := by decide +kernel
theorem dX8_limitOf_73 : decode cX8_limitOf 73 = .ok (.iconst 2, 1) := by decide +kernel
theorem dX8_limitOf_74 : decode cX8_limitOf 74 = .ok (.aload_n 0, 1) := by decide +kernel
theorem dX8_limitOf_75 : decode cX8_limitOf 75 = .ok (.getfield 22, 3) := by decide +kernel
theorem dX8_limitOf_78 : decode cX8_limitOf 78 = .ok (.iconst 1, 1) := by decide +kernel
theorem dX8_limitOf_79 : decode cX8_limitOf 79 = .ok (.iaload, 1) := by decide +kernel
theorem dX8_limitOf_80 : decode cX8_limitOf 80 = .ok (.imul, 1) := by decide +kernel
theorem dX8_limitOf_81 : decode cX8_limitOf 81 = .ok (.isub, 1) := by decide +kernel
theorem dX8_limitOf_82 : decode cX8_limitOf 82 = .ok (.goto 11, 3) := by decide +kernel
theorem dX8_limitOf_85 : decode cX8_limitOf 85 = .ok (.aload_n 0, 1) := by decide +kernel
theorem dX8_limitOf_86 : decode cX8_limitOf 86 = .ok (.getfield 13, 3) := by decide +kernel
theorem dX8_limitOf_89 : decode cX8_limitOf 89 = .ok (.iload_n 2, 1) := by decide +kernel
theorem dX8_limitOf_90 : decode cX8_limitOf 90 = .ok (.iaload, 1) := by decide +kernel
theorem dX8_limitOf_91 : decode cX8_limitOf 91 = .ok (.iconst 1, 1) := by decide +kernel
theorem dX8_limitOf_92 : decode cX8_limitOf 92 = .ok (.iadd, 1) := by decide +kernel
theorem dX8_limitOf_93 : decode cX8_limitOf 93 = .ok (.istore_n 3, 1) := by decide +kernel
theorem dX8_limitOf_94 : decode cX8_limitOf 94 = .ok (.iload_n 3, 1) := by decide +kernel
theorem dX8_limitOf_95 : decode cX8_limitOf 95 = .ok (.ireturn, 1) := by decide +kernel
theorem dX8_limit_0 : decode cX8_limit 0 = .ok (.aload_n 0, 1) := by decide +kernel
theorem dX8_limit_1 : decode cX8_limit 1 = .ok (.iconst 0, 1) := by decide +kernel
theorem dX8_limit_2 : decode cX8_limit 2 = .ok (.putfield 60, 3) := by decide +kernel
theorem dX8_limit_5 : decode cX8_limit 5 = .ok (.iload_n 1, 1) := by decide +kernel
theorem dX8_limit_6 : decode cX8_limit 6 = .ok (.i2l, 1) := by decide +kernel
theorem dX8_limit_7 : decode cX8_limit 7 = .ok (.lconst 0, 1) := by decide +kernel
theorem dX8_limit_8 : decode cX8_limit 8 = .ok (.ldc2_w 82, 3) := by decide +kernel
theorem dX8_limit_11 : decode cX8_limit 11 = .ok (.invokestatic 67, 3) := by decide +kernel
theorem dX8_limit_14 : decode cX8_limit 14 = .ok (.ifCond .eq 11, 3) := by decide +kernel
theorem dX8_limit_17 : decode cX8_limit 17 = .ok (.aload_n 0, 1) := by decide +kernel
theorem dX8_limit_18 : decode cX8_limit 18 = .ok (.iload_n 2, 1) := by decide +kernel
theorem dX8_limit_19 : decode cX8_limit 19 = .ok (.invokevirtual 76, 3) := by decide +kernel
theorem dX8_limit_22 : decode cX8_limit 22 = .ok (.ifCond .ne 5, 3) := by decide +kernel
theorem dX8_limit_25 : decode cX8_limit 25 = .ok (.iconst (-1), 1) := by decide +kernel
theorem dX8_limit_26 : decode cX8_limit 26 = .ok (.ireturn, 1) := by decide +kernel
theorem dX8_limit_27 : decode cX8_limit 27 = .ok (.aload_n 0, 1) := by decide +kernel
theorem dX8_limit_28 : decode cX8_limit 28 = .ok (.dup, 1) := by decide +kernel
theorem dX8_limit_29 : decode cX8_limit 29 = .ok (.getfield 88, 3) := by decide +kernel
theorem dX8_limit_32 : decode cX8_limit 32 = .ok (.iload_n 1, 1) := by decide +kernel
theorem dX8_limit_33 : decode cX8_limit 33 = .ok (.ifCond .ne 7, 3) := by decide +kernel
theorem dX8_limit_36 : decode cX8_limit 36 = .ok (.lconst 1, 1) := by decide +kernel
theorem dX8_limit_37 : decode cX8_limit 37 = .ok (.goto 17, 3) := by decide +kernel
theorem dX8_limit_40 : decode cX8_limit 40 = .ok (.iload_n 1, 1) := by decide +kernel
theorem dX8_limit_41 : decode cX8_limit 41 = .ok (.iconst 1, 1) := by decide +kernel
theorem dX8_limit_42 : decode cX8_limit 42 = .ok (.if_icmp .ne 9, 3) := by decide +kernel
theorem dX8_limit_45 : decode cX8_limit 45 = .ok (.ldc2_w 92, 3) := by decide +kernel
theorem dX8_limit_48 : decode cX8_limit 48 = .ok (.goto 6, 3) := by decide +kernel
theorem dX8_limit_51 : decode cX8_limit 51 = .ok (.ldc2_w 94, 3) := by decide +kernel
theorem dX8_limit_54 : decode cX8_limit 54 = .ok (.ladd, 1) := by decide +kernel
theorem dX8_limit_55 : decode cX8_limit 55 = .ok (.putfield 88, 3) := by decide +kernel
theorem dX8_limit_58 : decode cX8_limit 58 = .ok (.aload_n 0, 1) := by decide +kernel
theorem dX8_limit_59 : decode cX8_limit 59 = .ok (.iload_n 1, 1) := by decide +kernel
theorem dX8_limit_60 : decode cX8_limit 60 = .ok (.iload_n 2, 1) := by decide +kernel
theorem dX8_limit_61 : decode cX8_limit 61 = .ok (.invokevirtual 96, 3) := by decide +kernel
theorem dX8_limit_64 : decode cX8_limit 64 = .ok (.ireturn, 1) := by decide +kernel
theorem dX8_below_0 : decode cX8_below 0 = .ok (.lconst 1, 1) := by decide +kernel
theorem dX8_below_1 : decode cX8_below 1 = .ok (.lstore_n 1, 1) := by decide +kernel
theorem dX8_below_2 : decode cX8_below 2 = .ok (.iconst 0, 1) := by decide +kernel
theorem dX8_below_3 : decode cX8_below 3 = .ok (.istore_n 3, 1) := by decide +kernel
theorem dX8_below_4 : decode cX8_below 4 = .ok (.iload_n 3, 1) := by decide +kernel
theorem dX8_below_5 : decode cX8_below 5 = .ok (.aload_n 0, 1) := by decide +kernel
theorem dX8_below_6 : decode cX8_below 6 = .ok (.getfield 64, 3) := by decide +kernel
theorem dX8_below_9 : decode cX8_below 9 = .ok (.if_icmp .ge 45, 3) := by decide +kernel
theorem dX8_below_12 : decode cX8_below 12 = .ok (.lload_n 1, 1) := by decide +kernel
theorem dX8_below_13 : decode cX8_below 13 = .ok (.lload_n 1, 1) := by decide +kernel
theorem dX8_below_14 : decode cX8_below 14 = .ok (.aload_n 0, 1) := by decide +kernel
theorem dX8_below_15 : decode cX8_below 15 = .ok (.getfield 16, 3) := by decide +kernel
theorem dX8_below_18 : decode cX8_below 18 = .ok (.iload_n 3, 1) := by decide +kernel
theorem dX8_below_19 : decode cX8_below 19 = .ok (.iaload, 1) := by decide +kernel
theorem dX8_below_20 : decode cX8_below 20 = .ok (.aload_n 0, 1) := by decide +kernel
theorem dX8_below_21 : decode cX8_below 21 = .ok (.getfield 13, 3) := by decide +kernel
theorem dX8_below_24 : decode cX8_below 24 = .ok (.iload_n 3, 1) := by decide +kernel
theorem dX8_below_25 : decode cX8_below 25 = .ok (.iaload, 1) := by decide +kernel
theorem dX8_below_26 : decode cX8_below 26 = .ok (.isub, 1) := by decide +kernel
theorem dX8_below_27 : decode cX8_below 27 = .ok (.i2l, 1) := by decide +kernel
theorem dX8_below_28 : decode cX8_below 28 = .ok (.invokestatic 100, 3) := by decide +kernel
theorem dX8_below_31 : decode cX8_below 31 = .ok (.ldiv, 1) := by decide +kernel
theorem dX8_below_32 : decode cX8_below 32 = .ok (.aload_n 0, 1) := by decide +kernel
theorem dX8_below_33 : decode cX8_below 33 = .ok (.getfield 16, 3) := by decide +kernel
theorem dX8_below_36 : decode cX8_below 36 = .ok (.iload_n 3, 1) := by decide +kernel
theorem dX8_below_37 : decode cX8_below 37 = .ok (.iaload, 1) := by decide +kernel
theorem dX8_below_38 : decode cX8_below 38 = .ok (.aload_n 0, 1) := by decide +kernel
theorem dX8_below_39 : decode cX8_below 39 = .ok (.getfield 13, 3) := by decide +kernel
theorem dX8_below_42 : decode cX8_below 42 = .ok (.iload_n 3, 1) := by decide +kernel
theorem dX8_below_43 : decode cX8_below 43 = .ok (.iaload, 1) := by decide +kernel
theorem dX8_below_44 : decode cX8_below 44 = .ok (.isub, 1) := by decide +kernel
theorem dX8_below_45 : decode cX8_below 45 = .ok (.i2l, 1) := by decide +kernel
theorem dX8_below_46 : decode cX8_below 46 = .ok (.lmul, 1) := by decide +kernel
theorem dX8_below_47 : decode cX8_below 47 = .ok (.lstore_n 1, 1) := by decide +kernel
theorem dX8_below_48 : decode cX8_below 48 = .ok (.iinc 3 1, 3) := by decide +kernel
theorem dX8_below_51 : decode cX8_below 51 = .ok (.goto (-47), 3) := by decide +kernel
theorem dX8_below_54 : decode cX8_below 54 = .ok (.lload_n 1, 1) := by decide +kernel
theorem dX8_below_55 : decode cX8_below 55 = .ok (.lreturn, 1) := by decide +kernel
theorem dX8_dirtOf_0 : decode cX8_dirtOf 0 = .ok (.lconst 0, 1) := by decide +kernel
theorem dX8_dirtOf_1 : decode cX8_dirtOf 1 = .ok (.lstore 4, 2) := by decide +kernel
theorem dX8_dirtOf_3 : decode cX8_dirtOf 3 = .ok (.iconst 0, 1) := by decide +kernel
theorem dX8_dirtOf_4 : decode cX8_dirtOf 4 = .ok (.istore 6, 2) := by decide +kernel
theorem dX8_dirtOf_6 : decode cX8_dirtOf 6 = .ok (.iload 6, 2) := by decide +kernel
theorem dX8_dirtOf_8 : decode cX8_dirtOf 8 = .ok (.aload_n 0, 1) := by decide +kernel
theorem dX8_dirtOf_9 : decode cX8_dirtOf 9 = .ok (.getfield 64, 3) := by decide +kernel
theorem dX8_dirtOf_12 : decode cX8_dirtOf 12 = .ok (.if_icmp .ge 93, 3) := by decide +kernel
theorem dX8_dirtOf_15 : decode cX8_dirtOf 15 = .ok (.iload_n 1, 1) := by decide +kernel
theorem dX8_dirtOf_16 : decode cX8_dirtOf 16 = .ok (.aload_n 0, 1) := by decide +kernel
theorem dX8_dirtOf_17 : decode cX8_dirtOf 17 = .ok (.getfield 16, 3) := by decide +kernel
theorem dX8_dirtOf_20 : decode cX8_dirtOf 20 = .ok (.iload 6, 2) := by decide +kernel
theorem dX8_dirtOf_22 : decode cX8_dirtOf 22 = .ok (.iaload, 1) := by decide +kernel
theorem dX8_dirtOf_23 : decode cX8_dirtOf 23 = .ok (.if_icmp .ge 7, 3) := by decide +kernel
theorem dX8_dirtOf_26 : decode cX8_dirtOf 26 = .ok (.iload_n 1, 1) := by decide +kernel
theorem dX8_dirtOf_27 : decode cX8_dirtOf 27 = .ok (.goto 10, 3) := by decide +kernel
theorem dX8_dirtOf_30 : decode cX8_dirtOf 30 = .ok (.aload_n 0, 1) := by decide +kernel
theorem dX8_dirtOf_31 : decode cX8_dirtOf 31 = .ok (.getfield 16, 3) := by decide +kernel
theorem dX8_dirtOf_34 : decode cX8_dirtOf 34 = .ok (.iload 6, 2) := by decide +kernel
theorem dX8_dirtOf_36 : decode cX8_dirtOf 36 = .ok (.iaload, 1) := by decide +kernel
theorem dX8_dirtOf_37 : decode cX8_dirtOf 37 = .ok (.istore 7, 2) := by decide +kernel
theorem dX8_dirtOf_39 : decode cX8_dirtOf 39 = .ok (.lload 4, 2) := by decide +kernel
theorem dX8_dirtOf_41 : decode cX8_dirtOf 41 = .ok (.iload 7, 2) := by decide +kernel
theorem dX8_dirtOf_43 : decode cX8_dirtOf 43 = .ok (.aload_n 0, 1) := by decide +kernel
theorem dX8_dirtOf_44 : decode cX8_dirtOf 44 = .ok (.getfield 13, 3) := by decide +kernel
theorem dX8_dirtOf_47 : decode cX8_dirtOf 47 = .ok (.iload 6, 2) := by decide +kernel
theorem dX8_dirtOf_49 : decode cX8_dirtOf 49 = .ok (.iaload, 1) := by decide +kernel
theorem dX8_dirtOf_50 : decode cX8_dirtOf 50 = .ok (.if_icmp .le 45, 3) := by decide +kernel
theorem dX8_dirtOf_53 : decode cX8_dirtOf 53 = .ok (.aload_n 0, 1) := by decide +kernel
theorem dX8_dirtOf_54 : decode cX8_dirtOf 54 = .ok (.getfield 7, 3) := by decide +kernel
theorem dX8_dirtOf_57 : decode cX8_dirtOf 57 = .ok (.iload 6, 2) := by decide +kernel
theorem dX8_dirtOf_59 : decode cX8_dirtOf 59 = .ok (.iaload, 1) := by decide +kernel
theorem dX8_dirtOf_60 : decode cX8_dirtOf 60 = .ok (.i2l, 1) := by decide +kernel
theorem dX8_dirtOf_61 : decode cX8_dirtOf 61 = .ok (.iload 7, 2) := by decide +kernel
theorem dX8_dirtOf_63 : decode cX8_dirtOf 63 = .ok (.aload_n 0, 1) := by decide +kernel
theorem dX8_dirtOf_64 : decode cX8_dirtOf 64 = .ok (.getfield 13, 3) := by decide +kernel
theorem dX8_dirtOf_67 : decode cX8_dirtOf 67 = .ok (.iload 6, 2) := by decide +kernel
theorem dX8_dirtOf_69 : decode cX8_dirtOf 69 = .ok (.iaload, 1) := by decide +kernel
theorem dX8_dirtOf_70 : decode cX8_dirtOf 70 = .ok (.isub, 1) := by decide +kernel
theorem dX8_dirtOf_71 : decode cX8_dirtOf 71 = .ok (.i2l, 1) := by decide +kernel
theorem dX8_dirtOf_72 : decode cX8_dirtOf 72 = .ok (.lmul, 1) := by decide +kernel
theorem dX8_dirtOf_73 : decode cX8_dirtOf 73 = .ok (.lload_n 2, 1) := by decide +kernel
theorem dX8_dirtOf_74 : decode cX8_dirtOf 74 = .ok (.aload_n 0, 1) := by decide +kernel
theorem dX8_dirtOf_75 : decode cX8_dirtOf 75 = .ok (.getfield 16, 3) := by decide +kernel
theorem dX8_dirtOf_78 : decode cX8_dirtOf 78 = .ok (.iload 6, 2) := by decide +kernel
theorem dX8_dirtOf_80 : decode cX8_dirtOf 80 = .ok (.iaload, 1) := by decide +kernel
theorem dX8_dirtOf_81 : decode cX8_dirtOf 81 = .ok (.aload_n 0, 1) := by decide +kernel
theorem dX8_dirtOf_82 : decode cX8_dirtOf 82 = .ok (.getfield 13, 3) := by decide +kernel
theorem dX8_dirtOf_85 : decode cX8_dirtOf 85 = .ok (.iload 6, 2) := by decide +kernel
theorem dX8_dirtOf_87 : decode cX8_dirtOf 87 = .ok (.iaload, 1) := by decide +kernel
theorem dX8_dirtOf_88 : decode cX8_dirtOf 88 = .ok (.isub, 1) := by decide +kernel
theorem dX8_dirtOf_89 : decode cX8_dirtOf 89 = .ok (.i2l, 1) := by decide +kernel
theorem dX8_dirtOf_90 : decode cX8_dirtOf 90 = .ok (.ldiv, 1) := by decide +kernel
theorem dX8_dirtOf_91 : decode cX8_dirtOf 91 = .ok (.lmul, 1) := by decide +kernel
theorem dX8_dirtOf_92 : decode cX8_dirtOf 92 = .ok (.goto 4, 3) := by decide +kernel
theorem dX8_dirtOf_95 : decode cX8_dirtOf 95 = .ok (.lconst 0, 1) := by decide +kernel
theorem dX8_dirtOf_96 : decode cX8_dirtOf 96 = .ok (.ladd, 1) := by decide +kernel
theorem dX8_dirtOf_97 : decode cX8_dirtOf 97 = .ok (.lstore 4, 2) := by decide +kernel
theorem dX8_dirtOf_99 : decode cX8_dirtOf 99 = .ok (.iinc 6 1, 3) := by decide +kernel
theorem dX8_dirtOf_102 : decode cX8_dirtOf 102 = .ok (.goto (-96), 3) := by decide +kernel
theorem dX8_dirtOf_105 : decode cX8_dirtOf 105 = .ok (.lload 4, 2) := by decide +kernel
theorem dX8_dirtOf_107 : decode cX8_dirtOf 107 = .ok (.lreturn, 1) := by decide +kernel
theorem dX8_dirt_0 : decode cX8_dirt 0 = .ok (.aload_n 0, 1) := by decide +kernel
theorem dX8_dirt_1 : decode cX8_dirt 1 = .ok (.iconst 0, 1) := by decide +kernel
theorem dX8_dirt_2 : decode cX8_dirt 2 = .ok (.putfield 60, 3) := by decide +kernel
theorem dX8_dirt_5 : decode cX8_dirt 5 = .ok (.iload_n 1, 1) := by decide +kernel
theorem dX8_dirt_6 : decode cX8_dirt 6 = .ok (.i2l, 1) := by decide +kernel
theorem dX8_dirt_7 : decode cX8_dirt 7 = .ok (.lconst 1, 1) := by decide +kernel
theorem dX8_dirt_8 : decode cX8_dirt 8 = .ok (.ldc2_w 74, 3) := by decide +kernel
theorem dX8_dirt_11 : decode cX8_dirt 11 = .ok (.invokestatic 67, 3) := by decide +kernel
theorem dX8_dirt_14 : decode cX8_dirt 14 = .ok (.ifCond .eq 13, 3) := by decide +kernel
theorem dX8_dirt_17 : decode cX8_dirt 17 = .ok (.iload_n 2, 1) := by decide +kernel
theorem dX8_dirt_18 : decode cX8_dirt 18 = .ok (.i2l, 1) := by decide +kernel
theorem dX8_dirt_19 : decode cX8_dirt 19 = .ok (.lconst 0, 1) := by decide +kernel
theorem dX8_dirt_20 : decode cX8_dirt 20 = .ok (.lconst 1, 1) := by decide +kernel
theorem dX8_dirt_21 : decode cX8_dirt 21 = .ok (.invokestatic 67, 3) := by decide +kernel
theorem dX8_dirt_24 : decode cX8_dirt 24 = .ok (.ifCond .ne 7, 3) := by decide +kernel
theorem dX8_dirt_27 : decode cX8_dirt 27 = .ok (.ldc2_w 104, 3) := by decide +kernel
theorem dX8_dirt_30 : decode cX8_dirt 30 = .ok (.lreturn, 1) := by decide +kernel
theorem dX8_dirt_31 : decode cX8_dirt 31 = .ok (.aload_n 0, 1) := by decide +kernel
theorem dX8_dirt_32 : decode cX8_dirt 32 = .ok (.invokevirtual 106, 3) := by decide +kernel
theorem dX8_dirt_35 : decode cX8_dirt 35 = .ok (.lstore_n 3, 1) := by decide +kernel
theorem dX8_dirt_36 : decode cX8_dirt 36 = .ok (.aload_n 0, 1) := by decide +kernel
theorem dX8_dirt_37 : decode cX8_dirt 37 = .ok (.iload_n 1, 1) := by decide +kernel
theorem dX8_dirt_38 : decode cX8_dirt 38 = .ok (.lload_n 3, 1) := by decide +kernel
theorem dX8_dirt_39 : decode cX8_dirt 39 = .ok (.invokevirtual 110, 3) := by decide +kernel
theorem dX8_dirt_42 : decode cX8_dirt 42 = .ok (.lstore 5, 2) := by decide +kernel
theorem dX8_dirt_44 : decode cX8_dirt 44 = .ok (.lload 5, 2) := by decide +kernel
theorem dX8_dirt_46 : decode cX8_dirt 46 = .ok (.lload_n 3, 1) := by decide +kernel
theorem dX8_dirt_47 : decode cX8_dirt 47 = .ok (.invokestatic 100, 3) := by decide +kernel
theorem dX8_dirt_50 : decode cX8_dirt 50 = .ok (.lstore 7, 2) := by decide +kernel
theorem dX8_dirt_52 : decode cX8_dirt 52 = .ok (.iload_n 2, 1) := by decide +kernel
theorem dX8_dirt_53 : decode cX8_dirt 53 = .ok (.ifCond .ne 11, 3) := by decide +kernel
theorem dX8_dirt_56 : decode cX8_dirt 56 = .ok (.lload 5, 2) := by decide +kernel
theorem dX8_dirt_58 : decode cX8_dirt 58 = .ok (.lload 7, 2) := by decide +kernel
theorem dX8_dirt_60 : decode cX8_dirt 60 = .ok (.ldiv, 1) := by decide +kernel
theorem dX8_dirt_61 : decode cX8_dirt 61 = .ok (.goto 7, 3) := by decide +kernel
theorem dX8_dirt_64 : decode cX8_dirt 64 = .ok (.lload_n 3, 1) := by decide +kernel
theorem dX8_dirt_65 : decode cX8_dirt 65 = .ok (.lload 7, 2) := by decide +kernel
theorem dX8_dirt_67 : decode cX8_dirt 67 = .ok (.ldiv, 1) := by decide +kernel
theorem dX8_dirt_68 : decode cX8_dirt 68 = .ok (.lreturn, 1) := by decide +kernel
theorem dX8_pinch_0 : decode cX8_pinch 0 = .ok (.bipush (-9), 2) := by decide +kernel
theorem dX8_pinch_2 : decode cX8_pinch 2 = .ok (.istore_n 1, 1) := by decide +kernel
theorem dX8_pinch_3 : decode cX8_pinch 3 = .ok (.aload_n 0, 1) := by decide +kernel
theorem dX8_pinch_4 : decode cX8_pinch 4 = .ok (.invokevirtual 106, 3) := by decide +kernel
theorem dX8_pinch_7 : decode cX8_pinch 7 = .ok (.lstore_n 2, 1) := by decide +kernel
theorem dX8_pinch_8 : decode cX8_pinch 8 = .ok (.iconst 1, 1) := by decide +kernel
theorem dX8_pinch_9 : decode cX8_pinch 9 = .ok (.istore 4, 2) := by decide +kernel
theorem dX8_pinch_11 : decode cX8_pinch 11 = .ok (.iload 4, 2) := by decide +kernel
theorem dX8_pinch_13 : decode cX8_pinch 13 = .ok (.sipush 500, 3) := by decide +kernel
theorem dX8_pinch_16 : decode cX8_pinch 16 = .ok (.if_icmp .gt 173, 3) := by decide +kernel
theorem dX8_pinch_19 : decode cX8_pinch 19 = .ok (.iconst 0, 1) := by decide +kernel
theorem dX8_pinch_20 : decode cX8_pinch 20 = .ok (.istore 5, 2) := by decide +kernel
theorem dX8_pinch_22 : decode cX8_pinch 22 = .ok (.iconst 0, 1) := by decide +kernel
theorem dX8_pinch_23 : decode cX8_pinch 23 = .ok (.istore 6, 2) := by decide +kernel
theorem dX8_pinch_25 : decode cX8_pinch 25 = .ok (.iload 6, 2) := by decide +kernel
theorem dX8_pinch_27 : decode cX8_pinch 27 = .ok (.aload_n 0, 1) := by decide +kernel
theorem dX8_pinch_28 : decode cX8_pinch 28 = .ok (.getfield 64, 3) := by decide +kernel
theorem dX8_pinch_31 : decode cX8_pinch 31 = .ok (.if_icmp .ge 43, 3) := by decide +kernel
theorem dX8_pinch_34 : decode cX8_pinch 34 = .ok (.iload 5, 2) := by decide +kernel
theorem dX8_pinch_36 : decode cX8_pinch 36 = .ok (.aload_n 0, 1) := by decide +kernel
theorem dX8_pinch_37 : decode cX8_pinch 37 = .ok (.getfield 13, 3) := by decide +kernel
theorem dX8_pinch_40 : decode cX8_pinch 40 = .ok (.iload 6, 2) := by decide +kernel
theorem dX8_pinch_42 : decode cX8_pinch 42 = .ok (.iaload, 1) := by decide +kernel
theorem dX8_pinch_43 : decode cX8_pinch 43 = .ok (.iload 4, 2) := by decide +kernel
theorem dX8_pinch_45 : decode cX8_pinch 45 = .ok (.if_icmp .eq 15, 3) := by decide +kernel
theorem dX8_pinch_48 : decode cX8_pinch 48 = .ok (.aload_n 0, 1) := by decide +kernel
theorem dX8_pinch_49 : decode cX8_pinch 49 = .ok (.getfield 16, 3) := by decide +kernel
theorem dX8_pinch_52 : decode cX8_pinch 52 = .ok (.iload 6, 2) := by decide +kernel
theorem dX8_pinch_54 : decode cX8_pinch 54 = .ok (.iaload, 1) := by decide +kernel
theorem dX8_pinch_55 : decode cX8_pinch 55 = .ok (.iload 4, 2) := by decide +kernel
theorem dX8_pinch_57 : decode cX8_pinch 57 = .ok (.if_icmp .ne 7, 3) := by decide +kernel
theorem dX8_pinch_60 : decode cX8_pinch 60 = .ok (.iconst 1, 1) := by decide +kernel
theorem dX8_pinch_61 : decode cX8_pinch 61 = .ok (.goto 4, 3) := by decide +kernel
theorem dX8_pinch_64 : decode cX8_pinch 64 = .ok (.iconst 0, 1) := by decide +kernel
theorem dX8_pinch_65 : decode cX8_pinch 65 = .ok (.ior, 1) := by decide +kernel
theorem dX8_pinch_66 : decode cX8_pinch 66 = .ok (.istore 5, 2) := by decide +kernel
theorem dX8_pinch_68 : decode cX8_pinch 68 = .ok (.iinc 6 1, 3) := by decide +kernel
theorem dX8_pinch_71 : decode cX8_pinch 71 = .ok (.goto (-46), 3) := by decide +kernel
theorem dX8_pinch_74 : decode cX8_pinch 74 = .ok (.iload 5, 2) := by decide +kernel
theorem dX8_pinch_76 : decode cX8_pinch 76 = .ok (.ifCond .eq 107, 3) := by decide +kernel
theorem dX8_pinch_79 : decode cX8_pinch 79 = .ok (.aload_n 0, 1) := by decide +kernel
theorem dX8_pinch_80 : decode cX8_pinch 80 = .ok (.iload 4, 2) := by decide +kernel
theorem dX8_pinch_82 : decode cX8_pinch 82 = .ok (.lload_n 2, 1) := by decide +kernel
theorem dX8_pinch_83 : decode cX8_pinch 83 = .ok (.invokevirtual 110, 3) := by decide +kernel
theorem dX8_pinch_86 : decode cX8_pinch 86 = .ok (.lstore 6, 2) := by decide +kernel
theorem dX8_pinch_88 : decode cX8_pinch 88 = .ok (.iload_n 1, 1) := by decide +kernel
theorem dX8_pinch_89 : decode cX8_pinch 89 = .ok (.bipush (-9), 2) := by decide +kernel
theorem dX8_pinch_91 : decode cX8_pinch 91 = .ok (.if_icmp .ne 9, 3) := by decide +kernel
theorem dX8_pinch_94 : decode cX8_pinch 94 = .ok (.ldc2_w 104, 3) := by decide +kernel
theorem dX8_pinch_97 : decode cX8_pinch 97 = .ok (.goto 9, 3) := by decide +kernel
theorem dX8_pinch_100 : decode cX8_pinch 100 = .ok (.aload_n 0, 1) := by decide +kernel
theorem dX8_pinch_101 : decode cX8_pinch 101 = .ok (.iload_n 1, 1) := by decide +kernel
theorem dX8_pinch_102 : decode cX8_pinch 102 = .ok (.lload_n 2, 1) := by decide +kernel
theorem dX8_pinch_103 : decode cX8_pinch 103 = .ok (.invokevirtual 110, 3) := by decide +kernel
theorem dX8_pinch_106 : decode cX8_pinch 106 = .ok (.lstore 8, 2) := by decide +kernel
theorem dX8_pinch_108 : decode cX8_pinch 108 = .ok (.iload_n 1, 1) := by decide +kernel
theorem dX8_pinch_109 : decode cX8_pinch 109 = .ok (.bipush (-9), 2) := by decide +kernel
theorem dX8_pinch_111 : decode cX8_pinch 111 = .ok (.if_icmp .ne 7, 3) := by decide +kernel
theorem dX8_pinch_114 : decode cX8_pinch 114 = .ok (.lconst 1, 1) := by decide +kernel
theorem dX8_pinch_115 : decode cX8_pinch 115 = .ok (.goto 52, 3) := by decide +kernel
theorem dX8_pinch_118 : decode cX8_pinch 118 = .ok (.lload 6, 2) := by decide +kernel
theorem dX8_pinch_120 : decode cX8_pinch 120 = .ok (.iload 4, 2) := by decide +kernel
theorem dX8_pinch_122 : decode cX8_pinch 122 = .ok (.i2l, 1) := by decide +kernel
theorem dX8_pinch_123 : decode cX8_pinch 123 = .ok (.ldiv, 1) := by decide +kernel
theorem dX8_pinch_124 : decode cX8_pinch 124 = .ok (.lload 8, 2) := by decide +kernel
theorem dX8_pinch_126 : decode cX8_pinch 126 = .ok (.iload_n 1, 1) := by decide +kernel
theorem dX8_pinch_127 : decode cX8_pinch 127 = .ok (.i2l, 1) := by decide +kernel
theorem dX8_pinch_128 : decode cX8_pinch 128 = .ok (.ldiv, 1) := by decide +kernel
theorem dX8_pinch_129 : decode cX8_pinch 129 = .ok (.lcmp, 1) := by decide +kernel
theorem dX8_pinch_130 : decode cX8_pinch 130 = .ok (.ifCond .eq 18, 3) := by decide +kernel
theorem dX8_pinch_133 : decode cX8_pinch 133 = .ok (.lload 6, 2) := by decide +kernel
theorem dX8_pinch_135 : decode cX8_pinch 135 = .ok (.iload 4, 2) := by decide +kernel
theorem dX8_pinch_137 : decode cX8_pinch 137 = .ok (.i2l, 1) := by decide +kernel
theorem dX8_pinch_138 : decode cX8_pinch 138 = .ok (.ldiv, 1) := by decide +kernel
theorem dX8_pinch_139 : decode cX8_pinch 139 = .ok (.lload 8, 2) := by decide +kernel
theorem dX8_pinch_141 : decode cX8_pinch 141 = .ok (.iload_n 1, 1) := by decide +kernel
theorem dX8_pinch_142 : decode cX8_pinch 142 = .ok (.i2l, 1) := by decide +kernel
theorem dX8_pinch_143 : decode cX8_pinch 143 = .ok (.ldiv, 1) := by decide +kernel
theorem dX8_pinch_144 : decode cX8_pinch 144 = .ok (.lsub, 1) := by decide +kernel
theorem dX8_pinch_145 : decode cX8_pinch 145 = .ok (.goto 22, 3) := by decide +kernel
theorem dX8_pinch_148 : decode cX8_pinch 148 = .ok (.lload 6, 2) := by decide +kernel
theorem dX8_pinch_150 : decode cX8_pinch 150 = .ok (.iload 4, 2) := by decide +kernel
theorem dX8_pinch_152 : decode cX8_pinch 152 = .ok (.i2l, 1) := by decide +kernel
theorem dX8_pinch_153 : decode cX8_pinch 153 = .ok (.lrem, 1) := by decide +kernel
theorem dX8_pinch_154 : decode cX8_pinch 154 = .ok (.iload_n 1, 1) := by decide +kernel
theorem dX8_pinch_155 : decode cX8_pinch 155 = .ok (.i2l, 1) := by decide +kernel
theorem dX8_pinch_156 : decode cX8_pinch 156 = .ok (.lmul, 1) := by decide +kernel
theorem dX8_pinch_157 : decode cX8_pinch 157 = .ok (.lload 8, 2) := by decide +kernel
theorem dX8_pinch_159 : decode cX8_pinch 159 = .ok (.iload_n 1, 1) := by decide +kernel
theorem dX8_pinch_160 : decode cX8_pinch 160 = .ok (.i2l, 1) := by decide +kernel
theorem dX8_pinch_161 : decode cX8_pinch 161 = .ok (.lrem, 1) := by decide +kernel
theorem dX8_pinch_162 : decode cX8_pinch 162 = .ok (.iload 4, 2) := by decide +kernel
theorem dX8_pinch_164 : decode cX8_pinch 164 = .ok (.i2l, 1) := by decide +kernel
theorem dX8_pinch_165 : decode cX8_pinch 165 = .ok (.lmul, 1) := by decide +kernel
theorem dX8_pinch_166 : decode cX8_pinch 166 = .ok (.lsub, 1) := by decide +kernel
theorem dX8_pinch_167 : decode cX8_pinch 167 = .ok (.lstore 10, 2) := by decide +kernel
theorem dX8_pinch_169 : decode cX8_pinch 169 = .ok (.lload 10, 2) := by decide +kernel
theorem dX8_pinch_171 : decode cX8_pinch 171 = .ok (.lconst 0, 1) := by decide +kernel
theorem dX8_pinch_172 : decode cX8_pinch 172 = .ok (.lcmp, 1) := by decide +kernel
theorem dX8_pinch_173 : decode cX8_pinch 173 = .ok (.ifCond .le 8, 3) := by decide +kernel
theorem dX8_pinch_176 : decode cX8_pinch 176 = .ok (.iload 4, 2) := by decide +kernel
theorem dX8_pinch_178 : decode cX8_pinch 178 = .ok (.goto 4, 3) := by decide +kernel
theorem dX8_pinch_181 : decode cX8_pinch 181 = .ok (.iload_n 1, 1) := by decide +kernel
theorem dX8_pinch_182 : decode cX8_pinch 182 = .ok (.istore_n 1, 1) := by decide +kernel
theorem dX8_pinch_183 : decode cX8_pinch 183 = .ok (.iinc 4 1, 3) := by decide +kernel
theorem dX8_pinch_186 : decode cX8_pinch 186 = .ok (.goto (-175), 3) := by decide +kernel
theorem dX8_pinch_189 : decode cX8_pinch 189 = .ok (.iload_n 1, 1) := by decide +kernel
theorem dX8_pinch_190 : decode cX8_pinch 190 = .ok (.ireturn, 1) := by decide +kernel
theorem dX8_least_0 : decode cX8_least 0 = .ok (.aload_n 0, 1) := by decide +kernel
theorem dX8_least_1 : decode cX8_least 1 = .ok (.iconst 0, 1) := by decide +kernel
theorem dX8_least_2 : decode cX8_least 2 = .ok (.putfield 60, 3) := by decide +kernel
theorem dX8_least_5 : decode cX8_least 5 = .ok (.iload_n 1, 1) := by decide +kernel
theorem dX8_least_6 : decode cX8_least 6 = .ok (.i2l, 1) := by decide +kernel
theorem dX8_least_7 : decode cX8_least 7 = .ok (.lconst 0, 1) := by decide +kernel
theorem dX8_least_8 : decode cX8_least 8 = .ok (.ldc2_w 82, 3) := by decide +kernel
theorem dX8_least_11 : decode cX8_least 11 = .ok (.invokestatic 67, 3) := by decide +kernel
theorem dX8_least_14 : decode cX8_least 14 = .ok (.ifCond .ne 7, 3) := by decide +kernel
theorem dX8_least_17 : decode cX8_least 17 = .ok (.ldc2_w 104, 3) := by decide +kernel
theorem dX8_least_20 : decode cX8_least 20 = .ok (.lreturn, 1) := by decide +kernel
theorem dX8_least_21 : decode cX8_least 21 = .ok (.aload_n 0, 1) := by decide +kernel
theorem dX8_least_22 : decode cX8_least 22 = .ok (.invokevirtual 114, 3) := by decide +kernel
theorem dX8_least_25 : decode cX8_least 25 = .ok (.istore_n 2, 1) := by decide +kernel
theorem dX8_least_26 : decode cX8_least 26 = .ok (.iload_n 1, 1) := by decide +kernel
theorem dX8_least_27 : decode cX8_least 27 = .ok (.iconst 2, 1) := by decide +kernel
theorem dX8_least_28 : decode cX8_least 28 = .ok (.if_icmp .ne 6, 3) := by decide +kernel
theorem dX8_least_31 : decode cX8_least 31 = .ok (.iload_n 2, 1) := by decide +kernel
theorem dX8_least_32 : decode cX8_least 32 = .ok (.i2l, 1) := by decide +kernel
theorem dX8_least_33 : decode cX8_least 33 = .ok (.lreturn, 1) := by decide +kernel
theorem dX8_least_34 : decode cX8_least 34 = .ok (.iload_n 2, 1) := by decide +kernel
theorem dX8_least_35 : decode cX8_least 35 = .ok (.bipush (-9), 2) := by decide +kernel
theorem dX8_least_37 : decode cX8_least 37 = .ok (.if_icmp .ne 6, 3) := by decide +kernel
theorem dX8_least_40 : decode cX8_least 40 = .ok (.iload_n 1, 1) := by decide +kernel
theorem dX8_least_41 : decode cX8_least 41 = .ok (.i2l, 1) := by decide +kernel
theorem dX8_least_42 : decode cX8_least 42 = .ok (.lreturn, 1) := by decide +kernel
theorem dX8_least_43 : decode cX8_least 43 = .ok (.aload_n 0, 1) := by decide +kernel
theorem dX8_least_44 : decode cX8_least 44 = .ok (.invokevirtual 106, 3) := by decide +kernel
theorem dX8_least_47 : decode cX8_least 47 = .ok (.lstore_n 3, 1) := by decide +kernel
theorem dX8_least_48 : decode cX8_least 48 = .ok (.aload_n 0, 1) := by decide +kernel
theorem dX8_least_49 : decode cX8_least 49 = .ok (.iload_n 2, 1) := by decide +kernel
theorem dX8_least_50 : decode cX8_least 50 = .ok (.lload_n 3, 1) := by decide +kernel
theorem dX8_least_51 : decode cX8_least 51 = .ok (.invokevirtual 110, 3) := by decide +kernel
theorem dX8_least_54 : decode cX8_least 54 = .ok (.lstore 5, 2) := by decide +kernel
theorem dX8_least_56 : decode cX8_least 56 = .ok (.lload 5, 2) := by decide +kernel
theorem dX8_least_58 : decode cX8_least 58 = .ok (.lload_n 3, 1) := by decide +kernel
theorem dX8_least_59 : decode cX8_least 59 = .ok (.iload_n 2, 1) := by decide +kernel
theorem dX8_least_60 : decode cX8_least 60 = .ok (.i2l, 1) := by decide +kernel
theorem dX8_least_61 : decode cX8_least 61 = .ok (.lmul, 1) := by decide +kernel
theorem dX8_least_62 : decode cX8_least 62 = .ok (.invokestatic 100, 3) := by decide +kernel
theorem dX8_least_65 : decode cX8_least 65 = .ok (.lstore 7, 2) := by decide +kernel
theorem dX8_least_67 : decode cX8_least 67 = .ok (.iload_n 1, 1) := by decide +kernel
theorem dX8_least_68 : decode cX8_least 68 = .ok (.ifCond .ne 11, 3) := by decide +kernel
theorem dX8_least_71 : decode cX8_least 71 = .ok (.lload 5, 2) := by decide +kernel
theorem dX8_least_73 : decode cX8_least 73 = .ok (.lload 7, 2) := by decide +kernel
theorem dX8_least_75 : decode cX8_least 75 = .ok (.ldiv, 1) := by decide +kernel
theorem dX8_least_76 : decode cX8_least 76 = .ok (.goto 10, 3) := by decide +kernel
theorem dX8_least_79 : decode cX8_least 79 = .ok (.lload_n 3, 1) := by decide +kernel
theorem dX8_least_80 : decode cX8_least 80 = .ok (.iload_n 2, 1) := by decide +kernel
theorem dX8_least_81 : decode cX8_least 81 = .ok (.i2l, 1) := by decide +kernel
theorem dX8_least_82 : decode cX8_least 82 = .ok (.lmul, 1) := by decide +kernel
theorem dX8_least_83 : decode cX8_least 83 = .ok (.lload 7, 2) := by decide +kernel
theorem dX8_least_85 : decode cX8_least 85 = .ok (.ldiv, 1) := by decide +kernel
theorem dX8_least_86 : decode cX8_least 86 = .ok (.lreturn, 1) := by decide +kernel
theorem dX8_fresh_0 : decode cX8_fresh 0 = .ok (.aload_n 0, 1) := by decide +kernel
theorem dX8_fresh_1 : decode cX8_fresh 1 = .ok (.iconst 0, 1) := by decide +kernel
theorem dX8_fresh_2 : decode cX8_fresh 2 = .ok (.putfield 60, 3) := by decide +kernel
theorem dX8_fresh_5 : decode cX8_fresh 5 = .ok (.aload_n 0, 1) := by decide +kernel
theorem dX8_fresh_6 : decode cX8_fresh 6 = .ok (.iload_n 1, 1) := by decide +kernel
theorem dX8_fresh_7 : decode cX8_fresh 7 = .ok (.invokevirtual 76, 3) := by decide +kernel
theorem dX8_fresh_10 : decode cX8_fresh 10 = .ok (.ifCond .eq 15, 3) := by decide +kernel
theorem dX8_fresh_13 : decode cX8_fresh 13 = .ok (.iload_n 2, 1) := by decide +kernel
theorem dX8_fresh_14 : decode cX8_fresh 14 = .ok (.i2l, 1) := by decide +kernel
theorem dX8_fresh_15 : decode cX8_fresh 15 = .ok (.lconst 0, 1) := by decide +kernel
theorem dX8_fresh_16 : decode cX8_fresh 16 = .ok (.ldc2_w 84, 3) := by decide +kernel
theorem dX8_fresh_19 : decode cX8_fresh 19 = .ok (.invokestatic 67, 3) := by decide +kernel
theorem dX8_fresh_22 : decode cX8_fresh 22 = .ok (.ifCond .ne 5, 3) := by decide +kernel
theorem dX8_fresh_25 : decode cX8_fresh 25 = .ok (.iconst (-1), 1) := by decide +kernel
theorem dX8_fresh_26 : decode cX8_fresh 26 = .ok (.ireturn, 1) := by decide +kernel
theorem dX8_fresh_27 : decode cX8_fresh 27 = .ok (.aload_n 0, 1) := by decide +kernel
theorem dX8_fresh_28 : decode cX8_fresh 28 = .ok (.getfield 25, 3) := by decide +kernel
theorem dX8_fresh_31 : decode cX8_fresh 31 = .ok (.iload_n 1, 1) := by decide +kernel
theorem dX8_fresh_32 : decode cX8_fresh 32 = .ok (.iaload, 1) := by decide +kernel
theorem dX8_fresh_33 : decode cX8_fresh 33 = .ok (.istore_n 3, 1) := by decide +kernel
theorem dX8_fresh_34 : decode cX8_fresh 34 = .ok (.aload_n 0, 1) := by decide +kernel
theorem dX8_fresh_35 : decode cX8_fresh 35 = .ok (.getfield 25, 3) := by decide +kernel
theorem dX8_fresh_38 : decode cX8_fresh 38 = .ok (.iload_n 1, 1) := by decide +kernel
theorem dX8_fresh_39 : decode cX8_fresh 39 = .ok (.iload_n 2, 1) := by decide +kernel
theorem dX8_fresh_40 : decode cX8_fresh 40 = .ok (.iastore, 1) := by decide +kernel
theorem dX8_fresh_41 : decode cX8_fresh 41 = .ok (.iload_n 3, 1) := by decide +kernel
theorem dX8_fresh_42 : decode cX8_fresh 42 = .ok (.ireturn, 1) := by decide +kernel
theorem dX8_pipe_0 : decode cX8_pipe 0 = .ok (.aload_n 0, 1) := by decide +kernel
theorem dX8_pipe_1 : decode cX8_pipe 1 = .ok (.iconst 0, 1) := by decide +kernel
theorem dX8_pipe_2 : decode cX8_pipe 2 = .ok (.putfield 60, 3) := by decide +kernel
theorem dX8_pipe_5 : decode cX8_pipe 5 = .ok (.aload_n 0, 1) := by decide +kernel
theorem dX8_pipe_6 : decode cX8_pipe 6 = .ok (.iload_n 1, 1) := by decide +kernel
theorem dX8_pipe_7 : decode cX8_pipe 7 = .ok (.invokevirtual 76, 3) := by decide +kernel
theorem dX8_pipe_10 : decode cX8_pipe 10 = .ok (.ifCond .eq 28, 3) := by decide +kernel
theorem dX8_pipe_13 : decode cX8_pipe 13 = .ok (.aload_n 0, 1) := by decide +kernel
theorem dX8_pipe_14 : decode cX8_pipe 14 = .ok (.iload_n 2, 1) := by decide +kernel
theorem dX8_pipe_15 : decode cX8_pipe 15 = .ok (.invokevirtual 76, 3) := by decide +kernel
theorem dX8_pipe_18 : decode cX8_pipe 18 = .ok (.ifCond .eq 20, 3) := by decide +kernel
theorem dX8_pipe_21 : decode cX8_pipe 21 = .ok (.iload_n 1, 1) := by decide +kernel
theorem dX8_pipe_22 : decode cX8_pipe 22 = .ok (.iload_n 2, 1) := by decide +kernel
theorem dX8_pipe_23 : decode cX8_pipe 23 = .ok (.if_icmp .eq 15, 3) := by decide +kernel
theorem dX8_pipe_26 : decode cX8_pipe 26 = .ok (.iload_n 3, 1) := by decide +kernel
theorem dX8_pipe_27 : decode cX8_pipe 27 = .ok (.i2l, 1) := by decide +kernel
theorem dX8_pipe_28 : decode cX8_pipe 28 = .ok (.lconst 0, 1) := by decide +kernel
theorem dX8_pipe_29 : decode cX8_pipe 29 = .ok (.ldc2_w 84, 3) := by decide +kernel
theorem dX8_pipe_32 : decode cX8_pipe 32 = .ok (.invokestatic 67, 3) := by decide +kernel
theorem dX8_pipe_35 : decode cX8_pipe 35 = .ok (.ifCond .ne 5, 3) := by decide +kernel
theorem dX8_pipe_38 : decode cX8_pipe 38 = .ok (.iconst (-1), 1) := by decide +kernel
theorem dX8_pipe_39 : decode cX8_pipe 39 = .ok (.ireturn, 1) := by decide +kernel
theorem dX8_pipe_40 : decode cX8_pipe 40 = .ok (.aload_n 0, 1) := by decide +kernel
theorem dX8_pipe_41 : decode cX8_pipe 41 = .ok (.getfield 28, 3) := by decide +kernel
theorem dX8_pipe_44 : decode cX8_pipe 44 = .ok (.iconst 5, 1) := by decide +kernel
theorem dX8_pipe_45 : decode cX8_pipe 45 = .ok (.iload_n 1, 1) := by decide +kernel
theorem dX8_pipe_46 : decode cX8_pipe 46 = .ok (.imul, 1) := by decide +kernel
theorem dX8_pipe_47 : decode cX8_pipe 47 = .ok (.iload_n 2, 1) := by decide +kernel
theorem dX8_pipe_48 : decode cX8_pipe 48 = .ok (.iadd, 1) := by decide +kernel
theorem dX8_pipe_49 : decode cX8_pipe 49 = .ok (.iaload, 1) := by decide +kernel
theorem dX8_pipe_50 : decode cX8_pipe 50 = .ok (.istore 4, 2) := by decide +kernel
theorem dX8_pipe_52 : decode cX8_pipe 52 = .ok (.aload_n 0, 1) := by decide +kernel
theorem dX8_pipe_53 : decode cX8_pipe 53 = .ok (.getfield 28, 3) := by decide +kernel
theorem dX8_pipe_56 : decode cX8_pipe 56 = .ok (.iconst 5, 1) := by decide +kernel
theorem dX8_pipe_57 : decode cX8_pipe 57 = .ok (.iload_n 1, 1) := by decide +kernel
theorem dX8_pipe_58 : decode cX8_pipe 58 = .ok (.imul, 1) := by decide +kernel
theorem dX8_pipe_59 : decode cX8_pipe 59 = .ok (.iload_n 2, 1) := by decide +kernel
theorem dX8_pipe_60 : decode cX8_pipe 60 = .ok (.iadd, 1) := by decide +kernel
theorem dX8_pipe_61 : decode cX8_pipe 61 = .ok (.iload_n 3, 1) := by decide +kernel
theorem dX8_pipe_62 : decode cX8_pipe 62 = .ok (.iastore, 1) := by decide +kernel
theorem dX8_pipe_63 : decode cX8_pipe 63 = .ok (.iload 4, 2) := by decide +kernel
theorem dX8_pipe_65 : decode cX8_pipe 65 = .ok (.ireturn, 1) := by decide +kernel
theorem dX8_comes_0 : decode cX8_comes 0 = .ok (.aload_n 0, 1) := by decide +kernel
theorem dX8_comes_1 : decode cX8_comes 1 = .ok (.getfield 25, 3) := by decide +kernel
theorem dX8_comes_4 : decode cX8_comes 4 = .ok (.iload_n 1, 1) := by decide +kernel
theorem dX8_comes_5 : decode cX8_comes 5 = .ok (.iaload, 1) := by decide +kernel
theorem dX8_comes_6 : decode cX8_comes 6 = .ok (.istore_n 2, 1) := by decide +kernel
theorem dX8_comes_7 : decode cX8_comes 7 = .ok (.iconst 0, 1) := by decide +kernel
theorem dX8_comes_8 : decode cX8_comes 8 = .ok (.istore_n 3, 1) := by decide +kernel
theorem dX8_comes_9 : decode cX8_comes 9 = .ok (.iload_n 3, 1) := by decide +kernel
theorem dX8_comes_10 : decode cX8_comes 10 = .ok (.aload_n 0, 1) := by decide +kernel
theorem dX8_comes_11 : decode cX8_comes 11 = .ok (.getfield 64, 3) := by decide +kernel
theorem dX8_comes_14 : decode cX8_comes 14 = .ok (.if_icmp .ge 22, 3) := by decide +kernel
theorem dX8_comes_17 : decode cX8_comes 17 = .ok (.iload_n 2, 1) := by decide +kernel
theorem dX8_comes_18 : decode cX8_comes 18 = .ok (.aload_n 0, 1) := by decide +kernel
theorem dX8_comes_19 : decode cX8_comes 19 = .ok (.getfield 28, 3) := by decide +kernel
theorem dX8_comes_22 : decode cX8_comes 22 = .ok (.iconst 5, 1) := by decide +kernel
theorem dX8_comes_23 : decode cX8_comes 23 = .ok (.iload_n 3, 1) := by decide +kernel
theorem dX8_comes_24 : decode cX8_comes 24 = .ok (.imul, 1) := by decide +kernel
theorem dX8_comes_25 : decode cX8_comes 25 = .ok (.iload_n 1, 1) := by decide +kernel
theorem dX8_comes_26 : decode cX8_comes 26 = .ok (.iadd, 1) := by decide +kernel
theorem dX8_comes_27 : decode cX8_comes 27 = .ok (.iaload, 1) := by decide +kernel
theorem dX8_comes_28 : decode cX8_comes 28 = .ok (.iadd, 1) := by decide +kernel
theorem dX8_comes_29 : decode cX8_comes 29 = .ok (.istore_n 2, 1) := by decide +kernel
theorem dX8_comes_30 : decode cX8_comes 30 = .ok (.iinc 3 1, 3) := by decide +kernel
theorem dX8_comes_33 : decode cX8_comes 33 = .ok (.goto (-24), 3) := by decide +kernel
theorem dX8_comes_36 : decode cX8_comes 36 = .ok (.iload_n 2, 1) := by decide +kernel
theorem dX8_comes_37 : decode cX8_comes 37 = .ok (.ireturn, 1) := by decide +kernel
theorem dX8_goes_0 : decode cX8_goes 0 = .ok (.iconst 0, 1) := by decide +kernel
theorem dX8_goes_1 : decode cX8_goes 1 = .ok (.istore_n 2, 1) := by decide +kernel
theorem dX8_goes_2 : decode cX8_goes 2 = .ok (.iconst 0, 1) := by decide +kernel
theorem dX8_goes_3 : decode cX8_goes 3 = .ok (.istore_n 3, 1) := by decide +kernel
theorem dX8_goes_4 : decode cX8_goes 4 = .ok (.iload_n 3, 1) := by decide +kernel
theorem dX8_goes_5 : decode cX8_goes 5 = .ok (.aload_n 0, 1) := by decide +kernel
theorem dX8_goes_6 : decode cX8_goes 6 = .ok (.getfield 64, 3) := by decide +kernel
theorem dX8_goes_9 : decode cX8_goes 9 = .ok (.if_icmp .ge 22, 3) := by decide +kernel
theorem dX8_goes_12 : decode cX8_goes 12 = .ok (.iload_n 2, 1) := by decide +kernel
theorem dX8_goes_13 : decode cX8_goes 13 = .ok (.aload_n 0, 1) := by decide +kernel
theorem dX8_goes_14 : decode cX8_goes 14 = .ok (.getfield 28, 3) := by decide +kernel
theorem dX8_goes_17 : decode cX8_goes 17 = .ok (.iconst 5, 1) := by decide +kernel
theorem dX8_goes_18 : decode cX8_goes 18 = .ok (.iload_n 1, 1) := by decide +kernel
theorem dX8_goes_19 : decode cX8_goes 19 = .ok (.imul, 1) := by decide +kernel
theorem dX8_goes_20 : decode cX8_goes 20 = .ok (.iload_n 3, 1) := by decide +kernel
theorem dX8_goes_21 : decode cX8_goes 21 = .ok (.iadd, 1) := by decide +kernel
theorem dX8_goes_22 : decode cX8_goes 22 = .ok (.iaload, 1) := by decide +kernel
theorem dX8_goes_23 : decode cX8_goes 23 = .ok (.iadd, 1) := by decide +kernel
theorem dX8_goes_24 : decode cX8_goes 24 = .ok (.istore_n 2, 1) := by decide +kernel
theorem dX8_goes_25 : decode cX8_goes 25 = .ok (.iinc 3 1, 3) := by decide +kernel
theorem dX8_goes_28 : decode cX8_goes 28 = .ok (.goto (-24), 3) := by decide +kernel
theorem dX8_goes_31 : decode cX8_goes 31 = .ok (.iload_n 2, 1) := by decide +kernel
theorem dX8_goes_32 : decode cX8_goes 32 = .ok (.ireturn, 1) := by decide +kernel
theorem dX8_water_0 : decode cX8_water 0 = .ok (.aload_n 0, 1) := by decide +kernel
theorem dX8_water_1 : decode cX8_water 1 = .ok (.iconst 0, 1) := by decide +kernel
theorem dX8_water_2 : decode cX8_water 2 = .ok (.putfield 60, 3) := by decide +kernel
theorem dX8_water_5 : decode cX8_water 5 = .ok (.aload_n 0, 1) := by decide +kernel
theorem dX8_water_6 : decode cX8_water 6 = .ok (.iload_n 1, 1) := by decide +kernel
theorem dX8_water_7 : decode cX8_water 7 = .ok (.invokevirtual 76, 3) := by decide +kernel
theorem dX8_water_10 : decode cX8_water 10 = .ok (.ifCond .eq 13, 3) := by decide +kernel
theorem dX8_water_13 : decode cX8_water 13 = .ok (.iload_n 2, 1) := by decide +kernel
theorem dX8_water_14 : decode cX8_water 14 = .ok (.i2l, 1) := by decide +kernel
theorem dX8_water_15 : decode cX8_water 15 = .ok (.lconst 0, 1) := by decide +kernel
theorem dX8_water_16 : decode cX8_water 16 = .ok (.lconst 1, 1) := by decide +kernel
theorem dX8_water_17 : decode cX8_water 17 = .ok (.invokestatic 67, 3) := by decide +kernel
theorem dX8_water_20 : decode cX8_water 20 = .ok (.ifCond .ne 5, 3) := by decide +kernel
theorem dX8_water_23 : decode cX8_water 23 = .ok (.iconst (-1), 1) := by decide +kernel
theorem dX8_water_24 : decode cX8_water 24 = .ok (.ireturn, 1) := by decide +kernel
theorem dX8_water_25 : decode cX8_water 25 = .ok (.iload_n 2, 1) := by decide +kernel
theorem dX8_water_26 : decode cX8_water 26 = .ok (.ifCond .ne 11, 3) := by decide +kernel
theorem dX8_water_29 : decode cX8_water 29 = .ok (.aload_n 0, 1) := by decide +kernel
theorem dX8_water_30 : decode cX8_water 30 = .ok (.iload_n 1, 1) := by decide +kernel
theorem dX8_water_31 : decode cX8_water 31 = .ok (.invokevirtual 118, 3) := by decide +kernel
theorem dX8_water_34 : decode cX8_water 34 = .ok (.goto 8, 3) := by decide +kernel
theorem dX8_water_37 : decode cX8_water 37 = .ok (.aload_n 0, 1) := by decide +kernel
theorem dX8_water_38 : decode cX8_water 38 = .ok (.iload_n 1, 1) := by decide +kernel
theorem dX8_water_39 : decode cX8_water 39 = .ok (.invokevirtual 122, 3) := by decide +kernel
theorem dX8_water_42 : decode cX8_water 42 = .ok (.ireturn, 1) := by decide +kernel
theorem dX8_takes_0 : decode cX8_takes 0 = .ok (.lconst 0, 1) := by decide +kernel
theorem dX8_takes_1 : decode cX8_takes 1 = .ok (.lstore_n 2, 1) := by decide +kernel
theorem dX8_takes_2 : decode cX8_takes 2 = .ok (.lconst 1, 1) := by decide +kernel
theorem dX8_takes_3 : decode cX8_takes 3 = .ok (.lstore 4, 2) := by decide +kernel
theorem dX8_takes_5 : decode cX8_takes 5 = .ok (.iconst 0, 1) := by decide +kernel
theorem dX8_takes_6 : decode cX8_takes 6 = .ok (.istore 6, 2) := by decide +kernel
theorem dX8_takes_8 : decode cX8_takes 8 = .ok (.iload 6, 2) := by decide +kernel
theorem dX8_takes_10 : decode cX8_takes 10 = .ok (.aload_n 0, 1) := by decide +kernel
theorem dX8_takes_11 : decode cX8_takes 11 = .ok (.getfield 64, 3) := by decide +kernel
theorem dX8_takes_14 : decode cX8_takes 14 = .ok (.if_icmp .ge 92, 3) := by decide +kernel
theorem dX8_takes_17 : decode cX8_takes 17 = .ok (.aload_n 0, 1) := by decide +kernel
theorem dX8_takes_18 : decode cX8_takes 18 = .ok (.getfield 28, 3) := by decide +kernel
theorem dX8_takes_21 : decode cX8_takes 21 = .ok (.iconst 5, 1) := by decide +kernel
theorem dX8_takes_22 : decode cX8_takes 22 = .ok (.iload 6, 2) := by decide +kernel
theorem dX8_takes_24 : decode cX8_takes 24 = .ok (.imul, 1) := by decide +kernel
theorem dX8_takes_25 : decode cX8_takes 25 = .ok (.iload_n 1, 1) := by decide +kernel
theorem dX8_takes_26 : decode cX8_takes 26 = .ok (.iadd, 1) := by decide +kernel
theorem dX8_takes_27 : decode cX8_takes 27 = .ok (.iaload, 1) := by decide +kernel
theorem dX8_takes_28 : decode cX8_takes 28 = .ok (.ifCond .le 72, 3) := by decide +kernel
theorem dX8_takes_31 : decode cX8_takes 31 = .ok (.lload 4, 2) := by decide +kernel
theorem dX8_takes_33 : decode cX8_takes 33 = .ok (.aload_n 0, 1) := by decide +kernel
theorem dX8_takes_34 : decode cX8_takes 34 = .ok (.getfield 35, 3) := by decide +kernel
theorem dX8_takes_37 : decode cX8_takes 37 = .ok (.iload 6, 2) := by decide +kernel
theorem dX8_takes_39 : decode cX8_takes 39 = .ok (.laload, 1) := by decide +kernel
theorem dX8_takes_40 : decode cX8_takes 40 = .ok (.invokestatic 100, 3) := by decide +kernel
theorem dX8_takes_43 : decode cX8_takes 43 = .ok (.lstore 7, 2) := by decide +kernel
theorem dX8_takes_45 : decode cX8_takes 45 = .ok (.lload_n 2, 1) := by decide +kernel
theorem dX8_takes_46 : decode cX8_takes 46 = .ok (.aload_n 0, 1) := by decide +kernel
theorem dX8_takes_47 : decode cX8_takes 47 = .ok (.getfield 35, 3) := by decide +kernel
theorem dX8_takes_50 : decode cX8_takes 50 = .ok (.iload 6, 2) := by decide +kernel
theorem dX8_takes_52 : decode cX8_takes 52 = .ok (.laload, 1) := by decide +kernel
theorem dX8_takes_53 : decode cX8_takes 53 = .ok (.lload 7, 2) := by decide +kernel
theorem dX8_takes_55 : decode cX8_takes 55 = .ok (.ldiv, 1) := by decide +kernel
theorem dX8_takes_56 : decode cX8_takes 56 = .ok (.lmul, 1) := by decide +kernel
theorem dX8_takes_57 : decode cX8_takes 57 = .ok (.aload_n 0, 1) := by decide +kernel
theorem dX8_takes_58 : decode cX8_takes 58 = .ok (.getfield 31, 3) := by decide +kernel
theorem dX8_takes_61 : decode cX8_takes 61 = .ok (.iload 6, 2) := by decide +kernel
theorem dX8_takes_63 : decode cX8_takes 63 = .ok (.laload, 1) := by decide +kernel
theorem dX8_takes_64 : decode cX8_takes 64 = .ok (.aload_n 0, 1) := by decide +kernel
theorem dX8_takes_65 : decode cX8_takes 65 = .ok (.getfield 28, 3) := by decide +kernel
theorem dX8_takes_68 : decode cX8_takes 68 = .ok (.iconst 5, 1) := by decide +kernel
theorem dX8_takes_69 : decode cX8_takes 69 = .ok (.iload 6, 2) := by decide +kernel
theorem dX8_takes_71 : decode cX8_takes 71 = .ok (.imul, 1) := by decide +kernel
theorem dX8_takes_72 : decode cX8_takes 72 = .ok (.iload_n 1, 1) := by decide +kernel
theorem dX8_takes_73 : decode cX8_takes 73 = .ok (.iadd, 1) := by decide +kernel
theorem dX8_takes_74 : decode cX8_takes 74 = .ok (.iaload, 1) := by decide +kernel
theorem dX8_takes_75 : decode cX8_takes 75 = .ok (.i2l, 1) := by decide +kernel
theorem dX8_takes_76 : decode cX8_takes 76 = .ok (.lmul, 1) := by decide +kernel
theorem dX8_takes_77 : decode cX8_takes 77 = .ok (.lload 4, 2) := by decide +kernel
theorem dX8_takes_79 : decode cX8_takes 79 = .ok (.lload 7, 2) := by decide +kernel
theorem dX8_takes_81 : decode cX8_takes 81 = .ok (.ldiv, 1) := by decide +kernel
theorem dX8_takes_82 : decode cX8_takes 82 = .ok (.lmul, 1) := by decide +kernel
theorem dX8_takes_83 : decode cX8_takes 83 = .ok (.ladd, 1) := by decide +kernel
theorem dX8_takes_84 : decode cX8_takes 84 = .ok (.lstore_n 2, 1) := by decide +kernel
theorem dX8_takes_85 : decode cX8_takes 85 = .ok (.lload 4, 2) := by decide +kernel
theorem dX8_takes_87 : decode cX8_takes 87 = .ok (.lload 7, 2) := by decide +kernel
theorem dX8_takes_89 : decode cX8_takes 89 = .ok (.ldiv, 1) := by decide +kernel
theorem dX8_takes_90 : decode cX8_takes 90 = .ok (.aload_n 0, 1) := by decide +kernel
theorem dX8_takes_91 : decode cX8_takes 91 = .ok (.getfield 35, 3) := by decide +kernel
theorem dX8_takes_94 : decode cX8_takes 94 = .ok (.iload 6, 2) := by decide +kernel
theorem dX8_takes_96 : decode cX8_takes 96 = .ok (.laload, 1) := by decide +kernel
theorem dX8_takes_97 : decode cX8_takes 97 = .ok (.lmul, 1) := by decide +kernel
theorem dX8_takes_98 : decode cX8_takes 98 = .ok (.lstore 4, 2) := by decide +kernel
theorem dX8_takes_100 : decode cX8_takes 100 = .ok (.iinc 6 1, 3) := by decide +kernel
theorem dX8_takes_103 : decode cX8_takes 103 = .ok (.goto (-95), 3) := by decide +kernel
theorem dX8_takes_106 : decode cX8_takes 106 = .ok (.aload_n 0, 1) := by decide +kernel
theorem dX8_takes_107 : decode cX8_takes 107 = .ok (.iload_n 1, 1) := by decide +kernel
theorem dX8_takes_108 : decode cX8_takes 108 = .ok (.invokevirtual 118, 3) := by decide +kernel
theorem dX8_takes_111 : decode cX8_takes 111 = .ok (.istore 6, 2) := by decide +kernel
theorem dX8_takes_113 : decode cX8_takes 113 = .ok (.lload_n 2, 1) := by decide +kernel
theorem dX8_takes_114 : decode cX8_takes 114 = .ok (.lload 4, 2) := by decide +kernel
theorem dX8_takes_116 : decode cX8_takes 116 = .ok (.iload 6, 2) := by decide +kernel
theorem dX8_takes_118 : decode cX8_takes 118 = .ok (.i2l, 1) := by decide +kernel
theorem dX8_takes_119 : decode cX8_takes 119 = .ok (.lmul, 1) := by decide +kernel
theorem dX8_takes_120 : decode cX8_takes 120 = .ok (.invokestatic 100, 3) := by decide +kernel
theorem dX8_takes_123 : decode cX8_takes 123 = .ok (.lstore 7, 2) := by decide +kernel
theorem dX8_takes_125 : decode cX8_takes 125 = .ok (.aload_n 0, 1) := by decide +kernel
theorem dX8_takes_126 : decode cX8_takes 126 = .ok (.getfield 38, 3) := by decide +kernel
theorem dX8_takes_129 : decode cX8_takes 129 = .ok (.iload_n 1, 1) := by decide +kernel
theorem dX8_takes_130 : decode cX8_takes 130 = .ok (.lload_n 2, 1) := by decide +kernel
theorem dX8_takes_131 : decode cX8_takes 131 = .ok (.lload 7, 2) := by decide +kernel
theorem dX8_takes_133 : decode cX8_takes 133 = .ok (.ldiv, 1) := by decide +kernel
theorem dX8_takes_134 : decode cX8_takes 134 = .ok (.lastore, 1) := by decide +kernel
theorem dX8_takes_135 : decode cX8_takes 135 = .ok (.aload_n 0, 1) := by decide +kernel
theorem dX8_takes_136 : decode cX8_takes 136 = .ok (.getfield 41, 3) := by decide +kernel
theorem dX8_takes_139 : decode cX8_takes 139 = .ok (.iload_n 1, 1) := by decide +kernel
theorem dX8_takes_140 : decode cX8_takes 140 = .ok (.lload 4, 2) := by decide +kernel
theorem dX8_takes_142 : decode cX8_takes 142 = .ok (.iload 6, 2) := by decide +kernel
theorem dX8_takes_144 : decode cX8_takes 144 = .ok (.i2l, 1) := by decide +kernel
theorem dX8_takes_145 : decode cX8_takes 145 = .ok (.lmul, 1) := by decide +kernel
theorem dX8_takes_146 : decode cX8_takes 146 = .ok (.lload 7, 2) := by decide +kernel
theorem dX8_takes_148 : decode cX8_takes 148 = .ok (.ldiv, 1) := by decide +kernel
theorem dX8_takes_149 : decode cX8_takes 149 = .ok (.lastore, 1) := by decide +kernel
theorem dX8_takes_150 : decode cX8_takes 150 = .ok (.lload_n 2, 1) := by decide +kernel
theorem dX8_takes_151 : decode cX8_takes 151 = .ok (.aload_n 0, 1) := by decide +kernel
theorem dX8_takes_152 : decode cX8_takes 152 = .ok (.getfield 7, 3) := by decide +kernel
theorem dX8_takes_155 : decode cX8_takes 155 = .ok (.iload_n 1, 1) := by decide +kernel
theorem dX8_takes_156 : decode cX8_takes 156 = .ok (.iaload, 1) := by decide +kernel
theorem dX8_takes_157 : decode cX8_takes 157 = .ok (.i2l, 1) := by decide +kernel
theorem dX8_takes_158 : decode cX8_takes 158 = .ok (.lload 4, 2) := by decide +kernel
theorem dX8_takes_160 : decode cX8_takes 160 = .ok (.lmul, 1) := by decide +kernel
theorem dX8_takes_161 : decode cX8_takes 161 = .ok (.ladd, 1) := by decide +kernel
theorem dX8_takes_162 : decode cX8_takes 162 = .ok (.lstore_n 2, 1) := by decide +kernel
theorem dX8_takes_163 : decode cX8_takes 163 = .ok (.lload_n 2, 1) := by decide +kernel
theorem dX8_takes_164 : decode cX8_takes 164 = .ok (.lload 4, 2) := by decide +kernel
theorem dX8_takes_166 : decode cX8_takes 166 = .ok (.iload 6, 2) := by decide +kernel
theorem dX8_takes_168 : decode cX8_takes 168 = .ok (.i2l, 1) := by decide +kernel
theorem dX8_takes_169 : decode cX8_takes 169 = .ok (.lmul, 1) := by decide +kernel
theorem dX8_takes_170 : decode cX8_takes 170 = .ok (.invokestatic 100, 3) := by decide +kernel
theorem dX8_takes_173 : decode cX8_takes 173 = .ok (.lstore 7, 2) := by decide +kernel
theorem dX8_takes_175 : decode cX8_takes 175 = .ok (.aload_n 0, 1) := by decide +kernel
theorem dX8_takes_176 : decode cX8_takes 176 = .ok (.getfield 31, 3) := by decide +kernel
theorem dX8_takes_179 : decode cX8_takes 179 = .ok (.iload_n 1, 1) := by decide +kernel
theorem dX8_takes_180 : decode cX8_takes 180 = .ok (.lload_n 2, 1) := by decide +kernel
theorem dX8_takes_181 : decode cX8_takes 181 = .ok (.lload 7, 2) := by decide +kernel
theorem dX8_takes_183 : decode cX8_takes 183 = .ok (.ldiv, 1) := by decide +kernel
theorem dX8_takes_184 : decode cX8_takes 184 = .ok (.lastore, 1) := by decide +kernel
theorem dX8_takes_185 : decode cX8_takes 185 = .ok (.aload_n 0, 1) := by decide +kernel
theorem dX8_takes_186 : decode cX8_takes 186 = .ok (.getfield 35, 3) := by decide +kernel
theorem dX8_takes_189 : decode cX8_takes 189 = .ok (.iload_n 1, 1) := by decide +kernel
theorem dX8_takes_190 : decode cX8_takes 190 = .ok (.lload 4, 2) := by decide +kernel
theorem dX8_takes_192 : decode cX8_takes 192 = .ok (.iload 6, 2) := by decide +kernel
theorem dX8_takes_194 : decode cX8_takes 194 = .ok (.i2l, 1) := by decide +kernel
theorem dX8_takes_195 : decode cX8_takes 195 = .ok (.lmul, 1) := by decide +kernel
theorem dX8_takes_196 : decode cX8_takes 196 = .ok (.lload 7, 2) := by decide +kernel
theorem dX8_takes_198 : decode cX8_takes 198 = .ok (.ldiv, 1) := by decide +kernel
theorem dX8_takes_199 : decode cX8_takes 199 = .ok (.lastore, 1) := by decide +kernel
theorem dX8_takes_200 : decode cX8_takes 200 = .ok (.aload_n 0, 1) := by decide +kernel
theorem dX8_takes_201 : decode cX8_takes 201 = .ok (.getfield 44, 3) := by decide +kernel
theorem dX8_takes_204 : decode cX8_takes 204 = .ok (.iload_n 1, 1) := by decide +kernel
theorem dX8_takes_205 : decode cX8_takes 205 = .ok (.iconst 1, 1) := by decide +kernel
theorem dX8_takes_206 : decode cX8_takes 206 = .ok (.bastore, 1) := by decide +kernel
theorem dX8_takes_207 : decode cX8_takes 207 = .ok (.return_, 1) := by decide +kernel
theorem dX8_failsFirst_0 : decode cX8_failsFirst 0 = .ok (.iconst 0, 1) := by decide +kernel
theorem dX8_failsFirst_1 : decode cX8_failsFirst 1 = .ok (.istore_n 1, 1) := by decide +kernel
theorem dX8_failsFirst_2 : decode cX8_failsFirst 2 = .ok (.iload_n 1, 1) := by decide +kernel
theorem dX8_failsFirst_3 : decode cX8_failsFirst 3 = .ok (.aload_n 0, 1) := by decide +kernel
theorem dX8_failsFirst_4 : decode cX8_failsFirst 4 = .ok (.getfield 64, 3) := by decide +kernel
theorem dX8_failsFirst_7 : decode cX8_failsFirst 7 = .ok (.if_icmp .ge 22, 3) := by decide +kernel
theorem dX8_failsFirst_10 : decode cX8_failsFirst 10 = .ok (.aload_n 0, 1) := by decide +kernel
theorem dX8_failsFirst_11 : decode cX8_failsFirst 11 = .ok (.iload_n 1, 1) := by decide +kernel
theorem dX8_failsFirst_12 : decode cX8_failsFirst 12 = .ok (.invokevirtual 118, 3) := by decide +kernel
theorem dX8_failsFirst_15 : decode cX8_failsFirst 15 = .ok (.ifCond .ne 8, 3) := by decide +kernel
theorem dX8_failsFirst_18 : decode cX8_failsFirst 18 = .ok (.bipush 10, 2) := by decide +kernel
theorem dX8_failsFirst_20 : decode cX8_failsFirst 20 = .ok (.iload_n 1, 1) := by decide +kernel
theorem dX8_failsFirst_21 : decode cX8_failsFirst 21 = .ok (.iadd, 1) := by decide +kernel
theorem dX8_failsFirst_22 : decode cX8_failsFirst 22 = .ok (.ireturn, 1) := by decide +kernel
theorem dX8_failsFirst_23 : decode cX8_failsFirst 23 = .ok (.iinc 1 1, 3) := by decide +kernel
theorem dX8_failsFirst_26 : decode cX8_failsFirst 26 = .ok (.goto (-24), 3) := by decide +kernel
theorem dX8_failsFirst_29 : decode cX8_failsFirst 29 = .ok (.iconst 0, 1) := by decide +kernel
theorem dX8_failsFirst_30 : decode cX8_failsFirst 30 = .ok (.istore_n 1, 1) := by decide +kernel
theorem dX8_failsFirst_31 : decode cX8_failsFirst 31 = .ok (.iload_n 1, 1) := by decide +kernel
theorem dX8_failsFirst_32 : decode cX8_failsFirst 32 = .ok (.aload_n 0, 1) := by decide +kernel
theorem dX8_failsFirst_33 : decode cX8_failsFirst 33 = .ok (.getfield 64, 3) := by decide +kernel
theorem dX8_failsFirst_36 : decode cX8_failsFirst 36 = .ok (.if_icmp .ge 27, 3) := by decide +kernel
theorem dX8_failsFirst_39 : decode cX8_failsFirst 39 = .ok (.aload_n 0, 1) := by decide +kernel
theorem dX8_failsFirst_40 : decode cX8_failsFirst 40 = .ok (.iload_n 1, 1) := by decide +kernel
theorem dX8_failsFirst_41 : decode cX8_failsFirst 41 = .ok (.invokevirtual 122, 3) := by decide +kernel
theorem dX8_failsFirst_44 : decode cX8_failsFirst 44 = .ok (.aload_n 0, 1) := by decide +kernel
theorem dX8_failsFirst_45 : decode cX8_failsFirst 45 = .ok (.iload_n 1, 1) := by decide +kernel
theorem dX8_failsFirst_46 : decode cX8_failsFirst 46 = .ok (.invokevirtual 118, 3) := by decide +kernel
theorem dX8_failsFirst_49 : decode cX8_failsFirst 49 = .ok (.if_icmp .le 8, 3) := by decide +kernel
theorem dX8_failsFirst_52 : decode cX8_failsFirst 52 = .ok (.bipush 20, 2) := by decide +kernel
theorem dX8_failsFirst_54 : decode cX8_failsFirst 54 = .ok (.iload_n 1, 1) := by decide +kernel
theorem dX8_failsFirst_55 : decode cX8_failsFirst 55 = .ok (.iadd, 1) := by decide +kernel
theorem dX8_failsFirst_56 : decode cX8_failsFirst 56 = .ok (.ireturn, 1) := by decide +kernel
theorem dX8_failsFirst_57 : decode cX8_failsFirst 57 = .ok (.iinc 1 1, 3) := by decide +kernel
theorem dX8_failsFirst_60 : decode cX8_failsFirst 60 = .ok (.goto (-29), 3) := by decide +kernel
theorem dX8_failsFirst_63 : decode cX8_failsFirst 63 = .ok (.iconst 0, 1) := by decide +kernel
theorem dX8_failsFirst_64 : decode cX8_failsFirst 64 = .ok (.istore_n 1, 1) := by decide +kernel
theorem dX8_failsFirst_65 : decode cX8_failsFirst 65 = .ok (.iload_n 1, 1) := by decide +kernel
theorem dX8_failsFirst_66 : decode cX8_failsFirst 66 = .ok (.aload_n 0, 1) := by decide +kernel
theorem dX8_failsFirst_67 : decode cX8_failsFirst 67 = .ok (.getfield 64, 3) := by decide +kernel
theorem dX8_failsFirst_70 : decode cX8_failsFirst 70 = .ok (.if_icmp .ge 16, 3) := by decide +kernel
theorem dX8_failsFirst_73 : decode cX8_failsFirst 73 = .ok (.aload_n 0, 1) := by decide +kernel
theorem dX8_failsFirst_74 : decode cX8_failsFirst 74 = .ok (.getfield 44, 3) := by decide +kernel
theorem dX8_failsFirst_77 : decode cX8_failsFirst 77 = .ok (.iload_n 1, 1) := by decide +kernel
theorem dX8_failsFirst_78 : decode cX8_failsFirst 78 = .ok (.iconst 0, 1) := by decide +kernel
theorem dX8_failsFirst_79 : decode cX8_failsFirst 79 = .ok (.bastore, 1) := by decide +kernel
theorem dX8_failsFirst_80 : decode cX8_failsFirst 80 = .ok (.iinc 1 1, 3) := by decide +kernel
theorem dX8_failsFirst_83 : decode cX8_failsFirst 83 = .ok (.goto (-18), 3) := by decide +kernel
theorem dX8_failsFirst_86 : decode cX8_failsFirst 86 = .ok (.iconst 1, 1) := by decide +kernel
theorem dX8_failsFirst_87 : decode cX8_failsFirst 87 = .ok (.istore_n 1, 1) := by decide +kernel
theorem dX8_failsFirst_88 : decode cX8_failsFirst 88 = .ok (.iload_n 1, 1) := by decide +kernel
theorem dX8_failsFirst_89 : decode cX8_failsFirst 89 = .ok (.ifCond .eq 100, 3) := by decide +kernel
theorem dX8_failsFirst_92 : decode cX8_failsFirst 92 = .ok (.iconst 0, 1) := by decide +kernel
theorem dX8_failsFirst_93 : decode cX8_failsFirst 93 = .ok (.istore_n 1, 1) := by decide +kernel
theorem dX8_failsFirst_94 : decode cX8_failsFirst 94 = .ok (.iconst 0, 1) := by decide +kernel
theorem dX8_failsFirst_95 : decode cX8_failsFirst 95 = .ok (.istore_n 2, 1) := by decide +kernel
theorem dX8_failsFirst_96 : decode cX8_failsFirst 96 = .ok (.iload_n 2, 1) := by decide +kernel
theorem dX8_failsFirst_97 : decode cX8_failsFirst 97 = .ok (.aload_n 0, 1) := by decide +kernel
theorem dX8_failsFirst_98 : decode cX8_failsFirst 98 = .ok (.getfield 64, 3) := by decide +kernel
theorem dX8_failsFirst_101 : decode cX8_failsFirst 101 = .ok (.if_icmp .ge 85, 3) := by decide +kernel
theorem dX8_failsFirst_104 : decode cX8_failsFirst 104 = .ok (.aload_n 0, 1) := by decide +kernel
theorem dX8_failsFirst_105 : decode cX8_failsFirst 105 = .ok (.getfield 44, 3) := by decide +kernel
theorem dX8_failsFirst_108 : decode cX8_failsFirst 108 = .ok (.iload_n 2, 1) := by decide +kernel
theorem dX8_failsFirst_109 : decode cX8_failsFirst 109 = .ok (.baload, 1) := by decide +kernel
theorem dX8_failsFirst_110 : decode cX8_failsFirst 110 = .ok (.ifCond .ne 7, 3) := by decide +kernel
theorem dX8_failsFirst_113 : decode cX8_failsFirst 113 = .ok (.iconst 1, 1) := by decide +kernel
theorem dX8_failsFirst_114 : decode cX8_failsFirst 114 = .ok (.goto 4, 3) := by decide +kernel
theorem dX8_failsFirst_117 : decode cX8_failsFirst 117 = .ok (.iconst 0, 1) := by decide +kernel
theorem dX8_failsFirst_118 : decode cX8_failsFirst 118 = .ok (.istore_n 3, 1) := by decide +kernel
theorem dX8_failsFirst_119 : decode cX8_failsFirst 119 = .ok (.iconst 0, 1) := by decide +kernel
theorem dX8_failsFirst_120 : decode cX8_failsFirst 120 = .ok (.istore 4, 2) := by decide +kernel
theorem dX8_failsFirst_122 : decode cX8_failsFirst 122 = .ok (.iload 4, 2) := by decide +kernel
theorem dX8_failsFirst_124 : decode cX8_failsFirst 124 = .ok (.aload_n 0, 1) := by decide +kernel
theorem dX8_failsFirst_125 : decode cX8_failsFirst 125 = .ok (.getfield 64, 3) := by decide +kernel
theorem dX8_failsFirst_128 : decode cX8_failsFirst 128 = .ok (.if_icmp .ge 41, 3) := by decide +kernel
theorem dX8_failsFirst_131 : decode cX8_failsFirst 131 = .ok (.iload_n 3, 1) := by decide +kernel
theorem dX8_failsFirst_132 : decode cX8_failsFirst 132 = .ok (.aload_n 0, 1) := by decide +kernel
theorem dX8_failsFirst_133 : decode cX8_failsFirst 133 = .ok (.getfield 28, 3) := by decide +kernel
theorem dX8_failsFirst_136 : decode cX8_failsFirst 136 = .ok (.iconst 5, 1) := by decide +kernel
theorem dX8_failsFirst_137 : decode cX8_failsFirst 137 = .ok (.iload 4, 2) := by decide +kernel
theorem dX8_failsFirst_139 : decode cX8_failsFirst 139 = .ok (.imul, 1) := by decide +kernel
theorem dX8_failsFirst_140 : decode cX8_failsFirst 140 = .ok (.iload_n 2, 1) := by decide +kernel
theorem dX8_failsFirst_141 : decode cX8_failsFirst 141 = .ok (.iadd, 1) := by decide +kernel
theorem dX8_failsFirst_142 : decode cX8_failsFirst 142 = .ok (.iaload, 1) := by decide +kernel
theorem dX8_failsFirst_143 : decode cX8_failsFirst 143 = .ok (.ifCond .eq 13, 3) := by decide +kernel
theorem dX8_failsFirst_146 : decode cX8_failsFirst 146 = .ok (.aload_n 0, 1) := by decide +kernel
theorem dX8_failsFirst_147 : decode cX8_failsFirst 147 = .ok (.getfield 44, 3) := by decide +kernel
theorem dX8_failsFirst_150 : decode cX8_failsFirst 150 = .ok (.iload 4, 2) := by decide +kernel
theorem dX8_failsFirst_152 : decode cX8_failsFirst 152 = .ok (.baload, 1) := by decide +kernel
theorem dX8_failsFirst_153 : decode cX8_failsFirst 153 = .ok (.ifCond .eq 7, 3) := by decide +kernel
theorem dX8_failsFirst_156 : decode cX8_failsFirst 156 = .ok (.iconst 1, 1) := by decide +kernel
theorem dX8_failsFirst_157 : decode cX8_failsFirst 157 = .ok (.goto 4, 3) := by decide +kernel
theorem dX8_failsFirst_160 : decode cX8_failsFirst 160 = .ok (.iconst 0, 1) := by decide +kernel
theorem dX8_failsFirst_161 : decode cX8_failsFirst 161 = .ok (.iand, 1) := by decide +kernel
theorem dX8_failsFirst_162 : decode cX8_failsFirst 162 = .ok (.istore_n 3, 1) := by decide +kernel
theorem dX8_failsFirst_163 : decode cX8_failsFirst 163 = .ok (.iinc 4 1, 3) := by decide +kernel
theorem dX8_failsFirst_166 : decode cX8_failsFirst 166 = .ok (.goto (-44), 3) := by decide +kernel
theorem dX8_failsFirst_169 : decode cX8_failsFirst 169 = .ok (.iload_n 3, 1) := by decide +kernel
theorem dX8_failsFirst_170 : decode cX8_failsFirst 170 = .ok (.ifCond .eq 10, 3) := by decide +kernel
theorem dX8_failsFirst_173 : decode cX8_failsFirst 173 = .ok (.aload_n 0, 1) := by decide +kernel
theorem dX8_failsFirst_174 : decode cX8_failsFirst 174 = .ok (.iload_n 2, 1) := by decide +kernel
theorem dX8_failsFirst_175 : decode cX8_failsFirst 175 = .ok (.invokevirtual 125, 3) := by decide +kernel
theorem dX8_failsFirst_178 : decode cX8_failsFirst 178 = .ok (.iconst 1, 1) := by decide +kernel
theorem dX8_failsFirst_179 : decode cX8_failsFirst 179 = .ok (.istore_n 1, 1) := by decide +kernel
theorem dX8_failsFirst_180 : decode cX8_failsFirst 180 = .ok (.iinc 2 1, 3) := by decide +kernel
theorem dX8_failsFirst_183 : decode cX8_failsFirst 183 = .ok (.goto (-87), 3) := by decide +kernel
theorem dX8_failsFirst_186 : decode cX8_failsFirst 186 = .ok (.goto (-98), 3) := by decide +kernel
theorem dX8_failsFirst_189 : decode cX8_failsFirst 189 = .ok (.iconst 0, 1) := by decide +kernel
theorem dX8_failsFirst_190 : decode cX8_failsFirst 190 = .ok (.istore_n 2, 1) := by decide +kernel
theorem dX8_failsFirst_191 : decode cX8_failsFirst 191 = .ok (.iload_n 2, 1) := by decide +kernel
theorem dX8_failsFirst_192 : decode cX8_failsFirst 192 = .ok (.aload_n 0, 1) := by decide +kernel
theorem dX8_failsFirst_193 : decode cX8_failsFirst 193 = .ok (.getfield 64, 3) := by decide +kernel
theorem dX8_failsFirst_196 : decode cX8_failsFirst 196 = .ok (.if_icmp .ge 23, 3) := by decide +kernel
theorem dX8_failsFirst_199 : decode cX8_failsFirst 199 = .ok (.aload_n 0, 1) := by decide +kernel
theorem dX8_failsFirst_200 : decode cX8_failsFirst 200 = .ok (.getfield 44, 3) := by decide +kernel
theorem dX8_failsFirst_203 : decode cX8_failsFirst 203 = .ok (.iload_n 2, 1) := by decide +kernel
theorem dX8_failsFirst_204 : decode cX8_failsFirst 204 = .ok (.baload, 1) := by decide +kernel
theorem dX8_failsFirst_205 : decode cX8_failsFirst 205 = .ok (.ifCond .ne 8, 3) := by decide +kernel
theorem dX8_failsFirst_208 : decode cX8_failsFirst 208 = .ok (.bipush 30, 2) := by decide +kernel
theorem dX8_failsFirst_210 : decode cX8_failsFirst 210 = .ok (.iload_n 2, 1) := by decide +kernel
theorem dX8_failsFirst_211 : decode cX8_failsFirst 211 = .ok (.iadd, 1) := by decide +kernel
theorem dX8_failsFirst_212 : decode cX8_failsFirst 212 = .ok (.ireturn, 1) := by decide +kernel
theorem dX8_failsFirst_213 : decode cX8_failsFirst 213 = .ok (.iinc 2 1, 3) := by decide +kernel
theorem dX8_failsFirst_216 : decode cX8_failsFirst 216 = .ok (.goto (-25), 3) := by decide +kernel
theorem dX8_failsFirst_219 : decode cX8_failsFirst 219 = .ok (.iconst 0, 1) := by decide +kernel
theorem dX8_failsFirst_220 : decode cX8_failsFirst 220 = .ok (.ireturn, 1) := by decide +kernel
theorem dX8_fails_0 : decode cX8_fails 0 = .ok (.aload_n 0, 1) := by decide +kernel
theorem dX8_fails_1 : decode cX8_fails 1 = .ok (.iconst 0, 1) := by decide +kernel
theorem dX8_fails_2 : decode cX8_fails 2 = .ok (.putfield 60, 3) := by decide +kernel
theorem dX8_fails_5 : decode cX8_fails 5 = .ok (.aload_n 0, 1) := by decide +kernel
theorem dX8_fails_6 : decode cX8_fails 6 = .ok (.invokevirtual 129, 3) := by decide +kernel
theorem dX8_fails_9 : decode cX8_fails 9 = .ok (.istore_n 1, 1) := by decide +kernel
theorem dX8_fails_10 : decode cX8_fails 10 = .ok (.iload_n 1, 1) := by decide +kernel
theorem dX8_fails_11 : decode cX8_fails 11 = .ok (.ifCond .le 5, 3) := by decide +kernel
theorem dX8_fails_14 : decode cX8_fails 14 = .ok (.iload_n 1, 1) := by decide +kernel
theorem dX8_fails_15 : decode cX8_fails 15 = .ok (.ireturn, 1) := by decide +kernel
theorem dX8_fails_16 : decode cX8_fails 16 = .ok (.iconst 0, 1) := by decide +kernel
theorem dX8_fails_17 : decode cX8_fails 17 = .ok (.istore_n 2, 1) := by decide +kernel
theorem dX8_fails_18 : decode cX8_fails 18 = .ok (.iload_n 2, 1) := by decide +kernel
theorem dX8_fails_19 : decode cX8_fails 19 = .ok (.aload_n 0, 1) := by decide +kernel
theorem dX8_fails_20 : decode cX8_fails 20 = .ok (.getfield 64, 3) := by decide +kernel
theorem dX8_fails_23 : decode cX8_fails 23 = .ok (.if_icmp .ge 38, 3) := by decide +kernel
theorem dX8_fails_26 : decode cX8_fails 26 = .ok (.aload_n 0, 1) := by decide +kernel
theorem dX8_fails_27 : decode cX8_fails 27 = .ok (.getfield 38, 3) := by decide +kernel
theorem dX8_fails_30 : decode cX8_fails 30 = .ok (.iload_n 2, 1) := by decide +kernel
theorem dX8_fails_31 : decode cX8_fails 31 = .ok (.laload, 1) := by decide +kernel
theorem dX8_fails_32 : decode cX8_fails 32 = .ok (.aload_n 0, 1) := by decide +kernel
theorem dX8_fails_33 : decode cX8_fails 33 = .ok (.getfield 13, 3) := by decide +kernel
theorem dX8_fails_36 : decode cX8_fails 36 = .ok (.iload_n 2, 1) := by decide +kernel
theorem dX8_fails_37 : decode cX8_fails 37 = .ok (.iaload, 1) := by decide +kernel
theorem dX8_fails_38 : decode cX8_fails 38 = .ok (.i2l, 1) := by decide +kernel
theorem dX8_fails_39 : decode cX8_fails 39 = .ok (.aload_n 0, 1) := by decide +kernel
theorem dX8_fails_40 : decode cX8_fails 40 = .ok (.getfield 41, 3) := by decide +kernel
theorem dX8_fails_43 : decode cX8_fails 43 = .ok (.iload_n 2, 1) := by decide +kernel
theorem dX8_fails_44 : decode cX8_fails 44 = .ok (.laload, 1) := by decide +kernel
theorem dX8_fails_45 : decode cX8_fails 45 = .ok (.lmul, 1) := by decide +kernel
theorem dX8_fails_46 : decode cX8_fails 46 = .ok (.lcmp, 1) := by decide +kernel
theorem dX8_fails_47 : decode cX8_fails 47 = .ok (.ifCond .le 8, 3) := by decide +kernel
theorem dX8_fails_50 : decode cX8_fails 50 = .ok (.bipush 40, 2) := by decide +kernel
theorem dX8_fails_52 : decode cX8_fails 52 = .ok (.iload_n 2, 1) := by decide +kernel
theorem dX8_fails_53 : decode cX8_fails 53 = .ok (.iadd, 1) := by decide +kernel
theorem dX8_fails_54 : decode cX8_fails 54 = .ok (.ireturn, 1) := by decide +kernel
theorem dX8_fails_55 : decode cX8_fails 55 = .ok (.iinc 2 1, 3) := by decide +kernel
theorem dX8_fails_58 : decode cX8_fails 58 = .ok (.goto (-40), 3) := by decide +kernel
theorem dX8_fails_61 : decode cX8_fails 61 = .ok (.iconst 0, 1) := by decide +kernel
theorem dX8_fails_62 : decode cX8_fails 62 = .ok (.istore_n 2, 1) := by decide +kernel
theorem dX8_fails_63 : decode cX8_fails 63 = .ok (.iload_n 2, 1) := by decide +kernel
theorem dX8_fails_64 : decode cX8_fails 64 = .ok (.aload_n 0, 1) := by decide +kernel
theorem dX8_fails_65 : decode cX8_fails 65 = .ok (.getfield 64, 3) := by decide +kernel
theorem dX8_fails_68 : decode cX8_fails 68 = .ok (.if_icmp .ge 43, 3) := by decide +kernel
theorem dX8_fails_71 : decode cX8_fails 71 = .ok (.aload_n 0, 1) := by decide +kernel
theorem dX8_fails_72 : decode cX8_fails 72 = .ok (.getfield 31, 3) := by decide +kernel
theorem dX8_fails_75 : decode cX8_fails 75 = .ok (.iload_n 2, 1) := by decide +kernel
theorem dX8_fails_76 : decode cX8_fails 76 = .ok (.laload, 1) := by decide +kernel
theorem dX8_fails_77 : decode cX8_fails 77 = .ok (.aload_n 0, 1) := by decide +kernel
theorem dX8_fails_78 : decode cX8_fails 78 = .ok (.aload_n 0, 1) := by decide +kernel
theorem dX8_fails_79 : decode cX8_fails 79 = .ok (.getfield 22, 3) := by decide +kernel
theorem dX8_fails_82 : decode cX8_fails 82 = .ok (.iconst 2, 1) := by decide +kernel
theorem dX8_fails_83 : decode cX8_fails 83 = .ok (.iaload, 1) := by decide +kernel
theorem dX8_fails_84 : decode cX8_fails 84 = .ok (.iload_n 2, 1) := by decide +kernel
theorem dX8_fails_85 : decode cX8_fails 85 = .ok (.invokevirtual 96, 3) := by decide +kernel
theorem dX8_fails_88 : decode cX8_fails 88 = .ok (.i2l, 1) := by decide +kernel
theorem dX8_fails_89 : decode cX8_fails 89 = .ok (.aload_n 0, 1) := by decide +kernel
theorem dX8_fails_90 : decode cX8_fails 90 = .ok (.getfield 35, 3) := by decide +kernel
theorem dX8_fails_93 : decode cX8_fails 93 = .ok (.iload_n 2, 1) := by decide +kernel
theorem dX8_fails_94 : decode cX8_fails 94 = .ok (.laload, 1) := by decide +kernel
theorem dX8_fails_95 : decode cX8_fails 95 = .ok (.lmul, 1) := by decide +kernel
theorem dX8_fails_96 : decode cX8_fails 96 = .ok (.lcmp, 1) := by decide +kernel
theorem dX8_fails_97 : decode cX8_fails 97 = .ok (.ifCond .le 8, 3) := by decide +kernel
theorem dX8_fails_100 : decode cX8_fails 100 = .ok (.bipush 50, 2) := by decide +kernel
theorem dX8_fails_102 : decode cX8_fails 102 = .ok (.iload_n 2, 1) := by decide +kernel
theorem dX8_fails_103 : decode cX8_fails 103 = .ok (.iadd, 1) := by decide +kernel
theorem dX8_fails_104 : decode cX8_fails 104 = .ok (.ireturn, 1) := by decide +kernel
theorem dX8_fails_105 : decode cX8_fails 105 = .ok (.iinc 2 1, 3) := by decide +kernel
theorem dX8_fails_108 : decode cX8_fails 108 = .ok (.goto (-45), 3) := by decide +kernel
theorem dX8_fails_111 : decode cX8_fails 111 = .ok (.iconst 0, 1) := by decide +kernel
theorem dX8_fails_112 : decode cX8_fails 112 = .ok (.ireturn, 1) := by decide +kernel
theorem dX8_at_0 : decode cX8_at 0 = .ok (.aload_n 0, 1) := by decide +kernel
theorem dX8_at_1 : decode cX8_at 1 = .ok (.iconst 0, 1) := by decide +kernel
theorem dX8_at_2 : decode cX8_at 2 = .ok (.putfield 60, 3) := by decide +kernel
theorem dX8_at_5 : decode cX8_at 5 = .ok (.aload_n 0, 1) := by decide +kernel
theorem dX8_at_6 : decode cX8_at 6 = .ok (.iload_n 1, 1) := by decide +kernel
theorem dX8_at_7 : decode cX8_at 7 = .ok (.invokevirtual 76, 3) := by decide +kernel
theorem dX8_at_10 : decode cX8_at 10 = .ok (.ifCond .eq 13, 3) := by decide +kernel
theorem dX8_at_13 : decode cX8_at 13 = .ok (.iload_n 2, 1) := by decide +kernel
theorem dX8_at_14 : decode cX8_at 14 = .ok (.i2l, 1) := by decide +kernel
theorem dX8_at_15 : decode cX8_at 15 = .ok (.lconst 0, 1) := by decide +kernel
theorem dX8_at_16 : decode cX8_at 16 = .ok (.lconst 1, 1) := by decide +kernel
theorem dX8_at_17 : decode cX8_at 17 = .ok (.invokestatic 67, 3) := by decide +kernel
theorem dX8_at_20 : decode cX8_at 20 = .ok (.ifCond .ne 7, 3) := by decide +kernel
theorem dX8_at_23 : decode cX8_at 23 = .ok (.ldc2_w 104, 3) := by decide +kernel
theorem dX8_at_26 : decode cX8_at 26 = .ok (.lreturn, 1) := by decide +kernel
theorem dX8_at_27 : decode cX8_at 27 = .ok (.aload_n 0, 1) := by decide +kernel
theorem dX8_at_28 : decode cX8_at 28 = .ok (.invokevirtual 129, 3) := by decide +kernel
theorem dX8_at_31 : decode cX8_at 31 = .ok (.ifCond .le 7, 3) := by decide +kernel
theorem dX8_at_34 : decode cX8_at 34 = .ok (.ldc2_w 132, 3) := by decide +kernel
theorem dX8_at_37 : decode cX8_at 37 = .ok (.lreturn, 1) := by decide +kernel
theorem dX8_at_38 : decode cX8_at 38 = .ok (.iload_n 2, 1) := by decide +kernel
theorem dX8_at_39 : decode cX8_at 39 = .ok (.ifCond .ne 12, 3) := by decide +kernel
theorem dX8_at_42 : decode cX8_at 42 = .ok (.aload_n 0, 1) := by decide +kernel
theorem dX8_at_43 : decode cX8_at 43 = .ok (.getfield 31, 3) := by decide +kernel
theorem dX8_at_46 : decode cX8_at 46 = .ok (.iload_n 1, 1) := by decide +kernel
theorem dX8_at_47 : decode cX8_at 47 = .ok (.laload, 1) := by decide +kernel
theorem dX8_at_48 : decode cX8_at 48 = .ok (.goto 9, 3) := by decide +kernel
theorem dX8_at_51 : decode cX8_at 51 = .ok (.aload_n 0, 1) := by decide +kernel
theorem dX8_at_52 : decode cX8_at 52 = .ok (.getfield 35, 3) := by decide +kernel
theorem dX8_at_55 : decode cX8_at 55 = .ok (.iload_n 1, 1) := by decide +kernel
theorem dX8_at_56 : decode cX8_at 56 = .ok (.laload, 1) := by decide +kernel
theorem dX8_at_57 : decode cX8_at 57 = .ok (.lreturn, 1) := by decide +kernel
theorem dX8_hit_0 : decode cX8_hit 0 = .ok (.aload_n 0, 1) := by decide +kernel
theorem dX8_hit_1 : decode cX8_hit 1 = .ok (.iconst 0, 1) := by decide +kernel
theorem dX8_hit_2 : decode cX8_hit 2 = .ok (.putfield 60, 3) := by decide +kernel
theorem dX8_hit_5 : decode cX8_hit 5 = .ok (.aload_n 0, 1) := by decide +kernel
theorem dX8_hit_6 : decode cX8_hit 6 = .ok (.iload_n 1, 1) := by decide +kernel
theorem dX8_hit_7 : decode cX8_hit 7 = .ok (.invokevirtual 76, 3) := by decide +kernel
theorem dX8_hit_10 : decode cX8_hit 10 = .ok (.ifCond .eq 23, 3) := by decide +kernel
theorem dX8_hit_13 : decode cX8_hit 13 = .ok (.iload_n 2, 1) := by decide +kernel
theorem dX8_hit_14 : decode cX8_hit 14 = .ok (.i2l, 1) := by decide +kernel
theorem dX8_hit_15 : decode cX8_hit 15 = .ok (.lconst 0, 1) := by decide +kernel
theorem dX8_hit_16 : decode cX8_hit 16 = .ok (.ldc2_w 70, 3) := by decide +kernel
theorem dX8_hit_19 : decode cX8_hit 19 = .ok (.invokestatic 67, 3) := by decide +kernel
theorem dX8_hit_22 : decode cX8_hit 22 = .ok (.ifCond .eq 11, 3) := by decide +kernel
theorem dX8_hit_25 : decode cX8_hit 25 = .ok (.aload_n 0, 1) := by decide +kernel
theorem dX8_hit_26 : decode cX8_hit 26 = .ok (.iload_n 3, 1) := by decide +kernel
theorem dX8_hit_27 : decode cX8_hit 27 = .ok (.invokevirtual 76, 3) := by decide +kernel
theorem dX8_hit_30 : decode cX8_hit 30 = .ok (.ifCond .ne 5, 3) := by decide +kernel
theorem dX8_hit_33 : decode cX8_hit 33 = .ok (.iconst (-1), 1) := by decide +kernel
theorem dX8_hit_34 : decode cX8_hit 34 = .ok (.ireturn, 1) := by decide +kernel
theorem dX8_hit_35 : decode cX8_hit 35 = .ok (.iconst 0, 1) := by decide +kernel
theorem dX8_hit_36 : decode cX8_hit 36 = .ok (.istore 4, 2) := by decide +kernel
theorem dX8_hit_38 : decode cX8_hit 38 = .ok (.iload 4, 2) := by decide +kernel
theorem dX8_hit_40 : decode cX8_hit 40 = .ok (.aload_n 0, 1) := by decide +kernel
theorem dX8_hit_41 : decode cX8_hit 41 = .ok (.getfield 64, 3) := by decide +kernel
theorem dX8_hit_44 : decode cX8_hit 44 = .ok (.if_icmp .ge 28, 3) := by decide +kernel
theorem dX8_hit_47 : decode cX8_hit 47 = .ok (.aload_n 0, 1) := by decide +kernel
theorem dX8_hit_48 : decode cX8_hit 48 = .ok (.getfield 48, 3) := by decide +kernel
theorem dX8_hit_51 : decode cX8_hit 51 = .ok (.iload 4, 2) := by decide +kernel
theorem dX8_hit_53 : decode cX8_hit 53 = .ok (.iload 4, 2) := by decide +kernel
theorem dX8_hit_55 : decode cX8_hit 55 = .ok (.iload_n 1, 1) := by decide +kernel
theorem dX8_hit_56 : decode cX8_hit 56 = .ok (.if_icmp .ne 7, 3) := by decide +kernel
theorem dX8_hit_59 : decode cX8_hit 59 = .ok (.iload_n 2, 1) := by decide +kernel
theorem dX8_hit_60 : decode cX8_hit 60 = .ok (.goto 5, 3) := by decide +kernel
theorem dX8_hit_63 : decode cX8_hit 63 = .ok (.ldc 134, 2) := by decide +kernel
theorem dX8_hit_65 : decode cX8_hit 65 = .ok (.iastore, 1) := by decide +kernel
theorem dX8_hit_66 : decode cX8_hit 66 = .ok (.iinc 4 1, 3) := by decide +kernel
theorem dX8_hit_69 : decode cX8_hit 69 = .ok (.goto (-31), 3) := by decide +kernel
theorem dX8_hit_72 : decode cX8_hit 72 = .ok (.iconst 0, 1) := by decide +kernel
theorem dX8_hit_73 : decode cX8_hit 73 = .ok (.istore 4, 2) := by decide +kernel
theorem dX8_hit_75 : decode cX8_hit 75 = .ok (.iload 4, 2) := by decide +kernel
theorem dX8_hit_77 : decode cX8_hit 77 = .ok (.iconst 5, 1) := by decide +kernel
theorem dX8_hit_78 : decode cX8_hit 78 = .ok (.if_icmp .ge 113, 3) := by decide +kernel
theorem dX8_hit_81 : decode cX8_hit 81 = .ok (.iconst 0, 1) := by decide +kernel
theorem dX8_hit_82 : decode cX8_hit 82 = .ok (.istore 5, 2) := by decide +kernel
theorem dX8_hit_84 : decode cX8_hit 84 = .ok (.iload 5, 2) := by decide +kernel
theorem dX8_hit_86 : decode cX8_hit 86 = .ok (.aload_n 0, 1) := by decide +kernel
theorem dX8_hit_87 : decode cX8_hit 87 = .ok (.getfield 64, 3) := by decide +kernel
theorem dX8_hit_90 : decode cX8_hit 90 = .ok (.if_icmp .ge 95, 3) := by decide +kernel
theorem dX8_hit_93 : decode cX8_hit 93 = .ok (.iconst 0, 1) := by decide +kernel
theorem dX8_hit_94 : decode cX8_hit 94 = .ok (.istore 6, 2) := by decide +kernel
theorem dX8_hit_96 : decode cX8_hit 96 = .ok (.iload 6, 2) := by decide +kernel
theorem dX8_hit_98 : decode cX8_hit 98 = .ok (.aload_n 0, 1) := by decide +kernel
theorem dX8_hit_99 : decode cX8_hit 99 = .ok (.getfield 64, 3) := by decide +kernel
theorem dX8_hit_102 : decode cX8_hit 102 = .ok (.if_icmp .ge 77, 3) := by decide +kernel
theorem dX8_hit_105 : decode cX8_hit 105 = .ok (.iload 5, 2) := by decide +kernel
theorem dX8_hit_107 : decode cX8_hit 107 = .ok (.iload_n 1, 1) := by decide +kernel
theorem dX8_hit_108 : decode cX8_hit 108 = .ok (.if_icmp .eq 65, 3) := by decide +kernel
theorem dX8_hit_111 : decode cX8_hit 111 = .ok (.aload_n 0, 1) := by decide +kernel
theorem dX8_hit_112 : decode cX8_hit 112 = .ok (.getfield 28, 3) := by decide +kernel
theorem dX8_hit_115 : decode cX8_hit 115 = .ok (.iconst 5, 1) := by decide +kernel
theorem dX8_hit_116 : decode cX8_hit 116 = .ok (.iload 6, 2) := by decide +kernel
theorem dX8_hit_118 : decode cX8_hit 118 = .ok (.imul, 1) := by decide +kernel
theorem dX8_hit_119 : decode cX8_hit 119 = .ok (.iload 5, 2) := by decide +kernel
theorem dX8_hit_121 : decode cX8_hit 121 = .ok (.iadd, 1) := by decide +kernel
theorem dX8_hit_122 : decode cX8_hit 122 = .ok (.iaload, 1) := by decide +kernel
theorem dX8_hit_123 : decode cX8_hit 123 = .ok (.ifCond .le 50, 3) := by decide +kernel
theorem dX8_hit_126 : decode cX8_hit 126 = .ok (.aload_n 0, 1) := by decide +kernel
theorem dX8_hit_127 : decode cX8_hit 127 = .ok (.getfield 48, 3) := by decide +kernel
theorem dX8_hit_130 : decode cX8_hit 130 = .ok (.iload 6, 2) := by decide +kernel
theorem dX8_hit_132 : decode cX8_hit 132 = .ok (.iaload, 1) := by decide +kernel
theorem dX8_hit_133 : decode cX8_hit 133 = .ok (.aload_n 0, 1) := by decide +kernel
theorem dX8_hit_134 : decode cX8_hit 134 = .ok (.getfield 19, 3) := by decide +kernel
theorem dX8_hit_137 : decode cX8_hit 137 = .ok (.iload 5, 2) := by decide +kernel
theorem dX8_hit_139 : decode cX8_hit 139 = .ok (.iaload, 1) := by decide +kernel
theorem dX8_hit_140 : decode cX8_hit 140 = .ok (.iadd, 1) := by decide +kernel
theorem dX8_hit_141 : decode cX8_hit 141 = .ok (.aload_n 0, 1) := by decide +kernel
theorem dX8_hit_142 : decode cX8_hit 142 = .ok (.getfield 48, 3) := by decide +kernel
theorem dX8_hit_145 : decode cX8_hit 145 = .ok (.iload 5, 2) := by decide +kernel
theorem dX8_hit_147 : decode cX8_hit 147 = .ok (.iaload, 1) := by decide +kernel
theorem dX8_hit_148 : decode cX8_hit 148 = .ok (.if_icmp .ge 25, 3) := by decide +kernel
theorem dX8_hit_151 : decode cX8_hit 151 = .ok (.aload_n 0, 1) := by decide +kernel
theorem dX8_hit_152 : decode cX8_hit 152 = .ok (.getfield 48, 3) := by decide +kernel
theorem dX8_hit_155 : decode cX8_hit 155 = .ok (.iload 5, 2) := by decide +kernel
theorem dX8_hit_157 : decode cX8_hit 157 = .ok (.aload_n 0, 1) := by decide +kernel
theorem dX8_hit_158 : decode cX8_hit 158 = .ok (.getfield 48, 3) := by decide +kernel
theorem dX8_hit_161 : decode cX8_hit 161 = .ok (.iload 6, 2) := by decide +kernel
theorem dX8_hit_163 : decode cX8_hit 163 = .ok (.iaload, 1) := by decide +kernel
theorem dX8_hit_164 : decode cX8_hit 164 = .ok (.aload_n 0, 1) := by decide +kernel
theorem dX8_hit_165 : decode cX8_hit 165 = .ok (.getfield 19, 3) := by decide +kernel
theorem dX8_hit_168 : decode cX8_hit 168 = .ok (.iload 5, 2) := by decide +kernel
theorem dX8_hit_170 : decode cX8_hit 170 = .ok (.iaload, 1) := by decide +kernel
theorem dX8_hit_171 : decode cX8_hit 171 = .ok (.iadd, 1) := by decide +kernel
theorem dX8_hit_172 : decode cX8_hit 172 = .ok (.iastore, 1) := by decide +kernel
theorem dX8_hit_173 : decode cX8_hit 173 = .ok (.iinc 6 1, 3) := by decide +kernel
theorem dX8_hit_176 : decode cX8_hit 176 = .ok (.goto (-80), 3) := by decide +kernel
theorem dX8_hit_179 : decode cX8_hit 179 = .ok (.iinc 5 1, 3) := by decide +kernel
theorem dX8_hit_182 : decode cX8_hit 182 = .ok (.goto (-98), 3) := by decide +kernel
theorem dX8_hit_185 : decode cX8_hit 185 = .ok (.iinc 4 1, 3) := by decide +kernel
theorem dX8_hit_188 : decode cX8_hit 188 = .ok (.goto (-113), 3) := by decide +kernel
theorem dX8_hit_191 : decode cX8_hit 191 = .ok (.aload_n 0, 1) := by decide +kernel
theorem dX8_hit_192 : decode cX8_hit 192 = .ok (.getfield 48, 3) := by decide +kernel
theorem dX8_hit_195 : decode cX8_hit 195 = .ok (.iload_n 3, 1) := by decide +kernel
theorem dX8_hit_196 : decode cX8_hit 196 = .ok (.iaload, 1) := by decide +kernel
theorem dX8_hit_197 : decode cX8_hit 197 = .ok (.ldc 134, 2) := by decide +kernel
theorem dX8_hit_199 : decode cX8_hit 199 = .ok (.if_icmp .lt 8, 3) := by decide +kernel
theorem dX8_hit_202 : decode cX8_hit 202 = .ok (.bipush (-9), 2) := by decide +kernel
theorem dX8_hit_204 : decode cX8_hit 204 = .ok (.goto 9, 3) := by decide +kernel
theorem dX8_hit_207 : decode cX8_hit 207 = .ok (.aload_n 0, 1) := by decide +kernel
theorem dX8_hit_208 : decode cX8_hit 208 = .ok (.getfield 48, 3) := by decide +kernel
theorem dX8_hit_211 : decode cX8_hit 211 = .ok (.iload_n 3, 1) := by decide +kernel
theorem dX8_hit_212 : decode cX8_hit 212 = .ok (.iaload, 1) := by decide +kernel
theorem dX8_hit_213 : decode cX8_hit 213 = .ok (.ireturn, 1) := by decide +kernel
theorem dX8_hour_0 : decode cX8_hour 0 = .ok (.lload_n 0, 1) := by decide +kernel
theorem dX8_hour_1 : decode cX8_hour 1 = .ok (.iload_n 3, 1) := by decide +kernel
theorem dX8_hour_2 : decode cX8_hour 2 = .ok (.i2l, 1) := by decide +kernel
theorem dX8_hour_3 : decode cX8_hour 3 = .ok (.ladd, 1) := by decide +kernel
theorem dX8_hour_4 : decode cX8_hour 4 = .ok (.lstore 5, 2) := by decide +kernel
theorem dX8_hour_6 : decode cX8_hour 6 = .ok (.lload 5, 2) := by decide +kernel
theorem dX8_hour_8 : decode cX8_hour 8 = .ok (.lload 5, 2) := by decide +kernel
theorem dX8_hour_10 : decode cX8_hour 10 = .ok (.iload 4, 2) := by decide +kernel
theorem dX8_hour_12 : decode cX8_hour 12 = .ok (.i2l, 1) := by decide +kernel
theorem dX8_hour_13 : decode cX8_hour 13 = .ok (.lmul, 1) := by decide +kernel
theorem dX8_hour_14 : decode cX8_hour 14 = .ok (.iload_n 2, 1) := by decide +kernel
theorem dX8_hour_15 : decode cX8_hour 15 = .ok (.i2l, 1) := by decide +kernel
theorem dX8_hour_16 : decode cX8_hour 16 = .ok (.ladd, 1) := by decide +kernel
theorem dX8_hour_17 : decode cX8_hour 17 = .ok (.lconst 1, 1) := by decide +kernel
theorem dX8_hour_18 : decode cX8_hour 18 = .ok (.lsub, 1) := by decide +kernel
theorem dX8_hour_19 : decode cX8_hour 19 = .ok (.iload_n 2, 1) := by decide +kernel
theorem dX8_hour_20 : decode cX8_hour 20 = .ok (.i2l, 1) := by decide +kernel
theorem dX8_hour_21 : decode cX8_hour 21 = .ok (.ldiv, 1) := by decide +kernel
theorem dX8_hour_22 : decode cX8_hour 22 = .ok (.lsub, 1) := by decide +kernel
theorem dX8_hour_23 : decode cX8_hour 23 = .ok (.lreturn, 1) := by decide +kernel
theorem dX8_steady_0 : decode cX8_steady 0 = .ok (.aload_n 0, 1) := by decide +kernel
theorem dX8_steady_1 : decode cX8_steady 1 = .ok (.iconst 0, 1) := by decide +kernel
theorem dX8_steady_2 : decode cX8_steady 2 = .ok (.putfield 60, 3) := by decide +kernel
theorem dX8_steady_5 : decode cX8_steady 5 = .ok (.iload_n 1, 1) := by decide +kernel
theorem dX8_steady_6 : decode cX8_steady 6 = .ok (.i2l, 1) := by decide +kernel
theorem dX8_steady_7 : decode cX8_steady 7 = .ok (.lconst 1, 1) := by decide +kernel
theorem dX8_steady_8 : decode cX8_steady 8 = .ok (.ldc2_w 70, 3) := by decide +kernel
theorem dX8_steady_11 : decode cX8_steady 11 = .ok (.invokestatic 67, 3) := by decide +kernel
theorem dX8_steady_14 : decode cX8_steady 14 = .ok (.ifCond .eq 50, 3) := by decide +kernel
theorem dX8_steady_17 : decode cX8_steady 17 = .ok (.iload_n 2, 1) := by decide +kernel
theorem dX8_steady_18 : decode cX8_steady 18 = .ok (.i2l, 1) := by decide +kernel
theorem dX8_steady_19 : decode cX8_steady 19 = .ok (.lconst 0, 1) := by decide +kernel
theorem dX8_steady_20 : decode cX8_steady 20 = .ok (.ldc2_w 135, 3) := by decide +kernel
theorem dX8_steady_23 : decode cX8_steady 23 = .ok (.invokestatic 67, 3) := by decide +kernel
theorem dX8_steady_26 : decode cX8_steady 26 = .ok (.ifCond .eq 38, 3) := by decide +kernel
theorem dX8_steady_29 : decode cX8_steady 29 = .ok (.iload_n 3, 1) := by decide +kernel
theorem dX8_steady_30 : decode cX8_steady 30 = .ok (.i2l, 1) := by decide +kernel
theorem dX8_steady_31 : decode cX8_steady 31 = .ok (.lconst 0, 1) := by decide +kernel
theorem dX8_steady_32 : decode cX8_steady 32 = .ok (.ldc2_w 70, 3) := by decide +kernel
theorem dX8_steady_35 : decode cX8_steady 35 = .ok (.invokestatic 67, 3) := by decide +kernel
theorem dX8_steady_38 : decode cX8_steady 38 = .ok (.ifCond .eq 26, 3) := by decide +kernel
theorem dX8_steady_41 : decode cX8_steady 41 = .ok (.iload 4, 2) := by decide +kernel
theorem dX8_steady_43 : decode cX8_steady 43 = .ok (.i2l, 1) := by decide +kernel
theorem dX8_steady_44 : decode cX8_steady 44 = .ok (.lconst 0, 1) := by decide +kernel
theorem dX8_steady_45 : decode cX8_steady 45 = .ok (.iload_n 1, 1) := by decide +kernel
theorem dX8_steady_46 : decode cX8_steady 46 = .ok (.i2l, 1) := by decide +kernel
theorem dX8_steady_47 : decode cX8_steady 47 = .ok (.invokestatic 67, 3) := by decide +kernel
theorem dX8_steady_50 : decode cX8_steady 50 = .ok (.ifCond .eq 14, 3) := by decide +kernel
theorem dX8_steady_53 : decode cX8_steady 53 = .ok (.iload 5, 2) := by decide +kernel
theorem dX8_steady_55 : decode cX8_steady 55 = .ok (.i2l, 1) := by decide +kernel
theorem dX8_steady_56 : decode cX8_steady 56 = .ok (.lconst 0, 1) := by decide +kernel
theorem dX8_steady_57 : decode cX8_steady 57 = .ok (.lconst 1, 1) := by decide +kernel
theorem dX8_steady_58 : decode cX8_steady 58 = .ok (.invokestatic 67, 3) := by decide +kernel
theorem dX8_steady_61 : decode cX8_steady 61 = .ok (.ifCond .ne 5, 3) := by decide +kernel
theorem dX8_steady_64 : decode cX8_steady 64 = .ok (.iconst (-1), 1) := by decide +kernel
theorem dX8_steady_65 : decode cX8_steady 65 = .ok (.ireturn, 1) := by decide +kernel
theorem dX8_steady_66 : decode cX8_steady 66 = .ok (.iload_n 2, 1) := by decide +kernel
theorem dX8_steady_67 : decode cX8_steady 67 = .ok (.i2l, 1) := by decide +kernel
theorem dX8_steady_68 : decode cX8_steady 68 = .ok (.iload_n 1, 1) := by decide +kernel
theorem dX8_steady_69 : decode cX8_steady 69 = .ok (.iload_n 3, 1) := by decide +kernel
theorem dX8_steady_70 : decode cX8_steady 70 = .ok (.iload 4, 2) := by decide +kernel
theorem dX8_steady_72 : decode cX8_steady 72 = .ok (.invokestatic 137, 3) := by decide +kernel
theorem dX8_steady_75 : decode cX8_steady 75 = .ok (.lstore 6, 2) := by decide +kernel
theorem dX8_steady_77 : decode cX8_steady 77 = .ok (.iconst 1, 1) := by decide +kernel
theorem dX8_steady_78 : decode cX8_steady 78 = .ok (.istore 8, 2) := by decide +kernel
theorem dX8_steady_80 : decode cX8_steady 80 = .ok (.iload 8, 2) := by decide +kernel
theorem dX8_steady_82 : decode cX8_steady 82 = .ok (.sipush 5000, 3) := by decide +kernel
theorem dX8_steady_85 : decode cX8_steady 85 = .ok (.if_icmp .gt 46, 3) := by decide +kernel
theorem dX8_steady_88 : decode cX8_steady 88 = .ok (.lload 6, 2) := by decide +kernel
theorem dX8_steady_90 : decode cX8_steady 90 = .ok (.iload_n 1, 1) := by decide +kernel
theorem dX8_steady_91 : decode cX8_steady 91 = .ok (.iload_n 3, 1) := by decide +kernel
theorem dX8_steady_92 : decode cX8_steady 92 = .ok (.iload 4, 2) := by decide +kernel
theorem dX8_steady_94 : decode cX8_steady 94 = .ok (.invokestatic 137, 3) := by decide +kernel
theorem dX8_steady_97 : decode cX8_steady 97 = .ok (.lstore 9, 2) := by decide +kernel
theorem dX8_steady_99 : decode cX8_steady 99 = .ok (.lload 9, 2) := by decide +kernel
theorem dX8_steady_101 : decode cX8_steady 101 = .ok (.lload 6, 2) := by decide +kernel
theorem dX8_steady_103 : decode cX8_steady 103 = .ok (.lcmp, 1) := by decide +kernel
theorem dX8_steady_104 : decode cX8_steady 104 = .ok (.ifCond .ne 17, 3) := by decide +kernel
theorem dX8_steady_107 : decode cX8_steady 107 = .ok (.iload 5, 2) := by decide +kernel
theorem dX8_steady_109 : decode cX8_steady 109 = .ok (.ifCond .ne 8, 3) := by decide +kernel
theorem dX8_steady_112 : decode cX8_steady 112 = .ok (.iload 8, 2) := by decide +kernel
theorem dX8_steady_114 : decode cX8_steady 114 = .ok (.goto 6, 3) := by decide +kernel
theorem dX8_steady_117 : decode cX8_steady 117 = .ok (.lload 6, 2) := by decide +kernel
theorem dX8_steady_119 : decode cX8_steady 119 = .ok (.l2i, 1) := by decide +kernel
theorem dX8_steady_120 : decode cX8_steady 120 = .ok (.ireturn, 1) := by decide +kernel
theorem dX8_steady_121 : decode cX8_steady 121 = .ok (.lload 9, 2) := by decide +kernel
theorem dX8_steady_123 : decode cX8_steady 123 = .ok (.lstore 6, 2) := by decide +kernel
theorem dX8_steady_125 : decode cX8_steady 125 = .ok (.iinc 8 1, 3) := by decide +kernel
theorem dX8_steady_128 : decode cX8_steady 128 = .ok (.goto (-48), 3) := by decide +kernel
theorem dX8_steady_131 : decode cX8_steady 131 = .ok (.bipush (-9), 2) := by decide +kernel
theorem dX8_steady_133 : decode cX8_steady 133 = .ok (.ireturn, 1) := by decide +kernel
theorem dX8_store_0 : decode cX8_store 0 = .ok (.aload_n 0, 1) := by decide +kernel
theorem dX8_store_1 : decode cX8_store 1 = .ok (.iconst 0, 1) := by decide +kernel
theorem dX8_store_2 : decode cX8_store 2 = .ok (.putfield 60, 3) := by decide +kernel
theorem dX8_store_5 : decode cX8_store 5 = .ok (.iload_n 1, 1) := by decide +kernel
theorem dX8_store_6 : decode cX8_store 6 = .ok (.i2l, 1) := by decide +kernel
theorem dX8_store_7 : decode cX8_store 7 = .ok (.lconst 0, 1) := by decide +kernel
theorem dX8_store_8 : decode cX8_store 8 = .ok (.ldc2_w 141, 3) := by decide +kernel
theorem dX8_store_11 : decode cX8_store 11 = .ok (.invokestatic 67, 3) := by decide +kernel
theorem dX8_store_14 : decode cX8_store 14 = .ok (.ifCond .eq 25, 3) := by decide +kernel
theorem dX8_store_17 : decode cX8_store 17 = .ok (.iload_n 2, 1) := by decide +kernel
theorem dX8_store_18 : decode cX8_store 18 = .ok (.i2l, 1) := by decide +kernel
theorem dX8_store_19 : decode cX8_store 19 = .ok (.lconst 0, 1) := by decide +kernel
theorem dX8_store_20 : decode cX8_store 20 = .ok (.lconst 1, 1) := by decide +kernel
theorem dX8_store_21 : decode cX8_store 21 = .ok (.invokestatic 67, 3) := by decide +kernel
theorem dX8_store_24 : decode cX8_store 24 = .ok (.ifCond .eq 15, 3) := by decide +kernel
theorem dX8_store_27 : decode cX8_store 27 = .ok (.iload_n 3, 1) := by decide +kernel
theorem dX8_store_28 : decode cX8_store 28 = .ok (.i2l, 1) := by decide +kernel
theorem dX8_store_29 : decode cX8_store 29 = .ok (.lconst 0, 1) := by decide +kernel
theorem dX8_store_30 : decode cX8_store 30 = .ok (.ldc2_w 74, 3) := by decide +kernel
theorem dX8_store_33 : decode cX8_store 33 = .ok (.invokestatic 67, 3) := by decide +kernel
theorem dX8_store_36 : decode cX8_store 36 = .ok (.ifCond .ne 5, 3) := by decide +kernel
theorem dX8_store_39 : decode cX8_store 39 = .ok (.iconst (-1), 1) := by decide +kernel
theorem dX8_store_40 : decode cX8_store 40 = .ok (.ireturn, 1) := by decide +kernel
theorem dX8_store_41 : decode cX8_store 41 = .ok (.aload_n 0, 1) := by decide +kernel
theorem dX8_store_42 : decode cX8_store 42 = .ok (.getfield 51, 3) := by decide +kernel
theorem dX8_store_45 : decode cX8_store 45 = .ok (.iconst 2, 1) := by decide +kernel
theorem dX8_store_46 : decode cX8_store 46 = .ok (.iload_n 1, 1) := by decide +kernel
theorem dX8_store_47 : decode cX8_store 47 = .ok (.imul, 1) := by decide +kernel
theorem dX8_store_48 : decode cX8_store 48 = .ok (.iload_n 2, 1) := by decide +kernel
theorem dX8_store_49 : decode cX8_store 49 = .ok (.iadd, 1) := by decide +kernel
theorem dX8_store_50 : decode cX8_store 50 = .ok (.iaload, 1) := by decide +kernel
theorem dX8_store_51 : decode cX8_store 51 = .ok (.istore 4, 2) := by decide +kernel
theorem dX8_store_53 : decode cX8_store 53 = .ok (.aload_n 0, 1) := by decide +kernel
theorem dX8_store_54 : decode cX8_store 54 = .ok (.getfield 51, 3) := by decide +kernel
theorem dX8_store_57 : decode cX8_store 57 = .ok (.iconst 2, 1) := by decide +kernel
theorem dX8_store_58 : decode cX8_store 58 = .ok (.iload_n 1, 1) := by decide +kernel
theorem dX8_store_59 : decode cX8_store 59 = .ok (.imul, 1) := by decide +kernel
theorem dX8_store_60 : decode cX8_store 60 = .ok (.iload_n 2, 1) := by decide +kernel
theorem dX8_store_61 : decode cX8_store 61 = .ok (.iadd, 1) := by decide +kernel
theorem dX8_store_62 : decode cX8_store 62 = .ok (.iload_n 3, 1) := by decide +kernel
theorem dX8_store_63 : decode cX8_store 63 = .ok (.iastore, 1) := by decide +kernel
theorem dX8_store_64 : decode cX8_store 64 = .ok (.iload 4, 2) := by decide +kernel
theorem dX8_store_66 : decode cX8_store 66 = .ok (.ireturn, 1) := by decide +kernel
theorem dX8_room_0 : decode cX8_room 0 = .ok (.aload_n 0, 1) := by decide +kernel
theorem dX8_room_1 : decode cX8_room 1 = .ok (.iconst 0, 1) := by decide +kernel
theorem dX8_room_2 : decode cX8_room 2 = .ok (.putfield 60, 3) := by decide +kernel
theorem dX8_room_5 : decode cX8_room 5 = .ok (.iload_n 1, 1) := by decide +kernel
theorem dX8_room_6 : decode cX8_room 6 = .ok (.i2l, 1) := by decide +kernel
theorem dX8_room_7 : decode cX8_room 7 = .ok (.lconst 0, 1) := by decide +kernel
theorem dX8_room_8 : decode cX8_room 8 = .ok (.lconst 1, 1) := by decide +kernel
theorem dX8_room_9 : decode cX8_room 9 = .ok (.invokestatic 67, 3) := by decide +kernel
theorem dX8_room_12 : decode cX8_room 12 = .ok (.ifCond .ne 5, 3) := by decide +kernel
theorem dX8_room_15 : decode cX8_room 15 = .ok (.iconst (-1), 1) := by decide +kernel
theorem dX8_room_16 : decode cX8_room 16 = .ok (.ireturn, 1) := by decide +kernel
theorem dX8_room_17 : decode cX8_room 17 = .ok (.iconst 0, 1) := by decide +kernel
theorem dX8_room_18 : decode cX8_room 18 = .ok (.istore_n 2, 1) := by decide +kernel
theorem dX8_room_19 : decode cX8_room 19 = .ok (.iconst 0, 1) := by decide +kernel
theorem dX8_room_20 : decode cX8_room 20 = .ok (.istore_n 3, 1) := by decide +kernel
theorem dX8_room_21 : decode cX8_room 21 = .ok (.iconst 0, 1) := by decide +kernel
theorem dX8_room_22 : decode cX8_room 22 = .ok (.istore 4, 2) := by decide +kernel
theorem dX8_room_24 : decode cX8_room 24 = .ok (.iconst 0, 1) := by decide +kernel
theorem dX8_room_25 : decode cX8_room 25 = .ok (.istore 5, 2) := by decide +kernel
theorem dX8_room_27 : decode cX8_room 27 = .ok (.iload 5, 2) := by decide +kernel
theorem dX8_room_29 : decode cX8_room 29 = .ok (.bipush 24, 2) := by decide +kernel
theorem dX8_room_31 : decode cX8_room 31 = .ok (.if_icmp .ge 60, 3) := by decide +kernel
theorem dX8_room_34 : decode cX8_room 34 = .ok (.iload_n 2, 1) := by decide +kernel
theorem dX8_room_35 : decode cX8_room 35 = .ok (.aload_n 0, 1) := by decide +kernel
theorem dX8_room_36 : decode cX8_room 36 = .ok (.getfield 51, 3) := by decide +kernel
theorem dX8_room_39 : decode cX8_room 39 = .ok (.iconst 2, 1) := by decide +kernel
theorem dX8_room_40 : decode cX8_room 40 = .ok (.iload 5, 2) := by decide +kernel
theorem dX8_room_42 : decode cX8_room 42 = .ok (.imul, 1) := by decide +kernel
theorem dX8_room_43 : decode cX8_room 43 = .ok (.iaload, 1) := by decide +kernel
theorem dX8_room_44 : decode cX8_room 44 = .ok (.iadd, 1) := by decide +kernel
theorem dX8_room_45 : decode cX8_room 45 = .ok (.istore_n 2, 1) := by decide +kernel
theorem dX8_room_46 : decode cX8_room 46 = .ok (.iload_n 2, 1) := by decide +kernel
theorem dX8_room_47 : decode cX8_room 47 = .ok (.iload 4, 2) := by decide +kernel
theorem dX8_room_49 : decode cX8_room 49 = .ok (.if_icmp .le 7, 3) := by decide +kernel
theorem dX8_room_52 : decode cX8_room 52 = .ok (.iload_n 2, 1) := by decide +kernel
theorem dX8_room_53 : decode cX8_room 53 = .ok (.goto 5, 3) := by decide +kernel
theorem dX8_room_56 : decode cX8_room 56 = .ok (.iload 4, 2) := by decide +kernel
theorem dX8_room_58 : decode cX8_room 58 = .ok (.istore 4, 2) := by decide +kernel
theorem dX8_room_60 : decode cX8_room 60 = .ok (.iload_n 2, 1) := by decide +kernel
theorem dX8_room_61 : decode cX8_room 61 = .ok (.aload_n 0, 1) := by decide +kernel
theorem dX8_room_62 : decode cX8_room 62 = .ok (.getfield 51, 3) := by decide +kernel
theorem dX8_room_65 : decode cX8_room 65 = .ok (.iconst 2, 1) := by decide +kernel
theorem dX8_room_66 : decode cX8_room 66 = .ok (.iload 5, 2) := by decide +kernel
theorem dX8_room_68 : decode cX8_room 68 = .ok (.imul, 1) := by decide +kernel
theorem dX8_room_69 : decode cX8_room 69 = .ok (.iconst 1, 1) := by decide +kernel
theorem dX8_room_70 : decode cX8_room 70 = .ok (.iadd, 1) := by decide +kernel
theorem dX8_room_71 : decode cX8_room 71 = .ok (.iaload, 1) := by decide +kernel
theorem dX8_room_72 : decode cX8_room 72 = .ok (.isub, 1) := by decide +kernel
theorem dX8_room_73 : decode cX8_room 73 = .ok (.istore_n 2, 1) := by decide +kernel
theorem dX8_room_74 : decode cX8_room 74 = .ok (.iload_n 2, 1) := by decide +kernel
theorem dX8_room_75 : decode cX8_room 75 = .ok (.iload_n 3, 1) := by decide +kernel
theorem dX8_room_76 : decode cX8_room 76 = .ok (.if_icmp .ge 7, 3) := by decide +kernel
theorem dX8_room_79 : decode cX8_room 79 = .ok (.iload_n 2, 1) := by decide +kernel
theorem dX8_room_80 : decode cX8_room 80 = .ok (.goto 4, 3) := by decide +kernel
theorem dX8_room_83 : decode cX8_room 83 = .ok (.iload_n 3, 1) := by decide +kernel
theorem dX8_room_84 : decode cX8_room 84 = .ok (.istore_n 3, 1) := by decide +kernel
theorem dX8_room_85 : decode cX8_room 85 = .ok (.iinc 5 1, 3) := by decide +kernel
theorem dX8_room_88 : decode cX8_room 88 = .ok (.goto (-61), 3) := by decide +kernel
theorem dX8_room_91 : decode cX8_room 91 = .ok (.iload_n 1, 1) := by decide +kernel
theorem dX8_room_92 : decode cX8_room 92 = .ok (.ifCond .ne 8, 3) := by decide +kernel
theorem dX8_room_95 : decode cX8_room 95 = .ok (.iload_n 3, 1) := by decide +kernel
theorem dX8_room_96 : decode cX8_room 96 = .ok (.ineg, 1) := by decide +kernel
theorem dX8_room_97 : decode cX8_room 97 = .ok (.goto 7, 3) := by decide +kernel
theorem dX8_room_100 : decode cX8_room 100 = .ok (.iload 4, 2) := by decide +kernel
theorem dX8_room_102 : decode cX8_room 102 = .ok (.iload_n 3, 1) := by decide +kernel
theorem dX8_room_103 : decode cX8_room 103 = .ok (.isub, 1) := by decide +kernel
theorem dX8_room_104 : decode cX8_room 104 = .ok (.ireturn, 1) := by decide +kernel
theorem dX8_meter_0 : decode cX8_meter 0 = .ok (.aload_n 0, 1) := by decide +kernel
theorem dX8_meter_1 : decode cX8_meter 1 = .ok (.iconst 0, 1) := by decide +kernel
theorem dX8_meter_2 : decode cX8_meter 2 = .ok (.putfield 60, 3) := by decide +kernel
theorem dX8_meter_5 : decode cX8_meter 5 = .ok (.iload_n 1, 1) := by decide +kernel
theorem dX8_meter_6 : decode cX8_meter 6 = .ok (.iconst 1, 1) := by decide +kernel
theorem dX8_meter_7 : decode cX8_meter 7 = .ok (.if_icmp .eq 10, 3) := by decide +kernel
theorem dX8_meter_10 : decode cX8_meter 10 = .ok (.iload_n 1, 1) := by decide +kernel
theorem dX8_meter_11 : decode cX8_meter 11 = .ok (.iconst (-1), 1) := by decide +kernel
theorem dX8_meter_12 : decode cX8_meter 12 = .ok (.if_icmp .eq 5, 3) := by decide +kernel
theorem dX8_meter_15 : decode cX8_meter 15 = .ok (.iconst (-1), 1) := by decide +kernel
theorem dX8_meter_16 : decode cX8_meter 16 = .ok (.ireturn, 1) := by decide +kernel
theorem dX8_meter_17 : decode cX8_meter 17 = .ok (.aload_n 0, 1) := by decide +kernel
theorem dX8_meter_18 : decode cX8_meter 18 = .ok (.getfield 143, 3) := by decide +kernel
theorem dX8_meter_21 : decode cX8_meter 21 = .ok (.bipush 8, 2) := by decide +kernel
theorem dX8_meter_23 : decode cX8_meter 23 = .ok (.if_icmp .ne 6, 3) := by decide +kernel
theorem dX8_meter_26 : decode cX8_meter 26 = .ok (.bipush (-3), 2) := by decide +kernel
theorem dX8_meter_28 : decode cX8_meter 28 = .ok (.ireturn, 1) := by decide +kernel
theorem dX8_meter_29 : decode cX8_meter 29 = .ok (.aload_n 0, 1) := by decide +kernel
theorem dX8_meter_30 : decode cX8_meter 30 = .ok (.getfield 54, 3) := by decide +kernel
theorem dX8_meter_33 : decode cX8_meter 33 = .ok (.aload_n 0, 1) := by decide +kernel
theorem dX8_meter_34 : decode cX8_meter 34 = .ok (.getfield 143, 3) := by decide +kernel
theorem dX8_meter_37 : decode cX8_meter 37 = .ok (.iload_n 1, 1) := by decide +kernel
theorem dX8_meter_38 : decode cX8_meter 38 = .ok (.iastore, 1) := by decide +kernel
theorem dX8_meter_39 : decode cX8_meter 39 = .ok (.aload_n 0, 1) := by decide +kernel
theorem dX8_meter_40 : decode cX8_meter 40 = .ok (.getfield 57, 3) := by decide +kernel
theorem dX8_meter_43 : decode cX8_meter 43 = .ok (.aload_n 0, 1) := by decide +kernel
theorem dX8_meter_44 : decode cX8_meter 44 = .ok (.getfield 143, 3) := by decide +kernel
theorem dX8_meter_47 : decode cX8_meter 47 = .ok (.bipush (-9), 2) := by decide +kernel
theorem dX8_meter_49 : decode cX8_meter 49 = .ok (.iastore, 1) := by decide +kernel
theorem dX8_meter_50 : decode cX8_meter 50 = .ok (.aload_n 0, 1) := by decide +kernel
theorem dX8_meter_51 : decode cX8_meter 51 = .ok (.dup, 1) := by decide +kernel
theorem dX8_meter_52 : decode cX8_meter 52 = .ok (.getfield 143, 3) := by decide +kernel
theorem dX8_meter_55 : decode cX8_meter 55 = .ok (.iconst 1, 1) := by decide +kernel
theorem dX8_meter_56 : decode cX8_meter 56 = .ok (.iadd, 1) := by decide +kernel
theorem dX8_meter_57 : decode cX8_meter 57 = .ok (.putfield 143, 3) := by decide +kernel
theorem dX8_meter_60 : decode cX8_meter 60 = .ok (.aload_n 0, 1) := by decide +kernel
theorem dX8_meter_61 : decode cX8_meter 61 = .ok (.getfield 143, 3) := by decide +kernel
theorem dX8_meter_64 : decode cX8_meter 64 = .ok (.iconst 1, 1) := by decide +kernel
theorem dX8_meter_65 : decode cX8_meter 65 = .ok (.isub, 1) := by decide +kernel
theorem dX8_meter_66 : decode cX8_meter 66 = .ok (.ireturn, 1) := by decide +kernel
theorem dX8_isMeter_0 : decode cX8_isMeter 0 = .ok (.iload_n 1, 1) := by decide +kernel
theorem dX8_isMeter_1 : decode cX8_isMeter 1 = .ok (.i2l, 1) := by decide +kernel
theorem dX8_isMeter_2 : decode cX8_isMeter 2 = .ok (.lconst 0, 1) := by decide +kernel
theorem dX8_isMeter_3 : decode cX8_isMeter 3 = .ok (.aload_n 0, 1) := by decide +kernel
theorem dX8_isMeter_4 : decode cX8_isMeter 4 = .ok (.getfield 143, 3) := by decide +kernel
theorem dX8_isMeter_7 : decode cX8_isMeter 7 = .ok (.iconst 1, 1) := by decide +kernel
theorem dX8_isMeter_8 : decode cX8_isMeter 8 = .ok (.isub, 1) := by decide +kernel
theorem dX8_isMeter_9 : decode cX8_isMeter 9 = .ok (.i2l, 1) := by decide +kernel
theorem dX8_isMeter_10 : decode cX8_isMeter 10 = .ok (.invokestatic 67, 3) := by decide +kernel
theorem dX8_isMeter_13 : decode cX8_isMeter 13 = .ok (.ireturn, 1) := by decide +kernel
theorem dX8_read_0 : decode cX8_read 0 = .ok (.aload_n 0, 1) := by decide +kernel
theorem dX8_read_1 : decode cX8_read 1 = .ok (.iconst 0, 1) := by decide +kernel
theorem dX8_read_2 : decode cX8_read 2 = .ok (.putfield 60, 3) := by decide +kernel
theorem dX8_read_5 : decode cX8_read 5 = .ok (.aload_n 0, 1) := by decide +kernel
theorem dX8_read_6 : decode cX8_read 6 = .ok (.iload_n 1, 1) := by decide +kernel
theorem dX8_read_7 : decode cX8_read 7 = .ok (.invokevirtual 146, 3) := by decide +kernel
theorem dX8_read_10 : decode cX8_read 10 = .ok (.ifCond .eq 21, 3) := by decide +kernel
theorem dX8_read_13 : decode cX8_read 13 = .ok (.iload_n 2, 1) := by decide +kernel
theorem dX8_read_14 : decode cX8_read 14 = .ok (.bipush (-9), 2) := by decide +kernel
theorem dX8_read_16 : decode cX8_read 16 = .ok (.if_icmp .eq 17, 3) := by decide +kernel
theorem dX8_read_19 : decode cX8_read 19 = .ok (.iload_n 2, 1) := by decide +kernel
theorem dX8_read_20 : decode cX8_read 20 = .ok (.i2l, 1) := by decide +kernel
theorem dX8_read_21 : decode cX8_read 21 = .ok (.lconst 0, 1) := by decide +kernel
theorem dX8_read_22 : decode cX8_read 22 = .ok (.ldc2_w 149, 3) := by decide +kernel
theorem dX8_read_25 : decode cX8_read 25 = .ok (.invokestatic 67, 3) := by decide +kernel
theorem dX8_read_28 : decode cX8_read 28 = .ok (.ifCond .ne 5, 3) := by decide +kernel
theorem dX8_read_31 : decode cX8_read 31 = .ok (.iconst (-1), 1) := by decide +kernel
theorem dX8_read_32 : decode cX8_read 32 = .ok (.ireturn, 1) := by decide +kernel
theorem dX8_read_33 : decode cX8_read 33 = .ok (.aload_n 0, 1) := by decide +kernel
theorem dX8_read_34 : decode cX8_read 34 = .ok (.getfield 57, 3) := by decide +kernel
theorem dX8_read_37 : decode cX8_read 37 = .ok (.iload_n 1, 1) := by decide +kernel
theorem dX8_read_38 : decode cX8_read 38 = .ok (.iaload, 1) := by decide +kernel
theorem dX8_read_39 : decode cX8_read 39 = .ok (.istore_n 3, 1) := by decide +kernel
theorem dX8_read_40 : decode cX8_read 40 = .ok (.aload_n 0, 1) := by decide +kernel
theorem dX8_read_41 : decode cX8_read 41 = .ok (.getfield 57, 3) := by decide +kernel
theorem dX8_read_44 : decode cX8_read 44 = .ok (.iload_n 1, 1) := by decide +kernel
theorem dX8_read_45 : decode cX8_read 45 = .ok (.iload_n 2, 1) := by decide +kernel
theorem dX8_read_46 : decode cX8_read 46 = .ok (.iastore, 1) := by decide +kernel
theorem dX8_read_47 : decode cX8_read 47 = .ok (.iload_n 3, 1) := by decide +kernel
theorem dX8_read_48 : decode cX8_read 48 = .ok (.ireturn, 1) := by decide +kernel
theorem dX8_missing_0 : decode cX8_missing 0 = .ok (.iconst 0, 1) := by decide +kernel
theorem dX8_missing_1 : decode cX8_missing 1 = .ok (.istore_n 1, 1) := by decide +kernel
theorem dX8_missing_2 : decode cX8_missing 2 = .ok (.iconst 0, 1) := by decide +kernel
theorem dX8_missing_3 : decode cX8_missing 3 = .ok (.istore_n 2, 1) := by decide +kernel
theorem dX8_missing_4 : decode cX8_missing 4 = .ok (.iload_n 2, 1) := by decide +kernel
theorem dX8_missing_5 : decode cX8_missing 5 = .ok (.aload_n 0, 1) := by decide +kernel
theorem dX8_missing_6 : decode cX8_missing 6 = .ok (.getfield 143, 3) := by decide +kernel
theorem dX8_missing_9 : decode cX8_missing 9 = .ok (.if_icmp .ge 28, 3) := by decide +kernel
theorem dX8_missing_12 : decode cX8_missing 12 = .ok (.iload_n 1, 1) := by decide +kernel
theorem dX8_missing_13 : decode cX8_missing 13 = .ok (.aload_n 0, 1) := by decide +kernel
theorem dX8_missing_14 : decode cX8_missing 14 = .ok (.getfield 57, 3) := by decide +kernel
theorem dX8_missing_17 : decode cX8_missing 17 = .ok (.iload_n 2, 1) := by decide +kernel
theorem dX8_missing_18 : decode cX8_missing 18 = .ok (.iaload, 1) := by decide +kernel
theorem dX8_missing_19 : decode cX8_missing 19 = .ok (.bipush (-9), 2) := by decide +kernel
theorem dX8_missing_21 : decode cX8_missing 21 = .ok (.if_icmp .ne 7, 3) := by decide +kernel
theorem dX8_missing_24 : decode cX8_missing 24 = .ok (.iconst 1, 1) := by decide +kernel
theorem dX8_missing_25 : decode cX8_missing 25 = .ok (.goto 4, 3) := by decide +kernel
theorem dX8_missing_28 : decode cX8_missing 28 = .ok (.iconst 0, 1) := by decide +kernel
theorem dX8_missing_29 : decode cX8_missing 29 = .ok (.iadd, 1) := by decide +kernel
theorem dX8_missing_30 : decode cX8_missing 30 = .ok (.istore_n 1, 1) := by decide +kernel
theorem dX8_missing_31 : decode cX8_missing 31 = .ok (.iinc 2 1, 3) := by decide +kernel
theorem dX8_missing_34 : decode cX8_missing 34 = .ok (.goto (-30), 3) := by decide +kernel
theorem dX8_missing_37 : decode cX8_missing 37 = .ok (.iload_n 1, 1) := by decide +kernel
theorem dX8_missing_38 : decode cX8_missing 38 = .ok (.ireturn, 1) := by decide +kernel
theorem dX8_gapOf_0 : decode cX8_gapOf 0 = .ok (.lconst 0, 1) := by decide +kernel
theorem dX8_gapOf_1 : decode cX8_gapOf 1 = .ok (.lstore_n 1, 1) := by decide +kernel
theorem dX8_gapOf_2 : decode cX8_gapOf 2 = .ok (.iconst 0, 1) := by decide +kernel
theorem dX8_gapOf_3 : decode cX8_gapOf 3 = .ok (.istore_n 3, 1) := by decide +kernel
theorem dX8_gapOf_4 : decode cX8_gapOf 4 = .ok (.iload_n 3, 1) := by decide +kernel
theorem dX8_gapOf_5 : decode cX8_gapOf 5 = .ok (.aload_n 0, 1) := by decide +kernel
theorem dX8_gapOf_6 : decode cX8_gapOf 6 = .ok (.getfield 143, 3) := by decide +kernel
theorem dX8_gapOf_9 : decode cX8_gapOf 9 = .ok (.if_icmp .ge 41, 3) := by decide +kernel
theorem dX8_gapOf_12 : decode cX8_gapOf 12 = .ok (.lload_n 1, 1) := by decide +kernel
theorem dX8_gapOf_13 : decode cX8_gapOf 13 = .ok (.aload_n 0, 1) := by decide +kernel
theorem dX8_gapOf_14 : decode cX8_gapOf 14 = .ok (.getfield 57, 3) := by decide +kernel
theorem dX8_gapOf_17 : decode cX8_gapOf 17 = .ok (.iload_n 3, 1) := by decide +kernel
theorem dX8_gapOf_18 : decode cX8_gapOf 18 = .ok (.iaload, 1) := by decide +kernel
theorem dX8_gapOf_19 : decode cX8_gapOf 19 = .ok (.bipush (-9), 2) := by decide +kernel
theorem dX8_gapOf_21 : decode cX8_gapOf 21 = .ok (.if_icmp .ne 7, 3) := by decide +kernel
theorem dX8_gapOf_24 : decode cX8_gapOf 24 = .ok (.lconst 0, 1) := by decide +kernel
theorem dX8_gapOf_25 : decode cX8_gapOf 25 = .ok (.goto 17, 3) := by decide +kernel
theorem dX8_gapOf_28 : decode cX8_gapOf 28 = .ok (.aload_n 0, 1) := by decide +kernel
theorem dX8_gapOf_29 : decode cX8_gapOf 29 = .ok (.getfield 54, 3) := by decide +kernel
theorem dX8_gapOf_32 : decode cX8_gapOf 32 = .ok (.iload_n 3, 1) := by decide +kernel
theorem dX8_gapOf_33 : decode cX8_gapOf 33 = .ok (.iaload, 1) := by decide +kernel
theorem dX8_gapOf_34 : decode cX8_gapOf 34 = .ok (.aload_n 0, 1) := by decide +kernel
theorem dX8_gapOf_35 : decode cX8_gapOf 35 = .ok (.getfield 57, 3) := by decide +kernel
theorem dX8_gapOf_38 : decode cX8_gapOf 38 = .ok (.iload_n 3, 1) := by decide +kernel
theorem dX8_gapOf_39 : decode cX8_gapOf 39 = .ok (.iaload, 1) := by decide +kernel
theorem dX8_gapOf_40 : decode cX8_gapOf 40 = .ok (.imul, 1) := by decide +kernel
theorem dX8_gapOf_41 : decode cX8_gapOf 41 = .ok (.i2l, 1) := by decide +kernel
theorem dX8_gapOf_42 : decode cX8_gapOf 42 = .ok (.ladd, 1) := by decide +kernel
theorem dX8_gapOf_43 : decode cX8_gapOf 43 = .ok (.lstore_n 1, 1) := by decide +kernel
theorem dX8_gapOf_44 : decode cX8_gapOf 44 = .ok (.iinc 3 1, 3) := by decide +kernel
theorem dX8_gapOf_47 : decode cX8_gapOf 47 = .ok (.goto (-43), 3) := by decide +kernel
theorem dX8_gapOf_50 : decode cX8_gapOf 50 = .ok (.lload_n 1, 1) := by decide +kernel
theorem dX8_gapOf_51 : decode cX8_gapOf 51 = .ok (.lreturn, 1) := by decide +kernel
theorem dX8_gap_0 : decode cX8_gap 0 = .ok (.aload_n 0, 1) := by decide +kernel
theorem dX8_gap_1 : decode cX8_gap 1 = .ok (.iconst 0, 1) := by decide +kernel
theorem dX8_gap_2 : decode cX8_gap 2 = .ok (.putfield 60, 3) := by decide +kernel
theorem dX8_gap_5 : decode cX8_gap 5 = .ok (.iload_n 1, 1) := by decide +kernel
theorem dX8_gap_6 : decode cX8_gap 6 = .ok (.i2l, 1) := by decide +kernel
theorem dX8_gap_7 : decode cX8_gap 7 = .ok (.lconst 0, 1) := by decide +kernel
theorem dX8_gap_8 : decode cX8_gap 8 = .ok (.ldc2_w 151, 3) := by decide +kernel
theorem dX8_gap_11 : decode cX8_gap 11 = .ok (.invokestatic 67, 3) := by decide +kernel
theorem dX8_gap_14 : decode cX8_gap 14 = .ok (.ifCond .ne 7, 3) := by decide +kernel
theorem dX8_gap_17 : decode cX8_gap 17 = .ok (.ldc2_w 153, 3) := by decide +kernel
theorem dX8_gap_20 : decode cX8_gap 20 = .ok (.lreturn, 1) := by decide +kernel
theorem dX8_gap_21 : decode cX8_gap 21 = .ok (.bipush (-9), 2) := by decide +kernel
theorem dX8_gap_23 : decode cX8_gap 23 = .ok (.istore_n 2, 1) := by decide +kernel
theorem dX8_gap_24 : decode cX8_gap 24 = .ok (.iconst 0, 1) := by decide +kernel
theorem dX8_gap_25 : decode cX8_gap 25 = .ok (.istore_n 3, 1) := by decide +kernel
theorem dX8_gap_26 : decode cX8_gap 26 = .ok (.iload_n 3, 1) := by decide +kernel
theorem dX8_gap_27 : decode cX8_gap 27 = .ok (.aload_n 0, 1) := by decide +kernel
theorem dX8_gap_28 : decode cX8_gap 28 = .ok (.getfield 143, 3) := by decide +kernel
theorem dX8_gap_31 : decode cX8_gap 31 = .ok (.if_icmp .ge 34, 3) := by decide +kernel
theorem dX8_gap_34 : decode cX8_gap 34 = .ok (.aload_n 0, 1) := by decide +kernel
theorem dX8_gap_35 : decode cX8_gap 35 = .ok (.invokevirtual 155, 3) := by decide +kernel
theorem dX8_gap_38 : decode cX8_gap 38 = .ok (.iconst 1, 1) := by decide +kernel
theorem dX8_gap_39 : decode cX8_gap 39 = .ok (.if_icmp .ne 26, 3) := by decide +kernel
theorem dX8_gap_42 : decode cX8_gap 42 = .ok (.aload_n 0, 1) := by decide +kernel
theorem dX8_gap_43 : decode cX8_gap 43 = .ok (.getfield 57, 3) := by decide +kernel
theorem dX8_gap_46 : decode cX8_gap 46 = .ok (.iload_n 3, 1) := by decide +kernel
theorem dX8_gap_47 : decode cX8_gap 47 = .ok (.iaload, 1) := by decide +kernel
theorem dX8_gap_48 : decode cX8_gap 48 = .ok (.bipush (-9), 2) := by decide +kernel
theorem dX8_gap_50 : decode cX8_gap 50 = .ok (.if_icmp .ne 7, 3) := by decide +kernel
theorem dX8_gap_53 : decode cX8_gap 53 = .ok (.iload_n 3, 1) := by decide +kernel
theorem dX8_gap_54 : decode cX8_gap 54 = .ok (.goto 4, 3) := by decide +kernel
theorem dX8_gap_57 : decode cX8_gap 57 = .ok (.iload_n 2, 1) := by decide +kernel
theorem dX8_gap_58 : decode cX8_gap 58 = .ok (.istore_n 2, 1) := by decide +kernel
theorem dX8_gap_59 : decode cX8_gap 59 = .ok (.iinc 3 1, 3) := by decide +kernel
theorem dX8_gap_62 : decode cX8_gap 62 = .ok (.goto (-36), 3) := by decide +kernel
theorem dX8_gap_65 : decode cX8_gap 65 = .ok (.iload_n 1, 1) := by decide +kernel
theorem dX8_gap_66 : decode cX8_gap 66 = .ok (.ifCond .ne 10, 3) := by decide +kernel
theorem dX8_gap_69 : decode cX8_gap 69 = .ok (.aload_n 0, 1) := by decide +kernel
theorem dX8_gap_70 : decode cX8_gap 70 = .ok (.invokevirtual 158, 3) := by decide +kernel
theorem dX8_gap_73 : decode cX8_gap 73 = .ok (.goto 51, 3) := by decide +kernel
theorem dX8_gap_76 : decode cX8_gap 76 = .ok (.iload_n 1, 1) := by decide +kernel
theorem dX8_gap_77 : decode cX8_gap 77 = .ok (.iconst 1, 1) := by decide +kernel
theorem dX8_gap_78 : decode cX8_gap 78 = .ok (.if_icmp .ne 11, 3) := by decide +kernel
theorem dX8_gap_81 : decode cX8_gap 81 = .ok (.aload_n 0, 1) := by decide +kernel
theorem dX8_gap_82 : decode cX8_gap 82 = .ok (.invokevirtual 155, 3) := by decide +kernel
theorem dX8_gap_85 : decode cX8_gap 85 = .ok (.i2l, 1) := by decide +kernel
theorem dX8_gap_86 : decode cX8_gap 86 = .ok (.goto 38, 3) := by decide +kernel
theorem dX8_gap_89 : decode cX8_gap 89 = .ok (.iload_n 1, 1) := by decide +kernel
theorem dX8_gap_90 : decode cX8_gap 90 = .ok (.iconst 2, 1) := by decide +kernel
theorem dX8_gap_91 : decode cX8_gap 91 = .ok (.if_icmp .ne 8, 3) := by decide +kernel
theorem dX8_gap_94 : decode cX8_gap 94 = .ok (.iload_n 2, 1) := by decide +kernel
theorem dX8_gap_95 : decode cX8_gap 95 = .ok (.i2l, 1) := by decide +kernel
theorem dX8_gap_96 : decode cX8_gap 96 = .ok (.goto 28, 3) := by decide +kernel
theorem dX8_gap_99 : decode cX8_gap 99 = .ok (.iload_n 2, 1) := by decide +kernel
theorem dX8_gap_100 : decode cX8_gap 100 = .ok (.bipush (-9), 2) := by decide +kernel
theorem dX8_gap_102 : decode cX8_gap 102 = .ok (.if_icmp .ne 9, 3) := by decide +kernel
theorem dX8_gap_105 : decode cX8_gap 105 = .ok (.ldc2_w 153, 3) := by decide +kernel
theorem dX8_gap_108 : decode cX8_gap 108 = .ok (.goto 16, 3) := by decide +kernel
theorem dX8_gap_111 : decode cX8_gap 111 = .ok (.aload_n 0, 1) := by decide +kernel
theorem dX8_gap_112 : decode cX8_gap 112 = .ok (.getfield 54, 3) := by decide +kernel
theorem dX8_gap_115 : decode cX8_gap 115 = .ok (.iload_n 2, 1) := by decide +kernel
theorem dX8_gap_116 : decode cX8_gap 116 = .ok (.iaload, 1) := by decide +kernel
theorem dX8_gap_117 : decode cX8_gap 117 = .ok (.ineg, 1) := by decide +kernel
theorem dX8_gap_118 : decode cX8_gap 118 = .ok (.i2l, 1) := by decide +kernel
theorem dX8_gap_119 : decode cX8_gap 119 = .ok (.aload_n 0, 1) := by decide +kernel
theorem dX8_gap_120 : decode cX8_gap 120 = .ok (.invokevirtual 158, 3) := by decide +kernel
theorem dX8_gap_123 : decode cX8_gap 123 = .ok (.lmul, 1) := by decide +kernel
theorem dX8_gap_124 : decode cX8_gap 124 = .ok (.lreturn, 1) := by decide +kernel
theorem dX8_mended_0 : decode cX8_mended 0 = .ok (.aload_n 0, 1) := by decide +kernel
theorem dX8_mended_1 : decode cX8_mended 1 = .ok (.iconst 0, 1) := by decide +kernel
theorem dX8_mended_2 : decode cX8_mended 2 = .ok (.putfield 60, 3) := by decide +kernel
theorem dX8_mended_5 : decode cX8_mended 5 = .ok (.aload_n 0, 1) := by decide +kernel
theorem dX8_mended_6 : decode cX8_mended 6 = .ok (.iload_n 1, 1) := by decide +kernel
theorem dX8_mended_7 : decode cX8_mended 7 = .ok (.invokevirtual 146, 3) := by decide +kernel
theorem dX8_mended_10 : decode cX8_mended 10 = .ok (.ifCond .eq 13, 3) := by decide +kernel
theorem dX8_mended_13 : decode cX8_mended 13 = .ok (.iload_n 2, 1) := by decide +kernel
theorem dX8_mended_14 : decode cX8_mended 14 = .ok (.i2l, 1) := by decide +kernel
theorem dX8_mended_15 : decode cX8_mended 15 = .ok (.lconst 0, 1) := by decide +kernel
theorem dX8_mended_16 : decode cX8_mended 16 = .ok (.lconst 1, 1) := by decide +kernel
theorem dX8_mended_17 : decode cX8_mended 17 = .ok (.invokestatic 67, 3) := by decide +kernel
theorem dX8_mended_20 : decode cX8_mended 20 = .ok (.ifCond .ne 7, 3) := by decide +kernel
theorem dX8_mended_23 : decode cX8_mended 23 = .ok (.ldc2_w 153, 3) := by decide +kernel
theorem dX8_mended_26 : decode cX8_mended 26 = .ok (.lreturn, 1) := by decide +kernel
theorem dX8_mended_27 : decode cX8_mended 27 = .ok (.aload_n 0, 1) := by decide +kernel
theorem dX8_mended_28 : decode cX8_mended 28 = .ok (.invokevirtual 155, 3) := by decide +kernel
theorem dX8_mended_31 : decode cX8_mended 31 = .ok (.ifCond .le 7, 3) := by decide +kernel
theorem dX8_mended_34 : decode cX8_mended 34 = .ok (.ldc2_w 161, 3) := by decide +kernel
theorem dX8_mended_37 : decode cX8_mended 37 = .ok (.lreturn, 1) := by decide +kernel
theorem dX8_mended_38 : decode cX8_mended 38 = .ok (.aload_n 0, 1) := by decide +kernel
theorem dX8_mended_39 : decode cX8_mended 39 = .ok (.getfield 57, 3) := by decide +kernel
theorem dX8_mended_42 : decode cX8_mended 42 = .ok (.iload_n 1, 1) := by decide +kernel
theorem dX8_mended_43 : decode cX8_mended 43 = .ok (.iaload, 1) := by decide +kernel
theorem dX8_mended_44 : decode cX8_mended 44 = .ok (.i2l, 1) := by decide +kernel
theorem dX8_mended_45 : decode cX8_mended 45 = .ok (.aload_n 0, 1) := by decide +kernel
theorem dX8_mended_46 : decode cX8_mended 46 = .ok (.getfield 143, 3) := by decide +kernel
theorem dX8_mended_49 : decode cX8_mended 49 = .ok (.i2l, 1) := by decide +kernel
theorem dX8_mended_50 : decode cX8_mended 50 = .ok (.lmul, 1) := by decide +kernel
theorem dX8_mended_51 : decode cX8_mended 51 = .ok (.aload_n 0, 1) := by decide +kernel
theorem dX8_mended_52 : decode cX8_mended 52 = .ok (.getfield 54, 3) := by decide +kernel
theorem dX8_mended_55 : decode cX8_mended 55 = .ok (.iload_n 1, 1) := by decide +kernel
theorem dX8_mended_56 : decode cX8_mended 56 = .ok (.iaload, 1) := by decide +kernel
theorem dX8_mended_57 : decode cX8_mended 57 = .ok (.i2l, 1) := by decide +kernel
theorem dX8_mended_58 : decode cX8_mended 58 = .ok (.aload_n 0, 1) := by decide +kernel
theorem dX8_mended_59 : decode cX8_mended 59 = .ok (.invokevirtual 158, 3) := by decide +kernel
theorem dX8_mended_62 : decode cX8_mended 62 = .ok (.lmul, 1) := by decide +kernel
theorem dX8_mended_63 : decode cX8_mended 63 = .ok (.lsub, 1) := by decide +kernel
theorem dX8_mended_64 : decode cX8_mended 64 = .ok (.lstore_n 3, 1) := by decide +kernel
theorem dX8_mended_65 : decode cX8_mended 65 = .ok (.lload_n 3, 1) := by decide +kernel
theorem dX8_mended_66 : decode cX8_mended 66 = .ok (.aload_n 0, 1) := by decide +kernel
theorem dX8_mended_67 : decode cX8_mended 67 = .ok (.getfield 143, 3) := by decide +kernel
theorem dX8_mended_70 : decode cX8_mended 70 = .ok (.i2l, 1) := by decide +kernel
theorem dX8_mended_71 : decode cX8_mended 71 = .ok (.invokestatic 100, 3) := by decide +kernel
theorem dX8_mended_74 : decode cX8_mended 74 = .ok (.lstore 5, 2) := by decide +kernel
theorem dX8_mended_76 : decode cX8_mended 76 = .ok (.iload_n 2, 1) := by decide +kernel
theorem dX8_mended_77 : decode cX8_mended 77 = .ok (.ifCond .ne 10, 3) := by decide +kernel
theorem dX8_mended_80 : decode cX8_mended 80 = .ok (.lload_n 3, 1) := by decide +kernel
theorem dX8_mended_81 : decode cX8_mended 81 = .ok (.lload 5, 2) := by decide +kernel
theorem dX8_mended_83 : decode cX8_mended 83 = .ok (.ldiv, 1) := by decide +kernel
theorem dX8_mended_84 : decode cX8_mended 84 = .ok (.goto 11, 3) := by decide +kernel
theorem dX8_mended_87 : decode cX8_mended 87 = .ok (.aload_n 0, 1) := by decide +kernel
theorem dX8_mended_88 : decode cX8_mended 88 = .ok (.getfield 143, 3) := by decide +kernel
theorem dX8_mended_91 : decode cX8_mended 91 = .ok (.i2l, 1) := by decide +kernel
theorem dX8_mended_92 : decode cX8_mended 92 = .ok (.lload 5, 2) := by decide +kernel
theorem dX8_mended_94 : decode cX8_mended 94 = .ok (.ldiv, 1) := by decide +kernel
theorem dX8_mended_95 : decode cX8_mended 95 = .ok (.lreturn, 1) := by decide +kernel
theorem dX8_count_0 : decode cX8_count 0 = .ok (.aload_n 0, 1) := by decide +kernel
theorem dX8_count_1 : decode cX8_count 1 = .ok (.iconst 0, 1) := by decide +kernel
theorem dX8_count_2 : decode cX8_count 2 = .ok (.putfield 60, 3) := by decide +kernel
theorem dX8_count_5 : decode cX8_count 5 = .ok (.iconst 0, 1) := by decide +kernel
theorem dX8_count_6 : decode cX8_count 6 = .ok (.istore_n 2, 1) := by decide +kernel
theorem dX8_count_7 : decode cX8_count 7 = .ok (.iconst 0, 1) := by decide +kernel
theorem dX8_count_8 : decode cX8_count 8 = .ok (.istore_n 3, 1) := by decide +kernel
theorem dX8_count_9 : decode cX8_count 9 = .ok (.iconst 0, 1) := by decide +kernel
theorem dX8_count_10 : decode cX8_count 10 = .ok (.istore 4, 2) := by decide +kernel
theorem dX8_count_12 : decode cX8_count 12 = .ok (.iload 4, 2) := by decide +kernel
theorem dX8_count_14 : decode cX8_count 14 = .ok (.aload_n 0, 1) := by decide +kernel
theorem dX8_count_15 : decode cX8_count 15 = .ok (.getfield 64, 3) := by decide +kernel
theorem dX8_count_18 : decode cX8_count 18 = .ok (.if_icmp .ge 78, 3) := by decide +kernel
theorem dX8_count_21 : decode cX8_count 21 = .ok (.iload_n 2, 1) := by decide +kernel
theorem dX8_count_22 : decode cX8_count 22 = .ok (.aload_n 0, 1) := by decide +kernel
theorem dX8_count_23 : decode cX8_count 23 = .ok (.getfield 25, 3) := by decide +kernel
theorem dX8_count_26 : decode cX8_count 26 = .ok (.iload 4, 2) := by decide +kernel
theorem dX8_count_28 : decode cX8_count 28 = .ok (.iaload, 1) := by decide +kernel
theorem dX8_count_29 : decode cX8_count 29 = .ok (.iadd, 1) := by decide +kernel
theorem dX8_count_30 : decode cX8_count 30 = .ok (.istore_n 2, 1) := by decide +kernel
theorem dX8_count_31 : decode cX8_count 31 = .ok (.iload_n 3, 1) := by decide +kernel
theorem dX8_count_32 : decode cX8_count 32 = .ok (.aload_n 0, 1) := by decide +kernel
theorem dX8_count_33 : decode cX8_count 33 = .ok (.getfield 25, 3) := by decide +kernel
theorem dX8_count_36 : decode cX8_count 36 = .ok (.iload 4, 2) := by decide +kernel
theorem dX8_count_38 : decode cX8_count 38 = .ok (.iaload, 1) := by decide +kernel
theorem dX8_count_39 : decode cX8_count 39 = .ok (.ifCond .le 7, 3) := by decide +kernel
theorem dX8_count_42 : decode cX8_count 42 = .ok (.iconst 1, 1) := by decide +kernel
theorem dX8_count_43 : decode cX8_count 43 = .ok (.goto 4, 3) := by decide +kernel
theorem dX8_count_46 : decode cX8_count 46 = .ok (.iconst 0, 1) := by decide +kernel
theorem dX8_count_47 : decode cX8_count 47 = .ok (.iadd, 1) := by decide +kernel
theorem dX8_count_48 : decode cX8_count 48 = .ok (.istore_n 3, 1) := by decide +kernel
theorem dX8_count_49 : decode cX8_count 49 = .ok (.iconst 0, 1) := by decide +kernel
theorem dX8_count_50 : decode cX8_count 50 = .ok (.istore 5, 2) := by decide +kernel
theorem dX8_count_52 : decode cX8_count 52 = .ok (.iload 5, 2) := by decide +kernel
theorem dX8_count_54 : decode cX8_count 54 = .ok (.aload_n 0, 1) := by decide +kernel
theorem dX8_count_55 : decode cX8_count 55 = .ok (.getfield 64, 3) := by decide +kernel
theorem dX8_count_58 : decode cX8_count 58 = .ok (.if_icmp .ge 32, 3) := by decide +kernel
theorem dX8_count_61 : decode cX8_count 61 = .ok (.iload_n 3, 1) := by decide +kernel
theorem dX8_count_62 : decode cX8_count 62 = .ok (.aload_n 0, 1) := by decide +kernel
theorem dX8_count_63 : decode cX8_count 63 = .ok (.getfield 28, 3) := by decide +kernel
theorem dX8_count_66 : decode cX8_count 66 = .ok (.iconst 5, 1) := by decide +kernel
theorem dX8_count_67 : decode cX8_count 67 = .ok (.iload 4, 2) := by decide +kernel
theorem dX8_count_69 : decode cX8_count 69 = .ok (.imul, 1) := by decide +kernel
theorem dX8_count_70 : decode cX8_count 70 = .ok (.iload 5, 2) := by decide +kernel
theorem dX8_count_72 : decode cX8_count 72 = .ok (.iadd, 1) := by decide +kernel
theorem dX8_count_73 : decode cX8_count 73 = .ok (.iaload, 1) := by decide +kernel
theorem dX8_count_74 : decode cX8_count 74 = .ok (.ifCond .le 7, 3) := by decide +kernel
theorem dX8_count_77 : decode cX8_count 77 = .ok (.iconst 1, 1) := by decide +kernel
theorem dX8_count_78 : decode cX8_count 78 = .ok (.goto 4, 3) := by decide +kernel
theorem dX8_count_81 : decode cX8_count 81 = .ok (.iconst 0, 1) := by decide +kernel
theorem dX8_count_82 : decode cX8_count 82 = .ok (.iadd, 1) := by decide +kernel
theorem dX8_count_83 : decode cX8_count 83 = .ok (.istore_n 3, 1) := by decide +kernel
theorem dX8_count_84 : decode cX8_count 84 = .ok (.iinc 5 1, 3) := by decide +kernel
theorem dX8_count_87 : decode cX8_count 87 = .ok (.goto (-35), 3) := by decide +kernel
theorem dX8_count_90 : decode cX8_count 90 = .ok (.iinc 4 1, 3) := by decide +kernel
theorem dX8_count_93 : decode cX8_count 93 = .ok (.goto (-81), 3) := by decide +kernel
theorem dX8_count_96 : decode cX8_count 96 = .ok (.iload_n 1, 1) := by decide +kernel
theorem dX8_count_97 : decode cX8_count 97 = .ok (.tableswitch 66 0 6 #[43, 48, 50, 52, 57, 57, 57], 43) := by decide +kernel
theorem dX8_count_140 : decode cX8_count 140 = .ok (.aload_n 0, 1) := by decide +kernel
theorem dX8_count_141 : decode cX8_count 141 = .ok (.getfield 64, 3) := by decide +kernel
theorem dX8_count_144 : decode cX8_count 144 = .ok (.ireturn, 1) := by decide +kernel
theorem dX8_count_145 : decode cX8_count 145 = .ok (.iload_n 2, 1) := by decide +kernel
theorem dX8_count_146 : decode cX8_count 146 = .ok (.ireturn, 1) := by decide +kernel
theorem dX8_count_147 : decode cX8_count 147 = .ok (.iload_n 3, 1) := by decide +kernel
theorem dX8_count_148 : decode cX8_count 148 = .ok (.ireturn, 1) := by decide +kernel
theorem dX8_count_149 : decode cX8_count 149 = .ok (.aload_n 0, 1) := by decide +kernel
theorem dX8_count_150 : decode cX8_count 150 = .ok (.getfield 143, 3) := by decide +kernel
theorem dX8_count_153 : decode cX8_count 153 = .ok (.ireturn, 1) := by decide +kernel
theorem dX8_count_154 : decode cX8_count 154 = .ok (.aload_n 0, 1) := by decide +kernel
theorem dX8_count_155 : decode cX8_count 155 = .ok (.getfield 22, 3) := by decide +kernel
theorem dX8_count_158 : decode cX8_count 158 = .ok (.iload_n 1, 1) := by decide +kernel
theorem dX8_count_159 : decode cX8_count 159 = .ok (.iconst 4, 1) := by decide +kernel
theorem dX8_count_160 : decode cX8_count 160 = .ok (.isub, 1) := by decide +kernel
theorem dX8_count_161 : decode cX8_count 161 = .ok (.iaload, 1) := by decide +kernel
theorem dX8_count_162 : decode cX8_count 162 = .ok (.ireturn, 1) := by decide +kernel
theorem dX8_count_163 : decode cX8_count 163 = .ok (.iconst (-1), 1) := by decide +kernel
theorem dX8_count_164 : decode cX8_count 164 = .ok (.ireturn, 1) := by decide +kernel
theorem dX8_trace_0 : decode cX8_trace 0 = .ok (.aload_n 0, 1) := by decide +kernel
theorem dX8_trace_1 : decode cX8_trace 1 = .ok (.iconst 0, 1) := by decide +kernel
theorem dX8_trace_2 : decode cX8_trace 2 = .ok (.putfield 60, 3) := by decide +kernel
theorem dX8_trace_5 : decode cX8_trace 5 = .ok (.aload_n 0, 1) := by decide +kernel
theorem dX8_trace_6 : decode cX8_trace 6 = .ok (.getfield 88, 3) := by decide +kernel
theorem dX8_trace_9 : decode cX8_trace 9 = .ok (.lreturn, 1) := by decide +kernel
end
section
theorem dL_law_0 : decode cL_law 0 = .ok (.new 7, 3) := by decide +kernel
theorem dL_law_3 : decode cL_law 3 = .ok (.dup, 1) := by decide +kernel
theorem dL_law_4 : decode cL_law 4 = .ok (.invokespecial 9, 3) := by decide +kernel
theorem dL_law_7 : decode cL_law 7 = .ok (.astore_n 1, 1) := by decide +kernel
theorem dL_law_8 : decode cL_law 8 = .ok (.new 10, 3) := by decide +kernel
theorem dL_law_11 : decode cL_law 11 = .ok (.dup, 1) := by decide +kernel
theorem dL_law_12 : decode cL_law 12 = .ok (.invokespecial 12, 3) := by decide +kernel
theorem dL_law_15 : decode cL_law 15 = .ok (.astore_n 2, 1) := by decide +kernel
theorem dL_law_16 : decode cL_law 16 = .ok (.iconst 0, 1) := by decide +kernel
theorem dL_law_17 : decode cL_law 17 = .ok (.istore_n 3, 1) := by decide +kernel
theorem dL_law_18 : decode cL_law 18 = .ok (.iload_n 3, 1) := by decide +kernel
theorem dL_law_19 : decode cL_law 19 = .ok (.aload_n 0, 1) := by decide +kernel
theorem dL_law_20 : decode cL_law 20 = .ok (.arraylength, 1) := by decide +kernel
theorem dL_law_21 : decode cL_law 21 = .ok (.bipush 6, 2) := by decide +kernel
theorem dL_law_23 : decode cL_law 23 = .ok (.isub, 1) := by decide +kernel
theorem dL_law_24 : decode cL_law 24 = .ok (.if_icmp .gt 803, 3) := by decide +kernel
theorem dL_law_27 : decode cL_law 27 = .ok (.aload_n 0, 1) := by decide +kernel
theorem dL_law_28 : decode cL_law 28 = .ok (.iload_n 3, 1) := by decide +kernel
theorem dL_law_29 : decode cL_law 29 = .ok (.iaload, 1) := by decide +kernel
theorem dL_law_30 : decode cL_law 30 = .ok (.bipush 31, 2) := by decide +kernel
theorem dL_law_32 : decode cL_law 32 = .ok (.iand, 1) := by decide +kernel
theorem dL_law_33 : decode cL_law 33 = .ok (.tableswitch 788 0 20 #[99, 142, 185, 218, 251, 285, 309, 342, 385, 418, 431, 465, 508, 571, 614, 637, 660, 693, 717, 751, 774], 99) := by decide +kernel
theorem dL_law_132 : decode cL_law 132 = .ok (.aload_n 1, 1) := by decide +kernel
theorem dL_law_133 : decode cL_law 133 = .ok (.aload_n 0, 1) := by decide +kernel
theorem dL_law_134 : decode cL_law 134 = .ok (.iload_n 3, 1) := by decide +kernel
theorem dL_law_135 : decode cL_law 135 = .ok (.iconst 1, 1) := by decide +kernel
theorem dL_law_136 : decode cL_law 136 = .ok (.iadd, 1) := by decide +kernel
theorem dL_law_137 : decode cL_law 137 = .ok (.iaload, 1) := by decide +kernel
theorem dL_law_138 : decode cL_law 138 = .ok (.aload_n 0, 1) := by decide +kernel
theorem dL_law_139 : decode cL_law 139 = .ok (.iload_n 3, 1) := by decide +kernel
theorem dL_law_140 : decode cL_law 140 = .ok (.iconst 2, 1) := by decide +kernel
theorem dL_law_141 : decode cL_law 141 = .ok (.iadd, 1) := by decide +kernel
theorem dL_law_142 : decode cL_law 142 = .ok (.iaload, 1) := by decide +kernel
theorem dL_law_143 : decode cL_law 143 = .ok (.aload_n 0, 1) := by decide +kernel
theorem dL_law_144 : decode cL_law 144 = .ok (.iload_n 3, 1) := by decide +kernel
theorem dL_law_145 : decode cL_law 145 = .ok (.iconst 3, 1) := by decide +kernel
theorem dL_law_146 : decode cL_law 146 = .ok (.iadd, 1) := by decide +kernel
theorem dL_law_147 : decode cL_law 147 = .ok (.iaload, 1) := by decide +kernel
theorem dL_law_148 : decode cL_law 148 = .ok (.invokevirtual 13, 3) := by decide +kernel
theorem dL_law_151 : decode cL_law 151 = .ok (.aload_n 2, 1) := by decide +kernel
theorem dL_law_152 : decode cL_law 152 = .ok (.aload_n 0, 1) := by decide +kernel
theorem dL_law_153 : decode cL_law 153 = .ok (.iload_n 3, 1) := by decide +kernel
theorem dL_law_154 : decode cL_law 154 = .ok (.iconst 1, 1) := by decide +kernel
theorem dL_law_155 : decode cL_law 155 = .ok (.iadd, 1) := by decide +kernel
theorem dL_law_156 : decode cL_law 156 = .ok (.iaload, 1) := by decide +kernel
theorem dL_law_157 : decode cL_law 157 = .ok (.aload_n 0, 1) := by decide +kernel
theorem dL_law_158 : decode cL_law 158 = .ok (.iload_n 3, 1) := by decide +kernel
theorem dL_law_159 : decode cL_law 159 = .ok (.iconst 2, 1) := by decide +kernel
theorem dL_law_160 : decode cL_law 160 = .ok (.iadd, 1) := by decide +kernel
theorem dL_law_161 : decode cL_law 161 = .ok (.iaload, 1) := by decide +kernel
theorem dL_law_162 : decode cL_law 162 = .ok (.aload_n 0, 1) := by decide +kernel
theorem dL_law_163 : decode cL_law 163 = .ok (.iload_n 3, 1) := by decide +kernel
theorem dL_law_164 : decode cL_law 164 = .ok (.iconst 3, 1) := by decide +kernel
theorem dL_law_165 : decode cL_law 165 = .ok (.iadd, 1) := by decide +kernel
theorem dL_law_166 : decode cL_law 166 = .ok (.iaload, 1) := by decide +kernel
theorem dL_law_167 : decode cL_law 167 = .ok (.invokevirtual 17, 3) := by decide +kernel
theorem dL_law_170 : decode cL_law 170 = .ok (.if_icmp .eq 651, 3) := by decide +kernel
theorem dL_law_173 : decode cL_law 173 = .ok (.iconst 0, 1) := by decide +kernel
theorem dL_law_174 : decode cL_law 174 = .ok (.ireturn, 1) := by decide +kernel
theorem dL_law_175 : decode cL_law 175 = .ok (.aload_n 1, 1) := by decide +kernel
theorem dL_law_176 : decode cL_law 176 = .ok (.aload_n 0, 1) := by decide +kernel
theorem dL_law_177 : decode cL_law 177 = .ok (.iload_n 3, 1) := by decide +kernel
theorem dL_law_178 : decode cL_law 178 = .ok (.iconst 1, 1) := by decide +kernel
theorem dL_law_179 : decode cL_law 179 = .ok (.iadd, 1) := by decide +kernel
theorem dL_law_180 : decode cL_law 180 = .ok (.iaload, 1) := by decide +kernel
theorem dL_law_181 : decode cL_law 181 = .ok (.aload_n 0, 1) := by decide +kernel
theorem dL_law_182 : decode cL_law 182 = .ok (.iload_n 3, 1) := by decide +kernel
theorem dL_law_183 : decode cL_law 183 = .ok (.iconst 2, 1) := by decide +kernel
theorem dL_law_184 : decode cL_law 184 = .ok (.iadd, 1) := by decide +kernel
theorem dL_law_185 : decode cL_law 185 = .ok (.iaload, 1) := by decide +kernel
theorem dL_law_186 : decode cL_law 186 = .ok (.aload_n 0, 1) := by decide +kernel
theorem dL_law_187 : decode cL_law 187 = .ok (.iload_n 3, 1) := by decide +kernel
theorem dL_law_188 : decode cL_law 188 = .ok (.iconst 3, 1) := by decide +kernel
theorem dL_law_189 : decode cL_law 189 = .ok (.iadd, 1) := by decide +kernel
theorem dL_law_190 : decode cL_law 190 = .ok (.iaload, 1) := by decide +kernel
theorem dL_law_191 : decode cL_law 191 = .ok (.invokevirtual 18, 3) := by decide +kernel
theorem dL_law_194 : decode cL_law 194 = .ok (.aload_n 2, 1) := by decide +kernel
theorem dL_law_195 : decode cL_law 195 = .ok (.aload_n 0, 1) := by decide +kernel
theorem dL_law_196 : decode cL_law 196 = .ok (.iload_n 3, 1) := by decide +kernel
theorem dL_law_197 : decode cL_law 197 = .ok (.iconst 1, 1) := by decide +kernel
theorem dL_law_198 : decode cL_law 198 = .ok (.iadd, 1) := by decide +kernel
theorem dL_law_199 : decode cL_law 199 = .ok (.iaload, 1) := by decide +kernel
theorem dL_law_200 : decode cL_law 200 = .ok (.aload_n 0, 1) := by decide +kernel
theorem dL_law_201 : decode cL_law 201 = .ok (.iload_n 3, 1) := by decide +kernel
theorem dL_law_202 : decode cL_law 202 = .ok (.iconst 2, 1) := by decide +kernel
theorem dL_law_203 : decode cL_law 203 = .ok (.iadd, 1) := by decide +kernel
theorem dL_law_204 : decode cL_law 204 = .ok (.iaload, 1) := by decide +kernel
theorem dL_law_205 : decode cL_law 205 = .ok (.aload_n 0, 1) := by decide +kernel
theorem dL_law_206 : decode cL_law 206 = .ok (.iload_n 3, 1) := by decide +kernel
theorem dL_law_207 : decode cL_law 207 = .ok (.iconst 3, 1) := by decide +kernel
theorem dL_law_208 : decode cL_law 208 = .ok (.iadd, 1) := by decide +kernel
theorem dL_law_209 : decode cL_law 209 = .ok (.iaload, 1) := by decide +kernel
theorem dL_law_210 : decode cL_law 210 = .ok (.invokevirtual 21, 3) := by decide +kernel
theorem dL_law_213 : decode cL_law 213 = .ok (.if_icmp .eq 608, 3) := by decide +kernel
theorem dL_law_216 : decode cL_law 216 = .ok (.iconst 0, 1) := by decide +kernel
theorem dL_law_217 : decode cL_law 217 = .ok (.ireturn, 1) := by decide +kernel
theorem dL_law_218 : decode cL_law 218 = .ok (.aload_n 1, 1) := by decide +kernel
theorem dL_law_219 : decode cL_law 219 = .ok (.aload_n 0, 1) := by decide +kernel
theorem dL_law_220 : decode cL_law 220 = .ok (.iload_n 3, 1) := by decide +kernel
theorem dL_law_221 : decode cL_law 221 = .ok (.iconst 1, 1) := by decide +kernel
theorem dL_law_222 : decode cL_law 222 = .ok (.iadd, 1) := by decide +kernel
theorem dL_law_223 : decode cL_law 223 = .ok (.iaload, 1) := by decide +kernel
theorem dL_law_224 : decode cL_law 224 = .ok (.aload_n 0, 1) := by decide +kernel
theorem dL_law_225 : decode cL_law 225 = .ok (.iload_n 3, 1) := by decide +kernel
theorem dL_law_226 : decode cL_law 226 = .ok (.iconst 2, 1) := by decide +kernel
theorem dL_law_227 : decode cL_law 227 = .ok (.iadd, 1) := by decide +kernel
theorem dL_law_228 : decode cL_law 228 = .ok (.iaload, 1) := by decide +kernel
theorem dL_law_229 : decode cL_law 229 = .ok (.invokevirtual 22, 3) := by decide +kernel
theorem dL_law_232 : decode cL_law 232 = .ok (.aload_n 2, 1) := by decide +kernel
theorem dL_law_233 : decode cL_law 233 = .ok (.aload_n 0, 1) := by decide +kernel
theorem dL_law_234 : decode cL_law 234 = .ok (.iload_n 3, 1) := by decide +kernel
theorem dL_law_235 : decode cL_law 235 = .ok (.iconst 1, 1) := by decide +kernel
theorem dL_law_236 : decode cL_law 236 = .ok (.iadd, 1) := by decide +kernel
theorem dL_law_237 : decode cL_law 237 = .ok (.iaload, 1) := by decide +kernel
theorem dL_law_238 : decode cL_law 238 = .ok (.aload_n 0, 1) := by decide +kernel
theorem dL_law_239 : decode cL_law 239 = .ok (.iload_n 3, 1) := by decide +kernel
theorem dL_law_240 : decode cL_law 240 = .ok (.iconst 2, 1) := by decide +kernel
theorem dL_law_241 : decode cL_law 241 = .ok (.iadd, 1) := by decide +kernel
theorem dL_law_242 : decode cL_law 242 = .ok (.iaload, 1) := by decide +kernel
theorem dL_law_243 : decode cL_law 243 = .ok (.invokevirtual 26, 3) := by decide +kernel
theorem dL_law_246 : decode cL_law 246 = .ok (.if_icmp .eq 575, 3) := by decide +kernel
theorem dL_law_249 : decode cL_law 249 = .ok (.iconst 0, 1) := by decide +kernel
theorem dL_law_250 : decode cL_law 250 = .ok (.ireturn, 1) := by decide +kernel
theorem dL_law_251 : decode cL_law 251 = .ok (.aload_n 1, 1) := by decide +kernel
theorem dL_law_252 : decode cL_law 252 = .ok (.aload_n 0, 1) := by decide +kernel
theorem dL_law_253 : decode cL_law 253 = .ok (.iload_n 3, 1) := by decide +kernel
theorem dL_law_254 : decode cL_law 254 = .ok (.iconst 1, 1) := by decide +kernel
theorem dL_law_255 : decode cL_law 255 = .ok (.iadd, 1) := by decide +kernel
theorem dL_law_256 : decode cL_law 256 = .ok (.iaload, 1) := by decide +kernel
theorem dL_law_257 : decode cL_law 257 = .ok (.aload_n 0, 1) := by decide +kernel
theorem dL_law_258 : decode cL_law 258 = .ok (.iload_n 3, 1) := by decide +kernel
theorem dL_law_259 : decode cL_law 259 = .ok (.iconst 2, 1) := by decide +kernel
theorem dL_law_260 : decode cL_law 260 = .ok (.iadd, 1) := by decide +kernel
theorem dL_law_261 : decode cL_law 261 = .ok (.iaload, 1) := by decide +kernel
theorem dL_law_262 : decode cL_law 262 = .ok (.invokevirtual 27, 3) := by decide +kernel
theorem dL_law_265 : decode cL_law 265 = .ok (.aload_n 2, 1) := by decide +kernel
theorem dL_law_266 : decode cL_law 266 = .ok (.aload_n 0, 1) := by decide +kernel
theorem dL_law_267 : decode cL_law 267 = .ok (.iload_n 3, 1) := by decide +kernel
theorem dL_law_268 : decode cL_law 268 = .ok (.iconst 1, 1) := by decide +kernel
theorem dL_law_269 : decode cL_law 269 = .ok (.iadd, 1) := by decide +kernel
theorem dL_law_270 : decode cL_law 270 = .ok (.iaload, 1) := by decide +kernel
theorem dL_law_271 : decode cL_law 271 = .ok (.aload_n 0, 1) := by decide +kernel
theorem dL_law_272 : decode cL_law 272 = .ok (.iload_n 3, 1) := by decide +kernel
theorem dL_law_273 : decode cL_law 273 = .ok (.iconst 2, 1) := by decide +kernel
theorem dL_law_274 : decode cL_law 274 = .ok (.iadd, 1) := by decide +kernel
theorem dL_law_275 : decode cL_law 275 = .ok (.iaload, 1) := by decide +kernel
theorem dL_law_276 : decode cL_law 276 = .ok (.invokevirtual 30, 3) := by decide +kernel
theorem dL_law_279 : decode cL_law 279 = .ok (.if_icmp .eq 542, 3) := by decide +kernel
theorem dL_law_282 : decode cL_law 282 = .ok (.iconst 0, 1) := by decide +kernel
theorem dL_law_283 : decode cL_law 283 = .ok (.ireturn, 1) := by decide +kernel
theorem dL_law_284 : decode cL_law 284 = .ok (.aload_n 1, 1) := by decide +kernel
theorem dL_law_285 : decode cL_law 285 = .ok (.aload_n 0, 1) := by decide +kernel
theorem dL_law_286 : decode cL_law 286 = .ok (.iload_n 3, 1) := by decide +kernel
theorem dL_law_287 : decode cL_law 287 = .ok (.iconst 1, 1) := by decide +kernel
theorem dL_law_288 : decode cL_law 288 = .ok (.iadd, 1) := by decide +kernel
theorem dL_law_289 : decode cL_law 289 = .ok (.iaload, 1) := by decide +kernel
theorem dL_law_290 : decode cL_law 290 = .ok (.aload_n 0, 1) := by decide +kernel
theorem dL_law_291 : decode cL_law 291 = .ok (.iload_n 3, 1) := by decide +kernel
theorem dL_law_292 : decode cL_law 292 = .ok (.iconst 2, 1) := by decide +kernel
theorem dL_law_293 : decode cL_law 293 = .ok (.iadd, 1) := by decide +kernel
theorem dL_law_294 : decode cL_law 294 = .ok (.iaload, 1) := by decide +kernel
theorem dL_law_295 : decode cL_law 295 = .ok (.invokevirtual 31, 3) := by decide +kernel
theorem dL_law_298 : decode cL_law 298 = .ok (.aload_n 2, 1) := by decide +kernel
theorem dL_law_299 : decode cL_law 299 = .ok (.aload_n 0, 1) := by decide +kernel
theorem dL_law_300 : decode cL_law 300 = .ok (.iload_n 3, 1) := by decide +kernel
theorem dL_law_301 : decode cL_law 301 = .ok (.iconst 1, 1) := by decide +kernel
theorem dL_law_302 : decode cL_law 302 = .ok (.iadd, 1) := by decide +kernel
theorem dL_law_303 : decode cL_law 303 = .ok (.iaload, 1) := by decide +kernel
theorem dL_law_304 : decode cL_law 304 = .ok (.aload_n 0, 1) := by decide +kernel
theorem dL_law_305 : decode cL_law 305 = .ok (.iload_n 3, 1) := by decide +kernel
theorem dL_law_306 : decode cL_law 306 = .ok (.iconst 2, 1) := by decide +kernel
theorem dL_law_307 : decode cL_law 307 = .ok (.iadd, 1) := by decide +kernel
theorem dL_law_308 : decode cL_law 308 = .ok (.iaload, 1) := by decide +kernel
theorem dL_law_309 : decode cL_law 309 = .ok (.invokevirtual 35, 3) := by decide +kernel
theorem dL_law_312 : decode cL_law 312 = .ok (.lcmp, 1) := by decide +kernel
theorem dL_law_313 : decode cL_law 313 = .ok (.ifCond .eq 508, 3) := by decide +kernel
theorem dL_law_316 : decode cL_law 316 = .ok (.iconst 0, 1) := by decide +kernel
theorem dL_law_317 : decode cL_law 317 = .ok (.ireturn, 1) := by decide +kernel
theorem dL_law_318 : decode cL_law 318 = .ok (.aload_n 1, 1) := by decide +kernel
theorem dL_law_319 : decode cL_law 319 = .ok (.aload_n 0, 1) := by decide +kernel
theorem dL_law_320 : decode cL_law 320 = .ok (.iload_n 3, 1) := by decide +kernel
theorem dL_law_321 : decode cL_law 321 = .ok (.iconst 1, 1) := by decide +kernel
theorem dL_law_322 : decode cL_law 322 = .ok (.iadd, 1) := by decide +kernel
theorem dL_law_323 : decode cL_law 323 = .ok (.iaload, 1) := by decide +kernel
theorem dL_law_324 : decode cL_law 324 = .ok (.invokevirtual 36, 3) := by decide +kernel
theorem dL_law_327 : decode cL_law 327 = .ok (.aload_n 2, 1) := by decide +kernel
theorem dL_law_328 : decode cL_law 328 = .ok (.aload_n 0, 1) := by decide +kernel
theorem dL_law_329 : decode cL_law 329 = .ok (.iload_n 3, 1) := by decide +kernel
theorem dL_law_330 : decode cL_law 330 = .ok (.iconst 1, 1) := by decide +kernel
theorem dL_law_331 : decode cL_law 331 = .ok (.iadd, 1) := by decide +kernel
theorem dL_law_332 : decode cL_law 332 = .ok (.iaload, 1) := by decide +kernel
theorem dL_law_333 : decode cL_law 333 = .ok (.invokevirtual 40, 3) := by decide +kernel
theorem dL_law_336 : decode cL_law 336 = .ok (.lcmp, 1) := by decide +kernel
theorem dL_law_337 : decode cL_law 337 = .ok (.ifCond .eq 484, 3) := by decide +kernel
theorem dL_law_340 : decode cL_law 340 = .ok (.iconst 0, 1) := by decide +kernel
theorem dL_law_341 : decode cL_law 341 = .ok (.ireturn, 1) := by decide +kernel
theorem dL_law_342 : decode cL_law 342 = .ok (.aload_n 1, 1) := by decide +kernel
theorem dL_law_343 : decode cL_law 343 = .ok (.aload_n 0, 1) := by decide +kernel
theorem dL_law_344 : decode cL_law 344 = .ok (.iload_n 3, 1) := by decide +kernel
theorem dL_law_345 : decode cL_law 345 = .ok (.iconst 1, 1) := by decide +kernel
theorem dL_law_346 : decode cL_law 346 = .ok (.iadd, 1) := by decide +kernel
theorem dL_law_347 : decode cL_law 347 = .ok (.iaload, 1) := by decide +kernel
theorem dL_law_348 : decode cL_law 348 = .ok (.aload_n 0, 1) := by decide +kernel
theorem dL_law_349 : decode cL_law 349 = .ok (.iload_n 3, 1) := by decide +kernel
theorem dL_law_350 : decode cL_law 350 = .ok (.iconst 2, 1) := by decide +kernel
theorem dL_law_351 : decode cL_law 351 = .ok (.iadd, 1) := by decide +kernel
theorem dL_law_352 : decode cL_law 352 = .ok (.iaload, 1) := by decide +kernel
theorem dL_law_353 : decode cL_law 353 = .ok (.invokevirtual 41, 3) := by decide +kernel
theorem dL_law_356 : decode cL_law 356 = .ok (.aload_n 2, 1) := by decide +kernel
theorem dL_law_357 : decode cL_law 357 = .ok (.aload_n 0, 1) := by decide +kernel
theorem dL_law_358 : decode cL_law 358 = .ok (.iload_n 3, 1) := by decide +kernel
theorem dL_law_359 : decode cL_law 359 = .ok (.iconst 1, 1) := by decide +kernel
theorem dL_law_360 : decode cL_law 360 = .ok (.iadd, 1) := by decide +kernel
theorem dL_law_361 : decode cL_law 361 = .ok (.iaload, 1) := by decide +kernel
theorem dL_law_362 : decode cL_law 362 = .ok (.aload_n 0, 1) := by decide +kernel
theorem dL_law_363 : decode cL_law 363 = .ok (.iload_n 3, 1) := by decide +kernel
theorem dL_law_364 : decode cL_law 364 = .ok (.iconst 2, 1) := by decide +kernel
theorem dL_law_365 : decode cL_law 365 = .ok (.iadd, 1) := by decide +kernel
theorem dL_law_366 : decode cL_law 366 = .ok (.iaload, 1) := by decide +kernel
theorem dL_law_367 : decode cL_law 367 = .ok (.invokevirtual 44, 3) := by decide +kernel
theorem dL_law_370 : decode cL_law 370 = .ok (.if_icmp .eq 451, 3) := by decide +kernel
theorem dL_law_373 : decode cL_law 373 = .ok (.iconst 0, 1) := by decide +kernel
theorem dL_law_374 : decode cL_law 374 = .ok (.ireturn, 1) := by decide +kernel
theorem dL_law_375 : decode cL_law 375 = .ok (.aload_n 1, 1) := by decide +kernel
theorem dL_law_376 : decode cL_law 376 = .ok (.aload_n 0, 1) := by decide +kernel
theorem dL_law_377 : decode cL_law 377 = .ok (.iload_n 3, 1) := by decide +kernel
theorem dL_law_378 : decode cL_law 378 = .ok (.iconst 1, 1) := by decide +kernel
theorem dL_law_379 : decode cL_law 379 = .ok (.iadd, 1) := by decide +kernel
theorem dL_law_380 : decode cL_law 380 = .ok (.iaload, 1) := by decide +kernel
theorem dL_law_381 : decode cL_law 381 = .ok (.aload_n 0, 1) := by decide +kernel
theorem dL_law_382 : decode cL_law 382 = .ok (.iload_n 3, 1) := by decide +kernel
theorem dL_law_383 : decode cL_law 383 = .ok (.iconst 2, 1) := by decide +kernel
theorem dL_law_384 : decode cL_law 384 = .ok (.iadd, 1) := by decide +kernel
theorem dL_law_385 : decode cL_law 385 = .ok (.iaload, 1) := by decide +kernel
theorem dL_law_386 : decode cL_law 386 = .ok (.aload_n 0, 1) := by decide +kernel
theorem dL_law_387 : decode cL_law 387 = .ok (.iload_n 3, 1) := by decide +kernel
theorem dL_law_388 : decode cL_law 388 = .ok (.iconst 3, 1) := by decide +kernel
theorem dL_law_389 : decode cL_law 389 = .ok (.iadd, 1) := by decide +kernel
theorem dL_law_390 : decode cL_law 390 = .ok (.iaload, 1) := by decide +kernel
theorem dL_law_391 : decode cL_law 391 = .ok (.invokevirtual 45, 3) := by decide +kernel
theorem dL_law_394 : decode cL_law 394 = .ok (.aload_n 2, 1) := by decide +kernel
theorem dL_law_395 : decode cL_law 395 = .ok (.aload_n 0, 1) := by decide +kernel
theorem dL_law_396 : decode cL_law 396 = .ok (.iload_n 3, 1) := by decide +kernel
theorem dL_law_397 : decode cL_law 397 = .ok (.iconst 1, 1) := by decide +kernel
theorem dL_law_398 : decode cL_law 398 = .ok (.iadd, 1) := by decide +kernel
theorem dL_law_399 : decode cL_law 399 = .ok (.iaload, 1) := by decide +kernel
theorem dL_law_400 : decode cL_law 400 = .ok (.aload_n 0, 1) := by decide +kernel
theorem dL_law_401 : decode cL_law 401 = .ok (.iload_n 3, 1) := by decide +kernel
theorem dL_law_402 : decode cL_law 402 = .ok (.iconst 2, 1) := by decide +kernel
theorem dL_law_403 : decode cL_law 403 = .ok (.iadd, 1) := by decide +kernel
theorem dL_law_404 : decode cL_law 404 = .ok (.iaload, 1) := by decide +kernel
theorem dL_law_405 : decode cL_law 405 = .ok (.aload_n 0, 1) := by decide +kernel
theorem dL_law_406 : decode cL_law 406 = .ok (.iload_n 3, 1) := by decide +kernel
theorem dL_law_407 : decode cL_law 407 = .ok (.iconst 3, 1) := by decide +kernel
theorem dL_law_408 : decode cL_law 408 = .ok (.iadd, 1) := by decide +kernel
theorem dL_law_409 : decode cL_law 409 = .ok (.iaload, 1) := by decide +kernel
theorem dL_law_410 : decode cL_law 410 = .ok (.invokevirtual 48, 3) := by decide +kernel
theorem dL_law_413 : decode cL_law 413 = .ok (.if_icmp .eq 408, 3) := by decide +kernel
theorem dL_law_416 : decode cL_law 416 = .ok (.iconst 0, 1) := by decide +kernel
theorem dL_law_417 : decode cL_law 417 = .ok (.ireturn, 1) := by decide +kernel
theorem dL_law_418 : decode cL_law 418 = .ok (.aload_n 1, 1) := by decide +kernel
theorem dL_law_419 : decode cL_law 419 = .ok (.aload_n 0, 1) := by decide +kernel
theorem dL_law_420 : decode cL_law 420 = .ok (.iload_n 3, 1) := by decide +kernel
theorem dL_law_421 : decode cL_law 421 = .ok (.iconst 1, 1) := by decide +kernel
theorem dL_law_422 : decode cL_law 422 = .ok (.iadd, 1) := by decide +kernel
theorem dL_law_423 : decode cL_law 423 = .ok (.iaload, 1) := by decide +kernel
theorem dL_law_424 : decode cL_law 424 = .ok (.aload_n 0, 1) := by decide +kernel
theorem dL_law_425 : decode cL_law 425 = .ok (.iload_n 3, 1) := by decide +kernel
theorem dL_law_426 : decode cL_law 426 = .ok (.iconst 2, 1) := by decide +kernel
theorem dL_law_427 : decode cL_law 427 = .ok (.iadd, 1) := by decide +kernel
theorem dL_law_428 : decode cL_law 428 = .ok (.iaload, 1) := by decide +kernel
theorem dL_law_429 : decode cL_law 429 = .ok (.invokevirtual 49, 3) := by decide +kernel
theorem dL_law_432 : decode cL_law 432 = .ok (.aload_n 2, 1) := by decide +kernel
theorem dL_law_433 : decode cL_law 433 = .ok (.aload_n 0, 1) := by decide +kernel
theorem dL_law_434 : decode cL_law 434 = .ok (.iload_n 3, 1) := by decide +kernel
theorem dL_law_435 : decode cL_law 435 = .ok (.iconst 1, 1) := by decide +kernel
theorem dL_law_436 : decode cL_law 436 = .ok (.iadd, 1) := by decide +kernel
theorem dL_law_437 : decode cL_law 437 = .ok (.iaload, 1) := by decide +kernel
theorem dL_law_438 : decode cL_law 438 = .ok (.aload_n 0, 1) := by decide +kernel
theorem dL_law_439 : decode cL_law 439 = .ok (.iload_n 3, 1) := by decide +kernel
theorem dL_law_440 : decode cL_law 440 = .ok (.iconst 2, 1) := by decide +kernel
theorem dL_law_441 : decode cL_law 441 = .ok (.iadd, 1) := by decide +kernel
theorem dL_law_442 : decode cL_law 442 = .ok (.iaload, 1) := by decide +kernel
theorem dL_law_443 : decode cL_law 443 = .ok (.invokevirtual 52, 3) := by decide +kernel
theorem dL_law_446 : decode cL_law 446 = .ok (.if_icmp .eq 375, 3) := by decide +kernel
theorem dL_law_449 : decode cL_law 449 = .ok (.iconst 0, 1) := by decide +kernel
theorem dL_law_450 : decode cL_law 450 = .ok (.ireturn, 1) := by decide +kernel
theorem dL_law_451 : decode cL_law 451 = .ok (.aload_n 1, 1) := by decide +kernel
theorem dL_law_452 : decode cL_law 452 = .ok (.invokevirtual 53, 3) := by decide +kernel
theorem dL_law_455 : decode cL_law 455 = .ok (.aload_n 2, 1) := by decide +kernel
theorem dL_law_456 : decode cL_law 456 = .ok (.invokevirtual 57, 3) := by decide +kernel
theorem dL_law_459 : decode cL_law 459 = .ok (.if_icmp .eq 362, 3) := by decide +kernel
theorem dL_law_462 : decode cL_law 462 = .ok (.iconst 0, 1) := by decide +kernel
theorem dL_law_463 : decode cL_law 463 = .ok (.ireturn, 1) := by decide +kernel
theorem dL_law_464 : decode cL_law 464 = .ok (.aload_n 1, 1) := by decide +kernel
theorem dL_law_465 : decode cL_law 465 = .ok (.aload_n 0, 1) := by decide +kernel
theorem dL_law_466 : decode cL_law 466 = .ok (.iload_n 3, 1) := by decide +kernel
theorem dL_law_467 : decode cL_law 467 = .ok (.iconst 1, 1) := by decide +kernel
theorem dL_law_468 : decode cL_law 468 = .ok (.iadd, 1) := by decide +kernel
theorem dL_law_469 : decode cL_law 469 = .ok (.iaload, 1) := by decide +kernel
theorem dL_law_470 : decode cL_law 470 = .ok (.aload_n 0, 1) := by decide +kernel
theorem dL_law_471 : decode cL_law 471 = .ok (.iload_n 3, 1) := by decide +kernel
theorem dL_law_472 : decode cL_law 472 = .ok (.iconst 2, 1) := by decide +kernel
theorem dL_law_473 : decode cL_law 473 = .ok (.iadd, 1) := by decide +kernel
theorem dL_law_474 : decode cL_law 474 = .ok (.iaload, 1) := by decide +kernel
theorem dL_law_475 : decode cL_law 475 = .ok (.invokevirtual 58, 3) := by decide +kernel
theorem dL_law_478 : decode cL_law 478 = .ok (.aload_n 2, 1) := by decide +kernel
theorem dL_law_479 : decode cL_law 479 = .ok (.aload_n 0, 1) := by decide +kernel
theorem dL_law_480 : decode cL_law 480 = .ok (.iload_n 3, 1) := by decide +kernel
theorem dL_law_481 : decode cL_law 481 = .ok (.iconst 1, 1) := by decide +kernel
theorem dL_law_482 : decode cL_law 482 = .ok (.iadd, 1) := by decide +kernel
theorem dL_law_483 : decode cL_law 483 = .ok (.iaload, 1) := by decide +kernel
theorem dL_law_484 : decode cL_law 484 = .ok (.aload_n 0, 1) := by decide +kernel
theorem dL_law_485 : decode cL_law 485 = .ok (.iload_n 3, 1) := by decide +kernel
theorem dL_law_486 : decode cL_law 486 = .ok (.iconst 2, 1) := by decide +kernel
theorem dL_law_487 : decode cL_law 487 = .ok (.iadd, 1) := by decide +kernel
theorem dL_law_488 : decode cL_law 488 = .ok (.iaload, 1) := by decide +kernel
theorem dL_law_489 : decode cL_law 489 = .ok (.invokevirtual 61, 3) := by decide +kernel
theorem dL_law_492 : decode cL_law 492 = .ok (.lcmp, 1) := by decide +kernel
theorem dL_law_493 : decode cL_law 493 = .ok (.ifCond .eq 328, 3) := by decide +kernel
theorem dL_law_496 : decode cL_law 496 = .ok (.iconst 0, 1) := by decide +kernel
theorem dL_law_497 : decode cL_law 497 = .ok (.ireturn, 1) := by decide +kernel
theorem dL_law_498 : decode cL_law 498 = .ok (.aload_n 1, 1) := by decide +kernel
theorem dL_law_499 : decode cL_law 499 = .ok (.aload_n 0, 1) := by decide +kernel
theorem dL_law_500 : decode cL_law 500 = .ok (.iload_n 3, 1) := by decide +kernel
theorem dL_law_501 : decode cL_law 501 = .ok (.iconst 1, 1) := by decide +kernel
theorem dL_law_502 : decode cL_law 502 = .ok (.iadd, 1) := by decide +kernel
theorem dL_law_503 : decode cL_law 503 = .ok (.iaload, 1) := by decide +kernel
theorem dL_law_504 : decode cL_law 504 = .ok (.aload_n 0, 1) := by decide +kernel
theorem dL_law_505 : decode cL_law 505 = .ok (.iload_n 3, 1) := by decide +kernel
theorem dL_law_506 : decode cL_law 506 = .ok (.iconst 2, 1) := by decide +kernel
theorem dL_law_507 : decode cL_law 507 = .ok (.iadd, 1) := by decide +kernel
theorem dL_law_508 : decode cL_law 508 = .ok (.iaload, 1) := by decide +kernel
theorem dL_law_509 : decode cL_law 509 = .ok (.aload_n 0, 1) := by decide +kernel
theorem dL_law_510 : decode cL_law 510 = .ok (.iload_n 3, 1) := by decide +kernel
theorem dL_law_511 : decode cL_law 511 = .ok (.iconst 3, 1) := by decide +kernel
theorem dL_law_512 : decode cL_law 512 = .ok (.iadd, 1) := by decide +kernel
theorem dL_law_513 : decode cL_law 513 = .ok (.iaload, 1) := by decide +kernel
theorem dL_law_514 : decode cL_law 514 = .ok (.invokevirtual 62, 3) := by decide +kernel
theorem dL_law_517 : decode cL_law 517 = .ok (.aload_n 2, 1) := by decide +kernel
theorem dL_law_518 : decode cL_law 518 = .ok (.aload_n 0, 1) := by decide +kernel
theorem dL_law_519 : decode cL_law 519 = .ok (.iload_n 3, 1) := by decide +kernel
theorem dL_law_520 : decode cL_law 520 = .ok (.iconst 1, 1) := by decide +kernel
theorem dL_law_521 : decode cL_law 521 = .ok (.iadd, 1) := by decide +kernel
theorem dL_law_522 : decode cL_law 522 = .ok (.iaload, 1) := by decide +kernel
theorem dL_law_523 : decode cL_law 523 = .ok (.aload_n 0, 1) := by decide +kernel
theorem dL_law_524 : decode cL_law 524 = .ok (.iload_n 3, 1) := by decide +kernel
theorem dL_law_525 : decode cL_law 525 = .ok (.iconst 2, 1) := by decide +kernel
theorem dL_law_526 : decode cL_law 526 = .ok (.iadd, 1) := by decide +kernel
theorem dL_law_527 : decode cL_law 527 = .ok (.iaload, 1) := by decide +kernel
theorem dL_law_528 : decode cL_law 528 = .ok (.aload_n 0, 1) := by decide +kernel
theorem dL_law_529 : decode cL_law 529 = .ok (.iload_n 3, 1) := by decide +kernel
theorem dL_law_530 : decode cL_law 530 = .ok (.iconst 3, 1) := by decide +kernel
theorem dL_law_531 : decode cL_law 531 = .ok (.iadd, 1) := by decide +kernel
theorem dL_law_532 : decode cL_law 532 = .ok (.iaload, 1) := by decide +kernel
theorem dL_law_533 : decode cL_law 533 = .ok (.invokevirtual 65, 3) := by decide +kernel
theorem dL_law_536 : decode cL_law 536 = .ok (.if_icmp .eq 285, 3) := by decide +kernel
theorem dL_law_539 : decode cL_law 539 = .ok (.iconst 0, 1) := by decide +kernel
theorem dL_law_540 : decode cL_law 540 = .ok (.ireturn, 1) := by decide +kernel
theorem dL_law_541 : decode cL_law 541 = .ok (.aload_n 1, 1) := by decide +kernel
theorem dL_law_542 : decode cL_law 542 = .ok (.aload_n 0, 1) := by decide +kernel
theorem dL_law_543 : decode cL_law 543 = .ok (.iload_n 3, 1) := by decide +kernel
theorem dL_law_544 : decode cL_law 544 = .ok (.iconst 1, 1) := by decide +kernel
theorem dL_law_545 : decode cL_law 545 = .ok (.iadd, 1) := by decide +kernel
theorem dL_law_546 : decode cL_law 546 = .ok (.iaload, 1) := by decide +kernel
theorem dL_law_547 : decode cL_law 547 = .ok (.aload_n 0, 1) := by decide +kernel
theorem dL_law_548 : decode cL_law 548 = .ok (.iload_n 3, 1) := by decide +kernel
theorem dL_law_549 : decode cL_law 549 = .ok (.iconst 2, 1) := by decide +kernel
theorem dL_law_550 : decode cL_law 550 = .ok (.iadd, 1) := by decide +kernel
theorem dL_law_551 : decode cL_law 551 = .ok (.iaload, 1) := by decide +kernel
theorem dL_law_552 : decode cL_law 552 = .ok (.aload_n 0, 1) := by decide +kernel
theorem dL_law_553 : decode cL_law 553 = .ok (.iload_n 3, 1) := by decide +kernel
theorem dL_law_554 : decode cL_law 554 = .ok (.iconst 3, 1) := by decide +kernel
theorem dL_law_555 : decode cL_law 555 = .ok (.iadd, 1) := by decide +kernel
theorem dL_law_556 : decode cL_law 556 = .ok (.iaload, 1) := by decide +kernel
theorem dL_law_557 : decode cL_law 557 = .ok (.aload_n 0, 1) := by decide +kernel
theorem dL_law_558 : decode cL_law 558 = .ok (.iload_n 3, 1) := by decide +kernel
theorem dL_law_559 : decode cL_law 559 = .ok (.iconst 4, 1) := by decide +kernel
theorem dL_law_560 : decode cL_law 560 = .ok (.iadd, 1) := by decide +kernel
theorem dL_law_561 : decode cL_law 561 = .ok (.iaload, 1) := by decide +kernel
theorem dL_law_562 : decode cL_law 562 = .ok (.aload_n 0, 1) := by decide +kernel
theorem dL_law_563 : decode cL_law 563 = .ok (.iload_n 3, 1) := by decide +kernel
theorem dL_law_564 : decode cL_law 564 = .ok (.iconst 5, 1) := by decide +kernel
theorem dL_law_565 : decode cL_law 565 = .ok (.iadd, 1) := by decide +kernel
theorem dL_law_566 : decode cL_law 566 = .ok (.iaload, 1) := by decide +kernel
theorem dL_law_567 : decode cL_law 567 = .ok (.invokevirtual 66, 3) := by decide +kernel
theorem dL_law_570 : decode cL_law 570 = .ok (.aload_n 2, 1) := by decide +kernel
theorem dL_law_571 : decode cL_law 571 = .ok (.aload_n 0, 1) := by decide +kernel
theorem dL_law_572 : decode cL_law 572 = .ok (.iload_n 3, 1) := by decide +kernel
theorem dL_law_573 : decode cL_law 573 = .ok (.iconst 1, 1) := by decide +kernel
theorem dL_law_574 : decode cL_law 574 = .ok (.iadd, 1) := by decide +kernel
theorem dL_law_575 : decode cL_law 575 = .ok (.iaload, 1) := by decide +kernel
theorem dL_law_576 : decode cL_law 576 = .ok (.aload_n 0, 1) := by decide +kernel
theorem dL_law_577 : decode cL_law 577 = .ok (.iload_n 3, 1) := by decide +kernel
theorem dL_law_578 : decode cL_law 578 = .ok (.iconst 2, 1) := by decide +kernel
theorem dL_law_579 : decode cL_law 579 = .ok (.iadd, 1) := by decide +kernel
theorem dL_law_580 : decode cL_law 580 = .ok (.iaload, 1) := by decide +kernel
theorem dL_law_581 : decode cL_law 581 = .ok (.aload_n 0, 1) := by decide +kernel
theorem dL_law_582 : decode cL_law 582 = .ok (.iload_n 3, 1) := by decide +kernel
theorem dL_law_583 : decode cL_law 583 = .ok (.iconst 3, 1) := by decide +kernel
theorem dL_law_584 : decode cL_law 584 = .ok (.iadd, 1) := by decide +kernel
theorem dL_law_585 : decode cL_law 585 = .ok (.iaload, 1) := by decide +kernel
theorem dL_law_586 : decode cL_law 586 = .ok (.aload_n 0, 1) := by decide +kernel
theorem dL_law_587 : decode cL_law 587 = .ok (.iload_n 3, 1) := by decide +kernel
theorem dL_law_588 : decode cL_law 588 = .ok (.iconst 4, 1) := by decide +kernel
theorem dL_law_589 : decode cL_law 589 = .ok (.iadd, 1) := by decide +kernel
theorem dL_law_590 : decode cL_law 590 = .ok (.iaload, 1) := by decide +kernel
theorem dL_law_591 : decode cL_law 591 = .ok (.aload_n 0, 1) := by decide +kernel
theorem dL_law_592 : decode cL_law 592 = .ok (.iload_n 3, 1) := by decide +kernel
theorem dL_law_593 : decode cL_law 593 = .ok (.iconst 5, 1) := by decide +kernel
theorem dL_law_594 : decode cL_law 594 = .ok (.iadd, 1) := by decide +kernel
theorem dL_law_595 : decode cL_law 595 = .ok (.iaload, 1) := by decide +kernel
theorem dL_law_596 : decode cL_law 596 = .ok (.invokevirtual 70, 3) := by decide +kernel
theorem dL_law_599 : decode cL_law 599 = .ok (.if_icmp .eq 222, 3) := by decide +kernel
theorem dL_law_602 : decode cL_law 602 = .ok (.iconst 0, 1) := by decide +kernel
theorem dL_law_603 : decode cL_law 603 = .ok (.ireturn, 1) := by decide +kernel
theorem dL_law_604 : decode cL_law 604 = .ok (.aload_n 1, 1) := by decide +kernel
theorem dL_law_605 : decode cL_law 605 = .ok (.aload_n 0, 1) := by decide +kernel
theorem dL_law_606 : decode cL_law 606 = .ok (.iload_n 3, 1) := by decide +kernel
theorem dL_law_607 : decode cL_law 607 = .ok (.iconst 1, 1) := by decide +kernel
theorem dL_law_608 : decode cL_law 608 = .ok (.iadd, 1) := by decide +kernel
theorem dL_law_609 : decode cL_law 609 = .ok (.iaload, 1) := by decide +kernel
theorem dL_law_610 : decode cL_law 610 = .ok (.aload_n 0, 1) := by decide +kernel
theorem dL_law_611 : decode cL_law 611 = .ok (.iload_n 3, 1) := by decide +kernel
theorem dL_law_612 : decode cL_law 612 = .ok (.iconst 2, 1) := by decide +kernel
theorem dL_law_613 : decode cL_law 613 = .ok (.iadd, 1) := by decide +kernel
theorem dL_law_614 : decode cL_law 614 = .ok (.iaload, 1) := by decide +kernel
theorem dL_law_615 : decode cL_law 615 = .ok (.aload_n 0, 1) := by decide +kernel
theorem dL_law_616 : decode cL_law 616 = .ok (.iload_n 3, 1) := by decide +kernel
theorem dL_law_617 : decode cL_law 617 = .ok (.iconst 3, 1) := by decide +kernel
theorem dL_law_618 : decode cL_law 618 = .ok (.iadd, 1) := by decide +kernel
theorem dL_law_619 : decode cL_law 619 = .ok (.iaload, 1) := by decide +kernel
theorem dL_law_620 : decode cL_law 620 = .ok (.invokevirtual 71, 3) := by decide +kernel
theorem dL_law_623 : decode cL_law 623 = .ok (.aload_n 2, 1) := by decide +kernel
theorem dL_law_624 : decode cL_law 624 = .ok (.aload_n 0, 1) := by decide +kernel
theorem dL_law_625 : decode cL_law 625 = .ok (.iload_n 3, 1) := by decide +kernel
theorem dL_law_626 : decode cL_law 626 = .ok (.iconst 1, 1) := by decide +kernel
theorem dL_law_627 : decode cL_law 627 = .ok (.iadd, 1) := by decide +kernel
theorem dL_law_628 : decode cL_law 628 = .ok (.iaload, 1) := by decide +kernel
theorem dL_law_629 : decode cL_law 629 = .ok (.aload_n 0, 1) := by decide +kernel
theorem dL_law_630 : decode cL_law 630 = .ok (.iload_n 3, 1) := by decide +kernel
theorem dL_law_631 : decode cL_law 631 = .ok (.iconst 2, 1) := by decide +kernel
theorem dL_law_632 : decode cL_law 632 = .ok (.iadd, 1) := by decide +kernel
theorem dL_law_633 : decode cL_law 633 = .ok (.iaload, 1) := by decide +kernel
theorem dL_law_634 : decode cL_law 634 = .ok (.aload_n 0, 1) := by decide +kernel
theorem dL_law_635 : decode cL_law 635 = .ok (.iload_n 3, 1) := by decide +kernel
theorem dL_law_636 : decode cL_law 636 = .ok (.iconst 3, 1) := by decide +kernel
theorem dL_law_637 : decode cL_law 637 = .ok (.iadd, 1) := by decide +kernel
theorem dL_law_638 : decode cL_law 638 = .ok (.iaload, 1) := by decide +kernel
theorem dL_law_639 : decode cL_law 639 = .ok (.invokevirtual 74, 3) := by decide +kernel
theorem dL_law_642 : decode cL_law 642 = .ok (.if_icmp .eq 179, 3) := by decide +kernel
theorem dL_law_645 : decode cL_law 645 = .ok (.iconst 0, 1) := by decide +kernel
theorem dL_law_646 : decode cL_law 646 = .ok (.ireturn, 1) := by decide +kernel
theorem dL_law_647 : decode cL_law 647 = .ok (.aload_n 1, 1) := by decide +kernel
theorem dL_law_648 : decode cL_law 648 = .ok (.aload_n 0, 1) := by decide +kernel
theorem dL_law_649 : decode cL_law 649 = .ok (.iload_n 3, 1) := by decide +kernel
theorem dL_law_650 : decode cL_law 650 = .ok (.iconst 1, 1) := by decide +kernel
theorem dL_law_651 : decode cL_law 651 = .ok (.iadd, 1) := by decide +kernel
theorem dL_law_652 : decode cL_law 652 = .ok (.iaload, 1) := by decide +kernel
theorem dL_law_653 : decode cL_law 653 = .ok (.invokevirtual 75, 3) := by decide +kernel
theorem dL_law_656 : decode cL_law 656 = .ok (.aload_n 2, 1) := by decide +kernel
theorem dL_law_657 : decode cL_law 657 = .ok (.aload_n 0, 1) := by decide +kernel
theorem dL_law_658 : decode cL_law 658 = .ok (.iload_n 3, 1) := by decide +kernel
theorem dL_law_659 : decode cL_law 659 = .ok (.iconst 1, 1) := by decide +kernel
theorem dL_law_660 : decode cL_law 660 = .ok (.iadd, 1) := by decide +kernel
theorem dL_law_661 : decode cL_law 661 = .ok (.iaload, 1) := by decide +kernel
theorem dL_law_662 : decode cL_law 662 = .ok (.invokevirtual 79, 3) := by decide +kernel
theorem dL_law_665 : decode cL_law 665 = .ok (.if_icmp .eq 156, 3) := by decide +kernel
theorem dL_law_668 : decode cL_law 668 = .ok (.iconst 0, 1) := by decide +kernel
theorem dL_law_669 : decode cL_law 669 = .ok (.ireturn, 1) := by decide +kernel
theorem dL_law_670 : decode cL_law 670 = .ok (.aload_n 1, 1) := by decide +kernel
theorem dL_law_671 : decode cL_law 671 = .ok (.aload_n 0, 1) := by decide +kernel
theorem dL_law_672 : decode cL_law 672 = .ok (.iload_n 3, 1) := by decide +kernel
theorem dL_law_673 : decode cL_law 673 = .ok (.iconst 1, 1) := by decide +kernel
theorem dL_law_674 : decode cL_law 674 = .ok (.iadd, 1) := by decide +kernel
theorem dL_law_675 : decode cL_law 675 = .ok (.iaload, 1) := by decide +kernel
theorem dL_law_676 : decode cL_law 676 = .ok (.invokevirtual 80, 3) := by decide +kernel
theorem dL_law_679 : decode cL_law 679 = .ok (.aload_n 2, 1) := by decide +kernel
theorem dL_law_680 : decode cL_law 680 = .ok (.aload_n 0, 1) := by decide +kernel
theorem dL_law_681 : decode cL_law 681 = .ok (.iload_n 3, 1) := by decide +kernel
theorem dL_law_682 : decode cL_law 682 = .ok (.iconst 1, 1) := by decide +kernel
theorem dL_law_683 : decode cL_law 683 = .ok (.iadd, 1) := by decide +kernel
theorem dL_law_684 : decode cL_law 684 = .ok (.iaload, 1) := by decide +kernel
theorem dL_law_685 : decode cL_law 685 = .ok (.invokevirtual 83, 3) := by decide +kernel
theorem dL_law_688 : decode cL_law 688 = .ok (.if_icmp .eq 133, 3) := by decide +kernel
theorem dL_law_691 : decode cL_law 691 = .ok (.iconst 0, 1) := by decide +kernel
theorem dL_law_692 : decode cL_law 692 = .ok (.ireturn, 1) := by decide +kernel
theorem dL_law_693 : decode cL_law 693 = .ok (.aload_n 1, 1) := by decide +kernel
theorem dL_law_694 : decode cL_law 694 = .ok (.aload_n 0, 1) := by decide +kernel
theorem dL_law_695 : decode cL_law 695 = .ok (.iload_n 3, 1) := by decide +kernel
theorem dL_law_696 : decode cL_law 696 = .ok (.iconst 1, 1) := by decide +kernel
theorem dL_law_697 : decode cL_law 697 = .ok (.iadd, 1) := by decide +kernel
theorem dL_law_698 : decode cL_law 698 = .ok (.iaload, 1) := by decide +kernel
theorem dL_law_699 : decode cL_law 699 = .ok (.aload_n 0, 1) := by decide +kernel
theorem dL_law_700 : decode cL_law 700 = .ok (.iload_n 3, 1) := by decide +kernel
theorem dL_law_701 : decode cL_law 701 = .ok (.iconst 2, 1) := by decide +kernel
theorem dL_law_702 : decode cL_law 702 = .ok (.iadd, 1) := by decide +kernel
theorem dL_law_703 : decode cL_law 703 = .ok (.iaload, 1) := by decide +kernel
theorem dL_law_704 : decode cL_law 704 = .ok (.invokevirtual 84, 3) := by decide +kernel
theorem dL_law_707 : decode cL_law 707 = .ok (.aload_n 2, 1) := by decide +kernel
theorem dL_law_708 : decode cL_law 708 = .ok (.aload_n 0, 1) := by decide +kernel
theorem dL_law_709 : decode cL_law 709 = .ok (.iload_n 3, 1) := by decide +kernel
theorem dL_law_710 : decode cL_law 710 = .ok (.iconst 1, 1) := by decide +kernel
theorem dL_law_711 : decode cL_law 711 = .ok (.iadd, 1) := by decide +kernel
theorem dL_law_712 : decode cL_law 712 = .ok (.iaload, 1) := by decide +kernel
theorem dL_law_713 : decode cL_law 713 = .ok (.aload_n 0, 1) := by decide +kernel
theorem dL_law_714 : decode cL_law 714 = .ok (.iload_n 3, 1) := by decide +kernel
theorem dL_law_715 : decode cL_law 715 = .ok (.iconst 2, 1) := by decide +kernel
theorem dL_law_716 : decode cL_law 716 = .ok (.iadd, 1) := by decide +kernel
theorem dL_law_717 : decode cL_law 717 = .ok (.iaload, 1) := by decide +kernel
theorem dL_law_718 : decode cL_law 718 = .ok (.invokevirtual 87, 3) := by decide +kernel
theorem dL_law_721 : decode cL_law 721 = .ok (.if_icmp .eq 100, 3) := by decide +kernel
theorem dL_law_724 : decode cL_law 724 = .ok (.iconst 0, 1) := by decide +kernel
theorem dL_law_725 : decode cL_law 725 = .ok (.ireturn, 1) := by decide +kernel
theorem dL_law_726 : decode cL_law 726 = .ok (.aload_n 1, 1) := by decide +kernel
theorem dL_law_727 : decode cL_law 727 = .ok (.aload_n 0, 1) := by decide +kernel
theorem dL_law_728 : decode cL_law 728 = .ok (.iload_n 3, 1) := by decide +kernel
theorem dL_law_729 : decode cL_law 729 = .ok (.iconst 1, 1) := by decide +kernel
theorem dL_law_730 : decode cL_law 730 = .ok (.iadd, 1) := by decide +kernel
theorem dL_law_731 : decode cL_law 731 = .ok (.iaload, 1) := by decide +kernel
theorem dL_law_732 : decode cL_law 732 = .ok (.invokevirtual 88, 3) := by decide +kernel
theorem dL_law_735 : decode cL_law 735 = .ok (.aload_n 2, 1) := by decide +kernel
theorem dL_law_736 : decode cL_law 736 = .ok (.aload_n 0, 1) := by decide +kernel
theorem dL_law_737 : decode cL_law 737 = .ok (.iload_n 3, 1) := by decide +kernel
theorem dL_law_738 : decode cL_law 738 = .ok (.iconst 1, 1) := by decide +kernel
theorem dL_law_739 : decode cL_law 739 = .ok (.iadd, 1) := by decide +kernel
theorem dL_law_740 : decode cL_law 740 = .ok (.iaload, 1) := by decide +kernel
theorem dL_law_741 : decode cL_law 741 = .ok (.invokevirtual 91, 3) := by decide +kernel
theorem dL_law_744 : decode cL_law 744 = .ok (.lcmp, 1) := by decide +kernel
theorem dL_law_745 : decode cL_law 745 = .ok (.ifCond .eq 76, 3) := by decide +kernel
theorem dL_law_748 : decode cL_law 748 = .ok (.iconst 0, 1) := by decide +kernel
theorem dL_law_749 : decode cL_law 749 = .ok (.ireturn, 1) := by decide +kernel
theorem dL_law_750 : decode cL_law 750 = .ok (.aload_n 1, 1) := by decide +kernel
theorem dL_law_751 : decode cL_law 751 = .ok (.aload_n 0, 1) := by decide +kernel
theorem dL_law_752 : decode cL_law 752 = .ok (.iload_n 3, 1) := by decide +kernel
theorem dL_law_753 : decode cL_law 753 = .ok (.iconst 1, 1) := by decide +kernel
theorem dL_law_754 : decode cL_law 754 = .ok (.iadd, 1) := by decide +kernel
theorem dL_law_755 : decode cL_law 755 = .ok (.iaload, 1) := by decide +kernel
theorem dL_law_756 : decode cL_law 756 = .ok (.aload_n 0, 1) := by decide +kernel
theorem dL_law_757 : decode cL_law 757 = .ok (.iload_n 3, 1) := by decide +kernel
theorem dL_law_758 : decode cL_law 758 = .ok (.iconst 2, 1) := by decide +kernel
theorem dL_law_759 : decode cL_law 759 = .ok (.iadd, 1) := by decide +kernel
theorem dL_law_760 : decode cL_law 760 = .ok (.iaload, 1) := by decide +kernel
theorem dL_law_761 : decode cL_law 761 = .ok (.invokevirtual 92, 3) := by decide +kernel
theorem dL_law_764 : decode cL_law 764 = .ok (.aload_n 2, 1) := by decide +kernel
theorem dL_law_765 : decode cL_law 765 = .ok (.aload_n 0, 1) := by decide +kernel
theorem dL_law_766 : decode cL_law 766 = .ok (.iload_n 3, 1) := by decide +kernel
theorem dL_law_767 : decode cL_law 767 = .ok (.iconst 1, 1) := by decide +kernel
theorem dL_law_768 : decode cL_law 768 = .ok (.iadd, 1) := by decide +kernel
theorem dL_law_769 : decode cL_law 769 = .ok (.iaload, 1) := by decide +kernel
theorem dL_law_770 : decode cL_law 770 = .ok (.aload_n 0, 1) := by decide +kernel
theorem dL_law_771 : decode cL_law 771 = .ok (.iload_n 3, 1) := by decide +kernel
theorem dL_law_772 : decode cL_law 772 = .ok (.iconst 2, 1) := by decide +kernel
theorem dL_law_773 : decode cL_law 773 = .ok (.iadd, 1) := by decide +kernel
theorem dL_law_774 : decode cL_law 774 = .ok (.iaload, 1) := by decide +kernel
theorem dL_law_775 : decode cL_law 775 = .ok (.invokevirtual 95, 3) := by decide +kernel
theorem dL_law_778 : decode cL_law 778 = .ok (.lcmp, 1) := by decide +kernel
theorem dL_law_779 : decode cL_law 779 = .ok (.ifCond .eq 42, 3) := by decide +kernel
theorem dL_law_782 : decode cL_law 782 = .ok (.iconst 0, 1) := by decide +kernel
theorem dL_law_783 : decode cL_law 783 = .ok (.ireturn, 1) := by decide +kernel
theorem dL_law_784 : decode cL_law 784 = .ok (.aload_n 1, 1) := by decide +kernel
theorem dL_law_785 : decode cL_law 785 = .ok (.aload_n 0, 1) := by decide +kernel
theorem dL_law_786 : decode cL_law 786 = .ok (.iload_n 3, 1) := by decide +kernel
theorem dL_law_787 : decode cL_law 787 = .ok (.iconst 1, 1) := by decide +kernel
theorem dL_law_788 : decode cL_law 788 = .ok (.iadd, 1) := by decide +kernel
theorem dL_law_789 : decode cL_law 789 = .ok (.iaload, 1) := by decide +kernel
theorem dL_law_790 : decode cL_law 790 = .ok (.invokevirtual 96, 3) := by decide +kernel
theorem dL_law_793 : decode cL_law 793 = .ok (.aload_n 2, 1) := by decide +kernel
theorem dL_law_794 : decode cL_law 794 = .ok (.aload_n 0, 1) := by decide +kernel
theorem dL_law_795 : decode cL_law 795 = .ok (.iload_n 3, 1) := by decide +kernel
theorem dL_law_796 : decode cL_law 796 = .ok (.iconst 1, 1) := by decide +kernel
theorem dL_law_797 : decode cL_law 797 = .ok (.iadd, 1) := by decide +kernel
theorem dL_law_798 : decode cL_law 798 = .ok (.iaload, 1) := by decide +kernel
theorem dL_law_799 : decode cL_law 799 = .ok (.invokevirtual 99, 3) := by decide +kernel
theorem dL_law_802 : decode cL_law 802 = .ok (.if_icmp .eq 19, 3) := by decide +kernel
theorem dL_law_805 : decode cL_law 805 = .ok (.iconst 0, 1) := by decide +kernel
theorem dL_law_806 : decode cL_law 806 = .ok (.ireturn, 1) := by decide +kernel
theorem dL_law_807 : decode cL_law 807 = .ok (.aload_n 1, 1) := by decide +kernel
theorem dL_law_808 : decode cL_law 808 = .ok (.invokevirtual 100, 3) := by decide +kernel
theorem dL_law_811 : decode cL_law 811 = .ok (.aload_n 2, 1) := by decide +kernel
theorem dL_law_812 : decode cL_law 812 = .ok (.invokevirtual 104, 3) := by decide +kernel
theorem dL_law_815 : decode cL_law 815 = .ok (.lcmp, 1) := by decide +kernel
theorem dL_law_816 : decode cL_law 816 = .ok (.ifCond .eq 5, 3) := by decide +kernel
theorem dL_law_819 : decode cL_law 819 = .ok (.iconst 0, 1) := by decide +kernel
theorem dL_law_820 : decode cL_law 820 = .ok (.ireturn, 1) := by decide +kernel
theorem dL_law_821 : decode cL_law 821 = .ok (.iinc 3 6, 3) := by decide +kernel
theorem dL_law_824 : decode cL_law 824 = .ok (.goto (-806), 3) := by decide +kernel
theorem dL_law_827 : decode cL_law 827 = .ok (.iconst 1, 1) := by decide +kernel
theorem dL_law_828 : decode cL_law 828 = .ok (.ireturn, 1) := by decide +kernel
end
section
def wsG : List Cond := lw_tbl.filter goodWord
theorem gm {w : Cond} (i : Nat) (h : lw_tbl[i]? = some w) (hg : goodWord w = true) : w ∈ wsG := List.mem_filter.mpr ⟨List.mem_of_getElem? h, hg⟩
theorem gt {w : Cond} (i : Nat) (h : lw_tbl[i]? = some w) : w ∈ lw_tbl := List.mem_of_getElem? h
theorem kw_0 : (Jvm.Cond.selects "WaterTwice$Steps" ({ cls := "WaterTwice$Steps", name := "commonLower", desc := "()J" } : Jvm.MethodName) ({ cls := "WaterTwice$Steps", name := "commonLower", desc := "()J" } : Jvm.MethodName)) ∈ wsG := gm 0 rfl rfl
theorem kw_1 : (Jvm.Cond.selects "WaterTwice$Steps" ({ cls := "WaterTwice$Steps", name := "span", desc := "(I)I" } : Jvm.MethodName) ({ cls := "WaterTwice$Steps", name := "span", desc := "(I)I" } : Jvm.MethodName)) ∈ wsG := gm 1 rfl rfl
theorem kw_2 : (Jvm.Cond.selects "WaterTwice$Steps" ({ cls := "WaterTwice$Steps", name := "dirtBelow", desc := "(IJ)J" } : Jvm.MethodName) ({ cls := "WaterTwice$Steps", name := "dirtBelow", desc := "(IJ)J" } : Jvm.MethodName)) ∈ wsG := gm 2 rfl rfl
theorem kw_3 : (Jvm.Cond.selects "WaterTwice$Steps" ({ cls := "WaterTwice$Steps", name := "better", desc := "(IIJ)I" } : Jvm.MethodName) ({ cls := "WaterTwice$Steps", name := "better", desc := "(IIJ)I" } : Jvm.MethodName)) ∈ wsG := gm 3 rfl rfl
theorem kw_4 : (Jvm.Cond.selects "WaterTwice$Design" ({ cls := "WaterTwice$Design", name := "takeInOrder", desc := "()V" } : Jvm.MethodName) ({ cls := "WaterTwice$Design", name := "takeInOrder", desc := "()V" } : Jvm.MethodName)) ∈ wsG := gm 4 rfl rfl
theorem kw_5 : (Jvm.Cond.selects "WaterTwice$Design" ({ cls := "WaterTwice$Design", name := "hasOnlyOfTaken", desc := "(I)Z" } : Jvm.MethodName) ({ cls := "WaterTwice$Design", name := "hasOnlyOfTaken", desc := "(I)Z" } : Jvm.MethodName)) ∈ wsG := gm 5 rfl rfl
theorem kw_6 : (Jvm.Cond.selects "WaterTwice$Design" ({ cls := "WaterTwice$Design", name := "soil", desc := "(I)V" } : Jvm.MethodName) ({ cls := "WaterTwice$Design", name := "soil", desc := "(I)V" } : Jvm.MethodName)) ∈ wsG := gm 6 rfl rfl
theorem kw_7 : (Jvm.Cond.selects "WaterTwice$Design" ({ cls := "WaterTwice$Design", name := "hitBehindOthers", desc := "(I)I" } : Jvm.MethodName) ({ cls := "WaterTwice$Design", name := "hitBehindOthers", desc := "(I)I" } : Jvm.MethodName)) ∈ wsG := gm 7 rfl rfl
theorem kw_8 : (Jvm.Cond.selects "WaterTwiceModel" ({ cls := "WaterTwiceModel", name := "isStep", desc := "(I)Z" } : Jvm.MethodName) ({ cls := "WaterTwiceModel", name := "isStep", desc := "(I)Z" } : Jvm.MethodName)) ∈ wsG := gm 8 rfl rfl
theorem kw_9 : (Jvm.Cond.selects "WaterTwiceModel" ({ cls := "WaterTwiceModel", name := "limitOf", desc := "(II)I" } : Jvm.MethodName) ({ cls := "WaterTwiceModel", name := "limitOf", desc := "(II)I" } : Jvm.MethodName)) ∈ wsG := gm 9 rfl rfl
theorem kw_10 : (Jvm.Cond.selects "WaterTwiceModel" ({ cls := "WaterTwiceModel", name := "below", desc := "()J" } : Jvm.MethodName) ({ cls := "WaterTwiceModel", name := "below", desc := "()J" } : Jvm.MethodName)) ∈ wsG := gm 10 rfl rfl
theorem kw_11 : (Jvm.Cond.selects "WaterTwiceModel" ({ cls := "WaterTwiceModel", name := "dirtOf", desc := "(IJ)J" } : Jvm.MethodName) ({ cls := "WaterTwiceModel", name := "dirtOf", desc := "(IJ)J" } : Jvm.MethodName)) ∈ wsG := gm 11 rfl rfl
theorem kw_12 : (Jvm.Cond.selects "WaterTwiceModel" ({ cls := "WaterTwiceModel", name := "pinch", desc := "()I" } : Jvm.MethodName) ({ cls := "WaterTwiceModel", name := "pinch", desc := "()I" } : Jvm.MethodName)) ∈ wsG := gm 12 rfl rfl
theorem kw_13 : (Jvm.Cond.selects "WaterTwiceModel" ({ cls := "WaterTwiceModel", name := "comes", desc := "(I)I" } : Jvm.MethodName) ({ cls := "WaterTwiceModel", name := "comes", desc := "(I)I" } : Jvm.MethodName)) ∈ wsG := gm 13 rfl rfl
theorem kw_14 : (Jvm.Cond.selects "WaterTwiceModel" ({ cls := "WaterTwiceModel", name := "goes", desc := "(I)I" } : Jvm.MethodName) ({ cls := "WaterTwiceModel", name := "goes", desc := "(I)I" } : Jvm.MethodName)) ∈ wsG := gm 14 rfl rfl
theorem kw_15 : (Jvm.Cond.selects "WaterTwiceModel" ({ cls := "WaterTwiceModel", name := "failsFirst", desc := "()I" } : Jvm.MethodName) ({ cls := "WaterTwiceModel", name := "failsFirst", desc := "()I" } : Jvm.MethodName)) ∈ wsG := gm 15 rfl rfl
theorem kw_16 : (Jvm.Cond.selects "WaterTwiceModel" ({ cls := "WaterTwiceModel", name := "takes", desc := "(I)V" } : Jvm.MethodName) ({ cls := "WaterTwiceModel", name := "takes", desc := "(I)V" } : Jvm.MethodName)) ∈ wsG := gm 16 rfl rfl
theorem kw_17 : (Jvm.Cond.selects "WaterTwiceModel" ({ cls := "WaterTwiceModel", name := "isMeter", desc := "(I)Z" } : Jvm.MethodName) ({ cls := "WaterTwiceModel", name := "isMeter", desc := "(I)Z" } : Jvm.MethodName)) ∈ wsG := gm 17 rfl rfl
theorem kw_18 : (Jvm.Cond.selects "WaterTwiceModel" ({ cls := "WaterTwiceModel", name := "missing", desc := "()I" } : Jvm.MethodName) ({ cls := "WaterTwiceModel", name := "missing", desc := "()I" } : Jvm.MethodName)) ∈ wsG := gm 18 rfl rfl
theorem kw_19 : (Jvm.Cond.selects "WaterTwiceModel" ({ cls := "WaterTwiceModel", name := "gapOf", desc := "()J" } : Jvm.MethodName) ({ cls := "WaterTwiceModel", name := "gapOf", desc := "()J" } : Jvm.MethodName)) ∈ wsG := gm 19 rfl rfl
theorem kw_20 : (Jvm.Cond.initialized "WaterTwiceLaw") ∈ wsG := gm 20 rfl rfl
theorem kw_21 : (Jvm.Cond.initialized "WaterTwice") ∈ wsG := gm 21 rfl rfl
theorem kw_22 : (Jvm.Cond.initialized "WaterTwice$Steps") ∈ wsG := gm 22 rfl rfl
theorem kw_23 : (Jvm.Cond.initialized "WaterTwice$Limits") ∈ wsG := gm 23 rfl rfl
theorem kw_24 : (Jvm.Cond.initialized "WaterTwice$Design") ∈ wsG := gm 24 rfl rfl
theorem kw_25 : (Jvm.Cond.initialized "WaterTwice$Fraction") ∈ wsG := gm 25 rfl rfl
theorem kw_26 : (Jvm.Cond.initialized "WaterTwice$Store") ∈ wsG := gm 26 rfl rfl
theorem kw_27 : (Jvm.Cond.initialized "WaterTwice$Meters") ∈ wsG := gm 27 rfl rfl
theorem kw_28 : (Jvm.Cond.initialized "WaterTwiceModel") ∈ wsG := gm 28 rfl rfl
theorem kw_29 : (Jvm.Cond.initialized "java/lang/Math") ∈ wsG := gm 29 rfl rfl
theorem kw_30 : (Jvm.Cond.initialized "java/lang/Long") ∈ wsG := gm 30 rfl rfl
theorem kw_31 : (Jvm.Cond.initialized "WaterTwice$Basin") ∈ wsG := gm 31 rfl rfl
theorem kw_32 : (Jvm.Cond.classLink "WaterTwiceLaw" (7 : Nat) "WaterTwice") ∈ wsG := gm 32 rfl rfl
theorem kw_33 : (Jvm.Cond.instantiable "WaterTwice" (7 : Nat)) ∈ wsG := gm 33 rfl rfl
theorem kw_34 : (Jvm.Cond.methodLink "WaterTwiceLaw" (9 : Nat) ({ cls := "WaterTwice", name := "<init>", desc := "()V" } : Jvm.MethodName)) ∈ wsG := gm 34 rfl rfl
theorem kw_35 : (Jvm.Cond.instanceMethod ({ cls := "WaterTwice", name := "<init>", desc := "()V" } : Jvm.MethodName)) ∈ wsG := gm 35 rfl rfl
theorem kw_36 : (Jvm.Cond.code ({ cls := "WaterTwice", name := "<init>", desc := "()V" } : Jvm.MethodName) prog_1_method_1_code (1 : Nat) (Option.none : Option Jvm.ClassFile.FieldType)) ∈ wsG := gm 36 rfl rfl
theorem kw_37 : (Jvm.Cond.methodLink "WaterTwice" (1 : Nat) ({ cls := "java/lang/Object", name := "<init>", desc := "()V" } : Jvm.MethodName)) ∈ wsG := gm 37 rfl rfl
theorem kw_38 : (Jvm.Cond.instanceMethod ({ cls := "java/lang/Object", name := "<init>", desc := "()V" } : Jvm.MethodName)) ∈ wsG := gm 38 rfl rfl
theorem kw_39 : (Jvm.Cond.code ({ cls := "java/lang/Object", name := "<init>", desc := "()V" } : Jvm.MethodName) object_method_1_code (1 : Nat) (Option.none : Option Jvm.ClassFile.FieldType)) ∈ wsG := gm 39 rfl rfl
theorem kw_40 : (Jvm.Cond.classLink "WaterTwice" (7 : Nat) "WaterTwice$Steps") ∈ wsG := gm 40 rfl rfl
theorem kw_41 : (Jvm.Cond.instantiable "WaterTwice$Steps" (5 : Nat)) ∈ wsG := gm 41 rfl rfl
theorem kt_42 : (Jvm.Cond.methodLinkNest "WaterTwice" (9 : Nat) ({ cls := "WaterTwice$Steps", name := "<init>", desc := "()V" } : Jvm.MethodName) "WaterTwice") ∈ lw_tbl := gt 42 rfl
theorem kw_43 : (Jvm.Cond.instanceMethod ({ cls := "WaterTwice$Steps", name := "<init>", desc := "()V" } : Jvm.MethodName)) ∈ wsG := gm 43 rfl rfl
theorem kw_44 : (Jvm.Cond.code ({ cls := "WaterTwice$Steps", name := "<init>", desc := "()V" } : Jvm.MethodName) prog_7_method_1_code (1 : Nat) (Option.none : Option Jvm.ClassFile.FieldType)) ∈ wsG := gm 44 rfl rfl
theorem kw_45 : (Jvm.Cond.methodLink "WaterTwice$Steps" (3 : Nat) ({ cls := "java/lang/Object", name := "<init>", desc := "()V" } : Jvm.MethodName)) ∈ wsG := gm 45 rfl rfl
theorem kw_46 : (Jvm.Cond.fieldLink "WaterTwice$Steps" (9 : Nat) "WaterTwice$Steps" "load" "[I") ∈ wsG := gm 46 rfl rfl
theorem kt_47 : (Jvm.Cond.fieldLinkNest "WaterTwice" (69 : Nat) "WaterTwice$Steps" "load" "[I" "WaterTwice") ∈ lw_tbl := gt 47 rfl
theorem kt_48 : (Jvm.Cond.fieldLinkNest "WaterTwice$Design" (99 : Nat) "WaterTwice$Steps" "load" "[I" "WaterTwice") ∈ lw_tbl := gt 48 rfl
theorem kw_49 : (Jvm.Cond.fieldLink "WaterTwice$Steps" (15 : Nat) "WaterTwice$Steps" "in" "[I") ∈ wsG := gm 49 rfl rfl
theorem kt_50 : (Jvm.Cond.fieldLinkNest "WaterTwice$Limits" (20 : Nat) "WaterTwice$Steps" "in" "[I" "WaterTwice") ∈ lw_tbl := gt 50 rfl
theorem kt_51 : (Jvm.Cond.fieldLinkNest "WaterTwice$Design" (63 : Nat) "WaterTwice$Steps" "in" "[I" "WaterTwice") ∈ lw_tbl := gt 51 rfl
theorem kw_52 : (Jvm.Cond.fieldLink "WaterTwice$Steps" (18 : Nat) "WaterTwice$Steps" "out" "[I") ∈ wsG := gm 52 rfl rfl
theorem kt_53 : (Jvm.Cond.fieldLinkNest "WaterTwice$Limits" (25 : Nat) "WaterTwice$Steps" "out" "[I" "WaterTwice") ∈ lw_tbl := gt 53 rfl
theorem kw_54 : (Jvm.Cond.fieldLink "WaterTwice$Steps" (21 : Nat) "WaterTwice$Steps" "lag" "[I") ∈ wsG := gm 54 rfl rfl
theorem kt_55 : (Jvm.Cond.fieldLinkNest "WaterTwice" (77 : Nat) "WaterTwice$Steps" "lag" "[I" "WaterTwice") ∈ lw_tbl := gt 55 rfl
theorem kt_56 : (Jvm.Cond.fieldLinkNest "WaterTwice$Design" (114 : Nat) "WaterTwice$Steps" "lag" "[I" "WaterTwice") ∈ lw_tbl := gt 56 rfl
theorem kw_57 : (Jvm.Cond.fieldLink "WaterTwice$Steps" (24 : Nat) "WaterTwice$Steps" "size" "I") ∈ wsG := gm 57 rfl rfl
theorem kt_58 : (Jvm.Cond.fieldLinkNest "WaterTwice$Design" (44 : Nat) "WaterTwice$Steps" "size" "I" "WaterTwice") ∈ lw_tbl := gt 58 rfl
theorem kt_59 : (Jvm.Cond.fieldLinkNest "WaterTwice" (204 : Nat) "WaterTwice$Steps" "size" "I" "WaterTwice") ∈ lw_tbl := gt 59 rfl
theorem kw_60 : (Jvm.Cond.laysFinal "WaterTwice$Steps" "WaterTwice$Steps" "load" "[I") ∈ wsG := gm 60 rfl rfl
theorem kt_61 : (Jvm.Cond.soleField "WaterTwice$Steps" "load") ∈ lw_tbl := gt 61 rfl
theorem kw_62 : (Jvm.Cond.laysFinal "WaterTwice$Steps" "WaterTwice$Steps" "in" "[I") ∈ wsG := gm 62 rfl rfl
theorem kt_63 : (Jvm.Cond.soleField "WaterTwice$Steps" "in") ∈ lw_tbl := gt 63 rfl
theorem kw_64 : (Jvm.Cond.laysFinal "WaterTwice$Steps" "WaterTwice$Steps" "out" "[I") ∈ wsG := gm 64 rfl rfl
theorem kt_65 : (Jvm.Cond.soleField "WaterTwice$Steps" "out") ∈ lw_tbl := gt 65 rfl
theorem kw_66 : (Jvm.Cond.laysFinal "WaterTwice$Steps" "WaterTwice$Steps" "lag" "[I") ∈ wsG := gm 66 rfl rfl
theorem kt_67 : (Jvm.Cond.soleField "WaterTwice$Steps" "lag") ∈ lw_tbl := gt 67 rfl
theorem kw_68 : (Jvm.Cond.lays "WaterTwice$Steps" "WaterTwice$Steps" "size" "I") ∈ wsG := gm 68 rfl rfl
theorem kt_69 : (Jvm.Cond.soleField "WaterTwice$Steps" "size") ∈ lw_tbl := gt 69 rfl
theorem kt_70 : (Jvm.Cond.superclass "WaterTwice$Steps" "java/lang/Object") ∈ lw_tbl := gt 70 rfl
theorem kw_71 : (Jvm.Cond.arrayClass Jvm.ClassFile.FieldType.int) ∈ wsG := gm 71 rfl rfl
theorem kw_72 : (Jvm.Cond.classLink "WaterTwice" (16 : Nat) "WaterTwice$Limits") ∈ wsG := gm 72 rfl rfl
theorem kw_73 : (Jvm.Cond.instantiable "WaterTwice$Limits" (2 : Nat)) ∈ wsG := gm 73 rfl rfl
theorem kw_74 : (Jvm.Cond.methodLink "WaterTwice" (18 : Nat) ({ cls := "WaterTwice$Limits", name := "<init>", desc := "(LWaterTwice$Steps;)V" } : Jvm.MethodName)) ∈ wsG := gm 74 rfl rfl
theorem kw_75 : (Jvm.Cond.instanceMethod ({ cls := "WaterTwice$Limits", name := "<init>", desc := "(LWaterTwice$Steps;)V" } : Jvm.MethodName)) ∈ wsG := gm 75 rfl rfl
theorem kw_76 : (Jvm.Cond.code ({ cls := "WaterTwice$Limits", name := "<init>", desc := "(LWaterTwice$Steps;)V" } : Jvm.MethodName) prog_5_method_1_code (2 : Nat) (Option.none : Option Jvm.ClassFile.FieldType)) ∈ wsG := gm 76 rfl rfl
theorem kw_77 : (Jvm.Cond.methodLink "WaterTwice$Limits" (1 : Nat) ({ cls := "java/lang/Object", name := "<init>", desc := "()V" } : Jvm.MethodName)) ∈ wsG := gm 77 rfl rfl
theorem kw_78 : (Jvm.Cond.fieldLink "WaterTwice$Limits" (13 : Nat) "WaterTwice$Limits" "steps" "LWaterTwice$Steps;") ∈ wsG := gm 78 rfl rfl
theorem kw_79 : (Jvm.Cond.fieldLink "WaterTwice$Limits" (7 : Nat) "WaterTwice$Limits" "settings" "[I") ∈ wsG := gm 79 rfl rfl
theorem kt_80 : (Jvm.Cond.fieldLinkNest "WaterTwice" (86 : Nat) "WaterTwice$Limits" "settings" "[I" "WaterTwice") ∈ lw_tbl := gt 80 rfl
theorem kw_81 : (Jvm.Cond.laysFinal "WaterTwice$Limits" "WaterTwice$Limits" "steps" "LWaterTwice$Steps;") ∈ wsG := gm 81 rfl rfl
theorem kt_82 : (Jvm.Cond.soleField "WaterTwice$Limits" "steps") ∈ lw_tbl := gt 82 rfl
theorem kw_83 : (Jvm.Cond.laysFinal "WaterTwice$Limits" "WaterTwice$Limits" "settings" "[I") ∈ wsG := gm 83 rfl rfl
theorem kt_84 : (Jvm.Cond.soleField "WaterTwice$Limits" "settings") ∈ lw_tbl := gt 84 rfl
theorem kt_85 : (Jvm.Cond.superclass "WaterTwice$Limits" "java/lang/Object") ∈ lw_tbl := gt 85 rfl
theorem kw_86 : (Jvm.Cond.classLink "WaterTwice" (25 : Nat) "WaterTwice$Design") ∈ wsG := gm 86 rfl rfl
theorem kw_87 : (Jvm.Cond.instantiable "WaterTwice$Design" (8 : Nat)) ∈ wsG := gm 87 rfl rfl
theorem kw_88 : (Jvm.Cond.methodLink "WaterTwice" (27 : Nat) ({ cls := "WaterTwice$Design", name := "<init>", desc := "(LWaterTwice$Steps;)V" } : Jvm.MethodName)) ∈ wsG := gm 88 rfl rfl
theorem kw_89 : (Jvm.Cond.instanceMethod ({ cls := "WaterTwice$Design", name := "<init>", desc := "(LWaterTwice$Steps;)V" } : Jvm.MethodName)) ∈ wsG := gm 89 rfl rfl
theorem kw_90 : (Jvm.Cond.code ({ cls := "WaterTwice$Design", name := "<init>", desc := "(LWaterTwice$Steps;)V" } : Jvm.MethodName) prog_3_method_1_code (3 : Nat) (Option.none : Option Jvm.ClassFile.FieldType)) ∈ wsG := gm 90 rfl rfl
theorem kw_91 : (Jvm.Cond.methodLink "WaterTwice$Design" (3 : Nat) ({ cls := "java/lang/Object", name := "<init>", desc := "()V" } : Jvm.MethodName)) ∈ wsG := gm 91 rfl rfl
theorem kw_92 : (Jvm.Cond.classLink "WaterTwice$Design" (15 : Nat) "[[I") ∈ wsG := gm 92 rfl rfl
theorem kt_93 : (Jvm.Cond.arrayOver (Jvm.ClassFile.FieldType.array Jvm.ClassFile.FieldType.int)) ∈ lw_tbl := gt 93 rfl
theorem kw_94 : (Jvm.Cond.classLink "WaterTwice$Design" (27 : Nat) "WaterTwice$Fraction") ∈ wsG := gm 94 rfl rfl
theorem kt_95 : (Jvm.Cond.arrayOver (Jvm.ClassFile.FieldType.object "WaterTwice$Fraction")) ∈ lw_tbl := gt 95 rfl
theorem kw_96 : (Jvm.Cond.instantiable "WaterTwice$Fraction" (2 : Nat)) ∈ wsG := gm 96 rfl rfl
theorem kt_97 : (Jvm.Cond.methodLinkNest "WaterTwice$Design" (43 : Nat) ({ cls := "WaterTwice$Fraction", name := "<init>", desc := "()V" } : Jvm.MethodName) "WaterTwice") ∈ lw_tbl := gt 97 rfl
theorem kw_98 : (Jvm.Cond.instanceMethod ({ cls := "WaterTwice$Fraction", name := "<init>", desc := "()V" } : Jvm.MethodName)) ∈ wsG := gm 98 rfl rfl
theorem kw_99 : (Jvm.Cond.code ({ cls := "WaterTwice$Fraction", name := "<init>", desc := "()V" } : Jvm.MethodName) prog_4_method_1_code (1 : Nat) (Option.none : Option Jvm.ClassFile.FieldType)) ∈ wsG := gm 99 rfl rfl
theorem kw_100 : (Jvm.Cond.methodLink "WaterTwice$Fraction" (1 : Nat) ({ cls := "java/lang/Object", name := "<init>", desc := "()V" } : Jvm.MethodName)) ∈ wsG := gm 100 rfl rfl
theorem kw_101 : (Jvm.Cond.fieldLink "WaterTwice$Fraction" (23 : Nat) "WaterTwice$Fraction" "upper" "J") ∈ wsG := gm 101 rfl rfl
theorem kt_102 : (Jvm.Cond.fieldLinkNest "WaterTwice$Design" (92 : Nat) "WaterTwice$Fraction" "upper" "J" "WaterTwice") ∈ lw_tbl := gt 102 rfl
theorem kw_103 : (Jvm.Cond.fieldLink "WaterTwice$Fraction" (7 : Nat) "WaterTwice$Fraction" "lower" "J") ∈ wsG := gm 103 rfl rfl
theorem kt_104 : (Jvm.Cond.fieldLinkNest "WaterTwice$Design" (96 : Nat) "WaterTwice$Fraction" "lower" "J" "WaterTwice") ∈ lw_tbl := gt 104 rfl
theorem kw_105 : (Jvm.Cond.lays "WaterTwice$Fraction" "WaterTwice$Fraction" "upper" "J") ∈ wsG := gm 105 rfl rfl
theorem kt_106 : (Jvm.Cond.soleField "WaterTwice$Fraction" "upper") ∈ lw_tbl := gt 106 rfl
theorem kw_107 : (Jvm.Cond.lays "WaterTwice$Fraction" "WaterTwice$Fraction" "lower" "J") ∈ wsG := gm 107 rfl rfl
theorem kt_108 : (Jvm.Cond.soleField "WaterTwice$Fraction" "lower") ∈ lw_tbl := gt 108 rfl
theorem kt_109 : (Jvm.Cond.superclass "WaterTwice$Fraction" "java/lang/Object") ∈ lw_tbl := gt 109 rfl
theorem kw_110 : (Jvm.Cond.arrayClass Jvm.ClassFile.FieldType.boolean) ∈ wsG := gm 110 rfl rfl
theorem kw_111 : (Jvm.Cond.fieldLink "WaterTwice$Design" (39 : Nat) "WaterTwice$Design" "steps" "LWaterTwice$Steps;") ∈ wsG := gm 111 rfl rfl
theorem kw_112 : (Jvm.Cond.fieldLink "WaterTwice$Design" (9 : Nat) "WaterTwice$Design" "fresh" "[I") ∈ wsG := gm 112 rfl rfl
theorem kt_113 : (Jvm.Cond.fieldLinkNest "WaterTwice" (121 : Nat) "WaterTwice$Design" "fresh" "[I" "WaterTwice") ∈ lw_tbl := gt 113 rfl
theorem kw_114 : (Jvm.Cond.fieldLink "WaterTwice$Design" (17 : Nat) "WaterTwice$Design" "pipes" "[[I") ∈ wsG := gm 114 rfl rfl
theorem kt_115 : (Jvm.Cond.fieldLinkNest "WaterTwice" (124 : Nat) "WaterTwice$Design" "pipes" "[[I" "WaterTwice") ∈ lw_tbl := gt 115 rfl
theorem kw_116 : (Jvm.Cond.fieldLink "WaterTwice$Design" (20 : Nat) "WaterTwice$Design" "taken" "[Z") ∈ wsG := gm 116 rfl rfl
theorem kw_117 : (Jvm.Cond.fieldLink "WaterTwice$Design" (24 : Nat) "WaterTwice$Design" "order" "[I") ∈ wsG := gm 117 rfl rfl
theorem kw_118 : (Jvm.Cond.fieldLink "WaterTwice$Design" (29 : Nat) "WaterTwice$Design" "comes" "[LWaterTwice$Fraction;") ∈ wsG := gm 118 rfl rfl
theorem kw_119 : (Jvm.Cond.fieldLink "WaterTwice$Design" (33 : Nat) "WaterTwice$Design" "ends" "[LWaterTwice$Fraction;") ∈ wsG := gm 119 rfl rfl
theorem kt_120 : (Jvm.Cond.fieldLinkNest "WaterTwice" (146 : Nat) "WaterTwice$Design" "ends" "[LWaterTwice$Fraction;" "WaterTwice") ∈ lw_tbl := gt 120 rfl
theorem kw_121 : (Jvm.Cond.fieldLink "WaterTwice$Design" (36 : Nat) "WaterTwice$Design" "hitIn" "[I") ∈ wsG := gm 121 rfl rfl
theorem kt_122 : (Jvm.Cond.fieldLinkNest "WaterTwice" (154 : Nat) "WaterTwice$Design" "hitIn" "[I" "WaterTwice") ∈ lw_tbl := gt 122 rfl
theorem kw_123 : (Jvm.Cond.laysFinal "WaterTwice$Design" "WaterTwice$Design" "steps" "LWaterTwice$Steps;") ∈ wsG := gm 123 rfl rfl
theorem kt_124 : (Jvm.Cond.soleField "WaterTwice$Design" "steps") ∈ lw_tbl := gt 124 rfl
theorem kw_125 : (Jvm.Cond.laysFinal "WaterTwice$Design" "WaterTwice$Design" "fresh" "[I") ∈ wsG := gm 125 rfl rfl
theorem kt_126 : (Jvm.Cond.soleField "WaterTwice$Design" "fresh") ∈ lw_tbl := gt 126 rfl
theorem kw_127 : (Jvm.Cond.laysFinal "WaterTwice$Design" "WaterTwice$Design" "pipes" "[[I") ∈ wsG := gm 127 rfl rfl
theorem kt_128 : (Jvm.Cond.soleField "WaterTwice$Design" "pipes") ∈ lw_tbl := gt 128 rfl
theorem kw_129 : (Jvm.Cond.laysFinal "WaterTwice$Design" "WaterTwice$Design" "taken" "[Z") ∈ wsG := gm 129 rfl rfl
theorem kt_130 : (Jvm.Cond.soleField "WaterTwice$Design" "taken") ∈ lw_tbl := gt 130 rfl
theorem kw_131 : (Jvm.Cond.laysFinal "WaterTwice$Design" "WaterTwice$Design" "order" "[I") ∈ wsG := gm 131 rfl rfl
theorem kt_132 : (Jvm.Cond.soleField "WaterTwice$Design" "order") ∈ lw_tbl := gt 132 rfl
theorem kw_133 : (Jvm.Cond.laysFinal "WaterTwice$Design" "WaterTwice$Design" "comes" "[LWaterTwice$Fraction;") ∈ wsG := gm 133 rfl rfl
theorem kt_134 : (Jvm.Cond.soleField "WaterTwice$Design" "comes") ∈ lw_tbl := gt 134 rfl
theorem kw_135 : (Jvm.Cond.laysFinal "WaterTwice$Design" "WaterTwice$Design" "ends" "[LWaterTwice$Fraction;") ∈ wsG := gm 135 rfl rfl
theorem kt_136 : (Jvm.Cond.soleField "WaterTwice$Design" "ends") ∈ lw_tbl := gt 136 rfl
theorem kw_137 : (Jvm.Cond.laysFinal "WaterTwice$Design" "WaterTwice$Design" "hitIn" "[I") ∈ wsG := gm 137 rfl rfl
theorem kt_138 : (Jvm.Cond.soleField "WaterTwice$Design" "hitIn") ∈ lw_tbl := gt 138 rfl
theorem kt_139 : (Jvm.Cond.superclass "WaterTwice$Design" "java/lang/Object") ∈ lw_tbl := gt 139 rfl
theorem kw_140 : (Jvm.Cond.classLink "WaterTwice" (32 : Nat) "WaterTwice$Store") ∈ wsG := gm 140 rfl rfl
theorem kw_141 : (Jvm.Cond.instantiable "WaterTwice$Store" (2 : Nat)) ∈ wsG := gm 141 rfl rfl
theorem kt_142 : (Jvm.Cond.methodLinkNest "WaterTwice" (34 : Nat) ({ cls := "WaterTwice$Store", name := "<init>", desc := "()V" } : Jvm.MethodName) "WaterTwice") ∈ lw_tbl := gt 142 rfl
theorem kw_143 : (Jvm.Cond.instanceMethod ({ cls := "WaterTwice$Store", name := "<init>", desc := "()V" } : Jvm.MethodName)) ∈ wsG := gm 143 rfl rfl
theorem kw_144 : (Jvm.Cond.code ({ cls := "WaterTwice$Store", name := "<init>", desc := "()V" } : Jvm.MethodName) prog_8_method_1_code (1 : Nat) (Option.none : Option Jvm.ClassFile.FieldType)) ∈ wsG := gm 144 rfl rfl
theorem kw_145 : (Jvm.Cond.methodLink "WaterTwice$Store" (1 : Nat) ({ cls := "java/lang/Object", name := "<init>", desc := "()V" } : Jvm.MethodName)) ∈ wsG := gm 145 rfl rfl
theorem kw_146 : (Jvm.Cond.fieldLink "WaterTwice$Store" (9 : Nat) "WaterTwice$Store" "in" "[I") ∈ wsG := gm 146 rfl rfl
theorem kt_147 : (Jvm.Cond.fieldLinkNest "WaterTwice" (164 : Nat) "WaterTwice$Store" "in" "[I" "WaterTwice") ∈ lw_tbl := gt 147 rfl
theorem kw_148 : (Jvm.Cond.fieldLink "WaterTwice$Store" (13 : Nat) "WaterTwice$Store" "out" "[I") ∈ wsG := gm 148 rfl rfl
theorem kt_149 : (Jvm.Cond.fieldLinkNest "WaterTwice" (167 : Nat) "WaterTwice$Store" "out" "[I" "WaterTwice") ∈ lw_tbl := gt 149 rfl
theorem kw_150 : (Jvm.Cond.laysFinal "WaterTwice$Store" "WaterTwice$Store" "in" "[I") ∈ wsG := gm 150 rfl rfl
theorem kt_151 : (Jvm.Cond.soleField "WaterTwice$Store" "in") ∈ lw_tbl := gt 151 rfl
theorem kw_152 : (Jvm.Cond.laysFinal "WaterTwice$Store" "WaterTwice$Store" "out" "[I") ∈ wsG := gm 152 rfl rfl
theorem kt_153 : (Jvm.Cond.soleField "WaterTwice$Store" "out") ∈ lw_tbl := gt 153 rfl
theorem kt_154 : (Jvm.Cond.superclass "WaterTwice$Store" "java/lang/Object") ∈ lw_tbl := gt 154 rfl
theorem kw_155 : (Jvm.Cond.classLink "WaterTwice" (39 : Nat) "WaterTwice$Meters") ∈ wsG := gm 155 rfl rfl
theorem kw_156 : (Jvm.Cond.instantiable "WaterTwice$Meters" (3 : Nat)) ∈ wsG := gm 156 rfl rfl
theorem kt_157 : (Jvm.Cond.methodLinkNest "WaterTwice" (41 : Nat) ({ cls := "WaterTwice$Meters", name := "<init>", desc := "()V" } : Jvm.MethodName) "WaterTwice") ∈ lw_tbl := gt 157 rfl
theorem kw_158 : (Jvm.Cond.instanceMethod ({ cls := "WaterTwice$Meters", name := "<init>", desc := "()V" } : Jvm.MethodName)) ∈ wsG := gm 158 rfl rfl
theorem kw_159 : (Jvm.Cond.code ({ cls := "WaterTwice$Meters", name := "<init>", desc := "()V" } : Jvm.MethodName) prog_6_method_1_code (1 : Nat) (Option.none : Option Jvm.ClassFile.FieldType)) ∈ wsG := gm 159 rfl rfl
theorem kw_160 : (Jvm.Cond.methodLink "WaterTwice$Meters" (3 : Nat) ({ cls := "java/lang/Object", name := "<init>", desc := "()V" } : Jvm.MethodName)) ∈ wsG := gm 160 rfl rfl
theorem kw_161 : (Jvm.Cond.fieldLink "WaterTwice$Meters" (11 : Nat) "WaterTwice$Meters" "sign" "[I") ∈ wsG := gm 161 rfl rfl
theorem kw_162 : (Jvm.Cond.fieldLink "WaterTwice$Meters" (15 : Nat) "WaterTwice$Meters" "reading" "[I") ∈ wsG := gm 162 rfl rfl
theorem kt_163 : (Jvm.Cond.fieldLinkNest "WaterTwice" (181 : Nat) "WaterTwice$Meters" "reading" "[I" "WaterTwice") ∈ lw_tbl := gt 163 rfl
theorem kw_164 : (Jvm.Cond.fieldLink "WaterTwice$Meters" (18 : Nat) "WaterTwice$Meters" "size" "I") ∈ wsG := gm 164 rfl rfl
theorem kt_165 : (Jvm.Cond.fieldLinkNest "WaterTwice" (214 : Nat) "WaterTwice$Meters" "size" "I" "WaterTwice") ∈ lw_tbl := gt 165 rfl
theorem kw_166 : (Jvm.Cond.laysFinal "WaterTwice$Meters" "WaterTwice$Meters" "sign" "[I") ∈ wsG := gm 166 rfl rfl
theorem kt_167 : (Jvm.Cond.soleField "WaterTwice$Meters" "sign") ∈ lw_tbl := gt 167 rfl
theorem kw_168 : (Jvm.Cond.laysFinal "WaterTwice$Meters" "WaterTwice$Meters" "reading" "[I") ∈ wsG := gm 168 rfl rfl
theorem kt_169 : (Jvm.Cond.soleField "WaterTwice$Meters" "reading") ∈ lw_tbl := gt 169 rfl
theorem kw_170 : (Jvm.Cond.lays "WaterTwice$Meters" "WaterTwice$Meters" "size" "I") ∈ wsG := gm 170 rfl rfl
theorem kt_171 : (Jvm.Cond.soleField "WaterTwice$Meters" "size") ∈ lw_tbl := gt 171 rfl
theorem kt_172 : (Jvm.Cond.superclass "WaterTwice$Meters" "java/lang/Object") ∈ lw_tbl := gt 172 rfl
theorem kw_173 : (Jvm.Cond.classLink "WaterTwice" (46 : Nat) "WaterTwice$Fraction") ∈ wsG := gm 173 rfl rfl
theorem kt_174 : (Jvm.Cond.methodLinkNest "WaterTwice" (48 : Nat) ({ cls := "WaterTwice$Fraction", name := "<init>", desc := "()V" } : Jvm.MethodName) "WaterTwice") ∈ lw_tbl := gt 174 rfl
theorem kw_175 : (Jvm.Cond.fieldLink "WaterTwice" (10 : Nat) "WaterTwice" "steps" "LWaterTwice$Steps;") ∈ wsG := gm 175 rfl rfl
theorem kw_176 : (Jvm.Cond.fieldLink "WaterTwice" (21 : Nat) "WaterTwice" "limits" "LWaterTwice$Limits;") ∈ wsG := gm 176 rfl rfl
theorem kw_177 : (Jvm.Cond.fieldLink "WaterTwice" (28 : Nat) "WaterTwice" "design" "LWaterTwice$Design;") ∈ wsG := gm 177 rfl rfl
theorem kw_178 : (Jvm.Cond.fieldLink "WaterTwice" (35 : Nat) "WaterTwice" "hours" "LWaterTwice$Store;") ∈ wsG := gm 178 rfl rfl
theorem kw_179 : (Jvm.Cond.fieldLink "WaterTwice" (42 : Nat) "WaterTwice" "meters" "LWaterTwice$Meters;") ∈ wsG := gm 179 rfl rfl
theorem kw_180 : (Jvm.Cond.fieldLink "WaterTwice" (49 : Nat) "WaterTwice" "answer" "LWaterTwice$Fraction;") ∈ wsG := gm 180 rfl rfl
theorem kw_181 : (Jvm.Cond.fieldLink "WaterTwice" (89 : Nat) "WaterTwice" "traced" "J") ∈ wsG := gm 181 rfl rfl
theorem kw_182 : (Jvm.Cond.laysFinal "WaterTwice" "WaterTwice" "steps" "LWaterTwice$Steps;") ∈ wsG := gm 182 rfl rfl
theorem kt_183 : (Jvm.Cond.soleField "WaterTwice" "steps") ∈ lw_tbl := gt 183 rfl
theorem kw_184 : (Jvm.Cond.laysFinal "WaterTwice" "WaterTwice" "limits" "LWaterTwice$Limits;") ∈ wsG := gm 184 rfl rfl
theorem kt_185 : (Jvm.Cond.soleField "WaterTwice" "limits") ∈ lw_tbl := gt 185 rfl
theorem kw_186 : (Jvm.Cond.laysFinal "WaterTwice" "WaterTwice" "design" "LWaterTwice$Design;") ∈ wsG := gm 186 rfl rfl
theorem kt_187 : (Jvm.Cond.soleField "WaterTwice" "design") ∈ lw_tbl := gt 187 rfl
theorem kw_188 : (Jvm.Cond.laysFinal "WaterTwice" "WaterTwice" "hours" "LWaterTwice$Store;") ∈ wsG := gm 188 rfl rfl
theorem kt_189 : (Jvm.Cond.soleField "WaterTwice" "hours") ∈ lw_tbl := gt 189 rfl
theorem kw_190 : (Jvm.Cond.laysFinal "WaterTwice" "WaterTwice" "meters" "LWaterTwice$Meters;") ∈ wsG := gm 190 rfl rfl
theorem kt_191 : (Jvm.Cond.soleField "WaterTwice" "meters") ∈ lw_tbl := gt 191 rfl
theorem kw_192 : (Jvm.Cond.laysFinal "WaterTwice" "WaterTwice" "answer" "LWaterTwice$Fraction;") ∈ wsG := gm 192 rfl rfl
theorem kt_193 : (Jvm.Cond.soleField "WaterTwice" "answer") ∈ lw_tbl := gt 193 rfl
theorem kw_194 : (Jvm.Cond.lays "WaterTwice" "WaterTwice" "traced" "J") ∈ wsG := gm 194 rfl rfl
theorem kt_195 : (Jvm.Cond.soleField "WaterTwice" "traced") ∈ lw_tbl := gt 195 rfl
theorem kt_196 : (Jvm.Cond.superclass "WaterTwice" "java/lang/Object") ∈ lw_tbl := gt 196 rfl
theorem kw_197 : (Jvm.Cond.methodLink "WaterTwiceLaw" (13 : Nat) ({ cls := "WaterTwice", name := "step", desc := "(III)I" } : Jvm.MethodName)) ∈ wsG := gm 197 rfl rfl
theorem kw_198 : (Jvm.Cond.instanceMethod ({ cls := "WaterTwice", name := "step", desc := "(III)I" } : Jvm.MethodName)) ∈ wsG := gm 198 rfl rfl
theorem kw_199 : (Jvm.Cond.selects "WaterTwice" ({ cls := "WaterTwice", name := "step", desc := "(III)I" } : Jvm.MethodName) ({ cls := "WaterTwice", name := "step", desc := "(III)I" } : Jvm.MethodName)) ∈ wsG := gm 199 rfl rfl
theorem kw_200 : (Jvm.Cond.code ({ cls := "WaterTwice", name := "step", desc := "(III)I" } : Jvm.MethodName) prog_1_method_2_code (4 : Nat) (Option.some Jvm.ClassFile.FieldType.int)) ∈ wsG := gm 200 rfl rfl
theorem kw_201 : (Jvm.Cond.methodLink "WaterTwice" (53 : Nat) ({ cls := "WaterTwice", name := "within", desc := "(III)Z" } : Jvm.MethodName)) ∈ wsG := gm 201 rfl rfl
theorem kw_202 : (Jvm.Cond.static ({ cls := "WaterTwice", name := "within", desc := "(III)Z" } : Jvm.MethodName)) ∈ wsG := gm 202 rfl rfl
theorem kw_203 : (Jvm.Cond.code ({ cls := "WaterTwice", name := "within", desc := "(III)Z" } : Jvm.MethodName) prog_1_method_23_code (3 : Nat) (Option.some Jvm.ClassFile.FieldType.boolean)) ∈ wsG := gm 203 rfl rfl
theorem kw_204 : (Jvm.Cond.methodLink "WaterTwice" (57 : Nat) ({ cls := "WaterTwice$Steps", name := "isFull", desc := "()Z" } : Jvm.MethodName)) ∈ wsG := gm 204 rfl rfl
theorem kw_205 : (Jvm.Cond.instanceMethod ({ cls := "WaterTwice$Steps", name := "isFull", desc := "()Z" } : Jvm.MethodName)) ∈ wsG := gm 205 rfl rfl
theorem kw_206 : (Jvm.Cond.selects "WaterTwice$Steps" ({ cls := "WaterTwice$Steps", name := "isFull", desc := "()Z" } : Jvm.MethodName) ({ cls := "WaterTwice$Steps", name := "isFull", desc := "()Z" } : Jvm.MethodName)) ∈ wsG := gm 206 rfl rfl
theorem kw_207 : (Jvm.Cond.code ({ cls := "WaterTwice$Steps", name := "isFull", desc := "()Z" } : Jvm.MethodName) prog_7_method_3_code (1 : Nat) (Option.some Jvm.ClassFile.FieldType.boolean)) ∈ wsG := gm 207 rfl rfl
theorem kw_208 : (Jvm.Cond.methodLink "WaterTwice" (61 : Nat) ({ cls := "WaterTwice$Steps", name := "append", desc := "(III)I" } : Jvm.MethodName)) ∈ wsG := gm 208 rfl rfl
theorem kw_209 : (Jvm.Cond.instanceMethod ({ cls := "WaterTwice$Steps", name := "append", desc := "(III)I" } : Jvm.MethodName)) ∈ wsG := gm 209 rfl rfl
theorem kw_210 : (Jvm.Cond.selects "WaterTwice$Steps" ({ cls := "WaterTwice$Steps", name := "append", desc := "(III)I" } : Jvm.MethodName) ({ cls := "WaterTwice$Steps", name := "append", desc := "(III)I" } : Jvm.MethodName)) ∈ wsG := gm 210 rfl rfl
theorem kw_211 : (Jvm.Cond.code ({ cls := "WaterTwice$Steps", name := "append", desc := "(III)I" } : Jvm.MethodName) prog_7_method_4_code (5 : Nat) (Option.some Jvm.ClassFile.FieldType.int)) ∈ wsG := gm 211 rfl rfl
theorem kw_212 : (Jvm.Cond.methodLink "WaterTwiceLaw" (18 : Nat) ({ cls := "WaterTwice", name := "change", desc := "(III)I" } : Jvm.MethodName)) ∈ wsG := gm 212 rfl rfl
theorem kw_213 : (Jvm.Cond.instanceMethod ({ cls := "WaterTwice", name := "change", desc := "(III)I" } : Jvm.MethodName)) ∈ wsG := gm 213 rfl rfl
theorem kw_214 : (Jvm.Cond.selects "WaterTwice" ({ cls := "WaterTwice", name := "change", desc := "(III)I" } : Jvm.MethodName) ({ cls := "WaterTwice", name := "change", desc := "(III)I" } : Jvm.MethodName)) ∈ wsG := gm 214 rfl rfl
theorem kw_215 : (Jvm.Cond.code ({ cls := "WaterTwice", name := "change", desc := "(III)I" } : Jvm.MethodName) prog_1_method_3_code (4 : Nat) (Option.some Jvm.ClassFile.FieldType.int)) ∈ wsG := gm 215 rfl rfl
theorem kw_216 : (Jvm.Cond.methodLink "WaterTwice" (65 : Nat) ({ cls := "WaterTwice$Steps", name := "has", desc := "(I)Z" } : Jvm.MethodName)) ∈ wsG := gm 216 rfl rfl
theorem kw_217 : (Jvm.Cond.instanceMethod ({ cls := "WaterTwice$Steps", name := "has", desc := "(I)Z" } : Jvm.MethodName)) ∈ wsG := gm 217 rfl rfl
theorem kw_218 : (Jvm.Cond.selects "WaterTwice$Steps" ({ cls := "WaterTwice$Steps", name := "has", desc := "(I)Z" } : Jvm.MethodName) ({ cls := "WaterTwice$Steps", name := "has", desc := "(I)Z" } : Jvm.MethodName)) ∈ wsG := gm 218 rfl rfl
theorem kw_219 : (Jvm.Cond.code ({ cls := "WaterTwice$Steps", name := "has", desc := "(I)Z" } : Jvm.MethodName) prog_7_method_2_code (2 : Nat) (Option.some Jvm.ClassFile.FieldType.boolean)) ∈ wsG := gm 219 rfl rfl
theorem kw_220 : (Jvm.Cond.methodLink "WaterTwice" (73 : Nat) ({ cls := "WaterTwice", name := "replace", desc := "([III)I" } : Jvm.MethodName)) ∈ wsG := gm 220 rfl rfl
theorem kw_221 : (Jvm.Cond.static ({ cls := "WaterTwice", name := "replace", desc := "([III)I" } : Jvm.MethodName)) ∈ wsG := gm 221 rfl rfl
theorem kw_222 : (Jvm.Cond.code ({ cls := "WaterTwice", name := "replace", desc := "([III)I" } : Jvm.MethodName) prog_1_method_25_code (4 : Nat) (Option.some Jvm.ClassFile.FieldType.int)) ∈ wsG := gm 222 rfl rfl
theorem kw_223 : (Jvm.Cond.methodLink "WaterTwiceLaw" (22 : Nat) ({ cls := "WaterTwice", name := "set", desc := "(II)I" } : Jvm.MethodName)) ∈ wsG := gm 223 rfl rfl
theorem kw_224 : (Jvm.Cond.instanceMethod ({ cls := "WaterTwice", name := "set", desc := "(II)I" } : Jvm.MethodName)) ∈ wsG := gm 224 rfl rfl
theorem kw_225 : (Jvm.Cond.selects "WaterTwice" ({ cls := "WaterTwice", name := "set", desc := "(II)I" } : Jvm.MethodName) ({ cls := "WaterTwice", name := "set", desc := "(II)I" } : Jvm.MethodName)) ∈ wsG := gm 225 rfl rfl
theorem kw_226 : (Jvm.Cond.code ({ cls := "WaterTwice", name := "set", desc := "(II)I" } : Jvm.MethodName) prog_1_method_4_code (3 : Nat) (Option.some Jvm.ClassFile.FieldType.int)) ∈ wsG := gm 226 rfl rfl
theorem kw_227 : (Jvm.Cond.methodLink "WaterTwice" (80 : Nat) ({ cls := "WaterTwice$Limits", name := "isSetting", desc := "(I)Z" } : Jvm.MethodName)) ∈ wsG := gm 227 rfl rfl
theorem kw_228 : (Jvm.Cond.static ({ cls := "WaterTwice$Limits", name := "isSetting", desc := "(I)Z" } : Jvm.MethodName)) ∈ wsG := gm 228 rfl rfl
theorem kw_229 : (Jvm.Cond.code ({ cls := "WaterTwice$Limits", name := "isSetting", desc := "(I)Z" } : Jvm.MethodName) prog_5_method_2_code (1 : Nat) (Option.some Jvm.ClassFile.FieldType.boolean)) ∈ wsG := gm 229 rfl rfl
theorem kw_230 : (Jvm.Cond.fieldLink "WaterTwice$Limits" (17 : Nat) "WaterTwice$Limits" "MOST" "[I") ∈ wsG := gm 230 rfl rfl
theorem kt_231 : (Jvm.Cond.laysStatic "WaterTwice$Limits" "MOST" "[I") ∈ lw_tbl := gt 231 rfl
theorem kt_232 : (Jvm.Cond.fieldLinkNest "WaterTwice" (83 : Nat) "WaterTwice$Limits" "MOST" "[I" "WaterTwice") ∈ lw_tbl := gt 232 rfl
theorem kw_233 : (Jvm.Cond.methodLink "WaterTwiceLaw" (27 : Nat) ({ cls := "WaterTwice", name := "limit", desc := "(II)I" } : Jvm.MethodName)) ∈ wsG := gm 233 rfl rfl
theorem kw_234 : (Jvm.Cond.instanceMethod ({ cls := "WaterTwice", name := "limit", desc := "(II)I" } : Jvm.MethodName)) ∈ wsG := gm 234 rfl rfl
theorem kw_235 : (Jvm.Cond.selects "WaterTwice" ({ cls := "WaterTwice", name := "limit", desc := "(II)I" } : Jvm.MethodName) ({ cls := "WaterTwice", name := "limit", desc := "(II)I" } : Jvm.MethodName)) ∈ wsG := gm 235 rfl rfl
theorem kw_236 : (Jvm.Cond.code ({ cls := "WaterTwice", name := "limit", desc := "(II)I" } : Jvm.MethodName) prog_1_method_5_code (3 : Nat) (Option.some Jvm.ClassFile.FieldType.int)) ∈ wsG := gm 236 rfl rfl
theorem kw_237 : (Jvm.Cond.methodLink "WaterTwice" (93 : Nat) ({ cls := "WaterTwice$Limits", name := "tracesOf", desc := "(I)I" } : Jvm.MethodName)) ∈ wsG := gm 237 rfl rfl
theorem kw_238 : (Jvm.Cond.static ({ cls := "WaterTwice$Limits", name := "tracesOf", desc := "(I)I" } : Jvm.MethodName)) ∈ wsG := gm 238 rfl rfl
theorem kw_239 : (Jvm.Cond.code ({ cls := "WaterTwice$Limits", name := "tracesOf", desc := "(I)I" } : Jvm.MethodName) prog_5_method_3_code (1 : Nat) (Option.some Jvm.ClassFile.FieldType.int)) ∈ wsG := gm 239 rfl rfl
theorem kw_240 : (Jvm.Cond.methodLink "WaterTwice" (97 : Nat) ({ cls := "WaterTwice$Limits", name := "by", desc := "(II)I" } : Jvm.MethodName)) ∈ wsG := gm 240 rfl rfl
theorem kw_241 : (Jvm.Cond.instanceMethod ({ cls := "WaterTwice$Limits", name := "by", desc := "(II)I" } : Jvm.MethodName)) ∈ wsG := gm 241 rfl rfl
theorem kw_242 : (Jvm.Cond.selects "WaterTwice$Limits" ({ cls := "WaterTwice$Limits", name := "by", desc := "(II)I" } : Jvm.MethodName) ({ cls := "WaterTwice$Limits", name := "by", desc := "(II)I" } : Jvm.MethodName)) ∈ wsG := gm 242 rfl rfl
theorem kw_243 : (Jvm.Cond.code ({ cls := "WaterTwice$Limits", name := "by", desc := "(II)I" } : Jvm.MethodName) prog_5_method_5_code (5 : Nat) (Option.some Jvm.ClassFile.FieldType.int)) ∈ wsG := gm 243 rfl rfl
theorem kw_244 : (Jvm.Cond.methodLink "WaterTwice$Limits" (28 : Nat) ({ cls := "java/lang/Math", name := "max", desc := "(II)I" } : Jvm.MethodName)) ∈ wsG := gm 244 rfl rfl
theorem kw_245 : (Jvm.Cond.static ({ cls := "java/lang/Math", name := "max", desc := "(II)I" } : Jvm.MethodName)) ∈ wsG := gm 245 rfl rfl
theorem kw_246 : (Jvm.Cond.code ({ cls := "java/lang/Math", name := "max", desc := "(II)I" } : Jvm.MethodName) prog_12_method_65_code (2 : Nat) (Option.some Jvm.ClassFile.FieldType.int)) ∈ wsG := gm 246 rfl rfl
theorem kw_247 : (Jvm.Cond.methodLink "WaterTwiceLaw" (31 : Nat) ({ cls := "WaterTwice", name := "dirt", desc := "(II)J" } : Jvm.MethodName)) ∈ wsG := gm 247 rfl rfl
theorem kw_248 : (Jvm.Cond.instanceMethod ({ cls := "WaterTwice", name := "dirt", desc := "(II)J" } : Jvm.MethodName)) ∈ wsG := gm 248 rfl rfl
theorem kw_249 : (Jvm.Cond.selects "WaterTwice" ({ cls := "WaterTwice", name := "dirt", desc := "(II)J" } : Jvm.MethodName) ({ cls := "WaterTwice", name := "dirt", desc := "(II)J" } : Jvm.MethodName)) ∈ wsG := gm 249 rfl rfl
theorem kw_250 : (Jvm.Cond.code ({ cls := "WaterTwice", name := "dirt", desc := "(II)J" } : Jvm.MethodName) prog_1_method_6_code (3 : Nat) (Option.some Jvm.ClassFile.FieldType.long)) ∈ wsG := gm 250 rfl rfl
theorem kw_251 : (Jvm.Cond.methodLink "WaterTwice" (101 : Nat) ({ cls := "WaterTwice", name := "isPart", desc := "(I)Z" } : Jvm.MethodName)) ∈ wsG := gm 251 rfl rfl
theorem kw_252 : (Jvm.Cond.static ({ cls := "WaterTwice", name := "isPart", desc := "(I)Z" } : Jvm.MethodName)) ∈ wsG := gm 252 rfl rfl
theorem kw_253 : (Jvm.Cond.code ({ cls := "WaterTwice", name := "isPart", desc := "(I)Z" } : Jvm.MethodName) prog_1_method_24_code (1 : Nat) (Option.some Jvm.ClassFile.FieldType.boolean)) ∈ wsG := gm 253 rfl rfl
theorem kw_254 : (Jvm.Cond.constantLong "WaterTwice" (104 : Nat) (-1 : Int64)) ∈ wsG := gm 254 rfl rfl
theorem kw_255 : (Jvm.Cond.methodLink "WaterTwice" (106 : Nat) ({ cls := "WaterTwice$Steps", name := "tellDirtBelow", desc := "(ILWaterTwice$Fraction;)V" } : Jvm.MethodName)) ∈ wsG := gm 255 rfl rfl
theorem kw_256 : (Jvm.Cond.instanceMethod ({ cls := "WaterTwice$Steps", name := "tellDirtBelow", desc := "(ILWaterTwice$Fraction;)V" } : Jvm.MethodName)) ∈ wsG := gm 256 rfl rfl
theorem kw_257 : (Jvm.Cond.selects "WaterTwice$Steps" ({ cls := "WaterTwice$Steps", name := "tellDirtBelow", desc := "(ILWaterTwice$Fraction;)V" } : Jvm.MethodName) ({ cls := "WaterTwice$Steps", name := "tellDirtBelow", desc := "(ILWaterTwice$Fraction;)V" } : Jvm.MethodName)) ∈ wsG := gm 257 rfl rfl
theorem kw_258 : (Jvm.Cond.code ({ cls := "WaterTwice$Steps", name := "tellDirtBelow", desc := "(ILWaterTwice$Fraction;)V" } : Jvm.MethodName) prog_7_method_5_code (5 : Nat) (Option.none : Option Jvm.ClassFile.FieldType)) ∈ wsG := gm 258 rfl rfl
theorem kw_259 : (Jvm.Cond.methodLink "WaterTwice$Steps" (28 : Nat) ({ cls := "WaterTwice$Steps", name := "commonLower", desc := "()J" } : Jvm.MethodName)) ∈ wsG := gm 259 rfl rfl
theorem kt_260 : (Jvm.Cond.privateMethod ({ cls := "WaterTwice$Steps", name := "commonLower", desc := "()J" } : Jvm.MethodName)) ∈ lw_tbl := gt 260 rfl
theorem kw_261 : (Jvm.Cond.instanceMethod ({ cls := "WaterTwice$Steps", name := "commonLower", desc := "()J" } : Jvm.MethodName)) ∈ wsG := gm 261 rfl rfl
theorem kw_262 : (Jvm.Cond.code ({ cls := "WaterTwice$Steps", name := "commonLower", desc := "()J" } : Jvm.MethodName) prog_7_method_9_code (4 : Nat) (Option.some Jvm.ClassFile.FieldType.long)) ∈ wsG := gm 262 rfl rfl
theorem kw_263 : (Jvm.Cond.methodLink "WaterTwice$Steps" (60 : Nat) ({ cls := "WaterTwice$Steps", name := "span", desc := "(I)I" } : Jvm.MethodName)) ∈ wsG := gm 263 rfl rfl
theorem kt_264 : (Jvm.Cond.privateMethod ({ cls := "WaterTwice$Steps", name := "span", desc := "(I)I" } : Jvm.MethodName)) ∈ lw_tbl := gt 264 rfl
theorem kw_265 : (Jvm.Cond.instanceMethod ({ cls := "WaterTwice$Steps", name := "span", desc := "(I)I" } : Jvm.MethodName)) ∈ wsG := gm 265 rfl rfl
theorem kw_266 : (Jvm.Cond.code ({ cls := "WaterTwice$Steps", name := "span", desc := "(I)I" } : Jvm.MethodName) prog_7_method_11_code (2 : Nat) (Option.some Jvm.ClassFile.FieldType.int)) ∈ wsG := gm 266 rfl rfl
theorem kw_267 : (Jvm.Cond.methodLink "WaterTwice$Steps" (70 : Nat) ({ cls := "java/lang/Math", name := "max", desc := "(II)I" } : Jvm.MethodName)) ∈ wsG := gm 267 rfl rfl
theorem kw_268 : (Jvm.Cond.methodLink "WaterTwice$Steps" (32 : Nat) ({ cls := "WaterTwice$Steps", name := "dirtBelow", desc := "(IJ)J" } : Jvm.MethodName)) ∈ wsG := gm 268 rfl rfl
theorem kt_269 : (Jvm.Cond.privateMethod ({ cls := "WaterTwice$Steps", name := "dirtBelow", desc := "(IJ)J" } : Jvm.MethodName)) ∈ lw_tbl := gt 269 rfl
theorem kw_270 : (Jvm.Cond.instanceMethod ({ cls := "WaterTwice$Steps", name := "dirtBelow", desc := "(IJ)J" } : Jvm.MethodName)) ∈ wsG := gm 270 rfl rfl
theorem kw_271 : (Jvm.Cond.code ({ cls := "WaterTwice$Steps", name := "dirtBelow", desc := "(IJ)J" } : Jvm.MethodName) prog_7_method_10_code (9 : Nat) (Option.some Jvm.ClassFile.FieldType.long)) ∈ wsG := gm 271 rfl rfl
theorem kw_272 : (Jvm.Cond.methodLink "WaterTwice$Steps" (64 : Nat) ({ cls := "java/lang/Math", name := "min", desc := "(II)I" } : Jvm.MethodName)) ∈ wsG := gm 272 rfl rfl
theorem kw_273 : (Jvm.Cond.static ({ cls := "java/lang/Math", name := "min", desc := "(II)I" } : Jvm.MethodName)) ∈ wsG := gm 273 rfl rfl
theorem kw_274 : (Jvm.Cond.code ({ cls := "java/lang/Math", name := "min", desc := "(II)I" } : Jvm.MethodName) prog_12_method_69_code (2 : Nat) (Option.some Jvm.ClassFile.FieldType.int)) ∈ wsG := gm 274 rfl rfl
theorem kw_275 : (Jvm.Cond.methodLink "WaterTwice$Steps" (36 : Nat) ({ cls := "WaterTwice$Fraction", name := "become", desc := "(JJ)V" } : Jvm.MethodName)) ∈ wsG := gm 275 rfl rfl
theorem kw_276 : (Jvm.Cond.instanceMethod ({ cls := "WaterTwice$Fraction", name := "become", desc := "(JJ)V" } : Jvm.MethodName)) ∈ wsG := gm 276 rfl rfl
theorem kw_277 : (Jvm.Cond.selects "WaterTwice$Fraction" ({ cls := "WaterTwice$Fraction", name := "become", desc := "(JJ)V" } : Jvm.MethodName) ({ cls := "WaterTwice$Fraction", name := "become", desc := "(JJ)V" } : Jvm.MethodName)) ∈ wsG := gm 277 rfl rfl
theorem kw_278 : (Jvm.Cond.code ({ cls := "WaterTwice$Fraction", name := "become", desc := "(JJ)V" } : Jvm.MethodName) prog_4_method_2_code (7 : Nat) (Option.none : Option Jvm.ClassFile.FieldType)) ∈ wsG := gm 278 rfl rfl
theorem kw_279 : (Jvm.Cond.methodLink "WaterTwice$Fraction" (13 : Nat) ({ cls := "java/lang/Math", name := "abs", desc := "(J)J" } : Jvm.MethodName)) ∈ wsG := gm 279 rfl rfl
theorem kw_280 : (Jvm.Cond.static ({ cls := "java/lang/Math", name := "abs", desc := "(J)J" } : Jvm.MethodName)) ∈ wsG := gm 280 rfl rfl
theorem kw_281 : (Jvm.Cond.code ({ cls := "java/lang/Math", name := "abs", desc := "(J)J" } : Jvm.MethodName) prog_12_method_61_code (2 : Nat) (Option.some Jvm.ClassFile.FieldType.long)) ∈ wsG := gm 281 rfl rfl
theorem kw_282 : (Jvm.Cond.methodLink "WaterTwice$Fraction" (19 : Nat) ({ cls := "WaterTwice$Fraction", name := "commonDivisor", desc := "(JJ)J" } : Jvm.MethodName)) ∈ wsG := gm 282 rfl rfl
theorem kw_283 : (Jvm.Cond.static ({ cls := "WaterTwice$Fraction", name := "commonDivisor", desc := "(JJ)J" } : Jvm.MethodName)) ∈ wsG := gm 283 rfl rfl
theorem kw_284 : (Jvm.Cond.code ({ cls := "WaterTwice$Fraction", name := "commonDivisor", desc := "(JJ)J" } : Jvm.MethodName) prog_4_method_8_code (11 : Nat) (Option.some Jvm.ClassFile.FieldType.long)) ∈ wsG := gm 284 rfl rfl
theorem kw_285 : (Jvm.Cond.methodLink "WaterTwice$Fraction" (30 : Nat) ({ cls := "java/lang/Math", name := "max", desc := "(JJ)J" } : Jvm.MethodName)) ∈ wsG := gm 285 rfl rfl
theorem kw_286 : (Jvm.Cond.static ({ cls := "java/lang/Math", name := "max", desc := "(JJ)J" } : Jvm.MethodName)) ∈ wsG := gm 286 rfl rfl
theorem kw_287 : (Jvm.Cond.code ({ cls := "java/lang/Math", name := "max", desc := "(JJ)J" } : Jvm.MethodName) prog_12_method_66_code (4 : Nat) (Option.some Jvm.ClassFile.FieldType.long)) ∈ wsG := gm 287 rfl rfl
theorem kw_288 : (Jvm.Cond.methodLink "WaterTwice" (110 : Nat) ({ cls := "WaterTwice$Fraction", name := "part", desc := "(I)J" } : Jvm.MethodName)) ∈ wsG := gm 288 rfl rfl
theorem kw_289 : (Jvm.Cond.instanceMethod ({ cls := "WaterTwice$Fraction", name := "part", desc := "(I)J" } : Jvm.MethodName)) ∈ wsG := gm 289 rfl rfl
theorem kw_290 : (Jvm.Cond.selects "WaterTwice$Fraction" ({ cls := "WaterTwice$Fraction", name := "part", desc := "(I)J" } : Jvm.MethodName) ({ cls := "WaterTwice$Fraction", name := "part", desc := "(I)J" } : Jvm.MethodName)) ∈ wsG := gm 290 rfl rfl
theorem kw_291 : (Jvm.Cond.code ({ cls := "WaterTwice$Fraction", name := "part", desc := "(I)J" } : Jvm.MethodName) prog_4_method_7_code (2 : Nat) (Option.some Jvm.ClassFile.FieldType.long)) ∈ wsG := gm 291 rfl rfl
theorem kw_292 : (Jvm.Cond.methodLink "WaterTwiceLaw" (36 : Nat) ({ cls := "WaterTwice", name := "least", desc := "(I)J" } : Jvm.MethodName)) ∈ wsG := gm 292 rfl rfl
theorem kw_293 : (Jvm.Cond.instanceMethod ({ cls := "WaterTwice", name := "least", desc := "(I)J" } : Jvm.MethodName)) ∈ wsG := gm 293 rfl rfl
theorem kw_294 : (Jvm.Cond.selects "WaterTwice" ({ cls := "WaterTwice", name := "least", desc := "(I)J" } : Jvm.MethodName) ({ cls := "WaterTwice", name := "least", desc := "(I)J" } : Jvm.MethodName)) ∈ wsG := gm 294 rfl rfl
theorem kw_295 : (Jvm.Cond.code ({ cls := "WaterTwice", name := "least", desc := "(I)J" } : Jvm.MethodName) prog_1_method_7_code (3 : Nat) (Option.some Jvm.ClassFile.FieldType.long)) ∈ wsG := gm 295 rfl rfl
theorem kw_296 : (Jvm.Cond.methodLink "WaterTwice" (114 : Nat) ({ cls := "WaterTwice$Steps", name := "pinch", desc := "()I" } : Jvm.MethodName)) ∈ wsG := gm 296 rfl rfl
theorem kw_297 : (Jvm.Cond.instanceMethod ({ cls := "WaterTwice$Steps", name := "pinch", desc := "()I" } : Jvm.MethodName)) ∈ wsG := gm 297 rfl rfl
theorem kw_298 : (Jvm.Cond.selects "WaterTwice$Steps" ({ cls := "WaterTwice$Steps", name := "pinch", desc := "()I" } : Jvm.MethodName) ({ cls := "WaterTwice$Steps", name := "pinch", desc := "()I" } : Jvm.MethodName)) ∈ wsG := gm 298 rfl rfl
theorem kw_299 : (Jvm.Cond.code ({ cls := "WaterTwice$Steps", name := "pinch", desc := "()I" } : Jvm.MethodName) prog_7_method_7_code (5 : Nat) (Option.some Jvm.ClassFile.FieldType.int)) ∈ wsG := gm 299 rfl rfl
theorem kw_300 : (Jvm.Cond.methodLink "WaterTwice$Steps" (50 : Nat) ({ cls := "WaterTwice$Steps", name := "better", desc := "(IIJ)I" } : Jvm.MethodName)) ∈ wsG := gm 300 rfl rfl
theorem kt_301 : (Jvm.Cond.privateMethod ({ cls := "WaterTwice$Steps", name := "better", desc := "(IIJ)I" } : Jvm.MethodName)) ∈ lw_tbl := gt 301 rfl
theorem kw_302 : (Jvm.Cond.instanceMethod ({ cls := "WaterTwice$Steps", name := "better", desc := "(IIJ)I" } : Jvm.MethodName)) ∈ wsG := gm 302 rfl rfl
theorem kw_303 : (Jvm.Cond.code ({ cls := "WaterTwice$Steps", name := "better", desc := "(IIJ)I" } : Jvm.MethodName) prog_7_method_8_code (10 : Nat) (Option.some Jvm.ClassFile.FieldType.int)) ∈ wsG := gm 303 rfl rfl
theorem kw_304 : (Jvm.Cond.methodLink "WaterTwice$Steps" (54 : Nat) ({ cls := "java/lang/Long", name := "compare", desc := "(JJ)I" } : Jvm.MethodName)) ∈ wsG := gm 304 rfl rfl
theorem kw_305 : (Jvm.Cond.static ({ cls := "java/lang/Long", name := "compare", desc := "(JJ)I" } : Jvm.MethodName)) ∈ wsG := gm 305 rfl rfl
theorem kw_306 : (Jvm.Cond.code ({ cls := "java/lang/Long", name := "compare", desc := "(JJ)I" } : Jvm.MethodName) prog_11_method_42_code (4 : Nat) (Option.some Jvm.ClassFile.FieldType.int)) ∈ wsG := gm 306 rfl rfl
theorem kw_307 : (Jvm.Cond.methodLink "WaterTwice" (118 : Nat) ({ cls := "WaterTwice$Steps", name := "tellLeastFresh", desc := "(ILWaterTwice$Fraction;)V" } : Jvm.MethodName)) ∈ wsG := gm 307 rfl rfl
theorem kw_308 : (Jvm.Cond.instanceMethod ({ cls := "WaterTwice$Steps", name := "tellLeastFresh", desc := "(ILWaterTwice$Fraction;)V" } : Jvm.MethodName)) ∈ wsG := gm 308 rfl rfl
theorem kw_309 : (Jvm.Cond.selects "WaterTwice$Steps" ({ cls := "WaterTwice$Steps", name := "tellLeastFresh", desc := "(ILWaterTwice$Fraction;)V" } : Jvm.MethodName) ({ cls := "WaterTwice$Steps", name := "tellLeastFresh", desc := "(ILWaterTwice$Fraction;)V" } : Jvm.MethodName)) ∈ wsG := gm 309 rfl rfl
theorem kw_310 : (Jvm.Cond.code ({ cls := "WaterTwice$Steps", name := "tellLeastFresh", desc := "(ILWaterTwice$Fraction;)V" } : Jvm.MethodName) prog_7_method_6_code (3 : Nat) (Option.none : Option Jvm.ClassFile.FieldType)) ∈ wsG := gm 310 rfl rfl
theorem kw_311 : (Jvm.Cond.methodLink "WaterTwice$Steps" (42 : Nat) ({ cls := "WaterTwice$Steps", name := "tellDirtBelow", desc := "(ILWaterTwice$Fraction;)V" } : Jvm.MethodName)) ∈ wsG := gm 311 rfl rfl
theorem kw_312 : (Jvm.Cond.methodLink "WaterTwice$Steps" (46 : Nat) ({ cls := "WaterTwice$Fraction", name := "divideBy", desc := "(I)V" } : Jvm.MethodName)) ∈ wsG := gm 312 rfl rfl
theorem kw_313 : (Jvm.Cond.instanceMethod ({ cls := "WaterTwice$Fraction", name := "divideBy", desc := "(I)V" } : Jvm.MethodName)) ∈ wsG := gm 313 rfl rfl
theorem kw_314 : (Jvm.Cond.selects "WaterTwice$Fraction" ({ cls := "WaterTwice$Fraction", name := "divideBy", desc := "(I)V" } : Jvm.MethodName) ({ cls := "WaterTwice$Fraction", name := "divideBy", desc := "(I)V" } : Jvm.MethodName)) ∈ wsG := gm 314 rfl rfl
theorem kw_315 : (Jvm.Cond.code ({ cls := "WaterTwice$Fraction", name := "divideBy", desc := "(I)V" } : Jvm.MethodName) prog_4_method_5_code (2 : Nat) (Option.none : Option Jvm.ClassFile.FieldType)) ∈ wsG := gm 315 rfl rfl
theorem kw_316 : (Jvm.Cond.methodLink "WaterTwice$Fraction" (26 : Nat) ({ cls := "WaterTwice$Fraction", name := "become", desc := "(JJ)V" } : Jvm.MethodName)) ∈ wsG := gm 316 rfl rfl
theorem kw_317 : (Jvm.Cond.methodLink "WaterTwiceLaw" (41 : Nat) ({ cls := "WaterTwice", name := "fresh", desc := "(II)I" } : Jvm.MethodName)) ∈ wsG := gm 317 rfl rfl
theorem kw_318 : (Jvm.Cond.instanceMethod ({ cls := "WaterTwice", name := "fresh", desc := "(II)I" } : Jvm.MethodName)) ∈ wsG := gm 318 rfl rfl
theorem kw_319 : (Jvm.Cond.selects "WaterTwice" ({ cls := "WaterTwice", name := "fresh", desc := "(II)I" } : Jvm.MethodName) ({ cls := "WaterTwice", name := "fresh", desc := "(II)I" } : Jvm.MethodName)) ∈ wsG := gm 319 rfl rfl
theorem kw_320 : (Jvm.Cond.code ({ cls := "WaterTwice", name := "fresh", desc := "(II)I" } : Jvm.MethodName) prog_1_method_8_code (3 : Nat) (Option.some Jvm.ClassFile.FieldType.int)) ∈ wsG := gm 320 rfl rfl
theorem kw_321 : (Jvm.Cond.methodLink "WaterTwiceLaw" (45 : Nat) ({ cls := "WaterTwice", name := "pipe", desc := "(III)I" } : Jvm.MethodName)) ∈ wsG := gm 321 rfl rfl
theorem kw_322 : (Jvm.Cond.instanceMethod ({ cls := "WaterTwice", name := "pipe", desc := "(III)I" } : Jvm.MethodName)) ∈ wsG := gm 322 rfl rfl
theorem kw_323 : (Jvm.Cond.selects "WaterTwice" ({ cls := "WaterTwice", name := "pipe", desc := "(III)I" } : Jvm.MethodName) ({ cls := "WaterTwice", name := "pipe", desc := "(III)I" } : Jvm.MethodName)) ∈ wsG := gm 323 rfl rfl
theorem kw_324 : (Jvm.Cond.code ({ cls := "WaterTwice", name := "pipe", desc := "(III)I" } : Jvm.MethodName) prog_1_method_9_code (4 : Nat) (Option.some Jvm.ClassFile.FieldType.int)) ∈ wsG := gm 324 rfl rfl
theorem kw_325 : (Jvm.Cond.methodLink "WaterTwiceLaw" (49 : Nat) ({ cls := "WaterTwice", name := "water", desc := "(II)I" } : Jvm.MethodName)) ∈ wsG := gm 325 rfl rfl
theorem kw_326 : (Jvm.Cond.instanceMethod ({ cls := "WaterTwice", name := "water", desc := "(II)I" } : Jvm.MethodName)) ∈ wsG := gm 326 rfl rfl
theorem kw_327 : (Jvm.Cond.selects "WaterTwice" ({ cls := "WaterTwice", name := "water", desc := "(II)I" } : Jvm.MethodName) ({ cls := "WaterTwice", name := "water", desc := "(II)I" } : Jvm.MethodName)) ∈ wsG := gm 327 rfl rfl
theorem kw_328 : (Jvm.Cond.code ({ cls := "WaterTwice", name := "water", desc := "(II)I" } : Jvm.MethodName) prog_1_method_10_code (3 : Nat) (Option.some Jvm.ClassFile.FieldType.int)) ∈ wsG := gm 328 rfl rfl
theorem kw_329 : (Jvm.Cond.methodLink "WaterTwice" (128 : Nat) ({ cls := "WaterTwice$Design", name := "comingTo", desc := "(I)I" } : Jvm.MethodName)) ∈ wsG := gm 329 rfl rfl
theorem kw_330 : (Jvm.Cond.instanceMethod ({ cls := "WaterTwice$Design", name := "comingTo", desc := "(I)I" } : Jvm.MethodName)) ∈ wsG := gm 330 rfl rfl
theorem kw_331 : (Jvm.Cond.selects "WaterTwice$Design" ({ cls := "WaterTwice$Design", name := "comingTo", desc := "(I)I" } : Jvm.MethodName) ({ cls := "WaterTwice$Design", name := "comingTo", desc := "(I)I" } : Jvm.MethodName)) ∈ wsG := gm 331 rfl rfl
theorem kw_332 : (Jvm.Cond.code ({ cls := "WaterTwice$Design", name := "comingTo", desc := "(I)I" } : Jvm.MethodName) prog_3_method_2_code (4 : Nat) (Option.some Jvm.ClassFile.FieldType.int)) ∈ wsG := gm 332 rfl rfl
theorem kw_333 : (Jvm.Cond.methodLink "WaterTwice" (131 : Nat) ({ cls := "WaterTwice$Design", name := "goingFrom", desc := "(I)I" } : Jvm.MethodName)) ∈ wsG := gm 333 rfl rfl
theorem kw_334 : (Jvm.Cond.instanceMethod ({ cls := "WaterTwice$Design", name := "goingFrom", desc := "(I)I" } : Jvm.MethodName)) ∈ wsG := gm 334 rfl rfl
theorem kw_335 : (Jvm.Cond.selects "WaterTwice$Design" ({ cls := "WaterTwice$Design", name := "goingFrom", desc := "(I)I" } : Jvm.MethodName) ({ cls := "WaterTwice$Design", name := "goingFrom", desc := "(I)I" } : Jvm.MethodName)) ∈ wsG := gm 335 rfl rfl
theorem kw_336 : (Jvm.Cond.code ({ cls := "WaterTwice$Design", name := "goingFrom", desc := "(I)I" } : Jvm.MethodName) prog_3_method_3_code (4 : Nat) (Option.some Jvm.ClassFile.FieldType.int)) ∈ wsG := gm 336 rfl rfl
theorem kw_337 : (Jvm.Cond.methodLink "WaterTwiceLaw" (53 : Nat) ({ cls := "WaterTwice", name := "fails", desc := "()I" } : Jvm.MethodName)) ∈ wsG := gm 337 rfl rfl
theorem kw_338 : (Jvm.Cond.instanceMethod ({ cls := "WaterTwice", name := "fails", desc := "()I" } : Jvm.MethodName)) ∈ wsG := gm 338 rfl rfl
theorem kw_339 : (Jvm.Cond.selects "WaterTwice" ({ cls := "WaterTwice", name := "fails", desc := "()I" } : Jvm.MethodName) ({ cls := "WaterTwice", name := "fails", desc := "()I" } : Jvm.MethodName)) ∈ wsG := gm 339 rfl rfl
theorem kw_340 : (Jvm.Cond.code ({ cls := "WaterTwice", name := "fails", desc := "()I" } : Jvm.MethodName) prog_1_method_11_code (2 : Nat) (Option.some Jvm.ClassFile.FieldType.int)) ∈ wsG := gm 340 rfl rfl
theorem kw_341 : (Jvm.Cond.methodLink "WaterTwice" (134 : Nat) ({ cls := "WaterTwice$Design", name := "flawOfFlow", desc := "()I" } : Jvm.MethodName)) ∈ wsG := gm 341 rfl rfl
theorem kw_342 : (Jvm.Cond.instanceMethod ({ cls := "WaterTwice$Design", name := "flawOfFlow", desc := "()I" } : Jvm.MethodName)) ∈ wsG := gm 342 rfl rfl
theorem kw_343 : (Jvm.Cond.selects "WaterTwice$Design" ({ cls := "WaterTwice$Design", name := "flawOfFlow", desc := "()I" } : Jvm.MethodName) ({ cls := "WaterTwice$Design", name := "flawOfFlow", desc := "()I" } : Jvm.MethodName)) ∈ wsG := gm 343 rfl rfl
theorem kw_344 : (Jvm.Cond.code ({ cls := "WaterTwice$Design", name := "flawOfFlow", desc := "()I" } : Jvm.MethodName) prog_3_method_6_code (2 : Nat) (Option.some Jvm.ClassFile.FieldType.int)) ∈ wsG := gm 344 rfl rfl
theorem kw_345 : (Jvm.Cond.methodLink "WaterTwice$Design" (50 : Nat) ({ cls := "WaterTwice$Design", name := "comingTo", desc := "(I)I" } : Jvm.MethodName)) ∈ wsG := gm 345 rfl rfl
theorem kw_346 : (Jvm.Cond.methodLink "WaterTwice$Design" (54 : Nat) ({ cls := "WaterTwice$Design", name := "goingFrom", desc := "(I)I" } : Jvm.MethodName)) ∈ wsG := gm 346 rfl rfl
theorem kw_347 : (Jvm.Cond.methodLink "WaterTwice$Design" (57 : Nat) ({ cls := "WaterTwice$Design", name := "takeInOrder", desc := "()V" } : Jvm.MethodName)) ∈ wsG := gm 347 rfl rfl
theorem kt_348 : (Jvm.Cond.privateMethod ({ cls := "WaterTwice$Design", name := "takeInOrder", desc := "()V" } : Jvm.MethodName)) ∈ lw_tbl := gt 348 rfl
theorem kw_349 : (Jvm.Cond.instanceMethod ({ cls := "WaterTwice$Design", name := "takeInOrder", desc := "()V" } : Jvm.MethodName)) ∈ wsG := gm 349 rfl rfl
theorem kw_350 : (Jvm.Cond.code ({ cls := "WaterTwice$Design", name := "takeInOrder", desc := "()V" } : Jvm.MethodName) prog_3_method_10_code (4 : Nat) (Option.none : Option Jvm.ClassFile.FieldType)) ∈ wsG := gm 350 rfl rfl
theorem kw_351 : (Jvm.Cond.methodLink "WaterTwice$Design" (108 : Nat) ({ cls := "WaterTwice$Design", name := "hasOnlyOfTaken", desc := "(I)Z" } : Jvm.MethodName)) ∈ wsG := gm 351 rfl rfl
theorem kt_352 : (Jvm.Cond.privateMethod ({ cls := "WaterTwice$Design", name := "hasOnlyOfTaken", desc := "(I)Z" } : Jvm.MethodName)) ∈ lw_tbl := gt 352 rfl
theorem kw_353 : (Jvm.Cond.instanceMethod ({ cls := "WaterTwice$Design", name := "hasOnlyOfTaken", desc := "(I)Z" } : Jvm.MethodName)) ∈ wsG := gm 353 rfl rfl
theorem kw_354 : (Jvm.Cond.code ({ cls := "WaterTwice$Design", name := "hasOnlyOfTaken", desc := "(I)Z" } : Jvm.MethodName) prog_3_method_11_code (3 : Nat) (Option.some Jvm.ClassFile.FieldType.boolean)) ∈ wsG := gm 354 rfl rfl
theorem kw_355 : (Jvm.Cond.methodLink "WaterTwice" (137 : Nat) ({ cls := "WaterTwice$Design", name := "flawOfDirt", desc := "(LWaterTwice$Limits;)I" } : Jvm.MethodName)) ∈ wsG := gm 355 rfl rfl
theorem kw_356 : (Jvm.Cond.instanceMethod ({ cls := "WaterTwice$Design", name := "flawOfDirt", desc := "(LWaterTwice$Limits;)I" } : Jvm.MethodName)) ∈ wsG := gm 356 rfl rfl
theorem kw_357 : (Jvm.Cond.selects "WaterTwice$Design" ({ cls := "WaterTwice$Design", name := "flawOfDirt", desc := "(LWaterTwice$Limits;)I" } : Jvm.MethodName) ({ cls := "WaterTwice$Design", name := "flawOfDirt", desc := "(LWaterTwice$Limits;)I" } : Jvm.MethodName)) ∈ wsG := gm 357 rfl rfl
theorem kw_358 : (Jvm.Cond.code ({ cls := "WaterTwice$Design", name := "flawOfDirt", desc := "(LWaterTwice$Limits;)I" } : Jvm.MethodName) prog_3_method_7_code (3 : Nat) (Option.some Jvm.ClassFile.FieldType.int)) ∈ wsG := gm 358 rfl rfl
theorem kw_359 : (Jvm.Cond.methodLink "WaterTwice$Design" (60 : Nat) ({ cls := "WaterTwice$Design", name := "spreadDirt", desc := "()V" } : Jvm.MethodName)) ∈ wsG := gm 359 rfl rfl
theorem kw_360 : (Jvm.Cond.instanceMethod ({ cls := "WaterTwice$Design", name := "spreadDirt", desc := "()V" } : Jvm.MethodName)) ∈ wsG := gm 360 rfl rfl
theorem kw_361 : (Jvm.Cond.selects "WaterTwice$Design" ({ cls := "WaterTwice$Design", name := "spreadDirt", desc := "()V" } : Jvm.MethodName) ({ cls := "WaterTwice$Design", name := "spreadDirt", desc := "()V" } : Jvm.MethodName)) ∈ wsG := gm 361 rfl rfl
theorem kw_362 : (Jvm.Cond.code ({ cls := "WaterTwice$Design", name := "spreadDirt", desc := "()V" } : Jvm.MethodName) prog_3_method_8_code (2 : Nat) (Option.none : Option Jvm.ClassFile.FieldType)) ∈ wsG := gm 362 rfl rfl
theorem kw_363 : (Jvm.Cond.methodLink "WaterTwice$Design" (80 : Nat) ({ cls := "WaterTwice$Design", name := "soil", desc := "(I)V" } : Jvm.MethodName)) ∈ wsG := gm 363 rfl rfl
theorem kt_364 : (Jvm.Cond.privateMethod ({ cls := "WaterTwice$Design", name := "soil", desc := "(I)V" } : Jvm.MethodName)) ∈ lw_tbl := gt 364 rfl
theorem kw_365 : (Jvm.Cond.instanceMethod ({ cls := "WaterTwice$Design", name := "soil", desc := "(I)V" } : Jvm.MethodName)) ∈ wsG := gm 365 rfl rfl
theorem kw_366 : (Jvm.Cond.code ({ cls := "WaterTwice$Design", name := "soil", desc := "(I)V" } : Jvm.MethodName) prog_3_method_9_code (5 : Nat) (Option.none : Option Jvm.ClassFile.FieldType)) ∈ wsG := gm 366 rfl rfl
theorem kw_367 : (Jvm.Cond.methodLink "WaterTwice$Design" (84 : Nat) ({ cls := "WaterTwice$Fraction", name := "become", desc := "(JJ)V" } : Jvm.MethodName)) ∈ wsG := gm 367 rfl rfl
theorem kw_368 : (Jvm.Cond.methodLink "WaterTwice$Design" (88 : Nat) ({ cls := "WaterTwice$Fraction", name := "addTimes", desc := "(LWaterTwice$Fraction;I)V" } : Jvm.MethodName)) ∈ wsG := gm 368 rfl rfl
theorem kw_369 : (Jvm.Cond.instanceMethod ({ cls := "WaterTwice$Fraction", name := "addTimes", desc := "(LWaterTwice$Fraction;I)V" } : Jvm.MethodName)) ∈ wsG := gm 369 rfl rfl
theorem kw_370 : (Jvm.Cond.selects "WaterTwice$Fraction" ({ cls := "WaterTwice$Fraction", name := "addTimes", desc := "(LWaterTwice$Fraction;I)V" } : Jvm.MethodName) ({ cls := "WaterTwice$Fraction", name := "addTimes", desc := "(LWaterTwice$Fraction;I)V" } : Jvm.MethodName)) ∈ wsG := gm 370 rfl rfl
theorem kw_371 : (Jvm.Cond.code ({ cls := "WaterTwice$Fraction", name := "addTimes", desc := "(LWaterTwice$Fraction;I)V" } : Jvm.MethodName) prog_4_method_3_code (9 : Nat) (Option.none : Option Jvm.ClassFile.FieldType)) ∈ wsG := gm 371 rfl rfl
theorem kw_372 : (Jvm.Cond.methodLink "WaterTwice$Design" (102 : Nat) ({ cls := "WaterTwice$Fraction", name := "addWhole", desc := "(I)V" } : Jvm.MethodName)) ∈ wsG := gm 372 rfl rfl
theorem kw_373 : (Jvm.Cond.instanceMethod ({ cls := "WaterTwice$Fraction", name := "addWhole", desc := "(I)V" } : Jvm.MethodName)) ∈ wsG := gm 373 rfl rfl
theorem kw_374 : (Jvm.Cond.selects "WaterTwice$Fraction" ({ cls := "WaterTwice$Fraction", name := "addWhole", desc := "(I)V" } : Jvm.MethodName) ({ cls := "WaterTwice$Fraction", name := "addWhole", desc := "(I)V" } : Jvm.MethodName)) ∈ wsG := gm 374 rfl rfl
theorem kw_375 : (Jvm.Cond.code ({ cls := "WaterTwice$Fraction", name := "addWhole", desc := "(I)V" } : Jvm.MethodName) prog_4_method_4_code (2 : Nat) (Option.none : Option Jvm.ClassFile.FieldType)) ∈ wsG := gm 375 rfl rfl
theorem kw_376 : (Jvm.Cond.methodLink "WaterTwice$Design" (105 : Nat) ({ cls := "WaterTwice$Fraction", name := "divideBy", desc := "(I)V" } : Jvm.MethodName)) ∈ wsG := gm 376 rfl rfl
theorem kw_377 : (Jvm.Cond.methodLink "WaterTwice$Design" (66 : Nat) ({ cls := "WaterTwice$Fraction", name := "isAbove", desc := "(I)Z" } : Jvm.MethodName)) ∈ wsG := gm 377 rfl rfl
theorem kw_378 : (Jvm.Cond.instanceMethod ({ cls := "WaterTwice$Fraction", name := "isAbove", desc := "(I)Z" } : Jvm.MethodName)) ∈ wsG := gm 378 rfl rfl
theorem kw_379 : (Jvm.Cond.selects "WaterTwice$Fraction" ({ cls := "WaterTwice$Fraction", name := "isAbove", desc := "(I)Z" } : Jvm.MethodName) ({ cls := "WaterTwice$Fraction", name := "isAbove", desc := "(I)Z" } : Jvm.MethodName)) ∈ wsG := gm 379 rfl rfl
theorem kw_380 : (Jvm.Cond.code ({ cls := "WaterTwice$Fraction", name := "isAbove", desc := "(I)Z" } : Jvm.MethodName) prog_4_method_6_code (2 : Nat) (Option.some Jvm.ClassFile.FieldType.boolean)) ∈ wsG := gm 380 rfl rfl
theorem kw_381 : (Jvm.Cond.methodLink "WaterTwice$Design" (70 : Nat) ({ cls := "WaterTwice$Limits", name := "atHand", desc := "()I" } : Jvm.MethodName)) ∈ wsG := gm 381 rfl rfl
theorem kw_382 : (Jvm.Cond.instanceMethod ({ cls := "WaterTwice$Limits", name := "atHand", desc := "()I" } : Jvm.MethodName)) ∈ wsG := gm 382 rfl rfl
theorem kw_383 : (Jvm.Cond.selects "WaterTwice$Limits" ({ cls := "WaterTwice$Limits", name := "atHand", desc := "()I" } : Jvm.MethodName) ({ cls := "WaterTwice$Limits", name := "atHand", desc := "()I" } : Jvm.MethodName)) ∈ wsG := gm 383 rfl rfl
theorem kw_384 : (Jvm.Cond.code ({ cls := "WaterTwice$Limits", name := "atHand", desc := "()I" } : Jvm.MethodName) prog_5_method_4_code (1 : Nat) (Option.some Jvm.ClassFile.FieldType.int)) ∈ wsG := gm 384 rfl rfl
theorem kw_385 : (Jvm.Cond.methodLink "WaterTwice$Design" (76 : Nat) ({ cls := "WaterTwice$Limits", name := "by", desc := "(II)I" } : Jvm.MethodName)) ∈ wsG := gm 385 rfl rfl
theorem kw_386 : (Jvm.Cond.methodLink "WaterTwiceLaw" (58 : Nat) ({ cls := "WaterTwice", name := "at", desc := "(II)J" } : Jvm.MethodName)) ∈ wsG := gm 386 rfl rfl
theorem kw_387 : (Jvm.Cond.instanceMethod ({ cls := "WaterTwice", name := "at", desc := "(II)J" } : Jvm.MethodName)) ∈ wsG := gm 387 rfl rfl
theorem kw_388 : (Jvm.Cond.selects "WaterTwice" ({ cls := "WaterTwice", name := "at", desc := "(II)J" } : Jvm.MethodName) ({ cls := "WaterTwice", name := "at", desc := "(II)J" } : Jvm.MethodName)) ∈ wsG := gm 388 rfl rfl
theorem kw_389 : (Jvm.Cond.code ({ cls := "WaterTwice", name := "at", desc := "(II)J" } : Jvm.MethodName) prog_1_method_12_code (3 : Nat) (Option.some Jvm.ClassFile.FieldType.long)) ∈ wsG := gm 389 rfl rfl
theorem kw_390 : (Jvm.Cond.constantLong "WaterTwice" (141 : Nat) (-2 : Int64)) ∈ wsG := gm 390 rfl rfl
theorem kw_391 : (Jvm.Cond.methodLink "WaterTwice" (143 : Nat) ({ cls := "WaterTwice$Design", name := "spreadDirt", desc := "()V" } : Jvm.MethodName)) ∈ wsG := gm 391 rfl rfl
theorem kw_392 : (Jvm.Cond.methodLink "WaterTwiceLaw" (62 : Nat) ({ cls := "WaterTwice", name := "hit", desc := "(III)I" } : Jvm.MethodName)) ∈ wsG := gm 392 rfl rfl
theorem kw_393 : (Jvm.Cond.instanceMethod ({ cls := "WaterTwice", name := "hit", desc := "(III)I" } : Jvm.MethodName)) ∈ wsG := gm 393 rfl rfl
theorem kw_394 : (Jvm.Cond.selects "WaterTwice" ({ cls := "WaterTwice", name := "hit", desc := "(III)I" } : Jvm.MethodName) ({ cls := "WaterTwice", name := "hit", desc := "(III)I" } : Jvm.MethodName)) ∈ wsG := gm 394 rfl rfl
theorem kw_395 : (Jvm.Cond.code ({ cls := "WaterTwice", name := "hit", desc := "(III)I" } : Jvm.MethodName) prog_1_method_13_code (4 : Nat) (Option.some Jvm.ClassFile.FieldType.int)) ∈ wsG := gm 395 rfl rfl
theorem kw_396 : (Jvm.Cond.methodLink "WaterTwice" (150 : Nat) ({ cls := "WaterTwice$Design", name := "spreadUpset", desc := "(II)V" } : Jvm.MethodName)) ∈ wsG := gm 396 rfl rfl
theorem kw_397 : (Jvm.Cond.instanceMethod ({ cls := "WaterTwice$Design", name := "spreadUpset", desc := "(II)V" } : Jvm.MethodName)) ∈ wsG := gm 397 rfl rfl
theorem kw_398 : (Jvm.Cond.selects "WaterTwice$Design" ({ cls := "WaterTwice$Design", name := "spreadUpset", desc := "(II)V" } : Jvm.MethodName) ({ cls := "WaterTwice$Design", name := "spreadUpset", desc := "(II)V" } : Jvm.MethodName)) ∈ wsG := gm 398 rfl rfl
theorem kw_399 : (Jvm.Cond.code ({ cls := "WaterTwice$Design", name := "spreadUpset", desc := "(II)V" } : Jvm.MethodName) prog_3_method_12_code (5 : Nat) (Option.none : Option Jvm.ClassFile.FieldType)) ∈ wsG := gm 399 rfl rfl
set_option maxRecDepth 20000 in
theorem kw_400 : (Jvm.Cond.methodLink "WaterTwice$Design" (111 : Nat) ({ cls := "WaterTwice$Design", name := "hitBehindOthers", desc := "(I)I" } : Jvm.MethodName)) ∈ wsG := gm 400 rfl rfl
set_option maxRecDepth 20000 in
theorem kt_401 : (Jvm.Cond.privateMethod ({ cls := "WaterTwice$Design", name := "hitBehindOthers", desc := "(I)I" } : Jvm.MethodName)) ∈ lw_tbl := gt 401 rfl
set_option maxRecDepth 20000 in
theorem kw_402 : (Jvm.Cond.instanceMethod ({ cls := "WaterTwice$Design", name := "hitBehindOthers", desc := "(I)I" } : Jvm.MethodName)) ∈ wsG := gm 402 rfl rfl
set_option maxRecDepth 20000 in
theorem kw_403 : (Jvm.Cond.code ({ cls := "WaterTwice$Design", name := "hitBehindOthers", desc := "(I)I" } : Jvm.MethodName) prog_3_method_13_code (4 : Nat) (Option.some Jvm.ClassFile.FieldType.int)) ∈ wsG := gm 403 rfl rfl
set_option maxRecDepth 20000 in
theorem kw_404 : (Jvm.Cond.methodLink "WaterTwiceLaw" (66 : Nat) ({ cls := "WaterTwice", name := "steady", desc := "(IIIII)I" } : Jvm.MethodName)) ∈ wsG := gm 404 rfl rfl
set_option maxRecDepth 20000 in
theorem kw_405 : (Jvm.Cond.instanceMethod ({ cls := "WaterTwice", name := "steady", desc := "(IIIII)I" } : Jvm.MethodName)) ∈ wsG := gm 405 rfl rfl
set_option maxRecDepth 20000 in
theorem kw_406 : (Jvm.Cond.selects "WaterTwice" ({ cls := "WaterTwice", name := "steady", desc := "(IIIII)I" } : Jvm.MethodName) ({ cls := "WaterTwice", name := "steady", desc := "(IIIII)I" } : Jvm.MethodName)) ∈ wsG := gm 406 rfl rfl
set_option maxRecDepth 20000 in
theorem kw_407 : (Jvm.Cond.code ({ cls := "WaterTwice", name := "steady", desc := "(IIIII)I" } : Jvm.MethodName) prog_1_method_14_code (6 : Nat) (Option.some Jvm.ClassFile.FieldType.int)) ∈ wsG := gm 407 rfl rfl
set_option maxRecDepth 20000 in
theorem kw_408 : (Jvm.Cond.constant "WaterTwice" (159 : Nat) (1000000 : Int32)) ∈ wsG := gm 408 rfl rfl
set_option maxRecDepth 20000 in
theorem kw_409 : (Jvm.Cond.methodLink "WaterTwice" (160 : Nat) ({ cls := "WaterTwice$Basin", name := "tellSteady", desc := "(IIIIZ)I" } : Jvm.MethodName)) ∈ wsG := gm 409 rfl rfl
set_option maxRecDepth 20000 in
theorem kw_410 : (Jvm.Cond.static ({ cls := "WaterTwice$Basin", name := "tellSteady", desc := "(IIIIZ)I" } : Jvm.MethodName)) ∈ wsG := gm 410 rfl rfl
set_option maxRecDepth 20000 in
theorem kw_411 : (Jvm.Cond.code ({ cls := "WaterTwice$Basin", name := "tellSteady", desc := "(IIIIZ)I" } : Jvm.MethodName) prog_2_method_2_code (10 : Nat) (Option.some Jvm.ClassFile.FieldType.int)) ∈ wsG := gm 411 rfl rfl
set_option maxRecDepth 20000 in
theorem kw_412 : (Jvm.Cond.methodLink "WaterTwice$Basin" (9 : Nat) ({ cls := "WaterTwice$Basin", name := "behindAnHour", desc := "(JIII)J" } : Jvm.MethodName)) ∈ wsG := gm 412 rfl rfl
set_option maxRecDepth 20000 in
theorem kw_413 : (Jvm.Cond.static ({ cls := "WaterTwice$Basin", name := "behindAnHour", desc := "(JIII)J" } : Jvm.MethodName)) ∈ wsG := gm 413 rfl rfl
set_option maxRecDepth 20000 in
theorem kw_414 : (Jvm.Cond.code ({ cls := "WaterTwice$Basin", name := "behindAnHour", desc := "(JIII)J" } : Jvm.MethodName) prog_2_method_3_code (7 : Nat) (Option.some Jvm.ClassFile.FieldType.long)) ∈ wsG := gm 414 rfl rfl
set_option maxRecDepth 20000 in
theorem kw_415 : (Jvm.Cond.methodLink "WaterTwiceLaw" (71 : Nat) ({ cls := "WaterTwice", name := "store", desc := "(III)I" } : Jvm.MethodName)) ∈ wsG := gm 415 rfl rfl
set_option maxRecDepth 20000 in
theorem kw_416 : (Jvm.Cond.instanceMethod ({ cls := "WaterTwice", name := "store", desc := "(III)I" } : Jvm.MethodName)) ∈ wsG := gm 416 rfl rfl
set_option maxRecDepth 20000 in
theorem kw_417 : (Jvm.Cond.selects "WaterTwice" ({ cls := "WaterTwice", name := "store", desc := "(III)I" } : Jvm.MethodName) ({ cls := "WaterTwice", name := "store", desc := "(III)I" } : Jvm.MethodName)) ∈ wsG := gm 417 rfl rfl
set_option maxRecDepth 20000 in
theorem kw_418 : (Jvm.Cond.code ({ cls := "WaterTwice", name := "store", desc := "(III)I" } : Jvm.MethodName) prog_1_method_15_code (4 : Nat) (Option.some Jvm.ClassFile.FieldType.int)) ∈ wsG := gm 418 rfl rfl
set_option maxRecDepth 20000 in
theorem kw_419 : (Jvm.Cond.methodLink "WaterTwiceLaw" (75 : Nat) ({ cls := "WaterTwice", name := "room", desc := "(I)I" } : Jvm.MethodName)) ∈ wsG := gm 419 rfl rfl
set_option maxRecDepth 20000 in
theorem kw_420 : (Jvm.Cond.instanceMethod ({ cls := "WaterTwice", name := "room", desc := "(I)I" } : Jvm.MethodName)) ∈ wsG := gm 420 rfl rfl
set_option maxRecDepth 20000 in
theorem kw_421 : (Jvm.Cond.selects "WaterTwice" ({ cls := "WaterTwice", name := "room", desc := "(I)I" } : Jvm.MethodName) ({ cls := "WaterTwice", name := "room", desc := "(I)I" } : Jvm.MethodName)) ∈ wsG := gm 421 rfl rfl
set_option maxRecDepth 20000 in
theorem kw_422 : (Jvm.Cond.code ({ cls := "WaterTwice", name := "room", desc := "(I)I" } : Jvm.MethodName) prog_1_method_16_code (3 : Nat) (Option.some Jvm.ClassFile.FieldType.int)) ∈ wsG := gm 422 rfl rfl
set_option maxRecDepth 20000 in
theorem kw_423 : (Jvm.Cond.methodLink "WaterTwice" (170 : Nat) ({ cls := "WaterTwice$Store", name := "leastBegun", desc := "()I" } : Jvm.MethodName)) ∈ wsG := gm 423 rfl rfl
set_option maxRecDepth 20000 in
theorem kw_424 : (Jvm.Cond.instanceMethod ({ cls := "WaterTwice$Store", name := "leastBegun", desc := "()I" } : Jvm.MethodName)) ∈ wsG := gm 424 rfl rfl
set_option maxRecDepth 20000 in
theorem kw_425 : (Jvm.Cond.selects "WaterTwice$Store" ({ cls := "WaterTwice$Store", name := "leastBegun", desc := "()I" } : Jvm.MethodName) ({ cls := "WaterTwice$Store", name := "leastBegun", desc := "()I" } : Jvm.MethodName)) ∈ wsG := gm 425 rfl rfl
set_option maxRecDepth 20000 in
theorem kw_426 : (Jvm.Cond.code ({ cls := "WaterTwice$Store", name := "leastBegun", desc := "()I" } : Jvm.MethodName) prog_8_method_2_code (4 : Nat) (Option.some Jvm.ClassFile.FieldType.int)) ∈ wsG := gm 426 rfl rfl
set_option maxRecDepth 20000 in
theorem kw_427 : (Jvm.Cond.methodLink "WaterTwice$Store" (16 : Nat) ({ cls := "java/lang/Math", name := "min", desc := "(II)I" } : Jvm.MethodName)) ∈ wsG := gm 427 rfl rfl
set_option maxRecDepth 20000 in
theorem kw_428 : (Jvm.Cond.methodLink "WaterTwice" (173 : Nat) ({ cls := "WaterTwice$Store", name := "mostHeld", desc := "(I)I" } : Jvm.MethodName)) ∈ wsG := gm 428 rfl rfl
set_option maxRecDepth 20000 in
theorem kw_429 : (Jvm.Cond.instanceMethod ({ cls := "WaterTwice$Store", name := "mostHeld", desc := "(I)I" } : Jvm.MethodName)) ∈ wsG := gm 429 rfl rfl
set_option maxRecDepth 20000 in
theorem kw_430 : (Jvm.Cond.selects "WaterTwice$Store" ({ cls := "WaterTwice$Store", name := "mostHeld", desc := "(I)I" } : Jvm.MethodName) ({ cls := "WaterTwice$Store", name := "mostHeld", desc := "(I)I" } : Jvm.MethodName)) ∈ wsG := gm 430 rfl rfl
set_option maxRecDepth 20000 in
theorem kw_431 : (Jvm.Cond.code ({ cls := "WaterTwice$Store", name := "mostHeld", desc := "(I)I" } : Jvm.MethodName) prog_8_method_3_code (5 : Nat) (Option.some Jvm.ClassFile.FieldType.int)) ∈ wsG := gm 431 rfl rfl
set_option maxRecDepth 20000 in
theorem kw_432 : (Jvm.Cond.methodLink "WaterTwice$Store" (22 : Nat) ({ cls := "java/lang/Math", name := "max", desc := "(II)I" } : Jvm.MethodName)) ∈ wsG := gm 432 rfl rfl
set_option maxRecDepth 20000 in
theorem kw_433 : (Jvm.Cond.methodLink "WaterTwiceLaw" (80 : Nat) ({ cls := "WaterTwice", name := "meter", desc := "(I)I" } : Jvm.MethodName)) ∈ wsG := gm 433 rfl rfl
set_option maxRecDepth 20000 in
theorem kw_434 : (Jvm.Cond.instanceMethod ({ cls := "WaterTwice", name := "meter", desc := "(I)I" } : Jvm.MethodName)) ∈ wsG := gm 434 rfl rfl
set_option maxRecDepth 20000 in
theorem kw_435 : (Jvm.Cond.selects "WaterTwice" ({ cls := "WaterTwice", name := "meter", desc := "(I)I" } : Jvm.MethodName) ({ cls := "WaterTwice", name := "meter", desc := "(I)I" } : Jvm.MethodName)) ∈ wsG := gm 435 rfl rfl
set_option maxRecDepth 20000 in
theorem kw_436 : (Jvm.Cond.code ({ cls := "WaterTwice", name := "meter", desc := "(I)I" } : Jvm.MethodName) prog_1_method_17_code (2 : Nat) (Option.some Jvm.ClassFile.FieldType.int)) ∈ wsG := gm 436 rfl rfl
set_option maxRecDepth 20000 in
theorem kw_437 : (Jvm.Cond.methodLink "WaterTwice" (176 : Nat) ({ cls := "WaterTwice$Meters", name := "isFull", desc := "()Z" } : Jvm.MethodName)) ∈ wsG := gm 437 rfl rfl
set_option maxRecDepth 20000 in
theorem kw_438 : (Jvm.Cond.instanceMethod ({ cls := "WaterTwice$Meters", name := "isFull", desc := "()Z" } : Jvm.MethodName)) ∈ wsG := gm 438 rfl rfl
set_option maxRecDepth 20000 in
theorem kw_439 : (Jvm.Cond.selects "WaterTwice$Meters" ({ cls := "WaterTwice$Meters", name := "isFull", desc := "()Z" } : Jvm.MethodName) ({ cls := "WaterTwice$Meters", name := "isFull", desc := "()Z" } : Jvm.MethodName)) ∈ wsG := gm 439 rfl rfl
set_option maxRecDepth 20000 in
theorem kw_440 : (Jvm.Cond.code ({ cls := "WaterTwice$Meters", name := "isFull", desc := "()Z" } : Jvm.MethodName) prog_6_method_3_code (1 : Nat) (Option.some Jvm.ClassFile.FieldType.boolean)) ∈ wsG := gm 440 rfl rfl
set_option maxRecDepth 20000 in
theorem kw_441 : (Jvm.Cond.methodLink "WaterTwice" (177 : Nat) ({ cls := "WaterTwice$Meters", name := "append", desc := "(I)I" } : Jvm.MethodName)) ∈ wsG := gm 441 rfl rfl
set_option maxRecDepth 20000 in
theorem kw_442 : (Jvm.Cond.instanceMethod ({ cls := "WaterTwice$Meters", name := "append", desc := "(I)I" } : Jvm.MethodName)) ∈ wsG := gm 442 rfl rfl
set_option maxRecDepth 20000 in
theorem kw_443 : (Jvm.Cond.selects "WaterTwice$Meters" ({ cls := "WaterTwice$Meters", name := "append", desc := "(I)I" } : Jvm.MethodName) ({ cls := "WaterTwice$Meters", name := "append", desc := "(I)I" } : Jvm.MethodName)) ∈ wsG := gm 443 rfl rfl
set_option maxRecDepth 20000 in
theorem kw_444 : (Jvm.Cond.code ({ cls := "WaterTwice$Meters", name := "append", desc := "(I)I" } : Jvm.MethodName) prog_6_method_4_code (3 : Nat) (Option.some Jvm.ClassFile.FieldType.int)) ∈ wsG := gm 444 rfl rfl
set_option maxRecDepth 20000 in
theorem kw_445 : (Jvm.Cond.methodLink "WaterTwiceLaw" (84 : Nat) ({ cls := "WaterTwice", name := "read", desc := "(II)I" } : Jvm.MethodName)) ∈ wsG := gm 445 rfl rfl
set_option maxRecDepth 20000 in
theorem kw_446 : (Jvm.Cond.instanceMethod ({ cls := "WaterTwice", name := "read", desc := "(II)I" } : Jvm.MethodName)) ∈ wsG := gm 446 rfl rfl
set_option maxRecDepth 20000 in
theorem kw_447 : (Jvm.Cond.selects "WaterTwice" ({ cls := "WaterTwice", name := "read", desc := "(II)I" } : Jvm.MethodName) ({ cls := "WaterTwice", name := "read", desc := "(II)I" } : Jvm.MethodName)) ∈ wsG := gm 447 rfl rfl
set_option maxRecDepth 20000 in
theorem kw_448 : (Jvm.Cond.code ({ cls := "WaterTwice", name := "read", desc := "(II)I" } : Jvm.MethodName) prog_1_method_18_code (3 : Nat) (Option.some Jvm.ClassFile.FieldType.int)) ∈ wsG := gm 448 rfl rfl
set_option maxRecDepth 20000 in
theorem kw_449 : (Jvm.Cond.methodLink "WaterTwice" (179 : Nat) ({ cls := "WaterTwice$Meters", name := "has", desc := "(I)Z" } : Jvm.MethodName)) ∈ wsG := gm 449 rfl rfl
set_option maxRecDepth 20000 in
theorem kw_450 : (Jvm.Cond.instanceMethod ({ cls := "WaterTwice$Meters", name := "has", desc := "(I)Z" } : Jvm.MethodName)) ∈ wsG := gm 450 rfl rfl
set_option maxRecDepth 20000 in
theorem kw_451 : (Jvm.Cond.selects "WaterTwice$Meters" ({ cls := "WaterTwice$Meters", name := "has", desc := "(I)Z" } : Jvm.MethodName) ({ cls := "WaterTwice$Meters", name := "has", desc := "(I)Z" } : Jvm.MethodName)) ∈ wsG := gm 451 rfl rfl
set_option maxRecDepth 20000 in
theorem kw_452 : (Jvm.Cond.code ({ cls := "WaterTwice$Meters", name := "has", desc := "(I)Z" } : Jvm.MethodName) prog_6_method_2_code (2 : Nat) (Option.some Jvm.ClassFile.FieldType.boolean)) ∈ wsG := gm 452 rfl rfl
set_option maxRecDepth 20000 in
theorem kw_453 : (Jvm.Cond.constant "WaterTwice" (180 : Nat) (100000 : Int32)) ∈ wsG := gm 453 rfl rfl
set_option maxRecDepth 20000 in
theorem kw_454 : (Jvm.Cond.methodLink "WaterTwiceLaw" (88 : Nat) ({ cls := "WaterTwice", name := "gap", desc := "(I)J" } : Jvm.MethodName)) ∈ wsG := gm 454 rfl rfl
set_option maxRecDepth 20000 in
theorem kw_455 : (Jvm.Cond.instanceMethod ({ cls := "WaterTwice", name := "gap", desc := "(I)J" } : Jvm.MethodName)) ∈ wsG := gm 455 rfl rfl
set_option maxRecDepth 20000 in
theorem kw_456 : (Jvm.Cond.selects "WaterTwice" ({ cls := "WaterTwice", name := "gap", desc := "(I)J" } : Jvm.MethodName) ({ cls := "WaterTwice", name := "gap", desc := "(I)J" } : Jvm.MethodName)) ∈ wsG := gm 456 rfl rfl
set_option maxRecDepth 20000 in
theorem kw_457 : (Jvm.Cond.code ({ cls := "WaterTwice", name := "gap", desc := "(I)J" } : Jvm.MethodName) prog_1_method_19_code (2 : Nat) (Option.some Jvm.ClassFile.FieldType.long)) ∈ wsG := gm 457 rfl rfl
set_option maxRecDepth 20000 in
theorem kw_458 : (Jvm.Cond.methodLink "WaterTwice" (184 : Nat) ({ cls := "WaterTwice$Meters", name := "sum", desc := "()J" } : Jvm.MethodName)) ∈ wsG := gm 458 rfl rfl
set_option maxRecDepth 20000 in
theorem kw_459 : (Jvm.Cond.instanceMethod ({ cls := "WaterTwice$Meters", name := "sum", desc := "()J" } : Jvm.MethodName)) ∈ wsG := gm 459 rfl rfl
set_option maxRecDepth 20000 in
theorem kw_460 : (Jvm.Cond.selects "WaterTwice$Meters" ({ cls := "WaterTwice$Meters", name := "sum", desc := "()J" } : Jvm.MethodName) ({ cls := "WaterTwice$Meters", name := "sum", desc := "()J" } : Jvm.MethodName)) ∈ wsG := gm 460 rfl rfl
set_option maxRecDepth 20000 in
theorem kw_461 : (Jvm.Cond.code ({ cls := "WaterTwice$Meters", name := "sum", desc := "()J" } : Jvm.MethodName) prog_6_method_5_code (4 : Nat) (Option.some Jvm.ClassFile.FieldType.long)) ∈ wsG := gm 461 rfl rfl
set_option maxRecDepth 20000 in
theorem kw_462 : (Jvm.Cond.methodLink "WaterTwice" (188 : Nat) ({ cls := "WaterTwice$Meters", name := "missing", desc := "()I" } : Jvm.MethodName)) ∈ wsG := gm 462 rfl rfl
set_option maxRecDepth 20000 in
theorem kw_463 : (Jvm.Cond.instanceMethod ({ cls := "WaterTwice$Meters", name := "missing", desc := "()I" } : Jvm.MethodName)) ∈ wsG := gm 463 rfl rfl
set_option maxRecDepth 20000 in
theorem kw_464 : (Jvm.Cond.selects "WaterTwice$Meters" ({ cls := "WaterTwice$Meters", name := "missing", desc := "()I" } : Jvm.MethodName) ({ cls := "WaterTwice$Meters", name := "missing", desc := "()I" } : Jvm.MethodName)) ∈ wsG := gm 464 rfl rfl
set_option maxRecDepth 20000 in
theorem kw_465 : (Jvm.Cond.code ({ cls := "WaterTwice$Meters", name := "missing", desc := "()I" } : Jvm.MethodName) prog_6_method_6_code (3 : Nat) (Option.some Jvm.ClassFile.FieldType.int)) ∈ wsG := gm 465 rfl rfl
set_option maxRecDepth 20000 in
theorem kw_466 : (Jvm.Cond.methodLink "WaterTwice" (191 : Nat) ({ cls := "WaterTwice$Meters", name := "told", desc := "()I" } : Jvm.MethodName)) ∈ wsG := gm 466 rfl rfl
set_option maxRecDepth 20000 in
theorem kw_467 : (Jvm.Cond.instanceMethod ({ cls := "WaterTwice$Meters", name := "told", desc := "()I" } : Jvm.MethodName)) ∈ wsG := gm 467 rfl rfl
set_option maxRecDepth 20000 in
theorem kw_468 : (Jvm.Cond.selects "WaterTwice$Meters" ({ cls := "WaterTwice$Meters", name := "told", desc := "()I" } : Jvm.MethodName) ({ cls := "WaterTwice$Meters", name := "told", desc := "()I" } : Jvm.MethodName)) ∈ wsG := gm 468 rfl rfl
set_option maxRecDepth 20000 in
theorem kw_469 : (Jvm.Cond.code ({ cls := "WaterTwice$Meters", name := "told", desc := "()I" } : Jvm.MethodName) prog_6_method_7_code (2 : Nat) (Option.some Jvm.ClassFile.FieldType.int)) ∈ wsG := gm 469 rfl rfl
set_option maxRecDepth 20000 in
theorem kw_470 : (Jvm.Cond.methodLink "WaterTwice$Meters" (22 : Nat) ({ cls := "WaterTwice$Meters", name := "missing", desc := "()I" } : Jvm.MethodName)) ∈ wsG := gm 470 rfl rfl
set_option maxRecDepth 20000 in
theorem kw_471 : (Jvm.Cond.methodLink "WaterTwice" (194 : Nat) ({ cls := "WaterTwice$Meters", name := "toldAs", desc := "()J" } : Jvm.MethodName)) ∈ wsG := gm 471 rfl rfl
set_option maxRecDepth 20000 in
theorem kw_472 : (Jvm.Cond.instanceMethod ({ cls := "WaterTwice$Meters", name := "toldAs", desc := "()J" } : Jvm.MethodName)) ∈ wsG := gm 472 rfl rfl
set_option maxRecDepth 20000 in
theorem kw_473 : (Jvm.Cond.selects "WaterTwice$Meters" ({ cls := "WaterTwice$Meters", name := "toldAs", desc := "()J" } : Jvm.MethodName) ({ cls := "WaterTwice$Meters", name := "toldAs", desc := "()J" } : Jvm.MethodName)) ∈ wsG := gm 473 rfl rfl
set_option maxRecDepth 20000 in
theorem kw_474 : (Jvm.Cond.code ({ cls := "WaterTwice$Meters", name := "toldAs", desc := "()J" } : Jvm.MethodName) prog_6_method_8_code (2 : Nat) (Option.some Jvm.ClassFile.FieldType.long)) ∈ wsG := gm 474 rfl rfl
set_option maxRecDepth 20000 in
theorem kw_475 : (Jvm.Cond.methodLink "WaterTwice$Meters" (26 : Nat) ({ cls := "WaterTwice$Meters", name := "told", desc := "()I" } : Jvm.MethodName)) ∈ wsG := gm 475 rfl rfl
set_option maxRecDepth 20000 in
theorem kw_476 : (Jvm.Cond.constantLong "WaterTwice$Meters" (29 : Nat) (-1000000000000 : Int64)) ∈ wsG := gm 476 rfl rfl
set_option maxRecDepth 20000 in
theorem kw_477 : (Jvm.Cond.methodLink "WaterTwice$Meters" (31 : Nat) ({ cls := "WaterTwice$Meters", name := "sum", desc := "()J" } : Jvm.MethodName)) ∈ wsG := gm 477 rfl rfl
set_option maxRecDepth 20000 in
theorem kw_478 : (Jvm.Cond.constantLong "WaterTwice" (197 : Nat) (-1000000000000 : Int64)) ∈ wsG := gm 478 rfl rfl
set_option maxRecDepth 20000 in
theorem kw_479 : (Jvm.Cond.methodLink "WaterTwiceLaw" (92 : Nat) ({ cls := "WaterTwice", name := "mended", desc := "(II)J" } : Jvm.MethodName)) ∈ wsG := gm 479 rfl rfl
set_option maxRecDepth 20000 in
theorem kw_480 : (Jvm.Cond.instanceMethod ({ cls := "WaterTwice", name := "mended", desc := "(II)J" } : Jvm.MethodName)) ∈ wsG := gm 480 rfl rfl
set_option maxRecDepth 20000 in
theorem kw_481 : (Jvm.Cond.selects "WaterTwice" ({ cls := "WaterTwice", name := "mended", desc := "(II)J" } : Jvm.MethodName) ({ cls := "WaterTwice", name := "mended", desc := "(II)J" } : Jvm.MethodName)) ∈ wsG := gm 481 rfl rfl
set_option maxRecDepth 20000 in
theorem kw_482 : (Jvm.Cond.code ({ cls := "WaterTwice", name := "mended", desc := "(II)J" } : Jvm.MethodName) prog_1_method_20_code (3 : Nat) (Option.some Jvm.ClassFile.FieldType.long)) ∈ wsG := gm 482 rfl rfl
set_option maxRecDepth 20000 in
theorem kw_483 : (Jvm.Cond.constantLong "WaterTwice" (199 : Nat) (-999999999999 : Int64)) ∈ wsG := gm 483 rfl rfl
set_option maxRecDepth 20000 in
theorem kw_484 : (Jvm.Cond.methodLink "WaterTwice" (201 : Nat) ({ cls := "WaterTwice$Meters", name := "tellMended", desc := "(ILWaterTwice$Fraction;)V" } : Jvm.MethodName)) ∈ wsG := gm 484 rfl rfl
set_option maxRecDepth 20000 in
theorem kw_485 : (Jvm.Cond.instanceMethod ({ cls := "WaterTwice$Meters", name := "tellMended", desc := "(ILWaterTwice$Fraction;)V" } : Jvm.MethodName)) ∈ wsG := gm 485 rfl rfl
set_option maxRecDepth 20000 in
theorem kw_486 : (Jvm.Cond.selects "WaterTwice$Meters" ({ cls := "WaterTwice$Meters", name := "tellMended", desc := "(ILWaterTwice$Fraction;)V" } : Jvm.MethodName) ({ cls := "WaterTwice$Meters", name := "tellMended", desc := "(ILWaterTwice$Fraction;)V" } : Jvm.MethodName)) ∈ wsG := gm 486 rfl rfl
set_option maxRecDepth 20000 in
theorem kw_487 : (Jvm.Cond.code ({ cls := "WaterTwice$Meters", name := "tellMended", desc := "(ILWaterTwice$Fraction;)V" } : Jvm.MethodName) prog_6_method_9_code (3 : Nat) (Option.none : Option Jvm.ClassFile.FieldType)) ∈ wsG := gm 487 rfl rfl
set_option maxRecDepth 20000 in
theorem kw_488 : (Jvm.Cond.methodLink "WaterTwice$Meters" (35 : Nat) ({ cls := "WaterTwice$Fraction", name := "become", desc := "(JJ)V" } : Jvm.MethodName)) ∈ wsG := gm 488 rfl rfl
set_option maxRecDepth 20000 in
theorem kw_489 : (Jvm.Cond.methodLink "WaterTwiceLaw" (96 : Nat) ({ cls := "WaterTwice", name := "count", desc := "(I)I" } : Jvm.MethodName)) ∈ wsG := gm 489 rfl rfl
set_option maxRecDepth 20000 in
theorem kw_490 : (Jvm.Cond.instanceMethod ({ cls := "WaterTwice", name := "count", desc := "(I)I" } : Jvm.MethodName)) ∈ wsG := gm 490 rfl rfl
set_option maxRecDepth 20000 in
theorem kw_491 : (Jvm.Cond.selects "WaterTwice" ({ cls := "WaterTwice", name := "count", desc := "(I)I" } : Jvm.MethodName) ({ cls := "WaterTwice", name := "count", desc := "(I)I" } : Jvm.MethodName)) ∈ wsG := gm 491 rfl rfl
set_option maxRecDepth 20000 in
theorem kw_492 : (Jvm.Cond.code ({ cls := "WaterTwice", name := "count", desc := "(I)I" } : Jvm.MethodName) prog_1_method_21_code (2 : Nat) (Option.some Jvm.ClassFile.FieldType.int)) ∈ wsG := gm 492 rfl rfl
set_option maxRecDepth 20000 in
theorem kw_493 : (Jvm.Cond.methodLink "WaterTwice" (208 : Nat) ({ cls := "WaterTwice$Design", name := "allFresh", desc := "()I" } : Jvm.MethodName)) ∈ wsG := gm 493 rfl rfl
set_option maxRecDepth 20000 in
theorem kw_494 : (Jvm.Cond.instanceMethod ({ cls := "WaterTwice$Design", name := "allFresh", desc := "()I" } : Jvm.MethodName)) ∈ wsG := gm 494 rfl rfl
set_option maxRecDepth 20000 in
theorem kw_495 : (Jvm.Cond.selects "WaterTwice$Design" ({ cls := "WaterTwice$Design", name := "allFresh", desc := "()I" } : Jvm.MethodName) ({ cls := "WaterTwice$Design", name := "allFresh", desc := "()I" } : Jvm.MethodName)) ∈ wsG := gm 495 rfl rfl
set_option maxRecDepth 20000 in
theorem kw_496 : (Jvm.Cond.code ({ cls := "WaterTwice$Design", name := "allFresh", desc := "()I" } : Jvm.MethodName) prog_3_method_4_code (3 : Nat) (Option.some Jvm.ClassFile.FieldType.int)) ∈ wsG := gm 496 rfl rfl
set_option maxRecDepth 20000 in
theorem kw_497 : (Jvm.Cond.methodLink "WaterTwice" (211 : Nat) ({ cls := "WaterTwice$Design", name := "pipesInUse", desc := "()I" } : Jvm.MethodName)) ∈ wsG := gm 497 rfl rfl
set_option maxRecDepth 20000 in
theorem kw_498 : (Jvm.Cond.instanceMethod ({ cls := "WaterTwice$Design", name := "pipesInUse", desc := "()I" } : Jvm.MethodName)) ∈ wsG := gm 498 rfl rfl
set_option maxRecDepth 20000 in
theorem kw_499 : (Jvm.Cond.selects "WaterTwice$Design" ({ cls := "WaterTwice$Design", name := "pipesInUse", desc := "()I" } : Jvm.MethodName) ({ cls := "WaterTwice$Design", name := "pipesInUse", desc := "()I" } : Jvm.MethodName)) ∈ wsG := gm 499 rfl rfl
set_option maxRecDepth 20000 in
theorem kw_500 : (Jvm.Cond.code ({ cls := "WaterTwice$Design", name := "pipesInUse", desc := "()I" } : Jvm.MethodName) prog_3_method_5_code (4 : Nat) (Option.some Jvm.ClassFile.FieldType.int)) ∈ wsG := gm 500 rfl rfl
set_option maxRecDepth 20000 in
theorem kw_501 : (Jvm.Cond.methodLink "WaterTwiceLaw" (100 : Nat) ({ cls := "WaterTwice", name := "trace", desc := "()J" } : Jvm.MethodName)) ∈ wsG := gm 501 rfl rfl
set_option maxRecDepth 20000 in
theorem kw_502 : (Jvm.Cond.instanceMethod ({ cls := "WaterTwice", name := "trace", desc := "()J" } : Jvm.MethodName)) ∈ wsG := gm 502 rfl rfl
set_option maxRecDepth 20000 in
theorem kw_503 : (Jvm.Cond.selects "WaterTwice" ({ cls := "WaterTwice", name := "trace", desc := "()J" } : Jvm.MethodName) ({ cls := "WaterTwice", name := "trace", desc := "()J" } : Jvm.MethodName)) ∈ wsG := gm 503 rfl rfl
set_option maxRecDepth 20000 in
theorem kw_504 : (Jvm.Cond.code ({ cls := "WaterTwice", name := "trace", desc := "()J" } : Jvm.MethodName) prog_1_method_22_code (1 : Nat) (Option.some Jvm.ClassFile.FieldType.long)) ∈ wsG := gm 504 rfl rfl
set_option maxRecDepth 20000 in
theorem kw_505 : (Jvm.Cond.classLink "WaterTwiceLaw" (10 : Nat) "WaterTwiceModel") ∈ wsG := gm 505 rfl rfl
set_option maxRecDepth 20000 in
theorem kw_506 : (Jvm.Cond.instantiable "WaterTwiceModel" (20 : Nat)) ∈ wsG := gm 506 rfl rfl
set_option maxRecDepth 20000 in
theorem kw_507 : (Jvm.Cond.methodLink "WaterTwiceLaw" (12 : Nat) ({ cls := "WaterTwiceModel", name := "<init>", desc := "()V" } : Jvm.MethodName)) ∈ wsG := gm 507 rfl rfl
set_option maxRecDepth 20000 in
theorem kw_508 : (Jvm.Cond.instanceMethod ({ cls := "WaterTwiceModel", name := "<init>", desc := "()V" } : Jvm.MethodName)) ∈ wsG := gm 508 rfl rfl
set_option maxRecDepth 20000 in
theorem kw_509 : (Jvm.Cond.code ({ cls := "WaterTwiceModel", name := "<init>", desc := "()V" } : Jvm.MethodName) prog_10_method_1_code (1 : Nat) (Option.none : Option Jvm.ClassFile.FieldType)) ∈ wsG := gm 509 rfl rfl
set_option maxRecDepth 20000 in
theorem kw_510 : (Jvm.Cond.methodLink "WaterTwiceModel" (1 : Nat) ({ cls := "java/lang/Object", name := "<init>", desc := "()V" } : Jvm.MethodName)) ∈ wsG := gm 510 rfl rfl
set_option maxRecDepth 20000 in
theorem kw_511 : (Jvm.Cond.fieldLink "WaterTwiceModel" (60 : Nat) "WaterTwiceModel" "thrown" "I") ∈ wsG := gm 511 rfl rfl
set_option maxRecDepth 20000 in
theorem kw_512 : (Jvm.Cond.fieldLink "WaterTwiceModel" (88 : Nat) "WaterTwiceModel" "trace" "J") ∈ wsG := gm 512 rfl rfl
set_option maxRecDepth 20000 in
theorem kw_513 : (Jvm.Cond.fieldLink "WaterTwiceModel" (64 : Nat) "WaterTwiceModel" "steps" "I") ∈ wsG := gm 513 rfl rfl
set_option maxRecDepth 20000 in
theorem kw_514 : (Jvm.Cond.fieldLink "WaterTwiceModel" (7 : Nat) "WaterTwiceModel" "load" "[I") ∈ wsG := gm 514 rfl rfl
set_option maxRecDepth 20000 in
theorem kw_515 : (Jvm.Cond.fieldLink "WaterTwiceModel" (13 : Nat) "WaterTwiceModel" "in" "[I") ∈ wsG := gm 515 rfl rfl
set_option maxRecDepth 20000 in
theorem kw_516 : (Jvm.Cond.fieldLink "WaterTwiceModel" (16 : Nat) "WaterTwiceModel" "out" "[I") ∈ wsG := gm 516 rfl rfl
set_option maxRecDepth 20000 in
theorem kw_517 : (Jvm.Cond.fieldLink "WaterTwiceModel" (19 : Nat) "WaterTwiceModel" "lag" "[I") ∈ wsG := gm 517 rfl rfl
set_option maxRecDepth 20000 in
theorem kw_518 : (Jvm.Cond.fieldLink "WaterTwiceModel" (22 : Nat) "WaterTwiceModel" "rules" "[I") ∈ wsG := gm 518 rfl rfl
set_option maxRecDepth 20000 in
theorem kw_519 : (Jvm.Cond.fieldLink "WaterTwiceModel" (25 : Nat) "WaterTwiceModel" "fresh" "[I") ∈ wsG := gm 519 rfl rfl
set_option maxRecDepth 20000 in
theorem kw_520 : (Jvm.Cond.fieldLink "WaterTwiceModel" (28 : Nat) "WaterTwiceModel" "pipe" "[I") ∈ wsG := gm 520 rfl rfl
set_option maxRecDepth 20000 in
theorem kw_521 : (Jvm.Cond.fieldLink "WaterTwiceModel" (31 : Nat) "WaterTwiceModel" "upper" "[J") ∈ wsG := gm 521 rfl rfl
set_option maxRecDepth 20000 in
theorem kw_522 : (Jvm.Cond.fieldLink "WaterTwiceModel" (35 : Nat) "WaterTwiceModel" "lower" "[J") ∈ wsG := gm 522 rfl rfl
set_option maxRecDepth 20000 in
theorem kw_523 : (Jvm.Cond.fieldLink "WaterTwiceModel" (38 : Nat) "WaterTwiceModel" "comesUpper" "[J") ∈ wsG := gm 523 rfl rfl
set_option maxRecDepth 20000 in
theorem kw_524 : (Jvm.Cond.fieldLink "WaterTwiceModel" (41 : Nat) "WaterTwiceModel" "comesLower" "[J") ∈ wsG := gm 524 rfl rfl
set_option maxRecDepth 20000 in
theorem kw_525 : (Jvm.Cond.fieldLink "WaterTwiceModel" (44 : Nat) "WaterTwiceModel" "isTaken" "[Z") ∈ wsG := gm 525 rfl rfl
set_option maxRecDepth 20000 in
theorem kw_526 : (Jvm.Cond.fieldLink "WaterTwiceModel" (48 : Nat) "WaterTwiceModel" "hits" "[I") ∈ wsG := gm 526 rfl rfl
set_option maxRecDepth 20000 in
theorem kw_527 : (Jvm.Cond.fieldLink "WaterTwiceModel" (51 : Nat) "WaterTwiceModel" "store" "[I") ∈ wsG := gm 527 rfl rfl
set_option maxRecDepth 20000 in
theorem kw_528 : (Jvm.Cond.fieldLink "WaterTwiceModel" (143 : Nat) "WaterTwiceModel" "meters" "I") ∈ wsG := gm 528 rfl rfl
set_option maxRecDepth 20000 in
theorem kw_529 : (Jvm.Cond.fieldLink "WaterTwiceModel" (54 : Nat) "WaterTwiceModel" "sign" "[I") ∈ wsG := gm 529 rfl rfl
set_option maxRecDepth 20000 in
theorem kw_530 : (Jvm.Cond.fieldLink "WaterTwiceModel" (57 : Nat) "WaterTwiceModel" "reading" "[I") ∈ wsG := gm 530 rfl rfl
set_option maxRecDepth 20000 in
theorem kw_531 : (Jvm.Cond.lays "WaterTwiceModel" "WaterTwiceModel" "thrown" "I") ∈ wsG := gm 531 rfl rfl
set_option maxRecDepth 20000 in
theorem kt_532 : (Jvm.Cond.soleField "WaterTwiceModel" "thrown") ∈ lw_tbl := gt 532 rfl
set_option maxRecDepth 20000 in
theorem kw_533 : (Jvm.Cond.lays "WaterTwiceModel" "WaterTwiceModel" "trace" "J") ∈ wsG := gm 533 rfl rfl
set_option maxRecDepth 20000 in
theorem kt_534 : (Jvm.Cond.soleField "WaterTwiceModel" "trace") ∈ lw_tbl := gt 534 rfl
set_option maxRecDepth 20000 in
theorem kw_535 : (Jvm.Cond.lays "WaterTwiceModel" "WaterTwiceModel" "steps" "I") ∈ wsG := gm 535 rfl rfl
set_option maxRecDepth 20000 in
theorem kt_536 : (Jvm.Cond.soleField "WaterTwiceModel" "steps") ∈ lw_tbl := gt 536 rfl
set_option maxRecDepth 20000 in
theorem kw_537 : (Jvm.Cond.laysFinal "WaterTwiceModel" "WaterTwiceModel" "load" "[I") ∈ wsG := gm 537 rfl rfl
set_option maxRecDepth 20000 in
theorem kt_538 : (Jvm.Cond.soleField "WaterTwiceModel" "load") ∈ lw_tbl := gt 538 rfl
set_option maxRecDepth 20000 in
theorem kw_539 : (Jvm.Cond.laysFinal "WaterTwiceModel" "WaterTwiceModel" "in" "[I") ∈ wsG := gm 539 rfl rfl
set_option maxRecDepth 20000 in
theorem kt_540 : (Jvm.Cond.soleField "WaterTwiceModel" "in") ∈ lw_tbl := gt 540 rfl
set_option maxRecDepth 20000 in
theorem kw_541 : (Jvm.Cond.laysFinal "WaterTwiceModel" "WaterTwiceModel" "out" "[I") ∈ wsG := gm 541 rfl rfl
set_option maxRecDepth 20000 in
theorem kt_542 : (Jvm.Cond.soleField "WaterTwiceModel" "out") ∈ lw_tbl := gt 542 rfl
set_option maxRecDepth 20000 in
theorem kw_543 : (Jvm.Cond.laysFinal "WaterTwiceModel" "WaterTwiceModel" "lag" "[I") ∈ wsG := gm 543 rfl rfl
set_option maxRecDepth 20000 in
theorem kt_544 : (Jvm.Cond.soleField "WaterTwiceModel" "lag") ∈ lw_tbl := gt 544 rfl
set_option maxRecDepth 20000 in
theorem kw_545 : (Jvm.Cond.laysFinal "WaterTwiceModel" "WaterTwiceModel" "rules" "[I") ∈ wsG := gm 545 rfl rfl
set_option maxRecDepth 20000 in
theorem kt_546 : (Jvm.Cond.soleField "WaterTwiceModel" "rules") ∈ lw_tbl := gt 546 rfl
set_option maxRecDepth 20000 in
theorem kw_547 : (Jvm.Cond.laysFinal "WaterTwiceModel" "WaterTwiceModel" "fresh" "[I") ∈ wsG := gm 547 rfl rfl
set_option maxRecDepth 20000 in
theorem kt_548 : (Jvm.Cond.soleField "WaterTwiceModel" "fresh") ∈ lw_tbl := gt 548 rfl
set_option maxRecDepth 20000 in
theorem kw_549 : (Jvm.Cond.laysFinal "WaterTwiceModel" "WaterTwiceModel" "pipe" "[I") ∈ wsG := gm 549 rfl rfl
set_option maxRecDepth 20000 in
theorem kt_550 : (Jvm.Cond.soleField "WaterTwiceModel" "pipe") ∈ lw_tbl := gt 550 rfl
set_option maxRecDepth 20000 in
theorem kw_551 : (Jvm.Cond.laysFinal "WaterTwiceModel" "WaterTwiceModel" "upper" "[J") ∈ wsG := gm 551 rfl rfl
set_option maxRecDepth 20000 in
theorem kt_552 : (Jvm.Cond.soleField "WaterTwiceModel" "upper") ∈ lw_tbl := gt 552 rfl
set_option maxRecDepth 20000 in
theorem kw_553 : (Jvm.Cond.laysFinal "WaterTwiceModel" "WaterTwiceModel" "lower" "[J") ∈ wsG := gm 553 rfl rfl
set_option maxRecDepth 20000 in
theorem kt_554 : (Jvm.Cond.soleField "WaterTwiceModel" "lower") ∈ lw_tbl := gt 554 rfl
set_option maxRecDepth 20000 in
theorem kw_555 : (Jvm.Cond.laysFinal "WaterTwiceModel" "WaterTwiceModel" "comesUpper" "[J") ∈ wsG := gm 555 rfl rfl
set_option maxRecDepth 20000 in
theorem kt_556 : (Jvm.Cond.soleField "WaterTwiceModel" "comesUpper") ∈ lw_tbl := gt 556 rfl
set_option maxRecDepth 20000 in
theorem kw_557 : (Jvm.Cond.laysFinal "WaterTwiceModel" "WaterTwiceModel" "comesLower" "[J") ∈ wsG := gm 557 rfl rfl
set_option maxRecDepth 20000 in
theorem kt_558 : (Jvm.Cond.soleField "WaterTwiceModel" "comesLower") ∈ lw_tbl := gt 558 rfl
set_option maxRecDepth 20000 in
theorem kw_559 : (Jvm.Cond.laysFinal "WaterTwiceModel" "WaterTwiceModel" "isTaken" "[Z") ∈ wsG := gm 559 rfl rfl
set_option maxRecDepth 20000 in
theorem kt_560 : (Jvm.Cond.soleField "WaterTwiceModel" "isTaken") ∈ lw_tbl := gt 560 rfl
set_option maxRecDepth 20000 in
theorem kw_561 : (Jvm.Cond.laysFinal "WaterTwiceModel" "WaterTwiceModel" "hits" "[I") ∈ wsG := gm 561 rfl rfl
set_option maxRecDepth 20000 in
theorem kt_562 : (Jvm.Cond.soleField "WaterTwiceModel" "hits") ∈ lw_tbl := gt 562 rfl
set_option maxRecDepth 20000 in
theorem kw_563 : (Jvm.Cond.laysFinal "WaterTwiceModel" "WaterTwiceModel" "store" "[I") ∈ wsG := gm 563 rfl rfl
set_option maxRecDepth 20000 in
theorem kt_564 : (Jvm.Cond.soleField "WaterTwiceModel" "store") ∈ lw_tbl := gt 564 rfl
set_option maxRecDepth 20000 in
theorem kw_565 : (Jvm.Cond.lays "WaterTwiceModel" "WaterTwiceModel" "meters" "I") ∈ wsG := gm 565 rfl rfl
set_option maxRecDepth 20000 in
theorem kt_566 : (Jvm.Cond.soleField "WaterTwiceModel" "meters") ∈ lw_tbl := gt 566 rfl
set_option maxRecDepth 20000 in
theorem kw_567 : (Jvm.Cond.laysFinal "WaterTwiceModel" "WaterTwiceModel" "sign" "[I") ∈ wsG := gm 567 rfl rfl
set_option maxRecDepth 20000 in
theorem kt_568 : (Jvm.Cond.soleField "WaterTwiceModel" "sign") ∈ lw_tbl := gt 568 rfl
set_option maxRecDepth 20000 in
theorem kw_569 : (Jvm.Cond.laysFinal "WaterTwiceModel" "WaterTwiceModel" "reading" "[I") ∈ wsG := gm 569 rfl rfl
set_option maxRecDepth 20000 in
theorem kt_570 : (Jvm.Cond.soleField "WaterTwiceModel" "reading") ∈ lw_tbl := gt 570 rfl
set_option maxRecDepth 20000 in
theorem kt_571 : (Jvm.Cond.superclass "WaterTwiceModel" "java/lang/Object") ∈ lw_tbl := gt 571 rfl
set_option maxRecDepth 20000 in
theorem kw_572 : (Jvm.Cond.arrayClass Jvm.ClassFile.FieldType.long) ∈ wsG := gm 572 rfl rfl
set_option maxRecDepth 20000 in
theorem kw_573 : (Jvm.Cond.methodLink "WaterTwiceLaw" (17 : Nat) ({ cls := "WaterTwiceModel", name := "step", desc := "(III)I" } : Jvm.MethodName)) ∈ wsG := gm 573 rfl rfl
set_option maxRecDepth 20000 in
theorem kw_574 : (Jvm.Cond.instanceMethod ({ cls := "WaterTwiceModel", name := "step", desc := "(III)I" } : Jvm.MethodName)) ∈ wsG := gm 574 rfl rfl
set_option maxRecDepth 20000 in
theorem kw_575 : (Jvm.Cond.selects "WaterTwiceModel" ({ cls := "WaterTwiceModel", name := "step", desc := "(III)I" } : Jvm.MethodName) ({ cls := "WaterTwiceModel", name := "step", desc := "(III)I" } : Jvm.MethodName)) ∈ wsG := gm 575 rfl rfl
set_option maxRecDepth 20000 in
theorem kw_576 : (Jvm.Cond.code ({ cls := "WaterTwiceModel", name := "step", desc := "(III)I" } : Jvm.MethodName) prog_10_method_6_code (4 : Nat) (Option.some Jvm.ClassFile.FieldType.int)) ∈ wsG := gm 576 rfl rfl
set_option maxRecDepth 20000 in
theorem kw_577 : (Jvm.Cond.constantLong "WaterTwiceModel" (70 : Nat) (1000 : Int64)) ∈ wsG := gm 577 rfl rfl
set_option maxRecDepth 20000 in
theorem kw_578 : (Jvm.Cond.methodLink "WaterTwiceModel" (67 : Nat) ({ cls := "WaterTwiceModel", name := "in", desc := "(JJJ)Z" } : Jvm.MethodName)) ∈ wsG := gm 578 rfl rfl
set_option maxRecDepth 20000 in
theorem kw_579 : (Jvm.Cond.static ({ cls := "WaterTwiceModel", name := "in", desc := "(JJJ)Z" } : Jvm.MethodName)) ∈ wsG := gm 579 rfl rfl
set_option maxRecDepth 20000 in
theorem kw_580 : (Jvm.Cond.code ({ cls := "WaterTwiceModel", name := "in", desc := "(JJJ)Z" } : Jvm.MethodName) prog_10_method_3_code (6 : Nat) (Option.some Jvm.ClassFile.FieldType.boolean)) ∈ wsG := gm 580 rfl rfl
set_option maxRecDepth 20000 in
theorem kw_581 : (Jvm.Cond.constantLong "WaterTwiceModel" (72 : Nat) (400 : Int64)) ∈ wsG := gm 581 rfl rfl
set_option maxRecDepth 20000 in
theorem kw_582 : (Jvm.Cond.constantLong "WaterTwiceModel" (74 : Nat) (500 : Int64)) ∈ wsG := gm 582 rfl rfl
set_option maxRecDepth 20000 in
theorem kw_583 : (Jvm.Cond.methodLink "WaterTwiceLaw" (21 : Nat) ({ cls := "WaterTwiceModel", name := "change", desc := "(III)I" } : Jvm.MethodName)) ∈ wsG := gm 583 rfl rfl
set_option maxRecDepth 20000 in
theorem kw_584 : (Jvm.Cond.instanceMethod ({ cls := "WaterTwiceModel", name := "change", desc := "(III)I" } : Jvm.MethodName)) ∈ wsG := gm 584 rfl rfl
set_option maxRecDepth 20000 in
theorem kw_585 : (Jvm.Cond.selects "WaterTwiceModel" ({ cls := "WaterTwiceModel", name := "change", desc := "(III)I" } : Jvm.MethodName) ({ cls := "WaterTwiceModel", name := "change", desc := "(III)I" } : Jvm.MethodName)) ∈ wsG := gm 585 rfl rfl
set_option maxRecDepth 20000 in
theorem kw_586 : (Jvm.Cond.code ({ cls := "WaterTwiceModel", name := "change", desc := "(III)I" } : Jvm.MethodName) prog_10_method_7_code (5 : Nat) (Option.some Jvm.ClassFile.FieldType.int)) ∈ wsG := gm 586 rfl rfl
set_option maxRecDepth 20000 in
theorem kw_587 : (Jvm.Cond.methodLink "WaterTwiceModel" (76 : Nat) ({ cls := "WaterTwiceModel", name := "isStep", desc := "(I)Z" } : Jvm.MethodName)) ∈ wsG := gm 587 rfl rfl
set_option maxRecDepth 20000 in
theorem kt_588 : (Jvm.Cond.privateMethod ({ cls := "WaterTwiceModel", name := "isStep", desc := "(I)Z" } : Jvm.MethodName)) ∈ lw_tbl := gt 588 rfl
set_option maxRecDepth 20000 in
theorem kw_589 : (Jvm.Cond.instanceMethod ({ cls := "WaterTwiceModel", name := "isStep", desc := "(I)Z" } : Jvm.MethodName)) ∈ wsG := gm 589 rfl rfl
set_option maxRecDepth 20000 in
theorem kw_590 : (Jvm.Cond.code ({ cls := "WaterTwiceModel", name := "isStep", desc := "(I)Z" } : Jvm.MethodName) prog_10_method_5_code (2 : Nat) (Option.some Jvm.ClassFile.FieldType.boolean)) ∈ wsG := gm 590 rfl rfl
set_option maxRecDepth 20000 in
theorem kw_591 : (Jvm.Cond.constantLong "WaterTwiceModel" (80 : Nat) (9 : Int64)) ∈ wsG := gm 591 rfl rfl
set_option maxRecDepth 20000 in
theorem kw_592 : (Jvm.Cond.methodLink "WaterTwiceLaw" (26 : Nat) ({ cls := "WaterTwiceModel", name := "set", desc := "(II)I" } : Jvm.MethodName)) ∈ wsG := gm 592 rfl rfl
set_option maxRecDepth 20000 in
theorem kw_593 : (Jvm.Cond.instanceMethod ({ cls := "WaterTwiceModel", name := "set", desc := "(II)I" } : Jvm.MethodName)) ∈ wsG := gm 593 rfl rfl
set_option maxRecDepth 20000 in
theorem kw_594 : (Jvm.Cond.selects "WaterTwiceModel" ({ cls := "WaterTwiceModel", name := "set", desc := "(II)I" } : Jvm.MethodName) ({ cls := "WaterTwiceModel", name := "set", desc := "(II)I" } : Jvm.MethodName)) ∈ wsG := gm 594 rfl rfl
set_option maxRecDepth 20000 in
theorem kw_595 : (Jvm.Cond.code ({ cls := "WaterTwiceModel", name := "set", desc := "(II)I" } : Jvm.MethodName) prog_10_method_8_code (4 : Nat) (Option.some Jvm.ClassFile.FieldType.int)) ∈ wsG := gm 595 rfl rfl
set_option maxRecDepth 20000 in
theorem kw_596 : (Jvm.Cond.constantLong "WaterTwiceModel" (82 : Nat) (2 : Int64)) ∈ wsG := gm 596 rfl rfl
set_option maxRecDepth 20000 in
theorem kw_597 : (Jvm.Cond.constantLong "WaterTwiceModel" (84 : Nat) (100 : Int64)) ∈ wsG := gm 597 rfl rfl
set_option maxRecDepth 20000 in
theorem kw_598 : (Jvm.Cond.constantLong "WaterTwiceModel" (86 : Nat) (40 : Int64)) ∈ wsG := gm 598 rfl rfl
set_option maxRecDepth 20000 in
theorem kw_599 : (Jvm.Cond.methodLink "WaterTwiceLaw" (30 : Nat) ({ cls := "WaterTwiceModel", name := "limit", desc := "(II)I" } : Jvm.MethodName)) ∈ wsG := gm 599 rfl rfl
set_option maxRecDepth 20000 in
theorem kw_600 : (Jvm.Cond.instanceMethod ({ cls := "WaterTwiceModel", name := "limit", desc := "(II)I" } : Jvm.MethodName)) ∈ wsG := gm 600 rfl rfl
set_option maxRecDepth 20000 in
theorem kw_601 : (Jvm.Cond.selects "WaterTwiceModel" ({ cls := "WaterTwiceModel", name := "limit", desc := "(II)I" } : Jvm.MethodName) ({ cls := "WaterTwiceModel", name := "limit", desc := "(II)I" } : Jvm.MethodName)) ∈ wsG := gm 601 rfl rfl
set_option maxRecDepth 20000 in
theorem kw_602 : (Jvm.Cond.code ({ cls := "WaterTwiceModel", name := "limit", desc := "(II)I" } : Jvm.MethodName) prog_10_method_10_code (3 : Nat) (Option.some Jvm.ClassFile.FieldType.int)) ∈ wsG := gm 602 rfl rfl
set_option maxRecDepth 20000 in
theorem kw_603 : (Jvm.Cond.constantLong "WaterTwiceModel" (92 : Nat) (11 : Int64)) ∈ wsG := gm 603 rfl rfl
set_option maxRecDepth 20000 in
theorem kw_604 : (Jvm.Cond.constantLong "WaterTwiceModel" (94 : Nat) (111 : Int64)) ∈ wsG := gm 604 rfl rfl
set_option maxRecDepth 20000 in
theorem kw_605 : (Jvm.Cond.methodLink "WaterTwiceModel" (96 : Nat) ({ cls := "WaterTwiceModel", name := "limitOf", desc := "(II)I" } : Jvm.MethodName)) ∈ wsG := gm 605 rfl rfl
set_option maxRecDepth 20000 in
theorem kt_606 : (Jvm.Cond.privateMethod ({ cls := "WaterTwiceModel", name := "limitOf", desc := "(II)I" } : Jvm.MethodName)) ∈ lw_tbl := gt 606 rfl
set_option maxRecDepth 20000 in
theorem kw_607 : (Jvm.Cond.instanceMethod ({ cls := "WaterTwiceModel", name := "limitOf", desc := "(II)I" } : Jvm.MethodName)) ∈ wsG := gm 607 rfl rfl
set_option maxRecDepth 20000 in
theorem kw_608 : (Jvm.Cond.code ({ cls := "WaterTwiceModel", name := "limitOf", desc := "(II)I" } : Jvm.MethodName) prog_10_method_9_code (4 : Nat) (Option.some Jvm.ClassFile.FieldType.int)) ∈ wsG := gm 608 rfl rfl
set_option maxRecDepth 20000 in
theorem kw_609 : (Jvm.Cond.methodLink "WaterTwiceLaw" (35 : Nat) ({ cls := "WaterTwiceModel", name := "dirt", desc := "(II)J" } : Jvm.MethodName)) ∈ wsG := gm 609 rfl rfl
set_option maxRecDepth 20000 in
theorem kw_610 : (Jvm.Cond.instanceMethod ({ cls := "WaterTwiceModel", name := "dirt", desc := "(II)J" } : Jvm.MethodName)) ∈ wsG := gm 610 rfl rfl
set_option maxRecDepth 20000 in
theorem kw_611 : (Jvm.Cond.selects "WaterTwiceModel" ({ cls := "WaterTwiceModel", name := "dirt", desc := "(II)J" } : Jvm.MethodName) ({ cls := "WaterTwiceModel", name := "dirt", desc := "(II)J" } : Jvm.MethodName)) ∈ wsG := gm 611 rfl rfl
set_option maxRecDepth 20000 in
theorem kw_612 : (Jvm.Cond.code ({ cls := "WaterTwiceModel", name := "dirt", desc := "(II)J" } : Jvm.MethodName) prog_10_method_13_code (9 : Nat) (Option.some Jvm.ClassFile.FieldType.long)) ∈ wsG := gm 612 rfl rfl
set_option maxRecDepth 20000 in
theorem kw_613 : (Jvm.Cond.constantLong "WaterTwiceModel" (104 : Nat) (-1 : Int64)) ∈ wsG := gm 613 rfl rfl
set_option maxRecDepth 20000 in
theorem kw_614 : (Jvm.Cond.methodLink "WaterTwiceModel" (106 : Nat) ({ cls := "WaterTwiceModel", name := "below", desc := "()J" } : Jvm.MethodName)) ∈ wsG := gm 614 rfl rfl
set_option maxRecDepth 20000 in
theorem kt_615 : (Jvm.Cond.privateMethod ({ cls := "WaterTwiceModel", name := "below", desc := "()J" } : Jvm.MethodName)) ∈ lw_tbl := gt 615 rfl
set_option maxRecDepth 20000 in
theorem kw_616 : (Jvm.Cond.instanceMethod ({ cls := "WaterTwiceModel", name := "below", desc := "()J" } : Jvm.MethodName)) ∈ wsG := gm 616 rfl rfl
set_option maxRecDepth 20000 in
theorem kw_617 : (Jvm.Cond.code ({ cls := "WaterTwiceModel", name := "below", desc := "()J" } : Jvm.MethodName) prog_10_method_11_code (4 : Nat) (Option.some Jvm.ClassFile.FieldType.long)) ∈ wsG := gm 617 rfl rfl
set_option maxRecDepth 20000 in
theorem kw_618 : (Jvm.Cond.methodLink "WaterTwiceModel" (100 : Nat) ({ cls := "WaterTwiceModel", name := "common", desc := "(JJ)J" } : Jvm.MethodName)) ∈ wsG := gm 618 rfl rfl
set_option maxRecDepth 20000 in
theorem kw_619 : (Jvm.Cond.static ({ cls := "WaterTwiceModel", name := "common", desc := "(JJ)J" } : Jvm.MethodName)) ∈ wsG := gm 619 rfl rfl
set_option maxRecDepth 20000 in
theorem kw_620 : (Jvm.Cond.code ({ cls := "WaterTwiceModel", name := "common", desc := "(JJ)J" } : Jvm.MethodName) prog_10_method_4_code (10 : Nat) (Option.some Jvm.ClassFile.FieldType.long)) ∈ wsG := gm 620 rfl rfl
set_option maxRecDepth 20000 in
theorem kw_621 : (Jvm.Cond.methodLink "WaterTwiceModel" (110 : Nat) ({ cls := "WaterTwiceModel", name := "dirtOf", desc := "(IJ)J" } : Jvm.MethodName)) ∈ wsG := gm 621 rfl rfl
set_option maxRecDepth 20000 in
theorem kt_622 : (Jvm.Cond.privateMethod ({ cls := "WaterTwiceModel", name := "dirtOf", desc := "(IJ)J" } : Jvm.MethodName)) ∈ lw_tbl := gt 622 rfl
set_option maxRecDepth 20000 in
theorem kw_623 : (Jvm.Cond.instanceMethod ({ cls := "WaterTwiceModel", name := "dirtOf", desc := "(IJ)J" } : Jvm.MethodName)) ∈ wsG := gm 623 rfl rfl
set_option maxRecDepth 20000 in
theorem kw_624 : (Jvm.Cond.code ({ cls := "WaterTwiceModel", name := "dirtOf", desc := "(IJ)J" } : Jvm.MethodName) prog_10_method_12_code (8 : Nat) (Option.some Jvm.ClassFile.FieldType.long)) ∈ wsG := gm 624 rfl rfl
set_option maxRecDepth 20000 in
theorem kw_625 : (Jvm.Cond.methodLink "WaterTwiceLaw" (40 : Nat) ({ cls := "WaterTwiceModel", name := "least", desc := "(I)J" } : Jvm.MethodName)) ∈ wsG := gm 625 rfl rfl
set_option maxRecDepth 20000 in
theorem kw_626 : (Jvm.Cond.instanceMethod ({ cls := "WaterTwiceModel", name := "least", desc := "(I)J" } : Jvm.MethodName)) ∈ wsG := gm 626 rfl rfl
set_option maxRecDepth 20000 in
theorem kw_627 : (Jvm.Cond.selects "WaterTwiceModel" ({ cls := "WaterTwiceModel", name := "least", desc := "(I)J" } : Jvm.MethodName) ({ cls := "WaterTwiceModel", name := "least", desc := "(I)J" } : Jvm.MethodName)) ∈ wsG := gm 627 rfl rfl
set_option maxRecDepth 20000 in
theorem kw_628 : (Jvm.Cond.code ({ cls := "WaterTwiceModel", name := "least", desc := "(I)J" } : Jvm.MethodName) prog_10_method_15_code (9 : Nat) (Option.some Jvm.ClassFile.FieldType.long)) ∈ wsG := gm 628 rfl rfl
set_option maxRecDepth 20000 in
theorem kw_629 : (Jvm.Cond.methodLink "WaterTwiceModel" (114 : Nat) ({ cls := "WaterTwiceModel", name := "pinch", desc := "()I" } : Jvm.MethodName)) ∈ wsG := gm 629 rfl rfl
set_option maxRecDepth 20000 in
theorem kt_630 : (Jvm.Cond.privateMethod ({ cls := "WaterTwiceModel", name := "pinch", desc := "()I" } : Jvm.MethodName)) ∈ lw_tbl := gt 630 rfl
set_option maxRecDepth 20000 in
theorem kw_631 : (Jvm.Cond.instanceMethod ({ cls := "WaterTwiceModel", name := "pinch", desc := "()I" } : Jvm.MethodName)) ∈ wsG := gm 631 rfl rfl
set_option maxRecDepth 20000 in
theorem kw_632 : (Jvm.Cond.code ({ cls := "WaterTwiceModel", name := "pinch", desc := "()I" } : Jvm.MethodName) prog_10_method_14_code (12 : Nat) (Option.some Jvm.ClassFile.FieldType.int)) ∈ wsG := gm 632 rfl rfl
set_option maxRecDepth 20000 in
theorem kw_633 : (Jvm.Cond.methodLink "WaterTwiceLaw" (44 : Nat) ({ cls := "WaterTwiceModel", name := "fresh", desc := "(II)I" } : Jvm.MethodName)) ∈ wsG := gm 633 rfl rfl
set_option maxRecDepth 20000 in
theorem kw_634 : (Jvm.Cond.instanceMethod ({ cls := "WaterTwiceModel", name := "fresh", desc := "(II)I" } : Jvm.MethodName)) ∈ wsG := gm 634 rfl rfl
set_option maxRecDepth 20000 in
theorem kw_635 : (Jvm.Cond.selects "WaterTwiceModel" ({ cls := "WaterTwiceModel", name := "fresh", desc := "(II)I" } : Jvm.MethodName) ({ cls := "WaterTwiceModel", name := "fresh", desc := "(II)I" } : Jvm.MethodName)) ∈ wsG := gm 635 rfl rfl
set_option maxRecDepth 20000 in
theorem kw_636 : (Jvm.Cond.code ({ cls := "WaterTwiceModel", name := "fresh", desc := "(II)I" } : Jvm.MethodName) prog_10_method_16_code (4 : Nat) (Option.some Jvm.ClassFile.FieldType.int)) ∈ wsG := gm 636 rfl rfl
set_option maxRecDepth 20000 in
theorem kw_637 : (Jvm.Cond.methodLink "WaterTwiceLaw" (48 : Nat) ({ cls := "WaterTwiceModel", name := "pipe", desc := "(III)I" } : Jvm.MethodName)) ∈ wsG := gm 637 rfl rfl
set_option maxRecDepth 20000 in
theorem kw_638 : (Jvm.Cond.instanceMethod ({ cls := "WaterTwiceModel", name := "pipe", desc := "(III)I" } : Jvm.MethodName)) ∈ wsG := gm 638 rfl rfl
set_option maxRecDepth 20000 in
theorem kw_639 : (Jvm.Cond.selects "WaterTwiceModel" ({ cls := "WaterTwiceModel", name := "pipe", desc := "(III)I" } : Jvm.MethodName) ({ cls := "WaterTwiceModel", name := "pipe", desc := "(III)I" } : Jvm.MethodName)) ∈ wsG := gm 639 rfl rfl
set_option maxRecDepth 20000 in
theorem kw_640 : (Jvm.Cond.code ({ cls := "WaterTwiceModel", name := "pipe", desc := "(III)I" } : Jvm.MethodName) prog_10_method_17_code (5 : Nat) (Option.some Jvm.ClassFile.FieldType.int)) ∈ wsG := gm 640 rfl rfl
set_option maxRecDepth 20000 in
theorem kw_641 : (Jvm.Cond.methodLink "WaterTwiceLaw" (52 : Nat) ({ cls := "WaterTwiceModel", name := "water", desc := "(II)I" } : Jvm.MethodName)) ∈ wsG := gm 641 rfl rfl
set_option maxRecDepth 20000 in
theorem kw_642 : (Jvm.Cond.instanceMethod ({ cls := "WaterTwiceModel", name := "water", desc := "(II)I" } : Jvm.MethodName)) ∈ wsG := gm 642 rfl rfl
set_option maxRecDepth 20000 in
theorem kw_643 : (Jvm.Cond.selects "WaterTwiceModel" ({ cls := "WaterTwiceModel", name := "water", desc := "(II)I" } : Jvm.MethodName) ({ cls := "WaterTwiceModel", name := "water", desc := "(II)I" } : Jvm.MethodName)) ∈ wsG := gm 643 rfl rfl
set_option maxRecDepth 20000 in
theorem kw_644 : (Jvm.Cond.code ({ cls := "WaterTwiceModel", name := "water", desc := "(II)I" } : Jvm.MethodName) prog_10_method_20_code (3 : Nat) (Option.some Jvm.ClassFile.FieldType.int)) ∈ wsG := gm 644 rfl rfl
set_option maxRecDepth 20000 in
theorem kw_645 : (Jvm.Cond.methodLink "WaterTwiceModel" (118 : Nat) ({ cls := "WaterTwiceModel", name := "comes", desc := "(I)I" } : Jvm.MethodName)) ∈ wsG := gm 645 rfl rfl
set_option maxRecDepth 20000 in
theorem kt_646 : (Jvm.Cond.privateMethod ({ cls := "WaterTwiceModel", name := "comes", desc := "(I)I" } : Jvm.MethodName)) ∈ lw_tbl := gt 646 rfl
set_option maxRecDepth 20000 in
theorem kw_647 : (Jvm.Cond.instanceMethod ({ cls := "WaterTwiceModel", name := "comes", desc := "(I)I" } : Jvm.MethodName)) ∈ wsG := gm 647 rfl rfl
set_option maxRecDepth 20000 in
theorem kw_648 : (Jvm.Cond.code ({ cls := "WaterTwiceModel", name := "comes", desc := "(I)I" } : Jvm.MethodName) prog_10_method_18_code (4 : Nat) (Option.some Jvm.ClassFile.FieldType.int)) ∈ wsG := gm 648 rfl rfl
set_option maxRecDepth 20000 in
theorem kw_649 : (Jvm.Cond.methodLink "WaterTwiceModel" (122 : Nat) ({ cls := "WaterTwiceModel", name := "goes", desc := "(I)I" } : Jvm.MethodName)) ∈ wsG := gm 649 rfl rfl
set_option maxRecDepth 20000 in
theorem kt_650 : (Jvm.Cond.privateMethod ({ cls := "WaterTwiceModel", name := "goes", desc := "(I)I" } : Jvm.MethodName)) ∈ lw_tbl := gt 650 rfl
set_option maxRecDepth 20000 in
theorem kw_651 : (Jvm.Cond.instanceMethod ({ cls := "WaterTwiceModel", name := "goes", desc := "(I)I" } : Jvm.MethodName)) ∈ wsG := gm 651 rfl rfl
set_option maxRecDepth 20000 in
theorem kw_652 : (Jvm.Cond.code ({ cls := "WaterTwiceModel", name := "goes", desc := "(I)I" } : Jvm.MethodName) prog_10_method_19_code (4 : Nat) (Option.some Jvm.ClassFile.FieldType.int)) ∈ wsG := gm 652 rfl rfl
set_option maxRecDepth 20000 in
theorem kw_653 : (Jvm.Cond.methodLink "WaterTwiceLaw" (57 : Nat) ({ cls := "WaterTwiceModel", name := "fails", desc := "()I" } : Jvm.MethodName)) ∈ wsG := gm 653 rfl rfl
set_option maxRecDepth 20000 in
theorem kw_654 : (Jvm.Cond.instanceMethod ({ cls := "WaterTwiceModel", name := "fails", desc := "()I" } : Jvm.MethodName)) ∈ wsG := gm 654 rfl rfl
set_option maxRecDepth 20000 in
theorem kw_655 : (Jvm.Cond.selects "WaterTwiceModel" ({ cls := "WaterTwiceModel", name := "fails", desc := "()I" } : Jvm.MethodName) ({ cls := "WaterTwiceModel", name := "fails", desc := "()I" } : Jvm.MethodName)) ∈ wsG := gm 655 rfl rfl
set_option maxRecDepth 20000 in
theorem kw_656 : (Jvm.Cond.code ({ cls := "WaterTwiceModel", name := "fails", desc := "()I" } : Jvm.MethodName) prog_10_method_23_code (3 : Nat) (Option.some Jvm.ClassFile.FieldType.int)) ∈ wsG := gm 656 rfl rfl
set_option maxRecDepth 20000 in
theorem kw_657 : (Jvm.Cond.methodLink "WaterTwiceModel" (129 : Nat) ({ cls := "WaterTwiceModel", name := "failsFirst", desc := "()I" } : Jvm.MethodName)) ∈ wsG := gm 657 rfl rfl
set_option maxRecDepth 20000 in
theorem kt_658 : (Jvm.Cond.privateMethod ({ cls := "WaterTwiceModel", name := "failsFirst", desc := "()I" } : Jvm.MethodName)) ∈ lw_tbl := gt 658 rfl
set_option maxRecDepth 20000 in
theorem kw_659 : (Jvm.Cond.instanceMethod ({ cls := "WaterTwiceModel", name := "failsFirst", desc := "()I" } : Jvm.MethodName)) ∈ wsG := gm 659 rfl rfl
set_option maxRecDepth 20000 in
theorem kw_660 : (Jvm.Cond.code ({ cls := "WaterTwiceModel", name := "failsFirst", desc := "()I" } : Jvm.MethodName) prog_10_method_22_code (5 : Nat) (Option.some Jvm.ClassFile.FieldType.int)) ∈ wsG := gm 660 rfl rfl
set_option maxRecDepth 20000 in
theorem kw_661 : (Jvm.Cond.methodLink "WaterTwiceModel" (125 : Nat) ({ cls := "WaterTwiceModel", name := "takes", desc := "(I)V" } : Jvm.MethodName)) ∈ wsG := gm 661 rfl rfl
set_option maxRecDepth 20000 in
theorem kt_662 : (Jvm.Cond.privateMethod ({ cls := "WaterTwiceModel", name := "takes", desc := "(I)V" } : Jvm.MethodName)) ∈ lw_tbl := gt 662 rfl
set_option maxRecDepth 20000 in
theorem kw_663 : (Jvm.Cond.instanceMethod ({ cls := "WaterTwiceModel", name := "takes", desc := "(I)V" } : Jvm.MethodName)) ∈ wsG := gm 663 rfl rfl
set_option maxRecDepth 20000 in
theorem kw_664 : (Jvm.Cond.code ({ cls := "WaterTwiceModel", name := "takes", desc := "(I)V" } : Jvm.MethodName) prog_10_method_21_code (9 : Nat) (Option.none : Option Jvm.ClassFile.FieldType)) ∈ wsG := gm 664 rfl rfl
set_option maxRecDepth 20000 in
theorem kw_665 : (Jvm.Cond.methodLink "WaterTwiceLaw" (61 : Nat) ({ cls := "WaterTwiceModel", name := "at", desc := "(II)J" } : Jvm.MethodName)) ∈ wsG := gm 665 rfl rfl
set_option maxRecDepth 20000 in
theorem kw_666 : (Jvm.Cond.instanceMethod ({ cls := "WaterTwiceModel", name := "at", desc := "(II)J" } : Jvm.MethodName)) ∈ wsG := gm 666 rfl rfl
set_option maxRecDepth 20000 in
theorem kw_667 : (Jvm.Cond.selects "WaterTwiceModel" ({ cls := "WaterTwiceModel", name := "at", desc := "(II)J" } : Jvm.MethodName) ({ cls := "WaterTwiceModel", name := "at", desc := "(II)J" } : Jvm.MethodName)) ∈ wsG := gm 667 rfl rfl
set_option maxRecDepth 20000 in
theorem kw_668 : (Jvm.Cond.code ({ cls := "WaterTwiceModel", name := "at", desc := "(II)J" } : Jvm.MethodName) prog_10_method_24_code (3 : Nat) (Option.some Jvm.ClassFile.FieldType.long)) ∈ wsG := gm 668 rfl rfl
set_option maxRecDepth 20000 in
theorem kw_669 : (Jvm.Cond.constantLong "WaterTwiceModel" (132 : Nat) (-2 : Int64)) ∈ wsG := gm 669 rfl rfl
set_option maxRecDepth 20000 in
theorem kw_670 : (Jvm.Cond.methodLink "WaterTwiceLaw" (65 : Nat) ({ cls := "WaterTwiceModel", name := "hit", desc := "(III)I" } : Jvm.MethodName)) ∈ wsG := gm 670 rfl rfl
set_option maxRecDepth 20000 in
theorem kw_671 : (Jvm.Cond.instanceMethod ({ cls := "WaterTwiceModel", name := "hit", desc := "(III)I" } : Jvm.MethodName)) ∈ wsG := gm 671 rfl rfl
set_option maxRecDepth 20000 in
theorem kw_672 : (Jvm.Cond.selects "WaterTwiceModel" ({ cls := "WaterTwiceModel", name := "hit", desc := "(III)I" } : Jvm.MethodName) ({ cls := "WaterTwiceModel", name := "hit", desc := "(III)I" } : Jvm.MethodName)) ∈ wsG := gm 672 rfl rfl
set_option maxRecDepth 20000 in
theorem kw_673 : (Jvm.Cond.code ({ cls := "WaterTwiceModel", name := "hit", desc := "(III)I" } : Jvm.MethodName) prog_10_method_25_code (7 : Nat) (Option.some Jvm.ClassFile.FieldType.int)) ∈ wsG := gm 673 rfl rfl
set_option maxRecDepth 20000 in
theorem kw_674 : (Jvm.Cond.constant "WaterTwiceModel" (134 : Nat) (100000 : Int32)) ∈ wsG := gm 674 rfl rfl
set_option maxRecDepth 20000 in
theorem kw_675 : (Jvm.Cond.methodLink "WaterTwiceLaw" (70 : Nat) ({ cls := "WaterTwiceModel", name := "steady", desc := "(IIIII)I" } : Jvm.MethodName)) ∈ wsG := gm 675 rfl rfl
set_option maxRecDepth 20000 in
theorem kw_676 : (Jvm.Cond.instanceMethod ({ cls := "WaterTwiceModel", name := "steady", desc := "(IIIII)I" } : Jvm.MethodName)) ∈ wsG := gm 676 rfl rfl
set_option maxRecDepth 20000 in
theorem kw_677 : (Jvm.Cond.selects "WaterTwiceModel" ({ cls := "WaterTwiceModel", name := "steady", desc := "(IIIII)I" } : Jvm.MethodName) ({ cls := "WaterTwiceModel", name := "steady", desc := "(IIIII)I" } : Jvm.MethodName)) ∈ wsG := gm 677 rfl rfl
set_option maxRecDepth 20000 in
theorem kw_678 : (Jvm.Cond.code ({ cls := "WaterTwiceModel", name := "steady", desc := "(IIIII)I" } : Jvm.MethodName) prog_10_method_27_code (11 : Nat) (Option.some Jvm.ClassFile.FieldType.int)) ∈ wsG := gm 678 rfl rfl
set_option maxRecDepth 20000 in
theorem kw_679 : (Jvm.Cond.constantLong "WaterTwiceModel" (135 : Nat) (1000000 : Int64)) ∈ wsG := gm 679 rfl rfl
set_option maxRecDepth 20000 in
theorem kw_680 : (Jvm.Cond.methodLink "WaterTwiceModel" (137 : Nat) ({ cls := "WaterTwiceModel", name := "hour", desc := "(JIII)J" } : Jvm.MethodName)) ∈ wsG := gm 680 rfl rfl
set_option maxRecDepth 20000 in
theorem kw_681 : (Jvm.Cond.static ({ cls := "WaterTwiceModel", name := "hour", desc := "(JIII)J" } : Jvm.MethodName)) ∈ wsG := gm 681 rfl rfl
set_option maxRecDepth 20000 in
theorem kw_682 : (Jvm.Cond.code ({ cls := "WaterTwiceModel", name := "hour", desc := "(JIII)J" } : Jvm.MethodName) prog_10_method_26_code (7 : Nat) (Option.some Jvm.ClassFile.FieldType.long)) ∈ wsG := gm 682 rfl rfl
set_option maxRecDepth 20000 in
theorem kw_683 : (Jvm.Cond.methodLink "WaterTwiceLaw" (74 : Nat) ({ cls := "WaterTwiceModel", name := "store", desc := "(III)I" } : Jvm.MethodName)) ∈ wsG := gm 683 rfl rfl
set_option maxRecDepth 20000 in
theorem kw_684 : (Jvm.Cond.instanceMethod ({ cls := "WaterTwiceModel", name := "store", desc := "(III)I" } : Jvm.MethodName)) ∈ wsG := gm 684 rfl rfl
set_option maxRecDepth 20000 in
theorem kw_685 : (Jvm.Cond.selects "WaterTwiceModel" ({ cls := "WaterTwiceModel", name := "store", desc := "(III)I" } : Jvm.MethodName) ({ cls := "WaterTwiceModel", name := "store", desc := "(III)I" } : Jvm.MethodName)) ∈ wsG := gm 685 rfl rfl
set_option maxRecDepth 20000 in
theorem kw_686 : (Jvm.Cond.code ({ cls := "WaterTwiceModel", name := "store", desc := "(III)I" } : Jvm.MethodName) prog_10_method_28_code (5 : Nat) (Option.some Jvm.ClassFile.FieldType.int)) ∈ wsG := gm 686 rfl rfl
set_option maxRecDepth 20000 in
theorem kw_687 : (Jvm.Cond.constantLong "WaterTwiceModel" (141 : Nat) (23 : Int64)) ∈ wsG := gm 687 rfl rfl
set_option maxRecDepth 20000 in
theorem kw_688 : (Jvm.Cond.methodLink "WaterTwiceLaw" (79 : Nat) ({ cls := "WaterTwiceModel", name := "room", desc := "(I)I" } : Jvm.MethodName)) ∈ wsG := gm 688 rfl rfl
set_option maxRecDepth 20000 in
theorem kw_689 : (Jvm.Cond.instanceMethod ({ cls := "WaterTwiceModel", name := "room", desc := "(I)I" } : Jvm.MethodName)) ∈ wsG := gm 689 rfl rfl
set_option maxRecDepth 20000 in
theorem kw_690 : (Jvm.Cond.selects "WaterTwiceModel" ({ cls := "WaterTwiceModel", name := "room", desc := "(I)I" } : Jvm.MethodName) ({ cls := "WaterTwiceModel", name := "room", desc := "(I)I" } : Jvm.MethodName)) ∈ wsG := gm 690 rfl rfl
set_option maxRecDepth 20000 in
theorem kw_691 : (Jvm.Cond.code ({ cls := "WaterTwiceModel", name := "room", desc := "(I)I" } : Jvm.MethodName) prog_10_method_29_code (6 : Nat) (Option.some Jvm.ClassFile.FieldType.int)) ∈ wsG := gm 691 rfl rfl
set_option maxRecDepth 20000 in
theorem kw_692 : (Jvm.Cond.methodLink "WaterTwiceLaw" (83 : Nat) ({ cls := "WaterTwiceModel", name := "meter", desc := "(I)I" } : Jvm.MethodName)) ∈ wsG := gm 692 rfl rfl
set_option maxRecDepth 20000 in
theorem kw_693 : (Jvm.Cond.instanceMethod ({ cls := "WaterTwiceModel", name := "meter", desc := "(I)I" } : Jvm.MethodName)) ∈ wsG := gm 693 rfl rfl
set_option maxRecDepth 20000 in
theorem kw_694 : (Jvm.Cond.selects "WaterTwiceModel" ({ cls := "WaterTwiceModel", name := "meter", desc := "(I)I" } : Jvm.MethodName) ({ cls := "WaterTwiceModel", name := "meter", desc := "(I)I" } : Jvm.MethodName)) ∈ wsG := gm 694 rfl rfl
set_option maxRecDepth 20000 in
theorem kw_695 : (Jvm.Cond.code ({ cls := "WaterTwiceModel", name := "meter", desc := "(I)I" } : Jvm.MethodName) prog_10_method_30_code (2 : Nat) (Option.some Jvm.ClassFile.FieldType.int)) ∈ wsG := gm 695 rfl rfl
set_option maxRecDepth 20000 in
theorem kw_696 : (Jvm.Cond.methodLink "WaterTwiceLaw" (87 : Nat) ({ cls := "WaterTwiceModel", name := "read", desc := "(II)I" } : Jvm.MethodName)) ∈ wsG := gm 696 rfl rfl
set_option maxRecDepth 20000 in
theorem kw_697 : (Jvm.Cond.instanceMethod ({ cls := "WaterTwiceModel", name := "read", desc := "(II)I" } : Jvm.MethodName)) ∈ wsG := gm 697 rfl rfl
set_option maxRecDepth 20000 in
theorem kw_698 : (Jvm.Cond.selects "WaterTwiceModel" ({ cls := "WaterTwiceModel", name := "read", desc := "(II)I" } : Jvm.MethodName) ({ cls := "WaterTwiceModel", name := "read", desc := "(II)I" } : Jvm.MethodName)) ∈ wsG := gm 698 rfl rfl
set_option maxRecDepth 20000 in
theorem kw_699 : (Jvm.Cond.code ({ cls := "WaterTwiceModel", name := "read", desc := "(II)I" } : Jvm.MethodName) prog_10_method_32_code (4 : Nat) (Option.some Jvm.ClassFile.FieldType.int)) ∈ wsG := gm 699 rfl rfl
set_option maxRecDepth 20000 in
theorem kw_700 : (Jvm.Cond.methodLink "WaterTwiceModel" (146 : Nat) ({ cls := "WaterTwiceModel", name := "isMeter", desc := "(I)Z" } : Jvm.MethodName)) ∈ wsG := gm 700 rfl rfl
set_option maxRecDepth 20000 in
theorem kt_701 : (Jvm.Cond.privateMethod ({ cls := "WaterTwiceModel", name := "isMeter", desc := "(I)Z" } : Jvm.MethodName)) ∈ lw_tbl := gt 701 rfl
set_option maxRecDepth 20000 in
theorem kw_702 : (Jvm.Cond.instanceMethod ({ cls := "WaterTwiceModel", name := "isMeter", desc := "(I)Z" } : Jvm.MethodName)) ∈ wsG := gm 702 rfl rfl
set_option maxRecDepth 20000 in
theorem kw_703 : (Jvm.Cond.code ({ cls := "WaterTwiceModel", name := "isMeter", desc := "(I)Z" } : Jvm.MethodName) prog_10_method_31_code (2 : Nat) (Option.some Jvm.ClassFile.FieldType.boolean)) ∈ wsG := gm 703 rfl rfl
set_option maxRecDepth 20000 in
theorem kw_704 : (Jvm.Cond.constantLong "WaterTwiceModel" (149 : Nat) (100000 : Int64)) ∈ wsG := gm 704 rfl rfl
set_option maxRecDepth 20000 in
theorem kw_705 : (Jvm.Cond.methodLink "WaterTwiceLaw" (91 : Nat) ({ cls := "WaterTwiceModel", name := "gap", desc := "(I)J" } : Jvm.MethodName)) ∈ wsG := gm 705 rfl rfl
set_option maxRecDepth 20000 in
theorem kw_706 : (Jvm.Cond.instanceMethod ({ cls := "WaterTwiceModel", name := "gap", desc := "(I)J" } : Jvm.MethodName)) ∈ wsG := gm 706 rfl rfl
set_option maxRecDepth 20000 in
theorem kw_707 : (Jvm.Cond.selects "WaterTwiceModel" ({ cls := "WaterTwiceModel", name := "gap", desc := "(I)J" } : Jvm.MethodName) ({ cls := "WaterTwiceModel", name := "gap", desc := "(I)J" } : Jvm.MethodName)) ∈ wsG := gm 707 rfl rfl
set_option maxRecDepth 20000 in
theorem kw_708 : (Jvm.Cond.code ({ cls := "WaterTwiceModel", name := "gap", desc := "(I)J" } : Jvm.MethodName) prog_10_method_35_code (4 : Nat) (Option.some Jvm.ClassFile.FieldType.long)) ∈ wsG := gm 708 rfl rfl
set_option maxRecDepth 20000 in
theorem kw_709 : (Jvm.Cond.constantLong "WaterTwiceModel" (151 : Nat) (3 : Int64)) ∈ wsG := gm 709 rfl rfl
set_option maxRecDepth 20000 in
theorem kw_710 : (Jvm.Cond.constantLong "WaterTwiceModel" (153 : Nat) (-1000000000000 : Int64)) ∈ wsG := gm 710 rfl rfl
set_option maxRecDepth 20000 in
theorem kw_711 : (Jvm.Cond.methodLink "WaterTwiceModel" (155 : Nat) ({ cls := "WaterTwiceModel", name := "missing", desc := "()I" } : Jvm.MethodName)) ∈ wsG := gm 711 rfl rfl
set_option maxRecDepth 20000 in
theorem kt_712 : (Jvm.Cond.privateMethod ({ cls := "WaterTwiceModel", name := "missing", desc := "()I" } : Jvm.MethodName)) ∈ lw_tbl := gt 712 rfl
set_option maxRecDepth 20000 in
theorem kw_713 : (Jvm.Cond.instanceMethod ({ cls := "WaterTwiceModel", name := "missing", desc := "()I" } : Jvm.MethodName)) ∈ wsG := gm 713 rfl rfl
set_option maxRecDepth 20000 in
theorem kw_714 : (Jvm.Cond.code ({ cls := "WaterTwiceModel", name := "missing", desc := "()I" } : Jvm.MethodName) prog_10_method_33_code (3 : Nat) (Option.some Jvm.ClassFile.FieldType.int)) ∈ wsG := gm 714 rfl rfl
set_option maxRecDepth 20000 in
theorem kw_715 : (Jvm.Cond.methodLink "WaterTwiceModel" (158 : Nat) ({ cls := "WaterTwiceModel", name := "gapOf", desc := "()J" } : Jvm.MethodName)) ∈ wsG := gm 715 rfl rfl
set_option maxRecDepth 20000 in
theorem kt_716 : (Jvm.Cond.privateMethod ({ cls := "WaterTwiceModel", name := "gapOf", desc := "()J" } : Jvm.MethodName)) ∈ lw_tbl := gt 716 rfl
set_option maxRecDepth 20000 in
theorem kw_717 : (Jvm.Cond.instanceMethod ({ cls := "WaterTwiceModel", name := "gapOf", desc := "()J" } : Jvm.MethodName)) ∈ wsG := gm 717 rfl rfl
set_option maxRecDepth 20000 in
theorem kw_718 : (Jvm.Cond.code ({ cls := "WaterTwiceModel", name := "gapOf", desc := "()J" } : Jvm.MethodName) prog_10_method_34_code (4 : Nat) (Option.some Jvm.ClassFile.FieldType.long)) ∈ wsG := gm 718 rfl rfl
set_option maxRecDepth 20000 in
theorem kw_719 : (Jvm.Cond.methodLink "WaterTwiceLaw" (95 : Nat) ({ cls := "WaterTwiceModel", name := "mended", desc := "(II)J" } : Jvm.MethodName)) ∈ wsG := gm 719 rfl rfl
set_option maxRecDepth 20000 in
theorem kw_720 : (Jvm.Cond.instanceMethod ({ cls := "WaterTwiceModel", name := "mended", desc := "(II)J" } : Jvm.MethodName)) ∈ wsG := gm 720 rfl rfl
set_option maxRecDepth 20000 in
theorem kw_721 : (Jvm.Cond.selects "WaterTwiceModel" ({ cls := "WaterTwiceModel", name := "mended", desc := "(II)J" } : Jvm.MethodName) ({ cls := "WaterTwiceModel", name := "mended", desc := "(II)J" } : Jvm.MethodName)) ∈ wsG := gm 721 rfl rfl
set_option maxRecDepth 20000 in
theorem kw_722 : (Jvm.Cond.code ({ cls := "WaterTwiceModel", name := "mended", desc := "(II)J" } : Jvm.MethodName) prog_10_method_36_code (7 : Nat) (Option.some Jvm.ClassFile.FieldType.long)) ∈ wsG := gm 722 rfl rfl
set_option maxRecDepth 20000 in
theorem kw_723 : (Jvm.Cond.constantLong "WaterTwiceModel" (161 : Nat) (-999999999999 : Int64)) ∈ wsG := gm 723 rfl rfl
set_option maxRecDepth 20000 in
theorem kw_724 : (Jvm.Cond.methodLink "WaterTwiceLaw" (99 : Nat) ({ cls := "WaterTwiceModel", name := "count", desc := "(I)I" } : Jvm.MethodName)) ∈ wsG := gm 724 rfl rfl
set_option maxRecDepth 20000 in
theorem kw_725 : (Jvm.Cond.instanceMethod ({ cls := "WaterTwiceModel", name := "count", desc := "(I)I" } : Jvm.MethodName)) ∈ wsG := gm 725 rfl rfl
set_option maxRecDepth 20000 in
theorem kw_726 : (Jvm.Cond.selects "WaterTwiceModel" ({ cls := "WaterTwiceModel", name := "count", desc := "(I)I" } : Jvm.MethodName) ({ cls := "WaterTwiceModel", name := "count", desc := "(I)I" } : Jvm.MethodName)) ∈ wsG := gm 726 rfl rfl
set_option maxRecDepth 20000 in
theorem kw_727 : (Jvm.Cond.code ({ cls := "WaterTwiceModel", name := "count", desc := "(I)I" } : Jvm.MethodName) prog_10_method_37_code (6 : Nat) (Option.some Jvm.ClassFile.FieldType.int)) ∈ wsG := gm 727 rfl rfl
set_option maxRecDepth 20000 in
theorem kw_728 : (Jvm.Cond.methodLink "WaterTwiceLaw" (104 : Nat) ({ cls := "WaterTwiceModel", name := "trace", desc := "()J" } : Jvm.MethodName)) ∈ wsG := gm 728 rfl rfl
set_option maxRecDepth 20000 in
theorem kw_729 : (Jvm.Cond.instanceMethod ({ cls := "WaterTwiceModel", name := "trace", desc := "()J" } : Jvm.MethodName)) ∈ wsG := gm 729 rfl rfl
set_option maxRecDepth 20000 in
theorem kw_730 : (Jvm.Cond.selects "WaterTwiceModel" ({ cls := "WaterTwiceModel", name := "trace", desc := "()J" } : Jvm.MethodName) ({ cls := "WaterTwiceModel", name := "trace", desc := "()J" } : Jvm.MethodName)) ∈ wsG := gm 730 rfl rfl
set_option maxRecDepth 20000 in
theorem kw_731 : (Jvm.Cond.code ({ cls := "WaterTwiceModel", name := "trace", desc := "()J" } : Jvm.MethodName) prog_10_method_38_code (1 : Nat) (Option.some Jvm.ClassFile.FieldType.long)) ∈ wsG := gm 731 rfl rfl
end
section
/-! pieces of models: a guard, a bind; how a proof takes them apart -/
def gd {α : Type} (b : Bool) (x : Option α) : Option α := if b = true then x else none
theorem gd_ok {α : Type} {b : Bool} {x : Option α} {y : α} (h : gd b x = some y) : b = true ∧ x = some y := by
  unfold gd at h
  by_cases hb : b = true
  · rw [if_pos hb] at h; exact ⟨hb, h⟩
  · rw [if_neg hb] at h; cases h
theorem gd_t {α : Type} {b : Bool} {x : Option α} (h : b = true) : gd b x = x := by unfold gd; rw [if_pos h]
theorem bd_ok {α β : Type} {x : Option α} {f : α → Option β} {y : β} (h : x.bind f = some y) : ∃ a, x = some a ∧ f a = some y := Option.bind_eq_some_iff.mp h
theorem it_t {c : Prop} [Decidable c] {α : Type} {a b x : α} (h : c) (hf : (if c then a else b) = x) : a = x := by rw [if_pos h] at hf; exact hf
theorem it_f {c : Prop} [Decidable c] {α : Type} {a b x : α} (h : ¬ c) (hf : (if c then a else b) = x) : b = x := by rw [if_neg h] at hf; exact hf
def vin (i : Int32) (n : Nat) : Bool := decide (¬ i < 0 ∧ i.toNatClampNeg < n)
theorem vin_ok {i : Int32} {n : Nat} (h : vin i n = true) : vp_in i n := by
  have h := of_decide_eq_true h
  intro q
  rcases q with q | q
  · exact h.1 q
  · omega
theorem vin_lt {i : Int32} {n : Nat} (h : vin i n = true) : i.toNatClampNeg < n := (of_decide_eq_true h).2
def nz4 (x : Int32) : Bool := decide (¬ x = 0)
theorem nz4_ok {x : Int32} (h : nz4 x = true) : ¬ x = 0 := of_decide_eq_true h
def nz8 (x : Int64) : Bool := decide (¬ x = 0)
theorem nz8_ok {x : Int64} (h : nz8 x = true) : ¬ x = 0 := of_decide_eq_true h
def isb (x : Int32) : Bool := decide (x = 0 ∨ x = 1)
theorem isb_ok {x : Int32} (h : isb x = true) : narrow .boolean (.int x) = .int x := by
  rcases of_decide_eq_true h with h | h <;> subst h <;> decide
def FU : Nat := 6000
theorem lc_eq {x y : Int64} : lg_cmp x y = 0 ↔ x = y := by
  unfold lg_cmp
  by_cases h1 : y < x
  · rw [if_pos h1]
    refine ⟨fun h => absurd h (by decide), fun h => ?_⟩
    subst h
    exact absurd h1 (Int64.lt_irrefl)
  · rw [if_neg h1]
    by_cases h2 : x = y
    · rw [if_pos h2]; exact ⟨fun _ => h2, fun _ => rfl⟩
    · rw [if_neg h2]; exact ⟨fun h => absurd h (by decide), fun h => absurd h h2⟩
theorem lc_lt {x y : Int64} : lg_cmp x y < 0 ↔ x < y := by
  unfold lg_cmp
  by_cases h1 : y < x
  · rw [if_pos h1]
    exact ⟨fun h => absurd h (by decide), fun h => absurd h (Int64.lt_asymm h1)⟩
  · rw [if_neg h1]
    by_cases h2 : x = y
    · rw [if_pos h2]; subst h2; exact ⟨fun h => absurd h (by decide), fun h => absurd h Int64.lt_irrefl⟩
    · rw [if_neg h2]; exact ⟨fun _ => Int64.lt_of_le_of_ne (Int64.not_lt.mp h1) h2, fun _ => by decide⟩
theorem lc_gt {x y : Int64} : 0 < lg_cmp x y ↔ y < x := by
  unfold lg_cmp
  by_cases h1 : y < x
  · rw [if_pos h1]
    exact ⟨fun _ => h1, fun _ => by decide⟩
  · rw [if_neg h1]
    by_cases h2 : x = y
    · rw [if_pos h2]; exact ⟨fun h => absurd h (by decide), fun h => absurd h h1⟩
    · rw [if_neg h2]; exact ⟨fun h => absurd h (by decide), fun h => absurd h h1⟩
theorem lc_ge {x y : Int64} : 0 ≤ lg_cmp x y ↔ y ≤ x := by
  rw [← Int32.not_lt, lc_lt, Int64.not_lt]
theorem lc_le {x y : Int64} : lg_cmp x y ≤ 0 ↔ x ≤ y := by
  rw [← Int32.not_lt, lc_gt, Int64.not_lt]
/-! words: one list for all contracts -/
theorem gC {c0 w : Cond} (h : w ∈ wsG) : w ∈ c0 :: wsG ∧ ((w.onTables && w.keeps) = true ∨ ∃ ty, w = .arrayClass ty) := ⟨List.mem_cons_of_mem _ h, good_of_word (List.mem_filter.mp h).2⟩
theorem gG {c0 : Cond} {y : MethodName} {b : ByteArray} {n : Nat} {r : Option FieldType} (h : Cond.code y b n r ∈ wsG) : GoodIn (c0 :: wsG) (Cond.code y b n r :: wsG) := by
  intro w hw
  rcases List.mem_cons.mp hw with e | h2
  · rw [e]; exact gC h
  · exact gC h2
theorem gGl {y : MethodName} {b : ByteArray} {n : Nat} {r : Option FieldType} (h : Cond.code y b n r ∈ wsG) : GoodIn lw_tbl (Cond.code y b n r :: wsG) := by
  intro w hw
  rcases List.mem_cons.mp hw with e | h2
  · rw [e]; exact ⟨(List.mem_filter.mp h).1, good_of_word (List.mem_filter.mp h).2⟩
  · exact ⟨(List.mem_filter.mp h2).1, good_of_word (List.mem_filter.mp h2).2⟩
/-! a world: cells by a state, the cells that may change, what is constant -/
def WSok (D : va_G) {S : Type} (wf : S → va_W) (A : Nat → Prop) (Cn : State → Prop) : Prop :=
  (∀ u, va_D A (wf u)) ∧ (∀ (U : State) (g : JFrame) (mk : MethodId) (a : Array Value), Cn U → Cn (U.calling g mk a)) ∧ (∀ (s U : State) (H : Heap) (locs : List Loc), Cn s → U.heap = H → s.WarmedH U.vm → va_S A s.heap H locs → Cn U)
def wI (D : va_G) {S : Type} (wf : S → va_W) (Cn : State → Prop) (u : S) (U : State) : Prop := va_P D vwCl (wf u) U.heap ∧ Cn U
def wB (D : va_G) {S : Type} (wf : S → va_W) (u : S) (t : State) : Prop := va_P D vwCl (wf u) t.heap
theorem wI_blind {D : va_G} {S : Type} {wf : S → va_W} {A : Nat → Prop} {Cn : State → Prop} (h : WSok D wf A Cn) (av : List Value) (u : S) : FrameBlind (va_Pc av (wI D wf Cn u)) := fun _ _ _ _ q => ⟨q.1, q.2.1, h.2.1 _ _ _ _ q.2.2⟩
theorem fr_blind (av : List Value) : FrameBlind (va_Pc av (fun _ => True)) := fun _ _ _ _ q => ⟨q.1, trivial⟩
section GC
variable {p : Program} {l : Launch} {e : Env} {R : Room} {s : State} {m : MethodId} {args : Array Value} {below : List Frame} {meth : Method} {c : Code} {H : Heap} {locs : List Loc} {cells slots : Nat} {Q : State → Prop}
variable {D : va_G} {S : Type} {wf : S → va_W} {A : Nat → Prop} {Cn : State → Prop} {u u1 : S} {Ts : List Cond} {cc bytes : ByteArray} {nL maxL index pc : Nat} {own : String} {y : MethodName} {ret : Option FieldType} {rm : Room} {b : Nat} {As rest st0 : List Value} {ls : Array Slot}
theorem gB (n : Nat) (ht : ∀ w ∈ Ts, w.before args s = true) (hT : GoodIn Ts (Cond.code y bytes maxL ret :: wsG)) (k1 : Cond.methodLink own index y ∈ wsG) (k4 : Cond.initialized y.cls ∈ wsG) (hd : y.cls ≠ "java/lang/invoke/MethodHandle" ∧ y.cls ≠ "java/lang/invoke/VarHandle" ∧ (parseMethodDescriptor y.desc).map (fun d => d.parameters.length) = some n) (hr0 : rm.cells = 0 ∧ rm.slots = 0) (hR : rm.frames + 1 ≤ R.frames ∧ 8 + (maxL + 11) + rm.locals ≤ R.locals) : CallB R s args own index y bytes maxL ret (Cond.code y bytes maxL ret :: wsG) rm 0 0 n := by
  have ok : ∀ w ∈ wsG, w.before args s = true := fun w h => ht w (hT w (List.mem_cons_of_mem _ h)).1
  exact callB_of n ht hT rfl hr0.1 hr0.2 (ok _ k4) (ok _ k1) hd hR
theorem gcVi {r0 : Int32} (n : Nat) (hw : WSok D wf A Cn) (hCn : Cn s) (F : CallFix p m c cc nL s args Ts own)
    (hM : Met l y (Cond.code y bytes maxL ret :: wsG) rm (va_Pc (Value.ref b :: As) (wI D wf Cn u)) (va_Qi (fun (r : Int32) (u' : S) => r = r0 ∧ u' = u1) (wB D wf) A) 0 0 A)
    (hT : GoodIn Ts (Cond.code y bytes maxL ret :: wsG)) (k1 : Cond.methodLink own index y ∈ wsG) (k2 : Cond.instanceMethod y ∈ wsG) (k3 : Cond.selects y.cls y y ∈ wsG) (k4 : Cond.initialized y.cls ∈ wsG)
    (hd : y.cls ≠ "java/lang/invoke/MethodHandle" ∧ y.cls ≠ "java/lang/invoke/VarHandle" ∧ (parseMethodDescriptor y.desc).map (fun d => d.parameters.length) = some n) (hr0 : rm.cells = 0 ∧ rm.slots = 0) (hR : rm.frames + 1 ≤ R.frames ∧ 8 + (maxL + 11) + rm.locals ≤ R.locals)
    (hrec : ∃ cellB : Cell, H[b]? = some cellB ∧ cellB.vm.isStatics = false ∧ s.vm.findClass y.cls = some cellB.cls)
    (hP : va_P D vwCl (wf u) H) (hS : va_S A s.heap H locs) (hcs : cells ≤ R.cells ∧ slots ≤ R.slots) (hn : As.length = n) (hsz : ls.size = nL) (hst : st0 = As.reverse ++ .ref b :: rest) (hrm : (rest.map fun v => v.category).sum ≤ 8) (hdg : decode cc pc = .ok (.invokevirtual index, 3))
    (kk : ∀ (H : Heap) (locs : List Loc), va_P D vwCl (wf u1) H → va_S A s.heap H locs → W p l e R s m args below meth c H locs cells slots Q (F0 m (pc + 3) ls (.int r0 :: rest))) : W p l e R s m args below meth c H locs cells slots Q (F0 m pc ls st0) := by
  have ok : ∀ w ∈ wsG, w.before args s = true := fun w h => F.2.2.2.2 w (hT w (List.mem_cons_of_mem _ h)).1
  refine va_calli (va_runV (C := y.cls) (As := As) (rest := rest) F hM ⟨gB n F.2.2.2.2 hT k1 k4 hd hr0 hR, ok _ k2, ok _ k3⟩ ⟨wI_blind hw _ _, hrec, fun U hU hW => ⟨rfl, by rw [hU]; exact hP, hw.2.2 s U H locs hCn hU hW hS⟩⟩ rfl hn hsz hst (lv_room hrm) hdg hcs) hS (fun q _ h => h) (fun q h => h) (fun r u t H1 locs1 ht hvm hp hB hz hk hS1 => ?_)
  obtain ⟨h1, h2⟩ := hp
  subst h1
  subst h2
  exact kk H1 locs1 (by rw [← ht]; exact hB) hS1
theorem gcVl {r0 : Int64} (n : Nat) (hw : WSok D wf A Cn) (hCn : Cn s) (F : CallFix p m c cc nL s args Ts own)
    (hM : Met l y (Cond.code y bytes maxL ret :: wsG) rm (va_Pc (Value.ref b :: As) (wI D wf Cn u)) (va_Ql (fun (r : Int64) (u' : S) => r = r0 ∧ u' = u1) (wB D wf) A) 0 0 A)
    (hT : GoodIn Ts (Cond.code y bytes maxL ret :: wsG)) (k1 : Cond.methodLink own index y ∈ wsG) (k2 : Cond.instanceMethod y ∈ wsG) (k3 : Cond.selects y.cls y y ∈ wsG) (k4 : Cond.initialized y.cls ∈ wsG)
    (hd : y.cls ≠ "java/lang/invoke/MethodHandle" ∧ y.cls ≠ "java/lang/invoke/VarHandle" ∧ (parseMethodDescriptor y.desc).map (fun d => d.parameters.length) = some n) (hr0 : rm.cells = 0 ∧ rm.slots = 0) (hR : rm.frames + 1 ≤ R.frames ∧ 8 + (maxL + 11) + rm.locals ≤ R.locals)
    (hrec : ∃ cellB : Cell, H[b]? = some cellB ∧ cellB.vm.isStatics = false ∧ s.vm.findClass y.cls = some cellB.cls)
    (hP : va_P D vwCl (wf u) H) (hS : va_S A s.heap H locs) (hcs : cells ≤ R.cells ∧ slots ≤ R.slots) (hn : As.length = n) (hsz : ls.size = nL) (hst : st0 = As.reverse ++ .ref b :: rest) (hrm : (rest.map fun v => v.category).sum ≤ 8) (hdg : decode cc pc = .ok (.invokevirtual index, 3))
    (kk : ∀ (H : Heap) (locs : List Loc), va_P D vwCl (wf u1) H → va_S A s.heap H locs → W p l e R s m args below meth c H locs cells slots Q (F0 m (pc + 3) ls (.long r0 :: rest))) : W p l e R s m args below meth c H locs cells slots Q (F0 m pc ls st0) := by
  have ok : ∀ w ∈ wsG, w.before args s = true := fun w h => F.2.2.2.2 w (hT w (List.mem_cons_of_mem _ h)).1
  refine va_calll (va_runV (C := y.cls) (As := As) (rest := rest) F hM ⟨gB n F.2.2.2.2 hT k1 k4 hd hr0 hR, ok _ k2, ok _ k3⟩ ⟨wI_blind hw _ _, hrec, fun U hU hW => ⟨rfl, by rw [hU]; exact hP, hw.2.2 s U H locs hCn hU hW hS⟩⟩ rfl hn hsz hst (lv_room hrm) hdg hcs) hS (fun q _ h => h) (fun q h => h) (fun r u t H1 locs1 ht hvm hp hB hz hk hS1 => ?_)
  obtain ⟨h1, h2⟩ := hp
  subst h1
  subst h2
  exact kk H1 locs1 (by rw [← ht]; exact hB) hS1
theorem gcVv (n : Nat) (hw : WSok D wf A Cn) (hCn : Cn s) (F : CallFix p m c cc nL s args Ts own)
    (hM : Met l y (Cond.code y bytes maxL ret :: wsG) rm (va_Pc (Value.ref b :: As) (wI D wf Cn u)) (va_Qv (fun (u' : S) => u' = u1) (wB D wf) A) 0 0 A)
    (hT : GoodIn Ts (Cond.code y bytes maxL ret :: wsG)) (k1 : Cond.methodLink own index y ∈ wsG) (k2 : Cond.instanceMethod y ∈ wsG) (k3 : Cond.selects y.cls y y ∈ wsG) (k4 : Cond.initialized y.cls ∈ wsG)
    (hd : y.cls ≠ "java/lang/invoke/MethodHandle" ∧ y.cls ≠ "java/lang/invoke/VarHandle" ∧ (parseMethodDescriptor y.desc).map (fun d => d.parameters.length) = some n) (hr0 : rm.cells = 0 ∧ rm.slots = 0) (hR : rm.frames + 1 ≤ R.frames ∧ 8 + (maxL + 11) + rm.locals ≤ R.locals)
    (hrec : ∃ cellB : Cell, H[b]? = some cellB ∧ cellB.vm.isStatics = false ∧ s.vm.findClass y.cls = some cellB.cls)
    (hP : va_P D vwCl (wf u) H) (hS : va_S A s.heap H locs) (hcs : cells ≤ R.cells ∧ slots ≤ R.slots) (hn : As.length = n) (hsz : ls.size = nL) (hst : st0 = As.reverse ++ .ref b :: rest) (hrm : (rest.map fun v => v.category).sum ≤ 8) (hdg : decode cc pc = .ok (.invokevirtual index, 3))
    (kk : ∀ (H : Heap) (locs : List Loc), va_P D vwCl (wf u1) H → va_S A s.heap H locs → W p l e R s m args below meth c H locs cells slots Q (F0 m (pc + 3) ls rest)) : W p l e R s m args below meth c H locs cells slots Q (F0 m pc ls st0) := by
  have ok : ∀ w ∈ wsG, w.before args s = true := fun w h => F.2.2.2.2 w (hT w (List.mem_cons_of_mem _ h)).1
  refine va_callv (va_runV (C := y.cls) (As := As) (rest := rest) F hM ⟨gB n F.2.2.2.2 hT k1 k4 hd hr0 hR, ok _ k2, ok _ k3⟩ ⟨wI_blind hw _ _, hrec, fun U hU hW => ⟨rfl, by rw [hU]; exact hP, hw.2.2 s U H locs hCn hU hW hS⟩⟩ rfl hn hsz hst (lv_room hrm) hdg hcs) hS (fun q _ h => h) (fun q h => h) (fun u t H1 locs1 ht hvm hp hB hz hk hS1 => ?_)
  subst hp
  exact kk H1 locs1 (by rw [← ht]; exact hB) hS1
theorem gcSi {r0 : Int32} (n : Nat) (hw : WSok D wf A Cn) (hCn : Cn s) (F : CallFix p m c cc nL s args Ts own)
    (hM : Met l y (Cond.code y bytes maxL ret :: wsG) rm (va_Pc As (wI D wf Cn u)) (va_Qi (fun (r : Int32) (u' : S) => r = r0 ∧ u' = u1) (wB D wf) A) 0 0 A)
    (hT : GoodIn Ts (Cond.code y bytes maxL ret :: wsG)) (k1 : Cond.methodLink own index y ∈ wsG) (k2 : Cond.static y ∈ wsG) (k4 : Cond.initialized y.cls ∈ wsG)
    (hd : y.cls ≠ "java/lang/invoke/MethodHandle" ∧ y.cls ≠ "java/lang/invoke/VarHandle" ∧ (parseMethodDescriptor y.desc).map (fun d => d.parameters.length) = some n) (hr0 : rm.cells = 0 ∧ rm.slots = 0) (hR : rm.frames + 1 ≤ R.frames ∧ 8 + (maxL + 11) + rm.locals ≤ R.locals)
    (hP : va_P D vwCl (wf u) H) (hS : va_S A s.heap H locs) (hcs : cells ≤ R.cells ∧ slots ≤ R.slots) (hn : As.length = n) (hsz : ls.size = nL) (hst : st0 = As.reverse ++ rest) (hrm : (rest.map fun v => v.category).sum ≤ 8) (hdg : decode cc pc = .ok (.invokestatic index, 3))
    (kk : ∀ (H : Heap) (locs : List Loc), va_P D vwCl (wf u1) H → va_S A s.heap H locs → W p l e R s m args below meth c H locs cells slots Q (F0 m (pc + 3) ls (.int r0 :: rest))) : W p l e R s m args below meth c H locs cells slots Q (F0 m pc ls st0) := by
  have ok : ∀ w ∈ wsG, w.before args s = true := fun w h => F.2.2.2.2 w (hT w (List.mem_cons_of_mem _ h)).1
  refine va_calli (va_runS (As := As) (rest := rest) F hM ⟨gB n F.2.2.2.2 hT k1 k4 hd hr0 hR, ok _ k2⟩ ⟨wI_blind hw _ _, fun U hU hW => ⟨rfl, by rw [hU]; exact hP, hw.2.2 s U H locs hCn hU hW hS⟩⟩ rfl hn hsz hst (lv_room hrm) hdg hcs) hS (fun q _ h => h) (fun q h => h) (fun r u t H1 locs1 ht hvm hp hB hz hk hS1 => ?_)
  obtain ⟨h1, h2⟩ := hp
  subst h1
  subst h2
  exact kk H1 locs1 (by rw [← ht]; exact hB) hS1
theorem gcFi {r0 : Int32} (n : Nat) (F : CallFix p m c cc nL s args Ts own)
    (hM : Met l y (Cond.code y bytes maxL ret :: wsG) rm (va_Pc As (fun _ => True)) (vp_Si (fun (r : Int32) => r = r0)) 0 0 (fun _ => False))
    (hT : GoodIn Ts (Cond.code y bytes maxL ret :: wsG)) (k1 : Cond.methodLink own index y ∈ wsG) (k2 : Cond.static y ∈ wsG) (k4 : Cond.initialized y.cls ∈ wsG)
    (hd : y.cls ≠ "java/lang/invoke/MethodHandle" ∧ y.cls ≠ "java/lang/invoke/VarHandle" ∧ (parseMethodDescriptor y.desc).map (fun d => d.parameters.length) = some n) (hr0 : rm.cells = 0 ∧ rm.slots = 0) (hR : rm.frames + 1 ≤ R.frames ∧ 8 + (maxL + 11) + rm.locals ≤ R.locals)
    (hcs : cells ≤ R.cells ∧ slots ≤ R.slots) (hn : As.length = n) (hsz : ls.size = nL) (hst : st0 = As.reverse ++ rest) (hrm : (rest.map fun v => v.category).sum ≤ 8) (hdg : decode cc pc = .ok (.invokestatic index, 3))
    (kk : W p l e R s m args below meth c H locs cells slots Q (F0 m (pc + 3) ls (.int r0 :: rest))) : W p l e R s m args below meth c H locs cells slots Q (F0 m pc ls st0) := by
  have ok : ∀ w ∈ wsG, w.before args s = true := fun w h => F.2.2.2.2 w (hT w (List.mem_cons_of_mem _ h)).1
  refine vp_callSi (W.runS (As := As) (rest := rest) F hM ⟨gB n F.2.2.2.2 hT k1 k4 hd hr0 hR, ok _ k2⟩ ⟨fr_blind _, fun U hU hW => ⟨rfl, trivial⟩⟩ rfl hn hsz hst (lv_room hrm) hdg hcs) (fun r hr => ?_)
  subst hr
  exact kk
theorem gcFl {r0 : Int64} (n : Nat) (F : CallFix p m c cc nL s args Ts own)
    (hM : Met l y (Cond.code y bytes maxL ret :: wsG) rm (va_Pc As (fun _ => True)) (vp_Sl (fun (r : Int64) => r = r0)) 0 0 (fun _ => False))
    (hT : GoodIn Ts (Cond.code y bytes maxL ret :: wsG)) (k1 : Cond.methodLink own index y ∈ wsG) (k2 : Cond.static y ∈ wsG) (k4 : Cond.initialized y.cls ∈ wsG)
    (hd : y.cls ≠ "java/lang/invoke/MethodHandle" ∧ y.cls ≠ "java/lang/invoke/VarHandle" ∧ (parseMethodDescriptor y.desc).map (fun d => d.parameters.length) = some n) (hr0 : rm.cells = 0 ∧ rm.slots = 0) (hR : rm.frames + 1 ≤ R.frames ∧ 8 + (maxL + 11) + rm.locals ≤ R.locals)
    (hcs : cells ≤ R.cells ∧ slots ≤ R.slots) (hn : As.length = n) (hsz : ls.size = nL) (hst : st0 = As.reverse ++ rest) (hrm : (rest.map fun v => v.category).sum ≤ 8) (hdg : decode cc pc = .ok (.invokestatic index, 3))
    (kk : W p l e R s m args below meth c H locs cells slots Q (F0 m (pc + 3) ls (.long r0 :: rest))) : W p l e R s m args below meth c H locs cells slots Q (F0 m pc ls st0) := by
  have ok : ∀ w ∈ wsG, w.before args s = true := fun w h => F.2.2.2.2 w (hT w (List.mem_cons_of_mem _ h)).1
  refine vp_callSl (W.runS (As := As) (rest := rest) F hM ⟨gB n F.2.2.2.2 hT k1 k4 hd hr0 hR, ok _ k2⟩ ⟨fr_blind _, fun U hU hW => ⟨rfl, trivial⟩⟩ rfl hn hsz hst (lv_room hrm) hdg hcs) (fun r hr => ?_)
  subst hr
  exact kk
/-! returns -/
theorem grI {r r0 : Int32} (hexec : p.tables.exec = Jvm.exec) (hb : c.code = cc) (hr : meth.sig.returnType = some .int) (hlocks : meth.locks = false) (hP : va_P D vwCl (wf u) H) (hS : va_S A s.heap H locs) (hdg : decode cc pc = .ok (.ireturn, 1)) (h1 : r = r0) (h2 : u = u1) :
    W p l e R s m args below meth c H locs 0 0 (MQ below (va_Qi (fun (r : Int32) (u' : S) => r = r0 ∧ u' = u1) (wB D wf) A) args s 0 0 A) (F0 m pc ls [.int r]) :=
  W.iret (v := r) hexec hb hr (fun t ht _ => ⟨⟨r, u, rfl, ⟨h1, h2⟩, by unfold wB; rw [ht]; exact hP⟩, hS.F ht⟩) hS.2.2 hdg hlocks
theorem grZ {r r0 : Int32} (hexec : p.tables.exec = Jvm.exec) (hb : c.code = cc) (hr : meth.sig.returnType = some .boolean) (hlocks : meth.locks = false) (hn : narrow .boolean (.int r) = .int r) (hP : va_P D vwCl (wf u) H) (hS : va_S A s.heap H locs) (hdg : decode cc pc = .ok (.ireturn, 1)) (h1 : r = r0) (h2 : u = u1) :
    W p l e R s m args below meth c H locs 0 0 (MQ below (va_Qi (fun (r : Int32) (u' : S) => r = r0 ∧ u' = u1) (wB D wf) A) args s 0 0 A) (F0 m pc ls [.int r]) :=
  W.zret (v := r) hexec hb hr hn (fun t ht _ => ⟨⟨r, u, rfl, ⟨h1, h2⟩, by unfold wB; rw [ht]; exact hP⟩, hS.F ht⟩) hS.2.2 hdg hlocks
theorem grL {r r0 : Int64} (hexec : p.tables.exec = Jvm.exec) (hb : c.code = cc) (hr : meth.sig.returnType = some .long) (hlocks : meth.locks = false) (hP : va_P D vwCl (wf u) H) (hS : va_S A s.heap H locs) (hdg : decode cc pc = .ok (.lreturn, 1)) (h1 : r = r0) (h2 : u = u1) :
    W p l e R s m args below meth c H locs 0 0 (MQ below (va_Ql (fun (r : Int64) (u' : S) => r = r0 ∧ u' = u1) (wB D wf) A) args s 0 0 A) (F0 m pc ls [.long r]) :=
  W.lret (v := r) hexec hb hr (fun t ht _ => ⟨⟨r, u, rfl, ⟨h1, h2⟩, by unfold wB; rw [ht]; exact hP⟩, hS.F ht⟩) hS.2.2 hdg hlocks
theorem grV (hexec : p.tables.exec = Jvm.exec) (hb : c.code = cc) (hr : meth.sig.returnType = none) (hlocks : meth.locks = false) (hP : va_P D vwCl (wf u) H) (hS : va_S A s.heap H locs) (hdg : decode cc pc = .ok (.return_, 1)) (h2 : u = u1) :
    W p l e R s m args below meth c H locs 0 0 (MQ below (va_Qv (fun (u' : S) => u' = u1) (wB D wf) A) args s 0 0 A) (F0 m pc ls []) :=
  W.vret hexec hb hr (fun t ht _ => ⟨⟨u, rfl, h2, by unfold wB; rw [ht]; exact hP⟩, hS.F ht⟩) hS.2.2 hdg hlocks
theorem grFi {r r0 : Int32} (hexec : p.tables.exec = Jvm.exec) (hb : c.code = cc) (hr : meth.sig.returnType = some .int) (hlocks : meth.locks = false) (hdg : decode cc pc = .ok (.ireturn, 1)) (h1 : r = r0) :
    W p l e R s m args below meth c s.heap [] 0 0 (MQ below (vp_Si (fun (r : Int32) => r = r0)) args s 0 0 (fun _ => False)) (F0 m pc ls [.int r]) :=
  W.iret (v := r) hexec hb hr (fun t ht _ => ⟨r, rfl, h1, ht⟩) (fun _ h => by cases h) hdg hlocks
theorem grFz {r r0 : Int32} (hexec : p.tables.exec = Jvm.exec) (hb : c.code = cc) (hr : meth.sig.returnType = some .boolean) (hlocks : meth.locks = false) (hn : narrow .boolean (.int r) = .int r) (hdg : decode cc pc = .ok (.ireturn, 1)) (h1 : r = r0) :
    W p l e R s m args below meth c s.heap [] 0 0 (MQ below (vp_Si (fun (r : Int32) => r = r0)) args s 0 0 (fun _ => False)) (F0 m pc ls [.int r]) :=
  W.zret (v := r) hexec hb hr hn (fun t ht _ => ⟨r, rfl, h1, ht⟩) (fun _ h => by cases h) hdg hlocks
theorem grFl {r r0 : Int64} (hexec : p.tables.exec = Jvm.exec) (hb : c.code = cc) (hr : meth.sig.returnType = some .long) (hlocks : meth.locks = false) (hdg : decode cc pc = .ok (.lreturn, 1)) (h1 : r = r0) :
    W p l e R s m args below meth c s.heap [] 0 0 (MQ below (vp_Sl (fun (r : Int64) => r = r0)) args s 0 0 (fun _ => False)) (F0 m pc ls [.long r]) :=
  W.lret (v := r) hexec hb hr (fun t ht _ => ⟨r, rfl, h1, ht⟩) (fun _ h => by cases h) hdg hlocks
theorem va_aldA {tys : List (ClassId × FieldType)} {cl : List vw_C} {ws : va_W} {a : Nat} (hexec : p.tables.exec = Jvm.exec) (hb : c.code = cc) (hK : va_K D cl tys s) (hP : va_P D cl ws H) (q0 t0 : Nat) {cA : ClassId} {ty : FieldType} {n : Nat} {f : Nat → Option Nat} (ha : ws[q0]? = some (a, .inl (cA, n, .inr (.inr (.inr (.inr f)))))) (ht : tys[t0]? = some (cA, .array ty)) {i : Int32} (hin : vp_in i n) (hdg : decode cc pc = .ok (.aaload, 1))
    (kk : W p l e R s m args below meth c H locs cells slots Q (F0 m (pc + 1) ls (va_rf (f i.toNatClampNeg) :: rest))) : W p l e R s m args below meth c H locs cells slots Q (F0 m pc ls (.int i :: .ref a :: rest)) := by
  have hlt : i.toNatClampNeg < n := Nat.not_le.mp fun q => hin (Or.inr q)
  exact W.aald (v := va_rf (f i.toNatClampNeg)) (ty := .array ty) hexec hb (hP q0 _ ha) ((hK.2 t0 _ ht).1 n (fun j => va_rf (f j))) rfl (fun q => by cases q) (by show ¬ (i < 0 ∨ (arrV _ _ _).slots.size ≤ _); rw [arrV_size]; exact hin) (by show (arrV _ _ _).slots[_]? = _; rw [arrV_read _ _ hlt]) rfl rfl hdg kk
end GC
end
section
theorem inG_X1 : ∀ w ∈ u_ws RX1 TX1 8, w ∈ wsG := by
  intro w hw
  obtain ⟨k, hk, rfl⟩ := List.mem_map.mp hw
  have hk := List.mem_range.mp hk
  match k, hk with
  | 0, _ => exact kw_123
  | 1, _ => exact kw_125
  | 2, _ => exact kw_127
  | 3, _ => exact kw_129
  | 4, _ => exact kw_131
  | 5, _ => exact kw_133
  | 6, _ => exact kw_135
  | 7, _ => exact kw_137
theorem inG_X2 : ∀ w ∈ u_ws RX2 TX2 2, w ∈ wsG := by
  intro w hw
  obtain ⟨k, hk, rfl⟩ := List.mem_map.mp hw
  have hk := List.mem_range.mp hk
  match k, hk with
  | 0, _ => exact kw_105
  | 1, _ => exact kw_107
theorem inG_X3 : ∀ w ∈ u_ws RX3 TX3 2, w ∈ wsG := by
  intro w hw
  obtain ⟨k, hk, rfl⟩ := List.mem_map.mp hw
  have hk := List.mem_range.mp hk
  match k, hk with
  | 0, _ => exact kw_81
  | 1, _ => exact kw_83
theorem inG_X4 : ∀ w ∈ u_ws RX4 TX4 3, w ∈ wsG := by
  intro w hw
  obtain ⟨k, hk, rfl⟩ := List.mem_map.mp hw
  have hk := List.mem_range.mp hk
  match k, hk with
  | 0, _ => exact kw_166
  | 1, _ => exact kw_168
  | 2, _ => exact kw_170
theorem inG_X5 : ∀ w ∈ u_ws RX5 TX5 5, w ∈ wsG := by
  intro w hw
  obtain ⟨k, hk, rfl⟩ := List.mem_map.mp hw
  have hk := List.mem_range.mp hk
  match k, hk with
  | 0, _ => exact kw_60
  | 1, _ => exact kw_62
  | 2, _ => exact kw_64
  | 3, _ => exact kw_66
  | 4, _ => exact kw_68
theorem inG_X6 : ∀ w ∈ u_ws RX6 TX6 2, w ∈ wsG := by
  intro w hw
  obtain ⟨k, hk, rfl⟩ := List.mem_map.mp hw
  have hk := List.mem_range.mp hk
  match k, hk with
  | 0, _ => exact kw_150
  | 1, _ => exact kw_152
theorem inG_X7 : ∀ w ∈ u_ws RX7 TX7 7, w ∈ wsG := by
  intro w hw
  obtain ⟨k, hk, rfl⟩ := List.mem_map.mp hw
  have hk := List.mem_range.mp hk
  match k, hk with
  | 0, _ => exact kw_182
  | 1, _ => exact kw_184
  | 2, _ => exact kw_186
  | 3, _ => exact kw_188
  | 4, _ => exact kw_190
  | 5, _ => exact kw_192
  | 6, _ => exact kw_194
theorem inG_X8 : ∀ w ∈ u_ws RX8 TX8 20, w ∈ wsG := by
  intro w hw
  obtain ⟨k, hk, rfl⟩ := List.mem_map.mp hw
  have hk := List.mem_range.mp hk
  match k, hk with
  | 0, _ => exact kw_531
  | 1, _ => exact kw_533
  | 2, _ => exact kw_535
  | 3, _ => exact kw_537
  | 4, _ => exact kw_539
  | 5, _ => exact kw_541
  | 6, _ => exact kw_543
  | 7, _ => exact kw_545
  | 8, _ => exact kw_547
  | 9, _ => exact kw_549
  | 10, _ => exact kw_551
  | 11, _ => exact kw_553
  | 12, _ => exact kw_555
  | 13, _ => exact kw_557
  | 14, _ => exact kw_559
  | 15, _ => exact kw_561
  | 16, _ => exact kw_563
  | 17, _ => exact kw_565
  | 18, _ => exact kw_567
  | 19, _ => exact kw_569
  | k + 20, hk => exact absurd hk (by omega)
/-! words of nest mates -/
def nestW : List Cond := [(Jvm.Cond.fieldLinkNest "WaterTwice" (69 : Nat) "WaterTwice$Steps" "load" "[I" "WaterTwice"), (Jvm.Cond.fieldLinkNest "WaterTwice$Design" (99 : Nat) "WaterTwice$Steps" "load" "[I" "WaterTwice"), (Jvm.Cond.fieldLinkNest "WaterTwice$Limits" (20 : Nat) "WaterTwice$Steps" "in" "[I" "WaterTwice"), (Jvm.Cond.fieldLinkNest "WaterTwice$Design" (63 : Nat) "WaterTwice$Steps" "in" "[I" "WaterTwice"), (Jvm.Cond.fieldLinkNest "WaterTwice$Limits" (25 : Nat) "WaterTwice$Steps" "out" "[I" "WaterTwice"), (Jvm.Cond.fieldLinkNest "WaterTwice" (77 : Nat) "WaterTwice$Steps" "lag" "[I" "WaterTwice"), (Jvm.Cond.fieldLinkNest "WaterTwice$Design" (114 : Nat) "WaterTwice$Steps" "lag" "[I" "WaterTwice"), (Jvm.Cond.fieldLinkNest "WaterTwice$Design" (44 : Nat) "WaterTwice$Steps" "size" "I" "WaterTwice"), (Jvm.Cond.fieldLinkNest "WaterTwice" (204 : Nat) "WaterTwice$Steps" "size" "I" "WaterTwice"), (Jvm.Cond.fieldLinkNest "WaterTwice" (86 : Nat) "WaterTwice$Limits" "settings" "[I" "WaterTwice"), (Jvm.Cond.fieldLinkNest "WaterTwice$Design" (92 : Nat) "WaterTwice$Fraction" "upper" "J" "WaterTwice"), (Jvm.Cond.fieldLinkNest "WaterTwice$Design" (96 : Nat) "WaterTwice$Fraction" "lower" "J" "WaterTwice"), (Jvm.Cond.fieldLinkNest "WaterTwice" (121 : Nat) "WaterTwice$Design" "fresh" "[I" "WaterTwice"), (Jvm.Cond.fieldLinkNest "WaterTwice" (124 : Nat) "WaterTwice$Design" "pipes" "[[I" "WaterTwice"), (Jvm.Cond.fieldLinkNest "WaterTwice" (146 : Nat) "WaterTwice$Design" "ends" "[LWaterTwice$Fraction;" "WaterTwice"), (Jvm.Cond.fieldLinkNest "WaterTwice" (154 : Nat) "WaterTwice$Design" "hitIn" "[I" "WaterTwice"), (Jvm.Cond.fieldLinkNest "WaterTwice" (164 : Nat) "WaterTwice$Store" "in" "[I" "WaterTwice"), (Jvm.Cond.fieldLinkNest "WaterTwice" (167 : Nat) "WaterTwice$Store" "out" "[I" "WaterTwice"), (Jvm.Cond.fieldLinkNest "WaterTwice" (181 : Nat) "WaterTwice$Meters" "reading" "[I" "WaterTwice"), (Jvm.Cond.fieldLinkNest "WaterTwice" (214 : Nat) "WaterTwice$Meters" "size" "I" "WaterTwice"), (Jvm.Cond.fieldLinkNest "WaterTwice" (83 : Nat) "WaterTwice$Limits" "MOST" "[I" "WaterTwice"), (Jvm.Cond.methodLinkNest "WaterTwice" (9 : Nat) ({ cls := "WaterTwice$Steps", name := "<init>", desc := "()V" } : Jvm.MethodName) "WaterTwice"), (Jvm.Cond.methodLinkNest "WaterTwice$Design" (43 : Nat) ({ cls := "WaterTwice$Fraction", name := "<init>", desc := "()V" } : Jvm.MethodName) "WaterTwice"), (Jvm.Cond.methodLinkNest "WaterTwice" (34 : Nat) ({ cls := "WaterTwice$Store", name := "<init>", desc := "()V" } : Jvm.MethodName) "WaterTwice"), (Jvm.Cond.methodLinkNest "WaterTwice" (41 : Nat) ({ cls := "WaterTwice$Meters", name := "<init>", desc := "()V" } : Jvm.MethodName) "WaterTwice"), (Jvm.Cond.methodLinkNest "WaterTwice" (48 : Nat) ({ cls := "WaterTwice$Fraction", name := "<init>", desc := "()V" } : Jvm.MethodName) "WaterTwice")]
theorem nestW_tbl : ∀ w ∈ nestW, w ∈ lw_tbl := by
  intro w hw
  simp only [nestW, List.mem_cons, List.not_mem_nil, or_false] at hw
  rcases hw with h | h | h | h | h | h | h | h | h | h | h | h | h | h | h | h | h | h | h | h | h | h | h | h | h | h <;> subst h
  · exact kt_47
  · exact kt_48
  · exact kt_50
  · exact kt_51
  · exact kt_53
  · exact kt_55
  · exact kt_56
  · exact kt_58
  · exact kt_59
  · exact kt_80
  · exact kt_102
  · exact kt_104
  · exact kt_113
  · exact kt_115
  · exact kt_120
  · exact kt_122
  · exact kt_147
  · exact kt_149
  · exact kt_163
  · exact kt_165
  · exact kt_232
  · exact kt_42
  · exact kt_97
  · exact kt_142
  · exact kt_157
  · exact kt_174
theorem kn_47 : (Jvm.Cond.fieldLinkNest "WaterTwice" (69 : Nat) "WaterTwice$Steps" "load" "[I" "WaterTwice") ∈ nestW := List.mem_of_getElem? (i := 0) rfl
theorem kn_48 : (Jvm.Cond.fieldLinkNest "WaterTwice$Design" (99 : Nat) "WaterTwice$Steps" "load" "[I" "WaterTwice") ∈ nestW := List.mem_of_getElem? (i := 1) rfl
theorem kn_50 : (Jvm.Cond.fieldLinkNest "WaterTwice$Limits" (20 : Nat) "WaterTwice$Steps" "in" "[I" "WaterTwice") ∈ nestW := List.mem_of_getElem? (i := 2) rfl
theorem kn_51 : (Jvm.Cond.fieldLinkNest "WaterTwice$Design" (63 : Nat) "WaterTwice$Steps" "in" "[I" "WaterTwice") ∈ nestW := List.mem_of_getElem? (i := 3) rfl
theorem kn_53 : (Jvm.Cond.fieldLinkNest "WaterTwice$Limits" (25 : Nat) "WaterTwice$Steps" "out" "[I" "WaterTwice") ∈ nestW := List.mem_of_getElem? (i := 4) rfl
theorem kn_55 : (Jvm.Cond.fieldLinkNest "WaterTwice" (77 : Nat) "WaterTwice$Steps" "lag" "[I" "WaterTwice") ∈ nestW := List.mem_of_getElem? (i := 5) rfl
theorem kn_56 : (Jvm.Cond.fieldLinkNest "WaterTwice$Design" (114 : Nat) "WaterTwice$Steps" "lag" "[I" "WaterTwice") ∈ nestW := List.mem_of_getElem? (i := 6) rfl
theorem kn_58 : (Jvm.Cond.fieldLinkNest "WaterTwice$Design" (44 : Nat) "WaterTwice$Steps" "size" "I" "WaterTwice") ∈ nestW := List.mem_of_getElem? (i := 7) rfl
theorem kn_59 : (Jvm.Cond.fieldLinkNest "WaterTwice" (204 : Nat) "WaterTwice$Steps" "size" "I" "WaterTwice") ∈ nestW := List.mem_of_getElem? (i := 8) rfl
theorem kn_80 : (Jvm.Cond.fieldLinkNest "WaterTwice" (86 : Nat) "WaterTwice$Limits" "settings" "[I" "WaterTwice") ∈ nestW := List.mem_of_getElem? (i := 9) rfl
theorem kn_102 : (Jvm.Cond.fieldLinkNest "WaterTwice$Design" (92 : Nat) "WaterTwice$Fraction" "upper" "J" "WaterTwice") ∈ nestW := List.mem_of_getElem? (i := 10) rfl
theorem kn_104 : (Jvm.Cond.fieldLinkNest "WaterTwice$Design" (96 : Nat) "WaterTwice$Fraction" "lower" "J" "WaterTwice") ∈ nestW := List.mem_of_getElem? (i := 11) rfl
theorem kn_113 : (Jvm.Cond.fieldLinkNest "WaterTwice" (121 : Nat) "WaterTwice$Design" "fresh" "[I" "WaterTwice") ∈ nestW := List.mem_of_getElem? (i := 12) rfl
theorem kn_115 : (Jvm.Cond.fieldLinkNest "WaterTwice" (124 : Nat) "WaterTwice$Design" "pipes" "[[I" "WaterTwice") ∈ nestW := List.mem_of_getElem? (i := 13) rfl
theorem kn_120 : (Jvm.Cond.fieldLinkNest "WaterTwice" (146 : Nat) "WaterTwice$Design" "ends" "[LWaterTwice$Fraction;" "WaterTwice") ∈ nestW := List.mem_of_getElem? (i := 14) rfl
theorem kn_122 : (Jvm.Cond.fieldLinkNest "WaterTwice" (154 : Nat) "WaterTwice$Design" "hitIn" "[I" "WaterTwice") ∈ nestW := List.mem_of_getElem? (i := 15) rfl
theorem kn_147 : (Jvm.Cond.fieldLinkNest "WaterTwice" (164 : Nat) "WaterTwice$Store" "in" "[I" "WaterTwice") ∈ nestW := List.mem_of_getElem? (i := 16) rfl
theorem kn_149 : (Jvm.Cond.fieldLinkNest "WaterTwice" (167 : Nat) "WaterTwice$Store" "out" "[I" "WaterTwice") ∈ nestW := List.mem_of_getElem? (i := 17) rfl
theorem kn_163 : (Jvm.Cond.fieldLinkNest "WaterTwice" (181 : Nat) "WaterTwice$Meters" "reading" "[I" "WaterTwice") ∈ nestW := List.mem_of_getElem? (i := 18) rfl
theorem kn_165 : (Jvm.Cond.fieldLinkNest "WaterTwice" (214 : Nat) "WaterTwice$Meters" "size" "I" "WaterTwice") ∈ nestW := List.mem_of_getElem? (i := 19) rfl
theorem kn_232 : (Jvm.Cond.fieldLinkNest "WaterTwice" (83 : Nat) "WaterTwice$Limits" "MOST" "[I" "WaterTwice") ∈ nestW := List.mem_of_getElem? (i := 20) rfl
theorem kn_42 : (Jvm.Cond.methodLinkNest "WaterTwice" (9 : Nat) ({ cls := "WaterTwice$Steps", name := "<init>", desc := "()V" } : Jvm.MethodName) "WaterTwice") ∈ nestW := List.mem_of_getElem? (i := 21) rfl
theorem kn_97 : (Jvm.Cond.methodLinkNest "WaterTwice$Design" (43 : Nat) ({ cls := "WaterTwice$Fraction", name := "<init>", desc := "()V" } : Jvm.MethodName) "WaterTwice") ∈ nestW := List.mem_of_getElem? (i := 22) rfl
theorem kn_142 : (Jvm.Cond.methodLinkNest "WaterTwice" (34 : Nat) ({ cls := "WaterTwice$Store", name := "<init>", desc := "()V" } : Jvm.MethodName) "WaterTwice") ∈ nestW := List.mem_of_getElem? (i := 23) rfl
theorem kn_157 : (Jvm.Cond.methodLinkNest "WaterTwice" (41 : Nat) ({ cls := "WaterTwice$Meters", name := "<init>", desc := "()V" } : Jvm.MethodName) "WaterTwice") ∈ nestW := List.mem_of_getElem? (i := 24) rfl
theorem kn_174 : (Jvm.Cond.methodLinkNest "WaterTwice" (48 : Nat) ({ cls := "WaterTwice$Fraction", name := "<init>", desc := "()V" } : Jvm.MethodName) "WaterTwice") ∈ nestW := List.mem_of_getElem? (i := 25) rfl
/-- a nest mate's words hold -/
def nsX (U : State) : Prop := ∀ w ∈ nestW, va_Nw w U
theorem nsX_warm {s U : State} (hW : s.WarmedH U.vm) (h : nsX s) : nsX U := by
  intro w hw
  have hz := h w hw
  have key : (∃ a i b n d q, w = .fieldLinkNest a i b n d q) ∨ (∃ a i x q, w = .methodLinkNest a i x q) := by
    simp only [nestW, List.mem_cons, List.not_mem_nil, or_false] at hw
    rcases hw with e | e | e | e | e | e | e | e | e | e | e | e | e | e | e | e | e | e | e | e | e | e | e | e | e | e <;> subst e <;> first | exact Or.inl ⟨_, _, _, _, _, _, rfl⟩ | exact Or.inr ⟨_, _, _, _, rfl⟩
  rcases key with ⟨a, i, b, n, d, q, rfl⟩ | ⟨a, i, x, q, rfl⟩
  · exact va_Nw.warmF hW hz
  · exact va_Nw.warmM hW hz
theorem nsX_same {u U : State} (h : u.vm = U.vm) (hz : nsX u) : nsX U := by
  intro w hw
  have hq := hz w hw
  have key : w.onTables = true := by
    simp only [nestW, List.mem_cons, List.not_mem_nil, or_false] at hw
    rcases hw with e | e | e | e | e | e | e | e | e | e | e | e | e | e | e | e | e | e | e | e | e | e | e | e | e | e <;> subst e <;> rfl
  exact va_Nw.same key h hq
/-! the class's cells: int rows 0 .. 17 (0 load, 1 in, 2 out, 3 lag, 4 settings, 5 fresh, 6 .. 10 pipes, 11 taken, 12 order, 13 hitIn, 14 in, 15 out of the store, 16 sign, 17 reading), fractions 18 .. 28 (answer, comes, ends), 29 WaterTwice, 30 Steps, 31 Limits, 32 Design, 33 Store, 34 Meters, 35 pipes, 36 comes, 37 ends -/
abbrev UX : Type := (Nat → Nat → Int32) × (Nat → Int64 × Int64) × Int32 × Int32 × Int64
def la (k : Nat) : Nat := if k = 4 then 3 else if k = 14 then 24 else if k = 15 then 24 else if k = 16 then 8 else if k = 17 then 8 else 5
theorem la_row {i : Nat} (h : i < 5) : la (6 + i) = 5 := by
  unfold la
  rw [if_neg (by omega), if_neg (by omega), if_neg (by omega), if_neg (by omega), if_neg (by omega)]
def xe (ad : Nat → Nat) (cs : Nat → ClassId) (u : UX) (k : Nat) : va_E :=
  if k < 18 then .inl (if k = 11 then cs 1 else cs 0, la k, .inl (u.1 k))
  else if k < 29 then .inr (1, [.long (u.2.1 k).1, .long (u.2.1 k).2])
  else if k = 29 then .inr (6, [.ref (ad 30), .ref (ad 31), .ref (ad 32), .ref (ad 33), .ref (ad 34), .ref (ad 18), .long u.2.2.2.2])
  else if k = 30 then .inr (4, [.ref (ad 0), .ref (ad 1), .ref (ad 2), .ref (ad 3), .int u.2.2.1])
  else if k = 31 then .inr (2, [.ref (ad 30), .ref (ad 4)])
  else if k = 32 then .inr (0, [.ref (ad 30), .ref (ad 5), .ref (ad 35), .ref (ad 11), .ref (ad 12), .ref (ad 36), .ref (ad 37), .ref (ad 13)])
  else if k = 33 then .inr (5, [.ref (ad 14), .ref (ad 15)])
  else if k = 34 then .inr (3, [.ref (ad 16), .ref (ad 17), .int u.2.2.2.1])
  else if k = 35 then .inl (cs 2, 5, .inr (.inr (.inr (.inr (fun j => some (ad (6 + j)))))))
  else if k = 36 then .inl (cs 3, 5, .inr (.inr (.inr (.inr (fun j => some (ad (19 + j)))))))
  else .inl (cs 3, 5, .inr (.inr (.inr (.inr (fun j => some (ad (24 + j)))))))
def wX (ad : Nat → Nat) (cs : Nat → ClassId) (u : UX) : va_W := (List.range 38).map (fun k => (ad k, xe ad cs u k))
abbrev tyX (cs : Nat → ClassId) : List (ClassId × FieldType) := [(cs 0, .int), (cs 1, .boolean), (cs 2, .array .int), (cs 3, .object RX2)]
def AX (ad : Nat → Nat) : Nat → Prop := fun q => ∃ k, k < 38 ∧ q = ad k
def XJ (ad : Nat → Nat) : Prop := ∀ i j, i < 38 → j < 38 → ad i = ad j → i = j
def mostV (j : Nat) : Value := if j = 0 then .int 100 else if j = 1 then .int 40 else .int 2
def xC (D : va_G) (ad : Nat → Nat) (cs : Nat → ClassId) (tM : Nat) (s : State) : Prop := va_K D vwCl (tyX cs) s ∧ XJ ad ∧ nsX s ∧ va_Z RX3 "MOST" "[I" (.ref tM) (AX ad) s s.heap ∧ va_T .int tM 3 mostV (AX ad) s s.heap
section XW
variable {ad : Nat → Nat} {cs : Nat → ClassId} {u : UX} {D : va_G} {tM : Nat}
theorem wX_at {k : Nat} (h : k < 38) : (wX ad cs u)[k]? = some (ad k, xe ad cs u k) := by
  unfold wX
  rw [List.getElem?_map, List.getElem?_range h]
  rfl
theorem wX_of {k : Nat} {q : Nat × va_E} (h : (wX ad cs u)[k]? = some q) : k < 38 ∧ q = (ad k, xe ad cs u k) := by
  have hk : k < 38 := by
    have := (List.getElem?_eq_some_iff.mp h).1
    simpa [wX] using this
  rw [wX_at hk] at h
  cases h
  exact ⟨hk, rfl⟩
theorem wX_D (hJ : XJ ad) : va_D (AX ad) (wX ad cs u) := by
  refine ⟨fun i j p q hi hj hpq => ?_, fun k q hk => ?_⟩
  · obtain ⟨h1, rfl⟩ := wX_of hi
    obtain ⟨h2, rfl⟩ := wX_of hj
    exact hJ i j h1 h2 hpq
  · obtain ⟨h1, rfl⟩ := wX_of hk
    exact ⟨k, h1, rfl⟩
theorem wX_set {k : Nat} {e : va_E} {u1 : UX} (hk : k < 38) (h1 : xe ad cs u1 k = e) (h2 : ∀ j, j < 38 → j ≠ k → xe ad cs u1 j = xe ad cs u j) : (wX ad cs u).set k (ad k, e) = wX ad cs u1 := by
  apply List.ext_getElem?
  intro j
  by_cases hj : j < 38
  · rw [wX_at hj]
    by_cases e1 : j = k
    · subst e1
      rw [List.getElem?_set_self (by simp [wX]; omega), h1]
    · rw [List.getElem?_set_ne (Ne.symm e1), wX_at hj, h2 j hj e1]
  · rw [List.getElem?_eq_none (by simp [wX]; omega), List.getElem?_eq_none (by simp [wX]; omega)]
theorem xC_ok (D : va_G) (ad : Nat → Nat) (cs : Nat → ClassId) (tM : Nat) (hJ : XJ ad) : WSok D (wX ad cs) (AX ad) (xC D ad cs tM) := by
  refine ⟨fun u => wX_D hJ, fun U g mk a h => ?_, fun s U H locs h hU hW hS => ?_⟩
  · obtain ⟨h1, h2, h3, h4, h5⟩ := h
    exact ⟨va_K.moved (u := U) (U := U.calling g mk a) (Vm.Alike.refl U.vm) h1, h2, nsX_same (u := U) (U := U.calling g mk a) rfl h3, va_Z.moved (u := U) (U := U.calling g mk a) (Vm.Alike.refl U.vm) h4, va_T.moved (u := U) (U := U.calling g mk a) (Vm.Alike.refl U.vm) h5⟩
  · obtain ⟨h1, h2, h3, h4, h5⟩ := h
    subst hU
    exact ⟨va_K.moved hW.alike h1, h2, nsX_warm hW h3, va_Z.moved hW.alike (va_Z.kept h4 hS.2.1), va_T.moved hW.alike (va_T.kept h5 hS.2.1)⟩
/-! what stands where -/
theorem x_arr {k n : Nat} (h : k < 18) (hz : ¬ k = 11) (hn : la k = n) : (wX ad cs u)[k]? = some (ad k, .inl (cs 0, n, .inl (u.1 k))) := by
  rw [wX_at (by omega)]
  unfold xe
  rw [if_pos h, if_neg hz, hn]
theorem x_tak : (wX ad cs u)[11]? = some (ad 11, .inl (cs 1, 5, .inl (u.1 11))) := by
  rw [wX_at (by omega)]
  rfl
theorem x_fra {q : Nat} (h1 : 18 ≤ q) (h2 : q < 29) : (wX ad cs u)[q]? = some (ad q, .inr (1, [.long (u.2.1 q).1, .long (u.2.1 q).2])) := by
  rw [wX_at (by omega)]
  unfold xe
  rw [if_neg (by omega), if_pos h2]
theorem x_o29 : (wX ad cs u)[29]? = some (ad 29, .inr (6, [.ref (ad 30), .ref (ad 31), .ref (ad 32), .ref (ad 33), .ref (ad 34), .ref (ad 18), .long u.2.2.2.2])) := by
  rw [wX_at (by omega)]; rfl
theorem x_o30 : (wX ad cs u)[30]? = some (ad 30, .inr (4, [.ref (ad 0), .ref (ad 1), .ref (ad 2), .ref (ad 3), .int u.2.2.1])) := by
  rw [wX_at (by omega)]; rfl
theorem x_o31 : (wX ad cs u)[31]? = some (ad 31, .inr (2, [.ref (ad 30), .ref (ad 4)])) := by
  rw [wX_at (by omega)]; rfl
theorem x_o32 : (wX ad cs u)[32]? = some (ad 32, .inr (0, [.ref (ad 30), .ref (ad 5), .ref (ad 35), .ref (ad 11), .ref (ad 12), .ref (ad 36), .ref (ad 37), .ref (ad 13)])) := by
  rw [wX_at (by omega)]; rfl
theorem x_o33 : (wX ad cs u)[33]? = some (ad 33, .inr (5, [.ref (ad 14), .ref (ad 15)])) := by
  rw [wX_at (by omega)]; rfl
theorem x_o34 : (wX ad cs u)[34]? = some (ad 34, .inr (3, [.ref (ad 16), .ref (ad 17), .int u.2.2.2.1])) := by
  rw [wX_at (by omega)]; rfl
theorem x_o35 : (wX ad cs u)[35]? = some (ad 35, .inl (cs 2, 5, .inr (.inr (.inr (.inr (fun j => some (ad (6 + j)))))))) := by
  rw [wX_at (by omega)]; rfl
theorem x_o36 : (wX ad cs u)[36]? = some (ad 36, .inl (cs 3, 5, .inr (.inr (.inr (.inr (fun j => some (ad (19 + j)))))))) := by
  rw [wX_at (by omega)]; rfl
theorem x_o37 : (wX ad cs u)[37]? = some (ad 37, .inl (cs 3, 5, .inr (.inr (.inr (.inr (fun j => some (ad (24 + j)))))))) := by
  rw [wX_at (by omega)]; rfl
end XW
/-! changes of the state -/
def xst (u : UX) (k j : Nat) (x : Int32) : UX := (fun a => if a = k then upd (u.1 k) j x else u.1 a, u.2)
def xfU (u : UX) (q : Nat) (v : Int64) : UX := (u.1, fun a => if a = q then (v, (u.2.1 q).2) else u.2.1 a, u.2.2)
def xfL (u : UX) (q : Nat) (v : Int64) : UX := (u.1, fun a => if a = q then ((u.2.1 q).1, v) else u.2.1 a, u.2.2)
def xsz (u : UX) (v : Int32) : UX := (u.1, u.2.1, v, u.2.2.2)
def xms (u : UX) (v : Int32) : UX := (u.1, u.2.1, u.2.2.1, v, u.2.2.2.2)
def xtr (u : UX) (v : Int64) : UX := (u.1, u.2.1, u.2.2.1, u.2.2.2.1, v)
section XR
variable {p : Program} {l : Launch} {e : Env} {R : Room} {s : State} {m : MethodId} {args : Array Value} {below : List Frame} {meth : Method} {c : Code} {H : Heap} {locs : List Loc} {cells slots : Nat} {Q : State → Prop}
variable {D : va_G} {ad : Nat → Nat} {cs : Nat → ClassId} {u : UX} {cc : ByteArray} {pc : Nat} {own : String} {rest : List Value} {ls : Array Slot} {index : Nat}
theorem x_iald {k n : Nat} {i : Int32} (hexec : p.tables.exec = Jvm.exec) (hb : c.code = cc) (hK : va_K D vwCl (tyX cs) s) (hP : va_P D vwCl (wX ad cs u) H) (hk : k < 18) (hz : ¬ k = 11) (hn : la k = n) (hin : vin i n = true) (hdg : decode cc pc = .ok (.iaload, 1))
    (kk : W p l e R s m args below meth c H locs cells slots Q (F0 m (pc + 1) ls (.int (u.1 k i.toNatClampNeg) :: rest))) : W p l e R s m args below meth c H locs cells slots Q (F0 m pc ls (.int i :: .ref (ad k) :: rest)) :=
  va_iald hexec hb hK hP k 0 (x_arr hk hz hn) rfl (vin_ok hin) hdg kk
theorem x_zald {i : Int32} (hexec : p.tables.exec = Jvm.exec) (hb : c.code = cc) (hK : va_K D vwCl (tyX cs) s) (hP : va_P D vwCl (wX ad cs u) H) (hin : vin i 5 = true) (hdg : decode cc pc = .ok (.baload, 1))
    (kk : W p l e R s m args below meth c H locs cells slots Q (F0 m (pc + 1) ls (.int (u.1 11 i.toNatClampNeg) :: rest))) : W p l e R s m args below meth c H locs cells slots Q (F0 m pc ls (.int i :: .ref (ad 11) :: rest)) :=
  va_zald hexec hb hK hP 11 1 x_tak rfl (vin_ok hin) hdg kk
theorem x_iast {k n : Nat} {i x : Int32} (hexec : p.tables.exec = Jvm.exec) (hb : c.code = cc) (hK : va_K D vwCl (tyX cs) s) (hP : va_P D vwCl (wX ad cs u) H) (hJ : XJ ad) (hS : va_S (AX ad) s.heap H locs) (hk : k < 18) (hz : ¬ k = 11) (hn : la k = n) (hin : vin i n = true) (hdg : decode cc pc = .ok (.iastore, 1))
    (kk : ∀ (H : Heap) (locs : List Loc), va_P D vwCl (wX ad cs (xst u k i.toNatClampNeg x)) H → va_S (AX ad) s.heap H locs → W p l e R s m args below meth c H locs cells slots Q (F0 m (pc + 1) ls rest)) : W p l e R s m args below meth c H locs cells slots Q (F0 m pc ls (.int x :: .int i :: .ref (ad k) :: rest)) := by
  refine va_iast hexec hb hK hP (wX_D hJ) hS k 0 (x_arr hk hz hn) rfl (vin_ok hin) hdg (fun H1 locs1 hP1 _ hS1 => kk H1 locs1 ?_ hS1)
  rw [wX_set (u1 := xst u k i.toNatClampNeg x) (by omega)] at hP1
  · exact hP1
  · unfold xe xst
    rw [if_pos hk, if_neg hz, hn]
    simp
  · intro j hj hne
    unfold xe xst
    simp [hne]
theorem x_zast {i x : Int32} (hexec : p.tables.exec = Jvm.exec) (hb : c.code = cc) (hK : va_K D vwCl (tyX cs) s) (hP : va_P D vwCl (wX ad cs u) H) (hJ : XJ ad) (hS : va_S (AX ad) s.heap H locs) (hx : vp_nar .boolean x = x) (hin : vin i 5 = true) (hdg : decode cc pc = .ok (.bastore, 1))
    (kk : ∀ (H : Heap) (locs : List Loc), va_P D vwCl (wX ad cs (xst u 11 i.toNatClampNeg x)) H → va_S (AX ad) s.heap H locs → W p l e R s m args below meth c H locs cells slots Q (F0 m (pc + 1) ls rest)) : W p l e R s m args below meth c H locs cells slots Q (F0 m pc ls (.int x :: .int i :: .ref (ad 11) :: rest)) := by
  refine va_zast hexec hb hK hP (wX_D hJ) hS 11 1 x_tak rfl (vin_ok hin) hdg (fun H1 locs1 hP1 _ hS1 => kk H1 locs1 ?_ hS1)
  rw [hx, wX_set (u1 := xst u 11 i.toNatClampNeg x) (by omega)] at hP1
  · exact hP1
  · rfl
  · intro j hj hne
    unfold xe xst
    simp [hne]
theorem x_alen {k : Nat} (hexec : p.tables.exec = Jvm.exec) (hb : c.code = cc) (hK : va_K D vwCl (tyX cs) s) (hP : va_P D vwCl (wX ad cs u) H) (hk : k < 18) (hz : ¬ k = 11) (hdg : decode cc pc = .ok (.arraylength, 1))
    (kk : W p l e R s m args below meth c H locs cells slots Q (F0 m (pc + 1) ls (.int (Int32.ofNat (la k)) :: rest))) : W p l e R s m args below meth c H locs cells slots Q (F0 m pc ls (.ref (ad k) :: rest)) :=
  va_alen hexec hb hK hP k 0 (x_arr hk hz rfl) rfl rfl hdg kk
theorem x_ald35 {i : Int32} (hexec : p.tables.exec = Jvm.exec) (hb : c.code = cc) (hK : va_K D vwCl (tyX cs) s) (hP : va_P D vwCl (wX ad cs u) H) (hin : vin i 5 = true) (hdg : decode cc pc = .ok (.aaload, 1))
    (kk : W p l e R s m args below meth c H locs cells slots Q (F0 m (pc + 1) ls (.ref (ad (6 + i.toNatClampNeg)) :: rest))) : W p l e R s m args below meth c H locs cells slots Q (F0 m pc ls (.int i :: .ref (ad 35) :: rest)) :=
  va_aldA hexec hb hK hP 35 2 x_o35 rfl (vin_ok hin) hdg kk
theorem x_ald36 {i : Int32} (hexec : p.tables.exec = Jvm.exec) (hb : c.code = cc) (hK : va_K D vwCl (tyX cs) s) (hP : va_P D vwCl (wX ad cs u) H) (hin : vin i 5 = true) (hdg : decode cc pc = .ok (.aaload, 1))
    (kk : W p l e R s m args below meth c H locs cells slots Q (F0 m (pc + 1) ls (.ref (ad (19 + i.toNatClampNeg)) :: rest))) : W p l e R s m args below meth c H locs cells slots Q (F0 m pc ls (.int i :: .ref (ad 36) :: rest)) :=
  va_aldq hexec hb hK hP 36 3 x_o36 rfl (vin_ok hin) hdg kk
theorem x_ald37 {i : Int32} (hexec : p.tables.exec = Jvm.exec) (hb : c.code = cc) (hK : va_K D vwCl (tyX cs) s) (hP : va_P D vwCl (wX ad cs u) H) (hin : vin i 5 = true) (hdg : decode cc pc = .ok (.aaload, 1))
    (kk : W p l e R s m args below meth c H locs cells slots Q (F0 m (pc + 1) ls (.ref (ad (24 + i.toNatClampNeg)) :: rest))) : W p l e R s m args below meth c H locs cells slots Q (F0 m pc ls (.int i :: .ref (ad 37) :: rest)) :=
  va_aldq hexec hb hK hP 37 3 x_o37 rfl (vin_ok hin) hdg kk
theorem x_putU {q : Nat} {v : Int64} (hexec : p.tables.exec = Jvm.exec) (hb : c.code = cc) (hg : ∀ w ∈ wsG, w.before args s = true) (hown : s.vm.findClass RX2 = some m.cls) (hK : va_K D vwCl (tyX cs) s) (hP : va_P D vwCl (wX ad cs u) H) (hJ : XJ ad) (hS : va_S (AX ad) s.heap H locs) (h1 : 18 ≤ q) (h2 : q < 29) (hl : (Cond.fieldLink RX2 index RX2 "upper" "J").before args s = true) (hdg : decode cc pc = .ok (.putfield index, 3))
    (kk : ∀ (H : Heap) (locs : List Loc), va_P D vwCl (wX ad cs (xfU u q v)) H → va_S (AX ad) s.heap H locs → W p l e R s m args below meth c H locs cells slots Q (F0 m (pc + 3) ls rest)) : W p l e R s m args below meth c H locs cells slots Q (F0 m pc ls (.long v :: .ref (ad q) :: rest)) := by
  refine va_put (ci := 1) (v := .long v) (ty := .long) (C := RX2) (T := TX2) (N := 2) hexec hb hg inG_X2 tyX2 tyX2_ok nmX2 hown hK hP (wX_D hJ) hS q (x_fra h1 h2) rfl 0 (by decide) hl (fun _ h9 => h9) rfl (by decide +kernel) rfl rfl (Nat.le_of_ble_eq_true rfl) hdg (fun H1 locs1 hP1 _ hS1 => kk H1 locs1 ?_ hS1)
  rw [wX_set (u1 := xfU u q v) (by omega)] at hP1
  · exact hP1
  · unfold xe xfU
    rw [if_neg (by omega), if_pos h2]
    simp
  · intro j hj hne
    unfold xe xfU
    simp [hne]
theorem x_putL {q : Nat} {v : Int64} (hexec : p.tables.exec = Jvm.exec) (hb : c.code = cc) (hg : ∀ w ∈ wsG, w.before args s = true) (hown : s.vm.findClass RX2 = some m.cls) (hK : va_K D vwCl (tyX cs) s) (hP : va_P D vwCl (wX ad cs u) H) (hJ : XJ ad) (hS : va_S (AX ad) s.heap H locs) (h1 : 18 ≤ q) (h2 : q < 29) (hl : (Cond.fieldLink RX2 index RX2 "lower" "J").before args s = true) (hdg : decode cc pc = .ok (.putfield index, 3))
    (kk : ∀ (H : Heap) (locs : List Loc), va_P D vwCl (wX ad cs (xfL u q v)) H → va_S (AX ad) s.heap H locs → W p l e R s m args below meth c H locs cells slots Q (F0 m (pc + 3) ls rest)) : W p l e R s m args below meth c H locs cells slots Q (F0 m pc ls (.long v :: .ref (ad q) :: rest)) := by
  refine va_put (ci := 1) (v := .long v) (ty := .long) (C := RX2) (T := TX2) (N := 2) hexec hb hg inG_X2 tyX2 tyX2_ok nmX2 hown hK hP (wX_D hJ) hS q (x_fra h1 h2) rfl 1 (by decide) hl (fun _ h9 => h9) rfl (by decide +kernel) rfl rfl (Nat.le_of_ble_eq_true rfl) hdg (fun H1 locs1 hP1 _ hS1 => kk H1 locs1 ?_ hS1)
  rw [wX_set (u1 := xfL u q v) (by omega)] at hP1
  · exact hP1
  · unfold xe xfL
    rw [if_neg (by omega), if_pos h2]
    simp
  · intro j hj hne
    unfold xe xfL
    simp [hne]
theorem x_putN {v : Int32} (hexec : p.tables.exec = Jvm.exec) (hb : c.code = cc) (hg : ∀ w ∈ wsG, w.before args s = true) (hown : s.vm.findClass RX5 = some m.cls) (hK : va_K D vwCl (tyX cs) s) (hP : va_P D vwCl (wX ad cs u) H) (hJ : XJ ad) (hS : va_S (AX ad) s.heap H locs) (hl : (Cond.fieldLink RX5 index RX5 "size" "I").before args s = true) (hdg : decode cc pc = .ok (.putfield index, 3))
    (kk : ∀ (H : Heap) (locs : List Loc), va_P D vwCl (wX ad cs (xsz u v)) H → va_S (AX ad) s.heap H locs → W p l e R s m args below meth c H locs cells slots Q (F0 m (pc + 3) ls rest)) : W p l e R s m args below meth c H locs cells slots Q (F0 m pc ls (.int v :: .ref (ad 30) :: rest)) := by
  refine va_put (ci := 4) (v := .int v) (ty := .int) (C := RX5) (T := TX5) (N := 5) hexec hb hg inG_X5 tyX5 tyX5_ok nmX5 hown hK hP (wX_D hJ) hS 30 x_o30 rfl 4 (by decide) hl (fun _ h9 => h9) rfl (by decide +kernel) rfl rfl (Nat.le_of_ble_eq_true rfl) hdg (fun H1 locs1 hP1 _ hS1 => kk H1 locs1 ?_ hS1)
  rw [wX_set (u1 := xsz u v) (by omega)] at hP1
  · exact hP1
  · rfl
  · intro j hj hne
    unfold xe xsz
    simp [hne]
theorem x_putM {v : Int32} (hexec : p.tables.exec = Jvm.exec) (hb : c.code = cc) (hg : ∀ w ∈ wsG, w.before args s = true) (hown : s.vm.findClass RX4 = some m.cls) (hK : va_K D vwCl (tyX cs) s) (hP : va_P D vwCl (wX ad cs u) H) (hJ : XJ ad) (hS : va_S (AX ad) s.heap H locs) (hl : (Cond.fieldLink RX4 index RX4 "size" "I").before args s = true) (hdg : decode cc pc = .ok (.putfield index, 3))
    (kk : ∀ (H : Heap) (locs : List Loc), va_P D vwCl (wX ad cs (xms u v)) H → va_S (AX ad) s.heap H locs → W p l e R s m args below meth c H locs cells slots Q (F0 m (pc + 3) ls rest)) : W p l e R s m args below meth c H locs cells slots Q (F0 m pc ls (.int v :: .ref (ad 34) :: rest)) := by
  refine va_put (ci := 3) (v := .int v) (ty := .int) (C := RX4) (T := TX4) (N := 3) hexec hb hg inG_X4 tyX4 tyX4_ok nmX4 hown hK hP (wX_D hJ) hS 34 x_o34 rfl 2 (by decide) hl (fun _ h9 => h9) rfl (by decide +kernel) rfl rfl (Nat.le_of_ble_eq_true rfl) hdg (fun H1 locs1 hP1 _ hS1 => kk H1 locs1 ?_ hS1)
  rw [wX_set (u1 := xms u v) (by omega)] at hP1
  · exact hP1
  · rfl
  · intro j hj hne
    unfold xe xms
    simp [hne]
theorem x_putT {v : Int64} (hexec : p.tables.exec = Jvm.exec) (hb : c.code = cc) (hg : ∀ w ∈ wsG, w.before args s = true) (hown : s.vm.findClass RX7 = some m.cls) (hK : va_K D vwCl (tyX cs) s) (hP : va_P D vwCl (wX ad cs u) H) (hJ : XJ ad) (hS : va_S (AX ad) s.heap H locs) (hl : (Cond.fieldLink RX7 index RX7 "traced" "J").before args s = true) (hdg : decode cc pc = .ok (.putfield index, 3))
    (kk : ∀ (H : Heap) (locs : List Loc), va_P D vwCl (wX ad cs (xtr u v)) H → va_S (AX ad) s.heap H locs → W p l e R s m args below meth c H locs cells slots Q (F0 m (pc + 3) ls rest)) : W p l e R s m args below meth c H locs cells slots Q (F0 m pc ls (.long v :: .ref (ad 29) :: rest)) := by
  refine va_put (ci := 6) (v := .long v) (ty := .long) (C := RX7) (T := TX7) (N := 7) hexec hb hg inG_X7 tyX7 tyX7_ok nmX7 hown hK hP (wX_D hJ) hS 29 x_o29 rfl 6 (by decide) hl (fun _ h9 => h9) rfl (by decide +kernel) rfl rfl (Nat.le_of_ble_eq_true rfl) hdg (fun H1 locs1 hP1 _ hS1 => kk H1 locs1 ?_ hS1)
  rw [wX_set (u1 := xtr u v) (by omega)] at hP1
  · exact hP1
  · rfl
  · intro j hj hne
    unfold xe xtr
    simp [hne]
end XR
end
section
/-! the reference's cells: int rows 0 .. 11 (0 load, 1 in, 2 out, 3 lag, 4 rules, 5 fresh, 6 pipe, 7 isTaken, 8 hits, 9 store, 10 sign, 11 reading), long rows 12 .. 15 (upper, lower, comesUpper, comesLower), 16 the object -/
abbrev UM : Type := (Nat → Nat → Int32) × (Nat → Nat → Int64) × Int64 × Int32 × Int32
def lm (k : Nat) : Nat := if k = 4 then 3 else if k = 6 then 25 else if k = 9 then 48 else if k = 10 then 8 else if k = 11 then 8 else 5
def me (am : Nat → Nat) (cm : Nat → ClassId) (v : UM) (k : Nat) : va_E :=
  if k < 12 then .inl (if k = 7 then cm 1 else cm 0, lm k, .inl (v.1 k))
  else if k < 16 then .inl (cm 2, 5, .inr (.inl (v.2.1 k)))
  else .inr (7, [.int 0, .long v.2.2.1, .int v.2.2.2.1, .ref (am 0), .ref (am 1), .ref (am 2), .ref (am 3), .ref (am 4), .ref (am 5), .ref (am 6), .ref (am 12), .ref (am 13), .ref (am 14), .ref (am 15), .ref (am 7), .ref (am 8), .ref (am 9), .int v.2.2.2.2, .ref (am 10), .ref (am 11)])
def wM (am : Nat → Nat) (cm : Nat → ClassId) (v : UM) : va_W := (List.range 17).map (fun k => (am k, me am cm v k))
abbrev tyM (cm : Nat → ClassId) : List (ClassId × FieldType) := [(cm 0, .int), (cm 1, .boolean), (cm 2, .long)]
def AM (am : Nat → Nat) : Nat → Prop := fun q => ∃ k, k < 17 ∧ q = am k
def MJ (am : Nat → Nat) : Prop := ∀ i j, i < 17 → j < 17 → am i = am j → i = j
def mC (D : va_G) (am : Nat → Nat) (cm : Nat → ClassId) (s : State) : Prop := va_K D vwCl (tyM cm) s ∧ MJ am
section MW
variable {am : Nat → Nat} {cm : Nat → ClassId} {v : UM} {D : va_G}
theorem wM_at {k : Nat} (h : k < 17) : (wM am cm v)[k]? = some (am k, me am cm v k) := by
  unfold wM
  rw [List.getElem?_map, List.getElem?_range h]
  rfl
theorem wM_of {k : Nat} {q : Nat × va_E} (h : (wM am cm v)[k]? = some q) : k < 17 ∧ q = (am k, me am cm v k) := by
  have hk : k < 17 := by
    have := (List.getElem?_eq_some_iff.mp h).1
    simpa [wM] using this
  rw [wM_at hk] at h
  cases h
  exact ⟨hk, rfl⟩
theorem wM_D (hJ : MJ am) : va_D (AM am) (wM am cm v) := by
  refine ⟨fun i j p q hi hj hpq => ?_, fun k q hk => ?_⟩
  · obtain ⟨h1, rfl⟩ := wM_of hi
    obtain ⟨h2, rfl⟩ := wM_of hj
    exact hJ i j h1 h2 hpq
  · obtain ⟨h1, rfl⟩ := wM_of hk
    exact ⟨k, h1, rfl⟩
theorem wM_set {k : Nat} {e : va_E} {v1 : UM} (hk : k < 17) (h1 : me am cm v1 k = e) (h2 : ∀ j, j < 17 → j ≠ k → me am cm v1 j = me am cm v j) : (wM am cm v).set k (am k, e) = wM am cm v1 := by
  apply List.ext_getElem?
  intro j
  by_cases hj : j < 17
  · rw [wM_at hj]
    by_cases e1 : j = k
    · subst e1
      rw [List.getElem?_set_self (by simp [wM]; omega), h1]
    · rw [List.getElem?_set_ne (Ne.symm e1), wM_at hj, h2 j hj e1]
  · rw [List.getElem?_eq_none (by simp [wM]; omega), List.getElem?_eq_none (by simp [wM]; omega)]
theorem mC_ok (D : va_G) (am : Nat → Nat) (cm : Nat → ClassId) (hJ : MJ am) : WSok D (wM am cm) (AM am) (mC D am cm) := by
  refine ⟨fun u => wM_D hJ, fun U g mk a h => ?_, fun s U H locs h hU hW hS => ?_⟩
  · obtain ⟨h1, h2⟩ := h
    exact ⟨va_K.moved (u := U) (U := U.calling g mk a) (Vm.Alike.refl U.vm) h1, h2⟩
  · obtain ⟨h1, h2⟩ := h
    exact ⟨va_K.moved hW.alike h1, h2⟩
theorem m_arr {k n : Nat} (h : k < 12) (hz : ¬ k = 7) (hn : lm k = n) : (wM am cm v)[k]? = some (am k, .inl (cm 0, n, .inl (v.1 k))) := by
  rw [wM_at (by omega)]
  unfold me
  rw [if_pos h, if_neg hz, hn]
theorem m_tak : (wM am cm v)[7]? = some (am 7, .inl (cm 1, 5, .inl (v.1 7))) := by
  rw [wM_at (by omega)]
  rfl
theorem m_lon {k : Nat} (h1 : 12 ≤ k) (h2 : k < 16) : (wM am cm v)[k]? = some (am k, .inl (cm 2, 5, .inr (.inl (v.2.1 k)))) := by
  rw [wM_at (by omega)]
  unfold me
  rw [if_neg (by omega), if_pos h2]
theorem m_o16 : (wM am cm v)[16]? = some (am 16, .inr (7, [.int 0, .long v.2.2.1, .int v.2.2.2.1, .ref (am 0), .ref (am 1), .ref (am 2), .ref (am 3), .ref (am 4), .ref (am 5), .ref (am 6), .ref (am 12), .ref (am 13), .ref (am 14), .ref (am 15), .ref (am 7), .ref (am 8), .ref (am 9), .int v.2.2.2.2, .ref (am 10), .ref (am 11)])) := by
  rw [wM_at (by omega)]; rfl
end MW
def mst (v : UM) (k j : Nat) (x : Int32) : UM := (fun a => if a = k then upd (v.1 k) j x else v.1 a, v.2)
def msl (v : UM) (k j : Nat) (x : Int64) : UM := (v.1, fun a => if a = k then vp_updL (v.2.1 k) j x else v.2.1 a, v.2.2)
def mtr (v : UM) (x : Int64) : UM := (v.1, v.2.1, x, v.2.2.2)
def msz (v : UM) (x : Int32) : UM := (v.1, v.2.1, v.2.2.1, x, v.2.2.2.2)
def mms (v : UM) (x : Int32) : UM := (v.1, v.2.1, v.2.2.1, v.2.2.2.1, x)
section MR
variable {p : Program} {l : Launch} {e : Env} {R : Room} {s : State} {m : MethodId} {args : Array Value} {below : List Frame} {meth : Method} {c : Code} {H : Heap} {locs : List Loc} {cells slots : Nat} {Q : State → Prop}
variable {D : va_G} {am : Nat → Nat} {cm : Nat → ClassId} {u : UM} {cc : ByteArray} {pc : Nat} {own : String} {rest : List Value} {ls : Array Slot} {index : Nat}
theorem m_iald {k n : Nat} {i : Int32} (hexec : p.tables.exec = Jvm.exec) (hb : c.code = cc) (hK : va_K D vwCl (tyM cm) s) (hP : va_P D vwCl (wM am cm u) H) (hk : k < 12) (hz : ¬ k = 7) (hn : lm k = n) (hin : vin i n = true) (hdg : decode cc pc = .ok (.iaload, 1))
    (kk : W p l e R s m args below meth c H locs cells slots Q (F0 m (pc + 1) ls (.int (u.1 k i.toNatClampNeg) :: rest))) : W p l e R s m args below meth c H locs cells slots Q (F0 m pc ls (.int i :: .ref (am k) :: rest)) :=
  va_iald hexec hb hK hP k 0 (m_arr hk hz hn) rfl (vin_ok hin) hdg kk
theorem m_zald {i : Int32} (hexec : p.tables.exec = Jvm.exec) (hb : c.code = cc) (hK : va_K D vwCl (tyM cm) s) (hP : va_P D vwCl (wM am cm u) H) (hin : vin i 5 = true) (hdg : decode cc pc = .ok (.baload, 1))
    (kk : W p l e R s m args below meth c H locs cells slots Q (F0 m (pc + 1) ls (.int (u.1 7 i.toNatClampNeg) :: rest))) : W p l e R s m args below meth c H locs cells slots Q (F0 m pc ls (.int i :: .ref (am 7) :: rest)) :=
  va_zald hexec hb hK hP 7 1 m_tak rfl (vin_ok hin) hdg kk
theorem m_lald {k : Nat} {i : Int32} (hexec : p.tables.exec = Jvm.exec) (hb : c.code = cc) (hK : va_K D vwCl (tyM cm) s) (hP : va_P D vwCl (wM am cm u) H) (h1 : 12 ≤ k) (h2 : k < 16) (hin : vin i 5 = true) (hdg : decode cc pc = .ok (.laload, 1))
    (kk : W p l e R s m args below meth c H locs cells slots Q (F0 m (pc + 1) ls (.long (u.2.1 k i.toNatClampNeg) :: rest))) : W p l e R s m args below meth c H locs cells slots Q (F0 m pc ls (.int i :: .ref (am k) :: rest)) :=
  va_lald hexec hb hK hP k 2 (m_lon h1 h2) rfl (vin_ok hin) hdg kk
theorem m_iast {k n : Nat} {i x : Int32} (hexec : p.tables.exec = Jvm.exec) (hb : c.code = cc) (hK : va_K D vwCl (tyM cm) s) (hP : va_P D vwCl (wM am cm u) H) (hJ : MJ am) (hS : va_S (AM am) s.heap H locs) (hk : k < 12) (hz : ¬ k = 7) (hn : lm k = n) (hin : vin i n = true) (hdg : decode cc pc = .ok (.iastore, 1))
    (kk : ∀ (H : Heap) (locs : List Loc), va_P D vwCl (wM am cm (mst u k i.toNatClampNeg x)) H → va_S (AM am) s.heap H locs → W p l e R s m args below meth c H locs cells slots Q (F0 m (pc + 1) ls rest)) : W p l e R s m args below meth c H locs cells slots Q (F0 m pc ls (.int x :: .int i :: .ref (am k) :: rest)) := by
  refine va_iast hexec hb hK hP (wM_D hJ) hS k 0 (m_arr hk hz hn) rfl (vin_ok hin) hdg (fun H1 locs1 hP1 _ hS1 => kk H1 locs1 ?_ hS1)
  rw [wM_set (v1 := mst u k i.toNatClampNeg x) (by omega)] at hP1
  · exact hP1
  · unfold me mst
    rw [if_pos hk, if_neg hz, hn]
    simp
  · intro j hj hne
    unfold me mst
    simp [hne]
theorem m_zast {i x : Int32} (hexec : p.tables.exec = Jvm.exec) (hb : c.code = cc) (hK : va_K D vwCl (tyM cm) s) (hP : va_P D vwCl (wM am cm u) H) (hJ : MJ am) (hS : va_S (AM am) s.heap H locs) (hx : vp_nar .boolean x = x) (hin : vin i 5 = true) (hdg : decode cc pc = .ok (.bastore, 1))
    (kk : ∀ (H : Heap) (locs : List Loc), va_P D vwCl (wM am cm (mst u 7 i.toNatClampNeg x)) H → va_S (AM am) s.heap H locs → W p l e R s m args below meth c H locs cells slots Q (F0 m (pc + 1) ls rest)) : W p l e R s m args below meth c H locs cells slots Q (F0 m pc ls (.int x :: .int i :: .ref (am 7) :: rest)) := by
  refine va_zast hexec hb hK hP (wM_D hJ) hS 7 1 m_tak rfl (vin_ok hin) hdg (fun H1 locs1 hP1 _ hS1 => kk H1 locs1 ?_ hS1)
  rw [hx, wM_set (v1 := mst u 7 i.toNatClampNeg x) (by omega)] at hP1
  · exact hP1
  · rfl
  · intro j hj hne
    unfold me mst
    simp [hne]
theorem m_last {k : Nat} {i : Int32} {x : Int64} (hexec : p.tables.exec = Jvm.exec) (hb : c.code = cc) (hK : va_K D vwCl (tyM cm) s) (hP : va_P D vwCl (wM am cm u) H) (hJ : MJ am) (hS : va_S (AM am) s.heap H locs) (h1 : 12 ≤ k) (h2 : k < 16) (hin : vin i 5 = true) (hdg : decode cc pc = .ok (.lastore, 1))
    (kk : ∀ (H : Heap) (locs : List Loc), va_P D vwCl (wM am cm (msl u k i.toNatClampNeg x)) H → va_S (AM am) s.heap H locs → W p l e R s m args below meth c H locs cells slots Q (F0 m (pc + 1) ls rest)) : W p l e R s m args below meth c H locs cells slots Q (F0 m pc ls (.long x :: .int i :: .ref (am k) :: rest)) := by
  refine va_last hexec hb hK hP (wM_D hJ) hS k 2 (m_lon h1 h2) rfl (vin_ok hin) hdg (fun H1 locs1 hP1 _ hS1 => kk H1 locs1 ?_ hS1)
  rw [wM_set (v1 := msl u k i.toNatClampNeg x) (by omega)] at hP1
  · exact hP1
  · unfold me msl
    rw [if_neg (by omega), if_pos h2]
    simp
  · intro j hj hne
    unfold me msl
    simp [hne]
theorem m_putZ (hexec : p.tables.exec = Jvm.exec) (hb : c.code = cc) (hg : ∀ w ∈ wsG, w.before args s = true) (hown : s.vm.findClass RX8 = some m.cls) (hK : va_K D vwCl (tyM cm) s) (hP : va_P D vwCl (wM am cm u) H) (hJ : MJ am) (hS : va_S (AM am) s.heap H locs) (hl : (Cond.fieldLink RX8 index RX8 "thrown" "I").before args s = true) (hdg : decode cc pc = .ok (.putfield index, 3))
    (kk : ∀ (H : Heap) (locs : List Loc), va_P D vwCl (wM am cm u) H → va_S (AM am) s.heap H locs → W p l e R s m args below meth c H locs cells slots Q (F0 m (pc + 3) ls rest)) : W p l e R s m args below meth c H locs cells slots Q (F0 m pc ls (.int 0 :: .ref (am 16) :: rest)) := by
  refine va_put (ci := 7) (v := .int 0) (ty := .int) (C := RX8) (T := TX8) (N := 20) hexec hb hg inG_X8 tyX8 tyX8_ok nmX8 hown hK hP (wM_D hJ) hS 16 m_o16 rfl 0 (by decide) hl (fun _ h9 => h9) rfl (by decide +kernel) rfl rfl (Nat.le_of_ble_eq_true rfl) hdg (fun H1 locs1 hP1 _ hS1 => kk H1 locs1 ?_ hS1)
  rw [wM_set (v1 := u) (by omega)] at hP1
  · exact hP1
  · rfl
  · intro j hj hne
    rfl
theorem m_putT {x : Int64} (hexec : p.tables.exec = Jvm.exec) (hb : c.code = cc) (hg : ∀ w ∈ wsG, w.before args s = true) (hown : s.vm.findClass RX8 = some m.cls) (hK : va_K D vwCl (tyM cm) s) (hP : va_P D vwCl (wM am cm u) H) (hJ : MJ am) (hS : va_S (AM am) s.heap H locs) (hl : (Cond.fieldLink RX8 index RX8 "trace" "J").before args s = true) (hdg : decode cc pc = .ok (.putfield index, 3))
    (kk : ∀ (H : Heap) (locs : List Loc), va_P D vwCl (wM am cm (mtr u x)) H → va_S (AM am) s.heap H locs → W p l e R s m args below meth c H locs cells slots Q (F0 m (pc + 3) ls rest)) : W p l e R s m args below meth c H locs cells slots Q (F0 m pc ls (.long x :: .ref (am 16) :: rest)) := by
  refine va_put (ci := 7) (v := .long x) (ty := .long) (C := RX8) (T := TX8) (N := 20) hexec hb hg inG_X8 tyX8 tyX8_ok nmX8 hown hK hP (wM_D hJ) hS 16 m_o16 rfl 1 (by decide) hl (fun _ h9 => h9) rfl (by decide +kernel) rfl rfl (Nat.le_of_ble_eq_true rfl) hdg (fun H1 locs1 hP1 _ hS1 => kk H1 locs1 ?_ hS1)
  rw [wM_set (v1 := mtr u x) (by omega)] at hP1
  · exact hP1
  · rfl
  · intro j hj hne
    have hj' : j < 16 := by omega
    unfold me mtr
    simp [hj']
theorem m_putN {x : Int32} (hexec : p.tables.exec = Jvm.exec) (hb : c.code = cc) (hg : ∀ w ∈ wsG, w.before args s = true) (hown : s.vm.findClass RX8 = some m.cls) (hK : va_K D vwCl (tyM cm) s) (hP : va_P D vwCl (wM am cm u) H) (hJ : MJ am) (hS : va_S (AM am) s.heap H locs) (hl : (Cond.fieldLink RX8 index RX8 "steps" "I").before args s = true) (hdg : decode cc pc = .ok (.putfield index, 3))
    (kk : ∀ (H : Heap) (locs : List Loc), va_P D vwCl (wM am cm (msz u x)) H → va_S (AM am) s.heap H locs → W p l e R s m args below meth c H locs cells slots Q (F0 m (pc + 3) ls rest)) : W p l e R s m args below meth c H locs cells slots Q (F0 m pc ls (.int x :: .ref (am 16) :: rest)) := by
  refine va_put (ci := 7) (v := .int x) (ty := .int) (C := RX8) (T := TX8) (N := 20) hexec hb hg inG_X8 tyX8 tyX8_ok nmX8 hown hK hP (wM_D hJ) hS 16 m_o16 rfl 2 (by decide) hl (fun _ h9 => h9) rfl (by decide +kernel) rfl rfl (Nat.le_of_ble_eq_true rfl) hdg (fun H1 locs1 hP1 _ hS1 => kk H1 locs1 ?_ hS1)
  rw [wM_set (v1 := msz u x) (by omega)] at hP1
  · exact hP1
  · rfl
  · intro j hj hne
    have hj' : j < 16 := by omega
    unfold me msz
    simp [hj']
theorem m_putM {x : Int32} (hexec : p.tables.exec = Jvm.exec) (hb : c.code = cc) (hg : ∀ w ∈ wsG, w.before args s = true) (hown : s.vm.findClass RX8 = some m.cls) (hK : va_K D vwCl (tyM cm) s) (hP : va_P D vwCl (wM am cm u) H) (hJ : MJ am) (hS : va_S (AM am) s.heap H locs) (hl : (Cond.fieldLink RX8 index RX8 "meters" "I").before args s = true) (hdg : decode cc pc = .ok (.putfield index, 3))
    (kk : ∀ (H : Heap) (locs : List Loc), va_P D vwCl (wM am cm (mms u x)) H → va_S (AM am) s.heap H locs → W p l e R s m args below meth c H locs cells slots Q (F0 m (pc + 3) ls rest)) : W p l e R s m args below meth c H locs cells slots Q (F0 m pc ls (.int x :: .ref (am 16) :: rest)) := by
  refine va_put (ci := 7) (v := .int x) (ty := .int) (C := RX8) (T := TX8) (N := 20) hexec hb hg inG_X8 tyX8 tyX8_ok nmX8 hown hK hP (wM_D hJ) hS 16 m_o16 rfl 17 (by decide) hl (fun _ h9 => h9) rfl (by decide +kernel) rfl rfl (Nat.le_of_ble_eq_true rfl) hdg (fun H1 locs1 hP1 _ hS1 => kk H1 locs1 ?_ hS1)
  rw [wM_set (v1 := mms u x) (by omega)] at hP1
  · exact hP1
  · rfl
  · intro j hj hne
    have hj' : j < 16 := by omega
    unfold me mms
    simp [hj']
end MR
end
