-- ===== PART A: goes FIRST, ahead of the names: the tables' words, and 'selects' of the private methods out of them =====
/-- a private method of a class that the tables say can be made, by its rows of tables_1 -/
def lw_okq (q : MethodName × Nat) : Prop := (q.1.cls ≠ "java/lang/invoke/MethodHandle" ∧ q.1.cls ≠ "java/lang/invoke/VarHandle") ∧ Cond.instantiable q.1.cls q.2 ∈ tables_1 ∧ Cond.privateMethod q.1 ∈ tables_1 ∧ Cond.instanceMethod q.1 ∈ tables_1
theorem lw_p0 : lw_okq (⟨"LagSolver$Histories", "pointsUpTo", "(II)I"⟩, 3) := ⟨⟨by decide +kernel, by decide +kernel⟩, List.mem_of_getElem? (i := 90) (by decide +kernel), List.mem_of_getElem? (i := 397) (by decide +kernel), List.mem_of_getElem? (i := 398) (by decide +kernel)⟩
theorem lw_p1 : lw_okq (⟨"LagSolver$Path", "bendOf", "(IIJ)J"⟩, 2) := ⟨⟨by decide +kernel, by decide +kernel⟩, List.mem_of_getElem? (i := 130) (by decide +kernel), List.mem_of_getElem? (i := 410) (by decide +kernel), List.mem_of_getElem? (i := 411) (by decide +kernel)⟩
theorem lw_p2 : lw_okq (⟨"LagSolver$Stepper", "gather", "(LLagSolver$State;II)V"⟩, 6) := ⟨⟨by decide +kernel, by decide +kernel⟩, List.mem_of_getElem? (i := 190) (by decide +kernel), List.mem_of_getElem? (i := 444) (by decide +kernel), List.mem_of_getElem? (i := 445) (by decide +kernel)⟩
theorem lw_p3 : lw_okq (⟨"LagSolver$Stepper", "guessedValue", "(III)I"⟩, 6) := ⟨⟨by decide +kernel, by decide +kernel⟩, List.mem_of_getElem? (i := 190) (by decide +kernel), List.mem_of_getElem? (i := 456) (by decide +kernel), List.mem_of_getElem? (i := 457) (by decide +kernel)⟩
theorem lw_p4 : lw_okq (⟨"LagSolver$Stepper", "guessedSlope", "(II)I"⟩, 6) := ⟨⟨by decide +kernel, by decide +kernel⟩, List.mem_of_getElem? (i := 190) (by decide +kernel), List.mem_of_getElem? (i := 463) (by decide +kernel), List.mem_of_getElem? (i := 464) (by decide +kernel)⟩
theorem lw_p5 : lw_okq (⟨"LagSolver$Breaks", "addNext", "(LLagSolver$Lags;II)V"⟩, 4) := ⟨⟨by decide +kernel, by decide +kernel⟩, List.mem_of_getElem? (i := 107) (by decide +kernel), List.mem_of_getElem? (i := 541) (by decide +kernel), List.mem_of_getElem? (i := 542) (by decide +kernel)⟩
theorem lw_p6 : lw_okq (⟨"LagSolver$Breaks", "add", "(III)V"⟩, 4) := ⟨⟨by decide +kernel, by decide +kernel⟩, List.mem_of_getElem? (i := 107) (by decide +kernel), List.mem_of_getElem? (i := 552) (by decide +kernel), List.mem_of_getElem? (i := 553) (by decide +kernel)⟩
theorem lw_p7 : lw_okq (⟨"LagSolver$Breaks", "pointsBefore", "(I)I"⟩, 4) := ⟨⟨by decide +kernel, by decide +kernel⟩, List.mem_of_getElem? (i := 107) (by decide +kernel), List.mem_of_getElem? (i := 556) (by decide +kernel), List.mem_of_getElem? (i := 557) (by decide +kernel)⟩
theorem lw_p8 : lw_okq (⟨"LagSolver$Stepper", "takeStep", "(LLagSolver$State;II)V"⟩, 6) := ⟨⟨by decide +kernel, by decide +kernel⟩, List.mem_of_getElem? (i := 190) (by decide +kernel), List.mem_of_getElem? (i := 581) (by decide +kernel), List.mem_of_getElem? (i := 582) (by decide +kernel)⟩
theorem lw_p9 : lw_okq (⟨"LagSolver$Stepper", "workOutSlopes", "(LLagSolver$State;[I)V"⟩, 6) := ⟨⟨by decide +kernel, by decide +kernel⟩, List.mem_of_getElem? (i := 190) (by decide +kernel), List.mem_of_getElem? (i := 589) (by decide +kernel), List.mem_of_getElem? (i := 590) (by decide +kernel)⟩
theorem lw_p10 : lw_okq (⟨"LagSolver$Text", "readSum", "(I)Z"⟩, 6) := ⟨⟨by decide +kernel, by decide +kernel⟩, List.mem_of_getElem? (i := 22) (by decide +kernel), List.mem_of_getElem? (i := 642) (by decide +kernel), List.mem_of_getElem? (i := 643) (by decide +kernel)⟩
theorem lw_p11 : lw_okq (⟨"LagSolver$Text", "readTerm", "(I)Z"⟩, 6) := ⟨⟨by decide +kernel, by decide +kernel⟩, List.mem_of_getElem? (i := 22) (by decide +kernel), List.mem_of_getElem? (i := 646) (by decide +kernel), List.mem_of_getElem? (i := 647) (by decide +kernel)⟩
theorem lw_p12 : lw_okq (⟨"LagSolver$Text", "readUnit", "(I)Z"⟩, 6) := ⟨⟨by decide +kernel, by decide +kernel⟩, List.mem_of_getElem? (i := 22) (by decide +kernel), List.mem_of_getElem? (i := 650) (by decide +kernel), List.mem_of_getElem? (i := 651) (by decide +kernel)⟩
theorem lw_p13 : lw_okq (⟨"LagSolver$Text", "accept", "(I)Z"⟩, 6) := ⟨⟨by decide +kernel, by decide +kernel⟩, List.mem_of_getElem? (i := 22) (by decide +kernel), List.mem_of_getElem? (i := 654) (by decide +kernel), List.mem_of_getElem? (i := 655) (by decide +kernel)⟩
theorem lw_p14 : lw_okq (⟨"LagSolver$Text", "sign", "()I"⟩, 6) := ⟨⟨by decide +kernel, by decide +kernel⟩, List.mem_of_getElem? (i := 22) (by decide +kernel), List.mem_of_getElem? (i := 658) (by decide +kernel), List.mem_of_getElem? (i := 659) (by decide +kernel)⟩
theorem lw_p15 : lw_okq (⟨"LagSolver$Text", "readBareUnit", "(I)Z"⟩, 6) := ⟨⟨by decide +kernel, by decide +kernel⟩, List.mem_of_getElem? (i := 22) (by decide +kernel), List.mem_of_getElem? (i := 663) (by decide +kernel), List.mem_of_getElem? (i := 664) (by decide +kernel)⟩
def lw_privs_1 : List (MethodName × Nat) := [(⟨"LagSolver$Histories", "pointsUpTo", "(II)I"⟩, 3), (⟨"LagSolver$Path", "bendOf", "(IIJ)J"⟩, 2), (⟨"LagSolver$Stepper", "gather", "(LLagSolver$State;II)V"⟩, 6), (⟨"LagSolver$Stepper", "guessedValue", "(III)I"⟩, 6), (⟨"LagSolver$Stepper", "guessedSlope", "(II)I"⟩, 6), (⟨"LagSolver$Breaks", "addNext", "(LLagSolver$Lags;II)V"⟩, 4), (⟨"LagSolver$Breaks", "add", "(III)V"⟩, 4), (⟨"LagSolver$Breaks", "pointsBefore", "(I)I"⟩, 4), (⟨"LagSolver$Stepper", "takeStep", "(LLagSolver$State;II)V"⟩, 6), (⟨"LagSolver$Stepper", "workOutSlopes", "(LLagSolver$State;[I)V"⟩, 6), (⟨"LagSolver$Text", "readSum", "(I)Z"⟩, 6), (⟨"LagSolver$Text", "readTerm", "(I)Z"⟩, 6), (⟨"LagSolver$Text", "readUnit", "(I)Z"⟩, 6), (⟨"LagSolver$Text", "accept", "(I)Z"⟩, 6), (⟨"LagSolver$Text", "sign", "()I"⟩, 6), (⟨"LagSolver$Text", "readBareUnit", "(I)Z"⟩, 6)]
theorem lw_r1 : ∀ q ∈ lw_privs_1, lw_okq q := List.forall_mem_cons.mpr ⟨lw_p0, List.forall_mem_cons.mpr ⟨lw_p1, List.forall_mem_cons.mpr ⟨lw_p2, List.forall_mem_cons.mpr ⟨lw_p3, List.forall_mem_cons.mpr ⟨lw_p4, List.forall_mem_cons.mpr ⟨lw_p5, List.forall_mem_cons.mpr ⟨lw_p6, List.forall_mem_cons.mpr ⟨lw_p7, List.forall_mem_cons.mpr ⟨lw_p8, List.forall_mem_cons.mpr ⟨lw_p9, List.forall_mem_cons.mpr ⟨lw_p10, List.forall_mem_cons.mpr ⟨lw_p11, List.forall_mem_cons.mpr ⟨lw_p12, List.forall_mem_cons.mpr ⟨lw_p13, List.forall_mem_cons.mpr ⟨lw_p14, List.forall_mem_cons.mpr ⟨lw_p15, fun _ h => absurd h List.not_mem_nil⟩⟩⟩⟩⟩⟩⟩⟩⟩⟩⟩⟩⟩⟩⟩⟩
theorem lw_p16 : lw_okq (⟨"LagSolver$Text", "readNumber", "()Z"⟩, 6) := ⟨⟨by decide +kernel, by decide +kernel⟩, List.mem_of_getElem? (i := 22) (by decide +kernel), List.mem_of_getElem? (i := 671) (by decide +kernel), List.mem_of_getElem? (i := 672) (by decide +kernel)⟩
theorem lw_p17 : lw_okq (⟨"LagSolver$Text", "emit", "(II)V"⟩, 6) := ⟨⟨by decide +kernel, by decide +kernel⟩, List.mem_of_getElem? (i := 22) (by decide +kernel), List.mem_of_getElem? (i := 675) (by decide +kernel), List.mem_of_getElem? (i := 676) (by decide +kernel)⟩
theorem lw_p18 : lw_okq (⟨"LagSolver$Text", "readName", "()Z"⟩, 6) := ⟨⟨by decide +kernel, by decide +kernel⟩, List.mem_of_getElem? (i := 22) (by decide +kernel), List.mem_of_getElem? (i := 679) (by decide +kernel), List.mem_of_getElem? (i := 680) (by decide +kernel)⟩
theorem lw_p19 : lw_okq (⟨"LagSolver$Text", "emitOperand", "(I)V"⟩, 6) := ⟨⟨by decide +kernel, by decide +kernel⟩, List.mem_of_getElem? (i := 22) (by decide +kernel), List.mem_of_getElem? (i := 683) (by decide +kernel), List.mem_of_getElem? (i := 684) (by decide +kernel)⟩
theorem lw_p20 : lw_okq (⟨"LagSolver$Text", "readLeastOrMost", "(I)Z"⟩, 6) := ⟨⟨by decide +kernel, by decide +kernel⟩, List.mem_of_getElem? (i := 22) (by decide +kernel), List.mem_of_getElem? (i := 690) (by decide +kernel), List.mem_of_getElem? (i := 691) (by decide +kernel)⟩
theorem lw_p21 : lw_okq (⟨"LagSolver$Text", "readOpen", "(I)Z"⟩, 6) := ⟨⟨by decide +kernel, by decide +kernel⟩, List.mem_of_getElem? (i := 22) (by decide +kernel), List.mem_of_getElem? (i := 694) (by decide +kernel), List.mem_of_getElem? (i := 695) (by decide +kernel)⟩
theorem lw_p22 : lw_okq (⟨"LagSolver$Kept", "dropOldest", "()V"⟩, 2) := ⟨⟨by decide +kernel, by decide +kernel⟩, List.mem_of_getElem? (i := 174) (by decide +kernel), List.mem_of_getElem? (i := 709) (by decide +kernel), List.mem_of_getElem? (i := 710) (by decide +kernel)⟩
def lw_privs_2 : List (MethodName × Nat) := [(⟨"LagSolver$Text", "readNumber", "()Z"⟩, 6), (⟨"LagSolver$Text", "emit", "(II)V"⟩, 6), (⟨"LagSolver$Text", "readName", "()Z"⟩, 6), (⟨"LagSolver$Text", "emitOperand", "(I)V"⟩, 6), (⟨"LagSolver$Text", "readLeastOrMost", "(I)Z"⟩, 6), (⟨"LagSolver$Text", "readOpen", "(I)Z"⟩, 6), (⟨"LagSolver$Kept", "dropOldest", "()V"⟩, 2)]
theorem lw_r2 : ∀ q ∈ lw_privs_2, lw_okq q := List.forall_mem_cons.mpr ⟨lw_p16, List.forall_mem_cons.mpr ⟨lw_p17, List.forall_mem_cons.mpr ⟨lw_p18, List.forall_mem_cons.mpr ⟨lw_p19, List.forall_mem_cons.mpr ⟨lw_p20, List.forall_mem_cons.mpr ⟨lw_p21, List.forall_mem_cons.mpr ⟨lw_p22, fun _ h => absurd h List.not_mem_nil⟩⟩⟩⟩⟩⟩⟩
def lw_privs : List (MethodName × Nat) := lw_privs_1 ++ (lw_privs_2)
def lw_tbl : List Cond := k2_sels lw_privs ++ tables_1
theorem lw_privs_ok : ∀ q ∈ lw_privs, lw_okq q := by
  show ∀ q ∈ lw_privs_1 ++ (lw_privs_2), lw_okq q
  exact List.forall_mem_append.mpr ⟨lw_r1, lw_r2⟩
def RX0 : String := "LagSolver$Breaks"
def TX0 : u_T := fun k => match k with
  | 0 => ("LagSolver$Breaks", "times", "[I", true)
  | 1 => ("LagSolver$Breaks", "orders", "[I", true)
  | 2 => ("LagSolver$Breaks", "delays", "[I", true)
  | _ => ("LagSolver$Breaks", "count", "I", false)
def tyX0 : Nat → FieldType := fun k => match k with
  | 0 => .array .int
  | 1 => .array .int
  | 2 => .array .int
  | _ => .int
abbrev wsX00 : List Cond := u_ws RX0 TX0 4
theorem nmX0 : ∀ a, a < 4 → ∀ b, b < 4 → a ≠ b → (TX0 a).2.1 ≠ (TX0 b).2.1 := by decide +kernel
theorem tyX0_ok : ∀ k, k < 4 → parseFieldDescriptor (TX0 k).2.2.1 = some (tyX0 k) := by decide +kernel
abbrev cX0_init : ByteArray := prog_2_method_1_code
def yX0_init : MethodName := ⟨RX0, "<init>", "()V"⟩
abbrev cX0_find : ByteArray := prog_2_method_2_code
def yX0_find : MethodName := ⟨RX0, "find", "(LLagSolver$Lags;II)V"⟩
abbrev cX0_addNext : ByteArray := prog_2_method_3_code
def yX0_addNext : MethodName := ⟨RX0, "addNext", "(LLagSolver$Lags;II)V"⟩
abbrev cX0_add : ByteArray := prog_2_method_4_code
def yX0_add : MethodName := ⟨RX0, "add", "(III)V"⟩
abbrev cX0_next : ByteArray := prog_2_method_5_code
def yX0_next : MethodName := ⟨RX0, "next", "(I)I"⟩
abbrev cX0_pointsBefore : ByteArray := prog_2_method_6_code
def yX0_pointsBefore : MethodName := ⟨RX0, "pointsBefore", "(I)I"⟩
abbrev cX0_copyFrom : ByteArray := prog_2_method_7_code
def yX0_copyFrom : MethodName := ⟨RX0, "copyFrom", "(LLagSolver$Breaks;)V"⟩
def RX1 : String := "LagSolver$Histories"
def TX1 : u_T := fun k => match k with
  | 0 => ("LagSolver$Histories", "counts", "[I", true)
  | 1 => ("LagSolver$Histories", "times", "[I", true)
  | _ => ("LagSolver$Histories", "values", "[I", true)
def tyX1 : Nat → FieldType := fun k => match k with
  | 0 => .array .int
  | 1 => .array .int
  | _ => .array .int
abbrev wsX10 : List Cond := u_ws RX1 TX1 3
theorem nmX1 : ∀ a, a < 3 → ∀ b, b < 3 → a ≠ b → (TX1 a).2.1 ≠ (TX1 b).2.1 := by decide +kernel
theorem tyX1_ok : ∀ k, k < 3 → parseFieldDescriptor (TX1 k).2.2.1 = some (tyX1 k) := by decide +kernel
abbrev cX1_init : ByteArray := prog_3_method_1_code
def yX1_init : MethodName := ⟨RX1, "<init>", "()V"⟩
abbrev cX1_hasPointAt : ByteArray := prog_3_method_2_code
def yX1_hasPointAt : MethodName := ⟨RX1, "hasPointAt", "(II)Z"⟩
abbrev cX1_add : ByteArray := prog_3_method_3_code
def yX1_add : MethodName := ⟨RX1, "add", "(III)V"⟩
abbrev cX1_valueAt : ByteArray := prog_3_method_4_code
def yX1_valueAt : MethodName := ⟨RX1, "valueAt", "(II)I"⟩
abbrev cX1_slopeAt : ByteArray := prog_3_method_5_code
def yX1_slopeAt : MethodName := ⟨RX1, "slopeAt", "(II)I"⟩
abbrev cX1_pointsUpTo : ByteArray := prog_3_method_6_code
def yX1_pointsUpTo : MethodName := ⟨RX1, "pointsUpTo", "(II)I"⟩
abbrev cX1_copyFrom : ByteArray := prog_3_method_7_code
def yX1_copyFrom : MethodName := ⟨RX1, "copyFrom", "(LLagSolver$Histories;)V"⟩
def RX2 : String := "LagSolver$Kept"
def TX2 : u_T := fun k => match k with
  | 0 => ("LagSolver$Kept", "states", "[LLagSolver$State;", true)
  | _ => ("LagSolver$Kept", "count", "I", false)
def tyX2 : Nat → FieldType := fun k => match k with
  | 0 => .array (.object "LagSolver$State")
  | _ => .int
abbrev wsX20 : List Cond := u_ws RX2 TX2 2
theorem nmX2 : ∀ a, a < 2 → ∀ b, b < 2 → a ≠ b → (TX2 a).2.1 ≠ (TX2 b).2.1 := by decide +kernel
theorem tyX2_ok : ∀ k, k < 2 → parseFieldDescriptor (TX2 k).2.2.1 = some (tyX2 k) := by decide +kernel
abbrev cX2_init : ByteArray := prog_4_method_1_code
def yX2_init : MethodName := ⟨RX2, "<init>", "()V"⟩
abbrev cX2_record : ByteArray := prog_4_method_2_code
def yX2_record : MethodName := ⟨RX2, "record", "(LLagSolver$State;)V"⟩
abbrev cX2_dropOldest : ByteArray := prog_4_method_3_code
def yX2_dropOldest : MethodName := ⟨RX2, "dropOldest", "()V"⟩
abbrev cX2_giveBack : ByteArray := prog_4_method_4_code
def yX2_giveBack : MethodName := ⟨RX2, "giveBack", "(LLagSolver$State;)Z"⟩
def RX3 : String := "LagSolver$Lags"
def TX3 : u_T := fun k => match k with
  | 0 => ("LagSolver$Lags", "constants", "[I", true)
  | _ => ("LagSolver$Lags", "parts", "[I", true)
def tyX3 : Nat → FieldType := fun k => match k with
  | 0 => .array .int
  | _ => .array .int
abbrev wsX30 : List Cond := u_ws RX3 TX3 2
theorem nmX3 : ∀ a, a < 2 → ∀ b, b < 2 → a ≠ b → (TX3 a).2.1 ≠ (TX3 b).2.1 := by decide +kernel
theorem tyX3_ok : ∀ k, k < 2 → parseFieldDescriptor (TX3 k).2.2.1 = some (tyX3 k) := by decide +kernel
abbrev cX3_init : ByteArray := prog_5_method_1_code
def yX3_init : MethodName := ⟨RX3, "<init>", "()V"⟩
abbrev cX3_lagAt : ByteArray := prog_5_method_2_code
def yX3_lagAt : MethodName := ⟨RX3, "lagAt", "(II)I"⟩
abbrev cX3_reach : ByteArray := prog_5_method_3_code
def yX3_reach : MethodName := ⟨RX3, "reach", "(II)I"⟩
abbrev cX3_copyFrom : ByteArray := prog_5_method_4_code
def yX3_copyFrom : MethodName := ⟨RX3, "copyFrom", "(LLagSolver$Lags;)V"⟩
def RX4 : String := "LagSolver$Path"
def TX4 : u_T := fun k => match k with
  | 0 => ("LagSolver$Path", "rows", "[I", true)
  | _ => ("LagSolver$Path", "steps", "I", false)
def tyX4 : Nat → FieldType := fun k => match k with
  | 0 => .array .int
  | _ => .int
abbrev wsX40 : List Cond := u_ws RX4 TX4 2
theorem nmX4 : ∀ a, a < 2 → ∀ b, b < 2 → a ≠ b → (TX4 a).2.1 ≠ (TX4 b).2.1 := by decide +kernel
theorem tyX4_ok : ∀ k, k < 2 → parseFieldDescriptor (TX4 k).2.2.1 = some (tyX4 k) := by decide +kernel
abbrev cX4_init : ByteArray := prog_6_method_1_code
def yX4_init : MethodName := ⟨RX4, "<init>", "()V"⟩
abbrev cX4_restart : ByteArray := prog_6_method_2_code
def yX4_restart : MethodName := ⟨RX4, "restart", "(LLagSolver$Histories;)V"⟩
abbrev cX4_append : ByteArray := prog_6_method_3_code
def yX4_append : MethodName := ⟨RX4, "append", "(I[II[I)V"⟩
abbrev cX4_endTime : ByteArray := prog_6_method_4_code
def yX4_endTime : MethodName := ⟨RX4, "endTime", "()I"⟩
abbrev cX4_endValue : ByteArray := prog_6_method_5_code
def yX4_endValue : MethodName := ⟨RX4, "endValue", "(I)I"⟩
abbrev cX4_beginOf : ByteArray := prog_6_method_6_code
def yX4_beginOf : MethodName := ⟨RX4, "beginOf", "(I)I"⟩
abbrev cX4_endOf : ByteArray := prog_6_method_7_code
def yX4_endOf : MethodName := ⟨RX4, "endOf", "(I)I"⟩
abbrev cX4_firstSlope : ByteArray := prog_6_method_8_code
def yX4_firstSlope : MethodName := ⟨RX4, "firstSlope", "(II)I"⟩
abbrev cX4_roundsOf : ByteArray := prog_6_method_9_code
def yX4_roundsOf : MethodName := ⟨RX4, "roundsOf", "(I)I"⟩
abbrev cX4_stepTo : ByteArray := prog_6_method_10_code
def yX4_stepTo : MethodName := ⟨RX4, "stepTo", "(I)I"⟩
abbrev cX4_valueIn : ByteArray := prog_6_method_11_code
def yX4_valueIn : MethodName := ⟨RX4, "valueIn", "(III)I"⟩
abbrev cX4_slopeIn : ByteArray := prog_6_method_12_code
def yX4_slopeIn : MethodName := ⟨RX4, "slopeIn", "(III)I"⟩
abbrev cX4_bendOf : ByteArray := prog_6_method_13_code
def yX4_bendOf : MethodName := ⟨RX4, "bendOf", "(IIJ)J"⟩
abbrev cX4_copyFrom : ByteArray := prog_6_method_14_code
def yX4_copyFrom : MethodName := ⟨RX4, "copyFrom", "(LLagSolver$Path;)V"⟩
def RX5 : String := "LagSolver$Rights"
def TX5 : u_T := fun k => match k with
  | 0 => ("LagSolver$Rights", "codes", "[I", true)
  | 1 => ("LagSolver$Rights", "lengths", "[I", true)
  | _ => ("LagSolver$Rights", "operands", "[I", true)
def tyX5 : Nat → FieldType := fun k => match k with
  | 0 => .array .int
  | 1 => .array .int
  | _ => .array .int
abbrev wsX50 : List Cond := u_ws RX5 TX5 3
theorem nmX5 : ∀ a, a < 3 → ∀ b, b < 3 → a ≠ b → (TX5 a).2.1 ≠ (TX5 b).2.1 := by decide +kernel
theorem tyX5_ok : ∀ k, k < 3 → parseFieldDescriptor (TX5 k).2.2.1 = some (tyX5 k) := by decide +kernel
abbrev cX5_init : ByteArray := prog_7_method_1_code
def yX5_init : MethodName := ⟨RX5, "<init>", "()V"⟩
abbrev cX5_take : ByteArray := prog_7_method_2_code
def yX5_take : MethodName := ⟨RX5, "take", "(ILLagSolver$Text;)V"⟩
abbrev cX5_allOperands : ByteArray := prog_7_method_3_code
def yX5_allOperands : MethodName := ⟨RX5, "allOperands", "()I"⟩
abbrev cX5_workOut : ByteArray := prog_7_method_4_code
def yX5_workOut : MethodName := ⟨RX5, "workOut", "(I[I[I)I"⟩
abbrev cX5_join : ByteArray := prog_7_method_5_code
def yX5_join : MethodName := ⟨RX5, "join", "(IJJ)I"⟩
abbrev cX5_copyFrom : ByteArray := prog_7_method_6_code
def yX5_copyFrom : MethodName := ⟨RX5, "copyFrom", "(LLagSolver$Rights;)V"⟩
def RX6 : String := "LagSolver$State"
def TX6 : u_T := fun k => match k with
  | 0 => ("LagSolver$State", "rights", "LLagSolver$Rights;", true)
  | 1 => ("LagSolver$State", "lags", "LLagSolver$Lags;", true)
  | 2 => ("LagSolver$State", "histories", "LLagSolver$Histories;", true)
  | 3 => ("LagSolver$State", "settings", "[I", true)
  | 4 => ("LagSolver$State", "breaks", "LLagSolver$Breaks;", true)
  | _ => ("LagSolver$State", "path", "LLagSolver$Path;", true)
def tyX6 : Nat → FieldType := fun k => match k with
  | 0 => .object "LagSolver$Rights"
  | 1 => .object "LagSolver$Lags"
  | 2 => .object "LagSolver$Histories"
  | 3 => .array .int
  | 4 => .object "LagSolver$Breaks"
  | _ => .object "LagSolver$Path"
abbrev wsX60 : List Cond := u_ws RX6 TX6 6
theorem nmX6 : ∀ a, a < 6 → ∀ b, b < 6 → a ≠ b → (TX6 a).2.1 ≠ (TX6 b).2.1 := by decide +kernel
theorem tyX6_ok : ∀ k, k < 6 → parseFieldDescriptor (TX6 k).2.2.1 = some (tyX6 k) := by decide +kernel
abbrev cX6_init : ByteArray := prog_8_method_1_code
def yX6_init : MethodName := ⟨RX6, "<init>", "()V"⟩
abbrev cX6_restart : ByteArray := prog_8_method_2_code
def yX6_restart : MethodName := ⟨RX6, "restart", "()V"⟩
abbrev cX6_valueIn : ByteArray := prog_8_method_3_code
def yX6_valueIn : MethodName := ⟨RX6, "valueIn", "(III)I"⟩
abbrev cX6_slopeIn : ByteArray := prog_8_method_4_code
def yX6_slopeIn : MethodName := ⟨RX6, "slopeIn", "(III)I"⟩
abbrev cX6_copyProblem : ByteArray := prog_8_method_5_code
def yX6_copyProblem : MethodName := ⟨RX6, "copyProblem", "(LLagSolver$State;)V"⟩
abbrev cX6_copyFrom : ByteArray := prog_8_method_6_code
def yX6_copyFrom : MethodName := ⟨RX6, "copyFrom", "(LLagSolver$State;)V"⟩
def RX7 : String := "LagSolver$Stepper"
def TX7 : u_T := fun k => match k with
  | 0 => ("LagSolver$Stepper", "known", "[I", true)
  | 1 => ("LagSolver$Stepper", "stack", "[I", true)
  | 2 => ("LagSolver$Stepper", "begin", "[I", true)
  | 3 => ("LagSolver$Stepper", "guess", "[I", true)
  | 4 => ("LagSolver$Stepper", "firstSlopes", "[I", true)
  | _ => ("LagSolver$Stepper", "secondSlopes", "[I", true)
def tyX7 : Nat → FieldType := fun k => match k with
  | 0 => .array .int
  | 1 => .array .int
  | 2 => .array .int
  | 3 => .array .int
  | 4 => .array .int
  | _ => .array .int
abbrev wsX70 : List Cond := u_ws RX7 TX7 6
theorem nmX7 : ∀ a, a < 6 → ∀ b, b < 6 → a ≠ b → (TX7 a).2.1 ≠ (TX7 b).2.1 := by decide +kernel
theorem tyX7_ok : ∀ k, k < 6 → parseFieldDescriptor (TX7 k).2.2.1 = some (tyX7 k) := by decide +kernel
abbrev cX7_init : ByteArray := prog_9_method_1_code
def yX7_init : MethodName := ⟨RX7, "<init>", "()V"⟩
abbrev cX7_advance : ByteArray := prog_9_method_2_code
def yX7_advance : MethodName := ⟨RX7, "advance", "(LLagSolver$State;I)V"⟩
abbrev cX7_takeStep : ByteArray := prog_9_method_3_code
def yX7_takeStep : MethodName := ⟨RX7, "takeStep", "(LLagSolver$State;II)V"⟩
abbrev cX7_hasShortLag : ByteArray := prog_9_method_4_code
def yX7_hasShortLag : MethodName := ⟨RX7, "hasShortLag", "(LLagSolver$State;II)Z"⟩
abbrev cX7_workOutSlopes : ByteArray := prog_9_method_5_code
def yX7_workOutSlopes : MethodName := ⟨RX7, "workOutSlopes", "(LLagSolver$State;[I)V"⟩
abbrev cX7_rightSide : ByteArray := prog_9_method_6_code
def yX7_rightSide : MethodName := ⟨RX7, "rightSide", "(LLagSolver$State;II)I"⟩
abbrev cX7_gather : ByteArray := prog_9_method_7_code
def yX7_gather : MethodName := ⟨RX7, "gather", "(LLagSolver$State;II)V"⟩
abbrev cX7_guessedValue : ByteArray := prog_9_method_8_code
def yX7_guessedValue : MethodName := ⟨RX7, "guessedValue", "(III)I"⟩
abbrev cX7_guessedSlope : ByteArray := prog_9_method_9_code
def yX7_guessedSlope : MethodName := ⟨RX7, "guessedSlope", "(II)I"⟩
def RX8 : String := "LagSolver$Text"
def TX8 : u_T := fun k => match k with
  | 0 => ("LagSolver$Text", "signs", "[I", true)
  | 1 => ("LagSolver$Text", "length", "I", false)
  | 2 => ("LagSolver$Text", "at", "I", false)
  | 3 => ("LagSolver$Text", "code", "[I", true)
  | 4 => ("LagSolver$Text", "codeLength", "I", false)
  | _ => ("LagSolver$Text", "operandBits", "I", false)
def tyX8 : Nat → FieldType := fun k => match k with
  | 0 => .array .int
  | 1 => .int
  | 2 => .int
  | 3 => .array .int
  | 4 => .int
  | _ => .int
abbrev wsX80 : List Cond := u_ws RX8 TX8 6
theorem nmX8 : ∀ a, a < 6 → ∀ b, b < 6 → a ≠ b → (TX8 a).2.1 ≠ (TX8 b).2.1 := by decide +kernel
theorem tyX8_ok : ∀ k, k < 6 → parseFieldDescriptor (TX8 k).2.2.1 = some (tyX8 k) := by decide +kernel
abbrev cX8_init : ByteArray := prog_10_method_1_code
def yX8_init : MethodName := ⟨RX8, "<init>", "()V"⟩
abbrev cX8_append : ByteArray := prog_10_method_2_code
def yX8_append : MethodName := ⟨RX8, "append", "(I)Z"⟩
abbrev cX8_empty : ByteArray := prog_10_method_3_code
def yX8_empty : MethodName := ⟨RX8, "empty", "()V"⟩
abbrev cX8_read : ByteArray := prog_10_method_4_code
def yX8_read : MethodName := ⟨RX8, "read", "()I"⟩
abbrev cX8_readSum : ByteArray := prog_10_method_5_code
def yX8_readSum : MethodName := ⟨RX8, "readSum", "(I)Z"⟩
abbrev cX8_readTerm : ByteArray := prog_10_method_6_code
def yX8_readTerm : MethodName := ⟨RX8, "readTerm", "(I)Z"⟩
abbrev cX8_readUnit : ByteArray := prog_10_method_7_code
def yX8_readUnit : MethodName := ⟨RX8, "readUnit", "(I)Z"⟩
abbrev cX8_readBareUnit : ByteArray := prog_10_method_8_code
def yX8_readBareUnit : MethodName := ⟨RX8, "readBareUnit", "(I)Z"⟩
abbrev cX8_readNumber : ByteArray := prog_10_method_9_code
def yX8_readNumber : MethodName := ⟨RX8, "readNumber", "()Z"⟩
abbrev cX8_readName : ByteArray := prog_10_method_10_code
def yX8_readName : MethodName := ⟨RX8, "readName", "()Z"⟩
abbrev cX8_readLeastOrMost : ByteArray := prog_10_method_11_code
def yX8_readLeastOrMost : MethodName := ⟨RX8, "readLeastOrMost", "(I)Z"⟩
abbrev cX8_readOpen : ByteArray := prog_10_method_12_code
def yX8_readOpen : MethodName := ⟨RX8, "readOpen", "(I)Z"⟩
abbrev cX8_sign : ByteArray := prog_10_method_13_code
def yX8_sign : MethodName := ⟨RX8, "sign", "()I"⟩
abbrev cX8_accept : ByteArray := prog_10_method_14_code
def yX8_accept : MethodName := ⟨RX8, "accept", "(I)Z"⟩
abbrev cX8_isDigit : ByteArray := prog_10_method_15_code
def yX8_isDigit : MethodName := ⟨RX8, "isDigit", "(I)Z"⟩
abbrev cX8_emit : ByteArray := prog_10_method_16_code
def yX8_emit : MethodName := ⟨RX8, "emit", "(II)V"⟩
abbrev cX8_emitOperand : ByteArray := prog_10_method_17_code
def yX8_emitOperand : MethodName := ⟨RX8, "emitOperand", "(I)V"⟩
def RX9 : String := "LagSolver"
def TX9 : u_T := fun k => match k with
  | 0 => ("LagSolver", "text", "LLagSolver$Text;", true)
  | 1 => ("LagSolver", "current", "LLagSolver$State;", true)
  | 2 => ("LagSolver", "kept", "LLagSolver$Kept;", true)
  | 3 => ("LagSolver", "slots", "[LLagSolver$State;", true)
  | 4 => ("LagSolver", "trial", "LLagSolver$State;", false)
  | _ => ("LagSolver", "stepper", "LLagSolver$Stepper;", true)
def tyX9 : Nat → FieldType := fun k => match k with
  | 0 => .object "LagSolver$Text"
  | 1 => .object "LagSolver$State"
  | 2 => .object "LagSolver$Kept"
  | 3 => .array (.object "LagSolver$State")
  | 4 => .object "LagSolver$State"
  | _ => .object "LagSolver$Stepper"
abbrev wsX90 : List Cond := u_ws RX9 TX9 6
theorem nmX9 : ∀ a, a < 6 → ∀ b, b < 6 → a ≠ b → (TX9 a).2.1 ≠ (TX9 b).2.1 := by decide +kernel
theorem tyX9_ok : ∀ k, k < 6 → parseFieldDescriptor (TX9 k).2.2.1 = some (tyX9 k) := by decide +kernel
abbrev cX9_init : ByteArray := prog_1_method_1_code
def yX9_init : MethodName := ⟨RX9, "<init>", "()V"⟩
abbrev cX9_type : ByteArray := prog_1_method_2_code
def yX9_type : MethodName := ⟨RX9, "type", "(I)I"⟩
abbrev cX9_wipe : ByteArray := prog_1_method_3_code
def yX9_wipe : MethodName := ⟨RX9, "wipe", "()I"⟩
abbrev cX9_fault : ByteArray := prog_1_method_4_code
def yX9_fault : MethodName := ⟨RX9, "fault", "()I"⟩
abbrev cX9_right : ByteArray := prog_1_method_5_code
def yX9_right : MethodName := ⟨RX9, "right", "(I)I"⟩
abbrev cX9_delay : ByteArray := prog_1_method_6_code
def yX9_delay : MethodName := ⟨RX9, "delay", "(III)I"⟩
abbrev cX9_point : ByteArray := prog_1_method_7_code
def yX9_point : MethodName := ⟨RX9, "point", "(III)I"⟩
abbrev cX9_clear : ByteArray := prog_1_method_8_code
def yX9_clear : MethodName := ⟨RX9, "clear", "(I)I"⟩
abbrev cX9_set : ByteArray := prog_1_method_9_code
def yX9_set : MethodName := ⟨RX9, "set", "(II)I"⟩
abbrev cX9_lag : ByteArray := prog_1_method_10_code
def yX9_lag : MethodName := ⟨RX9, "lag", "(II)I"⟩
abbrev cX9_breakAt : ByteArray := prog_1_method_11_code
def yX9_breakAt : MethodName := ⟨RX9, "breakAt", "(II)I"⟩
abbrev cX9_solve : ByteArray := prog_1_method_12_code
def yX9_solve : MethodName := ⟨RX9, "solve", "(I)I"⟩
abbrev cX9_value : ByteArray := prog_1_method_13_code
def yX9_value : MethodName := ⟨RX9, "value", "(II)I"⟩
abbrev cX9_slope : ByteArray := prog_1_method_14_code
def yX9_slope : MethodName := ⟨RX9, "slope", "(II)I"⟩
abbrev cX9_rightAt : ByteArray := prog_1_method_15_code
def yX9_rightAt : MethodName := ⟨RX9, "rightAt", "(II)I"⟩
abbrev cX9_step : ByteArray := prog_1_method_16_code
def yX9_step : MethodName := ⟨RX9, "step", "(II)I"⟩
abbrev cX9_crossing : ByteArray := prog_1_method_17_code
def yX9_crossing : MethodName := ⟨RX9, "crossing", "(III)I"⟩
abbrev cX9_greatest : ByteArray := prog_1_method_18_code
def yX9_greatest : MethodName := ⟨RX9, "greatest", "(IIII)I"⟩
abbrev cX9_differs : ByteArray := prog_1_method_19_code
def yX9_differs : MethodName := ⟨RX9, "differs", "(I)I"⟩
abbrev cX9_count : ByteArray := prog_1_method_20_code
def yX9_count : MethodName := ⟨RX9, "count", "(I)I"⟩
abbrev cX9_undo : ByteArray := prog_1_method_21_code
def yX9_undo : MethodName := ⟨RX9, "undo", "()I"⟩
abbrev cX9_save : ByteArray := prog_1_method_22_code
def yX9_save : MethodName := ⟨RX9, "save", "(I)I"⟩
abbrev cX9_restore : ByteArray := prog_1_method_23_code
def yX9_restore : MethodName := ⟨RX9, "restore", "(I)I"⟩
abbrev cX9_isWithin : ByteArray := prog_1_method_24_code
def yX9_isWithin : MethodName := ⟨RX9, "isWithin", "(III)Z"⟩
abbrev cX9_isVariable : ByteArray := prog_1_method_25_code
def yX9_isVariable : MethodName := ⟨RX9, "isVariable", "(I)Z"⟩
abbrev cX9_isDelay : ByteArray := prog_1_method_26_code
def yX9_isDelay : MethodName := ⟨RX9, "isDelay", "(I)Z"⟩
abbrev cX9_hold : ByteArray := prog_1_method_27_code
def yX9_hold : MethodName := ⟨RX9, "hold", "(J)I"⟩
abbrev cX9_quotient : ByteArray := prog_1_method_28_code
def yX9_quotient : MethodName := ⟨RX9, "quotient", "(JJ)J"⟩
abbrev cX9_pick : ByteArray := prog_1_method_29_code
def yX9_pick : MethodName := ⟨RX9, "pick", "([II)I"⟩
abbrev cX9_put : ByteArray := prog_1_method_30_code
def yX9_put : MethodName := ⟨RX9, "put", "([III)V"⟩
abbrev cX9_copyRow : ByteArray := prog_1_method_31_code
def yX9_copyRow : MethodName := ⟨RX9, "copyRow", "([I[II)V"⟩
abbrev cX9_makeRoom : ByteArray := prog_1_method_32_code
def yX9_makeRoom : MethodName := ⟨RX9, "makeRoom", "([III)V"⟩
abbrev cX9_hasBit : ByteArray := prog_1_method_33_code
def yX9_hasBit : MethodName := ⟨RX9, "hasBit", "(II)Z"⟩
abbrev cX9_pastOperand : ByteArray := prog_1_method_34_code
def yX9_pastOperand : MethodName := ⟨RX9, "pastOperand", "(II)I"⟩
abbrev cX9_slopeOperand : ByteArray := prog_1_method_35_code
def yX9_slopeOperand : MethodName := ⟨RX9, "slopeOperand", "(II)I"⟩
abbrev cX9_needsDelay : ByteArray := prog_1_method_36_code
def yX9_needsDelay : MethodName := ⟨RX9, "needsDelay", "(II)Z"⟩
abbrev cX9_delaysIn : ByteArray := prog_1_method_37_code
def yX9_delaysIn : MethodName := ⟨RX9, "delaysIn", "(I)I"⟩
def RX10 : String := "LagSolverModel"
def TX10 : u_T := fun k => match k with
  | _ => ("", "", "", false)
def tyX10 : Nat → FieldType := fun k => match k with
  | _ => .int
abbrev wsX100 : List Cond := u_ws RX10 TX10 0
theorem nmX10 : ∀ a, a < 0 → ∀ b, b < 0 → a ≠ b → (TX10 a).2.1 ≠ (TX10 b).2.1 := by decide +kernel
theorem tyX10_ok : ∀ k, k < 0 → parseFieldDescriptor (TX10 k).2.2.1 = some (tyX10 k) := by decide +kernel
def RL : String := "LagSolverLaw"
abbrev cL_cell : ByteArray := method_2_code
def yL_cell : MethodName := ⟨RL, "cell", "([II)I"⟩
abbrev cL_low : ByteArray := method_3_code
def yL_low : MethodName := ⟨RL, "low", "(II)I"⟩
abbrev cL_near : ByteArray := method_4_code
def yL_near : MethodName := ⟨RL, "near", "(II)I"⟩
abbrev cL_isError : ByteArray := method_5_code
def yL_isError : MethodName := ⟨RL, "isError", "(I)Z"⟩
abbrev cL_trace : ByteArray := method_6_code
def yL_trace : MethodName := ⟨RL, "trace", "(LLagSolver;)J"⟩
abbrev cL_breaksFit : ByteArray := method_7_code
def yL_breaksFit : MethodName := ⟨RL, "breaksFit", "(LLagSolver;)Z"⟩
abbrev cL_isBreak : ByteArray := method_8_code
def yL_isBreak : MethodName := ⟨RL, "isBreak", "(LLagSolver;I)Z"⟩
abbrev cL_stepsFit : ByteArray := method_9_code
def yL_stepsFit : MethodName := ⟨RL, "stepsFit", "(LLagSolver;)Z"⟩
abbrev cL_valuesFit : ByteArray := method_10_code
def yL_valuesFit : MethodName := ⟨RL, "valuesFit", "(LLagSolver;II)Z"⟩
abbrev cL_fits : ByteArray := method_11_code
def yL_fits : MethodName := ⟨RL, "fits", "(LLagSolver;I)Z"⟩
abbrev cL_types : ByteArray := method_12_code
def yL_types : MethodName := ⟨RL, "types", "(LLagSolver;IIII)V"⟩
abbrev cL_rights : ByteArray := method_13_code
def yL_rights : MethodName := ⟨RL, "rights", "(LLagSolver;II)I"⟩
abbrev cL_goes : ByteArray := method_14_code
def yL_goes : MethodName := ⟨RL, "goes", "(LLagSolver;II)I"⟩
def yL_law : MethodName := ⟨RL, "law", "([I)Z"⟩
abbrev clX : List vw_C := [(RX0, TX0, 4), (RX1, TX1, 3), (RX2, TX2, 2), (RX3, TX3, 2), (RX4, TX4, 2), (RX5, TX5, 3), (RX6, TX6, 6), (RX7, TX7, 6), (RX8, TX8, 6), (RX9, TX9, 6)]
/-- the words that move with a warmed machine, and the links of nest mates -/
def isNest : Cond → Bool
  | .methodLinkNest _ _ _ _ => true
  | .fieldLinkNest _ _ _ _ _ _ => true
  | _ => false
def tG : List Cond := lw_tbl.filter goodWord
def nG : List Cond := lw_tbl.filter isNest
theorem mem_tG {c : Cond} (i : Nat) (h : lw_tbl[i]? = some c) (g : goodWord c = true) : c ∈ tG := List.mem_filter.mpr ⟨List.mem_of_getElem? h, g⟩
theorem mem_nG {c : Cond} (i : Nat) (h : lw_tbl[i]? = some c) (g : isNest c = true) : c ∈ nG := List.mem_filter.mpr ⟨List.mem_of_getElem? h, g⟩
theorem tG_good {w : Cond} (h : w ∈ tG) : (w.onTables && w.keeps) = true ∨ ∃ ty, w = .arrayClass ty := good_of_word (List.mem_filter.mp h).2
