section
-- ===== PART A: goes FIRST, ahead of the names: the tables' words, and 'selects' of the private methods out of them =====
/-- a private method of a class that the tables say can be made, by its rows of tables_1 -/
def lw_okq (q : MethodName × Nat) : Prop := (q.1.cls ≠ "java/lang/invoke/MethodHandle" ∧ q.1.cls ≠ "java/lang/invoke/VarHandle") ∧ Cond.instantiable q.1.cls q.2 ∈ tables_1 ∧ Cond.privateMethod q.1 ∈ tables_1 ∧ Cond.instanceMethod q.1 ∈ tables_1
theorem lw_p0 : lw_okq (⟨"LagSolver$Text", "readSum", "(I)Z"⟩, 6) := ⟨⟨by decide +kernel, by decide +kernel⟩, List.mem_of_getElem? (i := 23) (by decide +kernel), List.mem_of_getElem? (i := 267) (by decide +kernel), List.mem_of_getElem? (i := 268) (by decide +kernel)⟩
theorem lw_p1 : lw_okq (⟨"LagSolver$Text", "readTerm", "(I)Z"⟩, 6) := ⟨⟨by decide +kernel, by decide +kernel⟩, List.mem_of_getElem? (i := 23) (by decide +kernel), List.mem_of_getElem? (i := 271) (by decide +kernel), List.mem_of_getElem? (i := 272) (by decide +kernel)⟩
theorem lw_p2 : lw_okq (⟨"LagSolver$Text", "readUnit", "(I)Z"⟩, 6) := ⟨⟨by decide +kernel, by decide +kernel⟩, List.mem_of_getElem? (i := 23) (by decide +kernel), List.mem_of_getElem? (i := 275) (by decide +kernel), List.mem_of_getElem? (i := 276) (by decide +kernel)⟩
theorem lw_p3 : lw_okq (⟨"LagSolver$Text", "accept", "(I)Z"⟩, 6) := ⟨⟨by decide +kernel, by decide +kernel⟩, List.mem_of_getElem? (i := 23) (by decide +kernel), List.mem_of_getElem? (i := 279) (by decide +kernel), List.mem_of_getElem? (i := 280) (by decide +kernel)⟩
theorem lw_p4 : lw_okq (⟨"LagSolver$Text", "sign", "()I"⟩, 6) := ⟨⟨by decide +kernel, by decide +kernel⟩, List.mem_of_getElem? (i := 23) (by decide +kernel), List.mem_of_getElem? (i := 283) (by decide +kernel), List.mem_of_getElem? (i := 284) (by decide +kernel)⟩
theorem lw_p5 : lw_okq (⟨"LagSolver$Text", "readBareUnit", "(I)Z"⟩, 6) := ⟨⟨by decide +kernel, by decide +kernel⟩, List.mem_of_getElem? (i := 23) (by decide +kernel), List.mem_of_getElem? (i := 290) (by decide +kernel), List.mem_of_getElem? (i := 291) (by decide +kernel)⟩
theorem lw_p6 : lw_okq (⟨"LagSolver$Text", "readNumber", "()Z"⟩, 6) := ⟨⟨by decide +kernel, by decide +kernel⟩, List.mem_of_getElem? (i := 23) (by decide +kernel), List.mem_of_getElem? (i := 298) (by decide +kernel), List.mem_of_getElem? (i := 299) (by decide +kernel)⟩
theorem lw_p7 : lw_okq (⟨"LagSolver$Text", "emit", "(II)V"⟩, 6) := ⟨⟨by decide +kernel, by decide +kernel⟩, List.mem_of_getElem? (i := 23) (by decide +kernel), List.mem_of_getElem? (i := 302) (by decide +kernel), List.mem_of_getElem? (i := 303) (by decide +kernel)⟩
theorem lw_p8 : lw_okq (⟨"LagSolver$Text", "readName", "()Z"⟩, 6) := ⟨⟨by decide +kernel, by decide +kernel⟩, List.mem_of_getElem? (i := 23) (by decide +kernel), List.mem_of_getElem? (i := 306) (by decide +kernel), List.mem_of_getElem? (i := 307) (by decide +kernel)⟩
theorem lw_p9 : lw_okq (⟨"LagSolver$Text", "emitOperand", "(I)V"⟩, 6) := ⟨⟨by decide +kernel, by decide +kernel⟩, List.mem_of_getElem? (i := 23) (by decide +kernel), List.mem_of_getElem? (i := 310) (by decide +kernel), List.mem_of_getElem? (i := 311) (by decide +kernel)⟩
theorem lw_p10 : lw_okq (⟨"LagSolver$Text", "readLeastOrMost", "(I)Z"⟩, 6) := ⟨⟨by decide +kernel, by decide +kernel⟩, List.mem_of_getElem? (i := 23) (by decide +kernel), List.mem_of_getElem? (i := 323) (by decide +kernel), List.mem_of_getElem? (i := 324) (by decide +kernel)⟩
theorem lw_p11 : lw_okq (⟨"LagSolver$Text", "readOpen", "(I)Z"⟩, 6) := ⟨⟨by decide +kernel, by decide +kernel⟩, List.mem_of_getElem? (i := 23) (by decide +kernel), List.mem_of_getElem? (i := 327) (by decide +kernel), List.mem_of_getElem? (i := 328) (by decide +kernel)⟩
theorem lw_p12 : lw_okq (⟨"LagSolver$Kept", "dropOldest", "()V"⟩, 2) := ⟨⟨by decide +kernel, by decide +kernel⟩, List.mem_of_getElem? (i := 175) (by decide +kernel), List.mem_of_getElem? (i := 344) (by decide +kernel), List.mem_of_getElem? (i := 345) (by decide +kernel)⟩
theorem lw_p13 : lw_okq (⟨"LagSolver$Breaks", "addNext", "(LLagSolver$Lags;II)V"⟩, 4) := ⟨⟨by decide +kernel, by decide +kernel⟩, List.mem_of_getElem? (i := 108) (by decide +kernel), List.mem_of_getElem? (i := 418) (by decide +kernel), List.mem_of_getElem? (i := 419) (by decide +kernel)⟩
theorem lw_p14 : lw_okq (⟨"LagSolver$Breaks", "add", "(III)V"⟩, 4) := ⟨⟨by decide +kernel, by decide +kernel⟩, List.mem_of_getElem? (i := 108) (by decide +kernel), List.mem_of_getElem? (i := 438) (by decide +kernel), List.mem_of_getElem? (i := 439) (by decide +kernel)⟩
theorem lw_p15 : lw_okq (⟨"LagSolver$Breaks", "pointsBefore", "(I)I"⟩, 4) := ⟨⟨by decide +kernel, by decide +kernel⟩, List.mem_of_getElem? (i := 108) (by decide +kernel), List.mem_of_getElem? (i := 442) (by decide +kernel), List.mem_of_getElem? (i := 443) (by decide +kernel)⟩
def lw_privs_1 : List (MethodName × Nat) := [(⟨"LagSolver$Text", "readSum", "(I)Z"⟩, 6), (⟨"LagSolver$Text", "readTerm", "(I)Z"⟩, 6), (⟨"LagSolver$Text", "readUnit", "(I)Z"⟩, 6), (⟨"LagSolver$Text", "accept", "(I)Z"⟩, 6), (⟨"LagSolver$Text", "sign", "()I"⟩, 6), (⟨"LagSolver$Text", "readBareUnit", "(I)Z"⟩, 6), (⟨"LagSolver$Text", "readNumber", "()Z"⟩, 6), (⟨"LagSolver$Text", "emit", "(II)V"⟩, 6), (⟨"LagSolver$Text", "readName", "()Z"⟩, 6), (⟨"LagSolver$Text", "emitOperand", "(I)V"⟩, 6), (⟨"LagSolver$Text", "readLeastOrMost", "(I)Z"⟩, 6), (⟨"LagSolver$Text", "readOpen", "(I)Z"⟩, 6), (⟨"LagSolver$Kept", "dropOldest", "()V"⟩, 2), (⟨"LagSolver$Breaks", "addNext", "(LLagSolver$Lags;II)V"⟩, 4), (⟨"LagSolver$Breaks", "add", "(III)V"⟩, 4), (⟨"LagSolver$Breaks", "pointsBefore", "(I)I"⟩, 4)]
theorem lw_r1 : ∀ q ∈ lw_privs_1, lw_okq q := List.forall_mem_cons.mpr ⟨lw_p0, List.forall_mem_cons.mpr ⟨lw_p1, List.forall_mem_cons.mpr ⟨lw_p2, List.forall_mem_cons.mpr ⟨lw_p3, List.forall_mem_cons.mpr ⟨lw_p4, List.forall_mem_cons.mpr ⟨lw_p5, List.forall_mem_cons.mpr ⟨lw_p6, List.forall_mem_cons.mpr ⟨lw_p7, List.forall_mem_cons.mpr ⟨lw_p8, List.forall_mem_cons.mpr ⟨lw_p9, List.forall_mem_cons.mpr ⟨lw_p10, List.forall_mem_cons.mpr ⟨lw_p11, List.forall_mem_cons.mpr ⟨lw_p12, List.forall_mem_cons.mpr ⟨lw_p13, List.forall_mem_cons.mpr ⟨lw_p14, List.forall_mem_cons.mpr ⟨lw_p15, fun _ h => absurd h List.not_mem_nil⟩⟩⟩⟩⟩⟩⟩⟩⟩⟩⟩⟩⟩⟩⟩⟩
theorem lw_p16 : lw_okq (⟨"LagSolver$Histories", "pointsUpTo", "(II)I"⟩, 3) := ⟨⟨by decide +kernel, by decide +kernel⟩, List.mem_of_getElem? (i := 91) (by decide +kernel), List.mem_of_getElem? (i := 462) (by decide +kernel), List.mem_of_getElem? (i := 463) (by decide +kernel)⟩
theorem lw_p17 : lw_okq (⟨"LagSolver$Stepper", "takeStep", "(LLagSolver$State;II)V"⟩, 6) := ⟨⟨by decide +kernel, by decide +kernel⟩, List.mem_of_getElem? (i := 191) (by decide +kernel), List.mem_of_getElem? (i := 538) (by decide +kernel), List.mem_of_getElem? (i := 539) (by decide +kernel)⟩
theorem lw_p18 : lw_okq (⟨"LagSolver$Stepper", "gather", "(LLagSolver$State;II)V"⟩, 6) := ⟨⟨by decide +kernel, by decide +kernel⟩, List.mem_of_getElem? (i := 191) (by decide +kernel), List.mem_of_getElem? (i := 547) (by decide +kernel), List.mem_of_getElem? (i := 548) (by decide +kernel)⟩
theorem lw_p19 : lw_okq (⟨"LagSolver$Stepper", "guessedValue", "(III)I"⟩, 6) := ⟨⟨by decide +kernel, by decide +kernel⟩, List.mem_of_getElem? (i := 191) (by decide +kernel), List.mem_of_getElem? (i := 560) (by decide +kernel), List.mem_of_getElem? (i := 561) (by decide +kernel)⟩
theorem lw_p20 : lw_okq (⟨"LagSolver$Path", "bendOf", "(IIJ)J"⟩, 2) := ⟨⟨by decide +kernel, by decide +kernel⟩, List.mem_of_getElem? (i := 131) (by decide +kernel), List.mem_of_getElem? (i := 582) (by decide +kernel), List.mem_of_getElem? (i := 583) (by decide +kernel)⟩
theorem lw_p21 : lw_okq (⟨"LagSolver$Stepper", "guessedSlope", "(II)I"⟩, 6) := ⟨⟨by decide +kernel, by decide +kernel⟩, List.mem_of_getElem? (i := 191) (by decide +kernel), List.mem_of_getElem? (i := 589) (by decide +kernel), List.mem_of_getElem? (i := 590) (by decide +kernel)⟩
theorem lw_p22 : lw_okq (⟨"LagSolver$Stepper", "workOutSlopes", "(LLagSolver$State;[I)V"⟩, 6) := ⟨⟨by decide +kernel, by decide +kernel⟩, List.mem_of_getElem? (i := 191) (by decide +kernel), List.mem_of_getElem? (i := 608) (by decide +kernel), List.mem_of_getElem? (i := 609) (by decide +kernel)⟩
theorem lw_p23 : lw_okq (⟨"LagSolverModel", "solvesAll", "()V"⟩, 31) := ⟨⟨by decide +kernel, by decide +kernel⟩, List.mem_of_getElem? (i := 715) (by decide +kernel), List.mem_of_getElem? (i := 721) (by decide +kernel), List.mem_of_getElem? (i := 722) (by decide +kernel)⟩
theorem lw_p24 : lw_okq (⟨"LagSolverModel", "findsBreaks", "()V"⟩, 31) := ⟨⟨by decide +kernel, by decide +kernel⟩, List.mem_of_getElem? (i := 715) (by decide +kernel), List.mem_of_getElem? (i := 725) (by decide +kernel), List.mem_of_getElem? (i := 726) (by decide +kernel)⟩
theorem lw_p25 : lw_okq (⟨"LagSolverModel", "used", "()I"⟩, 31) := ⟨⟨by decide +kernel, by decide +kernel⟩, List.mem_of_getElem? (i := 715) (by decide +kernel), List.mem_of_getElem? (i := 730) (by decide +kernel), List.mem_of_getElem? (i := 731) (by decide +kernel)⟩
theorem lw_p26 : lw_okq (⟨"LagSolverModel", "usedBy", "(I)I"⟩, 31) := ⟨⟨by decide +kernel, by decide +kernel⟩, List.mem_of_getElem? (i := 715) (by decide +kernel), List.mem_of_getElem? (i := 734) (by decide +kernel), List.mem_of_getElem? (i := 735) (by decide +kernel)⟩
theorem lw_p27 : lw_okq (⟨"LagSolverModel", "rightLetter", "(II)I"⟩, 31) := ⟨⟨by decide +kernel, by decide +kernel⟩, List.mem_of_getElem? (i := 715) (by decide +kernel), List.mem_of_getElem? (i := 738) (by decide +kernel), List.mem_of_getElem? (i := 739) (by decide +kernel)⟩
theorem lw_p28 : lw_okq (⟨"LagSolverModel", "madeFrom", "(II)I"⟩, 31) := ⟨⟨by decide +kernel, by decide +kernel⟩, List.mem_of_getElem? (i := 715) (by decide +kernel), List.mem_of_getElem? (i := 742) (by decide +kernel), List.mem_of_getElem? (i := 743) (by decide +kernel)⟩
theorem lw_p29 : lw_okq (⟨"LagSolverModel", "lagAt", "(II)I"⟩, 31) := ⟨⟨by decide +kernel, by decide +kernel⟩, List.mem_of_getElem? (i := 715) (by decide +kernel), List.mem_of_getElem? (i := 746) (by decide +kernel), List.mem_of_getElem? (i := 747) (by decide +kernel)⟩
theorem lw_p30 : lw_okq (⟨"LagSolverModel", "makes", "(III)V"⟩, 31) := ⟨⟨by decide +kernel, by decide +kernel⟩, List.mem_of_getElem? (i := 715) (by decide +kernel), List.mem_of_getElem? (i := 750) (by decide +kernel), List.mem_of_getElem? (i := 751) (by decide +kernel)⟩
theorem lw_p31 : lw_okq (⟨"LagSolverModel", "breakWith", "(I)I"⟩, 31) := ⟨⟨by decide +kernel, by decide +kernel⟩, List.mem_of_getElem? (i := 715) (by decide +kernel), List.mem_of_getElem? (i := 754) (by decide +kernel), List.mem_of_getElem? (i := 755) (by decide +kernel)⟩
def lw_privs_2 : List (MethodName × Nat) := [(⟨"LagSolver$Histories", "pointsUpTo", "(II)I"⟩, 3), (⟨"LagSolver$Stepper", "takeStep", "(LLagSolver$State;II)V"⟩, 6), (⟨"LagSolver$Stepper", "gather", "(LLagSolver$State;II)V"⟩, 6), (⟨"LagSolver$Stepper", "guessedValue", "(III)I"⟩, 6), (⟨"LagSolver$Path", "bendOf", "(IIJ)J"⟩, 2), (⟨"LagSolver$Stepper", "guessedSlope", "(II)I"⟩, 6), (⟨"LagSolver$Stepper", "workOutSlopes", "(LLagSolver$State;[I)V"⟩, 6), (⟨"LagSolverModel", "solvesAll", "()V"⟩, 31), (⟨"LagSolverModel", "findsBreaks", "()V"⟩, 31), (⟨"LagSolverModel", "used", "()I"⟩, 31), (⟨"LagSolverModel", "usedBy", "(I)I"⟩, 31), (⟨"LagSolverModel", "rightLetter", "(II)I"⟩, 31), (⟨"LagSolverModel", "madeFrom", "(II)I"⟩, 31), (⟨"LagSolverModel", "lagAt", "(II)I"⟩, 31), (⟨"LagSolverModel", "makes", "(III)V"⟩, 31), (⟨"LagSolverModel", "breakWith", "(I)I"⟩, 31)]
theorem lw_r2 : ∀ q ∈ lw_privs_2, lw_okq q := List.forall_mem_cons.mpr ⟨lw_p16, List.forall_mem_cons.mpr ⟨lw_p17, List.forall_mem_cons.mpr ⟨lw_p18, List.forall_mem_cons.mpr ⟨lw_p19, List.forall_mem_cons.mpr ⟨lw_p20, List.forall_mem_cons.mpr ⟨lw_p21, List.forall_mem_cons.mpr ⟨lw_p22, List.forall_mem_cons.mpr ⟨lw_p23, List.forall_mem_cons.mpr ⟨lw_p24, List.forall_mem_cons.mpr ⟨lw_p25, List.forall_mem_cons.mpr ⟨lw_p26, List.forall_mem_cons.mpr ⟨lw_p27, List.forall_mem_cons.mpr ⟨lw_p28, List.forall_mem_cons.mpr ⟨lw_p29, List.forall_mem_cons.mpr ⟨lw_p30, List.forall_mem_cons.mpr ⟨lw_p31, fun _ h => absurd h List.not_mem_nil⟩⟩⟩⟩⟩⟩⟩⟩⟩⟩⟩⟩⟩⟩⟩⟩
theorem lw_p32 : lw_okq (⟨"LagSolverModel", "goesTo", "(I)V"⟩, 31) := ⟨⟨by decide +kernel, by decide +kernel⟩, List.mem_of_getElem? (i := 715) (by decide +kernel), List.mem_of_getElem? (i := 761) (by decide +kernel), List.mem_of_getElem? (i := 762) (by decide +kernel)⟩
theorem lw_p33 : lw_okq (⟨"LagSolverModel", "nextBreak", "(I)I"⟩, 31) := ⟨⟨by decide +kernel, by decide +kernel⟩, List.mem_of_getElem? (i := 715) (by decide +kernel), List.mem_of_getElem? (i := 765) (by decide +kernel), List.mem_of_getElem? (i := 766) (by decide +kernel)⟩
theorem lw_p34 : lw_okq (⟨"LagSolverModel", "stepBy", "(I)V"⟩, 31) := ⟨⟨by decide +kernel, by decide +kernel⟩, List.mem_of_getElem? (i := 715) (by decide +kernel), List.mem_of_getElem? (i := 769) (by decide +kernel), List.mem_of_getElem? (i := 770) (by decide +kernel)⟩
theorem lw_p35 : lw_okq (⟨"LagSolverModel", "toldValue", "(II)J"⟩, 31) := ⟨⟨by decide +kernel, by decide +kernel⟩, List.mem_of_getElem? (i := 715) (by decide +kernel), List.mem_of_getElem? (i := 773) (by decide +kernel), List.mem_of_getElem? (i := 774) (by decide +kernel)⟩
theorem lw_p36 : lw_okq (⟨"LagSolverModel", "historyValue", "(II)J"⟩, 31) := ⟨⟨by decide +kernel, by decide +kernel⟩, List.mem_of_getElem? (i := 715) (by decide +kernel), List.mem_of_getElem? (i := 777) (by decide +kernel), List.mem_of_getElem? (i := 778) (by decide +kernel)⟩
theorem lw_p37 : lw_okq (⟨"LagSolverModel", "points", "(I)I"⟩, 31) := ⟨⟨by decide +kernel, by decide +kernel⟩, List.mem_of_getElem? (i := 715) (by decide +kernel), List.mem_of_getElem? (i := 781) (by decide +kernel), List.mem_of_getElem? (i := 782) (by decide +kernel)⟩
theorem lw_p38 : lw_okq (⟨"LagSolverModel", "pointTime", "(II)I"⟩, 31) := ⟨⟨by decide +kernel, by decide +kernel⟩, List.mem_of_getElem? (i := 715) (by decide +kernel), List.mem_of_getElem? (i := 785) (by decide +kernel), List.mem_of_getElem? (i := 786) (by decide +kernel)⟩
theorem lw_p39 : lw_okq (⟨"LagSolverModel", "pointValue", "(II)I"⟩, 31) := ⟨⟨by decide +kernel, by decide +kernel⟩, List.mem_of_getElem? (i := 715) (by decide +kernel), List.mem_of_getElem? (i := 789) (by decide +kernel), List.mem_of_getElem? (i := 790) (by decide +kernel)⟩
theorem lw_p40 : lw_okq (⟨"LagSolverModel", "stepOf", "(I)I"⟩, 31) := ⟨⟨by decide +kernel, by decide +kernel⟩, List.mem_of_getElem? (i := 715) (by decide +kernel), List.mem_of_getElem? (i := 793) (by decide +kernel), List.mem_of_getElem? (i := 794) (by decide +kernel)⟩
theorem lw_p41 : lw_okq (⟨"LagSolverModel", "bend", "(II)J"⟩, 31) := ⟨⟨by decide +kernel, by decide +kernel⟩, List.mem_of_getElem? (i := 715) (by decide +kernel), List.mem_of_getElem? (i := 798) (by decide +kernel), List.mem_of_getElem? (i := 799) (by decide +kernel)⟩
theorem lw_p42 : lw_okq (⟨"LagSolverModel", "worksOut", "(II)J"⟩, 31) := ⟨⟨by decide +kernel, by decide +kernel⟩, List.mem_of_getElem? (i := 715) (by decide +kernel), List.mem_of_getElem? (i := 807) (by decide +kernel), List.mem_of_getElem? (i := 808) (by decide +kernel)⟩
theorem lw_p43 : lw_okq (⟨"LagSolverModel", "numberAt", "(II)J"⟩, 31) := ⟨⟨by decide +kernel, by decide +kernel⟩, List.mem_of_getElem? (i := 715) (by decide +kernel), List.mem_of_getElem? (i := 817) (by decide +kernel), List.mem_of_getElem? (i := 818) (by decide +kernel)⟩
theorem lw_p44 : lw_okq (⟨"LagSolverModel", "puts", "(J)V"⟩, 31) := ⟨⟨by decide +kernel, by decide +kernel⟩, List.mem_of_getElem? (i := 715) (by decide +kernel), List.mem_of_getElem? (i := 823) (by decide +kernel), List.mem_of_getElem? (i := 824) (by decide +kernel)⟩
theorem lw_p45 : lw_okq (⟨"LagSolverModel", "negates", "()V"⟩, 31) := ⟨⟨by decide +kernel, by decide +kernel⟩, List.mem_of_getElem? (i := 715) (by decide +kernel), List.mem_of_getElem? (i := 827) (by decide +kernel), List.mem_of_getElem? (i := 828) (by decide +kernel)⟩
theorem lw_p46 : lw_okq (⟨"LagSolverModel", "behindNumber", "(II)I"⟩, 31) := ⟨⟨by decide +kernel, by decide +kernel⟩, List.mem_of_getElem? (i := 715) (by decide +kernel), List.mem_of_getElem? (i := 831) (by decide +kernel), List.mem_of_getElem? (i := 832) (by decide +kernel)⟩
theorem lw_p47 : lw_okq (⟨"LagSolverModel", "slopeAt", "(II)J"⟩, 31) := ⟨⟨by decide +kernel, by decide +kernel⟩, List.mem_of_getElem? (i := 715) (by decide +kernel), List.mem_of_getElem? (i := 838) (by decide +kernel), List.mem_of_getElem? (i := 839) (by decide +kernel)⟩
def lw_privs_3 : List (MethodName × Nat) := [(⟨"LagSolverModel", "goesTo", "(I)V"⟩, 31), (⟨"LagSolverModel", "nextBreak", "(I)I"⟩, 31), (⟨"LagSolverModel", "stepBy", "(I)V"⟩, 31), (⟨"LagSolverModel", "toldValue", "(II)J"⟩, 31), (⟨"LagSolverModel", "historyValue", "(II)J"⟩, 31), (⟨"LagSolverModel", "points", "(I)I"⟩, 31), (⟨"LagSolverModel", "pointTime", "(II)I"⟩, 31), (⟨"LagSolverModel", "pointValue", "(II)I"⟩, 31), (⟨"LagSolverModel", "stepOf", "(I)I"⟩, 31), (⟨"LagSolverModel", "bend", "(II)J"⟩, 31), (⟨"LagSolverModel", "worksOut", "(II)J"⟩, 31), (⟨"LagSolverModel", "numberAt", "(II)J"⟩, 31), (⟨"LagSolverModel", "puts", "(J)V"⟩, 31), (⟨"LagSolverModel", "negates", "()V"⟩, 31), (⟨"LagSolverModel", "behindNumber", "(II)I"⟩, 31), (⟨"LagSolverModel", "slopeAt", "(II)J"⟩, 31)]
theorem lw_r3 : ∀ q ∈ lw_privs_3, lw_okq q := List.forall_mem_cons.mpr ⟨lw_p32, List.forall_mem_cons.mpr ⟨lw_p33, List.forall_mem_cons.mpr ⟨lw_p34, List.forall_mem_cons.mpr ⟨lw_p35, List.forall_mem_cons.mpr ⟨lw_p36, List.forall_mem_cons.mpr ⟨lw_p37, List.forall_mem_cons.mpr ⟨lw_p38, List.forall_mem_cons.mpr ⟨lw_p39, List.forall_mem_cons.mpr ⟨lw_p40, List.forall_mem_cons.mpr ⟨lw_p41, List.forall_mem_cons.mpr ⟨lw_p42, List.forall_mem_cons.mpr ⟨lw_p43, List.forall_mem_cons.mpr ⟨lw_p44, List.forall_mem_cons.mpr ⟨lw_p45, List.forall_mem_cons.mpr ⟨lw_p46, List.forall_mem_cons.mpr ⟨lw_p47, fun _ h => absurd h List.not_mem_nil⟩⟩⟩⟩⟩⟩⟩⟩⟩⟩⟩⟩⟩⟩⟩⟩
theorem lw_p48 : lw_okq (⟨"LagSolverModel", "toldSlope", "(II)J"⟩, 31) := ⟨⟨by decide +kernel, by decide +kernel⟩, List.mem_of_getElem? (i := 715) (by decide +kernel), List.mem_of_getElem? (i := 842) (by decide +kernel), List.mem_of_getElem? (i := 843) (by decide +kernel)⟩
theorem lw_p49 : lw_okq (⟨"LagSolverModel", "historySlope", "(II)J"⟩, 31) := ⟨⟨by decide +kernel, by decide +kernel⟩, List.mem_of_getElem? (i := 715) (by decide +kernel), List.mem_of_getElem? (i := 846) (by decide +kernel), List.mem_of_getElem? (i := 847) (by decide +kernel)⟩
theorem lw_p50 : lw_okq (⟨"LagSolverModel", "valueAt", "(II)J"⟩, 31) := ⟨⟨by decide +kernel, by decide +kernel⟩, List.mem_of_getElem? (i := 715) (by decide +kernel), List.mem_of_getElem? (i := 851) (by decide +kernel), List.mem_of_getElem? (i := 852) (by decide +kernel)⟩
theorem lw_p51 : lw_okq (⟨"LagSolverModel", "shuts", "()V"⟩, 31) := ⟨⟨by decide +kernel, by decide +kernel⟩, List.mem_of_getElem? (i := 715) (by decide +kernel), List.mem_of_getElem? (i := 855) (by decide +kernel), List.mem_of_getElem? (i := 856) (by decide +kernel)⟩
theorem lw_p52 : lw_okq (⟨"LagSolverModel", "carriesAll", "(I)V"⟩, 31) := ⟨⟨by decide +kernel, by decide +kernel⟩, List.mem_of_getElem? (i := 715) (by decide +kernel), List.mem_of_getElem? (i := 859) (by decide +kernel), List.mem_of_getElem? (i := 860) (by decide +kernel)⟩
theorem lw_p53 : lw_okq (⟨"LagSolverModel", "carriesOut", "()V"⟩, 31) := ⟨⟨by decide +kernel, by decide +kernel⟩, List.mem_of_getElem? (i := 715) (by decide +kernel), List.mem_of_getElem? (i := 866) (by decide +kernel), List.mem_of_getElem? (i := 867) (by decide +kernel)⟩
theorem lw_p54 : lw_okq (⟨"LagSolverModel", "opens", "(IZ)V"⟩, 31) := ⟨⟨by decide +kernel, by decide +kernel⟩, List.mem_of_getElem? (i := 715) (by decide +kernel), List.mem_of_getElem? (i := 870) (by decide +kernel), List.mem_of_getElem? (i := 871) (by decide +kernel)⟩
theorem lw_p55 : lw_okq (⟨"LagSolverModel", "putsSign", "(I)V"⟩, 31) := ⟨⟨by decide +kernel, by decide +kernel⟩, List.mem_of_getElem? (i := 715) (by decide +kernel), List.mem_of_getElem? (i := 874) (by decide +kernel), List.mem_of_getElem? (i := 875) (by decide +kernel)⟩
theorem lw_p56 : lw_okq (⟨"LagSolverModel", "guesses", "(II)V"⟩, 31) := ⟨⟨by decide +kernel, by decide +kernel⟩, List.mem_of_getElem? (i := 715) (by decide +kernel), List.mem_of_getElem? (i := 878) (by decide +kernel), List.mem_of_getElem? (i := 879) (by decide +kernel)⟩
theorem lw_p57 : lw_okq (⟨"LagSolverModel", "needsRounds", "(II)Z"⟩, 31) := ⟨⟨by decide +kernel, by decide +kernel⟩, List.mem_of_getElem? (i := 715) (by decide +kernel), List.mem_of_getElem? (i := 882) (by decide +kernel), List.mem_of_getElem? (i := 883) (by decide +kernel)⟩
theorem lw_p58 : lw_okq (⟨"LagSolverModel", "saves", "()V"⟩, 31) := ⟨⟨by decide +kernel, by decide +kernel⟩, List.mem_of_getElem? (i := 715) (by decide +kernel), List.mem_of_getElem? (i := 995) (by decide +kernel), List.mem_of_getElem? (i := 996) (by decide +kernel)⟩
theorem lw_p59 : lw_okq (⟨"LagSolverModel", "faultOf", "()I"⟩, 31) := ⟨⟨by decide +kernel, by decide +kernel⟩, List.mem_of_getElem? (i := 715) (by decide +kernel), List.mem_of_getElem? (i := 1012) (by decide +kernel), List.mem_of_getElem? (i := 1013) (by decide +kernel)⟩
theorem lw_p60 : lw_okq (⟨"LagSolverModel", "numberEnd", "(I)I"⟩, 31) := ⟨⟨by decide +kernel, by decide +kernel⟩, List.mem_of_getElem? (i := 715) (by decide +kernel), List.mem_of_getElem? (i := 1016) (by decide +kernel), List.mem_of_getElem? (i := 1017) (by decide +kernel)⟩
theorem lw_p61 : lw_okq (⟨"LagSolverModel", "digits", "(II)I"⟩, 31) := ⟨⟨by decide +kernel, by decide +kernel⟩, List.mem_of_getElem? (i := 715) (by decide +kernel), List.mem_of_getElem? (i := 1020) (by decide +kernel), List.mem_of_getElem? (i := 1021) (by decide +kernel)⟩
theorem lw_p62 : lw_okq (⟨"LagSolverModel", "letter", "(I)I"⟩, 31) := ⟨⟨by decide +kernel, by decide +kernel⟩, List.mem_of_getElem? (i := 715) (by decide +kernel), List.mem_of_getElem? (i := 1024) (by decide +kernel), List.mem_of_getElem? (i := 1025) (by decide +kernel)⟩
theorem lw_p63 : lw_okq (⟨"LagSolverModel", "nameEnd", "(I)I"⟩, 31) := ⟨⟨by decide +kernel, by decide +kernel⟩, List.mem_of_getElem? (i := 715) (by decide +kernel), List.mem_of_getElem? (i := 1028) (by decide +kernel), List.mem_of_getElem? (i := 1029) (by decide +kernel)⟩
def lw_privs_4 : List (MethodName × Nat) := [(⟨"LagSolverModel", "toldSlope", "(II)J"⟩, 31), (⟨"LagSolverModel", "historySlope", "(II)J"⟩, 31), (⟨"LagSolverModel", "valueAt", "(II)J"⟩, 31), (⟨"LagSolverModel", "shuts", "()V"⟩, 31), (⟨"LagSolverModel", "carriesAll", "(I)V"⟩, 31), (⟨"LagSolverModel", "carriesOut", "()V"⟩, 31), (⟨"LagSolverModel", "opens", "(IZ)V"⟩, 31), (⟨"LagSolverModel", "putsSign", "(I)V"⟩, 31), (⟨"LagSolverModel", "guesses", "(II)V"⟩, 31), (⟨"LagSolverModel", "needsRounds", "(II)Z"⟩, 31), (⟨"LagSolverModel", "saves", "()V"⟩, 31), (⟨"LagSolverModel", "faultOf", "()I"⟩, 31), (⟨"LagSolverModel", "numberEnd", "(I)I"⟩, 31), (⟨"LagSolverModel", "digits", "(II)I"⟩, 31), (⟨"LagSolverModel", "letter", "(I)I"⟩, 31), (⟨"LagSolverModel", "nameEnd", "(I)I"⟩, 31)]
theorem lw_r4 : ∀ q ∈ lw_privs_4, lw_okq q := List.forall_mem_cons.mpr ⟨lw_p48, List.forall_mem_cons.mpr ⟨lw_p49, List.forall_mem_cons.mpr ⟨lw_p50, List.forall_mem_cons.mpr ⟨lw_p51, List.forall_mem_cons.mpr ⟨lw_p52, List.forall_mem_cons.mpr ⟨lw_p53, List.forall_mem_cons.mpr ⟨lw_p54, List.forall_mem_cons.mpr ⟨lw_p55, List.forall_mem_cons.mpr ⟨lw_p56, List.forall_mem_cons.mpr ⟨lw_p57, List.forall_mem_cons.mpr ⟨lw_p58, List.forall_mem_cons.mpr ⟨lw_p59, List.forall_mem_cons.mpr ⟨lw_p60, List.forall_mem_cons.mpr ⟨lw_p61, List.forall_mem_cons.mpr ⟨lw_p62, List.forall_mem_cons.mpr ⟨lw_p63, fun _ h => absurd h List.not_mem_nil⟩⟩⟩⟩⟩⟩⟩⟩⟩⟩⟩⟩⟩⟩⟩⟩
theorem lw_p64 : lw_okq (⟨"LagSolverModel", "wordEnd", "(I)I"⟩, 31) := ⟨⟨by decide +kernel, by decide +kernel⟩, List.mem_of_getElem? (i := 715) (by decide +kernel), List.mem_of_getElem? (i := 1032) (by decide +kernel), List.mem_of_getElem? (i := 1033) (by decide +kernel)⟩
theorem lw_p65 : lw_okq (⟨"LagSolverModel", "anew", "()V"⟩, 31) := ⟨⟨by decide +kernel, by decide +kernel⟩, List.mem_of_getElem? (i := 715) (by decide +kernel), List.mem_of_getElem? (i := 1043) (by decide +kernel), List.mem_of_getElem? (i := 1044) (by decide +kernel)⟩
def lw_privs_5 : List (MethodName × Nat) := [(⟨"LagSolverModel", "wordEnd", "(I)I"⟩, 31), (⟨"LagSolverModel", "anew", "()V"⟩, 31)]
theorem lw_r5 : ∀ q ∈ lw_privs_5, lw_okq q := List.forall_mem_cons.mpr ⟨lw_p64, List.forall_mem_cons.mpr ⟨lw_p65, fun _ h => absurd h List.not_mem_nil⟩⟩
def lw_privs : List (MethodName × Nat) := lw_privs_1 ++ (lw_privs_2 ++ (lw_privs_3 ++ (lw_privs_4 ++ (lw_privs_5))))
def lw_tbl : List Cond := k2_sels lw_privs ++ tables_1
theorem lw_privs_ok : ∀ q ∈ lw_privs, lw_okq q := by
  show ∀ q ∈ lw_privs_1 ++ (lw_privs_2 ++ (lw_privs_3 ++ (lw_privs_4 ++ (lw_privs_5)))), lw_okq q
  exact List.forall_mem_append.mpr ⟨lw_r1, List.forall_mem_append.mpr ⟨lw_r2, List.forall_mem_append.mpr ⟨lw_r3, List.forall_mem_append.mpr ⟨lw_r4, lw_r5⟩⟩⟩⟩
def RX0 : String := "LagSolver$Breaks"
def TX0 : u_T := fun k => match k with
  | 0 => ("LagSolver$Breaks", "times", "[I", true)
  | 1 => ("LagSolver$Breaks", "orders", "[I", true)
  | 2 => ("LagSolver$Breaks", "delays", "[I", true)
  | _ => ("LagSolver$Breaks", "count", "I", false)
def tyX0 : Nat → FieldType := fun k => match k with
  | 0 => .array .int
  | 1 => .array .int
  | 2 => .array .int
  | _ => .int
abbrev wsX00 : List Cond := u_ws RX0 TX0 4
theorem nmX0 : ∀ a, a < 4 → ∀ b, b < 4 → a ≠ b → (TX0 a).2.1 ≠ (TX0 b).2.1 := by decide +kernel
theorem tyX0_ok : ∀ k, k < 4 → parseFieldDescriptor (TX0 k).2.2.1 = some (tyX0 k) := by decide +kernel
abbrev cX0_init : ByteArray := prog_2_method_1_code
def yX0_init : MethodName := ⟨RX0, "<init>", "()V"⟩
abbrev cX0_find : ByteArray := prog_2_method_2_code
def yX0_find : MethodName := ⟨RX0, "find", "(LLagSolver$Lags;II)V"⟩
abbrev cX0_addNext : ByteArray := prog_2_method_3_code
def yX0_addNext : MethodName := ⟨RX0, "addNext", "(LLagSolver$Lags;II)V"⟩
abbrev cX0_add : ByteArray := prog_2_method_4_code
def yX0_add : MethodName := ⟨RX0, "add", "(III)V"⟩
abbrev cX0_next : ByteArray := prog_2_method_5_code
def yX0_next : MethodName := ⟨RX0, "next", "(I)I"⟩
abbrev cX0_pointsBefore : ByteArray := prog_2_method_6_code
def yX0_pointsBefore : MethodName := ⟨RX0, "pointsBefore", "(I)I"⟩
abbrev cX0_copyFrom : ByteArray := prog_2_method_7_code
def yX0_copyFrom : MethodName := ⟨RX0, "copyFrom", "(LLagSolver$Breaks;)V"⟩
def RX1 : String := "LagSolver$Histories"
def TX1 : u_T := fun k => match k with
  | 0 => ("LagSolver$Histories", "counts", "[I", true)
  | 1 => ("LagSolver$Histories", "times", "[I", true)
  | _ => ("LagSolver$Histories", "values", "[I", true)
def tyX1 : Nat → FieldType := fun k => match k with
  | 0 => .array .int
  | 1 => .array .int
  | _ => .array .int
abbrev wsX10 : List Cond := u_ws RX1 TX1 3
theorem nmX1 : ∀ a, a < 3 → ∀ b, b < 3 → a ≠ b → (TX1 a).2.1 ≠ (TX1 b).2.1 := by decide +kernel
theorem tyX1_ok : ∀ k, k < 3 → parseFieldDescriptor (TX1 k).2.2.1 = some (tyX1 k) := by decide +kernel
abbrev cX1_init : ByteArray := prog_3_method_1_code
def yX1_init : MethodName := ⟨RX1, "<init>", "()V"⟩
abbrev cX1_hasPointAt : ByteArray := prog_3_method_2_code
def yX1_hasPointAt : MethodName := ⟨RX1, "hasPointAt", "(II)Z"⟩
abbrev cX1_add : ByteArray := prog_3_method_3_code
def yX1_add : MethodName := ⟨RX1, "add", "(III)V"⟩
abbrev cX1_valueAt : ByteArray := prog_3_method_4_code
def yX1_valueAt : MethodName := ⟨RX1, "valueAt", "(II)I"⟩
abbrev cX1_slopeAt : ByteArray := prog_3_method_5_code
def yX1_slopeAt : MethodName := ⟨RX1, "slopeAt", "(II)I"⟩
abbrev cX1_pointsUpTo : ByteArray := prog_3_method_6_code
def yX1_pointsUpTo : MethodName := ⟨RX1, "pointsUpTo", "(II)I"⟩
abbrev cX1_copyFrom : ByteArray := prog_3_method_7_code
def yX1_copyFrom : MethodName := ⟨RX1, "copyFrom", "(LLagSolver$Histories;)V"⟩
def RX2 : String := "LagSolver$Kept"
def TX2 : u_T := fun k => match k with
  | 0 => ("LagSolver$Kept", "states", "[LLagSolver$State;", true)
  | _ => ("LagSolver$Kept", "count", "I", false)
def tyX2 : Nat → FieldType := fun k => match k with
  | 0 => .array (.object "LagSolver$State")
  | _ => .int
abbrev wsX20 : List Cond := u_ws RX2 TX2 2
theorem nmX2 : ∀ a, a < 2 → ∀ b, b < 2 → a ≠ b → (TX2 a).2.1 ≠ (TX2 b).2.1 := by decide +kernel
theorem tyX2_ok : ∀ k, k < 2 → parseFieldDescriptor (TX2 k).2.2.1 = some (tyX2 k) := by decide +kernel
abbrev cX2_init : ByteArray := prog_4_method_1_code
def yX2_init : MethodName := ⟨RX2, "<init>", "()V"⟩
abbrev cX2_record : ByteArray := prog_4_method_2_code
def yX2_record : MethodName := ⟨RX2, "record", "(LLagSolver$State;)V"⟩
abbrev cX2_dropOldest : ByteArray := prog_4_method_3_code
def yX2_dropOldest : MethodName := ⟨RX2, "dropOldest", "()V"⟩
abbrev cX2_giveBack : ByteArray := prog_4_method_4_code
def yX2_giveBack : MethodName := ⟨RX2, "giveBack", "(LLagSolver$State;)Z"⟩
def RX3 : String := "LagSolver$Lags"
def TX3 : u_T := fun k => match k with
  | 0 => ("LagSolver$Lags", "constants", "[I", true)
  | _ => ("LagSolver$Lags", "parts", "[I", true)
def tyX3 : Nat → FieldType := fun k => match k with
  | 0 => .array .int
  | _ => .array .int
abbrev wsX30 : List Cond := u_ws RX3 TX3 2
theorem nmX3 : ∀ a, a < 2 → ∀ b, b < 2 → a ≠ b → (TX3 a).2.1 ≠ (TX3 b).2.1 := by decide +kernel
theorem tyX3_ok : ∀ k, k < 2 → parseFieldDescriptor (TX3 k).2.2.1 = some (tyX3 k) := by decide +kernel
abbrev cX3_init : ByteArray := prog_5_method_1_code
def yX3_init : MethodName := ⟨RX3, "<init>", "()V"⟩
abbrev cX3_lagAt : ByteArray := prog_5_method_2_code
def yX3_lagAt : MethodName := ⟨RX3, "lagAt", "(II)I"⟩
abbrev cX3_reach : ByteArray := prog_5_method_3_code
def yX3_reach : MethodName := ⟨RX3, "reach", "(II)I"⟩
abbrev cX3_copyFrom : ByteArray := prog_5_method_4_code
def yX3_copyFrom : MethodName := ⟨RX3, "copyFrom", "(LLagSolver$Lags;)V"⟩
def RX4 : String := "LagSolver$Path"
def TX4 : u_T := fun k => match k with
  | 0 => ("LagSolver$Path", "rows", "[I", true)
  | _ => ("LagSolver$Path", "steps", "I", false)
def tyX4 : Nat → FieldType := fun k => match k with
  | 0 => .array .int
  | _ => .int
abbrev wsX40 : List Cond := u_ws RX4 TX4 2
theorem nmX4 : ∀ a, a < 2 → ∀ b, b < 2 → a ≠ b → (TX4 a).2.1 ≠ (TX4 b).2.1 := by decide +kernel
theorem tyX4_ok : ∀ k, k < 2 → parseFieldDescriptor (TX4 k).2.2.1 = some (tyX4 k) := by decide +kernel
abbrev cX4_init : ByteArray := prog_6_method_1_code
def yX4_init : MethodName := ⟨RX4, "<init>", "()V"⟩
abbrev cX4_restart : ByteArray := prog_6_method_2_code
def yX4_restart : MethodName := ⟨RX4, "restart", "(LLagSolver$Histories;)V"⟩
abbrev cX4_append : ByteArray := prog_6_method_3_code
def yX4_append : MethodName := ⟨RX4, "append", "(I[II[I)V"⟩
abbrev cX4_endTime : ByteArray := prog_6_method_4_code
def yX4_endTime : MethodName := ⟨RX4, "endTime", "()I"⟩
abbrev cX4_endValue : ByteArray := prog_6_method_5_code
def yX4_endValue : MethodName := ⟨RX4, "endValue", "(I)I"⟩
abbrev cX4_beginOf : ByteArray := prog_6_method_6_code
def yX4_beginOf : MethodName := ⟨RX4, "beginOf", "(I)I"⟩
abbrev cX4_endOf : ByteArray := prog_6_method_7_code
def yX4_endOf : MethodName := ⟨RX4, "endOf", "(I)I"⟩
abbrev cX4_firstSlope : ByteArray := prog_6_method_8_code
def yX4_firstSlope : MethodName := ⟨RX4, "firstSlope", "(II)I"⟩
abbrev cX4_roundsOf : ByteArray := prog_6_method_9_code
def yX4_roundsOf : MethodName := ⟨RX4, "roundsOf", "(I)I"⟩
abbrev cX4_stepTo : ByteArray := prog_6_method_10_code
def yX4_stepTo : MethodName := ⟨RX4, "stepTo", "(I)I"⟩
abbrev cX4_valueIn : ByteArray := prog_6_method_11_code
def yX4_valueIn : MethodName := ⟨RX4, "valueIn", "(III)I"⟩
abbrev cX4_slopeIn : ByteArray := prog_6_method_12_code
def yX4_slopeIn : MethodName := ⟨RX4, "slopeIn", "(III)I"⟩
abbrev cX4_bendOf : ByteArray := prog_6_method_13_code
def yX4_bendOf : MethodName := ⟨RX4, "bendOf", "(IIJ)J"⟩
abbrev cX4_copyFrom : ByteArray := prog_6_method_14_code
def yX4_copyFrom : MethodName := ⟨RX4, "copyFrom", "(LLagSolver$Path;)V"⟩
def RX5 : String := "LagSolver$Rights"
def TX5 : u_T := fun k => match k with
  | 0 => ("LagSolver$Rights", "codes", "[I", true)
  | 1 => ("LagSolver$Rights", "lengths", "[I", true)
  | _ => ("LagSolver$Rights", "operands", "[I", true)
def tyX5 : Nat → FieldType := fun k => match k with
  | 0 => .array .int
  | 1 => .array .int
  | _ => .array .int
abbrev wsX50 : List Cond := u_ws RX5 TX5 3
theorem nmX5 : ∀ a, a < 3 → ∀ b, b < 3 → a ≠ b → (TX5 a).2.1 ≠ (TX5 b).2.1 := by decide +kernel
theorem tyX5_ok : ∀ k, k < 3 → parseFieldDescriptor (TX5 k).2.2.1 = some (tyX5 k) := by decide +kernel
abbrev cX5_init : ByteArray := prog_7_method_1_code
def yX5_init : MethodName := ⟨RX5, "<init>", "()V"⟩
abbrev cX5_take : ByteArray := prog_7_method_2_code
def yX5_take : MethodName := ⟨RX5, "take", "(ILLagSolver$Text;)V"⟩
abbrev cX5_allOperands : ByteArray := prog_7_method_3_code
def yX5_allOperands : MethodName := ⟨RX5, "allOperands", "()I"⟩
abbrev cX5_workOut : ByteArray := prog_7_method_4_code
def yX5_workOut : MethodName := ⟨RX5, "workOut", "(I[I[I)I"⟩
abbrev cX5_join : ByteArray := prog_7_method_5_code
def yX5_join : MethodName := ⟨RX5, "join", "(IJJ)I"⟩
abbrev cX5_copyFrom : ByteArray := prog_7_method_6_code
def yX5_copyFrom : MethodName := ⟨RX5, "copyFrom", "(LLagSolver$Rights;)V"⟩
def RX6 : String := "LagSolver$State"
def TX6 : u_T := fun k => match k with
  | 0 => ("LagSolver$State", "rights", "LLagSolver$Rights;", true)
  | 1 => ("LagSolver$State", "lags", "LLagSolver$Lags;", true)
  | 2 => ("LagSolver$State", "histories", "LLagSolver$Histories;", true)
  | 3 => ("LagSolver$State", "settings", "[I", true)
  | 4 => ("LagSolver$State", "breaks", "LLagSolver$Breaks;", true)
  | _ => ("LagSolver$State", "path", "LLagSolver$Path;", true)
def tyX6 : Nat → FieldType := fun k => match k with
  | 0 => .object "LagSolver$Rights"
  | 1 => .object "LagSolver$Lags"
  | 2 => .object "LagSolver$Histories"
  | 3 => .array .int
  | 4 => .object "LagSolver$Breaks"
  | _ => .object "LagSolver$Path"
abbrev wsX60 : List Cond := u_ws RX6 TX6 6
theorem nmX6 : ∀ a, a < 6 → ∀ b, b < 6 → a ≠ b → (TX6 a).2.1 ≠ (TX6 b).2.1 := by decide +kernel
theorem tyX6_ok : ∀ k, k < 6 → parseFieldDescriptor (TX6 k).2.2.1 = some (tyX6 k) := by decide +kernel
abbrev cX6_init : ByteArray := prog_8_method_1_code
def yX6_init : MethodName := ⟨RX6, "<init>", "()V"⟩
abbrev cX6_restart : ByteArray := prog_8_method_2_code
def yX6_restart : MethodName := ⟨RX6, "restart", "()V"⟩
abbrev cX6_valueIn : ByteArray := prog_8_method_3_code
def yX6_valueIn : MethodName := ⟨RX6, "valueIn", "(III)I"⟩
abbrev cX6_slopeIn : ByteArray := prog_8_method_4_code
def yX6_slopeIn : MethodName := ⟨RX6, "slopeIn", "(III)I"⟩
abbrev cX6_copyProblem : ByteArray := prog_8_method_5_code
def yX6_copyProblem : MethodName := ⟨RX6, "copyProblem", "(LLagSolver$State;)V"⟩
abbrev cX6_copyFrom : ByteArray := prog_8_method_6_code
def yX6_copyFrom : MethodName := ⟨RX6, "copyFrom", "(LLagSolver$State;)V"⟩
def RX7 : String := "LagSolver$Stepper"
def TX7 : u_T := fun k => match k with
  | 0 => ("LagSolver$Stepper", "known", "[I", true)
  | 1 => ("LagSolver$Stepper", "stack", "[I", true)
  | 2 => ("LagSolver$Stepper", "begin", "[I", true)
  | 3 => ("LagSolver$Stepper", "guess", "[I", true)
  | 4 => ("LagSolver$Stepper", "firstSlopes", "[I", true)
  | _ => ("LagSolver$Stepper", "secondSlopes", "[I", true)
def tyX7 : Nat → FieldType := fun k => match k with
  | 0 => .array .int
  | 1 => .array .int
  | 2 => .array .int
  | 3 => .array .int
  | 4 => .array .int
  | _ => .array .int
abbrev wsX70 : List Cond := u_ws RX7 TX7 6
theorem nmX7 : ∀ a, a < 6 → ∀ b, b < 6 → a ≠ b → (TX7 a).2.1 ≠ (TX7 b).2.1 := by decide +kernel
theorem tyX7_ok : ∀ k, k < 6 → parseFieldDescriptor (TX7 k).2.2.1 = some (tyX7 k) := by decide +kernel
abbrev cX7_init : ByteArray := prog_9_method_1_code
def yX7_init : MethodName := ⟨RX7, "<init>", "()V"⟩
abbrev cX7_advance : ByteArray := prog_9_method_2_code
def yX7_advance : MethodName := ⟨RX7, "advance", "(LLagSolver$State;I)V"⟩
abbrev cX7_takeStep : ByteArray := prog_9_method_3_code
def yX7_takeStep : MethodName := ⟨RX7, "takeStep", "(LLagSolver$State;II)V"⟩
abbrev cX7_hasShortLag : ByteArray := prog_9_method_4_code
def yX7_hasShortLag : MethodName := ⟨RX7, "hasShortLag", "(LLagSolver$State;II)Z"⟩
abbrev cX7_workOutSlopes : ByteArray := prog_9_method_5_code
def yX7_workOutSlopes : MethodName := ⟨RX7, "workOutSlopes", "(LLagSolver$State;[I)V"⟩
abbrev cX7_rightSide : ByteArray := prog_9_method_6_code
def yX7_rightSide : MethodName := ⟨RX7, "rightSide", "(LLagSolver$State;II)I"⟩
abbrev cX7_gather : ByteArray := prog_9_method_7_code
def yX7_gather : MethodName := ⟨RX7, "gather", "(LLagSolver$State;II)V"⟩
abbrev cX7_guessedValue : ByteArray := prog_9_method_8_code
def yX7_guessedValue : MethodName := ⟨RX7, "guessedValue", "(III)I"⟩
abbrev cX7_guessedSlope : ByteArray := prog_9_method_9_code
def yX7_guessedSlope : MethodName := ⟨RX7, "guessedSlope", "(II)I"⟩
def RX8 : String := "LagSolver$Text"
def TX8 : u_T := fun k => match k with
  | 0 => ("LagSolver$Text", "signs", "[I", true)
  | 1 => ("LagSolver$Text", "length", "I", false)
  | 2 => ("LagSolver$Text", "at", "I", false)
  | 3 => ("LagSolver$Text", "code", "[I", true)
  | 4 => ("LagSolver$Text", "codeLength", "I", false)
  | _ => ("LagSolver$Text", "operandBits", "I", false)
def tyX8 : Nat → FieldType := fun k => match k with
  | 0 => .array .int
  | 1 => .int
  | 2 => .int
  | 3 => .array .int
  | 4 => .int
  | _ => .int
abbrev wsX80 : List Cond := u_ws RX8 TX8 6
theorem nmX8 : ∀ a, a < 6 → ∀ b, b < 6 → a ≠ b → (TX8 a).2.1 ≠ (TX8 b).2.1 := by decide +kernel
theorem tyX8_ok : ∀ k, k < 6 → parseFieldDescriptor (TX8 k).2.2.1 = some (tyX8 k) := by decide +kernel
abbrev cX8_init : ByteArray := prog_10_method_1_code
def yX8_init : MethodName := ⟨RX8, "<init>", "()V"⟩
abbrev cX8_append : ByteArray := prog_10_method_2_code
def yX8_append : MethodName := ⟨RX8, "append", "(I)Z"⟩
abbrev cX8_empty : ByteArray := prog_10_method_3_code
def yX8_empty : MethodName := ⟨RX8, "empty", "()V"⟩
abbrev cX8_read : ByteArray := prog_10_method_4_code
def yX8_read : MethodName := ⟨RX8, "read", "()I"⟩
abbrev cX8_readSum : ByteArray := prog_10_method_5_code
def yX8_readSum : MethodName := ⟨RX8, "readSum", "(I)Z"⟩
abbrev cX8_readTerm : ByteArray := prog_10_method_6_code
def yX8_readTerm : MethodName := ⟨RX8, "readTerm", "(I)Z"⟩
abbrev cX8_readUnit : ByteArray := prog_10_method_7_code
def yX8_readUnit : MethodName := ⟨RX8, "readUnit", "(I)Z"⟩
abbrev cX8_readBareUnit : ByteArray := prog_10_method_8_code
def yX8_readBareUnit : MethodName := ⟨RX8, "readBareUnit", "(I)Z"⟩
abbrev cX8_readNumber : ByteArray := prog_10_method_9_code
def yX8_readNumber : MethodName := ⟨RX8, "readNumber", "()Z"⟩
abbrev cX8_readName : ByteArray := prog_10_method_10_code
def yX8_readName : MethodName := ⟨RX8, "readName", "()Z"⟩
abbrev cX8_readLeastOrMost : ByteArray := prog_10_method_11_code
def yX8_readLeastOrMost : MethodName := ⟨RX8, "readLeastOrMost", "(I)Z"⟩
abbrev cX8_readOpen : ByteArray := prog_10_method_12_code
def yX8_readOpen : MethodName := ⟨RX8, "readOpen", "(I)Z"⟩
abbrev cX8_sign : ByteArray := prog_10_method_13_code
def yX8_sign : MethodName := ⟨RX8, "sign", "()I"⟩
abbrev cX8_accept : ByteArray := prog_10_method_14_code
def yX8_accept : MethodName := ⟨RX8, "accept", "(I)Z"⟩
abbrev cX8_isDigit : ByteArray := prog_10_method_15_code
def yX8_isDigit : MethodName := ⟨RX8, "isDigit", "(I)Z"⟩
abbrev cX8_emit : ByteArray := prog_10_method_16_code
def yX8_emit : MethodName := ⟨RX8, "emit", "(II)V"⟩
abbrev cX8_emitOperand : ByteArray := prog_10_method_17_code
def yX8_emitOperand : MethodName := ⟨RX8, "emitOperand", "(I)V"⟩
def RX9 : String := "LagSolver"
def TX9 : u_T := fun k => match k with
  | 0 => ("LagSolver", "text", "LLagSolver$Text;", true)
  | 1 => ("LagSolver", "current", "LLagSolver$State;", true)
  | 2 => ("LagSolver", "trial", "LLagSolver$State;", true)
  | 3 => ("LagSolver", "kept", "LLagSolver$Kept;", true)
  | 4 => ("LagSolver", "slots", "[LLagSolver$State;", true)
  | _ => ("LagSolver", "stepper", "LLagSolver$Stepper;", true)
def tyX9 : Nat → FieldType := fun k => match k with
  | 0 => .object "LagSolver$Text"
  | 1 => .object "LagSolver$State"
  | 2 => .object "LagSolver$State"
  | 3 => .object "LagSolver$Kept"
  | 4 => .array (.object "LagSolver$State")
  | _ => .object "LagSolver$Stepper"
abbrev wsX90 : List Cond := u_ws RX9 TX9 6
theorem nmX9 : ∀ a, a < 6 → ∀ b, b < 6 → a ≠ b → (TX9 a).2.1 ≠ (TX9 b).2.1 := by decide +kernel
theorem tyX9_ok : ∀ k, k < 6 → parseFieldDescriptor (TX9 k).2.2.1 = some (tyX9 k) := by decide +kernel
abbrev cX9_init : ByteArray := prog_1_method_1_code
def yX9_init : MethodName := ⟨RX9, "<init>", "()V"⟩
abbrev cX9_type : ByteArray := prog_1_method_2_code
def yX9_type : MethodName := ⟨RX9, "type", "(I)I"⟩
abbrev cX9_wipe : ByteArray := prog_1_method_3_code
def yX9_wipe : MethodName := ⟨RX9, "wipe", "()I"⟩
abbrev cX9_fault : ByteArray := prog_1_method_4_code
def yX9_fault : MethodName := ⟨RX9, "fault", "()I"⟩
abbrev cX9_right : ByteArray := prog_1_method_5_code
def yX9_right : MethodName := ⟨RX9, "right", "(I)I"⟩
abbrev cX9_delay : ByteArray := prog_1_method_6_code
def yX9_delay : MethodName := ⟨RX9, "delay", "(III)I"⟩
abbrev cX9_point : ByteArray := prog_1_method_7_code
def yX9_point : MethodName := ⟨RX9, "point", "(III)I"⟩
abbrev cX9_clear : ByteArray := prog_1_method_8_code
def yX9_clear : MethodName := ⟨RX9, "clear", "(I)I"⟩
abbrev cX9_set : ByteArray := prog_1_method_9_code
def yX9_set : MethodName := ⟨RX9, "set", "(II)I"⟩
abbrev cX9_lag : ByteArray := prog_1_method_10_code
def yX9_lag : MethodName := ⟨RX9, "lag", "(II)I"⟩
abbrev cX9_breakAt : ByteArray := prog_1_method_11_code
def yX9_breakAt : MethodName := ⟨RX9, "breakAt", "(II)I"⟩
abbrev cX9_solve : ByteArray := prog_1_method_12_code
def yX9_solve : MethodName := ⟨RX9, "solve", "(I)I"⟩
abbrev cX9_value : ByteArray := prog_1_method_13_code
def yX9_value : MethodName := ⟨RX9, "value", "(II)I"⟩
abbrev cX9_slope : ByteArray := prog_1_method_14_code
def yX9_slope : MethodName := ⟨RX9, "slope", "(II)I"⟩
abbrev cX9_rightAt : ByteArray := prog_1_method_15_code
def yX9_rightAt : MethodName := ⟨RX9, "rightAt", "(II)I"⟩
abbrev cX9_step : ByteArray := prog_1_method_16_code
def yX9_step : MethodName := ⟨RX9, "step", "(II)I"⟩
abbrev cX9_crossing : ByteArray := prog_1_method_17_code
def yX9_crossing : MethodName := ⟨RX9, "crossing", "(III)I"⟩
abbrev cX9_greatest : ByteArray := prog_1_method_18_code
def yX9_greatest : MethodName := ⟨RX9, "greatest", "(IIII)I"⟩
abbrev cX9_differs : ByteArray := prog_1_method_19_code
def yX9_differs : MethodName := ⟨RX9, "differs", "(I)I"⟩
abbrev cX9_count : ByteArray := prog_1_method_20_code
def yX9_count : MethodName := ⟨RX9, "count", "(I)I"⟩
abbrev cX9_undo : ByteArray := prog_1_method_21_code
def yX9_undo : MethodName := ⟨RX9, "undo", "()I"⟩
abbrev cX9_save : ByteArray := prog_1_method_22_code
def yX9_save : MethodName := ⟨RX9, "save", "(I)I"⟩
abbrev cX9_restore : ByteArray := prog_1_method_23_code
def yX9_restore : MethodName := ⟨RX9, "restore", "(I)I"⟩
abbrev cX9_isWithin : ByteArray := prog_1_method_24_code
def yX9_isWithin : MethodName := ⟨RX9, "isWithin", "(III)Z"⟩
abbrev cX9_isVariable : ByteArray := prog_1_method_25_code
def yX9_isVariable : MethodName := ⟨RX9, "isVariable", "(I)Z"⟩
abbrev cX9_isDelay : ByteArray := prog_1_method_26_code
def yX9_isDelay : MethodName := ⟨RX9, "isDelay", "(I)Z"⟩
abbrev cX9_hold : ByteArray := prog_1_method_27_code
def yX9_hold : MethodName := ⟨RX9, "hold", "(J)I"⟩
abbrev cX9_quotient : ByteArray := prog_1_method_28_code
def yX9_quotient : MethodName := ⟨RX9, "quotient", "(JJ)J"⟩
abbrev cX9_pick : ByteArray := prog_1_method_29_code
def yX9_pick : MethodName := ⟨RX9, "pick", "([II)I"⟩
abbrev cX9_put : ByteArray := prog_1_method_30_code
def yX9_put : MethodName := ⟨RX9, "put", "([III)V"⟩
abbrev cX9_copyRow : ByteArray := prog_1_method_31_code
def yX9_copyRow : MethodName := ⟨RX9, "copyRow", "([I[II)V"⟩
abbrev cX9_makeRoom : ByteArray := prog_1_method_32_code
def yX9_makeRoom : MethodName := ⟨RX9, "makeRoom", "([III)V"⟩
abbrev cX9_hasBit : ByteArray := prog_1_method_33_code
def yX9_hasBit : MethodName := ⟨RX9, "hasBit", "(II)Z"⟩
abbrev cX9_pastOperand : ByteArray := prog_1_method_34_code
def yX9_pastOperand : MethodName := ⟨RX9, "pastOperand", "(II)I"⟩
abbrev cX9_slopeOperand : ByteArray := prog_1_method_35_code
def yX9_slopeOperand : MethodName := ⟨RX9, "slopeOperand", "(II)I"⟩
abbrev cX9_needsDelay : ByteArray := prog_1_method_36_code
def yX9_needsDelay : MethodName := ⟨RX9, "needsDelay", "(II)Z"⟩
abbrev cX9_delaysIn : ByteArray := prog_1_method_37_code
def yX9_delaysIn : MethodName := ⟨RX9, "delaysIn", "(I)I"⟩
def RX10 : String := "LagSolverModel"
def TX10 : u_T := fun k => match k with
  | 0 => ("LagSolverModel", "now", "[I", true)
  | 1 => ("LagSolverModel", "past", "[I", true)
  | 2 => ("LagSolverModel", "saved", "I", false)
  | 3 => ("LagSolverModel", "slots", "[I", true)
  | 4 => ("LagSolverModel", "inSlot", "[I", true)
  | 5 => ("LagSolverModel", "text", "[I", true)
  | 6 => ("LagSolverModel", "length", "I", false)
  | 7 => ("LagSolverModel", "breaks", "[I", true)
  | 8 => ("LagSolverModel", "orders", "[I", true)
  | 9 => ("LagSolverModel", "by", "[I", true)
  | 10 => ("LagSolverModel", "breakMany", "I", false)
  | 11 => ("LagSolverModel", "begins", "[I", true)
  | 12 => ("LagSolverModel", "lengths", "[I", true)
  | 13 => ("LagSolverModel", "rounds", "[I", true)
  | 14 => ("LagSolverModel", "from", "[J", true)
  | 15 => ("LagSolverModel", "slopes", "[J", true)
  | 16 => ("LagSolverModel", "to", "[J", true)
  | 17 => ("LagSolverModel", "steps", "I", false)
  | 18 => ("LagSolverModel", "solved", "I", false)
  | 19 => ("LagSolverModel", "isGuess", "Z", false)
  | 20 => ("LagSolverModel", "guessAt", "I", false)
  | 21 => ("LagSolverModel", "guessFor", "I", false)
  | 22 => ("LagSolverModel", "start", "[J", true)
  | 23 => ("LagSolverModel", "guess", "[J", true)
  | 24 => ("LagSolverModel", "first", "[J", true)
  | 25 => ("LagSolverModel", "second", "[J", true)
  | 26 => ("LagSolverModel", "other", "[J", true)
  | 27 => ("LagSolverModel", "values", "[J", true)
  | 28 => ("LagSolverModel", "signs", "[I", true)
  | 29 => ("LagSolverModel", "valueMany", "I", false)
  | _ => ("LagSolverModel", "signMany", "I", false)
def tyX10 : Nat → FieldType := fun k => match k with
  | 0 => .array .int
  | 1 => .array .int
  | 2 => .int
  | 3 => .array .int
  | 4 => .array .int
  | 5 => .array .int
  | 6 => .int
  | 7 => .array .int
  | 8 => .array .int
  | 9 => .array .int
  | 10 => .int
  | 11 => .array .int
  | 12 => .array .int
  | 13 => .array .int
  | 14 => .array .long
  | 15 => .array .long
  | 16 => .array .long
  | 17 => .int
  | 18 => .int
  | 19 => .boolean
  | 20 => .int
  | 21 => .int
  | 22 => .array .long
  | 23 => .array .long
  | 24 => .array .long
  | 25 => .array .long
  | 26 => .array .long
  | 27 => .array .long
  | 28 => .array .int
  | 29 => .int
  | _ => .int
abbrev wsX100 : List Cond := u_ws RX10 TX10 31
theorem nmX10 : ∀ a, a < 31 → ∀ b, b < 31 → a ≠ b → (TX10 a).2.1 ≠ (TX10 b).2.1 := by decide +kernel
theorem tyX10_ok : ∀ k, k < 31 → parseFieldDescriptor (TX10 k).2.2.1 = some (tyX10 k) := by decide +kernel
abbrev cX10_init : ByteArray := prog_12_method_1_code
def yX10_init : MethodName := ⟨RX10, "<init>", "()V"⟩
abbrev cX10_within : ByteArray := prog_12_method_2_code
def yX10_within : MethodName := ⟨RX10, "within", "(III)Z"⟩
abbrev cX10_held : ByteArray := prog_12_method_3_code
def yX10_held : MethodName := ⟨RX10, "held", "(J)J"⟩
abbrev cX10_saves : ByteArray := prog_12_method_4_code
def yX10_saves : MethodName := ⟨RX10, "saves", "()V"⟩
abbrev cX10_undo : ByteArray := prog_12_method_5_code
def yX10_undo : MethodName := ⟨RX10, "undo", "()I"⟩
abbrev cX10_save : ByteArray := prog_12_method_6_code
def yX10_save : MethodName := ⟨RX10, "save", "(I)I"⟩
abbrev cX10_restore : ByteArray := prog_12_method_7_code
def yX10_restore : MethodName := ⟨RX10, "restore", "(I)I"⟩
abbrev cX10_anew : ByteArray := prog_12_method_8_code
def yX10_anew : MethodName := ⟨RX10, "anew", "()V"⟩
abbrev cX10_type : ByteArray := prog_12_method_9_code
def yX10_type : MethodName := ⟨RX10, "type", "(I)I"⟩
abbrev cX10_wipe : ByteArray := prog_12_method_10_code
def yX10_wipe : MethodName := ⟨RX10, "wipe", "()I"⟩
abbrev cX10_letter : ByteArray := prog_12_method_11_code
def yX10_letter : MethodName := ⟨RX10, "letter", "(I)I"⟩
abbrev cX10_isDigit : ByteArray := prog_12_method_12_code
def yX10_isDigit : MethodName := ⟨RX10, "isDigit", "(I)Z"⟩
abbrev cX10_isName : ByteArray := prog_12_method_13_code
def yX10_isName : MethodName := ⟨RX10, "isName", "(I)Z"⟩
abbrev cX10_digits : ByteArray := prog_12_method_14_code
def yX10_digits : MethodName := ⟨RX10, "digits", "(II)I"⟩
abbrev cX10_numberEnd : ByteArray := prog_12_method_15_code
def yX10_numberEnd : MethodName := ⟨RX10, "numberEnd", "(I)I"⟩
abbrev cX10_nameEnd : ByteArray := prog_12_method_16_code
def yX10_nameEnd : MethodName := ⟨RX10, "nameEnd", "(I)I"⟩
abbrev cX10_wordEnd : ByteArray := prog_12_method_17_code
def yX10_wordEnd : MethodName := ⟨RX10, "wordEnd", "(I)I"⟩
abbrev cX10_faultOf : ByteArray := prog_12_method_18_code
def yX10_faultOf : MethodName := ⟨RX10, "faultOf", "()I"⟩
abbrev cX10_fault : ByteArray := prog_12_method_19_code
def yX10_fault : MethodName := ⟨RX10, "fault", "()I"⟩
abbrev cX10_isThree : ByteArray := prog_12_method_20_code
def yX10_isThree : MethodName := ⟨RX10, "isThree", "(I)Z"⟩
abbrev cX10_rightLetter : ByteArray := prog_12_method_21_code
def yX10_rightLetter : MethodName := ⟨RX10, "rightLetter", "(II)I"⟩
abbrev cX10_usedBy : ByteArray := prog_12_method_22_code
def yX10_usedBy : MethodName := ⟨RX10, "usedBy", "(I)I"⟩
abbrev cX10_used : ByteArray := prog_12_method_23_code
def yX10_used : MethodName := ⟨RX10, "used", "()I"⟩
abbrev cX10_right : ByteArray := prog_12_method_24_code
def yX10_right : MethodName := ⟨RX10, "right", "(I)I"⟩
abbrev cX10_delay : ByteArray := prog_12_method_25_code
def yX10_delay : MethodName := ⟨RX10, "delay", "(III)I"⟩
abbrev cX10_pointTime : ByteArray := prog_12_method_26_code
def yX10_pointTime : MethodName := ⟨RX10, "pointTime", "(II)I"⟩
abbrev cX10_pointValue : ByteArray := prog_12_method_27_code
def yX10_pointValue : MethodName := ⟨RX10, "pointValue", "(II)I"⟩
abbrev cX10_points : ByteArray := prog_12_method_28_code
def yX10_points : MethodName := ⟨RX10, "points", "(I)I"⟩
abbrev cX10_point : ByteArray := prog_12_method_29_code
def yX10_point : MethodName := ⟨RX10, "point", "(III)I"⟩
abbrev cX10_clear : ByteArray := prog_12_method_30_code
def yX10_clear : MethodName := ⟨RX10, "clear", "(I)I"⟩
abbrev cX10_set : ByteArray := prog_12_method_31_code
def yX10_set : MethodName := ⟨RX10, "set", "(II)I"⟩
abbrev cX10_lagAt : ByteArray := prog_12_method_32_code
def yX10_lagAt : MethodName := ⟨RX10, "lagAt", "(II)I"⟩
abbrev cX10_lag : ByteArray := prog_12_method_33_code
def yX10_lag : MethodName := ⟨RX10, "lag", "(II)I"⟩
abbrev cX10_madeFrom : ByteArray := prog_12_method_34_code
def yX10_madeFrom : MethodName := ⟨RX10, "madeFrom", "(II)I"⟩
abbrev cX10_breakWith : ByteArray := prog_12_method_35_code
def yX10_breakWith : MethodName := ⟨RX10, "breakWith", "(I)I"⟩
abbrev cX10_makes : ByteArray := prog_12_method_36_code
def yX10_makes : MethodName := ⟨RX10, "makes", "(III)V"⟩
abbrev cX10_findsBreaks : ByteArray := prog_12_method_37_code
def yX10_findsBreaks : MethodName := ⟨RX10, "findsBreaks", "()V"⟩
abbrev cX10_swaps : ByteArray := prog_12_method_38_code
def yX10_swaps : MethodName := ⟨RX10, "swaps", "([II)V"⟩
abbrev cX10_breakAt : ByteArray := prog_12_method_39_code
def yX10_breakAt : MethodName := ⟨RX10, "breakAt", "(II)I"⟩
abbrev cX10_nextBreak : ByteArray := prog_12_method_40_code
def yX10_nextBreak : MethodName := ⟨RX10, "nextBreak", "(I)I"⟩
abbrev cX10_historyValue : ByteArray := prog_12_method_41_code
def yX10_historyValue : MethodName := ⟨RX10, "historyValue", "(II)J"⟩
abbrev cX10_historySlope : ByteArray := prog_12_method_42_code
def yX10_historySlope : MethodName := ⟨RX10, "historySlope", "(II)J"⟩
abbrev cX10_stepOf : ByteArray := prog_12_method_43_code
def yX10_stepOf : MethodName := ⟨RX10, "stepOf", "(I)I"⟩
abbrev cX10_bend : ByteArray := prog_12_method_44_code
def yX10_bend : MethodName := ⟨RX10, "bend", "(II)J"⟩
abbrev cX10_toldValue : ByteArray := prog_12_method_45_code
def yX10_toldValue : MethodName := ⟨RX10, "toldValue", "(II)J"⟩
abbrev cX10_toldSlope : ByteArray := prog_12_method_46_code
def yX10_toldSlope : MethodName := ⟨RX10, "toldSlope", "(II)J"⟩
abbrev cX10_valueAt : ByteArray := prog_12_method_47_code
def yX10_valueAt : MethodName := ⟨RX10, "valueAt", "(II)J"⟩
abbrev cX10_slopeAt : ByteArray := prog_12_method_48_code
def yX10_slopeAt : MethodName := ⟨RX10, "slopeAt", "(II)J"⟩
abbrev cX10_rank : ByteArray := prog_12_method_49_code
def yX10_rank : MethodName := ⟨RX10, "rank", "(I)I"⟩
abbrev cX10_carriesOut : ByteArray := prog_12_method_50_code
def yX10_carriesOut : MethodName := ⟨RX10, "carriesOut", "()V"⟩
abbrev cX10_carriesAll : ByteArray := prog_12_method_51_code
def yX10_carriesAll : MethodName := ⟨RX10, "carriesAll", "(I)V"⟩
abbrev cX10_negates : ByteArray := prog_12_method_52_code
def yX10_negates : MethodName := ⟨RX10, "negates", "()V"⟩
abbrev cX10_puts : ByteArray := prog_12_method_53_code
def yX10_puts : MethodName := ⟨RX10, "puts", "(J)V"⟩
abbrev cX10_putsSign : ByteArray := prog_12_method_54_code
def yX10_putsSign : MethodName := ⟨RX10, "putsSign", "(I)V"⟩
abbrev cX10_shuts : ByteArray := prog_12_method_55_code
def yX10_shuts : MethodName := ⟨RX10, "shuts", "()V"⟩
abbrev cX10_numberAt : ByteArray := prog_12_method_56_code
def yX10_numberAt : MethodName := ⟨RX10, "numberAt", "(II)J"⟩
abbrev cX10_behindNumber : ByteArray := prog_12_method_57_code
def yX10_behindNumber : MethodName := ⟨RX10, "behindNumber", "(II)I"⟩
abbrev cX10_worksOut : ByteArray := prog_12_method_58_code
def yX10_worksOut : MethodName := ⟨RX10, "worksOut", "(II)J"⟩
abbrev cX10_opens : ByteArray := prog_12_method_59_code
def yX10_opens : MethodName := ⟨RX10, "opens", "(IZ)V"⟩
abbrev cX10_solvesAll : ByteArray := prog_12_method_60_code
def yX10_solvesAll : MethodName := ⟨RX10, "solvesAll", "()V"⟩
abbrev cX10_goesTo : ByteArray := prog_12_method_61_code
def yX10_goesTo : MethodName := ⟨RX10, "goesTo", "(I)V"⟩
abbrev cX10_needsRounds : ByteArray := prog_12_method_62_code
def yX10_needsRounds : MethodName := ⟨RX10, "needsRounds", "(II)Z"⟩
abbrev cX10_guesses : ByteArray := prog_12_method_63_code
def yX10_guesses : MethodName := ⟨RX10, "guesses", "(II)V"⟩
abbrev cX10_stepBy : ByteArray := prog_12_method_64_code
def yX10_stepBy : MethodName := ⟨RX10, "stepBy", "(I)V"⟩
abbrev cX10_solve : ByteArray := prog_12_method_65_code
def yX10_solve : MethodName := ⟨RX10, "solve", "(I)I"⟩
abbrev cX10_value : ByteArray := prog_12_method_66_code
def yX10_value : MethodName := ⟨RX10, "value", "(II)I"⟩
abbrev cX10_slope : ByteArray := prog_12_method_67_code
def yX10_slope : MethodName := ⟨RX10, "slope", "(II)I"⟩
abbrev cX10_rightAt : ByteArray := prog_12_method_68_code
def yX10_rightAt : MethodName := ⟨RX10, "rightAt", "(II)I"⟩
abbrev cX10_step : ByteArray := prog_12_method_69_code
def yX10_step : MethodName := ⟨RX10, "step", "(II)I"⟩
abbrev cX10_crossing : ByteArray := prog_12_method_70_code
def yX10_crossing : MethodName := ⟨RX10, "crossing", "(III)I"⟩
abbrev cX10_greatest : ByteArray := prog_12_method_71_code
def yX10_greatest : MethodName := ⟨RX10, "greatest", "(IIII)I"⟩
abbrev cX10_differs : ByteArray := prog_12_method_72_code
def yX10_differs : MethodName := ⟨RX10, "differs", "(I)I"⟩
abbrev cX10_count : ByteArray := prog_12_method_73_code
def yX10_count : MethodName := ⟨RX10, "count", "(I)I"⟩
def RL : String := "LagSolverLaw"
def yL_law : MethodName := ⟨RL, "law", "([I)Z"⟩
abbrev clX : List vw_C := [(RX0, TX0, 4), (RX1, TX1, 3), (RX2, TX2, 2), (RX3, TX3, 2), (RX4, TX4, 2), (RX5, TX5, 3), (RX6, TX6, 6), (RX7, TX7, 6), (RX8, TX8, 6), (RX9, TX9, 6), (RX10, TX10, 31)]
/-- the words that move with a warmed machine, and the links of nest mates -/
def isNest : Cond → Bool
  | .methodLinkNest _ _ _ _ => true
  | .fieldLinkNest _ _ _ _ _ _ => true
  | _ => false
def tG : List Cond := lw_tbl.filter goodWord
def nG : List Cond := lw_tbl.filter isNest
theorem mem_tG {c : Cond} (i : Nat) (h : lw_tbl[i]? = some c) (g : goodWord c = true) : c ∈ tG := List.mem_filter.mpr ⟨List.mem_of_getElem? h, g⟩
theorem mem_nG {c : Cond} (i : Nat) (h : lw_tbl[i]? = some c) (g : isNest c = true) : c ∈ nG := List.mem_filter.mpr ⟨List.mem_of_getElem? h, g⟩
theorem tG_good {w : Cond} (h : w ∈ tG) : (w.onTables && w.keeps) = true ∨ ∃ ty, w = .arrayClass ty := good_of_word (List.mem_filter.mp h).2
end
section
/-! THE LAYER: a method's frame over a heap that is a function of addresses (HW); Sp: a method's contract, in the style of what comes behind it -/
abbrev MD : Type := MethodName × ByteArray × Nat × Option FieldType
abbrev Cel : Type := ((Nat × (Nat → Int32)) ⊕ (Nat × (Nat → Int64))) ⊕ ((Nat × (Nat → Option Nat)) ⊕ (Nat × List Value))
abbrev HW : Type := (Nat → Option Cel) × Nat
abbrev GX : Type := va_G × (ClassId × ClassId × ClassId) × Heap × (Nat × Nat) × (Nat × Nat × (Nat → Int32))
abbrev cI (n : Nat) (f : Nat → Int32) : Cel := .inl (.inl (n, f))
abbrev cL (n : Nat) (f : Nat → Int64) : Cel := .inl (.inr (n, f))
abbrev cR (n : Nat) (f : Nat → Option Nat) : Cel := .inr (.inl (n, f))
abbrev cO (ci : Nat) (fs : List Value) : Cel := .inr (.inr (ci, fs))
def gD (G : GX) : va_G := G.1
def gI (G : GX) : ClassId := G.2.1.1
def gJ (G : GX) : ClassId := G.2.1.2.1
def gS (G : GX) : ClassId := G.2.1.2.2
def gH (G : GX) : Heap := G.2.2.1
def gL (G : GX) : Nat := G.2.2.2.1.1
def gM (G : GX) : Nat := G.2.2.2.1.2
def gb (G : GX) : Nat := G.2.2.2.2.1
def gN (G : GX) : Nat := G.2.2.2.2.2.1
def gx (G : GX) : Nat → Int32 := G.2.2.2.2.2.2
def gA (G : GX) : Nat → Prop := fun q => (gH G).size ≤ q
def toE (G : GX) : Cel → va_E
  | .inl (.inl a) => .inl (gI G, a.1, .inl a.2)
  | .inl (.inr a) => .inl (gJ G, a.1, .inr (.inl a.2))
  | .inr (.inl a) => .inl (gS G, a.1, .inr (.inr (.inr (.inr a.2))))
  | .inr (.inr o) => .inr o
def atC (G : GX) (a : Nat) (c : Cel) (H : Heap) : Prop := va_at (gD G) clX (a, toE G c) H
def Rel (G : GX) (w : HW) (H : Heap) : Prop := H.size = w.2 ∧ (gH G).size ≤ w.2 ∧ (∀ a c, w.1 a = some c → (gH G).size ≤ a ∧ atC G a c H) ∧ ∀ q : Nat, q < (gH G).size → H[q]? = (gH G)[q]?
def hset (w : HW) (a : Nat) (c : Cel) : HW := (fun q => if q = a then some c else w.1 q, w.2)
def hnew (w : HW) (c : Cel) : HW := (fun q => if q = w.2 then some c else w.1 q, w.2 + 1)
theorem Rel.set {G : GX} {w : HW} {H H1 : Heap} {a : Nat} {c0 c : Cel} (h : Rel G w H) (ha : w.1 a = some c0) (hc : atC G a c H1) (hz : H1.size = H.size) (ho : ∀ q : Nat, q ≠ a → H1[q]? = H[q]?) : Rel G (hset w a c) H1 := by
  obtain ⟨h1, h2, h3, h4⟩ := h
  have hga := (h3 a c0 ha).1
  refine ⟨hz.trans h1, h2, fun q d hq => ?_, fun q hq => (ho q (by omega)).trans (h4 q hq)⟩
  by_cases e : q = a
  · subst e
    have : c = d := by simpa [hset] using hq
    subst this
    exact ⟨hga, hc⟩
  · have hq' : w.1 q = some d := by simpa [hset, e] using hq
    exact ⟨(h3 q d hq').1, (h3 q d hq').2.kept (ho q e)⟩
theorem Rel.new {G : GX} {w : HW} {H H1 : Heap} {c : Cel} (h : Rel G w H) (hc : atC G H.size c H1) (hz : H1.size = H.size + 1) (ho : ∀ q : Nat, q < H.size → H1[q]? = H[q]?) : Rel G (hnew w c) H1 := by
  obtain ⟨h1, h2, h3, h4⟩ := h
  refine ⟨by rw [hz, h1]; rfl, Nat.le_succ_of_le h2, fun q d hq => ?_, fun q hq => (ho q (by omega)).trans (h4 q hq)⟩
  by_cases e : q = w.2
  · subst e
    have : c = d := by simpa [hnew] using hq
    subst this
    exact ⟨h2, by rw [← h1]; exact hc⟩
  · have hq' : w.1 q = some d := by simpa [hnew, e] using hq
    obtain ⟨g1, g2⟩ := h3 q d hq'
    exact ⟨g1, g2.kept (ho q g2.lt)⟩
theorem Rel.at {G : GX} {w : HW} {H : Heap} {a : Nat} {c : Cel} (h : Rel G w H) (ha : w.1 a = some c) : va_P (gD G) clX [(a, toE G c)] H := by
  intro k q hk
  match k, hk with
  | 0, hk => cases hk; exact (h.2.2.1 a c ha).2
  | k + 1, hk => simp at hk
/-- what the tables and the start say, and keeps -/
def tysG (G : GX) : List (ClassId × FieldType) := [(gI G, .int), (gJ G, .long), (gS G, .object "LagSolver$State")]
def fLeast : Nat → Value := fun j => if j = 0 then .int 20 else .int 0
def fMost : Nat → Value := fun j => if j = 0 then .int 500 else if j = 1 then .int 4 else .int 3
def AmbU (G : GX) (U : State) : Prop := va_K (gD G) clX (tysG G) U ∧ (∀ w ∈ nG, va_Nw w U) ∧ va_Z "LagSolver" "SETTING_LEAST" "[I" (.ref (gL G)) (gA G) U (gH G) ∧ va_Z "LagSolver" "SETTING_MOST" "[I" (.ref (gM G)) (gA G) U (gH G) ∧ va_T .int (gL G) 3 fLeast (gA G) U (gH G) ∧ va_T .int (gM G) 3 fMost (gA G) U (gH G) ∧ va_X (gb G) (gN G) (gx G) U (gH G) ∧ gb G < (gH G).size ∧ va_AO "LagSolver$State" U
theorem nest_moved {w : Cond} (hw : w ∈ nG) {s U : State} (hW : s.WarmedH U.vm) (h : va_Nw w s) : va_Nw w U := by
  have hb := (List.mem_filter.mp hw).2
  cases w <;> first | (simp [isNest] at hb; done) | exact va_Nw.warmM hW h | exact va_Nw.warmF hW h
theorem AmbU.moved {G : GX} {s U : State} (hW : s.WarmedH U.vm) (h : AmbU G s) : AmbU G U := by
  obtain ⟨h1, h2, h3, h4, h5, h6, h7, h8, h9⟩ := h
  exact ⟨va_K.moved hW.alike h1, fun w hw => nest_moved hw hW (h2 w hw), h3.moved hW.alike, h4.moved hW.alike, h5.moved hW.alike, h6.moved hW.alike, h7.moved hW.alike, h8, h9.moved hW.alike⟩
theorem AmbU.same {G : GX} {u U : State} (hvm : u.vm = U.vm) (h : AmbU G u) : AmbU G U := by
  obtain ⟨h1, h2, h3, h4, h5, h6, h7, h8, h9⟩ := h
  have ha : u.vm.Alike U.vm := by rw [hvm]; exact Vm.Alike.refl _
  refine ⟨va_K.moved ha h1, fun w hw => ?_, h3.moved ha, h4.moved ha, h5.moved ha, h6.moved ha, h7.moved ha, h8, h9.moved ha⟩
  have hb := (List.mem_filter.mp hw).2
  exact (h2 w hw).same (by cases w <;> first | (simp [isNest] at hb; done) | rfl) hvm
def rmX (d mc ms : Nat) : Room := { frames := d, cells := mc, slots := ms, locals := 40 * d }
def Amb (G : GX) (M : MD) (d mc ms : Nat) (p : Program) (R : Room) (s : State) (m : MethodId) (args : Array Value) (meth : Method) (c : Code) : Prop :=
  p.tables.exec = Jvm.exec ∧ c.code = M.2.1 ∧ c.maxLocals = M.2.2.1 ∧ s.vm.findClass M.1.cls = some m.cls ∧ (∀ w ∈ tG, w.before args s = true) ∧ (M.1.name = "<init>" → meth.name = "<init>") ∧ AmbU G s ∧ d ≤ R.frames ∧ 40 * d ≤ R.locals ∧ mc ≤ R.cells ∧ ms ≤ R.slots
def LocOK (G : GX) (locs : List Loc) : Prop := ∀ q ∈ locs, (gH G).size ≤ q.base
def RetAt (M : MD) (pc : Nat) : Option Value → Prop
  | some (.int v) => decode M.2.1 pc = .ok (.ireturn, 1) ∧ (M.2.2.2 = some .int ∨ (M.2.2.2 = some .boolean ∧ narrow .boolean (.int v) = .int v))
  | some (.long _) => decode M.2.1 pc = .ok (.lreturn, 1) ∧ M.2.2.2 = some .long
  | none => decode M.2.1 pc = .ok (.return_, 1) ∧ M.2.2.2 = none
  | _ => False
abbrev pushR : Option Value → List Value → List Value
  | some v, st => v :: st
  | none, st => st
def EndX (G : GX) (M : MD) (mc ms : Nat) (p : Program) (l : Launch) (e : Env) (R : Room) (s : State) (m : MethodId) (args : Array Value) (below : List Frame) (meth : Method) (c : Code) (Q : Option Value → HW → Prop) (Z : State → Prop) : Prop :=
  ∀ (r : Option Value) (w : HW) (H : Heap) (locs : List Loc) (k n pc : Nat) (ls : Array Slot), Q r w → Rel G w H → LocOK G locs → k ≤ mc → n ≤ ms → RetAt M pc r → W p l e R s m args below meth c H locs k n Z (F0 m pc ls (pushR r []))
def X (G : GX) (l : Launch) (M : MD) (d mc ms k n pc : Nat) (lv : List (Nat × Value)) (st : List Value) (w : HW) (Q : Option Value → HW → Prop) : Prop :=
  ∀ (p : Program) (e : Env) (R : Room) (s : State) (m : MethodId) (args : Array Value) (below : List Frame) (meth : Method) (c : Code) (Z : State → Prop) (H : Heap) (locs : List Loc) (ls : Array Slot),
    Amb G M d mc ms p R s m args meth c → EndX G M mc ms p l e R s m args below meth c Q Z → Rel G w H → LocOK G locs → lv_has ls M.2.2.1 lv → k ≤ mc → n ≤ ms → W p l e R s m args below meth c H locs k n Z (F0 m pc ls st)
def PcX (G : GX) (av : List Value) (w : HW) : Array Value → State → Prop := fun v U => v = av.toArray ∧ Rel G w U.heap ∧ AmbU G U
def QcX (G : GX) (Q : Option Value → HW → Prop) : Array Value → State → Outcome → State → Prop := fun _ _ o t => ∃ (r : Option Value) (w : HW), o = .returned r ∧ Q r w ∧ Rel G w t.heap
def Sp (G : GX) (l : Launch) (M : MD) (d mc ms : Nat) (av : List Value) (w : HW) (Q : Option Value → HW → Prop) : Prop :=
  Met l M.1 (Cond.code M.1 M.2.1 M.2.2.1 M.2.2.2 :: tG) (rmX d mc ms) (PcX G av w) (QcX G Q) mc ms (gA G)
theorem PcX.blind {G : GX} {av : List Value} {w : HW} : FrameBlind (PcX G av w) := fun a U g mk h => ⟨h.1, h.2.1, AmbU.same (u := U) (U := U.calling g mk a) rfl h.2.2⟩
set_option maxHeartbeats 1000000 in
theorem Sp.ofX {G : GX} {l : Launch} {M : MD} {d mc ms : Nat} {av : List Value} {w : HW} {Q : Option Value → HW → Prop} (hy : plainName M.1.cls = true) (hlen : (lg_sl av).length ≤ M.2.2.1) (hx : X G l M d mc ms 0 0 0 (lv_args 0 av) [] w Q) : Sp G l M d mc ms av w Q := by
  refine Met.ofW (cc := M.2.1) (maxL := M.2.2.1) (ret := M.2.2.2) hy rfl ?_
  intro p e s m args below meth c s₁ B hml hv
  obtain ⟨rfl, hR, hU⟩ := hv
  have hts := atoms_spec (ws := Cond.code M.1 M.2.1 M.2.2.1 M.2.2.2 :: tG) B.pre
  have hl := lv_entry av (n := M.2.2.1) hlen
  have hb := B.bytes
  have hxx := B.exec
  have hr := B.returns
  have hlocks := B.notSynchronized
  rw [lg_entry_eq]
  refine hx p e _ s m _ below meth c _ s.heap [] _ ⟨hxx, hb, hml, findClass_of_methodNamed B.named, fun w hw => hts w (List.mem_cons_of_mem _ hw), fun h => ?_, hU, Nat.le_refl _, Nat.le_refl _, Nat.le_refl _, Nat.le_refl _⟩ ?_ hR (fun q hq => by cases hq) hl (Nat.zero_le _) (Nat.zero_le _)
  · rw [← h]; exact (name_of_methodNamed B.named B.method).1
  · intro r w' H' locs k n pc ls hQ hR' hL hk hn hret
    refine W.widen (k := mc) (n := ms) hk hn ?_
    match r, hret with
    | none, hret => exact W.vret hxx hb (hr.trans hret.2) (fun t ht hW => ⟨none, w', rfl, hQ, by rw [ht]; exact hR'⟩) hL hret.1
    | some (.int v), hret =>
      rcases hret.2 with h | ⟨h, hn⟩
      · exact W.iret (v := v) hxx hb (hr.trans h) (fun t ht hW => ⟨some (.int v), w', rfl, hQ, by rw [ht]; exact hR'⟩) hL hret.1
      · exact W.zret (v := v) hxx hb (hr.trans h) hn (fun t ht hW => ⟨some (.int v), w', rfl, hQ, by rw [ht]; exact hR'⟩) hL hret.1
    | some (.long v), hret => exact W.lret (v := v) hxx hb (hr.trans hret.2) (fun t ht hW => ⟨some (.long v), w', rfl, hQ, by rw [ht]; exact hR'⟩) hL hret.1
theorem Sp.mono {G : GX} {l : Launch} {M : MD} {d mc ms : Nat} {av : List Value} {w : HW} {Q Q' : Option Value → HW → Prop} (h : Sp G l M d mc ms av w Q) (hq : ∀ r w, Q r w → Q' r w) : Sp G l M d mc ms av w Q' := by
  intro p e ha hc hk s m args below hf h1 h2 h3
  obtain ⟨k, o, g1, g2, g3, ⟨r, w', e1, e2, e3⟩, g4⟩ := h p e ha hc hk s m args below hf h1 h2 h3
  exact ⟨k, o, g1, g2, g3, ⟨r, w', e1, hq _ _ e2, e3⟩, g4⟩
end
section
section
variable {G : GX} {l : Launch} {M : MD} {d mc ms k n pc : Nat} {lv : List (Nat × Value)} {st : List Value} {w : HW} {Q : Option Value → HW → Prop}
theorem x_iconst {q : Int} {v : Int32} (hdg : decode M.2.1 pc = .ok (.iconst q, 1)) (hv : Int32.ofInt q = v) (kk : X G l M d mc ms k n (pc + 1) lv (.int v :: st) w Q) : X G l M d mc ms k n pc lv (st) w Q := by
  intro p e R s m args below meth c Z H locs ls A E hR hL hl hk hn
  exact lv_iconst A.1 A.2.1 hdg hv (kk p e R s m args below meth c Z H locs ls A E hR hL hl hk hn)
theorem x_bipush {q : Int} {v : Int32} (hdg : decode M.2.1 pc = .ok (.bipush q, 2)) (hv : (Int8.ofInt q).toInt32 = v) (kk : X G l M d mc ms k n (pc + 2) lv (.int v :: st) w Q) : X G l M d mc ms k n pc lv (st) w Q := by
  intro p e R s m args below meth c Z H locs ls A E hR hL hl hk hn
  exact lv_bipush A.1 A.2.1 hdg hv (kk p e R s m args below meth c Z H locs ls A E hR hL hl hk hn)
theorem x_sipush {q : Int} {v : Int32} (hdg : decode M.2.1 pc = .ok (.sipush q, 3)) (hv : (Int16.ofInt q).toInt32 = v) (kk : X G l M d mc ms k n (pc + 3) lv (.int v :: st) w Q) : X G l M d mc ms k n pc lv (st) w Q := by
  intro p e R s m args below meth c Z H locs ls A E hR hL hl hk hn
  exact lv_sipush A.1 A.2.1 hdg hv (kk p e R s m args below meth c Z H locs ls A E hR hL hl hk hn)
theorem x_lconst {q : Fin 2} {v : Int64} (hdg : decode M.2.1 pc = .ok (.lconst q, 1)) (hv : Int64.ofNat (q : Nat) = v) (kk : X G l M d mc ms k n (pc + 1) lv (.long v :: st) w Q) : X G l M d mc ms k n pc lv (st) w Q := by
  intro p e R s m args below meth c Z H locs ls A E hR hL hl hk hn
  exact lv_lconst A.1 A.2.1 hdg hv (kk p e R s m args below meth c Z H locs ls A E hR hL hl hk hn)
theorem x_iadd {x y : Int32} (hdg : decode M.2.1 pc = .ok (.iadd, 1)) (kk : X G l M d mc ms k n (pc + 1) lv (.int (x + y) :: st) w Q) : X G l M d mc ms k n pc lv (.int y :: .int x :: st) w Q := by
  intro p e R s m args below meth c Z H locs ls A E hR hL hl hk hn
  exact lv_iadd A.1 A.2.1 hdg (kk p e R s m args below meth c Z H locs ls A E hR hL hl hk hn)
theorem x_isub {x y : Int32} (hdg : decode M.2.1 pc = .ok (.isub, 1)) (kk : X G l M d mc ms k n (pc + 1) lv (.int (x - y) :: st) w Q) : X G l M d mc ms k n pc lv (.int y :: .int x :: st) w Q := by
  intro p e R s m args below meth c Z H locs ls A E hR hL hl hk hn
  exact lv_isub A.1 A.2.1 hdg (kk p e R s m args below meth c Z H locs ls A E hR hL hl hk hn)
theorem x_imul {x y : Int32} (hdg : decode M.2.1 pc = .ok (.imul, 1)) (kk : X G l M d mc ms k n (pc + 1) lv (.int (x * y) :: st) w Q) : X G l M d mc ms k n pc lv (.int y :: .int x :: st) w Q := by
  intro p e R s m args below meth c Z H locs ls A E hR hL hl hk hn
  exact lv_imul A.1 A.2.1 hdg (kk p e R s m args below meth c Z H locs ls A E hR hL hl hk hn)
theorem x_iand {x y : Int32} (hdg : decode M.2.1 pc = .ok (.iand, 1)) (kk : X G l M d mc ms k n (pc + 1) lv (.int (x &&& y) :: st) w Q) : X G l M d mc ms k n pc lv (.int y :: .int x :: st) w Q := by
  intro p e R s m args below meth c Z H locs ls A E hR hL hl hk hn
  exact lv_iand A.1 A.2.1 hdg (kk p e R s m args below meth c Z H locs ls A E hR hL hl hk hn)
theorem x_ior {x y : Int32} (hdg : decode M.2.1 pc = .ok (.ior, 1)) (kk : X G l M d mc ms k n (pc + 1) lv (.int (x ||| y) :: st) w Q) : X G l M d mc ms k n pc lv (.int y :: .int x :: st) w Q := by
  intro p e R s m args below meth c Z H locs ls A E hR hL hl hk hn
  exact lv_ior A.1 A.2.1 hdg (kk p e R s m args below meth c Z H locs ls A E hR hL hl hk hn)
theorem x_idiv {x y : Int32} (hdg : decode M.2.1 pc = .ok (.idiv, 1)) (hne : ¬ y = 0) (kk : X G l M d mc ms k n (pc + 1) lv (.int (x / y) :: st) w Q) : X G l M d mc ms k n pc lv (.int y :: .int x :: st) w Q := by
  intro p e R s m args below meth c Z H locs ls A E hR hL hl hk hn
  exact lv_idiv A.1 A.2.1 hdg hne (kk p e R s m args below meth c Z H locs ls A E hR hL hl hk hn)
theorem x_ineg {x : Int32} (hdg : decode M.2.1 pc = .ok (.ineg, 1)) (kk : X G l M d mc ms k n (pc + 1) lv (.int (-x) :: st) w Q) : X G l M d mc ms k n pc lv (.int x :: st) w Q := by
  intro p e R s m args below meth c Z H locs ls A E hR hL hl hk hn
  exact lv_ineg A.1 A.2.1 hdg (kk p e R s m args below meth c Z H locs ls A E hR hL hl hk hn)
theorem x_ladd {x y : Int64} (hdg : decode M.2.1 pc = .ok (.ladd, 1)) (kk : X G l M d mc ms k n (pc + 1) lv (.long (x + y) :: st) w Q) : X G l M d mc ms k n pc lv (.long y :: .long x :: st) w Q := by
  intro p e R s m args below meth c Z H locs ls A E hR hL hl hk hn
  exact lv_ladd A.1 A.2.1 hdg (kk p e R s m args below meth c Z H locs ls A E hR hL hl hk hn)
theorem x_lsub {x y : Int64} (hdg : decode M.2.1 pc = .ok (.lsub, 1)) (kk : X G l M d mc ms k n (pc + 1) lv (.long (x - y) :: st) w Q) : X G l M d mc ms k n pc lv (.long y :: .long x :: st) w Q := by
  intro p e R s m args below meth c Z H locs ls A E hR hL hl hk hn
  exact lv_lsub A.1 A.2.1 hdg (kk p e R s m args below meth c Z H locs ls A E hR hL hl hk hn)
theorem x_lmul {x y : Int64} (hdg : decode M.2.1 pc = .ok (.lmul, 1)) (kk : X G l M d mc ms k n (pc + 1) lv (.long (x * y) :: st) w Q) : X G l M d mc ms k n pc lv (.long y :: .long x :: st) w Q := by
  intro p e R s m args below meth c Z H locs ls A E hR hL hl hk hn
  exact lv_lmul A.1 A.2.1 hdg (kk p e R s m args below meth c Z H locs ls A E hR hL hl hk hn)
theorem x_ldiv {x y : Int64} (hdg : decode M.2.1 pc = .ok (.ldiv, 1)) (hne : ¬ y = 0) (kk : X G l M d mc ms k n (pc + 1) lv (.long (x / y) :: st) w Q) : X G l M d mc ms k n pc lv (.long y :: .long x :: st) w Q := by
  intro p e R s m args below meth c Z H locs ls A E hR hL hl hk hn
  exact lv_ldiv A.1 A.2.1 hdg hne (kk p e R s m args below meth c Z H locs ls A E hR hL hl hk hn)
theorem x_lneg {x : Int64} (hdg : decode M.2.1 pc = .ok (.lneg, 1)) (kk : X G l M d mc ms k n (pc + 1) lv (.long (-x) :: st) w Q) : X G l M d mc ms k n pc lv (.long x :: st) w Q := by
  intro p e R s m args below meth c Z H locs ls A E hR hL hl hk hn
  exact lv_lneg A.1 A.2.1 hdg (kk p e R s m args below meth c Z H locs ls A E hR hL hl hk hn)
theorem x_ishl {x y : Int32} (hdg : decode M.2.1 pc = .ok (.ishl, 1)) (kk : X G l M d mc ms k n (pc + 1) lv (.int (x <<< (y &&& 31)) :: st) w Q) : X G l M d mc ms k n pc lv (.int y :: .int x :: st) w Q := by
  intro p e R s m args below meth c Z H locs ls A E hR hL hl hk hn
  exact lv_ishl A.1 A.2.1 hdg (kk p e R s m args below meth c Z H locs ls A E hR hL hl hk hn)
theorem x_ishr {x y : Int32} (hdg : decode M.2.1 pc = .ok (.ishr, 1)) (kk : X G l M d mc ms k n (pc + 1) lv (.int (x >>> (y &&& 31)) :: st) w Q) : X G l M d mc ms k n pc lv (.int y :: .int x :: st) w Q := by
  intro p e R s m args below meth c Z H locs ls A E hR hL hl hk hn
  exact lv_ishr A.1 A.2.1 hdg (kk p e R s m args below meth c Z H locs ls A E hR hL hl hk hn)
theorem x_i2l {x : Int32} {v : Int64} (hdg : decode M.2.1 pc = .ok (.i2l, 1)) (hv : x.toInt64 = v) (kk : X G l M d mc ms k n (pc + 1) lv (.long v :: st) w Q) : X G l M d mc ms k n pc lv (.int x :: st) w Q := by
  intro p e R s m args below meth c Z H locs ls A E hR hL hl hk hn
  exact lv_i2l A.1 A.2.1 hdg hv (kk p e R s m args below meth c Z H locs ls A E hR hL hl hk hn)
theorem x_l2i {x : Int64} {v : Int32} (hdg : decode M.2.1 pc = .ok (.l2i, 1)) (hv : x.toInt32 = v) (kk : X G l M d mc ms k n (pc + 1) lv (.int v :: st) w Q) : X G l M d mc ms k n pc lv (.long x :: st) w Q := by
  intro p e R s m args below meth c Z H locs ls A E hR hL hl hk hn
  exact lv_l2i A.1 A.2.1 hdg hv (kk p e R s m args below meth c Z H locs ls A E hR hL hl hk hn)
theorem x_dup {va : Value} (hdg : decode M.2.1 pc = .ok (.dup, 1)) (hva : va.category = 1) (kk : X G l M d mc ms k n (pc + 1) lv (va :: va :: st) w Q) : X G l M d mc ms k n pc lv (va :: st) w Q := by
  intro p e R s m args below meth c Z H locs ls A E hR hL hl hk hn
  exact lv_dup A.1 A.2.1 hdg hva (kk p e R s m args below meth c Z H locs ls A E hR hL hl hk hn)
theorem x_dup2_11 {va vb : Value} (hdg : decode M.2.1 pc = .ok (.dup2, 1)) (hva : va.category = 1) (hvb : vb.category = 1) (kk : X G l M d mc ms k n (pc + 1) lv (va :: vb :: va :: vb :: st) w Q) : X G l M d mc ms k n pc lv (va :: vb :: st) w Q := by
  intro p e R s m args below meth c Z H locs ls A E hR hL hl hk hn
  exact lv_dup2_11 A.1 A.2.1 hdg hva hvb (kk p e R s m args below meth c Z H locs ls A E hR hL hl hk hn)
theorem x_goto {off : Int} {tgt : Nat} (hdg : decode M.2.1 pc = .ok (.goto off, 3)) (ht : (pc : Int) + off = (tgt : Int)) (kk : X G l M d mc ms k n tgt lv st w Q) : X G l M d mc ms k n pc lv st w Q := by
  intro p e R s m args below meth c Z H locs ls A E hR hL hl hk hn
  exact lv_goto A.1 A.2.1 hdg ht (kk p e R s m args below meth c Z H locs ls A E hR hL hl hk hn)
theorem x_ifnonnull {x : Nat} {off : Int} {tgt : Nat} (hdg : decode M.2.1 pc = .ok (.ifnonnull off, 3)) (ht : (pc : Int) + off = (tgt : Int)) (kk : X G l M d mc ms k n tgt lv st w Q) : X G l M d mc ms k n pc lv (.ref x :: st) w Q := by
  intro p e R s m args below meth c Z H locs ls A E hR hL hl hk hn
  exact lv_ifnonnull A.1 A.2.1 hdg ht (kk p e R s m args below meth c Z H locs ls A E hR hL hl hk hn)
theorem x_ifnull {x : Nat} {off : Int} (hdg : decode M.2.1 pc = .ok (.ifnull off, 3)) (kk : X G l M d mc ms k n (pc + 3) lv st w Q) : X G l M d mc ms k n pc lv (.ref x :: st) w Q := by
  intro p e R s m args below meth c Z H locs ls A E hR hL hl hk hn
  exact lv_ifnull A.1 A.2.1 hdg (kk p e R s m args below meth c Z H locs ls A E hR hL hl hk hn)
theorem x_null (hdg : decode M.2.1 pc = .ok (.aconst_null, 1)) (kk : X G l M d mc ms k n (pc + 1) lv (.null :: st) w Q) : X G l M d mc ms k n pc lv st w Q := by
  intro p e R s m args below meth c Z H locs ls A E hR hL hl hk hn
  exact lv_null A.1 A.2.1 hdg (kk p e R s m args below meth c Z H locs ls A E hR hL hl hk hn)
theorem x_ifnullN {off : Int} {tgt : Nat} (hdg : decode M.2.1 pc = .ok (.ifnull off, 3)) (ht : (pc : Int) + off = (tgt : Int)) (kk : X G l M d mc ms k n tgt lv st w Q) : X G l M d mc ms k n pc lv (.null :: st) w Q := by
  intro p e R s m args below meth c Z H locs ls A E hR hL hl hk hn
  exact lv_ifnullN A.1 A.2.1 hdg ht (kk p e R s m args below meth c Z H locs ls A E hR hL hl hk hn)
theorem x_ifnonnullN {off : Int} (hdg : decode M.2.1 pc = .ok (.ifnonnull off, 3)) (kk : X G l M d mc ms k n (pc + 3) lv st w Q) : X G l M d mc ms k n pc lv (.null :: st) w Q := by
  intro p e R s m args below meth c Z H locs ls A E hR hL hl hk hn
  exact lv_ifnonnullN A.1 A.2.1 hdg (kk p e R s m args below meth c Z H locs ls A E hR hL hl hk hn)
theorem x_tableIn {dflt lo hi : Int} {offs : Array Int} {len : Nat} {x : Int32} {off : Int} {tgt : Nat} (hdg : decode M.2.1 pc = .ok (.tableswitch dflt lo hi offs, len)) (h1 : ¬ x.toInt < lo) (h2 : ¬ hi < x.toInt) (ho : offs[(x.toInt - lo).toNat]? = some off) (ht : (pc : Int) + off = (tgt : Int)) (kk : X G l M d mc ms k n tgt lv st w Q) : X G l M d mc ms k n pc lv (.int x :: st) w Q := by
  intro p e R s m args below meth c Z H locs ls A E hR hL hl hk hn
  exact lv_tableIn A.1 A.2.1 hdg h1 h2 ho ht (kk p e R s m args below meth c Z H locs ls A E hR hL hl hk hn)
theorem x_tableOut {dflt lo hi : Int} {offs : Array Int} {len : Nat} {x : Int32} {tgt : Nat} (hdg : decode M.2.1 pc = .ok (.tableswitch dflt lo hi offs, len)) (h : x.toInt < lo ∨ hi < x.toInt) (ht : (pc : Int) + dflt = (tgt : Int)) (kk : X G l M d mc ms k n tgt lv st w Q) : X G l M d mc ms k n pc lv (.int x :: st) w Q := by
  intro p e R s m args below meth c Z H locs ls A E hR hL hl hk hn
  exact lv_tableOut A.1 A.2.1 hdg h ht (kk p e R s m args below meth c Z H locs ls A E hR hL hl hk hn)
theorem x_lookup {dflt : Int} {ps : Array (Int × Int)} {len : Nat} {x : Int32} {off : Int} {tgt : Nat} (hdg : decode M.2.1 pc = .ok (.lookupswitch dflt ps, len)) (hp : (ps.toList.zip (ps.toList.drop 1)).all (fun (a, next) => a.1 < next.1) = true) (ho : Op.lookupswitch.offset ps.toList dflt x.toInt = off) (ht : (pc : Int) + off = (tgt : Int)) (kk : X G l M d mc ms k n tgt lv st w Q) : X G l M d mc ms k n pc lv (.int x :: st) w Q := by
  intro p e R s m args below meth c Z H locs ls A E hR hL hl hk hn
  exact lv_lookup A.1 A.2.1 hdg hp ho ht (kk p e R s m args below meth c Z H locs ls A E hR hL hl hk hn)
theorem x_if_eq {x : Int32} {off : Int} {tgt : Nat} (hdg : decode M.2.1 pc = .ok (.ifCond .eq off, 3)) (ht : (pc : Int) + off = (tgt : Int)) (kt : x = 0 → X G l M d mc ms k n tgt lv st w Q) (kf : ¬ x = 0 → X G l M d mc ms k n (pc + 3) lv st w Q) : X G l M d mc ms k n pc lv (.int x :: st) w Q := by
  intro p e R s m args below meth c Z H locs ls A E hR hL hl hk hn
  exact lv_if_eq A.1 A.2.1 hdg ht (fun hc => kt hc p e R s m args below meth c Z H locs ls A E hR hL hl hk hn) (fun hc => kf hc p e R s m args below meth c Z H locs ls A E hR hL hl hk hn)
theorem x_icmp_eq {x y : Int32} {off : Int} {tgt : Nat} (hdg : decode M.2.1 pc = .ok (.if_icmp .eq off, 3)) (ht : (pc : Int) + off = (tgt : Int)) (kt : x = y → X G l M d mc ms k n tgt lv st w Q) (kf : ¬ x = y → X G l M d mc ms k n (pc + 3) lv st w Q) : X G l M d mc ms k n pc lv (.int y :: .int x :: st) w Q := by
  intro p e R s m args below meth c Z H locs ls A E hR hL hl hk hn
  exact lv_icmp_eq A.1 A.2.1 hdg ht (fun hc => kt hc p e R s m args below meth c Z H locs ls A E hR hL hl hk hn) (fun hc => kf hc p e R s m args below meth c Z H locs ls A E hR hL hl hk hn)
theorem x_if_ne {x : Int32} {off : Int} {tgt : Nat} (hdg : decode M.2.1 pc = .ok (.ifCond .ne off, 3)) (ht : (pc : Int) + off = (tgt : Int)) (kt : ¬ x = 0 → X G l M d mc ms k n tgt lv st w Q) (kf : x = 0 → X G l M d mc ms k n (pc + 3) lv st w Q) : X G l M d mc ms k n pc lv (.int x :: st) w Q := by
  intro p e R s m args below meth c Z H locs ls A E hR hL hl hk hn
  exact lv_if_ne A.1 A.2.1 hdg ht (fun hc => kt hc p e R s m args below meth c Z H locs ls A E hR hL hl hk hn) (fun hc => kf hc p e R s m args below meth c Z H locs ls A E hR hL hl hk hn)
theorem x_icmp_ne {x y : Int32} {off : Int} {tgt : Nat} (hdg : decode M.2.1 pc = .ok (.if_icmp .ne off, 3)) (ht : (pc : Int) + off = (tgt : Int)) (kt : ¬ x = y → X G l M d mc ms k n tgt lv st w Q) (kf : x = y → X G l M d mc ms k n (pc + 3) lv st w Q) : X G l M d mc ms k n pc lv (.int y :: .int x :: st) w Q := by
  intro p e R s m args below meth c Z H locs ls A E hR hL hl hk hn
  exact lv_icmp_ne A.1 A.2.1 hdg ht (fun hc => kt hc p e R s m args below meth c Z H locs ls A E hR hL hl hk hn) (fun hc => kf hc p e R s m args below meth c Z H locs ls A E hR hL hl hk hn)
theorem x_if_lt {x : Int32} {off : Int} {tgt : Nat} (hdg : decode M.2.1 pc = .ok (.ifCond .lt off, 3)) (ht : (pc : Int) + off = (tgt : Int)) (kt : x < 0 → X G l M d mc ms k n tgt lv st w Q) (kf : ¬ x < 0 → X G l M d mc ms k n (pc + 3) lv st w Q) : X G l M d mc ms k n pc lv (.int x :: st) w Q := by
  intro p e R s m args below meth c Z H locs ls A E hR hL hl hk hn
  exact lv_if_lt A.1 A.2.1 hdg ht (fun hc => kt hc p e R s m args below meth c Z H locs ls A E hR hL hl hk hn) (fun hc => kf hc p e R s m args below meth c Z H locs ls A E hR hL hl hk hn)
theorem x_icmp_lt {x y : Int32} {off : Int} {tgt : Nat} (hdg : decode M.2.1 pc = .ok (.if_icmp .lt off, 3)) (ht : (pc : Int) + off = (tgt : Int)) (kt : x < y → X G l M d mc ms k n tgt lv st w Q) (kf : ¬ x < y → X G l M d mc ms k n (pc + 3) lv st w Q) : X G l M d mc ms k n pc lv (.int y :: .int x :: st) w Q := by
  intro p e R s m args below meth c Z H locs ls A E hR hL hl hk hn
  exact lv_icmp_lt A.1 A.2.1 hdg ht (fun hc => kt hc p e R s m args below meth c Z H locs ls A E hR hL hl hk hn) (fun hc => kf hc p e R s m args below meth c Z H locs ls A E hR hL hl hk hn)
theorem x_if_ge {x : Int32} {off : Int} {tgt : Nat} (hdg : decode M.2.1 pc = .ok (.ifCond .ge off, 3)) (ht : (pc : Int) + off = (tgt : Int)) (kt : 0 ≤ x → X G l M d mc ms k n tgt lv st w Q) (kf : ¬ 0 ≤ x → X G l M d mc ms k n (pc + 3) lv st w Q) : X G l M d mc ms k n pc lv (.int x :: st) w Q := by
  intro p e R s m args below meth c Z H locs ls A E hR hL hl hk hn
  exact lv_if_ge A.1 A.2.1 hdg ht (fun hc => kt hc p e R s m args below meth c Z H locs ls A E hR hL hl hk hn) (fun hc => kf hc p e R s m args below meth c Z H locs ls A E hR hL hl hk hn)
theorem x_icmp_ge {x y : Int32} {off : Int} {tgt : Nat} (hdg : decode M.2.1 pc = .ok (.if_icmp .ge off, 3)) (ht : (pc : Int) + off = (tgt : Int)) (kt : y ≤ x → X G l M d mc ms k n tgt lv st w Q) (kf : ¬ y ≤ x → X G l M d mc ms k n (pc + 3) lv st w Q) : X G l M d mc ms k n pc lv (.int y :: .int x :: st) w Q := by
  intro p e R s m args below meth c Z H locs ls A E hR hL hl hk hn
  exact lv_icmp_ge A.1 A.2.1 hdg ht (fun hc => kt hc p e R s m args below meth c Z H locs ls A E hR hL hl hk hn) (fun hc => kf hc p e R s m args below meth c Z H locs ls A E hR hL hl hk hn)
theorem x_if_gt {x : Int32} {off : Int} {tgt : Nat} (hdg : decode M.2.1 pc = .ok (.ifCond .gt off, 3)) (ht : (pc : Int) + off = (tgt : Int)) (kt : 0 < x → X G l M d mc ms k n tgt lv st w Q) (kf : ¬ 0 < x → X G l M d mc ms k n (pc + 3) lv st w Q) : X G l M d mc ms k n pc lv (.int x :: st) w Q := by
  intro p e R s m args below meth c Z H locs ls A E hR hL hl hk hn
  exact lv_if_gt A.1 A.2.1 hdg ht (fun hc => kt hc p e R s m args below meth c Z H locs ls A E hR hL hl hk hn) (fun hc => kf hc p e R s m args below meth c Z H locs ls A E hR hL hl hk hn)
theorem x_icmp_gt {x y : Int32} {off : Int} {tgt : Nat} (hdg : decode M.2.1 pc = .ok (.if_icmp .gt off, 3)) (ht : (pc : Int) + off = (tgt : Int)) (kt : y < x → X G l M d mc ms k n tgt lv st w Q) (kf : ¬ y < x → X G l M d mc ms k n (pc + 3) lv st w Q) : X G l M d mc ms k n pc lv (.int y :: .int x :: st) w Q := by
  intro p e R s m args below meth c Z H locs ls A E hR hL hl hk hn
  exact lv_icmp_gt A.1 A.2.1 hdg ht (fun hc => kt hc p e R s m args below meth c Z H locs ls A E hR hL hl hk hn) (fun hc => kf hc p e R s m args below meth c Z H locs ls A E hR hL hl hk hn)
theorem x_if_le {x : Int32} {off : Int} {tgt : Nat} (hdg : decode M.2.1 pc = .ok (.ifCond .le off, 3)) (ht : (pc : Int) + off = (tgt : Int)) (kt : x ≤ 0 → X G l M d mc ms k n tgt lv st w Q) (kf : ¬ x ≤ 0 → X G l M d mc ms k n (pc + 3) lv st w Q) : X G l M d mc ms k n pc lv (.int x :: st) w Q := by
  intro p e R s m args below meth c Z H locs ls A E hR hL hl hk hn
  exact lv_if_le A.1 A.2.1 hdg ht (fun hc => kt hc p e R s m args below meth c Z H locs ls A E hR hL hl hk hn) (fun hc => kf hc p e R s m args below meth c Z H locs ls A E hR hL hl hk hn)
theorem x_icmp_le {x y : Int32} {off : Int} {tgt : Nat} (hdg : decode M.2.1 pc = .ok (.if_icmp .le off, 3)) (ht : (pc : Int) + off = (tgt : Int)) (kt : x ≤ y → X G l M d mc ms k n tgt lv st w Q) (kf : ¬ x ≤ y → X G l M d mc ms k n (pc + 3) lv st w Q) : X G l M d mc ms k n pc lv (.int y :: .int x :: st) w Q := by
  intro p e R s m args below meth c Z H locs ls A E hR hL hl hk hn
  exact lv_icmp_le A.1 A.2.1 hdg ht (fun hc => kt hc p e R s m args below meth c Z H locs ls A E hR hL hl hk hn) (fun hc => kf hc p e R s m args below meth c Z H locs ls A E hR hL hl hk hn)
theorem x_iload_n {f : Fin 4} {i : Nat} {x : Int32} (q : Nat) (hdg : decode M.2.1 pc = .ok (.iload_n f, 1)) (hi : (f : Nat) = i) (hq : lv[q]? = some (i, .int x)) (kk : X G l M d mc ms k n (pc + 1) lv (.int x :: st) w Q) : X G l M d mc ms k n pc lv st w Q := by
  intro p e R s m args below meth c Z H locs ls A E hR hL hl hk hn
  exact lv_iload_n A.1 A.2.1 hdg hi (lv_at hl q hq) (kk p e R s m args below meth c Z H locs ls A E hR hL hl hk hn)
theorem x_iload {i : Nat} {x : Int32} (q : Nat) (hdg : decode M.2.1 pc = .ok (.iload i, 2)) (hq : lv[q]? = some (i, .int x)) (kk : X G l M d mc ms k n (pc + 2) lv (.int x :: st) w Q) : X G l M d mc ms k n pc lv st w Q := by
  intro p e R s m args below meth c Z H locs ls A E hR hL hl hk hn
  exact lv_iload A.1 A.2.1 hdg (lv_at hl q hq) (kk p e R s m args below meth c Z H locs ls A E hR hL hl hk hn)
theorem x_lload_n {f : Fin 4} {i : Nat} {x : Int64} (q : Nat) (hdg : decode M.2.1 pc = .ok (.lload_n f, 1)) (hi : (f : Nat) = i) (hq : lv[q]? = some (i, .long x)) (kk : X G l M d mc ms k n (pc + 1) lv (.long x :: st) w Q) : X G l M d mc ms k n pc lv st w Q := by
  intro p e R s m args below meth c Z H locs ls A E hR hL hl hk hn
  exact lv_lload_n A.1 A.2.1 hdg hi (lv_at hl q hq) (kk p e R s m args below meth c Z H locs ls A E hR hL hl hk hn)
theorem x_lload {i : Nat} {x : Int64} (q : Nat) (hdg : decode M.2.1 pc = .ok (.lload i, 2)) (hq : lv[q]? = some (i, .long x)) (kk : X G l M d mc ms k n (pc + 2) lv (.long x :: st) w Q) : X G l M d mc ms k n pc lv st w Q := by
  intro p e R s m args below meth c Z H locs ls A E hR hL hl hk hn
  exact lv_lload A.1 A.2.1 hdg (lv_at hl q hq) (kk p e R s m args below meth c Z H locs ls A E hR hL hl hk hn)
theorem x_aload_n {f : Fin 4} {i : Nat} {x : Nat} (q : Nat) (hdg : decode M.2.1 pc = .ok (.aload_n f, 1)) (hi : (f : Nat) = i) (hq : lv[q]? = some (i, .ref x)) (kk : X G l M d mc ms k n (pc + 1) lv (.ref x :: st) w Q) : X G l M d mc ms k n pc lv st w Q := by
  intro p e R s m args below meth c Z H locs ls A E hR hL hl hk hn
  exact lv_aload_n A.1 A.2.1 hdg hi (lv_at hl q hq) (kk p e R s m args below meth c Z H locs ls A E hR hL hl hk hn)
theorem x_aload {i : Nat} {x : Nat} (q : Nat) (hdg : decode M.2.1 pc = .ok (.aload i, 2)) (hq : lv[q]? = some (i, .ref x)) (kk : X G l M d mc ms k n (pc + 2) lv (.ref x :: st) w Q) : X G l M d mc ms k n pc lv st w Q := by
  intro p e R s m args below meth c Z H locs ls A E hR hL hl hk hn
  exact lv_aload A.1 A.2.1 hdg (lv_at hl q hq) (kk p e R s m args below meth c Z H locs ls A E hR hL hl hk hn)
theorem x_istore_n {f : Fin 4} {i : Nat} {x : Int32} {lv2 : List (Nat × Value)} (hdg : decode M.2.1 pc = .ok (.istore_n f, 1)) (hi : (f : Nat) = i) (hlt : i < M.2.2.1) (he : (i, Value.int x) :: lv.filter (fun q => !(q.1 == i) && !(q.1 + 1 == i && q.2.category == 2)) = lv2) (kk : X G l M d mc ms k n (pc + 1) lv2 st w Q) : X G l M d mc ms k n pc lv (.int x :: st) w Q := by
  intro p e R s m args below meth c Z H locs ls A E hR hL hl hk hn
  exact lv_istore_n A.1 A.2.1 hdg hi hl hlt he (fun ls2 hl2 => kk p e R s m args below meth c Z H locs ls2 A E hR hL hl2 hk hn)
theorem x_istore {i : Nat} {x : Int32} {lv2 : List (Nat × Value)} (hdg : decode M.2.1 pc = .ok (.istore i, 2)) (hlt : i < M.2.2.1) (he : (i, Value.int x) :: lv.filter (fun q => !(q.1 == i) && !(q.1 + 1 == i && q.2.category == 2)) = lv2) (kk : X G l M d mc ms k n (pc + 2) lv2 st w Q) : X G l M d mc ms k n pc lv (.int x :: st) w Q := by
  intro p e R s m args below meth c Z H locs ls A E hR hL hl hk hn
  exact lv_istore A.1 A.2.1 hdg hl hlt he (fun ls2 hl2 => kk p e R s m args below meth c Z H locs ls2 A E hR hL hl2 hk hn)
theorem x_lstore_n {f : Fin 4} {i : Nat} {x : Int64} {lv2 : List (Nat × Value)} (hdg : decode M.2.1 pc = .ok (.lstore_n f, 1)) (hi : (f : Nat) = i) (hlt : i + 1 < M.2.2.1) (he : (i, Value.long x) :: lv.filter (fun q => !(q.1 == i) && (!(q.1 == i + 1) && !(q.1 + 1 == i && q.2.category == 2))) = lv2) (kk : X G l M d mc ms k n (pc + 1) lv2 st w Q) : X G l M d mc ms k n pc lv (.long x :: st) w Q := by
  intro p e R s m args below meth c Z H locs ls A E hR hL hl hk hn
  exact lv_lstore_n A.1 A.2.1 hdg hi hl hlt he (fun ls2 hl2 => kk p e R s m args below meth c Z H locs ls2 A E hR hL hl2 hk hn)
theorem x_lstore {i : Nat} {x : Int64} {lv2 : List (Nat × Value)} (hdg : decode M.2.1 pc = .ok (.lstore i, 2)) (hlt : i + 1 < M.2.2.1) (he : (i, Value.long x) :: lv.filter (fun q => !(q.1 == i) && (!(q.1 == i + 1) && !(q.1 + 1 == i && q.2.category == 2))) = lv2) (kk : X G l M d mc ms k n (pc + 2) lv2 st w Q) : X G l M d mc ms k n pc lv (.long x :: st) w Q := by
  intro p e R s m args below meth c Z H locs ls A E hR hL hl hk hn
  exact lv_lstore A.1 A.2.1 hdg hl hlt he (fun ls2 hl2 => kk p e R s m args below meth c Z H locs ls2 A E hR hL hl2 hk hn)
theorem x_astore_n {f : Fin 4} {i : Nat} {x : Nat} {lv2 : List (Nat × Value)} (hdg : decode M.2.1 pc = .ok (.astore_n f, 1)) (hi : (f : Nat) = i) (hlt : i < M.2.2.1) (he : (i, Value.ref x) :: lv.filter (fun q => !(q.1 == i) && !(q.1 + 1 == i && q.2.category == 2)) = lv2) (kk : X G l M d mc ms k n (pc + 1) lv2 st w Q) : X G l M d mc ms k n pc lv (.ref x :: st) w Q := by
  intro p e R s m args below meth c Z H locs ls A E hR hL hl hk hn
  exact lv_astore_n A.1 A.2.1 hdg hi hl hlt he (fun ls2 hl2 => kk p e R s m args below meth c Z H locs ls2 A E hR hL hl2 hk hn)
theorem x_astore {i : Nat} {x : Nat} {lv2 : List (Nat × Value)} (hdg : decode M.2.1 pc = .ok (.astore i, 2)) (hlt : i < M.2.2.1) (he : (i, Value.ref x) :: lv.filter (fun q => !(q.1 == i) && !(q.1 + 1 == i && q.2.category == 2)) = lv2) (kk : X G l M d mc ms k n (pc + 2) lv2 st w Q) : X G l M d mc ms k n pc lv (.ref x :: st) w Q := by
  intro p e R s m args below meth c Z H locs ls A E hR hL hl hk hn
  exact lv_astore A.1 A.2.1 hdg hl hlt he (fun ls2 hl2 => kk p e R s m args below meth c Z H locs ls2 A E hR hL hl2 hk hn)
theorem x_iinc {i : Nat} {z : Int} {x v : Int32} {lv2 : List (Nat × Value)} (q : Nat) (hdg : decode M.2.1 pc = .ok (.iinc i z, 3)) (hq : lv[q]? = some (i, .int x)) (hv : x + Int32.ofInt z = v) (hlt : i < M.2.2.1) (he : (i, Value.int v) :: lv.filter (fun q => !(q.1 == i) && !(q.1 + 1 == i && q.2.category == 2)) = lv2) (kk : X G l M d mc ms k n (pc + 3) lv2 st w Q) : X G l M d mc ms k n pc lv st w Q := by
  intro p e R s m args below meth c Z H locs ls A E hR hL hl hk hn
  exact lv_iinc A.1 A.2.1 hdg hl hq hv hlt he (fun ls2 hl2 => kk p e R s m args below meth c Z H locs ls2 A E hR hL hl2 hk hn)
theorem x_sub {lv2 : List (Nat × Value)} (qs : List Nat) (he : lv_pick lv qs = lv2) (kk : X G l M d mc ms k n pc lv2 st w Q) : X G l M d mc ms k n pc lv st w Q := by
  intro p e R s m args below meth c Z H locs ls A E hR hL hl hk hn
  exact kk p e R s m args below meth c Z H locs ls A E hR hL (lv_sub hl qs he) hk hn
theorem x_lcmp {x y : Int64} (hdg : decode M.2.1 pc = .ok (.lcmp, 1)) (kk : X G l M d mc ms k n (pc + 1) lv (.int (lg_cmp x y) :: st) w Q) : X G l M d mc ms k n pc lv (.long y :: .long x :: st) w Q := by
  intro p e R s m args below meth c Z H locs ls A E hR hL hl hk hn
  exact W.lcmp A.1 A.2.1 hdg (kk p e R s m args below meth c Z H locs ls A E hR hL hl hk hn)
theorem x_ldc {i : Nat} {v : Int32} (hw : Cond.constant M.1.cls i v ∈ tG) (hdg : decode M.2.1 pc = .ok (.ldc i, 2)) (kk : X G l M d mc ms k n (pc + 2) lv (.int v :: st) w Q) : X G l M d mc ms k n pc lv st w Q := by
  intro p e R s m args below meth c Z H locs ls A E hR hL hl hk hn
  exact lv_ldc A.1 A.2.1 A.2.2.2.1 (A.2.2.2.2.1 _ hw) hdg (kk p e R s m args below meth c Z H locs ls A E hR hL hl hk hn)
theorem x_ldcw {i : Nat} {v : Int32} (hw : Cond.constant M.1.cls i v ∈ tG) (hdg : decode M.2.1 pc = .ok (.ldc_w i, 3)) (kk : X G l M d mc ms k n (pc + 3) lv (.int v :: st) w Q) : X G l M d mc ms k n pc lv st w Q := by
  intro p e R s m args below meth c Z H locs ls A E hR hL hl hk hn
  exact lv_ldcw A.1 A.2.1 A.2.2.2.1 (A.2.2.2.2.1 _ hw) hdg (kk p e R s m args below meth c Z H locs ls A E hR hL hl hk hn)
theorem x_ldc2 {i : Nat} {v : Int64} (hw : Cond.constantLong M.1.cls i v ∈ tG) (hdg : decode M.2.1 pc = .ok (.ldc2_w i, 3)) (kk : X G l M d mc ms k n (pc + 3) lv (.long v :: st) w Q) : X G l M d mc ms k n pc lv st w Q := by
  intro p e R s m args below meth c Z H locs ls A E hR hL hl hk hn
  exact lv_ldc2 A.1 A.2.1 A.2.2.2.1 (A.2.2.2.2.1 _ hw) hdg (kk p e R s m args below meth c Z H locs ls A E hR hL hl hk hn)
theorem x_iret {v : Int32} (hr : RetAt M pc (some (.int v))) (hQ : Q (some (.int v)) w) : X G l M d mc ms k n pc lv [.int v] w Q := by
  intro p e R s m args below meth c Z H locs ls A E hR hL hl hk hn
  exact E (some (.int v)) w H locs k n pc ls hQ hR hL hk hn hr
theorem x_lret {v : Int64} (hr : RetAt M pc (some (.long v))) (hQ : Q (some (.long v)) w) : X G l M d mc ms k n pc lv [.long v] w Q := by
  intro p e R s m args below meth c Z H locs ls A E hR hL hl hk hn
  exact E (some (.long v)) w H locs k n pc ls hQ hR hL hk hn hr
theorem x_vret (hr : RetAt M pc none) (hQ : Q none w) : X G l M d mc ms k n pc lv [] w Q := by
  intro p e R s m args below meth c Z H locs ls A E hR hL hl hk hn
  exact E none w H locs k n pc ls hQ hR hL hk hn hr
theorem x_topi {x : Int32} (kk : ∀ y : Int32, y = x → X G l M d mc ms k n pc lv (.int y :: st) w Q) : X G l M d mc ms k n pc lv (.int x :: st) w Q := kk x rfl
theorem x_topl {x : Int64} (kk : ∀ y : Int64, y = x → X G l M d mc ms k n pc lv (.long y :: st) w Q) : X G l M d mc ms k n pc lv (.long x :: st) w Q := kk x rfl
end
end
section
/-! rules of the layer that touch the heap, and calls -/
theorem LocOK.app {G : GX} {locs : List Loc} {a i : Nat} (h : LocOK G locs) (ha : (gH G).size ≤ a) : LocOK G (locs ++ [⟨a, i⟩]) := by
  intro q hq
  rcases List.mem_append.mp hq with h1 | h1
  · exact h q h1
  · rw [List.mem_singleton.mp h1]; exact ha
theorem LocOK.apps {G : GX} {locs L : List Loc} (h : LocOK G locs) (hL : ∀ q ∈ L, gA G q.base) : LocOK G (locs ++ L) := by
  intro q hq
  rcases List.mem_append.mp hq with h1 | h1
  · exact h q h1
  · exact hL q h1
def ClsOk (ci : Nat) (C : String) (T : u_T) (N : Nat) (ty : Nat → FieldType) : Prop := clX[ci]? = some (C, T, N) ∧ (∀ w ∈ u_ws C T N, w ∈ tG) ∧ (∀ k, k < N → parseFieldDescriptor (T k).2.2.1 = some (ty k)) ∧ (∀ a, a < N → ∀ b, b < N → a ≠ b → (T a).2.1 ≠ (T b).2.1)
def GetOk (own : String) (idx ci f : Nat) : Prop := ∃ (C : String) (T : u_T) (N : Nat) (ty : Nat → FieldType), ClsOk ci C T N ty ∧ f < N ∧ (T f).1 = C ∧ Cond.fieldLink own idx C (T f).2.1 (T f).2.2.1 ∈ tG
def GetOkN (own : String) (idx ci f : Nat) : Prop := ∃ (C : String) (T : u_T) (N : Nat) (ty : Nat → FieldType) (host : String), ClsOk ci C T N ty ∧ f < N ∧ (T f).1 = C ∧ Cond.fieldLinkNest own idx C (T f).2.1 (T f).2.2.1 host ∈ nG
def PutOk (own : String) (idx ci f : Nat) (ty : FieldType) : Prop := ∃ (C : String) (T : u_T) (N : Nat) (tys : Nat → FieldType), ClsOk ci C T N tys ∧ f < N ∧ (T f).1 = C ∧ (T f).2.2.2 = false ∧ parseFieldDescriptor (T f).2.2.1 = some ty ∧ Cond.fieldLink own idx C (T f).2.1 (T f).2.2.1 ∈ tG
def PutFOk (own : String) (idx ci f : Nat) (ty : FieldType) : Prop := ∃ (C : String) (T : u_T) (N : Nat) (tys : Nat → FieldType), ClsOk ci C T N tys ∧ f < N ∧ (T f).1 = C ∧ C = own ∧ (T f).2.2.2 = true ∧ parseFieldDescriptor (T f).2.2.1 = some ty ∧ Cond.fieldLink own idx C (T f).2.1 (T f).2.2.1 ∈ tG
def NewOk (own : String) (idx ci N : Nat) (ty : Nat → FieldType) : Prop := ∃ (C : String) (T : u_T), ClsOk ci C T N ty ∧ Cond.classLink own idx C ∈ tG ∧ Cond.instantiable C N ∈ tG ∧ Cond.initialized C ∈ tG
section
variable {G : GX} {l : Launch} {M : MD} {d mc ms k n pc : Nat} {lv : List (Nat × Value)} {st : List Value} {w : HW} {Q : Option Value → HW → Prop}
theorem x_getf {o ci idx : Nat} {fs : List Value} {v : Value} (f : Nat) (F : GetOk M.1.cls idx ci f) (ho : w.1 o = some (cO ci fs)) (hv : fs[f]? = some v) (hdg : decode M.2.1 pc = .ok (.getfield idx, 3)) (kk : X G l M d mc ms k n (pc + 3) lv (v :: st) w Q) : X G l M d mc ms k n pc lv (.ref o :: st) w Q := by
  intro p e R s m args below meth c Z H locs ls A E hR hL hl hk hn
  obtain ⟨C, T, N, ty, ⟨c1, c2, c3, c4⟩, hf, hd1, hlk⟩ := F
  exact va_get A.1 A.2.1 A.2.2.2.2.1 c2 A.2.2.2.1 A.2.2.2.2.2.2.1.1 (hR.at ho) 0 rfl c1 f hf (A.2.2.2.2.1 _ hlk) (fun _ h => by rw [← hd1]; rw [hd1] at h; rw [hd1]; exact h) hv hdg (kk p e R s m args below meth c Z H locs ls A E hR hL hl hk hn)
theorem x_getfN {o ci idx : Nat} {fs : List Value} {v : Value} (f : Nat) (F : GetOkN M.1.cls idx ci f) (ho : w.1 o = some (cO ci fs)) (hv : fs[f]? = some v) (hdg : decode M.2.1 pc = .ok (.getfield idx, 3)) (kk : X G l M d mc ms k n (pc + 3) lv (v :: st) w Q) : X G l M d mc ms k n pc lv (.ref o :: st) w Q := by
  intro p e R s m args below meth c Z H locs ls A E hR hL hl hk hn
  obtain ⟨C, T, N, ty, host, ⟨c1, c2, c3, c4⟩, hf, hd1, hlk⟩ := F
  exact va_getN A.1 A.2.1 A.2.2.2.2.1 c2 A.2.2.2.1 A.2.2.2.2.2.2.1.1 (hR.at ho) 0 rfl c1 f hf (va_Nw.use rfl (A.2.2.2.2.2.2.1.2.1 _ hlk)) (fun _ h => by rw [hd1] at h; exact h) hv hdg (kk p e R s m args below meth c Z H locs ls A E hR hL hl hk hn)
theorem x_putf {o ci idx : Nat} {fs : List Value} {c0 : Cel} {v : Value} (f : Nat) (ty : FieldType) (F : PutOk M.1.cls idx ci f ty) (ho : w.1 o = some (cO ci fs)) (hn1 : narrow ty v = v) (hn2 : fits ty v = true) (hlt : f < fs.length) (hdg : decode M.2.1 pc = .ok (.putfield idx, 3)) (kk : X G l M d mc ms k n (pc + 3) lv st (hset w o (cO ci (fs.set f v))) Q) : X G l M d mc ms k n pc lv (v :: .ref o :: st) w Q := by
  intro p e R s m args below meth c Z H locs ls A E hR hL hl hk hn
  obtain ⟨C, T, N, tys, ⟨c1, c2, c3, c4⟩, hf, hd1, hfin, hty, hlk⟩ := F
  have hts := A.2.2.2.2.1
  have hK := A.2.2.2.2.2.2.1.1
  have hap := va_apart (own := M.1.cls) hts c2 tys c3 c4 hK c1
  obtain ⟨r, h1, cell, q1, q2, q3, q4⟩ := hR.at ho 0 _ rfl
  have hr : r = (C, T, N) := Option.some.inj (h1.symm.trans c1)
  subst hr
  obtain ⟨hS, hfc, kC, hkC, hkind⟩ := hK.1 ci _ c1
  obtain ⟨cf, kf, fi, fd, hi, hsl⟩ := hS f hf
  have hlay := hts _ (c2 _ (u_in_lay hf))
  unfold u_lay at hlay
  rw [if_neg (by rw [hfin]; decide)] at hlay
  have hst := (u_facts hfc hkC (u_lays hts c2 hf) hi).1
  have h6 := u_store hfc hkC hkind hlay hi hty hn1 hn2
  have hi' : s.fieldFound? C (T f).2.1 (T f).2.2.1 = some (cf, kf, fi, fd) := by rw [← hi]; congr 1; exact hd1.symm
  refine W.putK A.1 A.2.1 (f := fd) ⟨A.2.2.2.1, hts _ hlk, ⟨_, _, _, hi'⟩, hst⟩ (by rw [q2]; exact h6) q1 q3 (by rw [hsl]; exact k2_hasslot (q4 f hf)) rfl rfl hdg fun H' e1 e2 e3 => ?_
  rw [hsl] at e1 ⊢
  exact kk p e R s m args below meth c Z H' _ ls A E (hR.set ho ⟨_, c1, t_OB.to (V := updV (vp_V fs) f v) ⟨_, e1, q2, q3, t_set q4 hap hf v⟩ (fun j _ => vp_updV_set hlt v j)⟩ e2 e3) (hL.app (hR.2.2.1 _ _ ho).1) hl hk hn
theorem x_putF {o ci idx : Nat} {fs : List Value} {v : Value} (f : Nat) (ty : FieldType) (F : PutFOk M.1.cls idx ci f ty) (hnm : M.1.name = "<init>") (ho : w.1 o = some (cO ci fs)) (hn1 : narrow ty v = v) (hn2 : fits ty v = true) (hlt : f < fs.length) (hdg : decode M.2.1 pc = .ok (.putfield idx, 3)) (kk : X G l M d mc ms k n (pc + 3) lv st (hset w o (cO ci (fs.set f v))) Q) : X G l M d mc ms k n pc lv (v :: .ref o :: st) w Q := by
  intro p e R s m args below meth c Z H locs ls A E hR hL hl hk hn
  obtain ⟨C, T, N, tys, ⟨c1, c2, c3, c4⟩, hf, hd1, hown, hfin, hty, hlk⟩ := F
  have hts := A.2.2.2.2.1
  have hK := A.2.2.2.2.2.2.1.1
  have hap := va_apart (own := M.1.cls) hts c2 tys c3 c4 hK c1
  obtain ⟨r, h1, cell, q1, q2, q3, q4⟩ := hR.at ho 0 _ rfl
  have hr : r = (C, T, N) := Option.some.inj (h1.symm.trans c1)
  subst hr
  obtain ⟨hS, hfc, kC, hkC, hkind⟩ := hK.1 ci _ c1
  obtain ⟨cf, kf, fi, fd, hi, hsl⟩ := hS f hf
  have hlay := hts _ (c2 _ (u_in_lay hf))
  unfold u_lay at hlay
  rw [if_pos hfin] at hlay
  have hst := (u_facts hfc hkC (u_lays hts c2 hf) hi).1
  have hcf : m.cls = cf := by
    obtain ⟨_, _, c', _, _, _, -, -, hf', -, -, -, hown2, -⟩ := Cond.laysFinal_spec hlay
    have e1 : c' = cf := by have := hi.symm.trans hf'; simp at this; exact this.1.symm
    rw [hd1, hown] at hown2
    rw [← e1]; exact Option.some.inj (A.2.2.2.1.symm.trans hown2)
  have h6 := u_fits hfc hkC hkind (Or.inr hlay) hi hty hn1 hn2
  have hi' : s.fieldFound? C (T f).2.1 (T f).2.2.1 = some (cf, kf, fi, fd) := by rw [← hi]; congr 1; exact hd1.symm
  refine W.putFinK A.1 A.2.1 A.2.2.2.1 (hts _ hlk) hi' hst hcf (A.2.2.2.2.2.1 hnm) (by rw [q2]; exact h6) q1 q3 (by rw [hsl]; exact k2_hasslot (q4 f hf)) rfl rfl hdg fun H' e1 e2 e3 => ?_
  rw [hsl] at e1 ⊢
  exact kk p e R s m args below meth c Z H' _ ls A E (hR.set ho ⟨_, c1, t_OB.to (V := updV (vp_V fs) f v) ⟨_, e1, q2, q3, t_set q4 hap hf v⟩ (fun j _ => vp_updV_set hlt v j)⟩ e2 e3) (hL.app (hR.2.2.1 _ _ ho).1) hl hk hn
theorem x_iald {a z : Nat} {f : Nat → Int32} {i : Int32} (ha : w.1 a = some (cI z f)) (hin : vp_in i z) (hdg : decode M.2.1 pc = .ok (.iaload, 1)) (kk : X G l M d mc ms k n (pc + 1) lv (.int (f i.toNatClampNeg) :: st) w Q) : X G l M d mc ms k n pc lv (.int i :: .ref a :: st) w Q := by
  intro p e R s m args below meth c Z H locs ls A E hR hL hl hk hn
  exact va_iald A.1 A.2.1 A.2.2.2.2.2.2.1.1 (hR.at ha) 0 0 rfl rfl hin hdg (kk p e R s m args below meth c Z H locs ls A E hR hL hl hk hn)
theorem x_lald {a z : Nat} {f : Nat → Int64} {i : Int32} (ha : w.1 a = some (cL z f)) (hin : vp_in i z) (hdg : decode M.2.1 pc = .ok (.laload, 1)) (kk : X G l M d mc ms k n (pc + 1) lv (.long (f i.toNatClampNeg) :: st) w Q) : X G l M d mc ms k n pc lv (.int i :: .ref a :: st) w Q := by
  intro p e R s m args below meth c Z H locs ls A E hR hL hl hk hn
  exact va_lald A.1 A.2.1 A.2.2.2.2.2.2.1.1 (hR.at ha) 0 1 rfl rfl hin hdg (kk p e R s m args below meth c Z H locs ls A E hR hL hl hk hn)
theorem x_aald {a z : Nat} {f : Nat → Option Nat} {i : Int32} (ha : w.1 a = some (cR z f)) (hin : vp_in i z) (hdg : decode M.2.1 pc = .ok (.aaload, 1)) (kk : X G l M d mc ms k n (pc + 1) lv (va_rf (f i.toNatClampNeg) :: st) w Q) : X G l M d mc ms k n pc lv (.int i :: .ref a :: st) w Q := by
  intro p e R s m args below meth c Z H locs ls A E hR hL hl hk hn
  exact va_aldq A.1 A.2.1 A.2.2.2.2.2.2.1.1 (hR.at ha) 0 2 rfl rfl hin hdg (kk p e R s m args below meth c Z H locs ls A E hR hL hl hk hn)
theorem x_alenI {a z : Nat} {f : Nat → Int32} (ha : w.1 a = some (cI z f)) (hdg : decode M.2.1 pc = .ok (.arraylength, 1)) (kk : X G l M d mc ms k n (pc + 1) lv (.int (nI z) :: st) w Q) : X G l M d mc ms k n pc lv (.ref a :: st) w Q := by
  intro p e R s m args below meth c Z H locs ls A E hR hL hl hk hn
  exact va_alen A.1 A.2.1 A.2.2.2.2.2.2.1.1 (hR.at ha) 0 0 rfl rfl rfl hdg (kk p e R s m args below meth c Z H locs ls A E hR hL hl hk hn)
theorem x_alenR {a z : Nat} {f : Nat → Option Nat} (ha : w.1 a = some (cR z f)) (hdg : decode M.2.1 pc = .ok (.arraylength, 1)) (kk : X G l M d mc ms k n (pc + 1) lv (.int (nI z) :: st) w Q) : X G l M d mc ms k n pc lv (.ref a :: st) w Q := by
  intro p e R s m args below meth c Z H locs ls A E hR hL hl hk hn
  exact va_alen A.1 A.2.1 A.2.2.2.2.2.2.1.1 (hR.at ha) 0 2 rfl rfl rfl hdg (kk p e R s m args below meth c Z H locs ls A E hR hL hl hk hn)
theorem x_iast {a z : Nat} {f : Nat → Int32} {i x : Int32} (ha : w.1 a = some (cI z f)) (hin : vp_in i z) (hdg : decode M.2.1 pc = .ok (.iastore, 1)) (kk : X G l M d mc ms k n (pc + 1) lv st (hset w a (cI z (upd f i.toNatClampNeg x))) Q) : X G l M d mc ms k n pc lv (.int x :: .int i :: .ref a :: st) w Q := by
  intro p e R s m args below meth c Z H locs ls A E hR hL hl hk hn
  have hc : H[a]? = some (vp_cell (gI G) (z, .inl f)) := hR.at ha 0 _ rfl
  refine W.iast A.1 A.2.1 hc ((A.2.2.2.2.2.2.1.1.2 0 _ rfl).1 z (fun j => .int (f j))) (fun q => by cases q) (by show ¬ (i < 0 ∨ (arrV _ _ _).slots.size ≤ _); rw [arrV_size]; exact hin) rfl rfl hdg fun H1 e1 z1 oq => ?_
  refine kk p e R s m args below meth c Z H1 _ ls A E (hR.set ha ?_ z1 oq) (hL.app (hR.2.2.1 _ _ ha).1) hl hk hn
  show H1[a]? = some (vp_cell _ _)
  rw [e1, vp_cell_i, vp_cell_i, arrV_store]
  congr 2
  funext q
  by_cases hq : q = i.toNatClampNeg
  · subst hq; simp [updV, upd]
  · simp [updV, upd, hq]
theorem x_last {a z : Nat} {f : Nat → Int64} {i : Int32} {x : Int64} (ha : w.1 a = some (cL z f)) (hin : vp_in i z) (hdg : decode M.2.1 pc = .ok (.lastore, 1)) (kk : X G l M d mc ms k n (pc + 1) lv st (hset w a (cL z (vp_updL f i.toNatClampNeg x))) Q) : X G l M d mc ms k n pc lv (.long x :: .int i :: .ref a :: st) w Q := by
  intro p e R s m args below meth c Z H locs ls A E hR hL hl hk hn
  have hc : H[a]? = some (vp_cell (gJ G) (z, .inr (.inl f))) := hR.at ha 0 _ rfl
  refine W.last A.1 A.2.1 hc ((A.2.2.2.2.2.2.1.1.2 1 _ rfl).1 z (fun j => .long (f j))) (fun q => by cases q) (by show ¬ (i < 0 ∨ (arrV _ _ _).slots.size ≤ _); rw [arrV_size]; exact hin) rfl rfl hdg fun H1 e1 z1 oq => ?_
  refine kk p e R s m args below meth c Z H1 _ ls A E (hR.set ha ?_ z1 oq) (hL.app (hR.2.2.1 _ _ ha).1) hl hk hn
  show H1[a]? = some (vp_cell _ _)
  rw [e1, vp_cell_l, vp_cell_l, arrV_store]
  congr 2
  funext q
  by_cases hq : q = i.toNatClampNeg
  · subst hq; simp [updV, vp_updL]
  · simp [updV, vp_updL, hq]
theorem x_aast {a z v ci : Nat} {f : Nat → Option Nat} {fs : List Value} {i : Int32} (ha : w.1 a = some (cR z f)) (hv : w.1 v = some (cO ci fs)) (hci : ∃ T N, clX[ci]? = some ("LagSolver$State", T, N)) (hin : vp_in i z) (hdg : decode M.2.1 pc = .ok (.aastore, 1)) (kk : X G l M d mc ms k n (pc + 1) lv st (hset w a (cR z (va_up f i.toNatClampNeg (some v)))) Q) : X G l M d mc ms k n pc lv (.ref v :: .int i :: .ref a :: st) w Q := by
  intro p e R s m args below meth c Z H locs ls A E hR hL hl hk hn
  obtain ⟨T, N, hci⟩ := hci
  have hK := A.2.2.2.2.2.2.1.1
  have hlt : i.toNatClampNeg < z := Nat.not_le.mp fun q => hin (Or.inr q)
  have h0 : ¬ i < 0 := fun q => hin (Or.inl q)
  have hc : H[a]? = some (vp_cell (gS G) (z, .inr (.inr (.inr (.inr f))))) := hR.at ha 0 _ rfl
  obtain ⟨r', hr', cellV, g1, g2, g3, -⟩ := hR.at hv 0 _ rfl
  have hcls := (hK.1 ci _ hci).2
  obtain ⟨kA, comp, k1, k2, k3, -⟩ := (hK.2 2 _ rfl).2
  have hcomp : comp = (gD G).1 ci := Option.some.inj (k3.symm.trans hcls.1)
  subst hcomp
  obtain ⟨kC, hkC, -⟩ := id hcls.2
  refine W.aast A.1 A.2.1 hc (fun q h => by cases h) (fun h => by cases h) k1 k2 rfl hkC ⟨h0, by show _ < (arrV _ _ _).slots.size; rw [arrV_size]; exact hlt⟩ g1 (fun q h => by rw [g3] at h; cases h) (by rw [g2]; exact hkC) (by rw [g2]; exact va_assign hcls) rfl rfl hdg fun H1 e1 z1 oq => ?_
  refine kk p e R s m args below meth c Z H1 _ ls A E (hR.set ha ?_ z1 oq) (hL.app (hR.2.2.1 _ _ ha).1) hl hk hn
  show H1[a]? = some (vp_cell _ _)
  rw [e1, vp_cell_q, vp_cell_q, arrV_store]
  congr 2
  funext q
  by_cases hq : q = i.toNatClampNeg
  · subst hq; simp [updV, va_up, va_rf]
  · simp [updV, va_up, hq]
theorem x_newaI {z : Int32} {N : Nat} (ht : Cond.arrayClass .int ∈ tG) (h0 : ¬ z < 0) (hN : z.toNatClampNeg = N) (hby : N * 4 ≤ 536870912) (hkc : k + 1 ≤ mc) (hkn : n + N ≤ ms) (hdg : decode M.2.1 pc = .ok (.newarray .int, 2)) (kk : X G l M d mc ms (k + 1) (n + N) (pc + 2) lv (.ref w.2 :: st) (hnew w (cI N (fun _ => 0))) Q) : X G l M d mc ms k n pc lv (.int z :: st) w Q := by
  intro p e R s m args below meth c Z H locs ls A E hR hL hl hk hn
  have hK := A.2.2.2.2.2.2.1.1
  refine va_newaK A.1 A.2.1 (atype := .int) (A.2.2.2.2.1 _ ht) rfl hdg rfl h0 hN hby (Nat.le_trans hkc A.2.2.2.2.2.2.2.2.2.1) (Nat.le_trans hkn A.2.2.2.2.2.2.2.2.2.2) hR.1 fun H1 cA e1 z1 o1 hAr hNm => ?_
  have hcA : cA = gI G := Option.some.inj (hNm.symm.trans (hK.2 0 _ rfl).2)
  subst hcA
  exact kk p e R s m args below meth c Z H1 _ ls A E (hR.new (show H1[H.size]? = some (vp_cell _ _) by rw [hR.1, e1]; rfl) (by rw [z1, hR.1]) (fun q hq => o1 q (by rw [← hR.1]; exact hq))) hL hl hkc hkn
theorem x_newaJ {z : Int32} {N : Nat} (ht : Cond.arrayClass .long ∈ tG) (h0 : ¬ z < 0) (hN : z.toNatClampNeg = N) (hby : N * 8 ≤ 536870912) (hkc : k + 1 ≤ mc) (hkn : n + N ≤ ms) (hdg : decode M.2.1 pc = .ok (.newarray .long, 2)) (kk : X G l M d mc ms (k + 1) (n + N) (pc + 2) lv (.ref w.2 :: st) (hnew w (cL N (fun _ => 0))) Q) : X G l M d mc ms k n pc lv (.int z :: st) w Q := by
  intro p e R s m args below meth c Z H locs ls A E hR hL hl hk hn
  have hK := A.2.2.2.2.2.2.1.1
  refine va_newaK A.1 A.2.1 (atype := .long) (A.2.2.2.2.1 _ ht) rfl hdg rfl h0 hN hby (Nat.le_trans hkc A.2.2.2.2.2.2.2.2.2.1) (Nat.le_trans hkn A.2.2.2.2.2.2.2.2.2.2) hR.1 fun H1 cA e1 z1 o1 hAr hNm => ?_
  have hcA : cA = gJ G := Option.some.inj (hNm.symm.trans (hK.2 1 _ rfl).2)
  subst hcA
  exact kk p e R s m args below meth c Z H1 _ ls A E (hR.new (show H1[H.size]? = some (vp_cell _ _) by rw [hR.1, e1]; rfl) (by rw [z1, hR.1]) (fun q hq => o1 q (by rw [← hR.1]; exact hq))) hL hl hkc hkn
theorem x_newaR {z : Int32} {N idx : Nat} (ht : Cond.classLink M.1.cls idx "LagSolver$State" ∈ tG) (h0 : ¬ z < 0) (hN : z.toNatClampNeg = N) (hby : N * 4 ≤ 536870912) (hkc : k + 1 ≤ mc) (hkn : n + N ≤ ms) (hdg : decode M.2.1 pc = .ok (.anewarray idx, 3)) (kk : X G l M d mc ms (k + 1) (n + N) (pc + 3) lv (.ref w.2 :: st) (hnew w (cR N (fun _ => none))) Q) : X G l M d mc ms k n pc lv (.int z :: st) w Q := by
  intro p e R s m args below meth c Z H locs ls A E hR hL hl hk hn
  have hK := A.2.2.2.2.2.2.1.1
  subst hN
  refine W.anew A.1 A.2.1 A.2.2.2.1 (A.2.2.2.2.1 _ ht) (va_AO.use A.2.2.2.2.2.2.1.2.2.2.2.2.2.2.2) rfl hdg rfl h0 hby (Nat.le_trans hkc A.2.2.2.2.2.2.2.2.2.1) (Nat.le_trans hkn A.2.2.2.2.2.2.2.2.2.2) fun cA kA comp f1 f2 f3 f4 => ?_
  obtain ⟨kA', comp', -, -, -, k4⟩ := (hK.2 2 _ rfl).2
  have hcA : cA = gS G := Option.some.inj (f1.symm.trans k4)
  subst hcA
  generalize hH1 : H.push ({ cls := gS G, slots := Array.replicate z.toNatClampNeg .null, vm := .none } : Cell) = H1
  have z1 : H1.size = H.size + 1 := by rw [← hH1, Array.size_push]
  have e1 : H1[H.size]? = some (arrV (gS G) z.toNatClampNeg (fun _ => .null)) := by rw [← hH1, Array.getElem?_push_size, ← arrV_new]
  have o1 : ∀ q : Nat, q < H.size → H1[q]? = H[q]? := fun q hq => by rw [← hH1, Array.getElem?_push, if_neg (Nat.ne_of_lt hq)]
  have := kk p e R s m args below meth c Z H1 _ ls A E (hR.new (show H1[H.size]? = some (vp_cell _ _) by rw [e1]; rfl) z1 o1) hL hl hkc hkn
  rw [← hR.1] at this
  exact this
theorem x_new {idx ci N : Nat} {ty : Nat → FieldType} (fs : List Value) (F : NewOk M.1.cls idx ci N ty) (hfs : ∀ j, j < N → defaultValue (ty j) = vp_V fs j) (hkc : k + 1 ≤ mc) (hkn : n + N ≤ ms) (hdg : decode M.2.1 pc = .ok (.new idx, 3)) (kk : X G l M d mc ms (k + 1) (n + N) (pc + 3) lv (.ref w.2 :: st) (hnew w (cO ci fs)) Q) : X G l M d mc ms k n pc lv st w Q := by
  intro p e R s m args below meth c Z H locs ls A E hR hL hl hk hn
  obtain ⟨C, T, ⟨c1, c2, c3, c4⟩, hcl, hins, hini⟩ := F
  have hts := A.2.2.2.2.1
  have hKn := A.2.2.2.2.2.2.1.1.1 ci _ c1
  refine W.newcK A.1 A.2.1 A.2.2.2.1 (hts _ hcl) (hts _ hins) (hts _ hini) rfl hdg (Nat.le_trans hkc A.2.2.2.2.2.2.2.2.2.1) (Nat.le_trans hkn A.2.2.2.2.2.2.2.2.2.2) hKn.2.1 hR.1 fun H1 kC hkC e1 z1 o1 => ?_
  exact kk p e R s m args below meth c Z H1 _ ls A E (hR.new (by rw [hR.1]; exact ⟨_, c1, (u_born ty hts c2 hKn hkC e1 c3).to hfs⟩) (by rw [z1, hR.1]) (fun q hq => o1 q (by rw [← hR.1]; exact hq))) hL hl hkc hkn
theorem x_objInit {o idx : Nat} (h1 : Cond.methodLink M.1.cls idx Lib.objectInit ∈ tG) (h2 : Cond.instanceMethod Lib.objectInit ∈ tG) (h3 : Cond.code Lib.objectInit ⟨#[0xb1]⟩ 1 none ∈ tG) (hd0 : 1 ≤ d) (hst : (st.map fun v => v.category).sum ≤ 8) (hdg : decode M.2.1 pc = .ok (.invokespecial idx, 3)) (kk : X G l M d mc ms k n (pc + 3) lv st w Q) : X G l M d mc ms k n pc lv (.ref o :: st) w Q := by
  intro p e R s m args below meth c Z H locs ls A E hR hL hl hk hn
  have h40 := A.2.2.2.2.2.2.2.2.1
  exact W.objInit A.1 A.2.1 A.2.2.2.1 (A.2.2.2.2.1 _ h1) (A.2.2.2.2.1 _ h2) (A.2.2.2.2.1 _ h3) rfl (hl.1.trans A.2.2.1.symm) rfl hdg (Nat.le_trans hd0 A.2.2.2.2.2.2.2.1) (by show 2 * 0 + _ + 12 ≤ _; omega) (kk p e R s m args below meth c Z H locs ls A E hR hL hl hk hn)
theorem x_gets {idx : Nat} (t : Nat) (nm : String) (hz : ∀ U, AmbU G U → va_Z "LagSolver" nm "[I" (.ref t) (gA G) U (gH G)) (hlk : Cond.fieldLink M.1.cls idx "LagSolver" nm "[I" ∈ tG) (hdg : decode M.2.1 pc = .ok (.getstatic idx, 3)) (kk : X G l M d mc ms k n (pc + 3) lv (.ref t :: st) w Q) : X G l M d mc ms k n pc lv st w Q := by
  intro p e R s m args below meth c Z H locs ls A E hR hL hl hk hn
  obtain ⟨cf, kf, fi, f, a, cell, h1, h2, h3, h4, h5, h6, h7, h8⟩ := hz s A.2.2.2.2.2.2.1
  exact W.gets A.1 A.2.1 A.2.2.2.1 (A.2.2.2.2.1 _ hlk) h1 h2 h3 h4 (by rw [hR.2.2.2 a (Array.getElem?_eq_some_iff.mp h5).1]; exact h5) (fun e => by rw [e] at h6; cases h6) h7 rfl hdg (kk p e R s m args below meth c Z H locs ls A E hR hL hl hk hn)
/-- an int array from before the law's start, of which the start is known -/
def RoA (G : GX) (a z : Nat) (f : Nat → Int32) : Prop := ∀ U, AmbU G U → ∃ cell : Cell, (gH G)[a]? = some cell ∧ U.isArrayOf cell .int ∧ cell.vm ≠ .unknown ∧ z ≤ cell.slots.size ∧ cell.slots.size.toInt32 = nI z ∧ (∀ j : Nat, j < z → cell.slots[j]? = some (.int (f j)))
theorem x_ialdRo {a z : Nat} {f : Nat → Int32} {i : Int32} (ha : RoA G a z f) (hin : vp_in i z) (hdg : decode M.2.1 pc = .ok (.iaload, 1)) (kk : X G l M d mc ms k n (pc + 1) lv (.int (f i.toNatClampNeg) :: st) w Q) : X G l M d mc ms k n pc lv (.int i :: .ref a :: st) w Q := by
  intro p e R s m args below meth c Z H locs ls A E hR hL hl hk hn
  obtain ⟨cell, h1, h2, h3, h4, h5, h6⟩ := ha s A.2.2.2.2.2.2.1
  have hlt : i.toNatClampNeg < z := Nat.not_le.mp fun q => hin (Or.inr q)
  exact W.iald (v := .int (f i.toNatClampNeg)) A.1 A.2.1 (by rw [hR.2.2.2 a (Array.getElem?_eq_some_iff.mp h1).1]; exact h1) h2 h3 (fun q => hin (q.imp id (fun q => by omega))) (h6 _ hlt) rfl rfl hdg (kk p e R s m args below meth c Z H locs ls A E hR hL hl hk hn)
theorem x_alenRo {a z : Nat} {f : Nat → Int32} (ha : RoA G a z f) (hdg : decode M.2.1 pc = .ok (.arraylength, 1)) (kk : X G l M d mc ms k n (pc + 1) lv (.int (nI z) :: st) w Q) : X G l M d mc ms k n pc lv (.ref a :: st) w Q := by
  intro p e R s m args below meth c Z H locs ls A E hR hL hl hk hn
  obtain ⟨cell, h1, h2, h3, h4, h5, h6⟩ := ha s A.2.2.2.2.2.2.1
  exact W.alen (n := nI z) A.1 A.2.1 (by rw [hR.2.2.2 a (Array.getElem?_eq_some_iff.mp h1).1]; exact h1) h2 h5 rfl rfl hdg (kk p e R s m args below meth c Z H locs ls A E hR hL hl hk hn)
theorem roScript {G : GX} : RoA G (gb G) (gN G) (gx G) := fun U h => by
  obtain ⟨scr, h1, h2, h3, h4, h5⟩ := h.2.2.2.2.2.2.1
  exact ⟨scr, h1, h2, h3, Nat.le_of_eq h4.symm, by rw [h4]; rfl, h5⟩
end
end
section
/-! calls in the layer -/
def MOk (M : MD) (z : Nat) : Prop := plainName M.1.cls = true ∧ Cond.code M.1 M.2.1 M.2.2.1 M.2.2.2 ∈ tG ∧ Cond.initialized M.1.cls ∈ tG ∧ (M.1.cls ≠ "java/lang/invoke/MethodHandle" ∧ M.1.cls ≠ "java/lang/invoke/VarHandle" ∧ (parseMethodDescriptor M.1.desc).map (fun d => d.parameters.length) = some z) ∧ M.2.2.1 ≤ 21
def MOkS (M : MD) (z : Nat) : Prop := MOk M z ∧ Cond.static M.1 ∈ tG
def MOkV (M : MD) (z : Nat) : Prop := MOk M z ∧ Cond.instanceMethod M.1 ∈ tG ∧ Cond.selects M.1.cls M.1 M.1 ∈ tG
def MOkI (M : MD) (z : Nat) : Prop := MOk M z ∧ Cond.instanceMethod M.1 ∈ tG ∧ M.1.name = "<init>" ∧ M.2.2.2 = none
theorem goodIn_M {M : MD} (h : Cond.code M.1 M.2.1 M.2.2.1 M.2.2.2 ∈ tG) : GoodIn tG (Cond.code M.1 M.2.1 M.2.2.1 M.2.2.2 :: tG) := by
  intro w hw
  rcases List.mem_cons.mp hw with rfl | hw
  · exact ⟨h, tG_good h⟩
  · exact ⟨hw, tG_good hw⟩
section
variable {G : GX} {l : Launch} {M M' : MD} {d d' mc ms k n mc' ms' pc z idx : Nat} {lv : List (Nat × Value)} {st rest : List Value} {w : HW} {Q : Option Value → HW → Prop}
theorem w_call {p : Program} {e : Env} {R : Room} {s : State} {m : MethodId} {args a : Array Value} {below : List Frame} {meth : Method} {c : Code} {Z : State → Prop} {H : Heap} {locs : List Loc} {ls : Array Slot} {Q' : Option Value → HW → Prop}
    (hr : CallRun p l e R s m args below meth c H locs k n mc' ms' (F0 m pc ls st) rest (QcX G Q' a) (gA G)) (hL : LocOK G locs)
    (kk : ∀ (r : Option Value) (w' : HW) (H1 : Heap) (locs1 : List Loc), Q' r w' → Rel G w' H1 → LocOK G locs1 → W p l e R s m args below meth c H1 locs1 (k + mc') (n + ms') Z (F0 m (pc + 3) ls (pushR r rest))) : W p l e R s m args below meth c H locs k n Z (F0 m pc ls st) := by
  intro T hT X
  obtain ⟨v, st₀, t, T', L, h0, X', hLL, e1, ⟨r, w', hv, hq, hR⟩, stp⟩ := hr T hT X
  cases hv
  obtain ⟨t2, a1, b1⟩ := kk v w' T'.heap (locs ++ L) hq (by rw [e1]; exact hR) (hL.apps hLL) T' rfl X'
  refine ⟨t2, stp t2 ?_, b1⟩
  have : pushR v rest = v.toList ++ rest := by cases v <;> rfl
  rw [← this]
  exact a1
theorem CallRun.of {p : Program} {e : Env} {R : Room} {s : State} {m : MethodId} {args : Array Value} {below : List Frame} {meth : Method} {c : Code} {H : Heap} {locs : List Loc} {cells slots mc ms : Nat} {g : JFrame} {Qa : State → Outcome → State → Prop} {free : Addr → Prop} (h : va_Run p l e R s m args below meth c H locs cells slots mc ms g rest Qa free) : CallRun p l e R s m args below meth c H locs cells slots mc ms g rest Qa free := by
  intro T hT X
  obtain ⟨v, st₀, t, T', L, h0, X', hLL, e1, -, hq, stp⟩ := h T hT X
  exact ⟨v, st₀, t, T', L, h0, X', hLL, e1, hq, stp⟩
theorem room_ok {R : Room} (h1 : d ≤ R.frames) (h2 : 40 * d ≤ R.locals) (hd : d' + 1 ≤ d) (hm : M'.2.2.1 ≤ 21) : (rmX d' mc' ms').frames + 1 ≤ R.frames ∧ 8 + (M'.2.2.1 + 11) + (rmX d' mc' ms').locals ≤ R.locals := by
  refine ⟨Nat.le_trans hd h1, ?_⟩
  show 8 + (M'.2.2.1 + 11) + 40 * d' ≤ R.locals
  omega
theorem x_invS (As : List Value) (hM : MOkS M' z) (hlk : Cond.methodLink M.1.cls idx M'.1 ∈ tG) (hz : As.length = z) (hst : st = As.reverse ++ rest) (hrest : (rest.map fun v => v.category).sum ≤ 8) (hd : d' + 1 ≤ d) (hkc : k + mc' ≤ mc) (hkn : n + ms' ≤ ms) (hdg : decode M.2.1 pc = .ok (.invokestatic idx, 3))
    (hS : Sp G l M' d' mc' ms' As w (fun r w' => X G l M d mc ms (k + mc') (n + ms') (pc + 3) lv (pushR r rest) w' Q)) : X G l M d mc ms k n pc lv st w Q := by
  intro p e R s m args below meth c Z H locs ls A E hR hL hl hk hn
  obtain ⟨⟨-, hcd, hin, hnm, hml⟩, hstat⟩ := hM
  have hts := A.2.2.2.2.1
  have hG := goodIn_M hcd
  refine w_call (CallRun.of (va_runS ⟨A.1, A.2.1, A.2.2.1, A.2.2.2.1, hts⟩ hS ⟨callB_of z hts hG rfl rfl rfl (hts _ hin) (hts _ hlk) hnm (room_ok A.2.2.2.2.2.2.2.1 A.2.2.2.2.2.2.2.2.1 hd hml), hts _ hstat⟩ ⟨PcX.blind, fun U hU hW => ⟨rfl, by rw [hU]; exact hR, A.2.2.2.2.2.2.1.moved hW⟩⟩ rfl hz hl.1 hst (by show 2 * 0 + _ ≤ 8; omega) hdg ⟨Nat.le_trans hkc A.2.2.2.2.2.2.2.2.2.1, Nat.le_trans hkn A.2.2.2.2.2.2.2.2.2.2⟩)) hL ?_
  intro r w' H1 locs1 hq hR1 hL1
  exact hq p e R s m args below meth c Z H1 locs1 ls A E hR1 hL1 hl hkc hkn
theorem x_invSN (As : List Value) (host : String) (hM : MOkS M' z) (hlk : Cond.methodLinkNest M.1.cls idx M'.1 host ∈ nG) (hz : As.length = z) (hst : st = As.reverse ++ rest) (hrest : (rest.map fun v => v.category).sum ≤ 8) (hd : d' + 1 ≤ d) (hkc : k + mc' ≤ mc) (hkn : n + ms' ≤ ms) (hdg : decode M.2.1 pc = .ok (.invokestatic idx, 3))
    (hS : Sp G l M' d' mc' ms' As w (fun r w' => X G l M d mc ms (k + mc') (n + ms') (pc + 3) lv (pushR r rest) w' Q)) : X G l M d mc ms k n pc lv st w Q := by
  intro p e R s m args below meth c Z H locs ls A E hR hL hl hk hn
  obtain ⟨⟨-, hcd, hin, hnm, hml⟩, hstat⟩ := hM
  have hts := A.2.2.2.2.1
  have hG := goodIn_M hcd
  refine w_call (CallRun.of (va_runSN ⟨A.1, A.2.1, A.2.2.1, A.2.2.2.1, hts⟩ hS ⟨va_cnB z hts hG rfl rfl rfl (A.2.2.2.2.2.2.1.2.1 _ hlk) (hts _ hin) hnm (room_ok A.2.2.2.2.2.2.2.1 A.2.2.2.2.2.2.2.2.1 hd hml), hts _ hstat, trivial⟩ ⟨PcX.blind, fun U hU hW => ⟨rfl, by rw [hU]; exact hR, A.2.2.2.2.2.2.1.moved hW⟩⟩ rfl hz hl.1 hst (by show 2 * 0 + _ ≤ 8; omega) hdg ⟨Nat.le_trans hkc A.2.2.2.2.2.2.2.2.2.1, Nat.le_trans hkn A.2.2.2.2.2.2.2.2.2.2⟩)) hL ?_
  intro r w' H1 locs1 hq hR1 hL1
  exact hq p e R s m args below meth c Z H1 locs1 ls A E hR1 hL1 hl hkc hkn
theorem x_invV {o ci N : Nat} {T : u_T} {fs : List Value} (As : List Value) (hM : MOkV M' z) (hlk : Cond.methodLink M.1.cls idx M'.1 ∈ tG) (ho : w.1 o = some (cO ci fs)) (hci : clX[ci]? = some (M'.1.cls, T, N)) (hz : As.length = z) (hst : st = As.reverse ++ .ref o :: rest) (hrest : (rest.map fun v => v.category).sum ≤ 8) (hd : d' + 1 ≤ d) (hkc : k + mc' ≤ mc) (hkn : n + ms' ≤ ms) (hdg : decode M.2.1 pc = .ok (.invokevirtual idx, 3))
    (hS : Sp G l M' d' mc' ms' (.ref o :: As) w (fun r w' => X G l M d mc ms (k + mc') (n + ms') (pc + 3) lv (pushR r rest) w' Q)) : X G l M d mc ms k n pc lv st w Q := by
  intro p e R s m args below meth c Z H locs ls A E hR hL hl hk hn
  obtain ⟨⟨-, hcd, hin, hnm, hml⟩, hinst, hsel⟩ := hM
  have hts := A.2.2.2.2.1
  have hG := goodIn_M hcd
  refine w_call (CallRun.of (va_runV ⟨A.1, A.2.1, A.2.2.1, A.2.2.2.1, hts⟩ hS ⟨callB_of z hts hG rfl rfl rfl (hts _ hin) (hts _ hlk) hnm (room_ok A.2.2.2.2.2.2.2.1 A.2.2.2.2.2.2.2.2.1 hd hml), hts _ hinst, hts _ hsel⟩ ⟨PcX.blind, va_recv A.2.2.2.2.2.2.1.1 (hR.at ho) hci (q0 := 0) rfl, fun U hU hW => ⟨rfl, by rw [hU]; exact hR, A.2.2.2.2.2.2.1.moved hW⟩⟩ rfl hz hl.1 hst (by show 2 * 0 + _ ≤ 8; omega) hdg ⟨Nat.le_trans hkc A.2.2.2.2.2.2.2.2.2.1, Nat.le_trans hkn A.2.2.2.2.2.2.2.2.2.2⟩)) hL ?_
  intro r w' H1 locs1 hq hR1 hL1
  exact hq p e R s m args below meth c Z H1 locs1 ls A E hR1 hL1 hl hkc hkn
theorem x_invI (o : Nat) (As : List Value) (hM : MOkI M' z) (hlk : Cond.methodLink M.1.cls idx M'.1 ∈ tG) (hz : As.length = z) (hst : st = As.reverse ++ .ref o :: rest) (hrest : (rest.map fun v => v.category).sum ≤ 8) (hd : d' + 1 ≤ d) (hkc : k + mc' ≤ mc) (hkn : n + ms' ≤ ms) (hdg : decode M.2.1 pc = .ok (.invokespecial idx, 3))
    (hS : Sp G l M' d' mc' ms' (.ref o :: As) w (fun r w' => X G l M d mc ms (k + mc') (n + ms') (pc + 3) lv (pushR r rest) w' Q)) : X G l M d mc ms k n pc lv st w Q := by
  intro p e R s m args below meth c Z H locs ls A E hR hL hl hk hn
  obtain ⟨⟨-, hcd, hin, hnm, hml⟩, hinst, hnm1, hret⟩ := hM
  have hts := A.2.2.2.2.1
  have hG := goodIn_M hcd
  obtain ⟨y', cc', nL', ret'⟩ := M'
  dsimp only at hret
  subst hret
  refine w_call (CallRun.of (va_runI ⟨A.1, A.2.1, A.2.2.1, A.2.2.2.1, hts⟩ hS ⟨callB_of z hts hG rfl rfl rfl (hts _ hin) (hts _ hlk) hnm (room_ok (M' := (y', cc', nL', none)) A.2.2.2.2.2.2.2.1 A.2.2.2.2.2.2.2.2.1 hd hml), hnm1, hts _ hinst⟩ ⟨PcX.blind, fun U hU hW => ⟨rfl, by rw [hU]; exact hR, A.2.2.2.2.2.2.1.moved hW⟩⟩ rfl hz hl.1 hst (by show 2 * 0 + _ ≤ 8; omega) hdg ⟨Nat.le_trans hkc A.2.2.2.2.2.2.2.2.2.1, Nat.le_trans hkn A.2.2.2.2.2.2.2.2.2.2⟩)) hL ?_
  intro r w' H1 locs1 hq hR1 hL1
  exact hq p e R s m args below meth c Z H1 locs1 ls A E hR1 hL1 hl hkc hkn
theorem x_invIN (o : Nat) (As : List Value) (host : String) (hM : MOkI M' z) (hlk : Cond.methodLinkNest M.1.cls idx M'.1 host ∈ nG) (hz : As.length = z) (hst : st = As.reverse ++ .ref o :: rest) (hrest : (rest.map fun v => v.category).sum ≤ 8) (hd : d' + 1 ≤ d) (hkc : k + mc' ≤ mc) (hkn : n + ms' ≤ ms) (hdg : decode M.2.1 pc = .ok (.invokespecial idx, 3))
    (hS : Sp G l M' d' mc' ms' (.ref o :: As) w (fun r w' => X G l M d mc ms (k + mc') (n + ms') (pc + 3) lv (pushR r rest) w' Q)) : X G l M d mc ms k n pc lv st w Q := by
  intro p e R s m args below meth c Z H locs ls A E hR hL hl hk hn
  obtain ⟨⟨-, hcd, hin, hnm, hml⟩, hinst, hnm1, hret⟩ := hM
  have hts := A.2.2.2.2.1
  have hG := goodIn_M hcd
  obtain ⟨y', cc', nL', ret'⟩ := M'
  dsimp only at hret
  subst hret
  refine w_call (CallRun.of (va_runIN ⟨A.1, A.2.1, A.2.2.1, A.2.2.2.1, hts⟩ hS ⟨va_cnB z hts hG rfl rfl rfl (A.2.2.2.2.2.2.1.2.1 _ hlk) (hts _ hin) hnm (room_ok (M' := (y', cc', nL', none)) A.2.2.2.2.2.2.2.1 A.2.2.2.2.2.2.2.2.1 hd hml), hnm1, hts _ hinst⟩ ⟨PcX.blind, fun U hU hW => ⟨rfl, by rw [hU]; exact hR, A.2.2.2.2.2.2.1.moved hW⟩⟩ rfl hz hl.1 hst (by show 2 * 0 + _ ≤ 8; omega) hdg ⟨Nat.le_trans hkc A.2.2.2.2.2.2.2.2.2.1, Nat.le_trans hkn A.2.2.2.2.2.2.2.2.2.2⟩)) hL ?_
  intro r w' H1 locs1 hq hR1 hL1
  exact hq p e R s m args below meth c Z H1 locs1 ls A E hR1 hL1 hl hkc hkn
theorem x_mmax {x y : Int32} (h1 : Cond.methodLink M.1.cls idx Lib.Math.max.name ∈ tG) (h2 : Cond.static Lib.Math.max.name ∈ tG) (h3 : Cond.initialized "java/lang/Math" ∈ tG) (h4 : Cond.code Lib.Math.max.name Lib.Math.max.code 2 (some .int) ∈ tG) (hrest : (st.map fun v => v.category).sum ≤ 8) (hd : 1 ≤ d) (hdg : decode M.2.1 pc = .ok (.invokestatic idx, 3)) (kk : X G l M d mc ms k n (pc + 3) lv (.int (if x < y then y else x) :: st) w Q) : X G l M d mc ms k n pc lv (.int y :: .int x :: st) w Q := by
  intro p e R s m args below meth c Z H locs ls A E hR hL hl hk hn
  have hts := A.2.2.2.2.1
  have h40 := A.2.2.2.2.2.2.2.2.1
  exact va_mmax A.1 A.2.1 (A.2.2.1.trans hl.1.symm) A.2.2.2.1 (hts _ h1) (hts _ h2) (hts _ h3) (hts _ h4) (Nat.le_trans hd A.2.2.2.2.2.2.2.1) (by omega) (Nat.le_trans hk A.2.2.2.2.2.2.2.2.2.1) (Nat.le_trans hn A.2.2.2.2.2.2.2.2.2.2) hdg (kk p e R s m args below meth c Z H locs ls A E hR hL hl hk hn)
theorem x_mmin {x y : Int32} (h1 : Cond.methodLink M.1.cls idx Lib.Math.min.name ∈ tG) (h2 : Cond.static Lib.Math.min.name ∈ tG) (h3 : Cond.initialized "java/lang/Math" ∈ tG) (h4 : Cond.code Lib.Math.min.name Lib.Math.min.code 2 (some .int) ∈ tG) (hrest : (st.map fun v => v.category).sum ≤ 8) (hd : 1 ≤ d) (hdg : decode M.2.1 pc = .ok (.invokestatic idx, 3)) (kk : X G l M d mc ms k n (pc + 3) lv (.int (if y < x then y else x) :: st) w Q) : X G l M d mc ms k n pc lv (.int y :: .int x :: st) w Q := by
  intro p e R s m args below meth c Z H locs ls A E hR hL hl hk hn
  have hts := A.2.2.2.2.1
  have h40 := A.2.2.2.2.2.2.2.2.1
  exact va_mmin A.1 A.2.1 (A.2.2.1.trans hl.1.symm) A.2.2.2.1 (hts _ h1) (hts _ h2) (hts _ h3) (hts _ h4) (Nat.le_trans hd A.2.2.2.2.2.2.2.1) (by omega) (Nat.le_trans hk A.2.2.2.2.2.2.2.2.2.1) (Nat.le_trans hn A.2.2.2.2.2.2.2.2.2.2) hdg (kk p e R s m args below meth c Z H locs ls A E hR hL hl hk hn)
theorem x_mmaxL {x y : Int64} (h1 : Cond.methodLink M.1.cls idx Lib.MathLoose.max_long.x ∈ tG) (h2 : Cond.static Lib.MathLoose.max_long.x ∈ tG) (h3 : Cond.initialized "java/lang/Math" ∈ tG) (h4 : Cond.code Lib.MathLoose.max_long.x Lib.MathLoose.max_long.code 4 (some .long) ∈ tG) (hrest : (st.map fun v => v.category).sum ≤ 8) (hd : 1 ≤ d) (hdg : decode M.2.1 pc = .ok (.invokestatic idx, 3)) (kk : X G l M d mc ms k n (pc + 3) lv (.long (if y < x then x else y) :: st) w Q) : X G l M d mc ms k n pc lv (.long y :: .long x :: st) w Q := by
  intro p e R s m args below meth c Z H locs ls A E hR hL hl hk hn
  have hts := A.2.2.2.2.1
  have h40 := A.2.2.2.2.2.2.2.2.1
  exact va_mmax_long A.1 A.2.1 (A.2.2.1.trans hl.1.symm) A.2.2.2.1 (hts _ h1) (hts _ h2) (hts _ h3) (hts _ h4) (Nat.le_trans hd A.2.2.2.2.2.2.2.1) (by omega) (Nat.le_trans hk A.2.2.2.2.2.2.2.2.2.1) (Nat.le_trans hn A.2.2.2.2.2.2.2.2.2.2) hdg (kk p e R s m args below meth c Z H locs ls A E hR hL hl hk hn)
theorem x_mminL {x y : Int64} (h1 : Cond.methodLink M.1.cls idx Lib.MathLoose.min_long.x ∈ tG) (h2 : Cond.static Lib.MathLoose.min_long.x ∈ tG) (h3 : Cond.initialized "java/lang/Math" ∈ tG) (h4 : Cond.code Lib.MathLoose.min_long.x Lib.MathLoose.min_long.code 4 (some .long) ∈ tG) (hrest : (st.map fun v => v.category).sum ≤ 8) (hd : 1 ≤ d) (hdg : decode M.2.1 pc = .ok (.invokestatic idx, 3)) (kk : X G l M d mc ms k n (pc + 3) lv (.long (if y < x then y else x) :: st) w Q) : X G l M d mc ms k n pc lv (.long y :: .long x :: st) w Q := by
  intro p e R s m args below meth c Z H locs ls A E hR hL hl hk hn
  have hts := A.2.2.2.2.1
  have h40 := A.2.2.2.2.2.2.2.2.1
  exact va_mmin_long A.1 A.2.1 (A.2.2.1.trans hl.1.symm) A.2.2.2.1 (hts _ h1) (hts _ h2) (hts _ h3) (hts _ h4) (Nat.le_trans hd A.2.2.2.2.2.2.2.1) (by omega) (Nat.le_trans hk A.2.2.2.2.2.2.2.2.2.1) (Nat.le_trans hn A.2.2.2.2.2.2.2.2.2.2) hdg (kk p e R s m args below meth c Z H locs ls A E hR hL hl hk hn)
theorem x_mabsL {x : Int64} (h1 : Cond.methodLink M.1.cls idx Lib.MathLoose.abs_long.x ∈ tG) (h2 : Cond.static Lib.MathLoose.abs_long.x ∈ tG) (h3 : Cond.initialized "java/lang/Math" ∈ tG) (h4 : Cond.code Lib.MathLoose.abs_long.x Lib.MathLoose.abs_long.code 2 (some .long) ∈ tG) (hrest : (st.map fun v => v.category).sum ≤ 8) (hd : 1 ≤ d) (hdg : decode M.2.1 pc = .ok (.invokestatic idx, 3)) (kk : X G l M d mc ms k n (pc + 3) lv (.long (if 0 < x then x else -x) :: st) w Q) : X G l M d mc ms k n pc lv (.long x :: st) w Q := by
  intro p e R s m args below meth c Z H locs ls A E hR hL hl hk hn
  have hts := A.2.2.2.2.1
  have h40 := A.2.2.2.2.2.2.2.2.1
  exact va_mabs_long A.1 A.2.1 (A.2.2.1.trans hl.1.symm) A.2.2.2.1 (hts _ h1) (hts _ h2) (hts _ h3) (hts _ h4) (Nat.le_trans hd A.2.2.2.2.2.2.2.1) (by omega) (Nat.le_trans hk A.2.2.2.2.2.2.2.2.2.1) (Nat.le_trans hn A.2.2.2.2.2.2.2.2.2.2) hdg (kk p e R s m args below meth c Z H locs ls A E hR hL hl hk hn)
theorem x_copy {a0 a z0 z1 : Nat} {f g : Nat → Int32} {x : Int32} (h1 : Cond.methodLink M.1.cls idx arraycopyName ∈ tG) (h2 : Cond.native arraycopyName ∈ tG) (h3 : Cond.static arraycopyName ∈ tG) (h4 : Cond.initialized "java/lang/System" ∈ tG) (ha0 : w.1 a0 = some (cI z0 f)) (ha : w.1 a = some (cI z1 g)) (hx : ¬ x < 0) (hz0 : x.toNatClampNeg ≤ z0) (hz1 : x.toNatClampNeg ≤ z1) (hrest : st = []) (hd : 1 ≤ d) (hdg : decode M.2.1 pc = .ok (.invokestatic idx, 3)) (kk : X G l M d mc ms k n (pc + 3) lv st (hset w a (cI z1 (va_cpy f g 0 0 x.toNatClampNeg))) Q) : X G l M d mc ms k n pc lv (.int x :: .int 0 :: .ref a :: .int 0 :: .ref a0 :: st) w Q := by
  intro p e R s m args below meth c Z H locs ls A E hR hL hl hk hn
  have hts := A.2.2.2.2.1
  have h40 := A.2.2.2.2.2.2.2.2.1
  have hK := A.2.2.2.2.2.2.1.1
  have hga := (hR.2.2.1 _ _ ha).1
  have hc0 : H[a0]? = some (vp_cell (gI G) (z0, .inl f)) := hR.at ha0 0 _ rfl
  have hc1 : H[a]? = some (vp_cell (gI G) (z1, .inl g)) := hR.at ha 0 _ rfl
  obtain ⟨-, k0, hk0, cm0, hkk0⟩ := (hK.2 0 _ rfl).1 z0 (fun j => .int (f j))
  obtain ⟨-, k1, hk1, cm1, hkk1⟩ := (hK.2 0 _ rfl).1 z1 (fun j => .int (g j))
  have hxi : x.toInt = (x.toNatClampNeg : Int) := by
    have h0 : (0 : Int) ≤ x.toInt := by
      have := Int32.not_lt.mp hx
      simpa using Int32.le_iff_toInt_le.mp this
    show x.toInt = ((x.toInt.toNat : Nat) : Int)
    omega
  subst hrest
  have h9 : nativeFrameWords "java/lang/System" "arraycopy" 5 ≤ 29 := by decide
  intro T hT X
  obtain ⟨vm', X', step⟩ := X.arraycopy A.1 A.2.2.2.1 (hts _ h1) (hts _ h2) (hts _ h3) (hts _ h4) (src := a0) (dst := a) (cs := vp_cell (gI G) (z0, .inl f)) (cd := vp_cell (gI G) (z1, .inl g)) (srcPos := 0) (destPos := 0) (n := x) (by rw [hT]; exact hc0) (by rw [hT]; exact hc1)
    (fun _ h => by cases h) (fun _ h => by cases h) (fun h => by cases h) (fun h => by cases h) hk0 hk1 hkk0 hkk1 rfl (by decide) (by decide) hx
    (by rw [hxi]; show ¬ _ > ((arrV _ z0 (fun j => .int (f j))).slots.size : Int); rw [arrV_size]; simp; omega)
    (by rw [hxi]; show ¬ _ > ((arrV _ z1 (fun j => .int (g j))).slots.size : Int); rw [arrV_size]; simp; omega)
    (fun vm₁ _ i hi => by
      have e : (vp_cell (gI G) (z0, .inl f)).slots.getD ((0 : Int32).toNatClampNeg + i) .null = .int (f ((0 : Int32).toNatClampNeg + i)) := by
        show (arrV _ z0 (fun j => .int (f j))).slots.getD _ _ = _
        rw [Array.getD_eq_getD_getElem?, arrV_read _ _ (by have : (0 : Int32).toNatClampNeg = 0 := rfl; omega)]
        rfl
      exact ⟨by rw [e]; rfl, by rw [e]; exact trivial⟩)
    (g := F0 m pc ls (.int x :: .int 0 :: .ref a :: .int 0 :: .ref a0 :: [])) rfl (A.2.2.1.symm ▸ hl.1) (rest := []) rfl (by rw [A.2.1]; exact hdg) (Nat.le_trans hd A.2.2.2.2.2.2.2.1) (by show 2 * 0 + 0 + _ ≤ _; omega)
  have e1 : copied (vp_cell (gI G) (z0, .inl f)) (vp_cell (gI G) (z1, .inl g)) 0 0 x = vp_cell (gI G) (z1, .inl (va_cpy f g (0 : Int32).toNatClampNeg (0 : Int32).toNatClampNeg x.toNatClampNeg)) := va_copied (fun z => .int z) (gI G) (gI G) f g (by have : (0 : Int32).toNatClampNeg = 0 := rfl; omega)
  rw [e1] at X' step
  have hlt : a < H.size := (Array.getElem?_eq_some_iff.mp hc1).1
  generalize hc : vp_cell (gI G) (z1, .inl (va_cpy f g (0 : Int32).toNatClampNeg (0 : Int32).toNatClampNeg x.toNatClampNeg)) = cc' at X' step
  have hheap : ((T.setVm vm').setCell a cc').heap = H.setIfInBounds a cc' := by rw [← hT]; rfl
  obtain ⟨t, a1, b1⟩ := kk p e R s m args below meth c Z _ _ ls A E (hR.set ha (H1 := H.setIfInBounds a cc') (show (H.setIfInBounds a cc')[a]? = some _ by rw [← hc]; simp [Array.getElem?_setIfInBounds, hlt]) (by simp) (fun q hq => by simp [Array.getElem?_setIfInBounds, Ne.symm hq])) (hL.apps (fun q hq => by
      obtain ⟨z, -, hz⟩ := List.mem_map.mp hq
      rw [← hz]
      exact hga)) hl hk hn _ hheap X'
  exact ⟨t, step t a1, b1⟩
end
end
section
set_option maxRecDepth 20000
theorem inc_tG {ws : List Cond} (ps : List Nat) (h : ws = ps.filterMap (fun i => lw_tbl[i]?)) (g : ws.all goodWord = true) : ∀ w ∈ ws, w ∈ tG := by
  intro w hw
  have h1 := List.all_eq_true.mp g w hw
  rw [h] at hw
  obtain ⟨i, -, hi⟩ := List.mem_filterMap.mp hw
  exact mem_tG i hi h1
theorem mem_s {c : Cond} (i : Nat) (h : (k2_sels lw_privs)[i]? = some c) (g : goodWord c = true) : c ∈ tG := List.mem_filter.mpr ⟨List.mem_append_left _ (List.mem_of_getElem? h), g⟩
theorem in_t1 {c : Cond} (h : c ∈ tables_1_1) : c ∈ lw_tbl := List.mem_append_right _ (List.mem_append_left _ h)
theorem in_t2 {c : Cond} (h : c ∈ tables_1_2) : c ∈ lw_tbl := List.mem_append_right _ (List.mem_append_right _ (List.mem_append_left _ h))
theorem in_t3 {c : Cond} (h : c ∈ tables_1_3) : c ∈ lw_tbl := List.mem_append_right _ (List.mem_append_right _ (List.mem_append_right _ (List.mem_append_left _ h)))
theorem in_t4 {c : Cond} (h : c ∈ tables_1_4) : c ∈ lw_tbl := List.mem_append_right _ (List.mem_append_right _ (List.mem_append_right _ (List.mem_append_right _ (List.mem_append_left _ h))))
theorem in_t5 {c : Cond} (h : c ∈ tables_1_5) : c ∈ lw_tbl := List.mem_append_right _ (List.mem_append_right _ (List.mem_append_right _ (List.mem_append_right _ (List.mem_append_right _ h))))
theorem mem_t1 {c : Cond} (i : Nat) (h : tables_1_1[i]? = some c) (g : goodWord c = true) : c ∈ tG := List.mem_filter.mpr ⟨in_t1 (List.mem_of_getElem? h), g⟩
theorem mem_n1 {c : Cond} (i : Nat) (h : tables_1_1[i]? = some c) (g : isNest c = true) : c ∈ nG := List.mem_filter.mpr ⟨in_t1 (List.mem_of_getElem? h), g⟩
theorem mem_t2 {c : Cond} (i : Nat) (h : tables_1_2[i]? = some c) (g : goodWord c = true) : c ∈ tG := List.mem_filter.mpr ⟨in_t2 (List.mem_of_getElem? h), g⟩
theorem mem_n2 {c : Cond} (i : Nat) (h : tables_1_2[i]? = some c) (g : isNest c = true) : c ∈ nG := List.mem_filter.mpr ⟨in_t2 (List.mem_of_getElem? h), g⟩
theorem mem_t3 {c : Cond} (i : Nat) (h : tables_1_3[i]? = some c) (g : goodWord c = true) : c ∈ tG := List.mem_filter.mpr ⟨in_t3 (List.mem_of_getElem? h), g⟩
theorem mem_n3 {c : Cond} (i : Nat) (h : tables_1_3[i]? = some c) (g : isNest c = true) : c ∈ nG := List.mem_filter.mpr ⟨in_t3 (List.mem_of_getElem? h), g⟩
theorem mem_t4 {c : Cond} (i : Nat) (h : tables_1_4[i]? = some c) (g : goodWord c = true) : c ∈ tG := List.mem_filter.mpr ⟨in_t4 (List.mem_of_getElem? h), g⟩
theorem mem_n4 {c : Cond} (i : Nat) (h : tables_1_4[i]? = some c) (g : isNest c = true) : c ∈ nG := List.mem_filter.mpr ⟨in_t4 (List.mem_of_getElem? h), g⟩
theorem mem_t5 {c : Cond} (i : Nat) (h : tables_1_5[i]? = some c) (g : goodWord c = true) : c ∈ tG := List.mem_filter.mpr ⟨in_t5 (List.mem_of_getElem? h), g⟩
theorem mem_n5 {c : Cond} (i : Nat) (h : tables_1_5[i]? = some c) (g : isNest c = true) : c ∈ nG := List.mem_filter.mpr ⟨in_t5 (List.mem_of_getElem? h), g⟩
theorem cls_X0 : ClsOk 0 RX0 TX0 4 tyX0 := ⟨rfl, inc_tG [187, 189, 191, 193] (by decide +kernel) (by decide +kernel), tyX0_ok, nmX0⟩
theorem cls_X1 : ClsOk 1 RX1 TX1 3 tyX1 := ⟨rfl, inc_tG [166, 168, 170] (by decide +kernel) (by decide +kernel), tyX1_ok, nmX1⟩
theorem cls_X2 : ClsOk 2 RX2 TX2 2 tyX2 := ⟨rfl, inc_tG [251, 253] (by decide +kernel) (by decide +kernel), tyX2_ok, nmX2⟩
theorem cls_X3 : ClsOk 3 RX3 TX3 2 tyX3 := ⟨rfl, inc_tG [151, 153] (by decide +kernel) (by decide +kernel), tyX3_ok, nmX3⟩
theorem cls_X4 : ClsOk 4 RX4 TX4 2 tyX4 := ⟨rfl, inc_tG [205, 207] (by decide +kernel) (by decide +kernel), tyX4_ok, nmX4⟩
theorem cls_X5 : ClsOk 5 RX5 TX5 3 tyX5 := ⟨rfl, inc_tG [134, 136, 138] (by decide +kernel) (by decide +kernel), tyX5_ok, nmX5⟩
theorem cls_X6 : ClsOk 6 RX6 TX6 6 tyX6 := ⟨rfl, inc_tG [227, 229, 231, 233, 235, 237] (by decide +kernel) (by decide +kernel), tyX6_ok, nmX6⟩
theorem cls_X7 : ClsOk 7 RX7 TX7 6 tyX7 := ⟨rfl, inc_tG [268, 270, 272, 274, 276, 278] (by decide +kernel) (by decide +kernel), tyX7_ok, nmX7⟩
theorem cls_X8 : ClsOk 8 RX8 TX8 6 tyX8 := ⟨rfl, inc_tG [104, 106, 108, 110, 112, 114] (by decide +kernel) (by decide +kernel), tyX8_ok, nmX8⟩
theorem cls_X9 : ClsOk 9 RX9 TX9 6 tyX9 := ⟨rfl, inc_tG [287, 289, 291, 293, 295, 297] (by decide +kernel) (by decide +kernel), tyX9_ok, nmX9⟩
theorem cls_X10 : ClsOk 10 RX10 TX10 31 tyX10 := ⟨rfl, inc_tG [982, 984, 986, 988, 990, 992, 994, 996, 998, 1000, 1002, 1004, 1006, 1008, 1010, 1012, 1014, 1016, 1018, 1020, 1022, 1024, 1026, 1028, 1030, 1032, 1034, 1036, 1038, 1040, 1042] (by decide +kernel) (by decide +kernel), tyX10_ok, nmX10⟩
def m_X0_init : MD := (yX0_init, cX0_init, 1, none)
theorem k_X0_init : MOkI m_X0_init 0 := ⟨⟨by decide +kernel, mem_t1 111 rfl rfl, mem_t1 7 rfl rfl, ⟨by decide +kernel, by decide +kernel, by decide +kernel⟩, by decide⟩, mem_t1 110 rfl rfl, rfl, rfl⟩
def m_X0_find : MD := (yX0_find, cX0_find, 5, none)
theorem k_X0_find : MOkV m_X0_find 3 := ⟨⟨by decide +kernel, mem_t2 176 rfl rfl, mem_t1 7 rfl rfl, ⟨by decide +kernel, by decide +kernel, by decide +kernel⟩, by decide⟩, mem_t2 174 rfl rfl, mem_t2 175 rfl rfl⟩
def m_X0_addNext : MD := (yX0_addNext, cX0_addNext, 6, none)
theorem k_X0_addNext : MOkV m_X0_addNext 3 := ⟨⟨by decide +kernel, mem_t2 180 rfl rfl, mem_t1 7 rfl rfl, ⟨by decide +kernel, by decide +kernel, by decide +kernel⟩, by decide⟩, mem_t2 179 rfl rfl, mem_s 13 rfl rfl⟩
def m_X0_add : MD := (yX0_add, cX0_add, 5, none)
theorem k_X0_add : MOkV m_X0_add 3 := ⟨⟨by decide +kernel, mem_t2 200 rfl rfl, mem_t1 7 rfl rfl, ⟨by decide +kernel, by decide +kernel, by decide +kernel⟩, by decide⟩, mem_t2 199 rfl rfl, mem_s 14 rfl rfl⟩
def m_X0_next : MD := (yX0_next, cX0_next, 3, (some .int))
theorem k_X0_next : MOkV m_X0_next 1 := ⟨⟨by decide +kernel, mem_t3 54 rfl rfl, mem_t1 7 rfl rfl, ⟨by decide +kernel, by decide +kernel, by decide +kernel⟩, by decide⟩, mem_t3 52 rfl rfl, mem_t3 53 rfl rfl⟩
def m_X0_pointsBefore : MD := (yX0_pointsBefore, cX0_pointsBefore, 3, (some .int))
theorem k_X0_pointsBefore : MOkV m_X0_pointsBefore 1 := ⟨⟨by decide +kernel, mem_t2 204 rfl rfl, mem_t1 7 rfl rfl, ⟨by decide +kernel, by decide +kernel, by decide +kernel⟩, by decide⟩, mem_t2 203 rfl rfl, mem_s 15 rfl rfl⟩
def m_X0_copyFrom : MD := (yX0_copyFrom, cX0_copyFrom, 2, none)
theorem k_X0_copyFrom : MOkV m_X0_copyFrom 1 := ⟨⟨by decide +kernel, mem_t2 143 rfl rfl, mem_t1 7 rfl rfl, ⟨by decide +kernel, by decide +kernel, by decide +kernel⟩, by decide⟩, mem_t2 141 rfl rfl, mem_t2 142 rfl rfl⟩
def m_X1_init : MD := (yX1_init, cX1_init, 1, none)
theorem k_X1_init : MOkI m_X1_init 0 := ⟨⟨by decide +kernel, mem_t1 94 rfl rfl, mem_t1 6 rfl rfl, ⟨by decide +kernel, by decide +kernel, by decide +kernel⟩, by decide⟩, mem_t1 93 rfl rfl, rfl, rfl⟩
def m_X1_hasPointAt : MD := (yX1_hasPointAt, cX1_hasPointAt, 4, (some .boolean))
theorem k_X1_hasPointAt : MOkV m_X1_hasPointAt 2 := ⟨⟨by decide +kernel, mem_t3 5 rfl rfl, mem_t1 6 rfl rfl, ⟨by decide +kernel, by decide +kernel, by decide +kernel⟩, by decide⟩, mem_t3 3 rfl rfl, mem_t3 4 rfl rfl⟩
def m_X1_add : MD := (yX1_add, cX1_add, 7, none)
theorem k_X1_add : MOkV m_X1_add 3 := ⟨⟨by decide +kernel, mem_t3 9 rfl rfl, mem_t1 6 rfl rfl, ⟨by decide +kernel, by decide +kernel, by decide +kernel⟩, by decide⟩, mem_t3 7 rfl rfl, mem_t3 8 rfl rfl⟩
def m_X1_valueAt : MD := (yX1_valueAt, cX1_valueAt, 12, (some .int))
theorem k_X1_valueAt : MOkV m_X1_valueAt 2 := ⟨⟨by decide +kernel, mem_t2 219 rfl rfl, mem_t1 6 rfl rfl, ⟨by decide +kernel, by decide +kernel, by decide +kernel⟩, by decide⟩, mem_t2 217 rfl rfl, mem_t2 218 rfl rfl⟩
def m_X1_slopeAt : MD := (yX1_slopeAt, cX1_slopeAt, 7, (some .int))
theorem k_X1_slopeAt : MOkV m_X1_slopeAt 2 := ⟨⟨by decide +kernel, mem_t3 120 rfl rfl, mem_t1 6 rfl rfl, ⟨by decide +kernel, by decide +kernel, by decide +kernel⟩, by decide⟩, mem_t3 118 rfl rfl, mem_t3 119 rfl rfl⟩
def m_X1_pointsUpTo : MD := (yX1_pointsUpTo, cX1_pointsUpTo, 5, (some .int))
theorem k_X1_pointsUpTo : MOkV m_X1_pointsUpTo 2 := ⟨⟨by decide +kernel, mem_t2 224 rfl rfl, mem_t1 6 rfl rfl, ⟨by decide +kernel, by decide +kernel, by decide +kernel⟩, by decide⟩, mem_t2 223 rfl rfl, mem_s 16 rfl rfl⟩
def m_X1_copyFrom : MD := (yX1_copyFrom, cX1_copyFrom, 2, none)
theorem k_X1_copyFrom : MOkV m_X1_copyFrom 1 := ⟨⟨by decide +kernel, mem_t2 137 rfl rfl, mem_t1 6 rfl rfl, ⟨by decide +kernel, by decide +kernel, by decide +kernel⟩, by decide⟩, mem_t2 135 rfl rfl, mem_t2 136 rfl rfl⟩
def m_X2_init : MD := (yX2_init, cX2_init, 1, none)
theorem k_X2_init : MOkI m_X2_init 0 := ⟨⟨by decide +kernel, mem_t1 178 rfl rfl, mem_t1 9 rfl rfl, ⟨by decide +kernel, by decide +kernel, by decide +kernel⟩, by decide⟩, mem_t1 177 rfl rfl, rfl, rfl⟩
def m_X2_record : MD := (yX2_record, cX2_record, 3, none)
theorem k_X2_record : MOkV m_X2_record 1 := ⟨⟨by decide +kernel, mem_t2 102 rfl rfl, mem_t1 9 rfl rfl, ⟨by decide +kernel, by decide +kernel, by decide +kernel⟩, by decide⟩, mem_t2 100 rfl rfl, mem_t2 101 rfl rfl⟩
def m_X2_dropOldest : MD := (yX2_dropOldest, cX2_dropOldest, 3, none)
theorem k_X2_dropOldest : MOkV m_X2_dropOldest 0 := ⟨⟨by decide +kernel, mem_t2 106 rfl rfl, mem_t1 9 rfl rfl, ⟨by decide +kernel, by decide +kernel, by decide +kernel⟩, by decide⟩, mem_t2 105 rfl rfl, mem_s 12 rfl rfl⟩
def m_X2_giveBack : MD := (yX2_giveBack, cX2_giveBack, 2, (some .boolean))
theorem k_X2_giveBack : MOkV m_X2_giveBack 1 := ⟨⟨by decide +kernel, mem_t3 224 rfl rfl, mem_t1 9 rfl rfl, ⟨by decide +kernel, by decide +kernel, by decide +kernel⟩, by decide⟩, mem_t3 222 rfl rfl, mem_t3 223 rfl rfl⟩
def m_X3_init : MD := (yX3_init, cX3_init, 1, none)
theorem k_X3_init : MOkI m_X3_init 0 := ⟨⟨by decide +kernel, mem_t1 79 rfl rfl, mem_t1 5 rfl rfl, ⟨by decide +kernel, by decide +kernel, by decide +kernel⟩, by decide⟩, mem_t1 78 rfl rfl, rfl, rfl⟩
def m_X3_lagAt : MD := (yX3_lagAt, cX3_lagAt, 3, (some .int))
theorem k_X3_lagAt : MOkV m_X3_lagAt 2 := ⟨⟨by decide +kernel, mem_t2 192 rfl rfl, mem_t1 5 rfl rfl, ⟨by decide +kernel, by decide +kernel, by decide +kernel⟩, by decide⟩, mem_t2 190 rfl rfl, mem_t2 191 rfl rfl⟩
def m_X3_reach : MD := (yX3_reach, cX3_reach, 7, (some .int))
theorem k_X3_reach : MOkV m_X3_reach 2 := ⟨⟨by decide +kernel, mem_t2 188 rfl rfl, mem_t1 5 rfl rfl, ⟨by decide +kernel, by decide +kernel, by decide +kernel⟩, by decide⟩, mem_t2 186 rfl rfl, mem_t2 187 rfl rfl⟩
def m_X3_copyFrom : MD := (yX3_copyFrom, cX3_copyFrom, 2, none)
theorem k_X3_copyFrom : MOkV m_X3_copyFrom 1 := ⟨⟨by decide +kernel, mem_t2 132 rfl rfl, mem_t1 5 rfl rfl, ⟨by decide +kernel, by decide +kernel, by decide +kernel⟩, by decide⟩, mem_t2 130 rfl rfl, mem_t2 131 rfl rfl⟩
def m_X4_init : MD := (yX4_init, cX4_init, 1, none)
theorem k_X4_init : MOkI m_X4_init 0 := ⟨⟨by decide +kernel, mem_t1 134 rfl rfl, mem_t1 8 rfl rfl, ⟨by decide +kernel, by decide +kernel, by decide +kernel⟩, by decide⟩, mem_t1 133 rfl rfl, rfl, rfl⟩
def m_X4_restart : MD := (yX4_restart, cX4_restart, 3, none)
theorem k_X4_restart : MOkV m_X4_restart 1 := ⟨⟨by decide +kernel, mem_t2 215 rfl rfl, mem_t1 8 rfl rfl, ⟨by decide +kernel, by decide +kernel, by decide +kernel⟩, by decide⟩, mem_t2 213 rfl rfl, mem_t2 214 rfl rfl⟩
def m_X4_append : MD := (yX4_append, cX4_append, 8, none)
theorem k_X4_append : MOkV m_X4_append 4 := ⟨⟨by decide +kernel, mem_t3 155 rfl rfl, mem_t1 8 rfl rfl, ⟨by decide +kernel, by decide +kernel, by decide +kernel⟩, by decide⟩, mem_t3 153 rfl rfl, mem_t3 154 rfl rfl⟩
def m_X4_endTime : MD := (yX4_endTime, cX4_endTime, 1, (some .int))
theorem k_X4_endTime : MOkV m_X4_endTime 0 := ⟨⟨by decide +kernel, mem_t3 40 rfl rfl, mem_t1 8 rfl rfl, ⟨by decide +kernel, by decide +kernel, by decide +kernel⟩, by decide⟩, mem_t3 38 rfl rfl, mem_t3 39 rfl rfl⟩
def m_X4_endValue : MD := (yX4_endValue, cX4_endValue, 2, (some .int))
theorem k_X4_endValue : MOkV m_X4_endValue 1 := ⟨⟨by decide +kernel, mem_t3 64 rfl rfl, mem_t1 8 rfl rfl, ⟨by decide +kernel, by decide +kernel, by decide +kernel⟩, by decide⟩, mem_t3 62 rfl rfl, mem_t3 63 rfl rfl⟩
def m_X4_beginOf : MD := (yX4_beginOf, cX4_beginOf, 2, (some .int))
theorem k_X4_beginOf : MOkV m_X4_beginOf 1 := ⟨⟨by decide +kernel, mem_t3 44 rfl rfl, mem_t1 8 rfl rfl, ⟨by decide +kernel, by decide +kernel, by decide +kernel⟩, by decide⟩, mem_t3 42 rfl rfl, mem_t3 43 rfl rfl⟩
def m_X4_endOf : MD := (yX4_endOf, cX4_endOf, 2, (some .int))
theorem k_X4_endOf : MOkV m_X4_endOf 1 := ⟨⟨by decide +kernel, mem_t3 183 rfl rfl, mem_t1 8 rfl rfl, ⟨by decide +kernel, by decide +kernel, by decide +kernel⟩, by decide⟩, mem_t3 181 rfl rfl, mem_t3 182 rfl rfl⟩
def m_X4_firstSlope : MD := (yX4_firstSlope, cX4_firstSlope, 3, (some .int))
theorem k_X4_firstSlope : MOkV m_X4_firstSlope 2 := ⟨⟨by decide +kernel, mem_t3 191 rfl rfl, mem_t1 8 rfl rfl, ⟨by decide +kernel, by decide +kernel, by decide +kernel⟩, by decide⟩, mem_t3 189 rfl rfl, mem_t3 190 rfl rfl⟩
def m_X4_roundsOf : MD := (yX4_roundsOf, cX4_roundsOf, 2, (some .int))
theorem k_X4_roundsOf : MOkV m_X4_roundsOf 1 := ⟨⟨by decide +kernel, mem_t3 187 rfl rfl, mem_t1 8 rfl rfl, ⟨by decide +kernel, by decide +kernel, by decide +kernel⟩, by decide⟩, mem_t3 185 rfl rfl, mem_t3 186 rfl rfl⟩
def m_X4_stepTo : MD := (yX4_stepTo, cX4_stepTo, 6, (some .int))
theorem k_X4_stepTo : MOkV m_X4_stepTo 1 := ⟨⟨by decide +kernel, mem_t3 76 rfl rfl, mem_t1 8 rfl rfl, ⟨by decide +kernel, by decide +kernel, by decide +kernel⟩, by decide⟩, mem_t3 74 rfl rfl, mem_t3 75 rfl rfl⟩
def m_X4_valueIn : MD := (yX4_valueIn, cX4_valueIn, 15, (some .int))
theorem k_X4_valueIn : MOkV m_X4_valueIn 3 := ⟨⟨by decide +kernel, mem_t3 99 rfl rfl, mem_t1 8 rfl rfl, ⟨by decide +kernel, by decide +kernel, by decide +kernel⟩, by decide⟩, mem_t3 97 rfl rfl, mem_t3 98 rfl rfl⟩
def m_X4_slopeIn : MD := (yX4_slopeIn, cX4_slopeIn, 11, (some .int))
theorem k_X4_slopeIn : MOkV m_X4_slopeIn 3 := ⟨⟨by decide +kernel, mem_t3 125 rfl rfl, mem_t1 8 rfl rfl, ⟨by decide +kernel, by decide +kernel, by decide +kernel⟩, by decide⟩, mem_t3 123 rfl rfl, mem_t3 124 rfl rfl⟩
def m_X4_bendOf : MD := (yX4_bendOf, cX4_bendOf, 7, (some .long))
theorem k_X4_bendOf : MOkV m_X4_bendOf 3 := ⟨⟨by decide +kernel, mem_t3 104 rfl rfl, mem_t1 8 rfl rfl, ⟨by decide +kernel, by decide +kernel, by decide +kernel⟩, by decide⟩, mem_t3 103 rfl rfl, mem_s 20 rfl rfl⟩
def m_X4_copyFrom : MD := (yX4_copyFrom, cX4_copyFrom, 2, none)
theorem k_X4_copyFrom : MOkV m_X4_copyFrom 1 := ⟨⟨by decide +kernel, mem_t2 148 rfl rfl, mem_t1 8 rfl rfl, ⟨by decide +kernel, by decide +kernel, by decide +kernel⟩, by decide⟩, mem_t2 146 rfl rfl, mem_t2 147 rfl rfl⟩
def m_X5_init : MD := (yX5_init, cX5_init, 1, none)
theorem k_X5_init : MOkI m_X5_init 0 := ⟨⟨by decide +kernel, mem_t1 62 rfl rfl, mem_t1 4 rfl rfl, ⟨by decide +kernel, by decide +kernel, by decide +kernel⟩, by decide⟩, mem_t1 61 rfl rfl, rfl, rfl⟩
def m_X5_take : MD := (yX5_take, cX5_take, 4, none)
theorem k_X5_take : MOkV m_X5_take 2 := ⟨⟨by decide +kernel, mem_t2 153 rfl rfl, mem_t1 4 rfl rfl, ⟨by decide +kernel, by decide +kernel, by decide +kernel⟩, by decide⟩, mem_t2 151 rfl rfl, mem_t2 152 rfl rfl⟩
def m_X5_allOperands : MD := (yX5_allOperands, cX5_allOperands, 3, (some .int))
theorem k_X5_allOperands : MOkV m_X5_allOperands 0 := ⟨⟨by decide +kernel, mem_t2 163 rfl rfl, mem_t1 4 rfl rfl, ⟨by decide +kernel, by decide +kernel, by decide +kernel⟩, by decide⟩, mem_t2 161 rfl rfl, mem_t2 162 rfl rfl⟩
def m_X5_workOut : MD := (yX5_workOut, cX5_workOut, 11, (some .int))
theorem k_X5_workOut : MOkV m_X5_workOut 3 := ⟨⟨by decide +kernel, mem_t3 134 rfl rfl, mem_t1 4 rfl rfl, ⟨by decide +kernel, by decide +kernel, by decide +kernel⟩, by decide⟩, mem_t3 132 rfl rfl, mem_t3 133 rfl rfl⟩
def m_X5_join : MD := (yX5_join, cX5_join, 5, (some .int))
theorem k_X5_join : MOkS m_X5_join 3 := ⟨⟨by decide +kernel, mem_t3 139 rfl rfl, mem_t1 4 rfl rfl, ⟨by decide +kernel, by decide +kernel, by decide +kernel⟩, by decide⟩, mem_t3 138 rfl rfl⟩
def m_X5_copyFrom : MD := (yX5_copyFrom, cX5_copyFrom, 2, none)
theorem k_X5_copyFrom : MOkV m_X5_copyFrom 1 := ⟨⟨by decide +kernel, mem_t2 119 rfl rfl, mem_t1 4 rfl rfl, ⟨by decide +kernel, by decide +kernel, by decide +kernel⟩, by decide⟩, mem_t2 117 rfl rfl, mem_t2 118 rfl rfl⟩
def m_X6_init : MD := (yX6_init, cX6_init, 1, none)
theorem k_X6_init : MOkI m_X6_init 0 := ⟨⟨by decide +kernel, mem_t1 56 rfl rfl, mem_t1 3 rfl rfl, ⟨by decide +kernel, by decide +kernel, by decide +kernel⟩, by decide⟩, mem_t1 55 rfl rfl, rfl, rfl⟩
def m_X6_restart : MD := (yX6_restart, cX6_restart, 1, none)
theorem k_X6_restart : MOkV m_X6_restart 0 := ⟨⟨by decide +kernel, mem_t2 159 rfl rfl, mem_t1 3 rfl rfl, ⟨by decide +kernel, by decide +kernel, by decide +kernel⟩, by decide⟩, mem_t2 157 rfl rfl, mem_t2 158 rfl rfl⟩
def m_X6_valueIn : MD := (yX6_valueIn, cX6_valueIn, 4, (some .int))
theorem k_X6_valueIn : MOkV m_X6_valueIn 3 := ⟨⟨by decide +kernel, mem_t3 94 rfl rfl, mem_t1 3 rfl rfl, ⟨by decide +kernel, by decide +kernel, by decide +kernel⟩, by decide⟩, mem_t3 92 rfl rfl, mem_t3 93 rfl rfl⟩
def m_X6_slopeIn : MD := (yX6_slopeIn, cX6_slopeIn, 4, (some .int))
theorem k_X6_slopeIn : MOkV m_X6_slopeIn 3 := ⟨⟨by decide +kernel, mem_t3 116 rfl rfl, mem_t1 3 rfl rfl, ⟨by decide +kernel, by decide +kernel, by decide +kernel⟩, by decide⟩, mem_t3 114 rfl rfl, mem_t3 115 rfl rfl⟩
def m_X6_copyProblem : MD := (yX6_copyProblem, cX6_copyProblem, 2, none)
theorem k_X6_copyProblem : MOkV m_X6_copyProblem 1 := ⟨⟨by decide +kernel, mem_t2 115 rfl rfl, mem_t1 3 rfl rfl, ⟨by decide +kernel, by decide +kernel, by decide +kernel⟩, by decide⟩, mem_t2 113 rfl rfl, mem_t2 114 rfl rfl⟩
def m_X6_copyFrom : MD := (yX6_copyFrom, cX6_copyFrom, 2, none)
theorem k_X6_copyFrom : MOkV m_X6_copyFrom 1 := ⟨⟨by decide +kernel, mem_t2 111 rfl rfl, mem_t1 3 rfl rfl, ⟨by decide +kernel, by decide +kernel, by decide +kernel⟩, by decide⟩, mem_t2 109 rfl rfl, mem_t2 110 rfl rfl⟩
def m_X7_init : MD := (yX7_init, cX7_init, 1, none)
theorem k_X7_init : MOkI m_X7_init 0 := ⟨⟨by decide +kernel, mem_t1 194 rfl rfl, mem_t1 10 rfl rfl, ⟨by decide +kernel, by decide +kernel, by decide +kernel⟩, by decide⟩, mem_t1 193 rfl rfl, rfl, rfl⟩
def m_X7_advance : MD := (yX7_advance, cX7_advance, 6, none)
theorem k_X7_advance : MOkV m_X7_advance 2 := ⟨⟨by decide +kernel, mem_t3 49 rfl rfl, mem_t1 10 rfl rfl, ⟨by decide +kernel, by decide +kernel, by decide +kernel⟩, by decide⟩, mem_t3 47 rfl rfl, mem_t3 48 rfl rfl⟩
def m_X7_takeStep : MD := (yX7_takeStep, cX7_takeStep, 10, none)
theorem k_X7_takeStep : MOkV m_X7_takeStep 3 := ⟨⟨by decide +kernel, mem_t3 60 rfl rfl, mem_t1 10 rfl rfl, ⟨by decide +kernel, by decide +kernel, by decide +kernel⟩, by decide⟩, mem_t3 59 rfl rfl, mem_s 17 rfl rfl⟩
def m_X7_hasShortLag : MD := (yX7_hasShortLag, cX7_hasShortLag, 6, (some .boolean))
theorem k_X7_hasShortLag : MOkS m_X7_hasShortLag 3 := ⟨⟨by decide +kernel, mem_t3 150 rfl rfl, mem_t1 10 rfl rfl, ⟨by decide +kernel, by decide +kernel, by decide +kernel⟩, by decide⟩, mem_t3 149 rfl rfl⟩
def m_X7_workOutSlopes : MD := (yX7_workOutSlopes, cX7_workOutSlopes, 4, none)
theorem k_X7_workOutSlopes : MOkV m_X7_workOutSlopes 2 := ⟨⟨by decide +kernel, mem_t3 130 rfl rfl, mem_t1 10 rfl rfl, ⟨by decide +kernel, by decide +kernel, by decide +kernel⟩, by decide⟩, mem_t3 129 rfl rfl, mem_s 22 rfl rfl⟩
def m_X7_rightSide : MD := (yX7_rightSide, cX7_rightSide, 6, (some .int))
theorem k_X7_rightSide : MOkV m_X7_rightSide 3 := ⟨⟨by decide +kernel, mem_t3 174 rfl rfl, mem_t1 10 rfl rfl, ⟨by decide +kernel, by decide +kernel, by decide +kernel⟩, by decide⟩, mem_t3 172 rfl rfl, mem_t3 173 rfl rfl⟩
def m_X7_gather : MD := (yX7_gather, cX7_gather, 10, none)
theorem k_X7_gather : MOkV m_X7_gather 3 := ⟨⟨by decide +kernel, mem_t3 69 rfl rfl, mem_t1 10 rfl rfl, ⟨by decide +kernel, by decide +kernel, by decide +kernel⟩, by decide⟩, mem_t3 68 rfl rfl, mem_s 18 rfl rfl⟩
def m_X7_guessedValue : MD := (yX7_guessedValue, cX7_guessedValue, 8, (some .int))
theorem k_X7_guessedValue : MOkV m_X7_guessedValue 3 := ⟨⟨by decide +kernel, mem_t3 82 rfl rfl, mem_t1 10 rfl rfl, ⟨by decide +kernel, by decide +kernel, by decide +kernel⟩, by decide⟩, mem_t3 81 rfl rfl, mem_s 19 rfl rfl⟩
def m_X7_guessedSlope : MD := (yX7_guessedSlope, cX7_guessedSlope, 5, (some .int))
theorem k_X7_guessedSlope : MOkV m_X7_guessedSlope 2 := ⟨⟨by decide +kernel, mem_t3 111 rfl rfl, mem_t1 10 rfl rfl, ⟨by decide +kernel, by decide +kernel, by decide +kernel⟩, by decide⟩, mem_t3 110 rfl rfl, mem_s 21 rfl rfl⟩
def m_X8_init : MD := (yX8_init, cX8_init, 1, none)
theorem k_X8_init : MOkI m_X8_init 0 := ⟨⟨by decide +kernel, mem_t1 26 rfl rfl, mem_t1 2 rfl rfl, ⟨by decide +kernel, by decide +kernel, by decide +kernel⟩, by decide⟩, mem_t1 25 rfl rfl, rfl, rfl⟩
def m_X8_append : MD := (yX8_append, cX8_append, 2, (some .boolean))
theorem k_X8_append : MOkV m_X8_append 1 := ⟨⟨by decide +kernel, mem_t2 5 rfl rfl, mem_t1 2 rfl rfl, ⟨by decide +kernel, by decide +kernel, by decide +kernel⟩, by decide⟩, mem_t2 3 rfl rfl, mem_t2 4 rfl rfl⟩
def m_X8_empty : MD := (yX8_empty, cX8_empty, 1, none)
theorem k_X8_empty : MOkV m_X8_empty 0 := ⟨⟨by decide +kernel, mem_t2 17 rfl rfl, mem_t1 2 rfl rfl, ⟨by decide +kernel, by decide +kernel, by decide +kernel⟩, by decide⟩, mem_t2 15 rfl rfl, mem_t2 16 rfl rfl⟩
def m_X8_read : MD := (yX8_read, cX8_read, 2, (some .int))
theorem k_X8_read : MOkV m_X8_read 0 := ⟨⟨by decide +kernel, mem_t2 25 rfl rfl, mem_t1 2 rfl rfl, ⟨by decide +kernel, by decide +kernel, by decide +kernel⟩, by decide⟩, mem_t2 23 rfl rfl, mem_t2 24 rfl rfl⟩
def m_X8_readSum : MD := (yX8_readSum, cX8_readSum, 4, (some .boolean))
theorem k_X8_readSum : MOkV m_X8_readSum 1 := ⟨⟨by decide +kernel, mem_t2 29 rfl rfl, mem_t1 2 rfl rfl, ⟨by decide +kernel, by decide +kernel, by decide +kernel⟩, by decide⟩, mem_t2 28 rfl rfl, mem_s 0 rfl rfl⟩
def m_X8_readTerm : MD := (yX8_readTerm, cX8_readTerm, 4, (some .boolean))
theorem k_X8_readTerm : MOkV m_X8_readTerm 1 := ⟨⟨by decide +kernel, mem_t2 33 rfl rfl, mem_t1 2 rfl rfl, ⟨by decide +kernel, by decide +kernel, by decide +kernel⟩, by decide⟩, mem_t2 32 rfl rfl, mem_s 1 rfl rfl⟩
def m_X8_readUnit : MD := (yX8_readUnit, cX8_readUnit, 4, (some .boolean))
theorem k_X8_readUnit : MOkV m_X8_readUnit 1 := ⟨⟨by decide +kernel, mem_t2 37 rfl rfl, mem_t1 2 rfl rfl, ⟨by decide +kernel, by decide +kernel, by decide +kernel⟩, by decide⟩, mem_t2 36 rfl rfl, mem_s 2 rfl rfl⟩
def m_X8_readBareUnit : MD := (yX8_readBareUnit, cX8_readBareUnit, 3, (some .boolean))
theorem k_X8_readBareUnit : MOkV m_X8_readBareUnit 1 := ⟨⟨by decide +kernel, mem_t2 52 rfl rfl, mem_t1 2 rfl rfl, ⟨by decide +kernel, by decide +kernel, by decide +kernel⟩, by decide⟩, mem_t2 51 rfl rfl, mem_s 5 rfl rfl⟩
def m_X8_readNumber : MD := (yX8_readNumber, cX8_readNumber, 4, (some .boolean))
theorem k_X8_readNumber : MOkV m_X8_readNumber 0 := ⟨⟨by decide +kernel, mem_t2 60 rfl rfl, mem_t1 2 rfl rfl, ⟨by decide +kernel, by decide +kernel, by decide +kernel⟩, by decide⟩, mem_t2 59 rfl rfl, mem_s 6 rfl rfl⟩
def m_X8_readName : MD := (yX8_readName, cX8_readName, 4, (some .boolean))
theorem k_X8_readName : MOkV m_X8_readName 0 := ⟨⟨by decide +kernel, mem_t2 68 rfl rfl, mem_t1 2 rfl rfl, ⟨by decide +kernel, by decide +kernel, by decide +kernel⟩, by decide⟩, mem_t2 67 rfl rfl, mem_s 8 rfl rfl⟩
def m_X8_readLeastOrMost : MD := (yX8_readLeastOrMost, cX8_readLeastOrMost, 3, (some .boolean))
theorem k_X8_readLeastOrMost : MOkV m_X8_readLeastOrMost 1 := ⟨⟨by decide +kernel, mem_t2 85 rfl rfl, mem_t1 2 rfl rfl, ⟨by decide +kernel, by decide +kernel, by decide +kernel⟩, by decide⟩, mem_t2 84 rfl rfl, mem_s 10 rfl rfl⟩
def m_X8_readOpen : MD := (yX8_readOpen, cX8_readOpen, 2, (some .boolean))
theorem k_X8_readOpen : MOkV m_X8_readOpen 1 := ⟨⟨by decide +kernel, mem_t2 89 rfl rfl, mem_t1 2 rfl rfl, ⟨by decide +kernel, by decide +kernel, by decide +kernel⟩, by decide⟩, mem_t2 88 rfl rfl, mem_s 11 rfl rfl⟩
def m_X8_sign : MD := (yX8_sign, cX8_sign, 1, (some .int))
theorem k_X8_sign : MOkV m_X8_sign 0 := ⟨⟨by decide +kernel, mem_t2 45 rfl rfl, mem_t1 2 rfl rfl, ⟨by decide +kernel, by decide +kernel, by decide +kernel⟩, by decide⟩, mem_t2 44 rfl rfl, mem_s 4 rfl rfl⟩
def m_X8_accept : MD := (yX8_accept, cX8_accept, 2, (some .boolean))
theorem k_X8_accept : MOkV m_X8_accept 1 := ⟨⟨by decide +kernel, mem_t2 41 rfl rfl, mem_t1 2 rfl rfl, ⟨by decide +kernel, by decide +kernel, by decide +kernel⟩, by decide⟩, mem_t2 40 rfl rfl, mem_s 3 rfl rfl⟩
def m_X8_isDigit : MD := (yX8_isDigit, cX8_isDigit, 1, (some .boolean))
theorem k_X8_isDigit : MOkS m_X8_isDigit 1 := ⟨⟨by decide +kernel, mem_t2 55 rfl rfl, mem_t1 2 rfl rfl, ⟨by decide +kernel, by decide +kernel, by decide +kernel⟩, by decide⟩, mem_t2 54 rfl rfl⟩
def m_X8_emit : MD := (yX8_emit, cX8_emit, 3, none)
theorem k_X8_emit : MOkV m_X8_emit 2 := ⟨⟨by decide +kernel, mem_t2 64 rfl rfl, mem_t1 2 rfl rfl, ⟨by decide +kernel, by decide +kernel, by decide +kernel⟩, by decide⟩, mem_t2 63 rfl rfl, mem_s 7 rfl rfl⟩
def m_X8_emitOperand : MD := (yX8_emitOperand, cX8_emitOperand, 2, none)
theorem k_X8_emitOperand : MOkV m_X8_emitOperand 1 := ⟨⟨by decide +kernel, mem_t2 72 rfl rfl, mem_t1 2 rfl rfl, ⟨by decide +kernel, by decide +kernel, by decide +kernel⟩, by decide⟩, mem_t2 71 rfl rfl, mem_s 9 rfl rfl⟩
def m_X9_init : MD := (yX9_init, cX9_init, 1, none)
theorem k_X9_init : MOkI m_X9_init 0 := ⟨⟨by decide +kernel, mem_t1 18 rfl rfl, mem_t1 1 rfl rfl, ⟨by decide +kernel, by decide +kernel, by decide +kernel⟩, by decide⟩, mem_t1 17 rfl rfl, rfl, rfl⟩
def m_X9_type : MD := (yX9_type, cX9_type, 2, (some .int))
theorem k_X9_type : MOkV m_X9_type 1 := ⟨⟨by decide +kernel, mem_t1 237 rfl rfl, mem_t1 1 rfl rfl, ⟨by decide +kernel, by decide +kernel, by decide +kernel⟩, by decide⟩, mem_t1 235 rfl rfl, mem_t1 236 rfl rfl⟩
def m_X9_wipe : MD := (yX9_wipe, cX9_wipe, 2, (some .int))
theorem k_X9_wipe : MOkV m_X9_wipe 0 := ⟨⟨by decide +kernel, mem_t2 13 rfl rfl, mem_t1 1 rfl rfl, ⟨by decide +kernel, by decide +kernel, by decide +kernel⟩, by decide⟩, mem_t2 11 rfl rfl, mem_t2 12 rfl rfl⟩
def m_X9_fault : MD := (yX9_fault, cX9_fault, 2, (some .int))
theorem k_X9_fault : MOkV m_X9_fault 0 := ⟨⟨by decide +kernel, mem_t2 21 rfl rfl, mem_t1 1 rfl rfl, ⟨by decide +kernel, by decide +kernel, by decide +kernel⟩, by decide⟩, mem_t2 19 rfl rfl, mem_t2 20 rfl rfl⟩
def m_X9_right : MD := (yX9_right, cX9_right, 2, (some .int))
theorem k_X9_right : MOkV m_X9_right 1 := ⟨⟨by decide +kernel, mem_t2 94 rfl rfl, mem_t1 1 rfl rfl, ⟨by decide +kernel, by decide +kernel, by decide +kernel⟩, by decide⟩, mem_t2 92 rfl rfl, mem_t2 93 rfl rfl⟩
def m_X9_delay : MD := (yX9_delay, cX9_delay, 5, (some .int))
theorem k_X9_delay : MOkV m_X9_delay 3 := ⟨⟨by decide +kernel, mem_t2 234 rfl rfl, mem_t1 1 rfl rfl, ⟨by decide +kernel, by decide +kernel, by decide +kernel⟩, by decide⟩, mem_t2 232 rfl rfl, mem_t2 233 rfl rfl⟩
def m_X9_point : MD := (yX9_point, cX9_point, 4, (some .int))
theorem k_X9_point : MOkV m_X9_point 3 := ⟨⟨by decide +kernel, mem_t2 239 rfl rfl, mem_t1 1 rfl rfl, ⟨by decide +kernel, by decide +kernel, by decide +kernel⟩, by decide⟩, mem_t2 237 rfl rfl, mem_t2 238 rfl rfl⟩
def m_X9_clear : MD := (yX9_clear, cX9_clear, 3, (some .int))
theorem k_X9_clear : MOkV m_X9_clear 1 := ⟨⟨by decide +kernel, mem_t3 15 rfl rfl, mem_t1 1 rfl rfl, ⟨by decide +kernel, by decide +kernel, by decide +kernel⟩, by decide⟩, mem_t3 13 rfl rfl, mem_t3 14 rfl rfl⟩
def m_X9_set : MD := (yX9_set, cX9_set, 4, (some .int))
theorem k_X9_set : MOkV m_X9_set 2 := ⟨⟨by decide +kernel, mem_t3 19 rfl rfl, mem_t1 1 rfl rfl, ⟨by decide +kernel, by decide +kernel, by decide +kernel⟩, by decide⟩, mem_t3 17 rfl rfl, mem_t3 18 rfl rfl⟩
def m_X9_lag : MD := (yX9_lag, cX9_lag, 3, (some .int))
theorem k_X9_lag : MOkV m_X9_lag 2 := ⟨⟨by decide +kernel, mem_t3 27 rfl rfl, mem_t1 1 rfl rfl, ⟨by decide +kernel, by decide +kernel, by decide +kernel⟩, by decide⟩, mem_t3 25 rfl rfl, mem_t3 26 rfl rfl⟩
def m_X9_breakAt : MD := (yX9_breakAt, cX9_breakAt, 4, (some .int))
theorem k_X9_breakAt : MOkV m_X9_breakAt 2 := ⟨⟨by decide +kernel, mem_t3 32 rfl rfl, mem_t1 1 rfl rfl, ⟨by decide +kernel, by decide +kernel, by decide +kernel⟩, by decide⟩, mem_t3 30 rfl rfl, mem_t3 31 rfl rfl⟩
def m_X9_solve : MD := (yX9_solve, cX9_solve, 3, (some .int))
theorem k_X9_solve : MOkV m_X9_solve 1 := ⟨⟨by decide +kernel, mem_t3 36 rfl rfl, mem_t1 1 rfl rfl, ⟨by decide +kernel, by decide +kernel, by decide +kernel⟩, by decide⟩, mem_t3 34 rfl rfl, mem_t3 35 rfl rfl⟩
def m_X9_value : MD := (yX9_value, cX9_value, 4, (some .int))
theorem k_X9_value : MOkV m_X9_value 2 := ⟨⟨by decide +kernel, mem_t3 159 rfl rfl, mem_t1 1 rfl rfl, ⟨by decide +kernel, by decide +kernel, by decide +kernel⟩, by decide⟩, mem_t3 157 rfl rfl, mem_t3 158 rfl rfl⟩
def m_X9_slope : MD := (yX9_slope, cX9_slope, 4, (some .int))
theorem k_X9_slope : MOkV m_X9_slope 2 := ⟨⟨by decide +kernel, mem_t3 165 rfl rfl, mem_t1 1 rfl rfl, ⟨by decide +kernel, by decide +kernel, by decide +kernel⟩, by decide⟩, mem_t3 163 rfl rfl, mem_t3 164 rfl rfl⟩
def m_X9_rightAt : MD := (yX9_rightAt, cX9_rightAt, 3, (some .int))
theorem k_X9_rightAt : MOkV m_X9_rightAt 2 := ⟨⟨by decide +kernel, mem_t3 170 rfl rfl, mem_t1 1 rfl rfl, ⟨by decide +kernel, by decide +kernel, by decide +kernel⟩, by decide⟩, mem_t3 168 rfl rfl, mem_t3 169 rfl rfl⟩
def m_X9_step : MD := (yX9_step, cX9_step, 4, (some .int))
theorem k_X9_step : MOkV m_X9_step 2 := ⟨⟨by decide +kernel, mem_t3 178 rfl rfl, mem_t1 1 rfl rfl, ⟨by decide +kernel, by decide +kernel, by decide +kernel⟩, by decide⟩, mem_t3 176 rfl rfl, mem_t3 177 rfl rfl⟩
def m_X9_crossing : MD := (yX9_crossing, cX9_crossing, 10, (some .int))
theorem k_X9_crossing : MOkV m_X9_crossing 3 := ⟨⟨by decide +kernel, mem_t3 195 rfl rfl, mem_t1 1 rfl rfl, ⟨by decide +kernel, by decide +kernel, by decide +kernel⟩, by decide⟩, mem_t3 193 rfl rfl, mem_t3 194 rfl rfl⟩
def m_X9_greatest : MD := (yX9_greatest, cX9_greatest, 11, (some .int))
theorem k_X9_greatest : MOkV m_X9_greatest 4 := ⟨⟨by decide +kernel, mem_t3 200 rfl rfl, mem_t1 1 rfl rfl, ⟨by decide +kernel, by decide +kernel, by decide +kernel⟩, by decide⟩, mem_t3 198 rfl rfl, mem_t3 199 rfl rfl⟩
def m_X9_differs : MD := (yX9_differs, cX9_differs, 8, (some .int))
theorem k_X9_differs : MOkV m_X9_differs 1 := ⟨⟨by decide +kernel, mem_t3 204 rfl rfl, mem_t1 1 rfl rfl, ⟨by decide +kernel, by decide +kernel, by decide +kernel⟩, by decide⟩, mem_t3 202 rfl rfl, mem_t3 203 rfl rfl⟩
def m_X9_count : MD := (yX9_count, cX9_count, 2, (some .int))
theorem k_X9_count : MOkV m_X9_count 1 := ⟨⟨by decide +kernel, mem_t3 215 rfl rfl, mem_t1 1 rfl rfl, ⟨by decide +kernel, by decide +kernel, by decide +kernel⟩, by decide⟩, mem_t3 213 rfl rfl, mem_t3 214 rfl rfl⟩
def m_X9_undo : MD := (yX9_undo, cX9_undo, 1, (some .int))
theorem k_X9_undo : MOkV m_X9_undo 0 := ⟨⟨by decide +kernel, mem_t3 220 rfl rfl, mem_t1 1 rfl rfl, ⟨by decide +kernel, by decide +kernel, by decide +kernel⟩, by decide⟩, mem_t3 218 rfl rfl, mem_t3 219 rfl rfl⟩
def m_X9_save : MD := (yX9_save, cX9_save, 3, (some .int))
theorem k_X9_save : MOkV m_X9_save 1 := ⟨⟨by decide +kernel, mem_t3 228 rfl rfl, mem_t1 1 rfl rfl, ⟨by decide +kernel, by decide +kernel, by decide +kernel⟩, by decide⟩, mem_t3 226 rfl rfl, mem_t3 227 rfl rfl⟩
def m_X9_restore : MD := (yX9_restore, cX9_restore, 3, (some .int))
theorem k_X9_restore : MOkV m_X9_restore 1 := ⟨⟨by decide +kernel, mem_t3 233 rfl rfl, mem_t1 1 rfl rfl, ⟨by decide +kernel, by decide +kernel, by decide +kernel⟩, by decide⟩, mem_t3 231 rfl rfl, mem_t3 232 rfl rfl⟩
def m_X9_isWithin : MD := (yX9_isWithin, cX9_isWithin, 3, (some .boolean))
theorem k_X9_isWithin : MOkS m_X9_isWithin 3 := ⟨⟨by decide +kernel, mem_t2 0 rfl rfl, mem_t1 1 rfl rfl, ⟨by decide +kernel, by decide +kernel, by decide +kernel⟩, by decide⟩, mem_t1 239 rfl rfl⟩
def m_X9_isVariable : MD := (yX9_isVariable, cX9_isVariable, 1, (some .boolean))
theorem k_X9_isVariable : MOkS m_X9_isVariable 1 := ⟨⟨by decide +kernel, mem_t2 97 rfl rfl, mem_t1 1 rfl rfl, ⟨by decide +kernel, by decide +kernel, by decide +kernel⟩, by decide⟩, mem_t2 96 rfl rfl⟩
def m_X9_isDelay : MD := (yX9_isDelay, cX9_isDelay, 1, (some .boolean))
theorem k_X9_isDelay : MOkS m_X9_isDelay 1 := ⟨⟨by decide +kernel, mem_t2 75 rfl rfl, mem_t1 1 rfl rfl, ⟨by decide +kernel, by decide +kernel, by decide +kernel⟩, by decide⟩, mem_t2 74 rfl rfl⟩
def m_X9_hold : MD := (yX9_hold, cX9_hold, 2, (some .int))
theorem k_X9_hold : MOkS m_X9_hold 1 := ⟨⟨by decide +kernel, mem_t3 86 rfl rfl, mem_t1 1 rfl rfl, ⟨by decide +kernel, by decide +kernel, by decide +kernel⟩, by decide⟩, mem_t3 85 rfl rfl⟩
def m_X9_quotient : MD := (yX9_quotient, cX9_quotient, 4, (some .long))
theorem k_X9_quotient : MOkS m_X9_quotient 2 := ⟨⟨by decide +kernel, mem_t2 228 rfl rfl, mem_t1 1 rfl rfl, ⟨by decide +kernel, by decide +kernel, by decide +kernel⟩, by decide⟩, mem_t2 227 rfl rfl⟩
def m_X9_pick : MD := (yX9_pick, cX9_pick, 2, (some .int))
theorem k_X9_pick : MOkS m_X9_pick 2 := ⟨⟨by decide +kernel, mem_t2 48 rfl rfl, mem_t1 1 rfl rfl, ⟨by decide +kernel, by decide +kernel, by decide +kernel⟩, by decide⟩, mem_t2 47 rfl rfl⟩
def m_X9_put : MD := (yX9_put, cX9_put, 3, none)
theorem k_X9_put : MOkS m_X9_put 3 := ⟨⟨by decide +kernel, mem_t2 8 rfl rfl, mem_t1 1 rfl rfl, ⟨by decide +kernel, by decide +kernel, by decide +kernel⟩, by decide⟩, mem_t2 7 rfl rfl⟩
def m_X9_copyRow : MD := (yX9_copyRow, cX9_copyRow, 4, none)
theorem k_X9_copyRow : MOkS m_X9_copyRow 3 := ⟨⟨by decide +kernel, mem_t2 122 rfl rfl, mem_t1 1 rfl rfl, ⟨by decide +kernel, by decide +kernel, by decide +kernel⟩, by decide⟩, mem_t2 121 rfl rfl⟩
def m_X9_makeRoom : MD := (yX9_makeRoom, cX9_makeRoom, 4, none)
theorem k_X9_makeRoom : MOkS m_X9_makeRoom 3 := ⟨⟨by decide +kernel, mem_t2 209 rfl rfl, mem_t1 1 rfl rfl, ⟨by decide +kernel, by decide +kernel, by decide +kernel⟩, by decide⟩, mem_t2 208 rfl rfl⟩
def m_X9_hasBit : MD := (yX9_hasBit, cX9_hasBit, 2, (some .boolean))
theorem k_X9_hasBit : MOkS m_X9_hasBit 2 := ⟨⟨by decide +kernel, mem_t2 184 rfl rfl, mem_t1 1 rfl rfl, ⟨by decide +kernel, by decide +kernel, by decide +kernel⟩, by decide⟩, mem_t2 183 rfl rfl⟩
def m_X9_pastOperand : MD := (yX9_pastOperand, cX9_pastOperand, 2, (some .int))
theorem k_X9_pastOperand : MOkS m_X9_pastOperand 2 := ⟨⟨by decide +kernel, mem_t2 81 rfl rfl, mem_t1 1 rfl rfl, ⟨by decide +kernel, by decide +kernel, by decide +kernel⟩, by decide⟩, mem_t2 80 rfl rfl⟩
def m_X9_slopeOperand : MD := (yX9_slopeOperand, cX9_slopeOperand, 2, (some .int))
theorem k_X9_slopeOperand : MOkS m_X9_slopeOperand 2 := ⟨⟨by decide +kernel, mem_t2 78 rfl rfl, mem_t1 1 rfl rfl, ⟨by decide +kernel, by decide +kernel, by decide +kernel⟩, by decide⟩, mem_t2 77 rfl rfl⟩
def m_X9_needsDelay : MD := (yX9_needsDelay, cX9_needsDelay, 3, (some .boolean))
theorem k_X9_needsDelay : MOkS m_X9_needsDelay 2 := ⟨⟨by decide +kernel, mem_t2 169 rfl rfl, mem_t1 1 rfl rfl, ⟨by decide +kernel, by decide +kernel, by decide +kernel⟩, by decide⟩, mem_t2 168 rfl rfl⟩
def m_X9_delaysIn : MD := (yX9_delaysIn, cX9_delaysIn, 3, (some .int))
theorem k_X9_delaysIn : MOkS m_X9_delaysIn 1 := ⟨⟨by decide +kernel, mem_t2 166 rfl rfl, mem_t1 1 rfl rfl, ⟨by decide +kernel, by decide +kernel, by decide +kernel⟩, by decide⟩, mem_t2 165 rfl rfl⟩
def m_X10_init : MD := (yX10_init, cX10_init, 2, none)
theorem k_X10_init : MOkI m_X10_init 0 := ⟨⟨by decide +kernel, mem_t3 238 rfl rfl, mem_t1 11 rfl rfl, ⟨by decide +kernel, by decide +kernel, by decide +kernel⟩, by decide⟩, mem_t3 237 rfl rfl, rfl, rfl⟩
def m_X10_within : MD := (yX10_within, cX10_within, 3, (some .boolean))
theorem k_X10_within : MOkS m_X10_within 3 := ⟨⟨by decide +kernel, mem_t4 95 rfl rfl, mem_t1 11 rfl rfl, ⟨by decide +kernel, by decide +kernel, by decide +kernel⟩, by decide⟩, mem_t4 94 rfl rfl⟩
def m_X10_held : MD := (yX10_held, cX10_held, 2, (some .long))
theorem k_X10_held : MOkS m_X10_held 1 := ⟨⟨by decide +kernel, mem_t4 83 rfl rfl, mem_t1 11 rfl rfl, ⟨by decide +kernel, by decide +kernel, by decide +kernel⟩, by decide⟩, mem_t4 82 rfl rfl⟩
def m_X10_saves : MD := (yX10_saves, cX10_saves, 2, none)
theorem k_X10_saves : MOkV m_X10_saves 0 := ⟨⟨by decide +kernel, mem_t5 37 rfl rfl, mem_t1 11 rfl rfl, ⟨by decide +kernel, by decide +kernel, by decide +kernel⟩, by decide⟩, mem_t5 36 rfl rfl, mem_s 58 rfl rfl⟩
def m_X10_undo : MD := (yX10_undo, cX10_undo, 2, (some .int))
theorem k_X10_undo : MOkV m_X10_undo 0 := ⟨⟨by decide +kernel, mem_t5 23 rfl rfl, mem_t1 11 rfl rfl, ⟨by decide +kernel, by decide +kernel, by decide +kernel⟩, by decide⟩, mem_t5 21 rfl rfl, mem_t5 22 rfl rfl⟩
def m_X10_save : MD := (yX10_save, cX10_save, 3, (some .int))
theorem k_X10_save : MOkV m_X10_save 1 := ⟨⟨by decide +kernel, mem_t5 28 rfl rfl, mem_t1 11 rfl rfl, ⟨by decide +kernel, by decide +kernel, by decide +kernel⟩, by decide⟩, mem_t5 26 rfl rfl, mem_t5 27 rfl rfl⟩
def m_X10_restore : MD := (yX10_restore, cX10_restore, 3, (some .int))
theorem k_X10_restore : MOkV m_X10_restore 1 := ⟨⟨by decide +kernel, mem_t5 33 rfl rfl, mem_t1 11 rfl rfl, ⟨by decide +kernel, by decide +kernel, by decide +kernel⟩, by decide⟩, mem_t5 31 rfl rfl, mem_t5 32 rfl rfl⟩
def m_X10_anew : MD := (yX10_anew, cX10_anew, 1, none)
theorem k_X10_anew : MOkV m_X10_anew 0 := ⟨⟨by decide +kernel, mem_t5 85 rfl rfl, mem_t1 11 rfl rfl, ⟨by decide +kernel, by decide +kernel, by decide +kernel⟩, by decide⟩, mem_t5 84 rfl rfl, mem_s 65 rfl rfl⟩
def m_X10_type : MD := (yX10_type, cX10_type, 2, (some .int))
theorem k_X10_type : MOkV m_X10_type 1 := ⟨⟨by decide +kernel, mem_t5 41 rfl rfl, mem_t1 11 rfl rfl, ⟨by decide +kernel, by decide +kernel, by decide +kernel⟩, by decide⟩, mem_t5 39 rfl rfl, mem_t5 40 rfl rfl⟩
def m_X10_wipe : MD := (yX10_wipe, cX10_wipe, 2, (some .int))
theorem k_X10_wipe : MOkV m_X10_wipe 0 := ⟨⟨by decide +kernel, mem_t5 46 rfl rfl, mem_t1 11 rfl rfl, ⟨by decide +kernel, by decide +kernel, by decide +kernel⟩, by decide⟩, mem_t5 44 rfl rfl, mem_t5 45 rfl rfl⟩
def m_X10_letter : MD := (yX10_letter, cX10_letter, 2, (some .int))
theorem k_X10_letter : MOkV m_X10_letter 1 := ⟨⟨by decide +kernel, mem_t5 66 rfl rfl, mem_t1 11 rfl rfl, ⟨by decide +kernel, by decide +kernel, by decide +kernel⟩, by decide⟩, mem_t5 65 rfl rfl, mem_s 62 rfl rfl⟩
def m_X10_isDigit : MD := (yX10_isDigit, cX10_isDigit, 1, (some .boolean))
theorem k_X10_isDigit : MOkS m_X10_isDigit 1 := ⟨⟨by decide +kernel, mem_t4 92 rfl rfl, mem_t1 11 rfl rfl, ⟨by decide +kernel, by decide +kernel, by decide +kernel⟩, by decide⟩, mem_t4 91 rfl rfl⟩
def m_X10_isName : MD := (yX10_isName, cX10_isName, 1, (some .boolean))
theorem k_X10_isName : MOkS m_X10_isName 1 := ⟨⟨by decide +kernel, mem_t4 116 rfl rfl, mem_t1 11 rfl rfl, ⟨by decide +kernel, by decide +kernel, by decide +kernel⟩, by decide⟩, mem_t4 115 rfl rfl⟩
def m_X10_digits : MD := (yX10_digits, cX10_digits, 4, (some .int))
theorem k_X10_digits : MOkV m_X10_digits 2 := ⟨⟨by decide +kernel, mem_t5 62 rfl rfl, mem_t1 11 rfl rfl, ⟨by decide +kernel, by decide +kernel, by decide +kernel⟩, by decide⟩, mem_t5 61 rfl rfl, mem_s 61 rfl rfl⟩
def m_X10_numberEnd : MD := (yX10_numberEnd, cX10_numberEnd, 4, (some .int))
theorem k_X10_numberEnd : MOkV m_X10_numberEnd 1 := ⟨⟨by decide +kernel, mem_t5 58 rfl rfl, mem_t1 11 rfl rfl, ⟨by decide +kernel, by decide +kernel, by decide +kernel⟩, by decide⟩, mem_t5 57 rfl rfl, mem_s 60 rfl rfl⟩
def m_X10_nameEnd : MD := (yX10_nameEnd, cX10_nameEnd, 3, (some .int))
theorem k_X10_nameEnd : MOkV m_X10_nameEnd 1 := ⟨⟨by decide +kernel, mem_t5 70 rfl rfl, mem_t1 11 rfl rfl, ⟨by decide +kernel, by decide +kernel, by decide +kernel⟩, by decide⟩, mem_t5 69 rfl rfl, mem_s 63 rfl rfl⟩
def m_X10_wordEnd : MD := (yX10_wordEnd, cX10_wordEnd, 3, (some .int))
theorem k_X10_wordEnd : MOkV m_X10_wordEnd 1 := ⟨⟨by decide +kernel, mem_t5 74 rfl rfl, mem_t1 11 rfl rfl, ⟨by decide +kernel, by decide +kernel, by decide +kernel⟩, by decide⟩, mem_t5 73 rfl rfl, mem_s 64 rfl rfl⟩
def m_X10_faultOf : MD := (yX10_faultOf, cX10_faultOf, 7, (some .int))
theorem k_X10_faultOf : MOkV m_X10_faultOf 0 := ⟨⟨by decide +kernel, mem_t5 54 rfl rfl, mem_t1 11 rfl rfl, ⟨by decide +kernel, by decide +kernel, by decide +kernel⟩, by decide⟩, mem_t5 53 rfl rfl, mem_s 59 rfl rfl⟩
def m_X10_fault : MD := (yX10_fault, cX10_fault, 1, (some .int))
theorem k_X10_fault : MOkV m_X10_fault 0 := ⟨⟨by decide +kernel, mem_t5 50 rfl rfl, mem_t1 11 rfl rfl, ⟨by decide +kernel, by decide +kernel, by decide +kernel⟩, by decide⟩, mem_t5 48 rfl rfl, mem_t5 49 rfl rfl⟩
def m_X10_isThree : MD := (yX10_isThree, cX10_isThree, 1, (some .boolean))
theorem k_X10_isThree : MOkS m_X10_isThree 1 := ⟨⟨by decide +kernel, mem_t5 81 rfl rfl, mem_t1 11 rfl rfl, ⟨by decide +kernel, by decide +kernel, by decide +kernel⟩, by decide⟩, mem_t5 80 rfl rfl⟩
def m_X10_rightLetter : MD := (yX10_rightLetter, cX10_rightLetter, 3, (some .int))
theorem k_X10_rightLetter : MOkV m_X10_rightLetter 2 := ⟨⟨by decide +kernel, mem_t4 20 rfl rfl, mem_t1 11 rfl rfl, ⟨by decide +kernel, by decide +kernel, by decide +kernel⟩, by decide⟩, mem_t4 19 rfl rfl, mem_s 27 rfl rfl⟩
def m_X10_usedBy : MD := (yX10_usedBy, cX10_usedBy, 4, (some .int))
theorem k_X10_usedBy : MOkV m_X10_usedBy 1 := ⟨⟨by decide +kernel, mem_t4 16 rfl rfl, mem_t1 11 rfl rfl, ⟨by decide +kernel, by decide +kernel, by decide +kernel⟩, by decide⟩, mem_t4 15 rfl rfl, mem_s 26 rfl rfl⟩
def m_X10_used : MD := (yX10_used, cX10_used, 1, (some .int))
theorem k_X10_used : MOkV m_X10_used 0 := ⟨⟨by decide +kernel, mem_t4 12 rfl rfl, mem_t1 11 rfl rfl, ⟨by decide +kernel, by decide +kernel, by decide +kernel⟩, by decide⟩, mem_t4 11 rfl rfl, mem_s 25 rfl rfl⟩
def m_X10_right : MD := (yX10_right, cX10_right, 3, (some .int))
theorem k_X10_right : MOkV m_X10_right 1 := ⟨⟨by decide +kernel, mem_t5 78 rfl rfl, mem_t1 11 rfl rfl, ⟨by decide +kernel, by decide +kernel, by decide +kernel⟩, by decide⟩, mem_t5 76 rfl rfl, mem_t5 77 rfl rfl⟩
def m_X10_delay : MD := (yX10_delay, cX10_delay, 5, (some .int))
theorem k_X10_delay : MOkV m_X10_delay 3 := ⟨⟨by decide +kernel, mem_t5 89 rfl rfl, mem_t1 11 rfl rfl, ⟨by decide +kernel, by decide +kernel, by decide +kernel⟩, by decide⟩, mem_t5 87 rfl rfl, mem_t5 88 rfl rfl⟩
def m_X10_pointTime : MD := (yX10_pointTime, cX10_pointTime, 3, (some .int))
theorem k_X10_pointTime : MOkV m_X10_pointTime 2 := ⟨⟨by decide +kernel, mem_t4 67 rfl rfl, mem_t1 11 rfl rfl, ⟨by decide +kernel, by decide +kernel, by decide +kernel⟩, by decide⟩, mem_t4 66 rfl rfl, mem_s 38 rfl rfl⟩
def m_X10_pointValue : MD := (yX10_pointValue, cX10_pointValue, 3, (some .int))
theorem k_X10_pointValue : MOkV m_X10_pointValue 2 := ⟨⟨by decide +kernel, mem_t4 71 rfl rfl, mem_t1 11 rfl rfl, ⟨by decide +kernel, by decide +kernel, by decide +kernel⟩, by decide⟩, mem_t4 70 rfl rfl, mem_s 39 rfl rfl⟩
def m_X10_points : MD := (yX10_points, cX10_points, 2, (some .int))
theorem k_X10_points : MOkV m_X10_points 1 := ⟨⟨by decide +kernel, mem_t4 63 rfl rfl, mem_t1 11 rfl rfl, ⟨by decide +kernel, by decide +kernel, by decide +kernel⟩, by decide⟩, mem_t4 62 rfl rfl, mem_s 37 rfl rfl⟩
def m_X10_point : MD := (yX10_point, cX10_point, 8, (some .int))
theorem k_X10_point : MOkV m_X10_point 3 := ⟨⟨by decide +kernel, mem_t5 93 rfl rfl, mem_t1 11 rfl rfl, ⟨by decide +kernel, by decide +kernel, by decide +kernel⟩, by decide⟩, mem_t5 91 rfl rfl, mem_t5 92 rfl rfl⟩
def m_X10_clear : MD := (yX10_clear, cX10_clear, 4, (some .int))
theorem k_X10_clear : MOkV m_X10_clear 1 := ⟨⟨by decide +kernel, mem_t5 99 rfl rfl, mem_t1 11 rfl rfl, ⟨by decide +kernel, by decide +kernel, by decide +kernel⟩, by decide⟩, mem_t5 97 rfl rfl, mem_t5 98 rfl rfl⟩
def m_X10_set : MD := (yX10_set, cX10_set, 5, (some .int))
theorem k_X10_set : MOkV m_X10_set 2 := ⟨⟨by decide +kernel, mem_t5 103 rfl rfl, mem_t1 11 rfl rfl, ⟨by decide +kernel, by decide +kernel, by decide +kernel⟩, by decide⟩, mem_t5 101 rfl rfl, mem_t5 102 rfl rfl⟩
def m_X10_lagAt : MD := (yX10_lagAt, cX10_lagAt, 4, (some .int))
theorem k_X10_lagAt : MOkV m_X10_lagAt 2 := ⟨⟨by decide +kernel, mem_t4 28 rfl rfl, mem_t1 11 rfl rfl, ⟨by decide +kernel, by decide +kernel, by decide +kernel⟩, by decide⟩, mem_t4 27 rfl rfl, mem_s 29 rfl rfl⟩
def m_X10_lag : MD := (yX10_lag, cX10_lag, 3, (some .int))
theorem k_X10_lag : MOkV m_X10_lag 2 := ⟨⟨by decide +kernel, mem_t5 107 rfl rfl, mem_t1 11 rfl rfl, ⟨by decide +kernel, by decide +kernel, by decide +kernel⟩, by decide⟩, mem_t5 105 rfl rfl, mem_t5 106 rfl rfl⟩
def m_X10_madeFrom : MD := (yX10_madeFrom, cX10_madeFrom, 4, (some .int))
theorem k_X10_madeFrom : MOkV m_X10_madeFrom 2 := ⟨⟨by decide +kernel, mem_t4 24 rfl rfl, mem_t1 11 rfl rfl, ⟨by decide +kernel, by decide +kernel, by decide +kernel⟩, by decide⟩, mem_t4 23 rfl rfl, mem_s 28 rfl rfl⟩
def m_X10_breakWith : MD := (yX10_breakWith, cX10_breakWith, 3, (some .int))
theorem k_X10_breakWith : MOkV m_X10_breakWith 1 := ⟨⟨by decide +kernel, mem_t4 36 rfl rfl, mem_t1 11 rfl rfl, ⟨by decide +kernel, by decide +kernel, by decide +kernel⟩, by decide⟩, mem_t4 35 rfl rfl, mem_s 31 rfl rfl⟩
def m_X10_makes : MD := (yX10_makes, cX10_makes, 5, none)
theorem k_X10_makes : MOkV m_X10_makes 3 := ⟨⟨by decide +kernel, mem_t4 32 rfl rfl, mem_t1 11 rfl rfl, ⟨by decide +kernel, by decide +kernel, by decide +kernel⟩, by decide⟩, mem_t4 31 rfl rfl, mem_s 30 rfl rfl⟩
def m_X10_findsBreaks : MD := (yX10_findsBreaks, cX10_findsBreaks, 7, none)
theorem k_X10_findsBreaks : MOkV m_X10_findsBreaks 0 := ⟨⟨by decide +kernel, mem_t4 7 rfl rfl, mem_t1 11 rfl rfl, ⟨by decide +kernel, by decide +kernel, by decide +kernel⟩, by decide⟩, mem_t4 6 rfl rfl, mem_s 24 rfl rfl⟩
def m_X10_swaps : MD := (yX10_swaps, cX10_swaps, 3, none)
theorem k_X10_swaps : MOkS m_X10_swaps 2 := ⟨⟨by decide +kernel, mem_t4 39 rfl rfl, mem_t1 11 rfl rfl, ⟨by decide +kernel, by decide +kernel, by decide +kernel⟩, by decide⟩, mem_t4 38 rfl rfl⟩
def m_X10_breakAt : MD := (yX10_breakAt, cX10_breakAt, 3, (some .int))
theorem k_X10_breakAt : MOkV m_X10_breakAt 2 := ⟨⟨by decide +kernel, mem_t5 111 rfl rfl, mem_t1 11 rfl rfl, ⟨by decide +kernel, by decide +kernel, by decide +kernel⟩, by decide⟩, mem_t5 109 rfl rfl, mem_t5 110 rfl rfl⟩
def m_X10_nextBreak : MD := (yX10_nextBreak, cX10_nextBreak, 3, (some .int))
theorem k_X10_nextBreak : MOkV m_X10_nextBreak 1 := ⟨⟨by decide +kernel, mem_t4 47 rfl rfl, mem_t1 11 rfl rfl, ⟨by decide +kernel, by decide +kernel, by decide +kernel⟩, by decide⟩, mem_t4 46 rfl rfl, mem_s 33 rfl rfl⟩
def m_X10_historyValue : MD := (yX10_historyValue, cX10_historyValue, 9, (some .long))
theorem k_X10_historyValue : MOkV m_X10_historyValue 2 := ⟨⟨by decide +kernel, mem_t4 59 rfl rfl, mem_t1 11 rfl rfl, ⟨by decide +kernel, by decide +kernel, by decide +kernel⟩, by decide⟩, mem_t4 58 rfl rfl, mem_s 36 rfl rfl⟩
def m_X10_historySlope : MD := (yX10_historySlope, cX10_historySlope, 4, (some .long))
theorem k_X10_historySlope : MOkV m_X10_historySlope 2 := ⟨⟨by decide +kernel, mem_t4 128 rfl rfl, mem_t1 11 rfl rfl, ⟨by decide +kernel, by decide +kernel, by decide +kernel⟩, by decide⟩, mem_t4 127 rfl rfl, mem_s 49 rfl rfl⟩
def m_X10_stepOf : MD := (yX10_stepOf, cX10_stepOf, 5, (some .int))
theorem k_X10_stepOf : MOkV m_X10_stepOf 1 := ⟨⟨by decide +kernel, mem_t4 75 rfl rfl, mem_t1 11 rfl rfl, ⟨by decide +kernel, by decide +kernel, by decide +kernel⟩, by decide⟩, mem_t4 74 rfl rfl, mem_s 40 rfl rfl⟩
def m_X10_bend : MD := (yX10_bend, cX10_bend, 3, (some .long))
theorem k_X10_bend : MOkV m_X10_bend 2 := ⟨⟨by decide +kernel, mem_t4 80 rfl rfl, mem_t1 11 rfl rfl, ⟨by decide +kernel, by decide +kernel, by decide +kernel⟩, by decide⟩, mem_t4 79 rfl rfl, mem_s 41 rfl rfl⟩
def m_X10_toldValue : MD := (yX10_toldValue, cX10_toldValue, 8, (some .long))
theorem k_X10_toldValue : MOkV m_X10_toldValue 2 := ⟨⟨by decide +kernel, mem_t4 55 rfl rfl, mem_t1 11 rfl rfl, ⟨by decide +kernel, by decide +kernel, by decide +kernel⟩, by decide⟩, mem_t4 54 rfl rfl, mem_s 35 rfl rfl⟩
def m_X10_toldSlope : MD := (yX10_toldSlope, cX10_toldSlope, 8, (some .long))
theorem k_X10_toldSlope : MOkV m_X10_toldSlope 2 := ⟨⟨by decide +kernel, mem_t4 124 rfl rfl, mem_t1 11 rfl rfl, ⟨by decide +kernel, by decide +kernel, by decide +kernel⟩, by decide⟩, mem_t4 123 rfl rfl, mem_s 48 rfl rfl⟩
def m_X10_valueAt : MD := (yX10_valueAt, cX10_valueAt, 3, (some .long))
theorem k_X10_valueAt : MOkV m_X10_valueAt 2 := ⟨⟨by decide +kernel, mem_t4 133 rfl rfl, mem_t1 11 rfl rfl, ⟨by decide +kernel, by decide +kernel, by decide +kernel⟩, by decide⟩, mem_t4 132 rfl rfl, mem_s 50 rfl rfl⟩
def m_X10_slopeAt : MD := (yX10_slopeAt, cX10_slopeAt, 3, (some .long))
theorem k_X10_slopeAt : MOkV m_X10_slopeAt 2 := ⟨⟨by decide +kernel, mem_t4 120 rfl rfl, mem_t1 11 rfl rfl, ⟨by decide +kernel, by decide +kernel, by decide +kernel⟩, by decide⟩, mem_t4 119 rfl rfl, mem_s 47 rfl rfl⟩
def m_X10_rank : MD := (yX10_rank, cX10_rank, 1, (some .int))
theorem k_X10_rank : MOkS m_X10_rank 1 := ⟨⟨by decide +kernel, mem_t4 144 rfl rfl, mem_t1 11 rfl rfl, ⟨by decide +kernel, by decide +kernel, by decide +kernel⟩, by decide⟩, mem_t4 143 rfl rfl⟩
def m_X10_carriesOut : MD := (yX10_carriesOut, cX10_carriesOut, 8, none)
theorem k_X10_carriesOut : MOkV m_X10_carriesOut 0 := ⟨⟨by decide +kernel, mem_t4 148 rfl rfl, mem_t1 11 rfl rfl, ⟨by decide +kernel, by decide +kernel, by decide +kernel⟩, by decide⟩, mem_t4 147 rfl rfl, mem_s 53 rfl rfl⟩
def m_X10_carriesAll : MD := (yX10_carriesAll, cX10_carriesAll, 2, none)
theorem k_X10_carriesAll : MOkV m_X10_carriesAll 1 := ⟨⟨by decide +kernel, mem_t4 141 rfl rfl, mem_t1 11 rfl rfl, ⟨by decide +kernel, by decide +kernel, by decide +kernel⟩, by decide⟩, mem_t4 140 rfl rfl, mem_s 52 rfl rfl⟩
def m_X10_negates : MD := (yX10_negates, cX10_negates, 1, none)
theorem k_X10_negates : MOkV m_X10_negates 0 := ⟨⟨by decide +kernel, mem_t4 109 rfl rfl, mem_t1 11 rfl rfl, ⟨by decide +kernel, by decide +kernel, by decide +kernel⟩, by decide⟩, mem_t4 108 rfl rfl, mem_s 45 rfl rfl⟩
def m_X10_puts : MD := (yX10_puts, cX10_puts, 3, none)
theorem k_X10_puts : MOkV m_X10_puts 1 := ⟨⟨by decide +kernel, mem_t4 105 rfl rfl, mem_t1 11 rfl rfl, ⟨by decide +kernel, by decide +kernel, by decide +kernel⟩, by decide⟩, mem_t4 104 rfl rfl, mem_s 44 rfl rfl⟩
def m_X10_putsSign : MD := (yX10_putsSign, cX10_putsSign, 2, none)
theorem k_X10_putsSign : MOkV m_X10_putsSign 1 := ⟨⟨by decide +kernel, mem_t4 156 rfl rfl, mem_t1 11 rfl rfl, ⟨by decide +kernel, by decide +kernel, by decide +kernel⟩, by decide⟩, mem_t4 155 rfl rfl, mem_s 55 rfl rfl⟩
def m_X10_shuts : MD := (yX10_shuts, cX10_shuts, 6, none)
theorem k_X10_shuts : MOkV m_X10_shuts 0 := ⟨⟨by decide +kernel, mem_t4 137 rfl rfl, mem_t1 11 rfl rfl, ⟨by decide +kernel, by decide +kernel, by decide +kernel⟩, by decide⟩, mem_t4 136 rfl rfl, mem_s 51 rfl rfl⟩
def m_X10_numberAt : MD := (yX10_numberAt, cX10_numberAt, 8, (some .long))
theorem k_X10_numberAt : MOkV m_X10_numberAt 2 := ⟨⟨by decide +kernel, mem_t4 99 rfl rfl, mem_t1 11 rfl rfl, ⟨by decide +kernel, by decide +kernel, by decide +kernel⟩, by decide⟩, mem_t4 98 rfl rfl, mem_s 43 rfl rfl⟩
def m_X10_behindNumber : MD := (yX10_behindNumber, cX10_behindNumber, 4, (some .int))
theorem k_X10_behindNumber : MOkV m_X10_behindNumber 2 := ⟨⟨by decide +kernel, mem_t4 113 rfl rfl, mem_t1 11 rfl rfl, ⟨by decide +kernel, by decide +kernel, by decide +kernel⟩, by decide⟩, mem_t4 112 rfl rfl, mem_s 46 rfl rfl⟩
def m_X10_worksOut : MD := (yX10_worksOut, cX10_worksOut, 12, (some .long))
theorem k_X10_worksOut : MOkV m_X10_worksOut 2 := ⟨⟨by decide +kernel, mem_t4 89 rfl rfl, mem_t1 11 rfl rfl, ⟨by decide +kernel, by decide +kernel, by decide +kernel⟩, by decide⟩, mem_t4 88 rfl rfl, mem_s 42 rfl rfl⟩
def m_X10_opens : MD := (yX10_opens, cX10_opens, 3, none)
theorem k_X10_opens : MOkV m_X10_opens 2 := ⟨⟨by decide +kernel, mem_t4 152 rfl rfl, mem_t1 11 rfl rfl, ⟨by decide +kernel, by decide +kernel, by decide +kernel⟩, by decide⟩, mem_t4 151 rfl rfl, mem_s 54 rfl rfl⟩
def m_X10_solvesAll : MD := (yX10_solvesAll, cX10_solvesAll, 2, none)
theorem k_X10_solvesAll : MOkV m_X10_solvesAll 0 := ⟨⟨by decide +kernel, mem_t4 3 rfl rfl, mem_t1 11 rfl rfl, ⟨by decide +kernel, by decide +kernel, by decide +kernel⟩, by decide⟩, mem_t4 2 rfl rfl, mem_s 23 rfl rfl⟩
def m_X10_goesTo : MD := (yX10_goesTo, cX10_goesTo, 3, none)
theorem k_X10_goesTo : MOkV m_X10_goesTo 1 := ⟨⟨by decide +kernel, mem_t4 43 rfl rfl, mem_t1 11 rfl rfl, ⟨by decide +kernel, by decide +kernel, by decide +kernel⟩, by decide⟩, mem_t4 42 rfl rfl, mem_s 32 rfl rfl⟩
def m_X10_needsRounds : MD := (yX10_needsRounds, cX10_needsRounds, 6, (some .boolean))
theorem k_X10_needsRounds : MOkV m_X10_needsRounds 2 := ⟨⟨by decide +kernel, mem_t4 164 rfl rfl, mem_t1 11 rfl rfl, ⟨by decide +kernel, by decide +kernel, by decide +kernel⟩, by decide⟩, mem_t4 163 rfl rfl, mem_s 57 rfl rfl⟩
def m_X10_guesses : MD := (yX10_guesses, cX10_guesses, 4, none)
theorem k_X10_guesses : MOkV m_X10_guesses 2 := ⟨⟨by decide +kernel, mem_t4 160 rfl rfl, mem_t1 11 rfl rfl, ⟨by decide +kernel, by decide +kernel, by decide +kernel⟩, by decide⟩, mem_t4 159 rfl rfl, mem_s 56 rfl rfl⟩
def m_X10_stepBy : MD := (yX10_stepBy, cX10_stepBy, 5, none)
theorem k_X10_stepBy : MOkV m_X10_stepBy 1 := ⟨⟨by decide +kernel, mem_t4 51 rfl rfl, mem_t1 11 rfl rfl, ⟨by decide +kernel, by decide +kernel, by decide +kernel⟩, by decide⟩, mem_t4 50 rfl rfl, mem_s 34 rfl rfl⟩
def m_X10_solve : MD := (yX10_solve, cX10_solve, 3, (some .int))
theorem k_X10_solve : MOkV m_X10_solve 1 := ⟨⟨by decide +kernel, mem_t5 115 rfl rfl, mem_t1 11 rfl rfl, ⟨by decide +kernel, by decide +kernel, by decide +kernel⟩, by decide⟩, mem_t5 113 rfl rfl, mem_t5 114 rfl rfl⟩
def m_X10_value : MD := (yX10_value, cX10_value, 3, (some .int))
theorem k_X10_value : MOkV m_X10_value 2 := ⟨⟨by decide +kernel, mem_t5 119 rfl rfl, mem_t1 11 rfl rfl, ⟨by decide +kernel, by decide +kernel, by decide +kernel⟩, by decide⟩, mem_t5 117 rfl rfl, mem_t5 118 rfl rfl⟩
def m_X10_slope : MD := (yX10_slope, cX10_slope, 3, (some .int))
theorem k_X10_slope : MOkV m_X10_slope 2 := ⟨⟨by decide +kernel, mem_t5 123 rfl rfl, mem_t1 11 rfl rfl, ⟨by decide +kernel, by decide +kernel, by decide +kernel⟩, by decide⟩, mem_t5 121 rfl rfl, mem_t5 122 rfl rfl⟩
def m_X10_rightAt : MD := (yX10_rightAt, cX10_rightAt, 3, (some .int))
theorem k_X10_rightAt : MOkV m_X10_rightAt 2 := ⟨⟨by decide +kernel, mem_t5 127 rfl rfl, mem_t1 11 rfl rfl, ⟨by decide +kernel, by decide +kernel, by decide +kernel⟩, by decide⟩, mem_t5 125 rfl rfl, mem_t5 126 rfl rfl⟩
def m_X10_step : MD := (yX10_step, cX10_step, 3, (some .int))
theorem k_X10_step : MOkV m_X10_step 2 := ⟨⟨by decide +kernel, mem_t5 131 rfl rfl, mem_t1 11 rfl rfl, ⟨by decide +kernel, by decide +kernel, by decide +kernel⟩, by decide⟩, mem_t5 129 rfl rfl, mem_t5 130 rfl rfl⟩
def m_X10_crossing : MD := (yX10_crossing, cX10_crossing, 5, (some .int))
theorem k_X10_crossing : MOkV m_X10_crossing 3 := ⟨⟨by decide +kernel, mem_t5 135 rfl rfl, mem_t1 11 rfl rfl, ⟨by decide +kernel, by decide +kernel, by decide +kernel⟩, by decide⟩, mem_t5 133 rfl rfl, mem_t5 134 rfl rfl⟩
def m_X10_greatest : MD := (yX10_greatest, cX10_greatest, 7, (some .int))
theorem k_X10_greatest : MOkV m_X10_greatest 4 := ⟨⟨by decide +kernel, mem_t5 141 rfl rfl, mem_t1 11 rfl rfl, ⟨by decide +kernel, by decide +kernel, by decide +kernel⟩, by decide⟩, mem_t5 139 rfl rfl, mem_t5 140 rfl rfl⟩
def m_X10_differs : MD := (yX10_differs, cX10_differs, 9, (some .int))
theorem k_X10_differs : MOkV m_X10_differs 1 := ⟨⟨by decide +kernel, mem_t5 145 rfl rfl, mem_t1 11 rfl rfl, ⟨by decide +kernel, by decide +kernel, by decide +kernel⟩, by decide⟩, mem_t5 143 rfl rfl, mem_t5 144 rfl rfl⟩
def m_X10_count : MD := (yX10_count, cX10_count, 2, (some .int))
theorem k_X10_count : MOkV m_X10_count 1 := ⟨⟨by decide +kernel, mem_t5 149 rfl rfl, mem_t1 11 rfl rfl, ⟨by decide +kernel, by decide +kernel, by decide +kernel⟩, by decide⟩, mem_t5 147 rfl rfl, mem_t5 148 rfl rfl⟩
theorem cl_L_7 : NewOk RL 7 9 6 tyX9 := ⟨RX9, TX9, cls_X9, mem_t1 14 rfl rfl, mem_t1 15 rfl rfl, mem_t1 1 rfl rfl⟩
theorem cw_L_7 : Cond.classLink RL 7 RX9 ∈ tG := mem_t1 14 rfl rfl
theorem lk_L_9 : Cond.methodLink RL 9 yX9_init ∈ tG := mem_t1 16 rfl rfl
theorem lk_X9_3 : Cond.methodLink RX9 3 ⟨"java/lang/Object", "<init>", "()V"⟩ ∈ tG := mem_t1 19 rfl rfl
theorem cl_X9_9 : NewOk RX9 9 8 6 tyX8 := ⟨RX8, TX8, cls_X8, mem_t1 22 rfl rfl, mem_t1 23 rfl rfl, mem_t1 2 rfl rfl⟩
theorem cw_X9_9 : Cond.classLink RX9 9 RX8 ∈ tG := mem_t1 22 rfl rfl
theorem lk_X9_11 : Cond.methodLinkNest RX9 11 yX8_init "LagSolver" ∈ nG := mem_n1 24 rfl rfl
theorem lk_X8_3 : Cond.methodLink RX8 3 ⟨"java/lang/Object", "<init>", "()V"⟩ ∈ tG := mem_t1 27 rfl rfl
theorem gf_X8_9 : GetOk RX8 9 8 0 := ⟨RX8, TX8, 6, tyX8, cls_X8, by decide, rfl, mem_t1 28 rfl rfl⟩
theorem pf_X8_9 : PutFOk RX8 9 8 0 (.array .int) := ⟨RX8, TX8, 6, tyX8, cls_X8, by decide, rfl, rfl, rfl, by decide +kernel, mem_t1 28 rfl rfl⟩
theorem gf_X8_18 : GetOk RX8 18 8 1 := ⟨RX8, TX8, 6, tyX8, cls_X8, by decide, rfl, mem_t1 29 rfl rfl⟩
theorem pf_X8_18 : PutOk RX8 18 8 1 (.int) := ⟨RX8, TX8, 6, tyX8, cls_X8, by decide, rfl, rfl, by decide +kernel, mem_t1 29 rfl rfl⟩
theorem gf_X9_53 : GetOkN RX9 53 8 1 := ⟨RX8, TX8, 6, tyX8, "LagSolver", cls_X8, by decide, rfl, mem_n1 30 rfl rfl⟩
theorem gf_X8_26 : GetOk RX8 26 8 2 := ⟨RX8, TX8, 6, tyX8, cls_X8, by decide, rfl, mem_t1 31 rfl rfl⟩
theorem pf_X8_26 : PutOk RX8 26 8 2 (.int) := ⟨RX8, TX8, 6, tyX8, cls_X8, by decide, rfl, rfl, by decide +kernel, mem_t1 31 rfl rfl⟩
theorem gf_X8_15 : GetOk RX8 15 8 3 := ⟨RX8, TX8, 6, tyX8, cls_X8, by decide, rfl, mem_t1 32 rfl rfl⟩
theorem pf_X8_15 : PutFOk RX8 15 8 3 (.array .int) := ⟨RX8, TX8, 6, tyX8, cls_X8, by decide, rfl, rfl, rfl, by decide +kernel, mem_t1 32 rfl rfl⟩
theorem gf_X5_34 : GetOkN RX5 34 8 3 := ⟨RX8, TX8, 6, tyX8, "LagSolver", cls_X8, by decide, rfl, mem_n1 33 rfl rfl⟩
theorem gf_X5_21 : GetOkN RX5 21 8 4 := ⟨RX8, TX8, 6, tyX8, "LagSolver", cls_X8, by decide, rfl, mem_n1 34 rfl rfl⟩
theorem gf_X8_29 : GetOk RX8 29 8 4 := ⟨RX8, TX8, 6, tyX8, cls_X8, by decide, rfl, mem_t1 35 rfl rfl⟩
theorem pf_X8_29 : PutOk RX8 29 8 4 (.int) := ⟨RX8, TX8, 6, tyX8, cls_X8, by decide, rfl, rfl, by decide +kernel, mem_t1 35 rfl rfl⟩
theorem gf_X5_31 : GetOkN RX5 31 8 5 := ⟨RX8, TX8, 6, tyX8, "LagSolver", cls_X8, by decide, rfl, mem_n1 36 rfl rfl⟩
theorem gf_X8_32 : GetOk RX8 32 8 5 := ⟨RX8, TX8, 6, tyX8, cls_X8, by decide, rfl, mem_t1 37 rfl rfl⟩
theorem pf_X8_32 : PutOk RX8 32 8 5 (.int) := ⟨RX8, TX8, 6, tyX8, cls_X8, by decide, rfl, rfl, by decide +kernel, mem_t1 37 rfl rfl⟩
theorem cl_X9_16 : NewOk RX9 16 6 6 tyX6 := ⟨RX6, TX6, cls_X6, mem_t1 52 rfl rfl, mem_t1 53 rfl rfl, mem_t1 3 rfl rfl⟩
theorem cw_X9_16 : Cond.classLink RX9 16 RX6 ∈ tG := mem_t1 52 rfl rfl
theorem lk_X9_18 : Cond.methodLinkNest RX9 18 yX6_init "LagSolver" ∈ nG := mem_n1 54 rfl rfl
theorem lk_X6_3 : Cond.methodLink RX6 3 ⟨"java/lang/Object", "<init>", "()V"⟩ ∈ tG := mem_t1 57 rfl rfl
theorem cl_X6_9 : NewOk RX6 9 5 3 tyX5 := ⟨RX5, TX5, cls_X5, mem_t1 58 rfl rfl, mem_t1 59 rfl rfl, mem_t1 4 rfl rfl⟩
theorem cw_X6_9 : Cond.classLink RX6 9 RX5 ∈ tG := mem_t1 58 rfl rfl
theorem lk_X6_11 : Cond.methodLinkNest RX6 11 yX5_init "LagSolver" ∈ nG := mem_n1 60 rfl rfl
theorem lk_X5_3 : Cond.methodLink RX5 3 ⟨"java/lang/Object", "<init>", "()V"⟩ ∈ tG := mem_t1 63 rfl rfl
theorem gf_X5_9 : GetOk RX5 9 5 0 := ⟨RX5, TX5, 3, tyX5, cls_X5, by decide, rfl, mem_t1 64 rfl rfl⟩
theorem pf_X5_9 : PutFOk RX5 9 5 0 (.array .int) := ⟨RX5, TX5, 3, tyX5, cls_X5, by decide, rfl, rfl, rfl, by decide +kernel, mem_t1 64 rfl rfl⟩
theorem gf_X5_15 : GetOk RX5 15 5 1 := ⟨RX5, TX5, 3, tyX5, cls_X5, by decide, rfl, mem_t1 65 rfl rfl⟩
theorem pf_X5_15 : PutFOk RX5 15 5 1 (.array .int) := ⟨RX5, TX5, 3, tyX5, cls_X5, by decide, rfl, rfl, rfl, by decide +kernel, mem_t1 65 rfl rfl⟩
theorem gf_X5_18 : GetOk RX5 18 5 2 := ⟨RX5, TX5, 3, tyX5, cls_X5, by decide, rfl, mem_t1 66 rfl rfl⟩
theorem pf_X5_18 : PutFOk RX5 18 5 2 (.array .int) := ⟨RX5, TX5, 3, tyX5, cls_X5, by decide, rfl, rfl, rfl, by decide +kernel, mem_t1 66 rfl rfl⟩
theorem gf_X9_87 : GetOkN RX9 87 5 2 := ⟨RX5, TX5, 3, tyX5, "LagSolver", cls_X5, by decide, rfl, mem_n1 67 rfl rfl⟩
theorem cl_X6_18 : NewOk RX6 18 3 2 tyX3 := ⟨RX3, TX3, cls_X3, mem_t1 75 rfl rfl, mem_t1 76 rfl rfl, mem_t1 5 rfl rfl⟩
theorem cw_X6_18 : Cond.classLink RX6 18 RX3 ∈ tG := mem_t1 75 rfl rfl
theorem lk_X6_20 : Cond.methodLinkNest RX6 20 yX3_init "LagSolver" ∈ nG := mem_n1 77 rfl rfl
theorem lk_X3_3 : Cond.methodLink RX3 3 ⟨"java/lang/Object", "<init>", "()V"⟩ ∈ tG := mem_t1 80 rfl rfl
theorem gf_X3_9 : GetOk RX3 9 3 0 := ⟨RX3, TX3, 2, tyX3, cls_X3, by decide, rfl, mem_t1 81 rfl rfl⟩
theorem pf_X3_9 : PutFOk RX3 9 3 0 (.array .int) := ⟨RX3, TX3, 2, tyX3, cls_X3, by decide, rfl, rfl, rfl, by decide +kernel, mem_t1 81 rfl rfl⟩
theorem gf_X9_106 : GetOkN RX9 106 3 0 := ⟨RX3, TX3, 2, tyX3, "LagSolver", cls_X3, by decide, rfl, mem_n1 82 rfl rfl⟩
theorem gf_X3_15 : GetOk RX3 15 3 1 := ⟨RX3, TX3, 2, tyX3, cls_X3, by decide, rfl, mem_t1 83 rfl rfl⟩
theorem pf_X3_15 : PutFOk RX3 15 3 1 (.array .int) := ⟨RX3, TX3, 2, tyX3, cls_X3, by decide, rfl, rfl, rfl, by decide +kernel, mem_t1 83 rfl rfl⟩
theorem gf_X9_115 : GetOkN RX9 115 3 1 := ⟨RX3, TX3, 2, tyX3, "LagSolver", cls_X3, by decide, rfl, mem_n1 84 rfl rfl⟩
theorem cl_X6_25 : NewOk RX6 25 1 3 tyX1 := ⟨RX1, TX1, cls_X1, mem_t1 90 rfl rfl, mem_t1 91 rfl rfl, mem_t1 6 rfl rfl⟩
theorem cw_X6_25 : Cond.classLink RX6 25 RX1 ∈ tG := mem_t1 90 rfl rfl
theorem lk_X6_27 : Cond.methodLinkNest RX6 27 yX1_init "LagSolver" ∈ nG := mem_n1 92 rfl rfl
theorem lk_X1_3 : Cond.methodLink RX1 3 ⟨"java/lang/Object", "<init>", "()V"⟩ ∈ tG := mem_t1 95 rfl rfl
theorem gf_X1_9 : GetOk RX1 9 1 0 := ⟨RX1, TX1, 3, tyX1, cls_X1, by decide, rfl, mem_t1 96 rfl rfl⟩
theorem pf_X1_9 : PutFOk RX1 9 1 0 (.array .int) := ⟨RX1, TX1, 3, tyX1, cls_X1, by decide, rfl, rfl, rfl, by decide +kernel, mem_t1 96 rfl rfl⟩
theorem gf_X9_130 : GetOkN RX9 130 1 0 := ⟨RX1, TX1, 3, tyX1, "LagSolver", cls_X1, by decide, rfl, mem_n1 97 rfl rfl⟩
theorem gf_X1_15 : GetOk RX1 15 1 1 := ⟨RX1, TX1, 3, tyX1, cls_X1, by decide, rfl, mem_t1 98 rfl rfl⟩
theorem pf_X1_15 : PutFOk RX1 15 1 1 (.array .int) := ⟨RX1, TX1, 3, tyX1, cls_X1, by decide, rfl, rfl, rfl, by decide +kernel, mem_t1 98 rfl rfl⟩
theorem gf_X1_18 : GetOk RX1 18 1 2 := ⟨RX1, TX1, 3, tyX1, cls_X1, by decide, rfl, mem_t1 99 rfl rfl⟩
theorem pf_X1_18 : PutFOk RX1 18 1 2 (.array .int) := ⟨RX1, TX1, 3, tyX1, cls_X1, by decide, rfl, rfl, rfl, by decide +kernel, mem_t1 99 rfl rfl⟩
theorem cl_X6_36 : NewOk RX6 36 0 4 tyX0 := ⟨RX0, TX0, cls_X0, mem_t1 107 rfl rfl, mem_t1 108 rfl rfl, mem_t1 7 rfl rfl⟩
theorem cw_X6_36 : Cond.classLink RX6 36 RX0 ∈ tG := mem_t1 107 rfl rfl
theorem lk_X6_38 : Cond.methodLinkNest RX6 38 yX0_init "LagSolver" ∈ nG := mem_n1 109 rfl rfl
theorem lk_X0_3 : Cond.methodLink RX0 3 ⟨"java/lang/Object", "<init>", "()V"⟩ ∈ tG := mem_t1 112 rfl rfl
theorem gf_X0_9 : GetOk RX0 9 0 0 := ⟨RX0, TX0, 4, tyX0, cls_X0, by decide, rfl, mem_t1 113 rfl rfl⟩
theorem pf_X0_9 : PutFOk RX0 9 0 0 (.array .int) := ⟨RX0, TX0, 4, tyX0, cls_X0, by decide, rfl, rfl, rfl, by decide +kernel, mem_t1 113 rfl rfl⟩
theorem gf_X9_159 : GetOkN RX9 159 0 0 := ⟨RX0, TX0, 4, tyX0, "LagSolver", cls_X0, by decide, rfl, mem_n1 114 rfl rfl⟩
theorem gf_X0_15 : GetOk RX0 15 0 1 := ⟨RX0, TX0, 4, tyX0, cls_X0, by decide, rfl, mem_t1 115 rfl rfl⟩
theorem pf_X0_15 : PutFOk RX0 15 0 1 (.array .int) := ⟨RX0, TX0, 4, tyX0, cls_X0, by decide, rfl, rfl, rfl, by decide +kernel, mem_t1 115 rfl rfl⟩
theorem gf_X9_162 : GetOkN RX9 162 0 1 := ⟨RX0, TX0, 4, tyX0, "LagSolver", cls_X0, by decide, rfl, mem_n1 116 rfl rfl⟩
theorem gf_X0_18 : GetOk RX0 18 0 2 := ⟨RX0, TX0, 4, tyX0, cls_X0, by decide, rfl, mem_t1 117 rfl rfl⟩
theorem pf_X0_18 : PutFOk RX0 18 0 2 (.array .int) := ⟨RX0, TX0, 4, tyX0, cls_X0, by decide, rfl, rfl, rfl, by decide +kernel, mem_t1 117 rfl rfl⟩
theorem gf_X9_165 : GetOkN RX9 165 0 2 := ⟨RX0, TX0, 4, tyX0, "LagSolver", cls_X0, by decide, rfl, mem_n1 118 rfl rfl⟩
theorem gf_X0_21 : GetOk RX0 21 0 3 := ⟨RX0, TX0, 4, tyX0, cls_X0, by decide, rfl, mem_t1 119 rfl rfl⟩
theorem pf_X0_21 : PutOk RX0 21 0 3 (.int) := ⟨RX0, TX0, 4, tyX0, cls_X0, by decide, rfl, rfl, by decide +kernel, mem_t1 119 rfl rfl⟩
theorem gf_X9_154 : GetOkN RX9 154 0 3 := ⟨RX0, TX0, 4, tyX0, "LagSolver", cls_X0, by decide, rfl, mem_n1 120 rfl rfl⟩
theorem cl_X6_43 : NewOk RX6 43 4 2 tyX4 := ⟨RX4, TX4, cls_X4, mem_t1 130 rfl rfl, mem_t1 131 rfl rfl, mem_t1 8 rfl rfl⟩
theorem cw_X6_43 : Cond.classLink RX6 43 RX4 ∈ tG := mem_t1 130 rfl rfl
theorem lk_X6_45 : Cond.methodLinkNest RX6 45 yX4_init "LagSolver" ∈ nG := mem_n1 132 rfl rfl
theorem lk_X4_5 : Cond.methodLink RX4 5 ⟨"java/lang/Object", "<init>", "()V"⟩ ∈ tG := mem_t1 135 rfl rfl
theorem gf_X4_11 : GetOk RX4 11 4 0 := ⟨RX4, TX4, 2, tyX4, cls_X4, by decide, rfl, mem_t1 136 rfl rfl⟩
theorem pf_X4_11 : PutFOk RX4 11 4 0 (.array .int) := ⟨RX4, TX4, 2, tyX4, cls_X4, by decide, rfl, rfl, rfl, by decide +kernel, mem_t1 136 rfl rfl⟩
theorem gf_X4_15 : GetOk RX4 15 4 1 := ⟨RX4, TX4, 2, tyX4, cls_X4, by decide, rfl, mem_t1 137 rfl rfl⟩
theorem pf_X4_15 : PutOk RX4 15 4 1 (.int) := ⟨RX4, TX4, 2, tyX4, cls_X4, by decide, rfl, rfl, by decide +kernel, mem_t1 137 rfl rfl⟩
theorem gf_X9_195 : GetOkN RX9 195 4 1 := ⟨RX4, TX4, 2, tyX4, "LagSolver", cls_X4, by decide, rfl, mem_n1 138 rfl rfl⟩
theorem gf_X6_12 : GetOk RX6 12 6 0 := ⟨RX6, TX6, 6, tyX6, cls_X6, by decide, rfl, mem_t1 144 rfl rfl⟩
theorem pf_X6_12 : PutFOk RX6 12 6 0 (.object "LagSolver$Rights") := ⟨RX6, TX6, 6, tyX6, cls_X6, by decide, rfl, rfl, rfl, by decide +kernel, mem_t1 144 rfl rfl⟩
theorem gf_X7_99 : GetOkN RX7 99 6 0 := ⟨RX6, TX6, 6, tyX6, "LagSolver", cls_X6, by decide, rfl, mem_n1 145 rfl rfl⟩
theorem gf_X9_74 : GetOkN RX9 74 6 0 := ⟨RX6, TX6, 6, tyX6, "LagSolver", cls_X6, by decide, rfl, mem_n1 146 rfl rfl⟩
theorem gf_X6_21 : GetOk RX6 21 6 1 := ⟨RX6, TX6, 6, tyX6, cls_X6, by decide, rfl, mem_t1 147 rfl rfl⟩
theorem pf_X6_21 : PutFOk RX6 21 6 1 (.object "LagSolver$Lags") := ⟨RX6, TX6, 6, tyX6, cls_X6, by decide, rfl, rfl, rfl, by decide +kernel, mem_t1 147 rfl rfl⟩
theorem gf_X7_108 : GetOkN RX7 108 6 1 := ⟨RX6, TX6, 6, tyX6, "LagSolver", cls_X6, by decide, rfl, mem_n1 148 rfl rfl⟩
theorem gf_X9_102 : GetOkN RX9 102 6 1 := ⟨RX6, TX6, 6, tyX6, "LagSolver", cls_X6, by decide, rfl, mem_n1 149 rfl rfl⟩
theorem gf_X6_28 : GetOk RX6 28 6 2 := ⟨RX6, TX6, 6, tyX6, cls_X6, by decide, rfl, mem_t1 150 rfl rfl⟩
theorem pf_X6_28 : PutFOk RX6 28 6 2 (.object "LagSolver$Histories") := ⟨RX6, TX6, 6, tyX6, cls_X6, by decide, rfl, rfl, rfl, by decide +kernel, mem_t1 150 rfl rfl⟩
theorem gf_X9_120 : GetOkN RX9 120 6 2 := ⟨RX6, TX6, 6, tyX6, "LagSolver", cls_X6, by decide, rfl, mem_n1 151 rfl rfl⟩
theorem gf_X6_32 : GetOk RX6 32 6 3 := ⟨RX6, TX6, 6, tyX6, cls_X6, by decide, rfl, mem_t1 152 rfl rfl⟩
theorem pf_X6_32 : PutFOk RX6 32 6 3 (.array .int) := ⟨RX6, TX6, 6, tyX6, cls_X6, by decide, rfl, rfl, rfl, by decide +kernel, mem_t1 152 rfl rfl⟩
theorem gf_X7_58 : GetOkN RX7 58 6 3 := ⟨RX6, TX6, 6, tyX6, "LagSolver", cls_X6, by decide, rfl, mem_n1 153 rfl rfl⟩
theorem gf_X9_143 : GetOkN RX9 143 6 3 := ⟨RX6, TX6, 6, tyX6, "LagSolver", cls_X6, by decide, rfl, mem_n1 154 rfl rfl⟩
theorem gf_X6_39 : GetOk RX6 39 6 4 := ⟨RX6, TX6, 6, tyX6, cls_X6, by decide, rfl, mem_t1 155 rfl rfl⟩
theorem pf_X6_39 : PutFOk RX6 39 6 4 (.object "LagSolver$Breaks") := ⟨RX6, TX6, 6, tyX6, cls_X6, by decide, rfl, rfl, rfl, by decide +kernel, mem_t1 155 rfl rfl⟩
theorem gf_X7_42 : GetOkN RX7 42 6 4 := ⟨RX6, TX6, 6, tyX6, "LagSolver", cls_X6, by decide, rfl, mem_n1 156 rfl rfl⟩
theorem gf_X9_150 : GetOkN RX9 150 6 4 := ⟨RX6, TX6, 6, tyX6, "LagSolver", cls_X6, by decide, rfl, mem_n1 157 rfl rfl⟩
theorem gf_X6_46 : GetOk RX6 46 6 5 := ⟨RX6, TX6, 6, tyX6, cls_X6, by decide, rfl, mem_t1 158 rfl rfl⟩
theorem pf_X6_46 : PutFOk RX6 46 6 5 (.object "LagSolver$Path") := ⟨RX6, TX6, 6, tyX6, cls_X6, by decide, rfl, rfl, rfl, by decide +kernel, mem_t1 158 rfl rfl⟩
theorem gf_X7_30 : GetOkN RX7 30 6 5 := ⟨RX6, TX6, 6, tyX6, "LagSolver", cls_X6, by decide, rfl, mem_n1 159 rfl rfl⟩
theorem gf_X9_168 : GetOkN RX9 168 6 5 := ⟨RX6, TX6, 6, tyX6, "LagSolver", cls_X6, by decide, rfl, mem_n1 160 rfl rfl⟩
theorem cl_X9_26 : NewOk RX9 26 2 2 tyX2 := ⟨RX2, TX2, cls_X2, mem_t1 174 rfl rfl, mem_t1 175 rfl rfl, mem_t1 9 rfl rfl⟩
theorem cw_X9_26 : Cond.classLink RX9 26 RX2 ∈ tG := mem_t1 174 rfl rfl
theorem lk_X9_28 : Cond.methodLinkNest RX9 28 yX2_init "LagSolver" ∈ nG := mem_n1 176 rfl rfl
theorem lk_X2_3 : Cond.methodLink RX2 3 ⟨"java/lang/Object", "<init>", "()V"⟩ ∈ tG := mem_t1 179 rfl rfl
theorem cl_X2_9 : NewOk RX2 9 6 6 tyX6 := ⟨RX6, TX6, cls_X6, mem_t1 180 rfl rfl, mem_t1 53 rfl rfl, mem_t1 3 rfl rfl⟩
theorem cw_X2_9 : Cond.classLink RX2 9 RX6 ∈ tG := mem_t1 180 rfl rfl
theorem gf_X2_11 : GetOk RX2 11 2 0 := ⟨RX2, TX2, 2, tyX2, cls_X2, by decide, rfl, mem_t1 182 rfl rfl⟩
theorem pf_X2_11 : PutFOk RX2 11 2 0 (.array (.object "LagSolver$State")) := ⟨RX2, TX2, 2, tyX2, cls_X2, by decide, rfl, rfl, rfl, by decide +kernel, mem_t1 182 rfl rfl⟩
theorem gf_X2_17 : GetOk RX2 17 2 1 := ⟨RX2, TX2, 2, tyX2, cls_X2, by decide, rfl, mem_t1 183 rfl rfl⟩
theorem pf_X2_17 : PutOk RX2 17 2 1 (.int) := ⟨RX2, TX2, 2, tyX2, cls_X2, by decide, rfl, rfl, by decide +kernel, mem_t1 183 rfl rfl⟩
theorem gf_X9_233 : GetOkN RX9 233 2 1 := ⟨RX2, TX2, 2, tyX2, "LagSolver", cls_X2, by decide, rfl, mem_n1 184 rfl rfl⟩
theorem cl_X9_37 : NewOk RX9 37 7 6 tyX7 := ⟨RX7, TX7, cls_X7, mem_t1 190 rfl rfl, mem_t1 191 rfl rfl, mem_t1 10 rfl rfl⟩
theorem cw_X9_37 : Cond.classLink RX9 37 RX7 ∈ tG := mem_t1 190 rfl rfl
theorem lk_X9_39 : Cond.methodLinkNest RX9 39 yX7_init "LagSolver" ∈ nG := mem_n1 192 rfl rfl
theorem lk_X7_3 : Cond.methodLink RX7 3 ⟨"java/lang/Object", "<init>", "()V"⟩ ∈ tG := mem_t1 195 rfl rfl
theorem gf_X7_9 : GetOk RX7 9 7 0 := ⟨RX7, TX7, 6, tyX7, cls_X7, by decide, rfl, mem_t1 196 rfl rfl⟩
theorem pf_X7_9 : PutFOk RX7 9 7 0 (.array .int) := ⟨RX7, TX7, 6, tyX7, cls_X7, by decide, rfl, rfl, rfl, by decide +kernel, mem_t1 196 rfl rfl⟩
theorem gf_X7_15 : GetOk RX7 15 7 1 := ⟨RX7, TX7, 6, tyX7, cls_X7, by decide, rfl, mem_t1 197 rfl rfl⟩
theorem pf_X7_15 : PutFOk RX7 15 7 1 (.array .int) := ⟨RX7, TX7, 6, tyX7, cls_X7, by decide, rfl, rfl, rfl, by decide +kernel, mem_t1 197 rfl rfl⟩
theorem gf_X7_18 : GetOk RX7 18 7 2 := ⟨RX7, TX7, 6, tyX7, cls_X7, by decide, rfl, mem_t1 198 rfl rfl⟩
theorem pf_X7_18 : PutFOk RX7 18 7 2 (.array .int) := ⟨RX7, TX7, 6, tyX7, cls_X7, by decide, rfl, rfl, rfl, by decide +kernel, mem_t1 198 rfl rfl⟩
theorem gf_X7_21 : GetOk RX7 21 7 3 := ⟨RX7, TX7, 6, tyX7, cls_X7, by decide, rfl, mem_t1 199 rfl rfl⟩
theorem pf_X7_21 : PutFOk RX7 21 7 3 (.array .int) := ⟨RX7, TX7, 6, tyX7, cls_X7, by decide, rfl, rfl, rfl, by decide +kernel, mem_t1 199 rfl rfl⟩
theorem gf_X7_24 : GetOk RX7 24 7 4 := ⟨RX7, TX7, 6, tyX7, cls_X7, by decide, rfl, mem_t1 200 rfl rfl⟩
theorem pf_X7_24 : PutFOk RX7 24 7 4 (.array .int) := ⟨RX7, TX7, 6, tyX7, cls_X7, by decide, rfl, rfl, rfl, by decide +kernel, mem_t1 200 rfl rfl⟩
theorem gf_X7_27 : GetOk RX7 27 7 5 := ⟨RX7, TX7, 6, tyX7, cls_X7, by decide, rfl, mem_t1 201 rfl rfl⟩
theorem pf_X7_27 : PutFOk RX7 27 7 5 (.array .int) := ⟨RX7, TX7, 6, tyX7, cls_X7, by decide, rfl, rfl, rfl, by decide +kernel, mem_t1 201 rfl rfl⟩
theorem gf_X9_12 : GetOk RX9 12 9 0 := ⟨RX9, TX9, 6, tyX9, cls_X9, by decide, rfl, mem_t1 215 rfl rfl⟩
theorem pf_X9_12 : PutFOk RX9 12 9 0 (.object "LagSolver$Text") := ⟨RX9, TX9, 6, tyX9, cls_X9, by decide, rfl, rfl, rfl, by decide +kernel, mem_t1 215 rfl rfl⟩
theorem gf_X9_19 : GetOk RX9 19 9 1 := ⟨RX9, TX9, 6, tyX9, cls_X9, by decide, rfl, mem_t1 216 rfl rfl⟩
theorem pf_X9_19 : PutFOk RX9 19 9 1 (.object "LagSolver$State") := ⟨RX9, TX9, 6, tyX9, cls_X9, by decide, rfl, rfl, rfl, by decide +kernel, mem_t1 216 rfl rfl⟩
theorem gf_X9_23 : GetOk RX9 23 9 2 := ⟨RX9, TX9, 6, tyX9, cls_X9, by decide, rfl, mem_t1 217 rfl rfl⟩
theorem pf_X9_23 : PutFOk RX9 23 9 2 (.object "LagSolver$State") := ⟨RX9, TX9, 6, tyX9, cls_X9, by decide, rfl, rfl, rfl, by decide +kernel, mem_t1 217 rfl rfl⟩
theorem gf_X9_29 : GetOk RX9 29 9 3 := ⟨RX9, TX9, 6, tyX9, cls_X9, by decide, rfl, mem_t1 218 rfl rfl⟩
theorem pf_X9_29 : PutFOk RX9 29 9 3 (.object "LagSolver$Kept") := ⟨RX9, TX9, 6, tyX9, cls_X9, by decide, rfl, rfl, rfl, by decide +kernel, mem_t1 218 rfl rfl⟩
theorem gf_X9_33 : GetOk RX9 33 9 4 := ⟨RX9, TX9, 6, tyX9, cls_X9, by decide, rfl, mem_t1 219 rfl rfl⟩
theorem pf_X9_33 : PutFOk RX9 33 9 4 (.array (.object "LagSolver$State")) := ⟨RX9, TX9, 6, tyX9, cls_X9, by decide, rfl, rfl, rfl, by decide +kernel, mem_t1 219 rfl rfl⟩
theorem gf_X9_40 : GetOk RX9 40 9 5 := ⟨RX9, TX9, 6, tyX9, cls_X9, by decide, rfl, mem_t1 220 rfl rfl⟩
theorem pf_X9_40 : PutFOk RX9 40 9 5 (.object "LagSolver$Stepper") := ⟨RX9, TX9, 6, tyX9, cls_X9, by decide, rfl, rfl, rfl, by decide +kernel, mem_t1 220 rfl rfl⟩
theorem lk_L_13 : Cond.methodLink RL 13 yX9_type ∈ tG := mem_t1 234 rfl rfl
theorem lk_X9_44 : Cond.methodLink RX9 44 yX9_isWithin ∈ tG := mem_t1 238 rfl rfl
theorem kc_X9_48 : Cond.constant RX9 48 (-2000000001) ∈ tG := mem_t2 1 rfl rfl
theorem lk_X9_49 : Cond.methodLink RX9 49 yX8_append ∈ tG := mem_t2 2 rfl rfl
theorem lk_X8_22 : Cond.methodLinkNest RX8 22 yX9_put "LagSolver" ∈ nG := mem_n2 6 rfl rfl
theorem kc_X9_57 : Cond.constant RX9 57 (-2000000003) ∈ tG := mem_t2 9 rfl rfl
theorem lk_L_18 : Cond.methodLink RL 18 yX9_wipe ∈ tG := mem_t2 10 rfl rfl
theorem lk_X9_58 : Cond.methodLink RX9 58 yX8_empty ∈ tG := mem_t2 14 rfl rfl
theorem lk_L_23 : Cond.methodLink RL 23 yX9_fault ∈ tG := mem_t2 18 rfl rfl
theorem lk_X9_61 : Cond.methodLink RX9 61 yX8_read ∈ tG := mem_t2 22 rfl rfl
theorem lk_X8_35 : Cond.methodLink RX8 35 yX8_readSum ∈ tG := mem_t2 26 rfl rfl
theorem lk_X8_39 : Cond.methodLink RX8 39 yX8_readTerm ∈ tG := mem_t2 30 rfl rfl
theorem lk_X8_50 : Cond.methodLink RX8 50 yX8_readUnit ∈ tG := mem_t2 34 rfl rfl
theorem lk_X8_53 : Cond.methodLink RX8 53 yX8_accept ∈ tG := mem_t2 38 rfl rfl
theorem lk_X8_42 : Cond.methodLink RX8 42 yX8_sign ∈ tG := mem_t2 42 rfl rfl
theorem lk_X8_93 : Cond.methodLinkNest RX8 93 yX9_pick "LagSolver" ∈ nG := mem_n2 46 rfl rfl
theorem lk_X8_56 : Cond.methodLink RX8 56 yX8_readBareUnit ∈ tG := mem_t2 49 rfl rfl
theorem lk_X8_59 : Cond.methodLink RX8 59 yX8_isDigit ∈ tG := mem_t2 53 rfl rfl
theorem lk_X8_66 : Cond.methodLinkNest RX8 66 yX9_isWithin "LagSolver" ∈ nG := mem_n2 56 rfl rfl
theorem lk_X8_62 : Cond.methodLink RX8 62 yX8_readNumber ∈ tG := mem_t2 57 rfl rfl
theorem lk_X8_46 : Cond.methodLink RX8 46 yX8_emit ∈ tG := mem_t2 61 rfl rfl
theorem lk_X8_70 : Cond.methodLink RX8 70 yX8_readName ∈ tG := mem_t2 65 rfl rfl
theorem lk_X8_73 : Cond.methodLink RX8 73 yX8_emitOperand ∈ tG := mem_t2 69 rfl rfl
theorem lk_X8_83 : Cond.methodLinkNest RX8 83 yX9_isDelay "LagSolver" ∈ nG := mem_n2 73 rfl rfl
theorem lk_X8_86 : Cond.methodLinkNest RX8 86 yX9_slopeOperand "LagSolver" ∈ nG := mem_n2 76 rfl rfl
theorem lk_X8_90 : Cond.methodLinkNest RX8 90 yX9_pastOperand "LagSolver" ∈ nG := mem_n2 79 rfl rfl
theorem lk_X8_77 : Cond.methodLink RX8 77 yX8_readLeastOrMost ∈ tG := mem_t2 82 rfl rfl
theorem lk_X8_80 : Cond.methodLink RX8 80 yX8_readOpen ∈ tG := mem_t2 86 rfl rfl
theorem kc_X9_65 : Cond.constant RX9 65 (-2000000004) ∈ tG := mem_t2 90 rfl rfl
theorem lk_L_27 : Cond.methodLink RL 27 yX9_right ∈ tG := mem_t2 91 rfl rfl
theorem lk_X9_66 : Cond.methodLink RX9 66 yX9_isVariable ∈ tG := mem_t2 95 rfl rfl
theorem kc_X9_69 : Cond.constant RX9 69 (-2000000002) ∈ tG := mem_t2 98 rfl rfl
theorem lk_X9_70 : Cond.methodLink RX9 70 yX2_record ∈ tG := mem_t2 99 rfl rfl
theorem lk_X2_21 : Cond.methodLink RX2 21 yX2_dropOldest ∈ tG := mem_t2 103 rfl rfl
theorem lk_X2_24 : Cond.methodLinkNest RX2 24 yX6_init "LagSolver" ∈ nG := mem_n2 107 rfl rfl
theorem lk_X2_25 : Cond.methodLink RX2 25 yX6_copyFrom ∈ tG := mem_t2 108 rfl rfl
theorem lk_X6_97 : Cond.methodLink RX6 97 yX6_copyProblem ∈ tG := mem_t2 112 rfl rfl
theorem lk_X6_84 : Cond.methodLink RX6 84 yX5_copyFrom ∈ tG := mem_t2 116 rfl rfl
theorem lk_X5_66 : Cond.methodLinkNest RX5 66 yX9_copyRow "LagSolver" ∈ nG := mem_n2 120 rfl rfl
theorem lk_X9_248 : Cond.methodLink RX9 248 ⟨"java/lang/Math", "min", "(II)I"⟩ ∈ tG := mem_t2 123 rfl rfl
theorem lk_X9_251 : Cond.methodLink RX9 251 ⟨"java/lang/System", "arraycopy", "(Ljava/lang/Object;ILjava/lang/Object;II)V"⟩ ∈ tG := mem_t2 126 rfl rfl
theorem lk_X6_88 : Cond.methodLink RX6 88 yX3_copyFrom ∈ tG := mem_t2 129 rfl rfl
theorem lk_X3_31 : Cond.methodLinkNest RX3 31 yX9_copyRow "LagSolver" ∈ nG := mem_n2 133 rfl rfl
theorem lk_X6_91 : Cond.methodLink RX6 91 yX1_copyFrom ∈ tG := mem_t2 134 rfl rfl
theorem lk_X1_47 : Cond.methodLinkNest RX1 47 yX9_copyRow "LagSolver" ∈ nG := mem_n2 138 rfl rfl
theorem lk_X6_93 : Cond.methodLinkNest RX6 93 yX9_copyRow "LagSolver" ∈ nG := mem_n2 139 rfl rfl
theorem lk_X6_101 : Cond.methodLink RX6 101 yX0_copyFrom ∈ tG := mem_t2 140 rfl rfl
theorem lk_X0_63 : Cond.methodLinkNest RX0 63 yX9_copyRow "LagSolver" ∈ nG := mem_n2 144 rfl rfl
theorem lk_X6_104 : Cond.methodLink RX6 104 yX4_copyFrom ∈ tG := mem_t2 145 rfl rfl
theorem lk_X4_53 : Cond.methodLinkNest RX4 53 yX9_copyRow "LagSolver" ∈ nG := mem_n2 149 rfl rfl
theorem lk_X9_78 : Cond.methodLink RX9 78 yX5_take ∈ tG := mem_t2 150 rfl rfl
theorem lk_X5_27 : Cond.methodLinkNest RX5 27 yX9_put "LagSolver" ∈ nG := mem_n2 154 rfl rfl
theorem lk_X5_37 : Cond.methodLinkNest RX5 37 yX9_pick "LagSolver" ∈ nG := mem_n2 155 rfl rfl
theorem lk_X9_84 : Cond.methodLink RX9 84 yX6_restart ∈ tG := mem_t2 156 rfl rfl
theorem lk_X6_50 : Cond.methodLink RX6 50 yX5_allOperands ∈ tG := mem_t2 160 rfl rfl
theorem lk_X6_54 : Cond.methodLinkNest RX6 54 yX9_delaysIn "LagSolver" ∈ nG := mem_n2 164 rfl rfl
theorem lk_X9_263 : Cond.methodLink RX9 263 yX9_needsDelay ∈ tG := mem_t2 167 rfl rfl
theorem lk_X9_257 : Cond.methodLink RX9 257 yX9_pastOperand ∈ tG := mem_t2 170 rfl rfl
theorem lk_X9_260 : Cond.methodLink RX9 260 yX9_slopeOperand ∈ tG := mem_t2 171 rfl rfl
theorem lk_X6_58 : Cond.methodLinkNest RX6 58 yX9_pick "LagSolver" ∈ nG := mem_n2 172 rfl rfl
theorem lk_X6_62 : Cond.methodLink RX6 62 yX0_find ∈ tG := mem_t2 173 rfl rfl
theorem lk_X0_25 : Cond.methodLink RX0 25 yX0_addNext ∈ tG := mem_t2 177 rfl rfl
theorem lk_X0_29 : Cond.methodLinkNest RX0 29 yX9_pick "LagSolver" ∈ nG := mem_n2 181 rfl rfl
theorem lk_X0_33 : Cond.methodLinkNest RX0 33 yX9_hasBit "LagSolver" ∈ nG := mem_n2 182 rfl rfl
theorem lk_X0_37 : Cond.methodLink RX0 37 yX3_reach ∈ tG := mem_t2 185 rfl rfl
theorem lk_X3_28 : Cond.methodLink RX3 28 yX3_lagAt ∈ tG := mem_t2 189 rfl rfl
theorem lk_X3_18 : Cond.methodLinkNest RX3 18 yX9_pick "LagSolver" ∈ nG := mem_n2 193 rfl rfl
theorem lk_X3_22 : Cond.methodLink RX3 22 ⟨"java/lang/Math", "max", "(II)I"⟩ ∈ tG := mem_t2 194 rfl rfl
theorem lk_X0_43 : Cond.methodLink RX0 43 yX0_add ∈ tG := mem_t2 197 rfl rfl
theorem lk_X0_47 : Cond.methodLink RX0 47 yX0_pointsBefore ∈ tG := mem_t2 201 rfl rfl
theorem lk_X0_51 : Cond.methodLink RX0 51 ⟨"java/lang/Math", "min", "(II)I"⟩ ∈ tG := mem_t2 205 rfl rfl
theorem lk_X0_56 : Cond.methodLinkNest RX0 56 yX9_put "LagSolver" ∈ nG := mem_n2 206 rfl rfl
theorem lk_X0_60 : Cond.methodLinkNest RX0 60 yX9_makeRoom "LagSolver" ∈ nG := mem_n2 207 rfl rfl
theorem lk_X9_91 : Cond.methodLink RX9 91 yX9_pick ∈ tG := mem_t2 210 rfl rfl
theorem lk_X9_111 : Cond.methodLink RX9 111 yX9_put ∈ tG := mem_t2 211 rfl rfl
theorem lk_X6_66 : Cond.methodLink RX6 66 yX4_restart ∈ tG := mem_t2 212 rfl rfl
theorem lk_X4_19 : Cond.methodLink RX4 19 yX1_valueAt ∈ tG := mem_t2 216 rfl rfl
theorem lk_X1_25 : Cond.methodLinkNest RX1 25 yX9_pick "LagSolver" ∈ nG := mem_n2 220 rfl rfl
theorem lk_X1_21 : Cond.methodLink RX1 21 yX1_pointsUpTo ∈ tG := mem_t2 221 rfl rfl
theorem lk_X1_42 : Cond.methodLink RX1 42 ⟨"java/lang/Math", "min", "(II)I"⟩ ∈ tG := mem_t2 225 rfl rfl
theorem lk_X1_36 : Cond.methodLinkNest RX1 36 yX9_quotient "LagSolver" ∈ nG := mem_n2 226 rfl rfl
theorem lk_X4_25 : Cond.methodLinkNest RX4 25 yX9_put "LagSolver" ∈ nG := mem_n2 229 rfl rfl
theorem lk_X9_95 : Cond.methodLink RX9 95 yX9_delaysIn ∈ tG := mem_t2 230 rfl rfl
theorem lk_L_31 : Cond.methodLink RL 31 yX9_delay ∈ tG := mem_t2 231 rfl rfl
theorem lk_X9_99 : Cond.methodLink RX9 99 yX9_isDelay ∈ tG := mem_t2 235 rfl rfl
theorem lk_L_36 : Cond.methodLink RL 36 yX9_point ∈ tG := mem_t2 236 rfl rfl
theorem kc_X9_118 : Cond.constant RX9 118 (-1000000) ∈ tG := mem_t3 0 rfl rfl
theorem kc_X9_119 : Cond.constant RX9 119 (1000000) ∈ tG := mem_t3 1 rfl rfl
theorem lk_X9_124 : Cond.methodLink RX9 124 yX1_hasPointAt ∈ tG := mem_t3 2 rfl rfl
theorem lk_X9_133 : Cond.methodLink RX9 133 yX1_add ∈ tG := mem_t3 6 rfl rfl
theorem lk_X1_29 : Cond.methodLinkNest RX1 29 yX9_makeRoom "LagSolver" ∈ nG := mem_n3 10 rfl rfl
theorem lk_X1_33 : Cond.methodLinkNest RX1 33 yX9_put "LagSolver" ∈ nG := mem_n3 11 rfl rfl
theorem lk_L_40 : Cond.methodLink RL 40 yX9_clear ∈ tG := mem_t3 12 rfl rfl
theorem lk_L_44 : Cond.methodLink RL 44 yX9_set ∈ tG := mem_t3 16 rfl rfl
theorem sl_X9_137 : Cond.fieldLink RX9 137 "LagSolver" "SETTING_LEAST" "[I" ∈ tG := mem_t3 20 rfl rfl
theorem sl_X9_140 : Cond.fieldLink RX9 140 "LagSolver" "SETTING_MOST" "[I" ∈ tG := mem_t3 22 rfl rfl
theorem lk_L_49 : Cond.methodLink RL 49 yX9_lag ∈ tG := mem_t3 24 rfl rfl
theorem lk_X9_146 : Cond.methodLink RX9 146 yX3_lagAt ∈ tG := mem_t3 28 rfl rfl
theorem lk_L_53 : Cond.methodLink RL 53 yX9_breakAt ∈ tG := mem_t3 29 rfl rfl
theorem lk_L_57 : Cond.methodLink RL 57 yX9_solve ∈ tG := mem_t3 33 rfl rfl
theorem lk_X9_172 : Cond.methodLink RX9 172 yX4_endTime ∈ tG := mem_t3 37 rfl rfl
theorem lk_X4_33 : Cond.methodLink RX4 33 yX4_beginOf ∈ tG := mem_t3 41 rfl rfl
theorem lk_X4_29 : Cond.methodLinkNest RX4 29 yX9_pick "LagSolver" ∈ nG := mem_n3 45 rfl rfl
theorem lk_X9_177 : Cond.methodLink RX9 177 yX7_advance ∈ tG := mem_t3 46 rfl rfl
theorem lk_X7_36 : Cond.methodLink RX7 36 yX4_endTime ∈ tG := mem_t3 50 rfl rfl
theorem lk_X7_46 : Cond.methodLink RX7 46 yX0_next ∈ tG := mem_t3 51 rfl rfl
theorem lk_X7_52 : Cond.methodLink RX7 52 ⟨"java/lang/Math", "min", "(II)I"⟩ ∈ tG := mem_t3 55 rfl rfl
theorem lk_X7_61 : Cond.methodLinkNest RX7 61 yX9_pick "LagSolver" ∈ nG := mem_n3 56 rfl rfl
theorem lk_X7_65 : Cond.methodLink RX7 65 yX7_takeStep ∈ tG := mem_t3 57 rfl rfl
theorem lk_X7_69 : Cond.methodLink RX7 69 yX4_endValue ∈ tG := mem_t3 61 rfl rfl
theorem lk_X7_72 : Cond.methodLinkNest RX7 72 yX9_put "LagSolver" ∈ nG := mem_n3 65 rfl rfl
theorem lk_X7_76 : Cond.methodLink RX7 76 yX7_gather ∈ tG := mem_t3 66 rfl rfl
theorem lk_X7_103 : Cond.methodLink RX7 103 yX5_allOperands ∈ tG := mem_t3 70 rfl rfl
theorem lk_X7_117 : Cond.methodLinkNest RX7 117 yX9_needsDelay "LagSolver" ∈ nG := mem_n3 71 rfl rfl
theorem lk_X7_112 : Cond.methodLink RX7 112 yX3_lagAt ∈ tG := mem_t3 72 rfl rfl
theorem lk_X7_125 : Cond.methodLink RX7 125 yX4_stepTo ∈ tG := mem_t3 73 rfl rfl
theorem lk_X7_132 : Cond.methodLinkNest RX7 132 yX9_pastOperand "LagSolver" ∈ nG := mem_n3 77 rfl rfl
theorem lk_X7_135 : Cond.methodLinkNest RX7 135 yX9_hasBit "LagSolver" ∈ nG := mem_n3 78 rfl rfl
theorem lk_X7_138 : Cond.methodLink RX7 138 yX7_guessedValue ∈ tG := mem_t3 79 rfl rfl
theorem lk_X7_150 : Cond.methodLinkNest RX7 150 yX9_quotient "LagSolver" ∈ nG := mem_n3 83 rfl rfl
theorem lk_X7_85 : Cond.methodLinkNest RX7 85 yX9_hold "LagSolver" ∈ nG := mem_n3 84 rfl rfl
theorem kc_X9_244 : Cond.constantLong RX9 244 (-1000000000) ∈ tG := mem_t3 87 rfl rfl
theorem kc_X9_210 : Cond.constant RX9 210 (-1000000000) ∈ tG := mem_t3 88 rfl rfl
theorem kc_X9_246 : Cond.constantLong RX9 246 (1000000000) ∈ tG := mem_t3 89 rfl rfl
theorem kc_X9_211 : Cond.constant RX9 211 (1000000000) ∈ tG := mem_t3 90 rfl rfl
theorem lk_X7_128 : Cond.methodLink RX7 128 yX6_valueIn ∈ tG := mem_t3 91 rfl rfl
theorem lk_X6_70 : Cond.methodLink RX6 70 yX1_valueAt ∈ tG := mem_t3 95 rfl rfl
theorem lk_X6_74 : Cond.methodLink RX6 74 yX4_valueIn ∈ tG := mem_t3 96 rfl rfl
theorem kc_X4_37 : Cond.constantLong RX4 37 (1000) ∈ tG := mem_t3 100 rfl rfl
theorem lk_X4_39 : Cond.methodLink RX4 39 yX4_bendOf ∈ tG := mem_t3 101 rfl rfl
theorem lk_X4_43 : Cond.methodLinkNest RX4 43 yX9_quotient "LagSolver" ∈ nG := mem_n3 105 rfl rfl
theorem lk_X4_47 : Cond.methodLinkNest RX4 47 yX9_hold "LagSolver" ∈ nG := mem_n3 106 rfl rfl
theorem lk_X7_141 : Cond.methodLinkNest RX7 141 yX9_slopeOperand "LagSolver" ∈ nG := mem_n3 107 rfl rfl
theorem lk_X7_144 : Cond.methodLink RX7 144 yX7_guessedSlope ∈ tG := mem_t3 108 rfl rfl
theorem kc_X7_83 : Cond.constantLong RX7 83 (1000) ∈ tG := mem_t3 112 rfl rfl
theorem lk_X7_147 : Cond.methodLink RX7 147 yX6_slopeIn ∈ tG := mem_t3 113 rfl rfl
theorem lk_X6_78 : Cond.methodLink RX6 78 yX1_slopeAt ∈ tG := mem_t3 117 rfl rfl
theorem kc_X1_40 : Cond.constantLong RX1 40 (1000) ∈ tG := mem_t3 121 rfl rfl
theorem lk_X6_81 : Cond.methodLink RX6 81 yX4_slopeIn ∈ tG := mem_t3 122 rfl rfl
theorem kc_X4_51 : Cond.constantLong RX4 51 (2000) ∈ tG := mem_t3 126 rfl rfl
theorem lk_X7_79 : Cond.methodLink RX7 79 yX7_workOutSlopes ∈ tG := mem_t3 127 rfl rfl
theorem lk_X7_121 : Cond.methodLink RX7 121 yX5_workOut ∈ tG := mem_t3 131 rfl rfl
theorem lk_X5_41 : Cond.methodLink RX5 41 ⟨"java/lang/Math", "min", "(II)I"⟩ ∈ tG := mem_t3 135 rfl rfl
theorem lk_X5_47 : Cond.methodLinkNest RX5 47 yX9_hold "LagSolver" ∈ nG := mem_n3 136 rfl rfl
theorem lk_X5_51 : Cond.methodLink RX5 51 yX5_join ∈ tG := mem_t3 137 rfl rfl
theorem kc_X5_55 : Cond.constantLong RX5 55 (1000) ∈ tG := mem_t3 140 rfl rfl
theorem lk_X5_57 : Cond.methodLinkNest RX5 57 yX9_quotient "LagSolver" ∈ nG := mem_n3 141 rfl rfl
theorem lk_X5_61 : Cond.methodLink RX5 61 ⟨"java/lang/Math", "min", "(JJ)J"⟩ ∈ tG := mem_t3 142 rfl rfl
theorem lk_X5_63 : Cond.methodLink RX5 63 ⟨"java/lang/Math", "max", "(JJ)J"⟩ ∈ tG := mem_t3 145 rfl rfl
theorem lk_X7_89 : Cond.methodLink RX7 89 yX7_hasShortLag ∈ tG := mem_t3 148 rfl rfl
theorem kc_X7_93 : Cond.constantLong RX7 93 (2000) ∈ tG := mem_t3 151 rfl rfl
theorem lk_X7_95 : Cond.methodLink RX7 95 yX4_append ∈ tG := mem_t3 152 rfl rfl
theorem lk_L_61 : Cond.methodLink RL 61 yX9_value ∈ tG := mem_t3 156 rfl rfl
theorem lk_X9_181 : Cond.methodLink RX9 181 yX4_stepTo ∈ tG := mem_t3 160 rfl rfl
theorem lk_X9_184 : Cond.methodLink RX9 184 yX6_valueIn ∈ tG := mem_t3 161 rfl rfl
theorem lk_L_65 : Cond.methodLink RL 65 yX9_slope ∈ tG := mem_t3 162 rfl rfl
theorem lk_X9_188 : Cond.methodLink RX9 188 yX6_slopeIn ∈ tG := mem_t3 166 rfl rfl
theorem lk_L_69 : Cond.methodLink RL 69 yX9_rightAt ∈ tG := mem_t3 167 rfl rfl
theorem lk_X9_191 : Cond.methodLink RX9 191 yX7_rightSide ∈ tG := mem_t3 171 rfl rfl
theorem lk_L_73 : Cond.methodLink RL 73 yX9_step ∈ tG := mem_t3 175 rfl rfl
theorem lk_X9_198 : Cond.methodLink RX9 198 yX4_beginOf ∈ tG := mem_t3 179 rfl rfl
theorem lk_X9_201 : Cond.methodLink RX9 201 yX4_endOf ∈ tG := mem_t3 180 rfl rfl
theorem lk_X9_204 : Cond.methodLink RX9 204 yX4_roundsOf ∈ tG := mem_t3 184 rfl rfl
theorem lk_X9_207 : Cond.methodLink RX9 207 yX4_firstSlope ∈ tG := mem_t3 188 rfl rfl
theorem lk_L_77 : Cond.methodLink RL 77 yX9_crossing ∈ tG := mem_t3 192 rfl rfl
theorem lk_X9_212 : Cond.methodLink RX9 212 yX4_valueIn ∈ tG := mem_t3 196 rfl rfl
theorem lk_L_81 : Cond.methodLink RL 81 yX9_greatest ∈ tG := mem_t3 197 rfl rfl
theorem lk_L_86 : Cond.methodLink RL 86 yX9_differs ∈ tG := mem_t3 201 rfl rfl
theorem lk_X9_213 : Cond.methodLink RX9 213 yX6_copyProblem ∈ tG := mem_t3 205 rfl rfl
theorem lk_X9_216 : Cond.methodLink RX9 216 yX4_endValue ∈ tG := mem_t3 206 rfl rfl
theorem lk_X9_219 : Cond.methodLink RX9 219 ⟨"java/lang/Math", "abs", "(J)J"⟩ ∈ tG := mem_t3 207 rfl rfl
theorem lk_X9_225 : Cond.methodLink RX9 225 ⟨"java/lang/Math", "max", "(JJ)J"⟩ ∈ tG := mem_t3 210 rfl rfl
theorem lk_X9_229 : Cond.methodLink RX9 229 yX9_hold ∈ tG := mem_t3 211 rfl rfl
theorem lk_L_90 : Cond.methodLink RL 90 yX9_count ∈ tG := mem_t3 212 rfl rfl
theorem lk_X9_234 : Cond.methodLink RX9 234 yX5_allOperands ∈ tG := mem_t3 216 rfl rfl
theorem lk_L_94 : Cond.methodLink RL 94 yX9_undo ∈ tG := mem_t3 217 rfl rfl
theorem lk_X9_237 : Cond.methodLink RX9 237 yX2_giveBack ∈ tG := mem_t3 221 rfl rfl
theorem lk_L_98 : Cond.methodLink RL 98 yX9_save ∈ tG := mem_t3 225 rfl rfl
theorem lk_X9_241 : Cond.methodLink RX9 241 yX6_copyFrom ∈ tG := mem_t3 229 rfl rfl
theorem lk_L_102 : Cond.methodLink RL 102 yX9_restore ∈ tG := mem_t3 230 rfl rfl
theorem cl_L_10 : NewOk RL 10 10 31 tyX10 := ⟨RX10, TX10, cls_X10, mem_t3 234 rfl rfl, mem_t3 235 rfl rfl, mem_t1 11 rfl rfl⟩
theorem cw_L_10 : Cond.classLink RL 10 RX10 ∈ tG := mem_t3 234 rfl rfl
theorem lk_L_12 : Cond.methodLink RL 12 yX10_init ∈ tG := mem_t3 236 rfl rfl
theorem lk_X10_1 : Cond.methodLink RX10 1 ⟨"java/lang/Object", "<init>", "()V"⟩ ∈ tG := mem_t3 239 rfl rfl
theorem lk_X10_74 : Cond.methodLink RX10 74 yX10_solvesAll ∈ tG := mem_t4 0 rfl rfl
theorem lk_X10_265 : Cond.methodLink RX10 265 yX10_findsBreaks ∈ tG := mem_t4 4 rfl rfl
theorem kc_X10_125 : Cond.constant RX10 125 (-2000000004) ∈ tG := mem_t4 8 rfl rfl
theorem lk_X10_162 : Cond.methodLink RX10 162 yX10_used ∈ tG := mem_t4 9 rfl rfl
theorem lk_X10_133 : Cond.methodLink RX10 133 yX10_usedBy ∈ tG := mem_t4 13 rfl rfl
theorem lk_X10_130 : Cond.methodLink RX10 130 yX10_rightLetter ∈ tG := mem_t4 17 rfl rfl
theorem lk_X10_165 : Cond.methodLink RX10 165 yX10_madeFrom ∈ tG := mem_t4 21 rfl rfl
theorem lk_X10_153 : Cond.methodLink RX10 153 yX10_lagAt ∈ tG := mem_t4 25 rfl rfl
theorem lk_X10_168 : Cond.methodLink RX10 168 yX10_makes ∈ tG := mem_t4 29 rfl rfl
theorem lk_X10_159 : Cond.methodLink RX10 159 yX10_breakWith ∈ tG := mem_t4 33 rfl rfl
theorem lk_X10_172 : Cond.methodLink RX10 172 yX10_swaps ∈ tG := mem_t4 37 rfl rfl
theorem lk_X10_268 : Cond.methodLink RX10 268 yX10_goesTo ∈ tG := mem_t4 40 rfl rfl
theorem lk_X10_271 : Cond.methodLink RX10 271 yX10_nextBreak ∈ tG := mem_t4 44 rfl rfl
theorem lk_X10_274 : Cond.methodLink RX10 274 yX10_stepBy ∈ tG := mem_t4 48 rfl rfl
theorem lk_X10_210 : Cond.methodLink RX10 210 yX10_toldValue ∈ tG := mem_t4 52 rfl rfl
theorem lk_X10_181 : Cond.methodLink RX10 181 yX10_historyValue ∈ tG := mem_t4 56 rfl rfl
theorem lk_X10_144 : Cond.methodLink RX10 144 yX10_points ∈ tG := mem_t4 60 rfl rfl
theorem lk_X10_147 : Cond.methodLink RX10 147 yX10_pointTime ∈ tG := mem_t4 64 rfl rfl
theorem lk_X10_150 : Cond.methodLink RX10 150 yX10_pointValue ∈ tG := mem_t4 68 rfl rfl
theorem lk_X10_185 : Cond.methodLink RX10 185 yX10_stepOf ∈ tG := mem_t4 72 rfl rfl
theorem kc_X10_176 : Cond.constantLong RX10 176 (1000) ∈ tG := mem_t4 76 rfl rfl
theorem lk_X10_188 : Cond.methodLink RX10 188 yX10_bend ∈ tG := mem_t4 77 rfl rfl
theorem lk_X10_191 : Cond.methodLink RX10 191 yX10_held ∈ tG := mem_t4 81 rfl rfl
theorem kc_X10_77 : Cond.constantLong RX10 77 (-1000000000) ∈ tG := mem_t4 84 rfl rfl
theorem kc_X10_79 : Cond.constantLong RX10 79 (1000000000) ∈ tG := mem_t4 85 rfl rfl
theorem lk_X10_277 : Cond.methodLink RX10 277 yX10_worksOut ∈ tG := mem_t4 86 rfl rfl
theorem lk_X10_105 : Cond.methodLink RX10 105 yX10_isDigit ∈ tG := mem_t4 90 rfl rfl
theorem lk_X10_86 : Cond.methodLink RX10 86 yX10_within ∈ tG := mem_t4 93 rfl rfl
theorem lk_X10_239 : Cond.methodLink RX10 239 yX10_numberAt ∈ tG := mem_t4 96 rfl rfl
theorem kc_X10_235 : Cond.constantLong RX10 235 (10) ∈ tG := mem_t4 100 rfl rfl
theorem kc_X10_237 : Cond.constantLong RX10 237 (48) ∈ tG := mem_t4 101 rfl rfl
theorem lk_X10_242 : Cond.methodLink RX10 242 yX10_puts ∈ tG := mem_t4 102 rfl rfl
theorem lk_X10_228 : Cond.methodLink RX10 228 yX10_negates ∈ tG := mem_t4 106 rfl rfl
theorem lk_X10_246 : Cond.methodLink RX10 246 yX10_behindNumber ∈ tG := mem_t4 110 rfl rfl
theorem lk_X10_113 : Cond.methodLink RX10 113 yX10_isName ∈ tG := mem_t4 114 rfl rfl
theorem lk_X10_249 : Cond.methodLink RX10 249 yX10_slopeAt ∈ tG := mem_t4 117 rfl rfl
theorem lk_X10_213 : Cond.methodLink RX10 213 yX10_toldSlope ∈ tG := mem_t4 121 rfl rfl
theorem lk_X10_195 : Cond.methodLink RX10 195 yX10_historySlope ∈ tG := mem_t4 125 rfl rfl
theorem kc_X10_198 : Cond.constantLong RX10 198 (2000) ∈ tG := mem_t4 129 rfl rfl
theorem lk_X10_252 : Cond.methodLink RX10 252 yX10_valueAt ∈ tG := mem_t4 130 rfl rfl
theorem lk_X10_255 : Cond.methodLink RX10 255 yX10_shuts ∈ tG := mem_t4 134 rfl rfl
theorem lk_X10_231 : Cond.methodLink RX10 231 yX10_carriesAll ∈ tG := mem_t4 138 rfl rfl
theorem lk_X10_222 : Cond.methodLink RX10 222 yX10_rank ∈ tG := mem_t4 142 rfl rfl
theorem lk_X10_225 : Cond.methodLink RX10 225 yX10_carriesOut ∈ tG := mem_t4 145 rfl rfl
theorem lk_X10_258 : Cond.methodLink RX10 258 yX10_opens ∈ tG := mem_t4 149 rfl rfl
theorem lk_X10_262 : Cond.methodLink RX10 262 yX10_putsSign ∈ tG := mem_t4 153 rfl rfl
theorem lk_X10_280 : Cond.methodLink RX10 280 yX10_guesses ∈ tG := mem_t4 157 rfl rfl
theorem lk_X10_284 : Cond.methodLink RX10 284 yX10_needsRounds ∈ tG := mem_t4 161 rfl rfl
theorem gf_X10_7 : GetOk RX10 7 10 0 := ⟨RX10, TX10, 31, tyX10, cls_X10, by decide, rfl, mem_t4 165 rfl rfl⟩
theorem pf_X10_7 : PutFOk RX10 7 10 0 (.array .int) := ⟨RX10, TX10, 31, tyX10, cls_X10, by decide, rfl, rfl, rfl, by decide +kernel, mem_t4 165 rfl rfl⟩
theorem gf_X10_13 : GetOk RX10 13 10 1 := ⟨RX10, TX10, 31, tyX10, cls_X10, by decide, rfl, mem_t4 166 rfl rfl⟩
theorem pf_X10_13 : PutFOk RX10 13 10 1 (.array .int) := ⟨RX10, TX10, 31, tyX10, cls_X10, by decide, rfl, rfl, rfl, by decide +kernel, mem_t4 166 rfl rfl⟩
theorem gf_X10_81 : GetOk RX10 81 10 2 := ⟨RX10, TX10, 31, tyX10, cls_X10, by decide, rfl, mem_t4 167 rfl rfl⟩
theorem pf_X10_81 : PutOk RX10 81 10 2 (.int) := ⟨RX10, TX10, 31, tyX10, cls_X10, by decide, rfl, rfl, by decide +kernel, mem_t4 167 rfl rfl⟩
theorem gf_X10_16 : GetOk RX10 16 10 3 := ⟨RX10, TX10, 31, tyX10, cls_X10, by decide, rfl, mem_t4 168 rfl rfl⟩
theorem pf_X10_16 : PutFOk RX10 16 10 3 (.array .int) := ⟨RX10, TX10, 31, tyX10, cls_X10, by decide, rfl, rfl, rfl, by decide +kernel, mem_t4 168 rfl rfl⟩
theorem gf_X10_19 : GetOk RX10 19 10 4 := ⟨RX10, TX10, 31, tyX10, cls_X10, by decide, rfl, mem_t4 169 rfl rfl⟩
theorem pf_X10_19 : PutFOk RX10 19 10 4 (.array .int) := ⟨RX10, TX10, 31, tyX10, cls_X10, by decide, rfl, rfl, rfl, by decide +kernel, mem_t4 169 rfl rfl⟩
theorem gf_X10_22 : GetOk RX10 22 10 5 := ⟨RX10, TX10, 31, tyX10, cls_X10, by decide, rfl, mem_t4 170 rfl rfl⟩
theorem pf_X10_22 : PutFOk RX10 22 10 5 (.array .int) := ⟨RX10, TX10, 31, tyX10, cls_X10, by decide, rfl, rfl, rfl, by decide +kernel, mem_t4 170 rfl rfl⟩
theorem gf_X10_97 : GetOk RX10 97 10 6 := ⟨RX10, TX10, 31, tyX10, cls_X10, by decide, rfl, mem_t4 171 rfl rfl⟩
theorem pf_X10_97 : PutOk RX10 97 10 6 (.int) := ⟨RX10, TX10, 31, tyX10, cls_X10, by decide, rfl, rfl, by decide +kernel, mem_t4 171 rfl rfl⟩
theorem gf_X10_25 : GetOk RX10 25 10 7 := ⟨RX10, TX10, 31, tyX10, cls_X10, by decide, rfl, mem_t4 172 rfl rfl⟩
theorem pf_X10_25 : PutFOk RX10 25 10 7 (.array .int) := ⟨RX10, TX10, 31, tyX10, cls_X10, by decide, rfl, rfl, rfl, by decide +kernel, mem_t4 172 rfl rfl⟩
theorem gf_X10_28 : GetOk RX10 28 10 8 := ⟨RX10, TX10, 31, tyX10, cls_X10, by decide, rfl, mem_t4 173 rfl rfl⟩
theorem pf_X10_28 : PutFOk RX10 28 10 8 (.array .int) := ⟨RX10, TX10, 31, tyX10, cls_X10, by decide, rfl, rfl, rfl, by decide +kernel, mem_t4 173 rfl rfl⟩
theorem gf_X10_31 : GetOk RX10 31 10 9 := ⟨RX10, TX10, 31, tyX10, cls_X10, by decide, rfl, mem_t4 174 rfl rfl⟩
theorem pf_X10_31 : PutFOk RX10 31 10 9 (.array .int) := ⟨RX10, TX10, 31, tyX10, cls_X10, by decide, rfl, rfl, rfl, by decide +kernel, mem_t4 174 rfl rfl⟩
theorem gf_X10_156 : GetOk RX10 156 10 10 := ⟨RX10, TX10, 31, tyX10, cls_X10, by decide, rfl, mem_t4 175 rfl rfl⟩
theorem pf_X10_156 : PutOk RX10 156 10 10 (.int) := ⟨RX10, TX10, 31, tyX10, cls_X10, by decide, rfl, rfl, by decide +kernel, mem_t4 175 rfl rfl⟩
theorem gf_X10_34 : GetOk RX10 34 10 11 := ⟨RX10, TX10, 31, tyX10, cls_X10, by decide, rfl, mem_t4 176 rfl rfl⟩
theorem pf_X10_34 : PutFOk RX10 34 10 11 (.array .int) := ⟨RX10, TX10, 31, tyX10, cls_X10, by decide, rfl, rfl, rfl, by decide +kernel, mem_t4 176 rfl rfl⟩
theorem gf_X10_37 : GetOk RX10 37 10 12 := ⟨RX10, TX10, 31, tyX10, cls_X10, by decide, rfl, mem_t4 177 rfl rfl⟩
theorem pf_X10_37 : PutFOk RX10 37 10 12 (.array .int) := ⟨RX10, TX10, 31, tyX10, cls_X10, by decide, rfl, rfl, rfl, by decide +kernel, mem_t4 177 rfl rfl⟩
theorem gf_X10_40 : GetOk RX10 40 10 13 := ⟨RX10, TX10, 31, tyX10, cls_X10, by decide, rfl, mem_t4 178 rfl rfl⟩
theorem pf_X10_40 : PutFOk RX10 40 10 13 (.array .int) := ⟨RX10, TX10, 31, tyX10, cls_X10, by decide, rfl, rfl, rfl, by decide +kernel, mem_t4 178 rfl rfl⟩
theorem gf_X10_43 : GetOk RX10 43 10 14 := ⟨RX10, TX10, 31, tyX10, cls_X10, by decide, rfl, mem_t4 179 rfl rfl⟩
theorem pf_X10_43 : PutFOk RX10 43 10 14 (.array .long) := ⟨RX10, TX10, 31, tyX10, cls_X10, by decide, rfl, rfl, rfl, by decide +kernel, mem_t4 179 rfl rfl⟩
theorem gf_X10_47 : GetOk RX10 47 10 15 := ⟨RX10, TX10, 31, tyX10, cls_X10, by decide, rfl, mem_t4 180 rfl rfl⟩
theorem pf_X10_47 : PutFOk RX10 47 10 15 (.array .long) := ⟨RX10, TX10, 31, tyX10, cls_X10, by decide, rfl, rfl, rfl, by decide +kernel, mem_t4 180 rfl rfl⟩
theorem gf_X10_50 : GetOk RX10 50 10 16 := ⟨RX10, TX10, 31, tyX10, cls_X10, by decide, rfl, mem_t4 181 rfl rfl⟩
theorem pf_X10_50 : PutFOk RX10 50 10 16 (.array .long) := ⟨RX10, TX10, 31, tyX10, cls_X10, by decide, rfl, rfl, rfl, by decide +kernel, mem_t4 181 rfl rfl⟩
theorem gf_X10_178 : GetOk RX10 178 10 17 := ⟨RX10, TX10, 31, tyX10, cls_X10, by decide, rfl, mem_t4 182 rfl rfl⟩
theorem pf_X10_178 : PutOk RX10 178 10 17 (.int) := ⟨RX10, TX10, 31, tyX10, cls_X10, by decide, rfl, rfl, by decide +kernel, mem_t4 182 rfl rfl⟩
theorem gf_X10_91 : GetOk RX10 91 10 18 := ⟨RX10, TX10, 31, tyX10, cls_X10, by decide, rfl, mem_t4 183 rfl rfl⟩
theorem pf_X10_91 : PutOk RX10 91 10 18 (.int) := ⟨RX10, TX10, 31, tyX10, cls_X10, by decide, rfl, rfl, by decide +kernel, mem_t4 183 rfl rfl⟩
theorem gf_X10_200 : GetOk RX10 200 10 19 := ⟨RX10, TX10, 31, tyX10, cls_X10, by decide, rfl, mem_t4 184 rfl rfl⟩
theorem pf_X10_200 : PutOk RX10 200 10 19 (.boolean) := ⟨RX10, TX10, 31, tyX10, cls_X10, by decide, rfl, rfl, by decide +kernel, mem_t4 184 rfl rfl⟩
theorem gf_X10_204 : GetOk RX10 204 10 20 := ⟨RX10, TX10, 31, tyX10, cls_X10, by decide, rfl, mem_t4 185 rfl rfl⟩
theorem pf_X10_204 : PutOk RX10 204 10 20 (.int) := ⟨RX10, TX10, 31, tyX10, cls_X10, by decide, rfl, rfl, by decide +kernel, mem_t4 185 rfl rfl⟩
theorem gf_X10_207 : GetOk RX10 207 10 21 := ⟨RX10, TX10, 31, tyX10, cls_X10, by decide, rfl, mem_t4 186 rfl rfl⟩
theorem pf_X10_207 : PutOk RX10 207 10 21 (.int) := ⟨RX10, TX10, 31, tyX10, cls_X10, by decide, rfl, rfl, by decide +kernel, mem_t4 186 rfl rfl⟩
theorem gf_X10_53 : GetOk RX10 53 10 22 := ⟨RX10, TX10, 31, tyX10, cls_X10, by decide, rfl, mem_t4 187 rfl rfl⟩
theorem pf_X10_53 : PutFOk RX10 53 10 22 (.array .long) := ⟨RX10, TX10, 31, tyX10, cls_X10, by decide, rfl, rfl, rfl, by decide +kernel, mem_t4 187 rfl rfl⟩
theorem gf_X10_56 : GetOk RX10 56 10 23 := ⟨RX10, TX10, 31, tyX10, cls_X10, by decide, rfl, mem_t4 188 rfl rfl⟩
theorem pf_X10_56 : PutFOk RX10 56 10 23 (.array .long) := ⟨RX10, TX10, 31, tyX10, cls_X10, by decide, rfl, rfl, rfl, by decide +kernel, mem_t4 188 rfl rfl⟩
theorem gf_X10_59 : GetOk RX10 59 10 24 := ⟨RX10, TX10, 31, tyX10, cls_X10, by decide, rfl, mem_t4 189 rfl rfl⟩
theorem pf_X10_59 : PutFOk RX10 59 10 24 (.array .long) := ⟨RX10, TX10, 31, tyX10, cls_X10, by decide, rfl, rfl, rfl, by decide +kernel, mem_t4 189 rfl rfl⟩
theorem gf_X10_62 : GetOk RX10 62 10 25 := ⟨RX10, TX10, 31, tyX10, cls_X10, by decide, rfl, mem_t4 190 rfl rfl⟩
theorem pf_X10_62 : PutFOk RX10 62 10 25 (.array .long) := ⟨RX10, TX10, 31, tyX10, cls_X10, by decide, rfl, rfl, rfl, by decide +kernel, mem_t4 190 rfl rfl⟩
theorem gf_X10_65 : GetOk RX10 65 10 26 := ⟨RX10, TX10, 31, tyX10, cls_X10, by decide, rfl, mem_t4 191 rfl rfl⟩
theorem pf_X10_65 : PutFOk RX10 65 10 26 (.array .long) := ⟨RX10, TX10, 31, tyX10, cls_X10, by decide, rfl, rfl, rfl, by decide +kernel, mem_t4 191 rfl rfl⟩
theorem gf_X10_68 : GetOk RX10 68 10 27 := ⟨RX10, TX10, 31, tyX10, cls_X10, by decide, rfl, mem_t4 192 rfl rfl⟩
theorem pf_X10_68 : PutFOk RX10 68 10 27 (.array .long) := ⟨RX10, TX10, 31, tyX10, cls_X10, by decide, rfl, rfl, rfl, by decide +kernel, mem_t4 192 rfl rfl⟩
theorem gf_X10_71 : GetOk RX10 71 10 28 := ⟨RX10, TX10, 31, tyX10, cls_X10, by decide, rfl, mem_t4 193 rfl rfl⟩
theorem pf_X10_71 : PutFOk RX10 71 10 28 (.array .int) := ⟨RX10, TX10, 31, tyX10, cls_X10, by decide, rfl, rfl, rfl, by decide +kernel, mem_t4 193 rfl rfl⟩
theorem gf_X10_219 : GetOk RX10 219 10 29 := ⟨RX10, TX10, 31, tyX10, cls_X10, by decide, rfl, mem_t4 194 rfl rfl⟩
theorem pf_X10_219 : PutOk RX10 219 10 29 (.int) := ⟨RX10, TX10, 31, tyX10, cls_X10, by decide, rfl, rfl, by decide +kernel, mem_t4 194 rfl rfl⟩
theorem gf_X10_216 : GetOk RX10 216 10 30 := ⟨RX10, TX10, 31, tyX10, cls_X10, by decide, rfl, mem_t4 195 rfl rfl⟩
theorem pf_X10_216 : PutOk RX10 216 10 30 (.int) := ⟨RX10, TX10, 31, tyX10, cls_X10, by decide, rfl, rfl, by decide +kernel, mem_t4 195 rfl rfl⟩
theorem lk_L_97 : Cond.methodLink RL 97 yX10_undo ∈ tG := mem_t5 20 rfl rfl
theorem kc_X10_85 : Cond.constant RX10 85 (-2000000002) ∈ tG := mem_t5 24 rfl rfl
theorem lk_L_101 : Cond.methodLink RL 101 yX10_save ∈ tG := mem_t5 25 rfl rfl
theorem kc_X10_90 : Cond.constant RX10 90 (-2000000001) ∈ tG := mem_t5 29 rfl rfl
theorem lk_L_105 : Cond.methodLink RL 105 yX10_restore ∈ tG := mem_t5 30 rfl rfl
theorem lk_X10_94 : Cond.methodLink RX10 94 yX10_saves ∈ tG := mem_t5 34 rfl rfl
theorem lk_L_17 : Cond.methodLink RL 17 yX10_type ∈ tG := mem_t5 38 rfl rfl
theorem kc_X10_100 : Cond.constant RX10 100 (-2000000003) ∈ tG := mem_t5 42 rfl rfl
theorem lk_L_22 : Cond.methodLink RL 22 yX10_wipe ∈ tG := mem_t5 43 rfl rfl
theorem lk_L_26 : Cond.methodLink RL 26 yX10_fault ∈ tG := mem_t5 47 rfl rfl
theorem lk_X10_126 : Cond.methodLink RX10 126 yX10_faultOf ∈ tG := mem_t5 51 rfl rfl
theorem lk_X10_116 : Cond.methodLink RX10 116 yX10_numberEnd ∈ tG := mem_t5 55 rfl rfl
theorem lk_X10_109 : Cond.methodLink RX10 109 yX10_digits ∈ tG := mem_t5 59 rfl rfl
theorem lk_X10_101 : Cond.methodLink RX10 101 yX10_letter ∈ tG := mem_t5 63 rfl rfl
theorem lk_X10_119 : Cond.methodLink RX10 119 yX10_nameEnd ∈ tG := mem_t5 67 rfl rfl
theorem lk_X10_122 : Cond.methodLink RX10 122 yX10_wordEnd ∈ tG := mem_t5 71 rfl rfl
theorem lk_L_30 : Cond.methodLink RL 30 yX10_right ∈ tG := mem_t5 75 rfl rfl
theorem lk_X10_136 : Cond.methodLink RX10 136 yX10_isThree ∈ tG := mem_t5 79 rfl rfl
theorem lk_X10_139 : Cond.methodLink RX10 139 yX10_anew ∈ tG := mem_t5 82 rfl rfl
theorem lk_L_35 : Cond.methodLink RL 35 yX10_delay ∈ tG := mem_t5 86 rfl rfl
theorem lk_L_39 : Cond.methodLink RL 39 yX10_point ∈ tG := mem_t5 90 rfl rfl
theorem kc_X10_142 : Cond.constant RX10 142 (-1000000) ∈ tG := mem_t5 94 rfl rfl
theorem kc_X10_143 : Cond.constant RX10 143 (1000000) ∈ tG := mem_t5 95 rfl rfl
theorem lk_L_43 : Cond.methodLink RL 43 yX10_clear ∈ tG := mem_t5 96 rfl rfl
theorem lk_L_48 : Cond.methodLink RL 48 yX10_set ∈ tG := mem_t5 100 rfl rfl
theorem lk_L_52 : Cond.methodLink RL 52 yX10_lag ∈ tG := mem_t5 104 rfl rfl
theorem lk_L_56 : Cond.methodLink RL 56 yX10_breakAt ∈ tG := mem_t5 108 rfl rfl
theorem lk_L_60 : Cond.methodLink RL 60 yX10_solve ∈ tG := mem_t5 112 rfl rfl
theorem lk_L_64 : Cond.methodLink RL 64 yX10_value ∈ tG := mem_t5 116 rfl rfl
theorem lk_L_68 : Cond.methodLink RL 68 yX10_slope ∈ tG := mem_t5 120 rfl rfl
theorem lk_L_72 : Cond.methodLink RL 72 yX10_rightAt ∈ tG := mem_t5 124 rfl rfl
theorem lk_L_76 : Cond.methodLink RL 76 yX10_step ∈ tG := mem_t5 128 rfl rfl
theorem lk_L_80 : Cond.methodLink RL 80 yX10_crossing ∈ tG := mem_t5 132 rfl rfl
theorem kc_X10_288 : Cond.constant RX10 288 (-1000000000) ∈ tG := mem_t5 136 rfl rfl
theorem kc_X10_289 : Cond.constant RX10 289 (1000000000) ∈ tG := mem_t5 137 rfl rfl
theorem lk_L_85 : Cond.methodLink RL 85 yX10_greatest ∈ tG := mem_t5 138 rfl rfl
theorem lk_L_89 : Cond.methodLink RL 89 yX10_differs ∈ tG := mem_t5 142 rfl rfl
theorem lk_L_93 : Cond.methodLink RL 93 yX10_count ∈ tG := mem_t5 146 rfl rfl
theorem aw_I : Cond.arrayClass .int ∈ tG := mem_t1 51 rfl rfl
theorem aw_J : Cond.arrayClass .long ∈ tG := mem_t5 19 rfl rfl
theorem ow_i : Cond.instanceMethod Lib.objectInit ∈ tG := mem_t1 20 rfl rfl
theorem ow_c : Cond.code Lib.objectInit ⟨#[0xb1]⟩ 1 none ∈ tG := mem_t1 21 rfl rfl
theorem iw_Math : Cond.initialized "java/lang/Math" ∈ tG := mem_t1 12 rfl rfl
theorem iw_System : Cond.initialized "java/lang/System" ∈ tG := mem_t1 13 rfl rfl
theorem aw_n : Cond.native arraycopyName ∈ tG := mem_t2 128 rfl rfl
theorem aw_s : Cond.static arraycopyName ∈ tG := mem_t2 127 rfl rfl
theorem jw_max_s : Cond.static Lib.Math.max.name ∈ tG := mem_t2 195 rfl rfl
theorem jw_max_c : Cond.code Lib.Math.max.name Lib.Math.max.code 2 (some .int) ∈ tG := mem_t2 196 rfl rfl
theorem jw_min_s : Cond.static Lib.Math.min.name ∈ tG := mem_t2 124 rfl rfl
theorem jw_min_c : Cond.code Lib.Math.min.name Lib.Math.min.code 2 (some .int) ∈ tG := mem_t2 125 rfl rfl
theorem jw_maxL_s : Cond.static Lib.MathLoose.max_long.x ∈ tG := mem_t3 146 rfl rfl
theorem jw_maxL_c : Cond.code Lib.MathLoose.max_long.x Lib.MathLoose.max_long.code 4 (some .long) ∈ tG := mem_t3 147 rfl rfl
theorem jw_minL_s : Cond.static Lib.MathLoose.min_long.x ∈ tG := mem_t3 143 rfl rfl
theorem jw_minL_c : Cond.code Lib.MathLoose.min_long.x Lib.MathLoose.min_long.code 4 (some .long) ∈ tG := mem_t3 144 rfl rfl
theorem jw_absL_s : Cond.static Lib.MathLoose.abs_long.x ∈ tG := mem_t3 208 rfl rfl
theorem jw_absL_c : Cond.code Lib.MathLoose.abs_long.x Lib.MathLoose.abs_long.code 2 (some .long) ∈ tG := mem_t3 209 rfl rfl
end
section
set_option maxRecDepth 20000
theorem d_X0_init_0 : decode m_X0_init.2.1 0 = .ok (.aload_n 0, 1) := by decide +kernel
theorem d_X0_init_1 : decode m_X0_init.2.1 1 = .ok (.invokespecial 3, 3) := by decide +kernel
theorem d_X0_init_4 : decode m_X0_init.2.1 4 = .ok (.aload_n 0, 1) := by decide +kernel
theorem d_X0_init_5 : decode m_X0_init.2.1 5 = .ok (.bipush 40, 2) := by decide +kernel
theorem d_X0_init_7 : decode m_X0_init.2.1 7 = .ok (.newarray .int, 2) := by decide +kernel
theorem d_X0_init_9 : decode m_X0_init.2.1 9 = .ok (.putfield 9, 3) := by decide +kernel
theorem d_X0_init_12 : decode m_X0_init.2.1 12 = .ok (.aload_n 0, 1) := by decide +kernel
theorem d_X0_init_13 : decode m_X0_init.2.1 13 = .ok (.bipush 40, 2) := by decide +kernel
theorem d_X0_init_15 : decode m_X0_init.2.1 15 = .ok (.newarray .int, 2) := by decide +kernel
theorem d_X0_init_17 : decode m_X0_init.2.1 17 = .ok (.putfield 15, 3) := by decide +kernel
theorem d_X0_init_20 : decode m_X0_init.2.1 20 = .ok (.aload_n 0, 1) := by decide +kernel
theorem d_X0_init_21 : decode m_X0_init.2.1 21 = .ok (.bipush 40, 2) := by decide +kernel
theorem d_X0_init_23 : decode m_X0_init.2.1 23 = .ok (.newarray .int, 2) := by decide +kernel
theorem d_X0_init_25 : decode m_X0_init.2.1 25 = .ok (.putfield 18, 3) := by decide +kernel
theorem d_X0_init_28 : decode m_X0_init.2.1 28 = .ok (.aload_n 0, 1) := by decide +kernel
theorem d_X0_init_29 : decode m_X0_init.2.1 29 = .ok (.iconst 1, 1) := by decide +kernel
theorem d_X0_init_30 : decode m_X0_init.2.1 30 = .ok (.putfield 21, 3) := by decide +kernel
theorem d_X0_init_33 : decode m_X0_init.2.1 33 = .ok (.return_, 1) := by decide +kernel
theorem d_X0_find_0 : decode m_X0_find.2.1 0 = .ok (.aload_n 0, 1) := by decide +kernel
theorem d_X0_find_1 : decode m_X0_find.2.1 1 = .ok (.iconst 1, 1) := by decide +kernel
theorem d_X0_find_2 : decode m_X0_find.2.1 2 = .ok (.putfield 21, 3) := by decide +kernel
theorem d_X0_find_5 : decode m_X0_find.2.1 5 = .ok (.iconst 0, 1) := by decide +kernel
theorem d_X0_find_6 : decode m_X0_find.2.1 6 = .ok (.istore 4, 2) := by decide +kernel
theorem d_X0_find_8 : decode m_X0_find.2.1 8 = .ok (.iload 4, 2) := by decide +kernel
theorem d_X0_find_10 : decode m_X0_find.2.1 10 = .ok (.iload_n 3, 1) := by decide +kernel
theorem d_X0_find_11 : decode m_X0_find.2.1 11 = .ok (.if_icmp .ge 17, 3) := by decide +kernel
theorem d_X0_find_14 : decode m_X0_find.2.1 14 = .ok (.aload_n 0, 1) := by decide +kernel
theorem d_X0_find_15 : decode m_X0_find.2.1 15 = .ok (.aload_n 1, 1) := by decide +kernel
theorem d_X0_find_16 : decode m_X0_find.2.1 16 = .ok (.iload_n 2, 1) := by decide +kernel
theorem d_X0_find_17 : decode m_X0_find.2.1 17 = .ok (.iload 4, 2) := by decide +kernel
theorem d_X0_find_19 : decode m_X0_find.2.1 19 = .ok (.invokevirtual 25, 3) := by decide +kernel
theorem d_X0_find_22 : decode m_X0_find.2.1 22 = .ok (.iinc 4 1, 3) := by decide +kernel
theorem d_X0_find_25 : decode m_X0_find.2.1 25 = .ok (.goto (-17), 3) := by decide +kernel
theorem d_X0_find_28 : decode m_X0_find.2.1 28 = .ok (.return_, 1) := by decide +kernel
theorem d_X0_addNext_0 : decode m_X0_addNext.2.1 0 = .ok (.aload_n 1, 1) := by decide +kernel
theorem d_X0_addNext_1 : decode m_X0_addNext.2.1 1 = .ok (.ifnonnull 4, 3) := by decide +kernel
theorem d_X0_addNext_4 : decode m_X0_addNext.2.1 4 = .ok (.return_, 1) := by decide +kernel
theorem d_X0_addNext_5 : decode m_X0_addNext.2.1 5 = .ok (.iconst 0, 1) := by decide +kernel
theorem d_X0_addNext_6 : decode m_X0_addNext.2.1 6 = .ok (.istore 4, 2) := by decide +kernel
theorem d_X0_addNext_8 : decode m_X0_addNext.2.1 8 = .ok (.iload 4, 2) := by decide +kernel
theorem d_X0_addNext_10 : decode m_X0_addNext.2.1 10 = .ok (.bipush 40, 2) := by decide +kernel
theorem d_X0_addNext_12 : decode m_X0_addNext.2.1 12 = .ok (.if_icmp .ge 79, 3) := by decide +kernel
theorem d_X0_addNext_15 : decode m_X0_addNext.2.1 15 = .ok (.iload 4, 2) := by decide +kernel
theorem d_X0_addNext_17 : decode m_X0_addNext.2.1 17 = .ok (.aload_n 0, 1) := by decide +kernel
theorem d_X0_addNext_18 : decode m_X0_addNext.2.1 18 = .ok (.getfield 21, 3) := by decide +kernel
theorem d_X0_addNext_21 : decode m_X0_addNext.2.1 21 = .ok (.if_icmp .ge 70, 3) := by decide +kernel
theorem d_X0_addNext_24 : decode m_X0_addNext.2.1 24 = .ok (.iconst 0, 1) := by decide +kernel
theorem d_X0_addNext_25 : decode m_X0_addNext.2.1 25 = .ok (.istore 5, 2) := by decide +kernel
theorem d_X0_addNext_27 : decode m_X0_addNext.2.1 27 = .ok (.iload 5, 2) := by decide +kernel
theorem d_X0_addNext_29 : decode m_X0_addNext.2.1 29 = .ok (.iconst 3, 1) := by decide +kernel
theorem d_X0_addNext_30 : decode m_X0_addNext.2.1 30 = .ok (.if_icmp .ge 55, 3) := by decide +kernel
theorem d_X0_addNext_33 : decode m_X0_addNext.2.1 33 = .ok (.aload_n 0, 1) := by decide +kernel
theorem d_X0_addNext_34 : decode m_X0_addNext.2.1 34 = .ok (.getfield 15, 3) := by decide +kernel
theorem d_X0_addNext_37 : decode m_X0_addNext.2.1 37 = .ok (.iload 4, 2) := by decide +kernel
theorem d_X0_addNext_39 : decode m_X0_addNext.2.1 39 = .ok (.invokestatic 29, 3) := by decide +kernel
theorem d_X0_addNext_42 : decode m_X0_addNext.2.1 42 = .ok (.iload_n 3, 1) := by decide +kernel
theorem d_X0_addNext_43 : decode m_X0_addNext.2.1 43 = .ok (.if_icmp .ne 36, 3) := by decide +kernel
theorem d_X0_addNext_46 : decode m_X0_addNext.2.1 46 = .ok (.iload_n 2, 1) := by decide +kernel
theorem d_X0_addNext_47 : decode m_X0_addNext.2.1 47 = .ok (.iload 5, 2) := by decide +kernel
theorem d_X0_addNext_49 : decode m_X0_addNext.2.1 49 = .ok (.invokestatic 33, 3) := by decide +kernel
theorem d_X0_addNext_52 : decode m_X0_addNext.2.1 52 = .ok (.ifCond .eq 27, 3) := by decide +kernel
theorem d_X0_addNext_55 : decode m_X0_addNext.2.1 55 = .ok (.aload_n 0, 1) := by decide +kernel
theorem d_X0_addNext_56 : decode m_X0_addNext.2.1 56 = .ok (.aload_n 1, 1) := by decide +kernel
theorem d_X0_addNext_57 : decode m_X0_addNext.2.1 57 = .ok (.iload 5, 2) := by decide +kernel
theorem d_X0_addNext_59 : decode m_X0_addNext.2.1 59 = .ok (.aload_n 0, 1) := by decide +kernel
theorem d_X0_addNext_60 : decode m_X0_addNext.2.1 60 = .ok (.getfield 9, 3) := by decide +kernel
theorem d_X0_addNext_63 : decode m_X0_addNext.2.1 63 = .ok (.iload 4, 2) := by decide +kernel
theorem d_X0_addNext_65 : decode m_X0_addNext.2.1 65 = .ok (.invokestatic 29, 3) := by decide +kernel
theorem d_X0_addNext_68 : decode m_X0_addNext.2.1 68 = .ok (.invokevirtual 37, 3) := by decide +kernel
theorem d_X0_addNext_71 : decode m_X0_addNext.2.1 71 = .ok (.iload_n 3, 1) := by decide +kernel
theorem d_X0_addNext_72 : decode m_X0_addNext.2.1 72 = .ok (.iconst 1, 1) := by decide +kernel
theorem d_X0_addNext_73 : decode m_X0_addNext.2.1 73 = .ok (.iadd, 1) := by decide +kernel
theorem d_X0_addNext_74 : decode m_X0_addNext.2.1 74 = .ok (.iload 5, 2) := by decide +kernel
theorem d_X0_addNext_76 : decode m_X0_addNext.2.1 76 = .ok (.invokevirtual 43, 3) := by decide +kernel
theorem d_X0_addNext_79 : decode m_X0_addNext.2.1 79 = .ok (.iinc 5 1, 3) := by decide +kernel
theorem d_X0_addNext_82 : decode m_X0_addNext.2.1 82 = .ok (.goto (-55), 3) := by decide +kernel
theorem d_X0_addNext_85 : decode m_X0_addNext.2.1 85 = .ok (.iinc 4 1, 3) := by decide +kernel
theorem d_X0_addNext_88 : decode m_X0_addNext.2.1 88 = .ok (.goto (-80), 3) := by decide +kernel
theorem d_X0_addNext_91 : decode m_X0_addNext.2.1 91 = .ok (.return_, 1) := by decide +kernel
theorem d_X0_add_0 : decode m_X0_add.2.1 0 = .ok (.iload_n 1, 1) := by decide +kernel
theorem d_X0_add_1 : decode m_X0_add.2.1 1 = .ok (.ifCond .gt 4, 3) := by decide +kernel
theorem d_X0_add_4 : decode m_X0_add.2.1 4 = .ok (.return_, 1) := by decide +kernel
theorem d_X0_add_5 : decode m_X0_add.2.1 5 = .ok (.aload_n 0, 1) := by decide +kernel
theorem d_X0_add_6 : decode m_X0_add.2.1 6 = .ok (.iload_n 1, 1) := by decide +kernel
theorem d_X0_add_7 : decode m_X0_add.2.1 7 = .ok (.invokevirtual 47, 3) := by decide +kernel
theorem d_X0_add_10 : decode m_X0_add.2.1 10 = .ok (.istore 4, 2) := by decide +kernel
theorem d_X0_add_12 : decode m_X0_add.2.1 12 = .ok (.iload 4, 2) := by decide +kernel
theorem d_X0_add_14 : decode m_X0_add.2.1 14 = .ok (.aload_n 0, 1) := by decide +kernel
theorem d_X0_add_15 : decode m_X0_add.2.1 15 = .ok (.getfield 21, 3) := by decide +kernel
theorem d_X0_add_18 : decode m_X0_add.2.1 18 = .ok (.if_icmp .ge 52, 3) := by decide +kernel
theorem d_X0_add_21 : decode m_X0_add.2.1 21 = .ok (.aload_n 0, 1) := by decide +kernel
theorem d_X0_add_22 : decode m_X0_add.2.1 22 = .ok (.getfield 9, 3) := by decide +kernel
theorem d_X0_add_25 : decode m_X0_add.2.1 25 = .ok (.iload 4, 2) := by decide +kernel
theorem d_X0_add_27 : decode m_X0_add.2.1 27 = .ok (.invokestatic 29, 3) := by decide +kernel
theorem d_X0_add_30 : decode m_X0_add.2.1 30 = .ok (.iload_n 1, 1) := by decide +kernel
theorem d_X0_add_31 : decode m_X0_add.2.1 31 = .ok (.if_icmp .ne 39, 3) := by decide +kernel
theorem d_X0_add_34 : decode m_X0_add.2.1 34 = .ok (.aload_n 0, 1) := by decide +kernel
theorem d_X0_add_35 : decode m_X0_add.2.1 35 = .ok (.getfield 15, 3) := by decide +kernel
theorem d_X0_add_38 : decode m_X0_add.2.1 38 = .ok (.iload 4, 2) := by decide +kernel
theorem d_X0_add_40 : decode m_X0_add.2.1 40 = .ok (.invokestatic 29, 3) := by decide +kernel
theorem d_X0_add_43 : decode m_X0_add.2.1 43 = .ok (.iload_n 2, 1) := by decide +kernel
theorem d_X0_add_44 : decode m_X0_add.2.1 44 = .ok (.if_icmp .ne 25, 3) := by decide +kernel
theorem d_X0_add_47 : decode m_X0_add.2.1 47 = .ok (.aload_n 0, 1) := by decide +kernel
theorem d_X0_add_48 : decode m_X0_add.2.1 48 = .ok (.getfield 18, 3) := by decide +kernel
theorem d_X0_add_51 : decode m_X0_add.2.1 51 = .ok (.iload 4, 2) := by decide +kernel
theorem d_X0_add_53 : decode m_X0_add.2.1 53 = .ok (.iload_n 3, 1) := by decide +kernel
theorem d_X0_add_54 : decode m_X0_add.2.1 54 = .ok (.aload_n 0, 1) := by decide +kernel
theorem d_X0_add_55 : decode m_X0_add.2.1 55 = .ok (.getfield 18, 3) := by decide +kernel
theorem d_X0_add_58 : decode m_X0_add.2.1 58 = .ok (.iload 4, 2) := by decide +kernel
theorem d_X0_add_60 : decode m_X0_add.2.1 60 = .ok (.invokestatic 29, 3) := by decide +kernel
theorem d_X0_add_63 : decode m_X0_add.2.1 63 = .ok (.invokestatic 51, 3) := by decide +kernel
theorem d_X0_add_66 : decode m_X0_add.2.1 66 = .ok (.invokestatic 56, 3) := by decide +kernel
theorem d_X0_add_69 : decode m_X0_add.2.1 69 = .ok (.return_, 1) := by decide +kernel
theorem d_X0_add_70 : decode m_X0_add.2.1 70 = .ok (.aload_n 0, 1) := by decide +kernel
theorem d_X0_add_71 : decode m_X0_add.2.1 71 = .ok (.getfield 21, 3) := by decide +kernel
theorem d_X0_add_74 : decode m_X0_add.2.1 74 = .ok (.bipush 40, 2) := by decide +kernel
theorem d_X0_add_76 : decode m_X0_add.2.1 76 = .ok (.if_icmp .lt 4, 3) := by decide +kernel
theorem d_X0_add_79 : decode m_X0_add.2.1 79 = .ok (.return_, 1) := by decide +kernel
theorem d_X0_add_80 : decode m_X0_add.2.1 80 = .ok (.aload_n 0, 1) := by decide +kernel
theorem d_X0_add_81 : decode m_X0_add.2.1 81 = .ok (.getfield 9, 3) := by decide +kernel
theorem d_X0_add_84 : decode m_X0_add.2.1 84 = .ok (.iload 4, 2) := by decide +kernel
theorem d_X0_add_86 : decode m_X0_add.2.1 86 = .ok (.aload_n 0, 1) := by decide +kernel
theorem d_X0_add_87 : decode m_X0_add.2.1 87 = .ok (.getfield 21, 3) := by decide +kernel
theorem d_X0_add_90 : decode m_X0_add.2.1 90 = .ok (.invokestatic 60, 3) := by decide +kernel
theorem d_X0_add_93 : decode m_X0_add.2.1 93 = .ok (.aload_n 0, 1) := by decide +kernel
theorem d_X0_add_94 : decode m_X0_add.2.1 94 = .ok (.getfield 15, 3) := by decide +kernel
theorem d_X0_add_97 : decode m_X0_add.2.1 97 = .ok (.iload 4, 2) := by decide +kernel
theorem d_X0_add_99 : decode m_X0_add.2.1 99 = .ok (.aload_n 0, 1) := by decide +kernel
theorem d_X0_add_100 : decode m_X0_add.2.1 100 = .ok (.getfield 21, 3) := by decide +kernel
theorem d_X0_add_103 : decode m_X0_add.2.1 103 = .ok (.invokestatic 60, 3) := by decide +kernel
theorem d_X0_add_106 : decode m_X0_add.2.1 106 = .ok (.aload_n 0, 1) := by decide +kernel
theorem d_X0_add_107 : decode m_X0_add.2.1 107 = .ok (.getfield 18, 3) := by decide +kernel
theorem d_X0_add_110 : decode m_X0_add.2.1 110 = .ok (.iload 4, 2) := by decide +kernel
theorem d_X0_add_112 : decode m_X0_add.2.1 112 = .ok (.aload_n 0, 1) := by decide +kernel
theorem d_X0_add_113 : decode m_X0_add.2.1 113 = .ok (.getfield 21, 3) := by decide +kernel
theorem d_X0_add_116 : decode m_X0_add.2.1 116 = .ok (.invokestatic 60, 3) := by decide +kernel
theorem d_X0_add_119 : decode m_X0_add.2.1 119 = .ok (.aload_n 0, 1) := by decide +kernel
theorem d_X0_add_120 : decode m_X0_add.2.1 120 = .ok (.getfield 9, 3) := by decide +kernel
theorem d_X0_add_123 : decode m_X0_add.2.1 123 = .ok (.iload 4, 2) := by decide +kernel
theorem d_X0_add_125 : decode m_X0_add.2.1 125 = .ok (.iload_n 1, 1) := by decide +kernel
theorem d_X0_add_126 : decode m_X0_add.2.1 126 = .ok (.invokestatic 56, 3) := by decide +kernel
theorem d_X0_add_129 : decode m_X0_add.2.1 129 = .ok (.aload_n 0, 1) := by decide +kernel
theorem d_X0_add_130 : decode m_X0_add.2.1 130 = .ok (.getfield 15, 3) := by decide +kernel
theorem d_X0_add_133 : decode m_X0_add.2.1 133 = .ok (.iload 4, 2) := by decide +kernel
theorem d_X0_add_135 : decode m_X0_add.2.1 135 = .ok (.iload_n 2, 1) := by decide +kernel
theorem d_X0_add_136 : decode m_X0_add.2.1 136 = .ok (.invokestatic 56, 3) := by decide +kernel
theorem d_X0_add_139 : decode m_X0_add.2.1 139 = .ok (.aload_n 0, 1) := by decide +kernel
theorem d_X0_add_140 : decode m_X0_add.2.1 140 = .ok (.getfield 18, 3) := by decide +kernel
theorem d_X0_add_143 : decode m_X0_add.2.1 143 = .ok (.iload 4, 2) := by decide +kernel
theorem d_X0_add_145 : decode m_X0_add.2.1 145 = .ok (.iload_n 3, 1) := by decide +kernel
theorem d_X0_add_146 : decode m_X0_add.2.1 146 = .ok (.invokestatic 56, 3) := by decide +kernel
theorem d_X0_add_149 : decode m_X0_add.2.1 149 = .ok (.aload_n 0, 1) := by decide +kernel
theorem d_X0_add_150 : decode m_X0_add.2.1 150 = .ok (.dup, 1) := by decide +kernel
theorem d_X0_add_151 : decode m_X0_add.2.1 151 = .ok (.getfield 21, 3) := by decide +kernel
theorem d_X0_add_154 : decode m_X0_add.2.1 154 = .ok (.iconst 1, 1) := by decide +kernel
theorem d_X0_add_155 : decode m_X0_add.2.1 155 = .ok (.iadd, 1) := by decide +kernel
theorem d_X0_add_156 : decode m_X0_add.2.1 156 = .ok (.putfield 21, 3) := by decide +kernel
theorem d_X0_add_159 : decode m_X0_add.2.1 159 = .ok (.return_, 1) := by decide +kernel
theorem d_X0_next_0 : decode m_X0_next.2.1 0 = .ok (.aload_n 0, 1) := by decide +kernel
theorem d_X0_next_1 : decode m_X0_next.2.1 1 = .ok (.iload_n 1, 1) := by decide +kernel
theorem d_X0_next_2 : decode m_X0_next.2.1 2 = .ok (.iconst 1, 1) := by decide +kernel
theorem d_X0_next_3 : decode m_X0_next.2.1 3 = .ok (.iadd, 1) := by decide +kernel
theorem d_X0_next_4 : decode m_X0_next.2.1 4 = .ok (.invokevirtual 47, 3) := by decide +kernel
theorem d_X0_next_7 : decode m_X0_next.2.1 7 = .ok (.istore_n 2, 1) := by decide +kernel
theorem d_X0_next_8 : decode m_X0_next.2.1 8 = .ok (.iload_n 2, 1) := by decide +kernel
theorem d_X0_next_9 : decode m_X0_next.2.1 9 = .ok (.aload_n 0, 1) := by decide +kernel
theorem d_X0_next_10 : decode m_X0_next.2.1 10 = .ok (.getfield 21, 3) := by decide +kernel
theorem d_X0_next_13 : decode m_X0_next.2.1 13 = .ok (.if_icmp .ge 14, 3) := by decide +kernel
theorem d_X0_next_16 : decode m_X0_next.2.1 16 = .ok (.aload_n 0, 1) := by decide +kernel
theorem d_X0_next_17 : decode m_X0_next.2.1 17 = .ok (.getfield 9, 3) := by decide +kernel
theorem d_X0_next_20 : decode m_X0_next.2.1 20 = .ok (.iload_n 2, 1) := by decide +kernel
theorem d_X0_next_21 : decode m_X0_next.2.1 21 = .ok (.invokestatic 29, 3) := by decide +kernel
theorem d_X0_next_24 : decode m_X0_next.2.1 24 = .ok (.goto 6, 3) := by decide +kernel
theorem d_X0_next_27 : decode m_X0_next.2.1 27 = .ok (.sipush 8000, 3) := by decide +kernel
theorem d_X0_next_30 : decode m_X0_next.2.1 30 = .ok (.ireturn, 1) := by decide +kernel
theorem d_X0_pointsBefore_0 : decode m_X0_pointsBefore.2.1 0 = .ok (.iconst 0, 1) := by decide +kernel
theorem d_X0_pointsBefore_1 : decode m_X0_pointsBefore.2.1 1 = .ok (.istore_n 2, 1) := by decide +kernel
theorem d_X0_pointsBefore_2 : decode m_X0_pointsBefore.2.1 2 = .ok (.iload_n 2, 1) := by decide +kernel
theorem d_X0_pointsBefore_3 : decode m_X0_pointsBefore.2.1 3 = .ok (.bipush 40, 2) := by decide +kernel
theorem d_X0_pointsBefore_5 : decode m_X0_pointsBefore.2.1 5 = .ok (.if_icmp .ge 29, 3) := by decide +kernel
theorem d_X0_pointsBefore_8 : decode m_X0_pointsBefore.2.1 8 = .ok (.iload_n 2, 1) := by decide +kernel
theorem d_X0_pointsBefore_9 : decode m_X0_pointsBefore.2.1 9 = .ok (.aload_n 0, 1) := by decide +kernel
theorem d_X0_pointsBefore_10 : decode m_X0_pointsBefore.2.1 10 = .ok (.getfield 21, 3) := by decide +kernel
theorem d_X0_pointsBefore_13 : decode m_X0_pointsBefore.2.1 13 = .ok (.if_icmp .ge 21, 3) := by decide +kernel
theorem d_X0_pointsBefore_16 : decode m_X0_pointsBefore.2.1 16 = .ok (.aload_n 0, 1) := by decide +kernel
theorem d_X0_pointsBefore_17 : decode m_X0_pointsBefore.2.1 17 = .ok (.getfield 9, 3) := by decide +kernel
theorem d_X0_pointsBefore_20 : decode m_X0_pointsBefore.2.1 20 = .ok (.iload_n 2, 1) := by decide +kernel
theorem d_X0_pointsBefore_21 : decode m_X0_pointsBefore.2.1 21 = .ok (.invokestatic 29, 3) := by decide +kernel
theorem d_X0_pointsBefore_24 : decode m_X0_pointsBefore.2.1 24 = .ok (.iload_n 1, 1) := by decide +kernel
theorem d_X0_pointsBefore_25 : decode m_X0_pointsBefore.2.1 25 = .ok (.if_icmp .ge 9, 3) := by decide +kernel
theorem d_X0_pointsBefore_28 : decode m_X0_pointsBefore.2.1 28 = .ok (.iinc 2 1, 3) := by decide +kernel
theorem d_X0_pointsBefore_31 : decode m_X0_pointsBefore.2.1 31 = .ok (.goto (-29), 3) := by decide +kernel
theorem d_X0_pointsBefore_34 : decode m_X0_pointsBefore.2.1 34 = .ok (.iload_n 2, 1) := by decide +kernel
theorem d_X0_pointsBefore_35 : decode m_X0_pointsBefore.2.1 35 = .ok (.ireturn, 1) := by decide +kernel
theorem d_X0_copyFrom_0 : decode m_X0_copyFrom.2.1 0 = .ok (.aload_n 1, 1) := by decide +kernel
theorem d_X0_copyFrom_1 : decode m_X0_copyFrom.2.1 1 = .ok (.ifnonnull 4, 3) := by decide +kernel
theorem d_X0_copyFrom_4 : decode m_X0_copyFrom.2.1 4 = .ok (.return_, 1) := by decide +kernel
theorem d_X0_copyFrom_5 : decode m_X0_copyFrom.2.1 5 = .ok (.aload_n 0, 1) := by decide +kernel
theorem d_X0_copyFrom_6 : decode m_X0_copyFrom.2.1 6 = .ok (.aload_n 1, 1) := by decide +kernel
theorem d_X0_copyFrom_7 : decode m_X0_copyFrom.2.1 7 = .ok (.getfield 21, 3) := by decide +kernel
theorem d_X0_copyFrom_10 : decode m_X0_copyFrom.2.1 10 = .ok (.putfield 21, 3) := by decide +kernel
theorem d_X0_copyFrom_13 : decode m_X0_copyFrom.2.1 13 = .ok (.aload_n 1, 1) := by decide +kernel
theorem d_X0_copyFrom_14 : decode m_X0_copyFrom.2.1 14 = .ok (.getfield 9, 3) := by decide +kernel
theorem d_X0_copyFrom_17 : decode m_X0_copyFrom.2.1 17 = .ok (.aload_n 0, 1) := by decide +kernel
theorem d_X0_copyFrom_18 : decode m_X0_copyFrom.2.1 18 = .ok (.getfield 9, 3) := by decide +kernel
theorem d_X0_copyFrom_21 : decode m_X0_copyFrom.2.1 21 = .ok (.bipush 40, 2) := by decide +kernel
theorem d_X0_copyFrom_23 : decode m_X0_copyFrom.2.1 23 = .ok (.invokestatic 63, 3) := by decide +kernel
theorem d_X0_copyFrom_26 : decode m_X0_copyFrom.2.1 26 = .ok (.aload_n 1, 1) := by decide +kernel
theorem d_X0_copyFrom_27 : decode m_X0_copyFrom.2.1 27 = .ok (.getfield 15, 3) := by decide +kernel
theorem d_X0_copyFrom_30 : decode m_X0_copyFrom.2.1 30 = .ok (.aload_n 0, 1) := by decide +kernel
theorem d_X0_copyFrom_31 : decode m_X0_copyFrom.2.1 31 = .ok (.getfield 15, 3) := by decide +kernel
theorem d_X0_copyFrom_34 : decode m_X0_copyFrom.2.1 34 = .ok (.bipush 40, 2) := by decide +kernel
theorem d_X0_copyFrom_36 : decode m_X0_copyFrom.2.1 36 = .ok (.invokestatic 63, 3) := by decide +kernel
theorem d_X0_copyFrom_39 : decode m_X0_copyFrom.2.1 39 = .ok (.aload_n 1, 1) := by decide +kernel
theorem d_X0_copyFrom_40 : decode m_X0_copyFrom.2.1 40 = .ok (.getfield 18, 3) := by decide +kernel
theorem d_X0_copyFrom_43 : decode m_X0_copyFrom.2.1 43 = .ok (.aload_n 0, 1) := by decide +kernel
theorem d_X0_copyFrom_44 : decode m_X0_copyFrom.2.1 44 = .ok (.getfield 18, 3) := by decide +kernel
theorem d_X0_copyFrom_47 : decode m_X0_copyFrom.2.1 47 = .ok (.bipush 40, 2) := by decide +kernel
theorem d_X0_copyFrom_49 : decode m_X0_copyFrom.2.1 49 = .ok (.invokestatic 63, 3) := by decide +kernel
theorem d_X0_copyFrom_52 : decode m_X0_copyFrom.2.1 52 = .ok (.return_, 1) := by decide +kernel
theorem d_X1_init_0 : decode m_X1_init.2.1 0 = .ok (.aload_n 0, 1) := by decide +kernel
theorem d_X1_init_1 : decode m_X1_init.2.1 1 = .ok (.invokespecial 3, 3) := by decide +kernel
theorem d_X1_init_4 : decode m_X1_init.2.1 4 = .ok (.aload_n 0, 1) := by decide +kernel
theorem d_X1_init_5 : decode m_X1_init.2.1 5 = .ok (.iconst 3, 1) := by decide +kernel
theorem d_X1_init_6 : decode m_X1_init.2.1 6 = .ok (.newarray .int, 2) := by decide +kernel
theorem d_X1_init_8 : decode m_X1_init.2.1 8 = .ok (.putfield 9, 3) := by decide +kernel
theorem d_X1_init_11 : decode m_X1_init.2.1 11 = .ok (.aload_n 0, 1) := by decide +kernel
theorem d_X1_init_12 : decode m_X1_init.2.1 12 = .ok (.bipush 18, 2) := by decide +kernel
theorem d_X1_init_14 : decode m_X1_init.2.1 14 = .ok (.newarray .int, 2) := by decide +kernel
theorem d_X1_init_16 : decode m_X1_init.2.1 16 = .ok (.putfield 15, 3) := by decide +kernel
theorem d_X1_init_19 : decode m_X1_init.2.1 19 = .ok (.aload_n 0, 1) := by decide +kernel
theorem d_X1_init_20 : decode m_X1_init.2.1 20 = .ok (.bipush 18, 2) := by decide +kernel
theorem d_X1_init_22 : decode m_X1_init.2.1 22 = .ok (.newarray .int, 2) := by decide +kernel
theorem d_X1_init_24 : decode m_X1_init.2.1 24 = .ok (.putfield 18, 3) := by decide +kernel
theorem d_X1_init_27 : decode m_X1_init.2.1 27 = .ok (.return_, 1) := by decide +kernel
theorem d_X1_hasPointAt_0 : decode m_X1_hasPointAt.2.1 0 = .ok (.aload_n 0, 1) := by decide +kernel
theorem d_X1_hasPointAt_1 : decode m_X1_hasPointAt.2.1 1 = .ok (.iload_n 1, 1) := by decide +kernel
theorem d_X1_hasPointAt_2 : decode m_X1_hasPointAt.2.1 2 = .ok (.iload_n 2, 1) := by decide +kernel
theorem d_X1_hasPointAt_3 : decode m_X1_hasPointAt.2.1 3 = .ok (.invokevirtual 21, 3) := by decide +kernel
theorem d_X1_hasPointAt_6 : decode m_X1_hasPointAt.2.1 6 = .ok (.istore_n 3, 1) := by decide +kernel
theorem d_X1_hasPointAt_7 : decode m_X1_hasPointAt.2.1 7 = .ok (.iload_n 3, 1) := by decide +kernel
theorem d_X1_hasPointAt_8 : decode m_X1_hasPointAt.2.1 8 = .ok (.ifCond .le 26, 3) := by decide +kernel
theorem d_X1_hasPointAt_11 : decode m_X1_hasPointAt.2.1 11 = .ok (.aload_n 0, 1) := by decide +kernel
theorem d_X1_hasPointAt_12 : decode m_X1_hasPointAt.2.1 12 = .ok (.getfield 15, 3) := by decide +kernel
theorem d_X1_hasPointAt_15 : decode m_X1_hasPointAt.2.1 15 = .ok (.iload_n 1, 1) := by decide +kernel
theorem d_X1_hasPointAt_16 : decode m_X1_hasPointAt.2.1 16 = .ok (.bipush 6, 2) := by decide +kernel
theorem d_X1_hasPointAt_18 : decode m_X1_hasPointAt.2.1 18 = .ok (.imul, 1) := by decide +kernel
theorem d_X1_hasPointAt_19 : decode m_X1_hasPointAt.2.1 19 = .ok (.iload_n 3, 1) := by decide +kernel
theorem d_X1_hasPointAt_20 : decode m_X1_hasPointAt.2.1 20 = .ok (.iadd, 1) := by decide +kernel
theorem d_X1_hasPointAt_21 : decode m_X1_hasPointAt.2.1 21 = .ok (.iconst 1, 1) := by decide +kernel
theorem d_X1_hasPointAt_22 : decode m_X1_hasPointAt.2.1 22 = .ok (.isub, 1) := by decide +kernel
theorem d_X1_hasPointAt_23 : decode m_X1_hasPointAt.2.1 23 = .ok (.invokestatic 25, 3) := by decide +kernel
theorem d_X1_hasPointAt_26 : decode m_X1_hasPointAt.2.1 26 = .ok (.iload_n 2, 1) := by decide +kernel
theorem d_X1_hasPointAt_27 : decode m_X1_hasPointAt.2.1 27 = .ok (.if_icmp .ne 7, 3) := by decide +kernel
theorem d_X1_hasPointAt_30 : decode m_X1_hasPointAt.2.1 30 = .ok (.iconst 1, 1) := by decide +kernel
theorem d_X1_hasPointAt_31 : decode m_X1_hasPointAt.2.1 31 = .ok (.goto 4, 3) := by decide +kernel
theorem d_X1_hasPointAt_34 : decode m_X1_hasPointAt.2.1 34 = .ok (.iconst 0, 1) := by decide +kernel
theorem d_X1_hasPointAt_35 : decode m_X1_hasPointAt.2.1 35 = .ok (.ireturn, 1) := by decide +kernel
theorem d_X1_add_0 : decode m_X1_add.2.1 0 = .ok (.aload_n 0, 1) := by decide +kernel
theorem d_X1_add_1 : decode m_X1_add.2.1 1 = .ok (.getfield 9, 3) := by decide +kernel
theorem d_X1_add_4 : decode m_X1_add.2.1 4 = .ok (.iload_n 1, 1) := by decide +kernel
theorem d_X1_add_5 : decode m_X1_add.2.1 5 = .ok (.invokestatic 25, 3) := by decide +kernel
theorem d_X1_add_8 : decode m_X1_add.2.1 8 = .ok (.istore 4, 2) := by decide +kernel
theorem d_X1_add_10 : decode m_X1_add.2.1 10 = .ok (.iload 4, 2) := by decide +kernel
theorem d_X1_add_12 : decode m_X1_add.2.1 12 = .ok (.bipush 6, 2) := by decide +kernel
theorem d_X1_add_14 : decode m_X1_add.2.1 14 = .ok (.if_icmp .lt 4, 3) := by decide +kernel
theorem d_X1_add_17 : decode m_X1_add.2.1 17 = .ok (.return_, 1) := by decide +kernel
theorem d_X1_add_18 : decode m_X1_add.2.1 18 = .ok (.iload_n 1, 1) := by decide +kernel
theorem d_X1_add_19 : decode m_X1_add.2.1 19 = .ok (.bipush 6, 2) := by decide +kernel
theorem d_X1_add_21 : decode m_X1_add.2.1 21 = .ok (.imul, 1) := by decide +kernel
theorem d_X1_add_22 : decode m_X1_add.2.1 22 = .ok (.istore 5, 2) := by decide +kernel
theorem d_X1_add_24 : decode m_X1_add.2.1 24 = .ok (.iload 5, 2) := by decide +kernel
theorem d_X1_add_26 : decode m_X1_add.2.1 26 = .ok (.aload_n 0, 1) := by decide +kernel
theorem d_X1_add_27 : decode m_X1_add.2.1 27 = .ok (.iload_n 1, 1) := by decide +kernel
theorem d_X1_add_28 : decode m_X1_add.2.1 28 = .ok (.iload_n 2, 1) := by decide +kernel
theorem d_X1_add_29 : decode m_X1_add.2.1 29 = .ok (.invokevirtual 21, 3) := by decide +kernel
theorem d_X1_add_32 : decode m_X1_add.2.1 32 = .ok (.iadd, 1) := by decide +kernel
theorem d_X1_add_33 : decode m_X1_add.2.1 33 = .ok (.istore 6, 2) := by decide +kernel
theorem d_X1_add_35 : decode m_X1_add.2.1 35 = .ok (.aload_n 0, 1) := by decide +kernel
theorem d_X1_add_36 : decode m_X1_add.2.1 36 = .ok (.getfield 15, 3) := by decide +kernel
theorem d_X1_add_39 : decode m_X1_add.2.1 39 = .ok (.iload 6, 2) := by decide +kernel
theorem d_X1_add_41 : decode m_X1_add.2.1 41 = .ok (.iload 5, 2) := by decide +kernel
theorem d_X1_add_43 : decode m_X1_add.2.1 43 = .ok (.iload 4, 2) := by decide +kernel
theorem d_X1_add_45 : decode m_X1_add.2.1 45 = .ok (.iadd, 1) := by decide +kernel
theorem d_X1_add_46 : decode m_X1_add.2.1 46 = .ok (.invokestatic 29, 3) := by decide +kernel
theorem d_X1_add_49 : decode m_X1_add.2.1 49 = .ok (.aload_n 0, 1) := by decide +kernel
theorem d_X1_add_50 : decode m_X1_add.2.1 50 = .ok (.getfield 18, 3) := by decide +kernel
theorem d_X1_add_53 : decode m_X1_add.2.1 53 = .ok (.iload 6, 2) := by decide +kernel
theorem d_X1_add_55 : decode m_X1_add.2.1 55 = .ok (.iload 5, 2) := by decide +kernel
theorem d_X1_add_57 : decode m_X1_add.2.1 57 = .ok (.iload 4, 2) := by decide +kernel
theorem d_X1_add_59 : decode m_X1_add.2.1 59 = .ok (.iadd, 1) := by decide +kernel
theorem d_X1_add_60 : decode m_X1_add.2.1 60 = .ok (.invokestatic 29, 3) := by decide +kernel
theorem d_X1_add_63 : decode m_X1_add.2.1 63 = .ok (.aload_n 0, 1) := by decide +kernel
theorem d_X1_add_64 : decode m_X1_add.2.1 64 = .ok (.getfield 15, 3) := by decide +kernel
theorem d_X1_add_67 : decode m_X1_add.2.1 67 = .ok (.iload 6, 2) := by decide +kernel
theorem d_X1_add_69 : decode m_X1_add.2.1 69 = .ok (.iload_n 2, 1) := by decide +kernel
theorem d_X1_add_70 : decode m_X1_add.2.1 70 = .ok (.invokestatic 33, 3) := by decide +kernel
theorem d_X1_add_73 : decode m_X1_add.2.1 73 = .ok (.aload_n 0, 1) := by decide +kernel
theorem d_X1_add_74 : decode m_X1_add.2.1 74 = .ok (.getfield 18, 3) := by decide +kernel
theorem d_X1_add_77 : decode m_X1_add.2.1 77 = .ok (.iload 6, 2) := by decide +kernel
theorem d_X1_add_79 : decode m_X1_add.2.1 79 = .ok (.iload_n 3, 1) := by decide +kernel
theorem d_X1_add_80 : decode m_X1_add.2.1 80 = .ok (.invokestatic 33, 3) := by decide +kernel
theorem d_X1_add_83 : decode m_X1_add.2.1 83 = .ok (.aload_n 0, 1) := by decide +kernel
theorem d_X1_add_84 : decode m_X1_add.2.1 84 = .ok (.getfield 9, 3) := by decide +kernel
theorem d_X1_add_87 : decode m_X1_add.2.1 87 = .ok (.iload_n 1, 1) := by decide +kernel
theorem d_X1_add_88 : decode m_X1_add.2.1 88 = .ok (.iload 4, 2) := by decide +kernel
theorem d_X1_add_90 : decode m_X1_add.2.1 90 = .ok (.iconst 1, 1) := by decide +kernel
theorem d_X1_add_91 : decode m_X1_add.2.1 91 = .ok (.iadd, 1) := by decide +kernel
theorem d_X1_add_92 : decode m_X1_add.2.1 92 = .ok (.invokestatic 33, 3) := by decide +kernel
theorem d_X1_add_95 : decode m_X1_add.2.1 95 = .ok (.return_, 1) := by decide +kernel
theorem d_X1_valueAt_0 : decode m_X1_valueAt.2.1 0 = .ok (.aload_n 0, 1) := by decide +kernel
theorem d_X1_valueAt_1 : decode m_X1_valueAt.2.1 1 = .ok (.getfield 9, 3) := by decide +kernel
theorem d_X1_valueAt_4 : decode m_X1_valueAt.2.1 4 = .ok (.iload_n 1, 1) := by decide +kernel
theorem d_X1_valueAt_5 : decode m_X1_valueAt.2.1 5 = .ok (.invokestatic 25, 3) := by decide +kernel
theorem d_X1_valueAt_8 : decode m_X1_valueAt.2.1 8 = .ok (.istore_n 3, 1) := by decide +kernel
theorem d_X1_valueAt_9 : decode m_X1_valueAt.2.1 9 = .ok (.iload_n 3, 1) := by decide +kernel
theorem d_X1_valueAt_10 : decode m_X1_valueAt.2.1 10 = .ok (.ifCond .ne 5, 3) := by decide +kernel
theorem d_X1_valueAt_13 : decode m_X1_valueAt.2.1 13 = .ok (.iconst 0, 1) := by decide +kernel
theorem d_X1_valueAt_14 : decode m_X1_valueAt.2.1 14 = .ok (.ireturn, 1) := by decide +kernel
theorem d_X1_valueAt_15 : decode m_X1_valueAt.2.1 15 = .ok (.aload_n 0, 1) := by decide +kernel
theorem d_X1_valueAt_16 : decode m_X1_valueAt.2.1 16 = .ok (.iload_n 1, 1) := by decide +kernel
theorem d_X1_valueAt_17 : decode m_X1_valueAt.2.1 17 = .ok (.iload_n 2, 1) := by decide +kernel
theorem d_X1_valueAt_18 : decode m_X1_valueAt.2.1 18 = .ok (.invokevirtual 21, 3) := by decide +kernel
theorem d_X1_valueAt_21 : decode m_X1_valueAt.2.1 21 = .ok (.istore 4, 2) := by decide +kernel
theorem d_X1_valueAt_23 : decode m_X1_valueAt.2.1 23 = .ok (.iload_n 1, 1) := by decide +kernel
theorem d_X1_valueAt_24 : decode m_X1_valueAt.2.1 24 = .ok (.bipush 6, 2) := by decide +kernel
theorem d_X1_valueAt_26 : decode m_X1_valueAt.2.1 26 = .ok (.imul, 1) := by decide +kernel
theorem d_X1_valueAt_27 : decode m_X1_valueAt.2.1 27 = .ok (.iload 4, 2) := by decide +kernel
theorem d_X1_valueAt_29 : decode m_X1_valueAt.2.1 29 = .ok (.iadd, 1) := by decide +kernel
theorem d_X1_valueAt_30 : decode m_X1_valueAt.2.1 30 = .ok (.istore 5, 2) := by decide +kernel
theorem d_X1_valueAt_32 : decode m_X1_valueAt.2.1 32 = .ok (.iload 4, 2) := by decide +kernel
theorem d_X1_valueAt_34 : decode m_X1_valueAt.2.1 34 = .ok (.ifCond .ne 13, 3) := by decide +kernel
theorem d_X1_valueAt_37 : decode m_X1_valueAt.2.1 37 = .ok (.aload_n 0, 1) := by decide +kernel
theorem d_X1_valueAt_38 : decode m_X1_valueAt.2.1 38 = .ok (.getfield 18, 3) := by decide +kernel
theorem d_X1_valueAt_41 : decode m_X1_valueAt.2.1 41 = .ok (.iload 5, 2) := by decide +kernel
theorem d_X1_valueAt_43 : decode m_X1_valueAt.2.1 43 = .ok (.invokestatic 25, 3) := by decide +kernel
theorem d_X1_valueAt_46 : decode m_X1_valueAt.2.1 46 = .ok (.ireturn, 1) := by decide +kernel
theorem d_X1_valueAt_47 : decode m_X1_valueAt.2.1 47 = .ok (.aload_n 0, 1) := by decide +kernel
theorem d_X1_valueAt_48 : decode m_X1_valueAt.2.1 48 = .ok (.getfield 18, 3) := by decide +kernel
theorem d_X1_valueAt_51 : decode m_X1_valueAt.2.1 51 = .ok (.iload 5, 2) := by decide +kernel
theorem d_X1_valueAt_53 : decode m_X1_valueAt.2.1 53 = .ok (.iconst 1, 1) := by decide +kernel
theorem d_X1_valueAt_54 : decode m_X1_valueAt.2.1 54 = .ok (.isub, 1) := by decide +kernel
theorem d_X1_valueAt_55 : decode m_X1_valueAt.2.1 55 = .ok (.invokestatic 25, 3) := by decide +kernel
theorem d_X1_valueAt_58 : decode m_X1_valueAt.2.1 58 = .ok (.i2l, 1) := by decide +kernel
theorem d_X1_valueAt_59 : decode m_X1_valueAt.2.1 59 = .ok (.lstore 6, 2) := by decide +kernel
theorem d_X1_valueAt_61 : decode m_X1_valueAt.2.1 61 = .ok (.iload 4, 2) := by decide +kernel
theorem d_X1_valueAt_63 : decode m_X1_valueAt.2.1 63 = .ok (.iload_n 3, 1) := by decide +kernel
theorem d_X1_valueAt_64 : decode m_X1_valueAt.2.1 64 = .ok (.if_icmp .ne 7, 3) := by decide +kernel
theorem d_X1_valueAt_67 : decode m_X1_valueAt.2.1 67 = .ok (.lload 6, 2) := by decide +kernel
theorem d_X1_valueAt_69 : decode m_X1_valueAt.2.1 69 = .ok (.l2i, 1) := by decide +kernel
theorem d_X1_valueAt_70 : decode m_X1_valueAt.2.1 70 = .ok (.ireturn, 1) := by decide +kernel
theorem d_X1_valueAt_71 : decode m_X1_valueAt.2.1 71 = .ok (.aload_n 0, 1) := by decide +kernel
theorem d_X1_valueAt_72 : decode m_X1_valueAt.2.1 72 = .ok (.getfield 15, 3) := by decide +kernel
theorem d_X1_valueAt_75 : decode m_X1_valueAt.2.1 75 = .ok (.iload 5, 2) := by decide +kernel
theorem d_X1_valueAt_77 : decode m_X1_valueAt.2.1 77 = .ok (.iconst 1, 1) := by decide +kernel
theorem d_X1_valueAt_78 : decode m_X1_valueAt.2.1 78 = .ok (.isub, 1) := by decide +kernel
theorem d_X1_valueAt_79 : decode m_X1_valueAt.2.1 79 = .ok (.invokestatic 25, 3) := by decide +kernel
theorem d_X1_valueAt_82 : decode m_X1_valueAt.2.1 82 = .ok (.i2l, 1) := by decide +kernel
theorem d_X1_valueAt_83 : decode m_X1_valueAt.2.1 83 = .ok (.lstore 8, 2) := by decide +kernel
theorem d_X1_valueAt_85 : decode m_X1_valueAt.2.1 85 = .ok (.aload_n 0, 1) := by decide +kernel
theorem d_X1_valueAt_86 : decode m_X1_valueAt.2.1 86 = .ok (.getfield 18, 3) := by decide +kernel
theorem d_X1_valueAt_89 : decode m_X1_valueAt.2.1 89 = .ok (.iload 5, 2) := by decide +kernel
theorem d_X1_valueAt_91 : decode m_X1_valueAt.2.1 91 = .ok (.invokestatic 25, 3) := by decide +kernel
theorem d_X1_valueAt_94 : decode m_X1_valueAt.2.1 94 = .ok (.i2l, 1) := by decide +kernel
theorem d_X1_valueAt_95 : decode m_X1_valueAt.2.1 95 = .ok (.lload 6, 2) := by decide +kernel
theorem d_X1_valueAt_97 : decode m_X1_valueAt.2.1 97 = .ok (.lsub, 1) := by decide +kernel
theorem d_X1_valueAt_98 : decode m_X1_valueAt.2.1 98 = .ok (.lstore 10, 2) := by decide +kernel
theorem d_X1_valueAt_100 : decode m_X1_valueAt.2.1 100 = .ok (.lload 6, 2) := by decide +kernel
theorem d_X1_valueAt_102 : decode m_X1_valueAt.2.1 102 = .ok (.lload 10, 2) := by decide +kernel
theorem d_X1_valueAt_104 : decode m_X1_valueAt.2.1 104 = .ok (.iload_n 2, 1) := by decide +kernel
theorem d_X1_valueAt_105 : decode m_X1_valueAt.2.1 105 = .ok (.i2l, 1) := by decide +kernel
theorem d_X1_valueAt_106 : decode m_X1_valueAt.2.1 106 = .ok (.lload 8, 2) := by decide +kernel
theorem d_X1_valueAt_108 : decode m_X1_valueAt.2.1 108 = .ok (.lsub, 1) := by decide +kernel
theorem d_X1_valueAt_109 : decode m_X1_valueAt.2.1 109 = .ok (.lmul, 1) := by decide +kernel
theorem d_X1_valueAt_110 : decode m_X1_valueAt.2.1 110 = .ok (.aload_n 0, 1) := by decide +kernel
theorem d_X1_valueAt_111 : decode m_X1_valueAt.2.1 111 = .ok (.getfield 15, 3) := by decide +kernel
theorem d_X1_valueAt_114 : decode m_X1_valueAt.2.1 114 = .ok (.iload 5, 2) := by decide +kernel
theorem d_X1_valueAt_116 : decode m_X1_valueAt.2.1 116 = .ok (.invokestatic 25, 3) := by decide +kernel
theorem d_X1_valueAt_119 : decode m_X1_valueAt.2.1 119 = .ok (.i2l, 1) := by decide +kernel
theorem d_X1_valueAt_120 : decode m_X1_valueAt.2.1 120 = .ok (.lload 8, 2) := by decide +kernel
theorem d_X1_valueAt_122 : decode m_X1_valueAt.2.1 122 = .ok (.lsub, 1) := by decide +kernel
theorem d_X1_valueAt_123 : decode m_X1_valueAt.2.1 123 = .ok (.invokestatic 36, 3) := by decide +kernel
theorem d_X1_valueAt_126 : decode m_X1_valueAt.2.1 126 = .ok (.ladd, 1) := by decide +kernel
theorem d_X1_valueAt_127 : decode m_X1_valueAt.2.1 127 = .ok (.l2i, 1) := by decide +kernel
theorem d_X1_valueAt_128 : decode m_X1_valueAt.2.1 128 = .ok (.ireturn, 1) := by decide +kernel
theorem d_X1_slopeAt_0 : decode m_X1_slopeAt.2.1 0 = .ok (.aload_n 0, 1) := by decide +kernel
theorem d_X1_slopeAt_1 : decode m_X1_slopeAt.2.1 1 = .ok (.iload_n 1, 1) := by decide +kernel
theorem d_X1_slopeAt_2 : decode m_X1_slopeAt.2.1 2 = .ok (.iload_n 2, 1) := by decide +kernel
theorem d_X1_slopeAt_3 : decode m_X1_slopeAt.2.1 3 = .ok (.invokevirtual 21, 3) := by decide +kernel
theorem d_X1_slopeAt_6 : decode m_X1_slopeAt.2.1 6 = .ok (.istore_n 3, 1) := by decide +kernel
theorem d_X1_slopeAt_7 : decode m_X1_slopeAt.2.1 7 = .ok (.iload_n 3, 1) := by decide +kernel
theorem d_X1_slopeAt_8 : decode m_X1_slopeAt.2.1 8 = .ok (.ifCond .eq 15, 3) := by decide +kernel
theorem d_X1_slopeAt_11 : decode m_X1_slopeAt.2.1 11 = .ok (.iload_n 3, 1) := by decide +kernel
theorem d_X1_slopeAt_12 : decode m_X1_slopeAt.2.1 12 = .ok (.aload_n 0, 1) := by decide +kernel
theorem d_X1_slopeAt_13 : decode m_X1_slopeAt.2.1 13 = .ok (.getfield 9, 3) := by decide +kernel
theorem d_X1_slopeAt_16 : decode m_X1_slopeAt.2.1 16 = .ok (.iload_n 1, 1) := by decide +kernel
theorem d_X1_slopeAt_17 : decode m_X1_slopeAt.2.1 17 = .ok (.invokestatic 25, 3) := by decide +kernel
theorem d_X1_slopeAt_20 : decode m_X1_slopeAt.2.1 20 = .ok (.if_icmp .ne 5, 3) := by decide +kernel
theorem d_X1_slopeAt_23 : decode m_X1_slopeAt.2.1 23 = .ok (.iconst 0, 1) := by decide +kernel
theorem d_X1_slopeAt_24 : decode m_X1_slopeAt.2.1 24 = .ok (.ireturn, 1) := by decide +kernel
theorem d_X1_slopeAt_25 : decode m_X1_slopeAt.2.1 25 = .ok (.iload_n 1, 1) := by decide +kernel
theorem d_X1_slopeAt_26 : decode m_X1_slopeAt.2.1 26 = .ok (.bipush 6, 2) := by decide +kernel
theorem d_X1_slopeAt_28 : decode m_X1_slopeAt.2.1 28 = .ok (.imul, 1) := by decide +kernel
theorem d_X1_slopeAt_29 : decode m_X1_slopeAt.2.1 29 = .ok (.iload_n 3, 1) := by decide +kernel
theorem d_X1_slopeAt_30 : decode m_X1_slopeAt.2.1 30 = .ok (.iadd, 1) := by decide +kernel
theorem d_X1_slopeAt_31 : decode m_X1_slopeAt.2.1 31 = .ok (.istore 4, 2) := by decide +kernel
theorem d_X1_slopeAt_33 : decode m_X1_slopeAt.2.1 33 = .ok (.aload_n 0, 1) := by decide +kernel
theorem d_X1_slopeAt_34 : decode m_X1_slopeAt.2.1 34 = .ok (.getfield 18, 3) := by decide +kernel
theorem d_X1_slopeAt_37 : decode m_X1_slopeAt.2.1 37 = .ok (.iload 4, 2) := by decide +kernel
theorem d_X1_slopeAt_39 : decode m_X1_slopeAt.2.1 39 = .ok (.invokestatic 25, 3) := by decide +kernel
theorem d_X1_slopeAt_42 : decode m_X1_slopeAt.2.1 42 = .ok (.i2l, 1) := by decide +kernel
theorem d_X1_slopeAt_43 : decode m_X1_slopeAt.2.1 43 = .ok (.aload_n 0, 1) := by decide +kernel
theorem d_X1_slopeAt_44 : decode m_X1_slopeAt.2.1 44 = .ok (.getfield 18, 3) := by decide +kernel
theorem d_X1_slopeAt_47 : decode m_X1_slopeAt.2.1 47 = .ok (.iload 4, 2) := by decide +kernel
theorem d_X1_slopeAt_49 : decode m_X1_slopeAt.2.1 49 = .ok (.iconst 1, 1) := by decide +kernel
theorem d_X1_slopeAt_50 : decode m_X1_slopeAt.2.1 50 = .ok (.isub, 1) := by decide +kernel
theorem d_X1_slopeAt_51 : decode m_X1_slopeAt.2.1 51 = .ok (.invokestatic 25, 3) := by decide +kernel
theorem d_X1_slopeAt_54 : decode m_X1_slopeAt.2.1 54 = .ok (.i2l, 1) := by decide +kernel
theorem d_X1_slopeAt_55 : decode m_X1_slopeAt.2.1 55 = .ok (.lsub, 1) := by decide +kernel
theorem d_X1_slopeAt_56 : decode m_X1_slopeAt.2.1 56 = .ok (.lstore 5, 2) := by decide +kernel
theorem d_X1_slopeAt_58 : decode m_X1_slopeAt.2.1 58 = .ok (.lload 5, 2) := by decide +kernel
theorem d_X1_slopeAt_60 : decode m_X1_slopeAt.2.1 60 = .ok (.ldc2_w 40, 3) := by decide +kernel
theorem d_X1_slopeAt_63 : decode m_X1_slopeAt.2.1 63 = .ok (.lmul, 1) := by decide +kernel
theorem d_X1_slopeAt_64 : decode m_X1_slopeAt.2.1 64 = .ok (.aload_n 0, 1) := by decide +kernel
theorem d_X1_slopeAt_65 : decode m_X1_slopeAt.2.1 65 = .ok (.getfield 15, 3) := by decide +kernel
theorem d_X1_slopeAt_68 : decode m_X1_slopeAt.2.1 68 = .ok (.iload 4, 2) := by decide +kernel
theorem d_X1_slopeAt_70 : decode m_X1_slopeAt.2.1 70 = .ok (.invokestatic 25, 3) := by decide +kernel
theorem d_X1_slopeAt_73 : decode m_X1_slopeAt.2.1 73 = .ok (.aload_n 0, 1) := by decide +kernel
theorem d_X1_slopeAt_74 : decode m_X1_slopeAt.2.1 74 = .ok (.getfield 15, 3) := by decide +kernel
theorem d_X1_slopeAt_77 : decode m_X1_slopeAt.2.1 77 = .ok (.iload 4, 2) := by decide +kernel
theorem d_X1_slopeAt_79 : decode m_X1_slopeAt.2.1 79 = .ok (.iconst 1, 1) := by decide +kernel
theorem d_X1_slopeAt_80 : decode m_X1_slopeAt.2.1 80 = .ok (.isub, 1) := by decide +kernel
theorem d_X1_slopeAt_81 : decode m_X1_slopeAt.2.1 81 = .ok (.invokestatic 25, 3) := by decide +kernel
theorem d_X1_slopeAt_84 : decode m_X1_slopeAt.2.1 84 = .ok (.isub, 1) := by decide +kernel
theorem d_X1_slopeAt_85 : decode m_X1_slopeAt.2.1 85 = .ok (.i2l, 1) := by decide +kernel
theorem d_X1_slopeAt_86 : decode m_X1_slopeAt.2.1 86 = .ok (.invokestatic 36, 3) := by decide +kernel
theorem d_X1_slopeAt_89 : decode m_X1_slopeAt.2.1 89 = .ok (.l2i, 1) := by decide +kernel
theorem d_X1_slopeAt_90 : decode m_X1_slopeAt.2.1 90 = .ok (.ireturn, 1) := by decide +kernel
theorem d_X1_pointsUpTo_0 : decode m_X1_pointsUpTo.2.1 0 = .ok (.bipush 6, 2) := by decide +kernel
theorem d_X1_pointsUpTo_2 : decode m_X1_pointsUpTo.2.1 2 = .ok (.aload_n 0, 1) := by decide +kernel
theorem d_X1_pointsUpTo_3 : decode m_X1_pointsUpTo.2.1 3 = .ok (.getfield 9, 3) := by decide +kernel
theorem d_X1_pointsUpTo_6 : decode m_X1_pointsUpTo.2.1 6 = .ok (.iload_n 1, 1) := by decide +kernel
theorem d_X1_pointsUpTo_7 : decode m_X1_pointsUpTo.2.1 7 = .ok (.invokestatic 25, 3) := by decide +kernel
theorem d_X1_pointsUpTo_10 : decode m_X1_pointsUpTo.2.1 10 = .ok (.invokestatic 42, 3) := by decide +kernel
theorem d_X1_pointsUpTo_13 : decode m_X1_pointsUpTo.2.1 13 = .ok (.istore_n 3, 1) := by decide +kernel
theorem d_X1_pointsUpTo_14 : decode m_X1_pointsUpTo.2.1 14 = .ok (.iconst 0, 1) := by decide +kernel
theorem d_X1_pointsUpTo_15 : decode m_X1_pointsUpTo.2.1 15 = .ok (.istore 4, 2) := by decide +kernel
theorem d_X1_pointsUpTo_17 : decode m_X1_pointsUpTo.2.1 17 = .ok (.iload 4, 2) := by decide +kernel
theorem d_X1_pointsUpTo_19 : decode m_X1_pointsUpTo.2.1 19 = .ok (.iload_n 3, 1) := by decide +kernel
theorem d_X1_pointsUpTo_20 : decode m_X1_pointsUpTo.2.1 20 = .ok (.if_icmp .ge 27, 3) := by decide +kernel
theorem d_X1_pointsUpTo_23 : decode m_X1_pointsUpTo.2.1 23 = .ok (.aload_n 0, 1) := by decide +kernel
theorem d_X1_pointsUpTo_24 : decode m_X1_pointsUpTo.2.1 24 = .ok (.getfield 15, 3) := by decide +kernel
theorem d_X1_pointsUpTo_27 : decode m_X1_pointsUpTo.2.1 27 = .ok (.iload_n 1, 1) := by decide +kernel
theorem d_X1_pointsUpTo_28 : decode m_X1_pointsUpTo.2.1 28 = .ok (.bipush 6, 2) := by decide +kernel
theorem d_X1_pointsUpTo_30 : decode m_X1_pointsUpTo.2.1 30 = .ok (.imul, 1) := by decide +kernel
theorem d_X1_pointsUpTo_31 : decode m_X1_pointsUpTo.2.1 31 = .ok (.iload 4, 2) := by decide +kernel
theorem d_X1_pointsUpTo_33 : decode m_X1_pointsUpTo.2.1 33 = .ok (.iadd, 1) := by decide +kernel
theorem d_X1_pointsUpTo_34 : decode m_X1_pointsUpTo.2.1 34 = .ok (.invokestatic 25, 3) := by decide +kernel
theorem d_X1_pointsUpTo_37 : decode m_X1_pointsUpTo.2.1 37 = .ok (.iload_n 2, 1) := by decide +kernel
theorem d_X1_pointsUpTo_38 : decode m_X1_pointsUpTo.2.1 38 = .ok (.if_icmp .gt 9, 3) := by decide +kernel
theorem d_X1_pointsUpTo_41 : decode m_X1_pointsUpTo.2.1 41 = .ok (.iinc 4 1, 3) := by decide +kernel
theorem d_X1_pointsUpTo_44 : decode m_X1_pointsUpTo.2.1 44 = .ok (.goto (-27), 3) := by decide +kernel
theorem d_X1_pointsUpTo_47 : decode m_X1_pointsUpTo.2.1 47 = .ok (.iload 4, 2) := by decide +kernel
theorem d_X1_pointsUpTo_49 : decode m_X1_pointsUpTo.2.1 49 = .ok (.ireturn, 1) := by decide +kernel
theorem d_X1_copyFrom_0 : decode m_X1_copyFrom.2.1 0 = .ok (.aload_n 1, 1) := by decide +kernel
theorem d_X1_copyFrom_1 : decode m_X1_copyFrom.2.1 1 = .ok (.ifnonnull 4, 3) := by decide +kernel
theorem d_X1_copyFrom_4 : decode m_X1_copyFrom.2.1 4 = .ok (.return_, 1) := by decide +kernel
theorem d_X1_copyFrom_5 : decode m_X1_copyFrom.2.1 5 = .ok (.aload_n 1, 1) := by decide +kernel
theorem d_X1_copyFrom_6 : decode m_X1_copyFrom.2.1 6 = .ok (.getfield 9, 3) := by decide +kernel
theorem d_X1_copyFrom_9 : decode m_X1_copyFrom.2.1 9 = .ok (.aload_n 0, 1) := by decide +kernel
theorem d_X1_copyFrom_10 : decode m_X1_copyFrom.2.1 10 = .ok (.getfield 9, 3) := by decide +kernel
theorem d_X1_copyFrom_13 : decode m_X1_copyFrom.2.1 13 = .ok (.iconst 3, 1) := by decide +kernel
theorem d_X1_copyFrom_14 : decode m_X1_copyFrom.2.1 14 = .ok (.invokestatic 47, 3) := by decide +kernel
theorem d_X1_copyFrom_17 : decode m_X1_copyFrom.2.1 17 = .ok (.aload_n 1, 1) := by decide +kernel
theorem d_X1_copyFrom_18 : decode m_X1_copyFrom.2.1 18 = .ok (.getfield 15, 3) := by decide +kernel
theorem d_X1_copyFrom_21 : decode m_X1_copyFrom.2.1 21 = .ok (.aload_n 0, 1) := by decide +kernel
theorem d_X1_copyFrom_22 : decode m_X1_copyFrom.2.1 22 = .ok (.getfield 15, 3) := by decide +kernel
theorem d_X1_copyFrom_25 : decode m_X1_copyFrom.2.1 25 = .ok (.bipush 18, 2) := by decide +kernel
theorem d_X1_copyFrom_27 : decode m_X1_copyFrom.2.1 27 = .ok (.invokestatic 47, 3) := by decide +kernel
theorem d_X1_copyFrom_30 : decode m_X1_copyFrom.2.1 30 = .ok (.aload_n 1, 1) := by decide +kernel
theorem d_X1_copyFrom_31 : decode m_X1_copyFrom.2.1 31 = .ok (.getfield 18, 3) := by decide +kernel
theorem d_X1_copyFrom_34 : decode m_X1_copyFrom.2.1 34 = .ok (.aload_n 0, 1) := by decide +kernel
theorem d_X1_copyFrom_35 : decode m_X1_copyFrom.2.1 35 = .ok (.getfield 18, 3) := by decide +kernel
theorem d_X1_copyFrom_38 : decode m_X1_copyFrom.2.1 38 = .ok (.bipush 18, 2) := by decide +kernel
theorem d_X1_copyFrom_40 : decode m_X1_copyFrom.2.1 40 = .ok (.invokestatic 47, 3) := by decide +kernel
theorem d_X1_copyFrom_43 : decode m_X1_copyFrom.2.1 43 = .ok (.return_, 1) := by decide +kernel
theorem d_X2_init_0 : decode m_X2_init.2.1 0 = .ok (.aload_n 0, 1) := by decide +kernel
theorem d_X2_init_1 : decode m_X2_init.2.1 1 = .ok (.invokespecial 3, 3) := by decide +kernel
theorem d_X2_init_4 : decode m_X2_init.2.1 4 = .ok (.aload_n 0, 1) := by decide +kernel
theorem d_X2_init_5 : decode m_X2_init.2.1 5 = .ok (.iconst 4, 1) := by decide +kernel
theorem d_X2_init_6 : decode m_X2_init.2.1 6 = .ok (.anewarray 9, 3) := by decide +kernel
theorem d_X2_init_9 : decode m_X2_init.2.1 9 = .ok (.putfield 11, 3) := by decide +kernel
theorem d_X2_init_12 : decode m_X2_init.2.1 12 = .ok (.return_, 1) := by decide +kernel
theorem d_X2_record_0 : decode m_X2_record.2.1 0 = .ok (.aload_n 0, 1) := by decide +kernel
theorem d_X2_record_1 : decode m_X2_record.2.1 1 = .ok (.getfield 17, 3) := by decide +kernel
theorem d_X2_record_4 : decode m_X2_record.2.1 4 = .ok (.aload_n 0, 1) := by decide +kernel
theorem d_X2_record_5 : decode m_X2_record.2.1 5 = .ok (.getfield 11, 3) := by decide +kernel
theorem d_X2_record_8 : decode m_X2_record.2.1 8 = .ok (.arraylength, 1) := by decide +kernel
theorem d_X2_record_9 : decode m_X2_record.2.1 9 = .ok (.if_icmp .lt 7, 3) := by decide +kernel
theorem d_X2_record_12 : decode m_X2_record.2.1 12 = .ok (.aload_n 0, 1) := by decide +kernel
theorem d_X2_record_13 : decode m_X2_record.2.1 13 = .ok (.invokevirtual 21, 3) := by decide +kernel
theorem d_X2_record_16 : decode m_X2_record.2.1 16 = .ok (.aload_n 0, 1) := by decide +kernel
theorem d_X2_record_17 : decode m_X2_record.2.1 17 = .ok (.getfield 17, 3) := by decide +kernel
theorem d_X2_record_20 : decode m_X2_record.2.1 20 = .ok (.ifCond .lt 15, 3) := by decide +kernel
theorem d_X2_record_23 : decode m_X2_record.2.1 23 = .ok (.aload_n 0, 1) := by decide +kernel
theorem d_X2_record_24 : decode m_X2_record.2.1 24 = .ok (.getfield 17, 3) := by decide +kernel
theorem d_X2_record_27 : decode m_X2_record.2.1 27 = .ok (.aload_n 0, 1) := by decide +kernel
theorem d_X2_record_28 : decode m_X2_record.2.1 28 = .ok (.getfield 11, 3) := by decide +kernel
theorem d_X2_record_31 : decode m_X2_record.2.1 31 = .ok (.arraylength, 1) := by decide +kernel
theorem d_X2_record_32 : decode m_X2_record.2.1 32 = .ok (.if_icmp .lt 4, 3) := by decide +kernel
theorem d_X2_record_35 : decode m_X2_record.2.1 35 = .ok (.return_, 1) := by decide +kernel
theorem d_X2_record_36 : decode m_X2_record.2.1 36 = .ok (.aload_n 0, 1) := by decide +kernel
theorem d_X2_record_37 : decode m_X2_record.2.1 37 = .ok (.getfield 11, 3) := by decide +kernel
theorem d_X2_record_40 : decode m_X2_record.2.1 40 = .ok (.aload_n 0, 1) := by decide +kernel
theorem d_X2_record_41 : decode m_X2_record.2.1 41 = .ok (.getfield 17, 3) := by decide +kernel
theorem d_X2_record_44 : decode m_X2_record.2.1 44 = .ok (.aaload, 1) := by decide +kernel
theorem d_X2_record_45 : decode m_X2_record.2.1 45 = .ok (.astore_n 2, 1) := by decide +kernel
theorem d_X2_record_46 : decode m_X2_record.2.1 46 = .ok (.aload_n 2, 1) := by decide +kernel
theorem d_X2_record_47 : decode m_X2_record.2.1 47 = .ok (.ifnonnull 21, 3) := by decide +kernel
theorem d_X2_record_50 : decode m_X2_record.2.1 50 = .ok (.new 9, 3) := by decide +kernel
theorem d_X2_record_53 : decode m_X2_record.2.1 53 = .ok (.dup, 1) := by decide +kernel
theorem d_X2_record_54 : decode m_X2_record.2.1 54 = .ok (.invokespecial 24, 3) := by decide +kernel
theorem d_X2_record_57 : decode m_X2_record.2.1 57 = .ok (.astore_n 2, 1) := by decide +kernel
theorem d_X2_record_58 : decode m_X2_record.2.1 58 = .ok (.aload_n 0, 1) := by decide +kernel
theorem d_X2_record_59 : decode m_X2_record.2.1 59 = .ok (.getfield 11, 3) := by decide +kernel
theorem d_X2_record_62 : decode m_X2_record.2.1 62 = .ok (.aload_n 0, 1) := by decide +kernel
theorem d_X2_record_63 : decode m_X2_record.2.1 63 = .ok (.getfield 17, 3) := by decide +kernel
theorem d_X2_record_66 : decode m_X2_record.2.1 66 = .ok (.aload_n 2, 1) := by decide +kernel
theorem d_X2_record_67 : decode m_X2_record.2.1 67 = .ok (.aastore, 1) := by decide +kernel
theorem d_X2_record_68 : decode m_X2_record.2.1 68 = .ok (.aload_n 2, 1) := by decide +kernel
theorem d_X2_record_69 : decode m_X2_record.2.1 69 = .ok (.aload_n 1, 1) := by decide +kernel
theorem d_X2_record_70 : decode m_X2_record.2.1 70 = .ok (.invokevirtual 25, 3) := by decide +kernel
theorem d_X2_record_73 : decode m_X2_record.2.1 73 = .ok (.aload_n 0, 1) := by decide +kernel
theorem d_X2_record_74 : decode m_X2_record.2.1 74 = .ok (.dup, 1) := by decide +kernel
theorem d_X2_record_75 : decode m_X2_record.2.1 75 = .ok (.getfield 17, 3) := by decide +kernel
theorem d_X2_record_78 : decode m_X2_record.2.1 78 = .ok (.iconst 1, 1) := by decide +kernel
theorem d_X2_record_79 : decode m_X2_record.2.1 79 = .ok (.iadd, 1) := by decide +kernel
theorem d_X2_record_80 : decode m_X2_record.2.1 80 = .ok (.putfield 17, 3) := by decide +kernel
theorem d_X2_record_83 : decode m_X2_record.2.1 83 = .ok (.return_, 1) := by decide +kernel
theorem d_X2_dropOldest_0 : decode m_X2_dropOldest.2.1 0 = .ok (.aload_n 0, 1) := by decide +kernel
theorem d_X2_dropOldest_1 : decode m_X2_dropOldest.2.1 1 = .ok (.getfield 11, 3) := by decide +kernel
theorem d_X2_dropOldest_4 : decode m_X2_dropOldest.2.1 4 = .ok (.arraylength, 1) := by decide +kernel
theorem d_X2_dropOldest_5 : decode m_X2_dropOldest.2.1 5 = .ok (.ifCond .ne 4, 3) := by decide +kernel
theorem d_X2_dropOldest_8 : decode m_X2_dropOldest.2.1 8 = .ok (.return_, 1) := by decide +kernel
theorem d_X2_dropOldest_9 : decode m_X2_dropOldest.2.1 9 = .ok (.aload_n 0, 1) := by decide +kernel
theorem d_X2_dropOldest_10 : decode m_X2_dropOldest.2.1 10 = .ok (.getfield 11, 3) := by decide +kernel
theorem d_X2_dropOldest_13 : decode m_X2_dropOldest.2.1 13 = .ok (.iconst 0, 1) := by decide +kernel
theorem d_X2_dropOldest_14 : decode m_X2_dropOldest.2.1 14 = .ok (.aaload, 1) := by decide +kernel
theorem d_X2_dropOldest_15 : decode m_X2_dropOldest.2.1 15 = .ok (.astore_n 1, 1) := by decide +kernel
theorem d_X2_dropOldest_16 : decode m_X2_dropOldest.2.1 16 = .ok (.iconst 1, 1) := by decide +kernel
theorem d_X2_dropOldest_17 : decode m_X2_dropOldest.2.1 17 = .ok (.istore_n 2, 1) := by decide +kernel
theorem d_X2_dropOldest_18 : decode m_X2_dropOldest.2.1 18 = .ok (.iload_n 2, 1) := by decide +kernel
theorem d_X2_dropOldest_19 : decode m_X2_dropOldest.2.1 19 = .ok (.aload_n 0, 1) := by decide +kernel
theorem d_X2_dropOldest_20 : decode m_X2_dropOldest.2.1 20 = .ok (.getfield 11, 3) := by decide +kernel
theorem d_X2_dropOldest_23 : decode m_X2_dropOldest.2.1 23 = .ok (.arraylength, 1) := by decide +kernel
theorem d_X2_dropOldest_24 : decode m_X2_dropOldest.2.1 24 = .ok (.if_icmp .ge 23, 3) := by decide +kernel
theorem d_X2_dropOldest_27 : decode m_X2_dropOldest.2.1 27 = .ok (.aload_n 0, 1) := by decide +kernel
theorem d_X2_dropOldest_28 : decode m_X2_dropOldest.2.1 28 = .ok (.getfield 11, 3) := by decide +kernel
theorem d_X2_dropOldest_31 : decode m_X2_dropOldest.2.1 31 = .ok (.iload_n 2, 1) := by decide +kernel
theorem d_X2_dropOldest_32 : decode m_X2_dropOldest.2.1 32 = .ok (.iconst 1, 1) := by decide +kernel
theorem d_X2_dropOldest_33 : decode m_X2_dropOldest.2.1 33 = .ok (.isub, 1) := by decide +kernel
theorem d_X2_dropOldest_34 : decode m_X2_dropOldest.2.1 34 = .ok (.aload_n 0, 1) := by decide +kernel
theorem d_X2_dropOldest_35 : decode m_X2_dropOldest.2.1 35 = .ok (.getfield 11, 3) := by decide +kernel
theorem d_X2_dropOldest_38 : decode m_X2_dropOldest.2.1 38 = .ok (.iload_n 2, 1) := by decide +kernel
theorem d_X2_dropOldest_39 : decode m_X2_dropOldest.2.1 39 = .ok (.aaload, 1) := by decide +kernel
theorem d_X2_dropOldest_40 : decode m_X2_dropOldest.2.1 40 = .ok (.aastore, 1) := by decide +kernel
theorem d_X2_dropOldest_41 : decode m_X2_dropOldest.2.1 41 = .ok (.iinc 2 1, 3) := by decide +kernel
theorem d_X2_dropOldest_44 : decode m_X2_dropOldest.2.1 44 = .ok (.goto (-26), 3) := by decide +kernel
theorem d_X2_dropOldest_47 : decode m_X2_dropOldest.2.1 47 = .ok (.aload_n 0, 1) := by decide +kernel
theorem d_X2_dropOldest_48 : decode m_X2_dropOldest.2.1 48 = .ok (.getfield 11, 3) := by decide +kernel
theorem d_X2_dropOldest_51 : decode m_X2_dropOldest.2.1 51 = .ok (.aload_n 0, 1) := by decide +kernel
theorem d_X2_dropOldest_52 : decode m_X2_dropOldest.2.1 52 = .ok (.getfield 11, 3) := by decide +kernel
theorem d_X2_dropOldest_55 : decode m_X2_dropOldest.2.1 55 = .ok (.arraylength, 1) := by decide +kernel
theorem d_X2_dropOldest_56 : decode m_X2_dropOldest.2.1 56 = .ok (.iconst 1, 1) := by decide +kernel
theorem d_X2_dropOldest_57 : decode m_X2_dropOldest.2.1 57 = .ok (.isub, 1) := by decide +kernel
theorem d_X2_dropOldest_58 : decode m_X2_dropOldest.2.1 58 = .ok (.aload_n 1, 1) := by decide +kernel
theorem d_X2_dropOldest_59 : decode m_X2_dropOldest.2.1 59 = .ok (.aastore, 1) := by decide +kernel
theorem d_X2_dropOldest_60 : decode m_X2_dropOldest.2.1 60 = .ok (.aload_n 0, 1) := by decide +kernel
theorem d_X2_dropOldest_61 : decode m_X2_dropOldest.2.1 61 = .ok (.aload_n 0, 1) := by decide +kernel
theorem d_X2_dropOldest_62 : decode m_X2_dropOldest.2.1 62 = .ok (.getfield 11, 3) := by decide +kernel
theorem d_X2_dropOldest_65 : decode m_X2_dropOldest.2.1 65 = .ok (.arraylength, 1) := by decide +kernel
theorem d_X2_dropOldest_66 : decode m_X2_dropOldest.2.1 66 = .ok (.iconst 1, 1) := by decide +kernel
theorem d_X2_dropOldest_67 : decode m_X2_dropOldest.2.1 67 = .ok (.isub, 1) := by decide +kernel
theorem d_X2_dropOldest_68 : decode m_X2_dropOldest.2.1 68 = .ok (.putfield 17, 3) := by decide +kernel
theorem d_X2_dropOldest_71 : decode m_X2_dropOldest.2.1 71 = .ok (.return_, 1) := by decide +kernel
theorem d_X2_giveBack_0 : decode m_X2_giveBack.2.1 0 = .ok (.aload_n 1, 1) := by decide +kernel
theorem d_X2_giveBack_1 : decode m_X2_giveBack.2.1 1 = .ok (.ifnull 22, 3) := by decide +kernel
theorem d_X2_giveBack_4 : decode m_X2_giveBack.2.1 4 = .ok (.aload_n 0, 1) := by decide +kernel
theorem d_X2_giveBack_5 : decode m_X2_giveBack.2.1 5 = .ok (.getfield 17, 3) := by decide +kernel
theorem d_X2_giveBack_8 : decode m_X2_giveBack.2.1 8 = .ok (.ifCond .le 15, 3) := by decide +kernel
theorem d_X2_giveBack_11 : decode m_X2_giveBack.2.1 11 = .ok (.aload_n 0, 1) := by decide +kernel
theorem d_X2_giveBack_12 : decode m_X2_giveBack.2.1 12 = .ok (.getfield 17, 3) := by decide +kernel
theorem d_X2_giveBack_15 : decode m_X2_giveBack.2.1 15 = .ok (.aload_n 0, 1) := by decide +kernel
theorem d_X2_giveBack_16 : decode m_X2_giveBack.2.1 16 = .ok (.getfield 11, 3) := by decide +kernel
theorem d_X2_giveBack_19 : decode m_X2_giveBack.2.1 19 = .ok (.arraylength, 1) := by decide +kernel
theorem d_X2_giveBack_20 : decode m_X2_giveBack.2.1 20 = .ok (.if_icmp .le 5, 3) := by decide +kernel
theorem d_X2_giveBack_23 : decode m_X2_giveBack.2.1 23 = .ok (.iconst 0, 1) := by decide +kernel
theorem d_X2_giveBack_24 : decode m_X2_giveBack.2.1 24 = .ok (.ireturn, 1) := by decide +kernel
theorem d_X2_giveBack_25 : decode m_X2_giveBack.2.1 25 = .ok (.aload_n 0, 1) := by decide +kernel
theorem d_X2_giveBack_26 : decode m_X2_giveBack.2.1 26 = .ok (.dup, 1) := by decide +kernel
theorem d_X2_giveBack_27 : decode m_X2_giveBack.2.1 27 = .ok (.getfield 17, 3) := by decide +kernel
theorem d_X2_giveBack_30 : decode m_X2_giveBack.2.1 30 = .ok (.iconst 1, 1) := by decide +kernel
theorem d_X2_giveBack_31 : decode m_X2_giveBack.2.1 31 = .ok (.isub, 1) := by decide +kernel
theorem d_X2_giveBack_32 : decode m_X2_giveBack.2.1 32 = .ok (.putfield 17, 3) := by decide +kernel
theorem d_X2_giveBack_35 : decode m_X2_giveBack.2.1 35 = .ok (.aload_n 1, 1) := by decide +kernel
theorem d_X2_giveBack_36 : decode m_X2_giveBack.2.1 36 = .ok (.aload_n 0, 1) := by decide +kernel
theorem d_X2_giveBack_37 : decode m_X2_giveBack.2.1 37 = .ok (.getfield 11, 3) := by decide +kernel
theorem d_X2_giveBack_40 : decode m_X2_giveBack.2.1 40 = .ok (.aload_n 0, 1) := by decide +kernel
theorem d_X2_giveBack_41 : decode m_X2_giveBack.2.1 41 = .ok (.getfield 17, 3) := by decide +kernel
theorem d_X2_giveBack_44 : decode m_X2_giveBack.2.1 44 = .ok (.aaload, 1) := by decide +kernel
theorem d_X2_giveBack_45 : decode m_X2_giveBack.2.1 45 = .ok (.invokevirtual 25, 3) := by decide +kernel
theorem d_X2_giveBack_48 : decode m_X2_giveBack.2.1 48 = .ok (.iconst 1, 1) := by decide +kernel
theorem d_X2_giveBack_49 : decode m_X2_giveBack.2.1 49 = .ok (.ireturn, 1) := by decide +kernel
theorem d_X3_init_0 : decode m_X3_init.2.1 0 = .ok (.aload_n 0, 1) := by decide +kernel
theorem d_X3_init_1 : decode m_X3_init.2.1 1 = .ok (.invokespecial 3, 3) := by decide +kernel
theorem d_X3_init_4 : decode m_X3_init.2.1 4 = .ok (.aload_n 0, 1) := by decide +kernel
theorem d_X3_init_5 : decode m_X3_init.2.1 5 = .ok (.iconst 3, 1) := by decide +kernel
theorem d_X3_init_6 : decode m_X3_init.2.1 6 = .ok (.newarray .int, 2) := by decide +kernel
theorem d_X3_init_8 : decode m_X3_init.2.1 8 = .ok (.putfield 9, 3) := by decide +kernel
theorem d_X3_init_11 : decode m_X3_init.2.1 11 = .ok (.aload_n 0, 1) := by decide +kernel
theorem d_X3_init_12 : decode m_X3_init.2.1 12 = .ok (.iconst 3, 1) := by decide +kernel
theorem d_X3_init_13 : decode m_X3_init.2.1 13 = .ok (.newarray .int, 2) := by decide +kernel
theorem d_X3_init_15 : decode m_X3_init.2.1 15 = .ok (.putfield 15, 3) := by decide +kernel
theorem d_X3_init_18 : decode m_X3_init.2.1 18 = .ok (.return_, 1) := by decide +kernel
theorem d_X3_lagAt_0 : decode m_X3_lagAt.2.1 0 = .ok (.iconst 0, 1) := by decide +kernel
theorem d_X3_lagAt_1 : decode m_X3_lagAt.2.1 1 = .ok (.aload_n 0, 1) := by decide +kernel
theorem d_X3_lagAt_2 : decode m_X3_lagAt.2.1 2 = .ok (.getfield 9, 3) := by decide +kernel
theorem d_X3_lagAt_5 : decode m_X3_lagAt.2.1 5 = .ok (.iload_n 1, 1) := by decide +kernel
theorem d_X3_lagAt_6 : decode m_X3_lagAt.2.1 6 = .ok (.invokestatic 18, 3) := by decide +kernel
theorem d_X3_lagAt_9 : decode m_X3_lagAt.2.1 9 = .ok (.aload_n 0, 1) := by decide +kernel
theorem d_X3_lagAt_10 : decode m_X3_lagAt.2.1 10 = .ok (.getfield 15, 3) := by decide +kernel
theorem d_X3_lagAt_13 : decode m_X3_lagAt.2.1 13 = .ok (.iload_n 1, 1) := by decide +kernel
theorem d_X3_lagAt_14 : decode m_X3_lagAt.2.1 14 = .ok (.invokestatic 18, 3) := by decide +kernel
theorem d_X3_lagAt_17 : decode m_X3_lagAt.2.1 17 = .ok (.iload_n 2, 1) := by decide +kernel
theorem d_X3_lagAt_18 : decode m_X3_lagAt.2.1 18 = .ok (.imul, 1) := by decide +kernel
theorem d_X3_lagAt_19 : decode m_X3_lagAt.2.1 19 = .ok (.sipush 1000, 3) := by decide +kernel
theorem d_X3_lagAt_22 : decode m_X3_lagAt.2.1 22 = .ok (.idiv, 1) := by decide +kernel
theorem d_X3_lagAt_23 : decode m_X3_lagAt.2.1 23 = .ok (.iadd, 1) := by decide +kernel
theorem d_X3_lagAt_24 : decode m_X3_lagAt.2.1 24 = .ok (.invokestatic 22, 3) := by decide +kernel
theorem d_X3_lagAt_27 : decode m_X3_lagAt.2.1 27 = .ok (.ireturn, 1) := by decide +kernel
theorem d_X3_reach_0 : decode m_X3_reach.2.1 0 = .ok (.iload_n 2, 1) := by decide +kernel
theorem d_X3_reach_1 : decode m_X3_reach.2.1 1 = .ok (.iconst 1, 1) := by decide +kernel
theorem d_X3_reach_2 : decode m_X3_reach.2.1 2 = .ok (.iadd, 1) := by decide +kernel
theorem d_X3_reach_3 : decode m_X3_reach.2.1 3 = .ok (.istore_n 3, 1) := by decide +kernel
theorem d_X3_reach_4 : decode m_X3_reach.2.1 4 = .ok (.sipush 8001, 3) := by decide +kernel
theorem d_X3_reach_7 : decode m_X3_reach.2.1 7 = .ok (.istore 4, 2) := by decide +kernel
theorem d_X3_reach_9 : decode m_X3_reach.2.1 9 = .ok (.iconst 0, 1) := by decide +kernel
theorem d_X3_reach_10 : decode m_X3_reach.2.1 10 = .ok (.istore 5, 2) := by decide +kernel
theorem d_X3_reach_12 : decode m_X3_reach.2.1 12 = .ok (.iload 5, 2) := by decide +kernel
theorem d_X3_reach_14 : decode m_X3_reach.2.1 14 = .ok (.sipush 8000, 3) := by decide +kernel
theorem d_X3_reach_17 : decode m_X3_reach.2.1 17 = .ok (.if_icmp .ge 51, 3) := by decide +kernel
theorem d_X3_reach_20 : decode m_X3_reach.2.1 20 = .ok (.iload_n 3, 1) := by decide +kernel
theorem d_X3_reach_21 : decode m_X3_reach.2.1 21 = .ok (.iload 4, 2) := by decide +kernel
theorem d_X3_reach_23 : decode m_X3_reach.2.1 23 = .ok (.if_icmp .ge 45, 3) := by decide +kernel
theorem d_X3_reach_26 : decode m_X3_reach.2.1 26 = .ok (.iload_n 3, 1) := by decide +kernel
theorem d_X3_reach_27 : decode m_X3_reach.2.1 27 = .ok (.iload 4, 2) := by decide +kernel
theorem d_X3_reach_29 : decode m_X3_reach.2.1 29 = .ok (.iload_n 3, 1) := by decide +kernel
theorem d_X3_reach_30 : decode m_X3_reach.2.1 30 = .ok (.isub, 1) := by decide +kernel
theorem d_X3_reach_31 : decode m_X3_reach.2.1 31 = .ok (.iconst 2, 1) := by decide +kernel
theorem d_X3_reach_32 : decode m_X3_reach.2.1 32 = .ok (.idiv, 1) := by decide +kernel
theorem d_X3_reach_33 : decode m_X3_reach.2.1 33 = .ok (.iadd, 1) := by decide +kernel
theorem d_X3_reach_34 : decode m_X3_reach.2.1 34 = .ok (.istore 6, 2) := by decide +kernel
theorem d_X3_reach_36 : decode m_X3_reach.2.1 36 = .ok (.iload 6, 2) := by decide +kernel
theorem d_X3_reach_38 : decode m_X3_reach.2.1 38 = .ok (.aload_n 0, 1) := by decide +kernel
theorem d_X3_reach_39 : decode m_X3_reach.2.1 39 = .ok (.iload_n 1, 1) := by decide +kernel
theorem d_X3_reach_40 : decode m_X3_reach.2.1 40 = .ok (.iload 6, 2) := by decide +kernel
theorem d_X3_reach_42 : decode m_X3_reach.2.1 42 = .ok (.invokevirtual 28, 3) := by decide +kernel
theorem d_X3_reach_45 : decode m_X3_reach.2.1 45 = .ok (.isub, 1) := by decide +kernel
theorem d_X3_reach_46 : decode m_X3_reach.2.1 46 = .ok (.iload_n 2, 1) := by decide +kernel
theorem d_X3_reach_47 : decode m_X3_reach.2.1 47 = .ok (.if_icmp .lt 10, 3) := by decide +kernel
theorem d_X3_reach_50 : decode m_X3_reach.2.1 50 = .ok (.iload 6, 2) := by decide +kernel
theorem d_X3_reach_52 : decode m_X3_reach.2.1 52 = .ok (.istore 4, 2) := by decide +kernel
theorem d_X3_reach_54 : decode m_X3_reach.2.1 54 = .ok (.goto 8, 3) := by decide +kernel
theorem d_X3_reach_57 : decode m_X3_reach.2.1 57 = .ok (.iload 6, 2) := by decide +kernel
theorem d_X3_reach_59 : decode m_X3_reach.2.1 59 = .ok (.iconst 1, 1) := by decide +kernel
theorem d_X3_reach_60 : decode m_X3_reach.2.1 60 = .ok (.iadd, 1) := by decide +kernel
theorem d_X3_reach_61 : decode m_X3_reach.2.1 61 = .ok (.istore_n 3, 1) := by decide +kernel
theorem d_X3_reach_62 : decode m_X3_reach.2.1 62 = .ok (.iinc 5 1, 3) := by decide +kernel
theorem d_X3_reach_65 : decode m_X3_reach.2.1 65 = .ok (.goto (-53), 3) := by decide +kernel
theorem d_X3_reach_68 : decode m_X3_reach.2.1 68 = .ok (.iload_n 3, 1) := by decide +kernel
theorem d_X3_reach_69 : decode m_X3_reach.2.1 69 = .ok (.sipush 8000, 3) := by decide +kernel
theorem d_X3_reach_72 : decode m_X3_reach.2.1 72 = .ok (.if_icmp .gt 12, 3) := by decide +kernel
theorem d_X3_reach_75 : decode m_X3_reach.2.1 75 = .ok (.aload_n 0, 1) := by decide +kernel
theorem d_X3_reach_76 : decode m_X3_reach.2.1 76 = .ok (.iload_n 1, 1) := by decide +kernel
theorem d_X3_reach_77 : decode m_X3_reach.2.1 77 = .ok (.iload_n 3, 1) := by decide +kernel
theorem d_X3_reach_78 : decode m_X3_reach.2.1 78 = .ok (.invokevirtual 28, 3) := by decide +kernel
theorem d_X3_reach_81 : decode m_X3_reach.2.1 81 = .ok (.ifCond .ne 7, 3) := by decide +kernel
theorem d_X3_reach_84 : decode m_X3_reach.2.1 84 = .ok (.iconst 0, 1) := by decide +kernel
theorem d_X3_reach_85 : decode m_X3_reach.2.1 85 = .ok (.goto 4, 3) := by decide +kernel
theorem d_X3_reach_88 : decode m_X3_reach.2.1 88 = .ok (.iload_n 3, 1) := by decide +kernel
theorem d_X3_reach_89 : decode m_X3_reach.2.1 89 = .ok (.ireturn, 1) := by decide +kernel
theorem d_X3_copyFrom_0 : decode m_X3_copyFrom.2.1 0 = .ok (.aload_n 1, 1) := by decide +kernel
theorem d_X3_copyFrom_1 : decode m_X3_copyFrom.2.1 1 = .ok (.ifnonnull 4, 3) := by decide +kernel
theorem d_X3_copyFrom_4 : decode m_X3_copyFrom.2.1 4 = .ok (.return_, 1) := by decide +kernel
theorem d_X3_copyFrom_5 : decode m_X3_copyFrom.2.1 5 = .ok (.aload_n 1, 1) := by decide +kernel
theorem d_X3_copyFrom_6 : decode m_X3_copyFrom.2.1 6 = .ok (.getfield 9, 3) := by decide +kernel
theorem d_X3_copyFrom_9 : decode m_X3_copyFrom.2.1 9 = .ok (.aload_n 0, 1) := by decide +kernel
theorem d_X3_copyFrom_10 : decode m_X3_copyFrom.2.1 10 = .ok (.getfield 9, 3) := by decide +kernel
theorem d_X3_copyFrom_13 : decode m_X3_copyFrom.2.1 13 = .ok (.iconst 3, 1) := by decide +kernel
theorem d_X3_copyFrom_14 : decode m_X3_copyFrom.2.1 14 = .ok (.invokestatic 31, 3) := by decide +kernel
theorem d_X3_copyFrom_17 : decode m_X3_copyFrom.2.1 17 = .ok (.aload_n 1, 1) := by decide +kernel
theorem d_X3_copyFrom_18 : decode m_X3_copyFrom.2.1 18 = .ok (.getfield 15, 3) := by decide +kernel
theorem d_X3_copyFrom_21 : decode m_X3_copyFrom.2.1 21 = .ok (.aload_n 0, 1) := by decide +kernel
theorem d_X3_copyFrom_22 : decode m_X3_copyFrom.2.1 22 = .ok (.getfield 15, 3) := by decide +kernel
theorem d_X3_copyFrom_25 : decode m_X3_copyFrom.2.1 25 = .ok (.iconst 3, 1) := by decide +kernel
theorem d_X3_copyFrom_26 : decode m_X3_copyFrom.2.1 26 = .ok (.invokestatic 31, 3) := by decide +kernel
theorem d_X3_copyFrom_29 : decode m_X3_copyFrom.2.1 29 = .ok (.return_, 1) := by decide +kernel
theorem d_X4_init_0 : decode m_X4_init.2.1 0 = .ok (.aload_n 0, 1) := by decide +kernel
theorem d_X4_init_1 : decode m_X4_init.2.1 1 = .ok (.invokespecial 5, 3) := by decide +kernel
theorem d_X4_init_4 : decode m_X4_init.2.1 4 = .ok (.aload_n 0, 1) := by decide +kernel
theorem d_X4_init_5 : decode m_X4_init.2.1 5 = .ok (.sipush 7688, 3) := by decide +kernel
theorem d_X4_init_8 : decode m_X4_init.2.1 8 = .ok (.newarray .int, 2) := by decide +kernel
theorem d_X4_init_10 : decode m_X4_init.2.1 10 = .ok (.putfield 11, 3) := by decide +kernel
theorem d_X4_init_13 : decode m_X4_init.2.1 13 = .ok (.return_, 1) := by decide +kernel
theorem d_X4_restart_0 : decode m_X4_restart.2.1 0 = .ok (.aload_n 0, 1) := by decide +kernel
theorem d_X4_restart_1 : decode m_X4_restart.2.1 1 = .ok (.iconst 0, 1) := by decide +kernel
theorem d_X4_restart_2 : decode m_X4_restart.2.1 2 = .ok (.putfield 15, 3) := by decide +kernel
theorem d_X4_restart_5 : decode m_X4_restart.2.1 5 = .ok (.aload_n 1, 1) := by decide +kernel
theorem d_X4_restart_6 : decode m_X4_restart.2.1 6 = .ok (.ifnonnull 4, 3) := by decide +kernel
theorem d_X4_restart_9 : decode m_X4_restart.2.1 9 = .ok (.return_, 1) := by decide +kernel
theorem d_X4_restart_10 : decode m_X4_restart.2.1 10 = .ok (.iconst 0, 1) := by decide +kernel
theorem d_X4_restart_11 : decode m_X4_restart.2.1 11 = .ok (.istore_n 2, 1) := by decide +kernel
theorem d_X4_restart_12 : decode m_X4_restart.2.1 12 = .ok (.iload_n 2, 1) := by decide +kernel
theorem d_X4_restart_13 : decode m_X4_restart.2.1 13 = .ok (.iconst 3, 1) := by decide +kernel
theorem d_X4_restart_14 : decode m_X4_restart.2.1 14 = .ok (.if_icmp .ge 25, 3) := by decide +kernel
theorem d_X4_restart_17 : decode m_X4_restart.2.1 17 = .ok (.aload_n 0, 1) := by decide +kernel
theorem d_X4_restart_18 : decode m_X4_restart.2.1 18 = .ok (.getfield 11, 3) := by decide +kernel
theorem d_X4_restart_21 : decode m_X4_restart.2.1 21 = .ok (.iconst 1, 1) := by decide +kernel
theorem d_X4_restart_22 : decode m_X4_restart.2.1 22 = .ok (.iload_n 2, 1) := by decide +kernel
theorem d_X4_restart_23 : decode m_X4_restart.2.1 23 = .ok (.iadd, 1) := by decide +kernel
theorem d_X4_restart_24 : decode m_X4_restart.2.1 24 = .ok (.aload_n 1, 1) := by decide +kernel
theorem d_X4_restart_25 : decode m_X4_restart.2.1 25 = .ok (.iload_n 2, 1) := by decide +kernel
theorem d_X4_restart_26 : decode m_X4_restart.2.1 26 = .ok (.iconst 0, 1) := by decide +kernel
theorem d_X4_restart_27 : decode m_X4_restart.2.1 27 = .ok (.invokevirtual 19, 3) := by decide +kernel
theorem d_X4_restart_30 : decode m_X4_restart.2.1 30 = .ok (.invokestatic 25, 3) := by decide +kernel
theorem d_X4_restart_33 : decode m_X4_restart.2.1 33 = .ok (.iinc 2 1, 3) := by decide +kernel
theorem d_X4_restart_36 : decode m_X4_restart.2.1 36 = .ok (.goto (-24), 3) := by decide +kernel
theorem d_X4_restart_39 : decode m_X4_restart.2.1 39 = .ok (.return_, 1) := by decide +kernel
theorem d_X4_append_0 : decode m_X4_append.2.1 0 = .ok (.aload_n 0, 1) := by decide +kernel
theorem d_X4_append_1 : decode m_X4_append.2.1 1 = .ok (.getfield 15, 3) := by decide +kernel
theorem d_X4_append_4 : decode m_X4_append.2.1 4 = .ok (.sipush 960, 3) := by decide +kernel
theorem d_X4_append_7 : decode m_X4_append.2.1 7 = .ok (.if_icmp .lt 4, 3) := by decide +kernel
theorem d_X4_append_10 : decode m_X4_append.2.1 10 = .ok (.return_, 1) := by decide +kernel
theorem d_X4_append_11 : decode m_X4_append.2.1 11 = .ok (.aload_n 0, 1) := by decide +kernel
theorem d_X4_append_12 : decode m_X4_append.2.1 12 = .ok (.getfield 15, 3) := by decide +kernel
theorem d_X4_append_15 : decode m_X4_append.2.1 15 = .ok (.bipush 8, 2) := by decide +kernel
theorem d_X4_append_17 : decode m_X4_append.2.1 17 = .ok (.imul, 1) := by decide +kernel
theorem d_X4_append_18 : decode m_X4_append.2.1 18 = .ok (.istore 5, 2) := by decide +kernel
theorem d_X4_append_20 : decode m_X4_append.2.1 20 = .ok (.iload 5, 2) := by decide +kernel
theorem d_X4_append_22 : decode m_X4_append.2.1 22 = .ok (.bipush 8, 2) := by decide +kernel
theorem d_X4_append_24 : decode m_X4_append.2.1 24 = .ok (.iadd, 1) := by decide +kernel
theorem d_X4_append_25 : decode m_X4_append.2.1 25 = .ok (.istore 6, 2) := by decide +kernel
theorem d_X4_append_27 : decode m_X4_append.2.1 27 = .ok (.aload_n 0, 1) := by decide +kernel
theorem d_X4_append_28 : decode m_X4_append.2.1 28 = .ok (.getfield 11, 3) := by decide +kernel
theorem d_X4_append_31 : decode m_X4_append.2.1 31 = .ok (.iload 5, 2) := by decide +kernel
theorem d_X4_append_33 : decode m_X4_append.2.1 33 = .ok (.bipush 7, 2) := by decide +kernel
theorem d_X4_append_35 : decode m_X4_append.2.1 35 = .ok (.iadd, 1) := by decide +kernel
theorem d_X4_append_36 : decode m_X4_append.2.1 36 = .ok (.iload_n 3, 1) := by decide +kernel
theorem d_X4_append_37 : decode m_X4_append.2.1 37 = .ok (.invokestatic 25, 3) := by decide +kernel
theorem d_X4_append_40 : decode m_X4_append.2.1 40 = .ok (.aload_n 0, 1) := by decide +kernel
theorem d_X4_append_41 : decode m_X4_append.2.1 41 = .ok (.getfield 11, 3) := by decide +kernel
theorem d_X4_append_44 : decode m_X4_append.2.1 44 = .ok (.iload 6, 2) := by decide +kernel
theorem d_X4_append_46 : decode m_X4_append.2.1 46 = .ok (.aload_n 0, 1) := by decide +kernel
theorem d_X4_append_47 : decode m_X4_append.2.1 47 = .ok (.getfield 11, 3) := by decide +kernel
theorem d_X4_append_50 : decode m_X4_append.2.1 50 = .ok (.iload 5, 2) := by decide +kernel
theorem d_X4_append_52 : decode m_X4_append.2.1 52 = .ok (.invokestatic 29, 3) := by decide +kernel
theorem d_X4_append_55 : decode m_X4_append.2.1 55 = .ok (.iload_n 1, 1) := by decide +kernel
theorem d_X4_append_56 : decode m_X4_append.2.1 56 = .ok (.iadd, 1) := by decide +kernel
theorem d_X4_append_57 : decode m_X4_append.2.1 57 = .ok (.invokestatic 25, 3) := by decide +kernel
theorem d_X4_append_60 : decode m_X4_append.2.1 60 = .ok (.iconst 0, 1) := by decide +kernel
theorem d_X4_append_61 : decode m_X4_append.2.1 61 = .ok (.istore 7, 2) := by decide +kernel
theorem d_X4_append_63 : decode m_X4_append.2.1 63 = .ok (.iload 7, 2) := by decide +kernel
theorem d_X4_append_65 : decode m_X4_append.2.1 65 = .ok (.iconst 3, 1) := by decide +kernel
theorem d_X4_append_66 : decode m_X4_append.2.1 66 = .ok (.if_icmp .ge 50, 3) := by decide +kernel
theorem d_X4_append_69 : decode m_X4_append.2.1 69 = .ok (.aload_n 0, 1) := by decide +kernel
theorem d_X4_append_70 : decode m_X4_append.2.1 70 = .ok (.getfield 11, 3) := by decide +kernel
theorem d_X4_append_73 : decode m_X4_append.2.1 73 = .ok (.iload 5, 2) := by decide +kernel
theorem d_X4_append_75 : decode m_X4_append.2.1 75 = .ok (.iconst 4, 1) := by decide +kernel
theorem d_X4_append_76 : decode m_X4_append.2.1 76 = .ok (.iadd, 1) := by decide +kernel
theorem d_X4_append_77 : decode m_X4_append.2.1 77 = .ok (.iload 7, 2) := by decide +kernel
theorem d_X4_append_79 : decode m_X4_append.2.1 79 = .ok (.iadd, 1) := by decide +kernel
theorem d_X4_append_80 : decode m_X4_append.2.1 80 = .ok (.aload_n 2, 1) := by decide +kernel
theorem d_X4_append_81 : decode m_X4_append.2.1 81 = .ok (.iload 7, 2) := by decide +kernel
theorem d_X4_append_83 : decode m_X4_append.2.1 83 = .ok (.invokestatic 29, 3) := by decide +kernel
theorem d_X4_append_86 : decode m_X4_append.2.1 86 = .ok (.invokestatic 25, 3) := by decide +kernel
theorem d_X4_append_89 : decode m_X4_append.2.1 89 = .ok (.aload_n 0, 1) := by decide +kernel
theorem d_X4_append_90 : decode m_X4_append.2.1 90 = .ok (.getfield 11, 3) := by decide +kernel
theorem d_X4_append_93 : decode m_X4_append.2.1 93 = .ok (.iload 6, 2) := by decide +kernel
theorem d_X4_append_95 : decode m_X4_append.2.1 95 = .ok (.iconst 1, 1) := by decide +kernel
theorem d_X4_append_96 : decode m_X4_append.2.1 96 = .ok (.iadd, 1) := by decide +kernel
theorem d_X4_append_97 : decode m_X4_append.2.1 97 = .ok (.iload 7, 2) := by decide +kernel
theorem d_X4_append_99 : decode m_X4_append.2.1 99 = .ok (.iadd, 1) := by decide +kernel
theorem d_X4_append_100 : decode m_X4_append.2.1 100 = .ok (.aload 4, 2) := by decide +kernel
theorem d_X4_append_102 : decode m_X4_append.2.1 102 = .ok (.iload 7, 2) := by decide +kernel
theorem d_X4_append_104 : decode m_X4_append.2.1 104 = .ok (.invokestatic 29, 3) := by decide +kernel
theorem d_X4_append_107 : decode m_X4_append.2.1 107 = .ok (.invokestatic 25, 3) := by decide +kernel
theorem d_X4_append_110 : decode m_X4_append.2.1 110 = .ok (.iinc 7 1, 3) := by decide +kernel
theorem d_X4_append_113 : decode m_X4_append.2.1 113 = .ok (.goto (-50), 3) := by decide +kernel
theorem d_X4_append_116 : decode m_X4_append.2.1 116 = .ok (.aload_n 0, 1) := by decide +kernel
theorem d_X4_append_117 : decode m_X4_append.2.1 117 = .ok (.dup, 1) := by decide +kernel
theorem d_X4_append_118 : decode m_X4_append.2.1 118 = .ok (.getfield 15, 3) := by decide +kernel
theorem d_X4_append_121 : decode m_X4_append.2.1 121 = .ok (.iconst 1, 1) := by decide +kernel
theorem d_X4_append_122 : decode m_X4_append.2.1 122 = .ok (.iadd, 1) := by decide +kernel
theorem d_X4_append_123 : decode m_X4_append.2.1 123 = .ok (.putfield 15, 3) := by decide +kernel
theorem d_X4_append_126 : decode m_X4_append.2.1 126 = .ok (.return_, 1) := by decide +kernel
theorem d_X4_endTime_0 : decode m_X4_endTime.2.1 0 = .ok (.aload_n 0, 1) := by decide +kernel
theorem d_X4_endTime_1 : decode m_X4_endTime.2.1 1 = .ok (.aload_n 0, 1) := by decide +kernel
theorem d_X4_endTime_2 : decode m_X4_endTime.2.1 2 = .ok (.getfield 15, 3) := by decide +kernel
theorem d_X4_endTime_5 : decode m_X4_endTime.2.1 5 = .ok (.invokevirtual 33, 3) := by decide +kernel
theorem d_X4_endTime_8 : decode m_X4_endTime.2.1 8 = .ok (.ireturn, 1) := by decide +kernel
theorem d_X4_endValue_0 : decode m_X4_endValue.2.1 0 = .ok (.aload_n 0, 1) := by decide +kernel
theorem d_X4_endValue_1 : decode m_X4_endValue.2.1 1 = .ok (.getfield 11, 3) := by decide +kernel
theorem d_X4_endValue_4 : decode m_X4_endValue.2.1 4 = .ok (.aload_n 0, 1) := by decide +kernel
theorem d_X4_endValue_5 : decode m_X4_endValue.2.1 5 = .ok (.getfield 15, 3) := by decide +kernel
theorem d_X4_endValue_8 : decode m_X4_endValue.2.1 8 = .ok (.bipush 8, 2) := by decide +kernel
theorem d_X4_endValue_10 : decode m_X4_endValue.2.1 10 = .ok (.imul, 1) := by decide +kernel
theorem d_X4_endValue_11 : decode m_X4_endValue.2.1 11 = .ok (.iconst 1, 1) := by decide +kernel
theorem d_X4_endValue_12 : decode m_X4_endValue.2.1 12 = .ok (.iadd, 1) := by decide +kernel
theorem d_X4_endValue_13 : decode m_X4_endValue.2.1 13 = .ok (.iload_n 1, 1) := by decide +kernel
theorem d_X4_endValue_14 : decode m_X4_endValue.2.1 14 = .ok (.iadd, 1) := by decide +kernel
theorem d_X4_endValue_15 : decode m_X4_endValue.2.1 15 = .ok (.invokestatic 29, 3) := by decide +kernel
theorem d_X4_endValue_18 : decode m_X4_endValue.2.1 18 = .ok (.ireturn, 1) := by decide +kernel
theorem d_X4_beginOf_0 : decode m_X4_beginOf.2.1 0 = .ok (.aload_n 0, 1) := by decide +kernel
theorem d_X4_beginOf_1 : decode m_X4_beginOf.2.1 1 = .ok (.getfield 11, 3) := by decide +kernel
theorem d_X4_beginOf_4 : decode m_X4_beginOf.2.1 4 = .ok (.iload_n 1, 1) := by decide +kernel
theorem d_X4_beginOf_5 : decode m_X4_beginOf.2.1 5 = .ok (.bipush 8, 2) := by decide +kernel
theorem d_X4_beginOf_7 : decode m_X4_beginOf.2.1 7 = .ok (.imul, 1) := by decide +kernel
theorem d_X4_beginOf_8 : decode m_X4_beginOf.2.1 8 = .ok (.invokestatic 29, 3) := by decide +kernel
theorem d_X4_beginOf_11 : decode m_X4_beginOf.2.1 11 = .ok (.ireturn, 1) := by decide +kernel
theorem d_X4_endOf_0 : decode m_X4_endOf.2.1 0 = .ok (.aload_n 0, 1) := by decide +kernel
theorem d_X4_endOf_1 : decode m_X4_endOf.2.1 1 = .ok (.getfield 11, 3) := by decide +kernel
theorem d_X4_endOf_4 : decode m_X4_endOf.2.1 4 = .ok (.iload_n 1, 1) := by decide +kernel
theorem d_X4_endOf_5 : decode m_X4_endOf.2.1 5 = .ok (.iconst 1, 1) := by decide +kernel
theorem d_X4_endOf_6 : decode m_X4_endOf.2.1 6 = .ok (.iadd, 1) := by decide +kernel
theorem d_X4_endOf_7 : decode m_X4_endOf.2.1 7 = .ok (.bipush 8, 2) := by decide +kernel
theorem d_X4_endOf_9 : decode m_X4_endOf.2.1 9 = .ok (.imul, 1) := by decide +kernel
theorem d_X4_endOf_10 : decode m_X4_endOf.2.1 10 = .ok (.invokestatic 29, 3) := by decide +kernel
theorem d_X4_endOf_13 : decode m_X4_endOf.2.1 13 = .ok (.ireturn, 1) := by decide +kernel
theorem d_X4_firstSlope_0 : decode m_X4_firstSlope.2.1 0 = .ok (.aload_n 0, 1) := by decide +kernel
theorem d_X4_firstSlope_1 : decode m_X4_firstSlope.2.1 1 = .ok (.getfield 11, 3) := by decide +kernel
theorem d_X4_firstSlope_4 : decode m_X4_firstSlope.2.1 4 = .ok (.iload_n 1, 1) := by decide +kernel
theorem d_X4_firstSlope_5 : decode m_X4_firstSlope.2.1 5 = .ok (.bipush 8, 2) := by decide +kernel
theorem d_X4_firstSlope_7 : decode m_X4_firstSlope.2.1 7 = .ok (.imul, 1) := by decide +kernel
theorem d_X4_firstSlope_8 : decode m_X4_firstSlope.2.1 8 = .ok (.iconst 4, 1) := by decide +kernel
theorem d_X4_firstSlope_9 : decode m_X4_firstSlope.2.1 9 = .ok (.iadd, 1) := by decide +kernel
theorem d_X4_firstSlope_10 : decode m_X4_firstSlope.2.1 10 = .ok (.iload_n 2, 1) := by decide +kernel
theorem d_X4_firstSlope_11 : decode m_X4_firstSlope.2.1 11 = .ok (.iadd, 1) := by decide +kernel
theorem d_X4_firstSlope_12 : decode m_X4_firstSlope.2.1 12 = .ok (.invokestatic 29, 3) := by decide +kernel
theorem d_X4_firstSlope_15 : decode m_X4_firstSlope.2.1 15 = .ok (.ireturn, 1) := by decide +kernel
theorem d_X4_roundsOf_0 : decode m_X4_roundsOf.2.1 0 = .ok (.aload_n 0, 1) := by decide +kernel
theorem d_X4_roundsOf_1 : decode m_X4_roundsOf.2.1 1 = .ok (.getfield 11, 3) := by decide +kernel
theorem d_X4_roundsOf_4 : decode m_X4_roundsOf.2.1 4 = .ok (.iload_n 1, 1) := by decide +kernel
theorem d_X4_roundsOf_5 : decode m_X4_roundsOf.2.1 5 = .ok (.bipush 8, 2) := by decide +kernel
theorem d_X4_roundsOf_7 : decode m_X4_roundsOf.2.1 7 = .ok (.imul, 1) := by decide +kernel
theorem d_X4_roundsOf_8 : decode m_X4_roundsOf.2.1 8 = .ok (.bipush 7, 2) := by decide +kernel
theorem d_X4_roundsOf_10 : decode m_X4_roundsOf.2.1 10 = .ok (.iadd, 1) := by decide +kernel
theorem d_X4_roundsOf_11 : decode m_X4_roundsOf.2.1 11 = .ok (.invokestatic 29, 3) := by decide +kernel
theorem d_X4_roundsOf_14 : decode m_X4_roundsOf.2.1 14 = .ok (.ireturn, 1) := by decide +kernel
theorem d_X4_stepTo_0 : decode m_X4_stepTo.2.1 0 = .ok (.iconst 0, 1) := by decide +kernel
theorem d_X4_stepTo_1 : decode m_X4_stepTo.2.1 1 = .ok (.istore_n 2, 1) := by decide +kernel
theorem d_X4_stepTo_2 : decode m_X4_stepTo.2.1 2 = .ok (.aload_n 0, 1) := by decide +kernel
theorem d_X4_stepTo_3 : decode m_X4_stepTo.2.1 3 = .ok (.getfield 15, 3) := by decide +kernel
theorem d_X4_stepTo_6 : decode m_X4_stepTo.2.1 6 = .ok (.iconst 1, 1) := by decide +kernel
theorem d_X4_stepTo_7 : decode m_X4_stepTo.2.1 7 = .ok (.isub, 1) := by decide +kernel
theorem d_X4_stepTo_8 : decode m_X4_stepTo.2.1 8 = .ok (.istore_n 3, 1) := by decide +kernel
theorem d_X4_stepTo_9 : decode m_X4_stepTo.2.1 9 = .ok (.iconst 0, 1) := by decide +kernel
theorem d_X4_stepTo_10 : decode m_X4_stepTo.2.1 10 = .ok (.istore 4, 2) := by decide +kernel
theorem d_X4_stepTo_12 : decode m_X4_stepTo.2.1 12 = .ok (.iload 4, 2) := by decide +kernel
theorem d_X4_stepTo_14 : decode m_X4_stepTo.2.1 14 = .ok (.sipush 960, 3) := by decide +kernel
theorem d_X4_stepTo_17 : decode m_X4_stepTo.2.1 17 = .ok (.if_icmp .ge 50, 3) := by decide +kernel
theorem d_X4_stepTo_20 : decode m_X4_stepTo.2.1 20 = .ok (.iload_n 2, 1) := by decide +kernel
theorem d_X4_stepTo_21 : decode m_X4_stepTo.2.1 21 = .ok (.iload_n 3, 1) := by decide +kernel
theorem d_X4_stepTo_22 : decode m_X4_stepTo.2.1 22 = .ok (.if_icmp .ge 45, 3) := by decide +kernel
theorem d_X4_stepTo_25 : decode m_X4_stepTo.2.1 25 = .ok (.iload_n 2, 1) := by decide +kernel
theorem d_X4_stepTo_26 : decode m_X4_stepTo.2.1 26 = .ok (.iload_n 3, 1) := by decide +kernel
theorem d_X4_stepTo_27 : decode m_X4_stepTo.2.1 27 = .ok (.iadd, 1) := by decide +kernel
theorem d_X4_stepTo_28 : decode m_X4_stepTo.2.1 28 = .ok (.iconst 2, 1) := by decide +kernel
theorem d_X4_stepTo_29 : decode m_X4_stepTo.2.1 29 = .ok (.idiv, 1) := by decide +kernel
theorem d_X4_stepTo_30 : decode m_X4_stepTo.2.1 30 = .ok (.istore 5, 2) := by decide +kernel
theorem d_X4_stepTo_32 : decode m_X4_stepTo.2.1 32 = .ok (.aload_n 0, 1) := by decide +kernel
theorem d_X4_stepTo_33 : decode m_X4_stepTo.2.1 33 = .ok (.getfield 11, 3) := by decide +kernel
theorem d_X4_stepTo_36 : decode m_X4_stepTo.2.1 36 = .ok (.iload 5, 2) := by decide +kernel
theorem d_X4_stepTo_38 : decode m_X4_stepTo.2.1 38 = .ok (.iconst 1, 1) := by decide +kernel
theorem d_X4_stepTo_39 : decode m_X4_stepTo.2.1 39 = .ok (.iadd, 1) := by decide +kernel
theorem d_X4_stepTo_40 : decode m_X4_stepTo.2.1 40 = .ok (.bipush 8, 2) := by decide +kernel
theorem d_X4_stepTo_42 : decode m_X4_stepTo.2.1 42 = .ok (.imul, 1) := by decide +kernel
theorem d_X4_stepTo_43 : decode m_X4_stepTo.2.1 43 = .ok (.invokestatic 29, 3) := by decide +kernel
theorem d_X4_stepTo_46 : decode m_X4_stepTo.2.1 46 = .ok (.iload_n 1, 1) := by decide +kernel
theorem d_X4_stepTo_47 : decode m_X4_stepTo.2.1 47 = .ok (.if_icmp .lt 9, 3) := by decide +kernel
theorem d_X4_stepTo_50 : decode m_X4_stepTo.2.1 50 = .ok (.iload 5, 2) := by decide +kernel
theorem d_X4_stepTo_52 : decode m_X4_stepTo.2.1 52 = .ok (.istore_n 3, 1) := by decide +kernel
theorem d_X4_stepTo_53 : decode m_X4_stepTo.2.1 53 = .ok (.goto 8, 3) := by decide +kernel
theorem d_X4_stepTo_56 : decode m_X4_stepTo.2.1 56 = .ok (.iload 5, 2) := by decide +kernel
theorem d_X4_stepTo_58 : decode m_X4_stepTo.2.1 58 = .ok (.iconst 1, 1) := by decide +kernel
theorem d_X4_stepTo_59 : decode m_X4_stepTo.2.1 59 = .ok (.iadd, 1) := by decide +kernel
theorem d_X4_stepTo_60 : decode m_X4_stepTo.2.1 60 = .ok (.istore_n 2, 1) := by decide +kernel
theorem d_X4_stepTo_61 : decode m_X4_stepTo.2.1 61 = .ok (.iinc 4 1, 3) := by decide +kernel
theorem d_X4_stepTo_64 : decode m_X4_stepTo.2.1 64 = .ok (.goto (-52), 3) := by decide +kernel
theorem d_X4_stepTo_67 : decode m_X4_stepTo.2.1 67 = .ok (.iload_n 2, 1) := by decide +kernel
theorem d_X4_stepTo_68 : decode m_X4_stepTo.2.1 68 = .ok (.ireturn, 1) := by decide +kernel
theorem d_X4_valueIn_0 : decode m_X4_valueIn.2.1 0 = .ok (.iload_n 1, 1) := by decide +kernel
theorem d_X4_valueIn_1 : decode m_X4_valueIn.2.1 1 = .ok (.bipush 8, 2) := by decide +kernel
theorem d_X4_valueIn_3 : decode m_X4_valueIn.2.1 3 = .ok (.imul, 1) := by decide +kernel
theorem d_X4_valueIn_4 : decode m_X4_valueIn.2.1 4 = .ok (.istore 4, 2) := by decide +kernel
theorem d_X4_valueIn_6 : decode m_X4_valueIn.2.1 6 = .ok (.aload_n 0, 1) := by decide +kernel
theorem d_X4_valueIn_7 : decode m_X4_valueIn.2.1 7 = .ok (.getfield 11, 3) := by decide +kernel
theorem d_X4_valueIn_10 : decode m_X4_valueIn.2.1 10 = .ok (.iload 4, 2) := by decide +kernel
theorem d_X4_valueIn_12 : decode m_X4_valueIn.2.1 12 = .ok (.iconst 1, 1) := by decide +kernel
theorem d_X4_valueIn_13 : decode m_X4_valueIn.2.1 13 = .ok (.iadd, 1) := by decide +kernel
theorem d_X4_valueIn_14 : decode m_X4_valueIn.2.1 14 = .ok (.iload_n 2, 1) := by decide +kernel
theorem d_X4_valueIn_15 : decode m_X4_valueIn.2.1 15 = .ok (.iadd, 1) := by decide +kernel
theorem d_X4_valueIn_16 : decode m_X4_valueIn.2.1 16 = .ok (.invokestatic 29, 3) := by decide +kernel
theorem d_X4_valueIn_19 : decode m_X4_valueIn.2.1 19 = .ok (.i2l, 1) := by decide +kernel
theorem d_X4_valueIn_20 : decode m_X4_valueIn.2.1 20 = .ok (.lstore 5, 2) := by decide +kernel
theorem d_X4_valueIn_22 : decode m_X4_valueIn.2.1 22 = .ok (.iload_n 1, 1) := by decide +kernel
theorem d_X4_valueIn_23 : decode m_X4_valueIn.2.1 23 = .ok (.aload_n 0, 1) := by decide +kernel
theorem d_X4_valueIn_24 : decode m_X4_valueIn.2.1 24 = .ok (.getfield 15, 3) := by decide +kernel
theorem d_X4_valueIn_27 : decode m_X4_valueIn.2.1 27 = .ok (.if_icmp .lt 7, 3) := by decide +kernel
theorem d_X4_valueIn_30 : decode m_X4_valueIn.2.1 30 = .ok (.lload 5, 2) := by decide +kernel
theorem d_X4_valueIn_32 : decode m_X4_valueIn.2.1 32 = .ok (.l2i, 1) := by decide +kernel
theorem d_X4_valueIn_33 : decode m_X4_valueIn.2.1 33 = .ok (.ireturn, 1) := by decide +kernel
theorem d_X4_valueIn_34 : decode m_X4_valueIn.2.1 34 = .ok (.iload_n 3, 1) := by decide +kernel
theorem d_X4_valueIn_35 : decode m_X4_valueIn.2.1 35 = .ok (.aload_n 0, 1) := by decide +kernel
theorem d_X4_valueIn_36 : decode m_X4_valueIn.2.1 36 = .ok (.getfield 11, 3) := by decide +kernel
theorem d_X4_valueIn_39 : decode m_X4_valueIn.2.1 39 = .ok (.iload 4, 2) := by decide +kernel
theorem d_X4_valueIn_41 : decode m_X4_valueIn.2.1 41 = .ok (.invokestatic 29, 3) := by decide +kernel
theorem d_X4_valueIn_44 : decode m_X4_valueIn.2.1 44 = .ok (.isub, 1) := by decide +kernel
theorem d_X4_valueIn_45 : decode m_X4_valueIn.2.1 45 = .ok (.i2l, 1) := by decide +kernel
theorem d_X4_valueIn_46 : decode m_X4_valueIn.2.1 46 = .ok (.lstore 7, 2) := by decide +kernel
theorem d_X4_valueIn_48 : decode m_X4_valueIn.2.1 48 = .ok (.aload_n 0, 1) := by decide +kernel
theorem d_X4_valueIn_49 : decode m_X4_valueIn.2.1 49 = .ok (.getfield 11, 3) := by decide +kernel
theorem d_X4_valueIn_52 : decode m_X4_valueIn.2.1 52 = .ok (.iload 4, 2) := by decide +kernel
theorem d_X4_valueIn_54 : decode m_X4_valueIn.2.1 54 = .ok (.bipush 8, 2) := by decide +kernel
theorem d_X4_valueIn_56 : decode m_X4_valueIn.2.1 56 = .ok (.iadd, 1) := by decide +kernel
theorem d_X4_valueIn_57 : decode m_X4_valueIn.2.1 57 = .ok (.invokestatic 29, 3) := by decide +kernel
theorem d_X4_valueIn_60 : decode m_X4_valueIn.2.1 60 = .ok (.aload_n 0, 1) := by decide +kernel
theorem d_X4_valueIn_61 : decode m_X4_valueIn.2.1 61 = .ok (.getfield 11, 3) := by decide +kernel
theorem d_X4_valueIn_64 : decode m_X4_valueIn.2.1 64 = .ok (.iload 4, 2) := by decide +kernel
theorem d_X4_valueIn_66 : decode m_X4_valueIn.2.1 66 = .ok (.invokestatic 29, 3) := by decide +kernel
theorem d_X4_valueIn_69 : decode m_X4_valueIn.2.1 69 = .ok (.isub, 1) := by decide +kernel
theorem d_X4_valueIn_70 : decode m_X4_valueIn.2.1 70 = .ok (.i2l, 1) := by decide +kernel
theorem d_X4_valueIn_71 : decode m_X4_valueIn.2.1 71 = .ok (.lstore 9, 2) := by decide +kernel
theorem d_X4_valueIn_73 : decode m_X4_valueIn.2.1 73 = .ok (.aload_n 0, 1) := by decide +kernel
theorem d_X4_valueIn_74 : decode m_X4_valueIn.2.1 74 = .ok (.getfield 11, 3) := by decide +kernel
theorem d_X4_valueIn_77 : decode m_X4_valueIn.2.1 77 = .ok (.iload 4, 2) := by decide +kernel
theorem d_X4_valueIn_79 : decode m_X4_valueIn.2.1 79 = .ok (.iconst 4, 1) := by decide +kernel
theorem d_X4_valueIn_80 : decode m_X4_valueIn.2.1 80 = .ok (.iadd, 1) := by decide +kernel
theorem d_X4_valueIn_81 : decode m_X4_valueIn.2.1 81 = .ok (.iload_n 2, 1) := by decide +kernel
theorem d_X4_valueIn_82 : decode m_X4_valueIn.2.1 82 = .ok (.iadd, 1) := by decide +kernel
theorem d_X4_valueIn_83 : decode m_X4_valueIn.2.1 83 = .ok (.invokestatic 29, 3) := by decide +kernel
theorem d_X4_valueIn_86 : decode m_X4_valueIn.2.1 86 = .ok (.i2l, 1) := by decide +kernel
theorem d_X4_valueIn_87 : decode m_X4_valueIn.2.1 87 = .ok (.lload 7, 2) := by decide +kernel
theorem d_X4_valueIn_89 : decode m_X4_valueIn.2.1 89 = .ok (.lmul, 1) := by decide +kernel
theorem d_X4_valueIn_90 : decode m_X4_valueIn.2.1 90 = .ok (.ldc2_w 37, 3) := by decide +kernel
theorem d_X4_valueIn_93 : decode m_X4_valueIn.2.1 93 = .ok (.ldiv, 1) := by decide +kernel
theorem d_X4_valueIn_94 : decode m_X4_valueIn.2.1 94 = .ok (.lstore 11, 2) := by decide +kernel
theorem d_X4_valueIn_96 : decode m_X4_valueIn.2.1 96 = .ok (.aload_n 0, 1) := by decide +kernel
theorem d_X4_valueIn_97 : decode m_X4_valueIn.2.1 97 = .ok (.iload 4, 2) := by decide +kernel
theorem d_X4_valueIn_99 : decode m_X4_valueIn.2.1 99 = .ok (.iload_n 2, 1) := by decide +kernel
theorem d_X4_valueIn_100 : decode m_X4_valueIn.2.1 100 = .ok (.lload 9, 2) := by decide +kernel
theorem d_X4_valueIn_102 : decode m_X4_valueIn.2.1 102 = .ok (.invokevirtual 39, 3) := by decide +kernel
theorem d_X4_valueIn_105 : decode m_X4_valueIn.2.1 105 = .ok (.lload 7, 2) := by decide +kernel
theorem d_X4_valueIn_107 : decode m_X4_valueIn.2.1 107 = .ok (.lmul, 1) := by decide +kernel
theorem d_X4_valueIn_108 : decode m_X4_valueIn.2.1 108 = .ok (.lload 7, 2) := by decide +kernel
theorem d_X4_valueIn_110 : decode m_X4_valueIn.2.1 110 = .ok (.lmul, 1) := by decide +kernel
theorem d_X4_valueIn_111 : decode m_X4_valueIn.2.1 111 = .ok (.lload 9, 2) := by decide +kernel
theorem d_X4_valueIn_113 : decode m_X4_valueIn.2.1 113 = .ok (.lload 9, 2) := by decide +kernel
theorem d_X4_valueIn_115 : decode m_X4_valueIn.2.1 115 = .ok (.lmul, 1) := by decide +kernel
theorem d_X4_valueIn_116 : decode m_X4_valueIn.2.1 116 = .ok (.invokestatic 43, 3) := by decide +kernel
theorem d_X4_valueIn_119 : decode m_X4_valueIn.2.1 119 = .ok (.lstore 13, 2) := by decide +kernel
theorem d_X4_valueIn_121 : decode m_X4_valueIn.2.1 121 = .ok (.lload 5, 2) := by decide +kernel
theorem d_X4_valueIn_123 : decode m_X4_valueIn.2.1 123 = .ok (.lload 11, 2) := by decide +kernel
theorem d_X4_valueIn_125 : decode m_X4_valueIn.2.1 125 = .ok (.ladd, 1) := by decide +kernel
theorem d_X4_valueIn_126 : decode m_X4_valueIn.2.1 126 = .ok (.lload 13, 2) := by decide +kernel
theorem d_X4_valueIn_128 : decode m_X4_valueIn.2.1 128 = .ok (.ladd, 1) := by decide +kernel
theorem d_X4_valueIn_129 : decode m_X4_valueIn.2.1 129 = .ok (.invokestatic 47, 3) := by decide +kernel
theorem d_X4_valueIn_132 : decode m_X4_valueIn.2.1 132 = .ok (.ireturn, 1) := by decide +kernel
theorem d_X4_slopeIn_0 : decode m_X4_slopeIn.2.1 0 = .ok (.iload_n 1, 1) := by decide +kernel
theorem d_X4_slopeIn_1 : decode m_X4_slopeIn.2.1 1 = .ok (.aload_n 0, 1) := by decide +kernel
theorem d_X4_slopeIn_2 : decode m_X4_slopeIn.2.1 2 = .ok (.getfield 15, 3) := by decide +kernel
theorem d_X4_slopeIn_5 : decode m_X4_slopeIn.2.1 5 = .ok (.if_icmp .lt 5, 3) := by decide +kernel
theorem d_X4_slopeIn_8 : decode m_X4_slopeIn.2.1 8 = .ok (.iconst 0, 1) := by decide +kernel
theorem d_X4_slopeIn_9 : decode m_X4_slopeIn.2.1 9 = .ok (.ireturn, 1) := by decide +kernel
theorem d_X4_slopeIn_10 : decode m_X4_slopeIn.2.1 10 = .ok (.iload_n 1, 1) := by decide +kernel
theorem d_X4_slopeIn_11 : decode m_X4_slopeIn.2.1 11 = .ok (.bipush 8, 2) := by decide +kernel
theorem d_X4_slopeIn_13 : decode m_X4_slopeIn.2.1 13 = .ok (.imul, 1) := by decide +kernel
theorem d_X4_slopeIn_14 : decode m_X4_slopeIn.2.1 14 = .ok (.istore 4, 2) := by decide +kernel
theorem d_X4_slopeIn_16 : decode m_X4_slopeIn.2.1 16 = .ok (.iload_n 3, 1) := by decide +kernel
theorem d_X4_slopeIn_17 : decode m_X4_slopeIn.2.1 17 = .ok (.aload_n 0, 1) := by decide +kernel
theorem d_X4_slopeIn_18 : decode m_X4_slopeIn.2.1 18 = .ok (.getfield 11, 3) := by decide +kernel
theorem d_X4_slopeIn_21 : decode m_X4_slopeIn.2.1 21 = .ok (.iload 4, 2) := by decide +kernel
theorem d_X4_slopeIn_23 : decode m_X4_slopeIn.2.1 23 = .ok (.invokestatic 29, 3) := by decide +kernel
theorem d_X4_slopeIn_26 : decode m_X4_slopeIn.2.1 26 = .ok (.isub, 1) := by decide +kernel
theorem d_X4_slopeIn_27 : decode m_X4_slopeIn.2.1 27 = .ok (.i2l, 1) := by decide +kernel
theorem d_X4_slopeIn_28 : decode m_X4_slopeIn.2.1 28 = .ok (.lstore 5, 2) := by decide +kernel
theorem d_X4_slopeIn_30 : decode m_X4_slopeIn.2.1 30 = .ok (.aload_n 0, 1) := by decide +kernel
theorem d_X4_slopeIn_31 : decode m_X4_slopeIn.2.1 31 = .ok (.getfield 11, 3) := by decide +kernel
theorem d_X4_slopeIn_34 : decode m_X4_slopeIn.2.1 34 = .ok (.iload 4, 2) := by decide +kernel
theorem d_X4_slopeIn_36 : decode m_X4_slopeIn.2.1 36 = .ok (.bipush 8, 2) := by decide +kernel
theorem d_X4_slopeIn_38 : decode m_X4_slopeIn.2.1 38 = .ok (.iadd, 1) := by decide +kernel
theorem d_X4_slopeIn_39 : decode m_X4_slopeIn.2.1 39 = .ok (.invokestatic 29, 3) := by decide +kernel
theorem d_X4_slopeIn_42 : decode m_X4_slopeIn.2.1 42 = .ok (.aload_n 0, 1) := by decide +kernel
theorem d_X4_slopeIn_43 : decode m_X4_slopeIn.2.1 43 = .ok (.getfield 11, 3) := by decide +kernel
theorem d_X4_slopeIn_46 : decode m_X4_slopeIn.2.1 46 = .ok (.iload 4, 2) := by decide +kernel
theorem d_X4_slopeIn_48 : decode m_X4_slopeIn.2.1 48 = .ok (.invokestatic 29, 3) := by decide +kernel
theorem d_X4_slopeIn_51 : decode m_X4_slopeIn.2.1 51 = .ok (.isub, 1) := by decide +kernel
theorem d_X4_slopeIn_52 : decode m_X4_slopeIn.2.1 52 = .ok (.i2l, 1) := by decide +kernel
theorem d_X4_slopeIn_53 : decode m_X4_slopeIn.2.1 53 = .ok (.lstore 7, 2) := by decide +kernel
theorem d_X4_slopeIn_55 : decode m_X4_slopeIn.2.1 55 = .ok (.ldc2_w 51, 3) := by decide +kernel
theorem d_X4_slopeIn_58 : decode m_X4_slopeIn.2.1 58 = .ok (.aload_n 0, 1) := by decide +kernel
theorem d_X4_slopeIn_59 : decode m_X4_slopeIn.2.1 59 = .ok (.iload 4, 2) := by decide +kernel
theorem d_X4_slopeIn_61 : decode m_X4_slopeIn.2.1 61 = .ok (.iload_n 2, 1) := by decide +kernel
theorem d_X4_slopeIn_62 : decode m_X4_slopeIn.2.1 62 = .ok (.lload 7, 2) := by decide +kernel
theorem d_X4_slopeIn_64 : decode m_X4_slopeIn.2.1 64 = .ok (.invokevirtual 39, 3) := by decide +kernel
theorem d_X4_slopeIn_67 : decode m_X4_slopeIn.2.1 67 = .ok (.lmul, 1) := by decide +kernel
theorem d_X4_slopeIn_68 : decode m_X4_slopeIn.2.1 68 = .ok (.lload 5, 2) := by decide +kernel
theorem d_X4_slopeIn_70 : decode m_X4_slopeIn.2.1 70 = .ok (.lmul, 1) := by decide +kernel
theorem d_X4_slopeIn_71 : decode m_X4_slopeIn.2.1 71 = .ok (.lstore 9, 2) := by decide +kernel
theorem d_X4_slopeIn_73 : decode m_X4_slopeIn.2.1 73 = .ok (.aload_n 0, 1) := by decide +kernel
theorem d_X4_slopeIn_74 : decode m_X4_slopeIn.2.1 74 = .ok (.getfield 11, 3) := by decide +kernel
theorem d_X4_slopeIn_77 : decode m_X4_slopeIn.2.1 77 = .ok (.iload 4, 2) := by decide +kernel
theorem d_X4_slopeIn_79 : decode m_X4_slopeIn.2.1 79 = .ok (.iconst 4, 1) := by decide +kernel
theorem d_X4_slopeIn_80 : decode m_X4_slopeIn.2.1 80 = .ok (.iadd, 1) := by decide +kernel
theorem d_X4_slopeIn_81 : decode m_X4_slopeIn.2.1 81 = .ok (.iload_n 2, 1) := by decide +kernel
theorem d_X4_slopeIn_82 : decode m_X4_slopeIn.2.1 82 = .ok (.iadd, 1) := by decide +kernel
theorem d_X4_slopeIn_83 : decode m_X4_slopeIn.2.1 83 = .ok (.invokestatic 29, 3) := by decide +kernel
theorem d_X4_slopeIn_86 : decode m_X4_slopeIn.2.1 86 = .ok (.i2l, 1) := by decide +kernel
theorem d_X4_slopeIn_87 : decode m_X4_slopeIn.2.1 87 = .ok (.lload 9, 2) := by decide +kernel
theorem d_X4_slopeIn_89 : decode m_X4_slopeIn.2.1 89 = .ok (.lload 7, 2) := by decide +kernel
theorem d_X4_slopeIn_91 : decode m_X4_slopeIn.2.1 91 = .ok (.lload 7, 2) := by decide +kernel
theorem d_X4_slopeIn_93 : decode m_X4_slopeIn.2.1 93 = .ok (.lmul, 1) := by decide +kernel
theorem d_X4_slopeIn_94 : decode m_X4_slopeIn.2.1 94 = .ok (.invokestatic 43, 3) := by decide +kernel
theorem d_X4_slopeIn_97 : decode m_X4_slopeIn.2.1 97 = .ok (.ladd, 1) := by decide +kernel
theorem d_X4_slopeIn_98 : decode m_X4_slopeIn.2.1 98 = .ok (.invokestatic 47, 3) := by decide +kernel
theorem d_X4_slopeIn_101 : decode m_X4_slopeIn.2.1 101 = .ok (.ireturn, 1) := by decide +kernel
theorem d_X4_bendOf_0 : decode m_X4_bendOf.2.1 0 = .ok (.aload_n 0, 1) := by decide +kernel
theorem d_X4_bendOf_1 : decode m_X4_bendOf.2.1 1 = .ok (.getfield 11, 3) := by decide +kernel
theorem d_X4_bendOf_4 : decode m_X4_bendOf.2.1 4 = .ok (.iload_n 1, 1) := by decide +kernel
theorem d_X4_bendOf_5 : decode m_X4_bendOf.2.1 5 = .ok (.bipush 8, 2) := by decide +kernel
theorem d_X4_bendOf_7 : decode m_X4_bendOf.2.1 7 = .ok (.iadd, 1) := by decide +kernel
theorem d_X4_bendOf_8 : decode m_X4_bendOf.2.1 8 = .ok (.iconst 1, 1) := by decide +kernel
theorem d_X4_bendOf_9 : decode m_X4_bendOf.2.1 9 = .ok (.iadd, 1) := by decide +kernel
theorem d_X4_bendOf_10 : decode m_X4_bendOf.2.1 10 = .ok (.iload_n 2, 1) := by decide +kernel
theorem d_X4_bendOf_11 : decode m_X4_bendOf.2.1 11 = .ok (.iadd, 1) := by decide +kernel
theorem d_X4_bendOf_12 : decode m_X4_bendOf.2.1 12 = .ok (.invokestatic 29, 3) := by decide +kernel
theorem d_X4_bendOf_15 : decode m_X4_bendOf.2.1 15 = .ok (.i2l, 1) := by decide +kernel
theorem d_X4_bendOf_16 : decode m_X4_bendOf.2.1 16 = .ok (.aload_n 0, 1) := by decide +kernel
theorem d_X4_bendOf_17 : decode m_X4_bendOf.2.1 17 = .ok (.getfield 11, 3) := by decide +kernel
theorem d_X4_bendOf_20 : decode m_X4_bendOf.2.1 20 = .ok (.iload_n 1, 1) := by decide +kernel
theorem d_X4_bendOf_21 : decode m_X4_bendOf.2.1 21 = .ok (.iconst 1, 1) := by decide +kernel
theorem d_X4_bendOf_22 : decode m_X4_bendOf.2.1 22 = .ok (.iadd, 1) := by decide +kernel
theorem d_X4_bendOf_23 : decode m_X4_bendOf.2.1 23 = .ok (.iload_n 2, 1) := by decide +kernel
theorem d_X4_bendOf_24 : decode m_X4_bendOf.2.1 24 = .ok (.iadd, 1) := by decide +kernel
theorem d_X4_bendOf_25 : decode m_X4_bendOf.2.1 25 = .ok (.invokestatic 29, 3) := by decide +kernel
theorem d_X4_bendOf_28 : decode m_X4_bendOf.2.1 28 = .ok (.i2l, 1) := by decide +kernel
theorem d_X4_bendOf_29 : decode m_X4_bendOf.2.1 29 = .ok (.lsub, 1) := by decide +kernel
theorem d_X4_bendOf_30 : decode m_X4_bendOf.2.1 30 = .ok (.lstore 5, 2) := by decide +kernel
theorem d_X4_bendOf_32 : decode m_X4_bendOf.2.1 32 = .ok (.lload 5, 2) := by decide +kernel
theorem d_X4_bendOf_34 : decode m_X4_bendOf.2.1 34 = .ok (.aload_n 0, 1) := by decide +kernel
theorem d_X4_bendOf_35 : decode m_X4_bendOf.2.1 35 = .ok (.getfield 11, 3) := by decide +kernel
theorem d_X4_bendOf_38 : decode m_X4_bendOf.2.1 38 = .ok (.iload_n 1, 1) := by decide +kernel
theorem d_X4_bendOf_39 : decode m_X4_bendOf.2.1 39 = .ok (.iconst 4, 1) := by decide +kernel
theorem d_X4_bendOf_40 : decode m_X4_bendOf.2.1 40 = .ok (.iadd, 1) := by decide +kernel
theorem d_X4_bendOf_41 : decode m_X4_bendOf.2.1 41 = .ok (.iload_n 2, 1) := by decide +kernel
theorem d_X4_bendOf_42 : decode m_X4_bendOf.2.1 42 = .ok (.iadd, 1) := by decide +kernel
theorem d_X4_bendOf_43 : decode m_X4_bendOf.2.1 43 = .ok (.invokestatic 29, 3) := by decide +kernel
theorem d_X4_bendOf_46 : decode m_X4_bendOf.2.1 46 = .ok (.i2l, 1) := by decide +kernel
theorem d_X4_bendOf_47 : decode m_X4_bendOf.2.1 47 = .ok (.lload_n 3, 1) := by decide +kernel
theorem d_X4_bendOf_48 : decode m_X4_bendOf.2.1 48 = .ok (.lmul, 1) := by decide +kernel
theorem d_X4_bendOf_49 : decode m_X4_bendOf.2.1 49 = .ok (.ldc2_w 37, 3) := by decide +kernel
theorem d_X4_bendOf_52 : decode m_X4_bendOf.2.1 52 = .ok (.ldiv, 1) := by decide +kernel
theorem d_X4_bendOf_53 : decode m_X4_bendOf.2.1 53 = .ok (.lsub, 1) := by decide +kernel
theorem d_X4_bendOf_54 : decode m_X4_bendOf.2.1 54 = .ok (.lreturn, 1) := by decide +kernel
theorem d_X4_copyFrom_0 : decode m_X4_copyFrom.2.1 0 = .ok (.aload_n 1, 1) := by decide +kernel
theorem d_X4_copyFrom_1 : decode m_X4_copyFrom.2.1 1 = .ok (.ifnonnull 4, 3) := by decide +kernel
theorem d_X4_copyFrom_4 : decode m_X4_copyFrom.2.1 4 = .ok (.return_, 1) := by decide +kernel
theorem d_X4_copyFrom_5 : decode m_X4_copyFrom.2.1 5 = .ok (.aload_n 0, 1) := by decide +kernel
theorem d_X4_copyFrom_6 : decode m_X4_copyFrom.2.1 6 = .ok (.aload_n 1, 1) := by decide +kernel
theorem d_X4_copyFrom_7 : decode m_X4_copyFrom.2.1 7 = .ok (.getfield 15, 3) := by decide +kernel
theorem d_X4_copyFrom_10 : decode m_X4_copyFrom.2.1 10 = .ok (.putfield 15, 3) := by decide +kernel
theorem d_X4_copyFrom_13 : decode m_X4_copyFrom.2.1 13 = .ok (.aload_n 1, 1) := by decide +kernel
theorem d_X4_copyFrom_14 : decode m_X4_copyFrom.2.1 14 = .ok (.getfield 11, 3) := by decide +kernel
theorem d_X4_copyFrom_17 : decode m_X4_copyFrom.2.1 17 = .ok (.aload_n 0, 1) := by decide +kernel
theorem d_X4_copyFrom_18 : decode m_X4_copyFrom.2.1 18 = .ok (.getfield 11, 3) := by decide +kernel
theorem d_X4_copyFrom_21 : decode m_X4_copyFrom.2.1 21 = .ok (.aload_n 0, 1) := by decide +kernel
theorem d_X4_copyFrom_22 : decode m_X4_copyFrom.2.1 22 = .ok (.getfield 15, 3) := by decide +kernel
theorem d_X4_copyFrom_25 : decode m_X4_copyFrom.2.1 25 = .ok (.iconst 1, 1) := by decide +kernel
theorem d_X4_copyFrom_26 : decode m_X4_copyFrom.2.1 26 = .ok (.iadd, 1) := by decide +kernel
theorem d_X4_copyFrom_27 : decode m_X4_copyFrom.2.1 27 = .ok (.bipush 8, 2) := by decide +kernel
theorem d_X4_copyFrom_29 : decode m_X4_copyFrom.2.1 29 = .ok (.imul, 1) := by decide +kernel
theorem d_X4_copyFrom_30 : decode m_X4_copyFrom.2.1 30 = .ok (.invokestatic 53, 3) := by decide +kernel
theorem d_X4_copyFrom_33 : decode m_X4_copyFrom.2.1 33 = .ok (.return_, 1) := by decide +kernel
theorem d_X5_init_0 : decode m_X5_init.2.1 0 = .ok (.aload_n 0, 1) := by decide +kernel
theorem d_X5_init_1 : decode m_X5_init.2.1 1 = .ok (.invokespecial 3, 3) := by decide +kernel
theorem d_X5_init_4 : decode m_X5_init.2.1 4 = .ok (.aload_n 0, 1) := by decide +kernel
theorem d_X5_init_5 : decode m_X5_init.2.1 5 = .ok (.sipush 240, 3) := by decide +kernel
theorem d_X5_init_8 : decode m_X5_init.2.1 8 = .ok (.newarray .int, 2) := by decide +kernel
theorem d_X5_init_10 : decode m_X5_init.2.1 10 = .ok (.putfield 9, 3) := by decide +kernel
theorem d_X5_init_13 : decode m_X5_init.2.1 13 = .ok (.aload_n 0, 1) := by decide +kernel
theorem d_X5_init_14 : decode m_X5_init.2.1 14 = .ok (.iconst 3, 1) := by decide +kernel
theorem d_X5_init_15 : decode m_X5_init.2.1 15 = .ok (.newarray .int, 2) := by decide +kernel
theorem d_X5_init_17 : decode m_X5_init.2.1 17 = .ok (.putfield 15, 3) := by decide +kernel
theorem d_X5_init_20 : decode m_X5_init.2.1 20 = .ok (.aload_n 0, 1) := by decide +kernel
theorem d_X5_init_21 : decode m_X5_init.2.1 21 = .ok (.iconst 3, 1) := by decide +kernel
theorem d_X5_init_22 : decode m_X5_init.2.1 22 = .ok (.newarray .int, 2) := by decide +kernel
theorem d_X5_init_24 : decode m_X5_init.2.1 24 = .ok (.putfield 18, 3) := by decide +kernel
theorem d_X5_init_27 : decode m_X5_init.2.1 27 = .ok (.return_, 1) := by decide +kernel
theorem d_X5_take_0 : decode m_X5_take.2.1 0 = .ok (.aload_n 2, 1) := by decide +kernel
theorem d_X5_take_1 : decode m_X5_take.2.1 1 = .ok (.ifnonnull 4, 3) := by decide +kernel
theorem d_X5_take_4 : decode m_X5_take.2.1 4 = .ok (.return_, 1) := by decide +kernel
theorem d_X5_take_5 : decode m_X5_take.2.1 5 = .ok (.aload_n 0, 1) := by decide +kernel
theorem d_X5_take_6 : decode m_X5_take.2.1 6 = .ok (.getfield 15, 3) := by decide +kernel
theorem d_X5_take_9 : decode m_X5_take.2.1 9 = .ok (.iload_n 1, 1) := by decide +kernel
theorem d_X5_take_10 : decode m_X5_take.2.1 10 = .ok (.aload_n 2, 1) := by decide +kernel
theorem d_X5_take_11 : decode m_X5_take.2.1 11 = .ok (.getfield 21, 3) := by decide +kernel
theorem d_X5_take_14 : decode m_X5_take.2.1 14 = .ok (.invokestatic 27, 3) := by decide +kernel
theorem d_X5_take_17 : decode m_X5_take.2.1 17 = .ok (.aload_n 0, 1) := by decide +kernel
theorem d_X5_take_18 : decode m_X5_take.2.1 18 = .ok (.getfield 18, 3) := by decide +kernel
theorem d_X5_take_21 : decode m_X5_take.2.1 21 = .ok (.iload_n 1, 1) := by decide +kernel
theorem d_X5_take_22 : decode m_X5_take.2.1 22 = .ok (.aload_n 2, 1) := by decide +kernel
theorem d_X5_take_23 : decode m_X5_take.2.1 23 = .ok (.getfield 31, 3) := by decide +kernel
theorem d_X5_take_26 : decode m_X5_take.2.1 26 = .ok (.invokestatic 27, 3) := by decide +kernel
theorem d_X5_take_29 : decode m_X5_take.2.1 29 = .ok (.iconst 0, 1) := by decide +kernel
theorem d_X5_take_30 : decode m_X5_take.2.1 30 = .ok (.istore_n 3, 1) := by decide +kernel
theorem d_X5_take_31 : decode m_X5_take.2.1 31 = .ok (.iload_n 3, 1) := by decide +kernel
theorem d_X5_take_32 : decode m_X5_take.2.1 32 = .ok (.bipush 80, 2) := by decide +kernel
theorem d_X5_take_34 : decode m_X5_take.2.1 34 = .ok (.if_icmp .ge 30, 3) := by decide +kernel
theorem d_X5_take_37 : decode m_X5_take.2.1 37 = .ok (.aload_n 0, 1) := by decide +kernel
theorem d_X5_take_38 : decode m_X5_take.2.1 38 = .ok (.getfield 9, 3) := by decide +kernel
theorem d_X5_take_41 : decode m_X5_take.2.1 41 = .ok (.iload_n 1, 1) := by decide +kernel
theorem d_X5_take_42 : decode m_X5_take.2.1 42 = .ok (.bipush 80, 2) := by decide +kernel
theorem d_X5_take_44 : decode m_X5_take.2.1 44 = .ok (.imul, 1) := by decide +kernel
theorem d_X5_take_45 : decode m_X5_take.2.1 45 = .ok (.iload_n 3, 1) := by decide +kernel
theorem d_X5_take_46 : decode m_X5_take.2.1 46 = .ok (.iadd, 1) := by decide +kernel
theorem d_X5_take_47 : decode m_X5_take.2.1 47 = .ok (.aload_n 2, 1) := by decide +kernel
theorem d_X5_take_48 : decode m_X5_take.2.1 48 = .ok (.getfield 34, 3) := by decide +kernel
theorem d_X5_take_51 : decode m_X5_take.2.1 51 = .ok (.iload_n 3, 1) := by decide +kernel
theorem d_X5_take_52 : decode m_X5_take.2.1 52 = .ok (.invokestatic 37, 3) := by decide +kernel
theorem d_X5_take_55 : decode m_X5_take.2.1 55 = .ok (.invokestatic 27, 3) := by decide +kernel
theorem d_X5_take_58 : decode m_X5_take.2.1 58 = .ok (.iinc 3 1, 3) := by decide +kernel
theorem d_X5_take_61 : decode m_X5_take.2.1 61 = .ok (.goto (-30), 3) := by decide +kernel
theorem d_X5_take_64 : decode m_X5_take.2.1 64 = .ok (.return_, 1) := by decide +kernel
theorem d_X5_allOperands_0 : decode m_X5_allOperands.2.1 0 = .ok (.iconst 0, 1) := by decide +kernel
theorem d_X5_allOperands_1 : decode m_X5_allOperands.2.1 1 = .ok (.istore_n 1, 1) := by decide +kernel
theorem d_X5_allOperands_2 : decode m_X5_allOperands.2.1 2 = .ok (.iconst 0, 1) := by decide +kernel
theorem d_X5_allOperands_3 : decode m_X5_allOperands.2.1 3 = .ok (.istore_n 2, 1) := by decide +kernel
theorem d_X5_allOperands_4 : decode m_X5_allOperands.2.1 4 = .ok (.iload_n 2, 1) := by decide +kernel
theorem d_X5_allOperands_5 : decode m_X5_allOperands.2.1 5 = .ok (.iconst 3, 1) := by decide +kernel
theorem d_X5_allOperands_6 : decode m_X5_allOperands.2.1 6 = .ok (.if_icmp .ge 20, 3) := by decide +kernel
theorem d_X5_allOperands_9 : decode m_X5_allOperands.2.1 9 = .ok (.iload_n 1, 1) := by decide +kernel
theorem d_X5_allOperands_10 : decode m_X5_allOperands.2.1 10 = .ok (.aload_n 0, 1) := by decide +kernel
theorem d_X5_allOperands_11 : decode m_X5_allOperands.2.1 11 = .ok (.getfield 18, 3) := by decide +kernel
theorem d_X5_allOperands_14 : decode m_X5_allOperands.2.1 14 = .ok (.iload_n 2, 1) := by decide +kernel
theorem d_X5_allOperands_15 : decode m_X5_allOperands.2.1 15 = .ok (.invokestatic 37, 3) := by decide +kernel
theorem d_X5_allOperands_18 : decode m_X5_allOperands.2.1 18 = .ok (.ior, 1) := by decide +kernel
theorem d_X5_allOperands_19 : decode m_X5_allOperands.2.1 19 = .ok (.istore_n 1, 1) := by decide +kernel
theorem d_X5_allOperands_20 : decode m_X5_allOperands.2.1 20 = .ok (.iinc 2 1, 3) := by decide +kernel
theorem d_X5_allOperands_23 : decode m_X5_allOperands.2.1 23 = .ok (.goto (-19), 3) := by decide +kernel
theorem d_X5_allOperands_26 : decode m_X5_allOperands.2.1 26 = .ok (.iload_n 1, 1) := by decide +kernel
theorem d_X5_allOperands_27 : decode m_X5_allOperands.2.1 27 = .ok (.ireturn, 1) := by decide +kernel
theorem d_X5_workOut_0 : decode m_X5_workOut.2.1 0 = .ok (.bipush 80, 2) := by decide +kernel
theorem d_X5_workOut_2 : decode m_X5_workOut.2.1 2 = .ok (.aload_n 0, 1) := by decide +kernel
theorem d_X5_workOut_3 : decode m_X5_workOut.2.1 3 = .ok (.getfield 15, 3) := by decide +kernel
theorem d_X5_workOut_6 : decode m_X5_workOut.2.1 6 = .ok (.iload_n 1, 1) := by decide +kernel
theorem d_X5_workOut_7 : decode m_X5_workOut.2.1 7 = .ok (.invokestatic 37, 3) := by decide +kernel
theorem d_X5_workOut_10 : decode m_X5_workOut.2.1 10 = .ok (.invokestatic 41, 3) := by decide +kernel
theorem d_X5_workOut_13 : decode m_X5_workOut.2.1 13 = .ok (.istore 4, 2) := by decide +kernel
theorem d_X5_workOut_15 : decode m_X5_workOut.2.1 15 = .ok (.iconst 0, 1) := by decide +kernel
theorem d_X5_workOut_16 : decode m_X5_workOut.2.1 16 = .ok (.istore 5, 2) := by decide +kernel
theorem d_X5_workOut_18 : decode m_X5_workOut.2.1 18 = .ok (.iconst 0, 1) := by decide +kernel
theorem d_X5_workOut_19 : decode m_X5_workOut.2.1 19 = .ok (.istore 6, 2) := by decide +kernel
theorem d_X5_workOut_21 : decode m_X5_workOut.2.1 21 = .ok (.iload 6, 2) := by decide +kernel
theorem d_X5_workOut_23 : decode m_X5_workOut.2.1 23 = .ok (.iload 4, 2) := by decide +kernel
theorem d_X5_workOut_25 : decode m_X5_workOut.2.1 25 = .ok (.if_icmp .ge 144, 3) := by decide +kernel
theorem d_X5_workOut_28 : decode m_X5_workOut.2.1 28 = .ok (.aload_n 0, 1) := by decide +kernel
theorem d_X5_workOut_29 : decode m_X5_workOut.2.1 29 = .ok (.getfield 9, 3) := by decide +kernel
theorem d_X5_workOut_32 : decode m_X5_workOut.2.1 32 = .ok (.iload_n 1, 1) := by decide +kernel
theorem d_X5_workOut_33 : decode m_X5_workOut.2.1 33 = .ok (.bipush 80, 2) := by decide +kernel
theorem d_X5_workOut_35 : decode m_X5_workOut.2.1 35 = .ok (.imul, 1) := by decide +kernel
theorem d_X5_workOut_36 : decode m_X5_workOut.2.1 36 = .ok (.iload 6, 2) := by decide +kernel
theorem d_X5_workOut_38 : decode m_X5_workOut.2.1 38 = .ok (.iadd, 1) := by decide +kernel
theorem d_X5_workOut_39 : decode m_X5_workOut.2.1 39 = .ok (.invokestatic 37, 3) := by decide +kernel
theorem d_X5_workOut_42 : decode m_X5_workOut.2.1 42 = .ok (.istore 7, 2) := by decide +kernel
theorem d_X5_workOut_44 : decode m_X5_workOut.2.1 44 = .ok (.iload 7, 2) := by decide +kernel
theorem d_X5_workOut_46 : decode m_X5_workOut.2.1 46 = .ok (.bipush 15, 2) := by decide +kernel
theorem d_X5_workOut_48 : decode m_X5_workOut.2.1 48 = .ok (.iand, 1) := by decide +kernel
theorem d_X5_workOut_49 : decode m_X5_workOut.2.1 49 = .ok (.istore 8, 2) := by decide +kernel
theorem d_X5_workOut_51 : decode m_X5_workOut.2.1 51 = .ok (.iload 7, 2) := by decide +kernel
theorem d_X5_workOut_53 : decode m_X5_workOut.2.1 53 = .ok (.iconst 4, 1) := by decide +kernel
theorem d_X5_workOut_54 : decode m_X5_workOut.2.1 54 = .ok (.ishr, 1) := by decide +kernel
theorem d_X5_workOut_55 : decode m_X5_workOut.2.1 55 = .ok (.istore 9, 2) := by decide +kernel
theorem d_X5_workOut_57 : decode m_X5_workOut.2.1 57 = .ok (.iload 8, 2) := by decide +kernel
theorem d_X5_workOut_59 : decode m_X5_workOut.2.1 59 = .ok (.ifCond .eq 9, 3) := by decide +kernel
theorem d_X5_workOut_62 : decode m_X5_workOut.2.1 62 = .ok (.iload 8, 2) := by decide +kernel
theorem d_X5_workOut_64 : decode m_X5_workOut.2.1 64 = .ok (.iconst 1, 1) := by decide +kernel
theorem d_X5_workOut_65 : decode m_X5_workOut.2.1 65 = .ok (.if_icmp .ne 31, 3) := by decide +kernel
theorem d_X5_workOut_68 : decode m_X5_workOut.2.1 68 = .ok (.aload_n 3, 1) := by decide +kernel
theorem d_X5_workOut_69 : decode m_X5_workOut.2.1 69 = .ok (.iload 5, 2) := by decide +kernel
theorem d_X5_workOut_71 : decode m_X5_workOut.2.1 71 = .ok (.iload 8, 2) := by decide +kernel
theorem d_X5_workOut_73 : decode m_X5_workOut.2.1 73 = .ok (.ifCond .ne 8, 3) := by decide +kernel
theorem d_X5_workOut_76 : decode m_X5_workOut.2.1 76 = .ok (.iload 9, 2) := by decide +kernel
theorem d_X5_workOut_78 : decode m_X5_workOut.2.1 78 = .ok (.goto 9, 3) := by decide +kernel
theorem d_X5_workOut_81 : decode m_X5_workOut.2.1 81 = .ok (.aload_n 2, 1) := by decide +kernel
theorem d_X5_workOut_82 : decode m_X5_workOut.2.1 82 = .ok (.iload 9, 2) := by decide +kernel
theorem d_X5_workOut_84 : decode m_X5_workOut.2.1 84 = .ok (.invokestatic 37, 3) := by decide +kernel
theorem d_X5_workOut_87 : decode m_X5_workOut.2.1 87 = .ok (.invokestatic 27, 3) := by decide +kernel
theorem d_X5_workOut_90 : decode m_X5_workOut.2.1 90 = .ok (.iinc 5 1, 3) := by decide +kernel
theorem d_X5_workOut_93 : decode m_X5_workOut.2.1 93 = .ok (.goto 70, 3) := by decide +kernel
theorem d_X5_workOut_96 : decode m_X5_workOut.2.1 96 = .ok (.iload 8, 2) := by decide +kernel
theorem d_X5_workOut_98 : decode m_X5_workOut.2.1 98 = .ok (.bipush 6, 2) := by decide +kernel
theorem d_X5_workOut_100 : decode m_X5_workOut.2.1 100 = .ok (.if_icmp .ne 27, 3) := by decide +kernel
theorem d_X5_workOut_103 : decode m_X5_workOut.2.1 103 = .ok (.aload_n 3, 1) := by decide +kernel
theorem d_X5_workOut_104 : decode m_X5_workOut.2.1 104 = .ok (.iload 5, 2) := by decide +kernel
theorem d_X5_workOut_106 : decode m_X5_workOut.2.1 106 = .ok (.iconst 1, 1) := by decide +kernel
theorem d_X5_workOut_107 : decode m_X5_workOut.2.1 107 = .ok (.isub, 1) := by decide +kernel
theorem d_X5_workOut_108 : decode m_X5_workOut.2.1 108 = .ok (.aload_n 3, 1) := by decide +kernel
theorem d_X5_workOut_109 : decode m_X5_workOut.2.1 109 = .ok (.iload 5, 2) := by decide +kernel
theorem d_X5_workOut_111 : decode m_X5_workOut.2.1 111 = .ok (.iconst 1, 1) := by decide +kernel
theorem d_X5_workOut_112 : decode m_X5_workOut.2.1 112 = .ok (.isub, 1) := by decide +kernel
theorem d_X5_workOut_113 : decode m_X5_workOut.2.1 113 = .ok (.invokestatic 37, 3) := by decide +kernel
theorem d_X5_workOut_116 : decode m_X5_workOut.2.1 116 = .ok (.i2l, 1) := by decide +kernel
theorem d_X5_workOut_117 : decode m_X5_workOut.2.1 117 = .ok (.lneg, 1) := by decide +kernel
theorem d_X5_workOut_118 : decode m_X5_workOut.2.1 118 = .ok (.invokestatic 47, 3) := by decide +kernel
theorem d_X5_workOut_121 : decode m_X5_workOut.2.1 121 = .ok (.invokestatic 27, 3) := by decide +kernel
theorem d_X5_workOut_124 : decode m_X5_workOut.2.1 124 = .ok (.goto 39, 3) := by decide +kernel
theorem d_X5_workOut_127 : decode m_X5_workOut.2.1 127 = .ok (.iinc 5 (-1), 3) := by decide +kernel
theorem d_X5_workOut_130 : decode m_X5_workOut.2.1 130 = .ok (.iload 8, 2) := by decide +kernel
theorem d_X5_workOut_132 : decode m_X5_workOut.2.1 132 = .ok (.aload_n 3, 1) := by decide +kernel
theorem d_X5_workOut_133 : decode m_X5_workOut.2.1 133 = .ok (.iload 5, 2) := by decide +kernel
theorem d_X5_workOut_135 : decode m_X5_workOut.2.1 135 = .ok (.iconst 1, 1) := by decide +kernel
theorem d_X5_workOut_136 : decode m_X5_workOut.2.1 136 = .ok (.isub, 1) := by decide +kernel
theorem d_X5_workOut_137 : decode m_X5_workOut.2.1 137 = .ok (.invokestatic 37, 3) := by decide +kernel
theorem d_X5_workOut_140 : decode m_X5_workOut.2.1 140 = .ok (.i2l, 1) := by decide +kernel
theorem d_X5_workOut_141 : decode m_X5_workOut.2.1 141 = .ok (.aload_n 3, 1) := by decide +kernel
theorem d_X5_workOut_142 : decode m_X5_workOut.2.1 142 = .ok (.iload 5, 2) := by decide +kernel
theorem d_X5_workOut_144 : decode m_X5_workOut.2.1 144 = .ok (.invokestatic 37, 3) := by decide +kernel
theorem d_X5_workOut_147 : decode m_X5_workOut.2.1 147 = .ok (.i2l, 1) := by decide +kernel
theorem d_X5_workOut_148 : decode m_X5_workOut.2.1 148 = .ok (.invokestatic 51, 3) := by decide +kernel
theorem d_X5_workOut_151 : decode m_X5_workOut.2.1 151 = .ok (.istore 10, 2) := by decide +kernel
theorem d_X5_workOut_153 : decode m_X5_workOut.2.1 153 = .ok (.aload_n 3, 1) := by decide +kernel
theorem d_X5_workOut_154 : decode m_X5_workOut.2.1 154 = .ok (.iload 5, 2) := by decide +kernel
theorem d_X5_workOut_156 : decode m_X5_workOut.2.1 156 = .ok (.iconst 1, 1) := by decide +kernel
theorem d_X5_workOut_157 : decode m_X5_workOut.2.1 157 = .ok (.isub, 1) := by decide +kernel
theorem d_X5_workOut_158 : decode m_X5_workOut.2.1 158 = .ok (.iload 10, 2) := by decide +kernel
theorem d_X5_workOut_160 : decode m_X5_workOut.2.1 160 = .ok (.invokestatic 27, 3) := by decide +kernel
theorem d_X5_workOut_163 : decode m_X5_workOut.2.1 163 = .ok (.iinc 6 1, 3) := by decide +kernel
theorem d_X5_workOut_166 : decode m_X5_workOut.2.1 166 = .ok (.goto (-145), 3) := by decide +kernel
theorem d_X5_workOut_169 : decode m_X5_workOut.2.1 169 = .ok (.iload 5, 2) := by decide +kernel
theorem d_X5_workOut_171 : decode m_X5_workOut.2.1 171 = .ok (.iconst 1, 1) := by decide +kernel
theorem d_X5_workOut_172 : decode m_X5_workOut.2.1 172 = .ok (.if_icmp .ne 11, 3) := by decide +kernel
theorem d_X5_workOut_175 : decode m_X5_workOut.2.1 175 = .ok (.aload_n 3, 1) := by decide +kernel
theorem d_X5_workOut_176 : decode m_X5_workOut.2.1 176 = .ok (.iconst 0, 1) := by decide +kernel
theorem d_X5_workOut_177 : decode m_X5_workOut.2.1 177 = .ok (.invokestatic 37, 3) := by decide +kernel
theorem d_X5_workOut_180 : decode m_X5_workOut.2.1 180 = .ok (.goto 4, 3) := by decide +kernel
theorem d_X5_workOut_183 : decode m_X5_workOut.2.1 183 = .ok (.iconst 0, 1) := by decide +kernel
theorem d_X5_workOut_184 : decode m_X5_workOut.2.1 184 = .ok (.ireturn, 1) := by decide +kernel
theorem d_X5_join_0 : decode m_X5_join.2.1 0 = .ok (.iload_n 0, 1) := by decide +kernel
theorem d_X5_join_1 : decode m_X5_join.2.1 1 = .ok (.tableswitch 84 2 7 #[39, 46, 53, 64, 84, 77], 39) := by decide +kernel
theorem d_X5_join_40 : decode m_X5_join.2.1 40 = .ok (.lload_n 1, 1) := by decide +kernel
theorem d_X5_join_41 : decode m_X5_join.2.1 41 = .ok (.lload_n 3, 1) := by decide +kernel
theorem d_X5_join_42 : decode m_X5_join.2.1 42 = .ok (.ladd, 1) := by decide +kernel
theorem d_X5_join_43 : decode m_X5_join.2.1 43 = .ok (.invokestatic 47, 3) := by decide +kernel
theorem d_X5_join_46 : decode m_X5_join.2.1 46 = .ok (.ireturn, 1) := by decide +kernel
theorem d_X5_join_47 : decode m_X5_join.2.1 47 = .ok (.lload_n 1, 1) := by decide +kernel
theorem d_X5_join_48 : decode m_X5_join.2.1 48 = .ok (.lload_n 3, 1) := by decide +kernel
theorem d_X5_join_49 : decode m_X5_join.2.1 49 = .ok (.lsub, 1) := by decide +kernel
theorem d_X5_join_50 : decode m_X5_join.2.1 50 = .ok (.invokestatic 47, 3) := by decide +kernel
theorem d_X5_join_53 : decode m_X5_join.2.1 53 = .ok (.ireturn, 1) := by decide +kernel
theorem d_X5_join_54 : decode m_X5_join.2.1 54 = .ok (.lload_n 1, 1) := by decide +kernel
theorem d_X5_join_55 : decode m_X5_join.2.1 55 = .ok (.lload_n 3, 1) := by decide +kernel
theorem d_X5_join_56 : decode m_X5_join.2.1 56 = .ok (.lmul, 1) := by decide +kernel
theorem d_X5_join_57 : decode m_X5_join.2.1 57 = .ok (.ldc2_w 55, 3) := by decide +kernel
theorem d_X5_join_60 : decode m_X5_join.2.1 60 = .ok (.ldiv, 1) := by decide +kernel
theorem d_X5_join_61 : decode m_X5_join.2.1 61 = .ok (.invokestatic 47, 3) := by decide +kernel
theorem d_X5_join_64 : decode m_X5_join.2.1 64 = .ok (.ireturn, 1) := by decide +kernel
theorem d_X5_join_65 : decode m_X5_join.2.1 65 = .ok (.lload_n 1, 1) := by decide +kernel
theorem d_X5_join_66 : decode m_X5_join.2.1 66 = .ok (.ldc2_w 55, 3) := by decide +kernel
theorem d_X5_join_69 : decode m_X5_join.2.1 69 = .ok (.lmul, 1) := by decide +kernel
theorem d_X5_join_70 : decode m_X5_join.2.1 70 = .ok (.lload_n 3, 1) := by decide +kernel
theorem d_X5_join_71 : decode m_X5_join.2.1 71 = .ok (.invokestatic 57, 3) := by decide +kernel
theorem d_X5_join_74 : decode m_X5_join.2.1 74 = .ok (.invokestatic 47, 3) := by decide +kernel
theorem d_X5_join_77 : decode m_X5_join.2.1 77 = .ok (.ireturn, 1) := by decide +kernel
theorem d_X5_join_78 : decode m_X5_join.2.1 78 = .ok (.lload_n 1, 1) := by decide +kernel
theorem d_X5_join_79 : decode m_X5_join.2.1 79 = .ok (.lload_n 3, 1) := by decide +kernel
theorem d_X5_join_80 : decode m_X5_join.2.1 80 = .ok (.invokestatic 61, 3) := by decide +kernel
theorem d_X5_join_83 : decode m_X5_join.2.1 83 = .ok (.l2i, 1) := by decide +kernel
theorem d_X5_join_84 : decode m_X5_join.2.1 84 = .ok (.ireturn, 1) := by decide +kernel
theorem d_X5_join_85 : decode m_X5_join.2.1 85 = .ok (.lload_n 1, 1) := by decide +kernel
theorem d_X5_join_86 : decode m_X5_join.2.1 86 = .ok (.lload_n 3, 1) := by decide +kernel
theorem d_X5_join_87 : decode m_X5_join.2.1 87 = .ok (.invokestatic 63, 3) := by decide +kernel
theorem d_X5_join_90 : decode m_X5_join.2.1 90 = .ok (.l2i, 1) := by decide +kernel
theorem d_X5_join_91 : decode m_X5_join.2.1 91 = .ok (.ireturn, 1) := by decide +kernel
theorem d_X5_copyFrom_0 : decode m_X5_copyFrom.2.1 0 = .ok (.aload_n 1, 1) := by decide +kernel
theorem d_X5_copyFrom_1 : decode m_X5_copyFrom.2.1 1 = .ok (.ifnonnull 4, 3) := by decide +kernel
theorem d_X5_copyFrom_4 : decode m_X5_copyFrom.2.1 4 = .ok (.return_, 1) := by decide +kernel
theorem d_X5_copyFrom_5 : decode m_X5_copyFrom.2.1 5 = .ok (.aload_n 1, 1) := by decide +kernel
theorem d_X5_copyFrom_6 : decode m_X5_copyFrom.2.1 6 = .ok (.getfield 9, 3) := by decide +kernel
theorem d_X5_copyFrom_9 : decode m_X5_copyFrom.2.1 9 = .ok (.aload_n 0, 1) := by decide +kernel
theorem d_X5_copyFrom_10 : decode m_X5_copyFrom.2.1 10 = .ok (.getfield 9, 3) := by decide +kernel
theorem d_X5_copyFrom_13 : decode m_X5_copyFrom.2.1 13 = .ok (.sipush 240, 3) := by decide +kernel
theorem d_X5_copyFrom_16 : decode m_X5_copyFrom.2.1 16 = .ok (.invokestatic 66, 3) := by decide +kernel
theorem d_X5_copyFrom_19 : decode m_X5_copyFrom.2.1 19 = .ok (.aload_n 1, 1) := by decide +kernel
theorem d_X5_copyFrom_20 : decode m_X5_copyFrom.2.1 20 = .ok (.getfield 15, 3) := by decide +kernel
theorem d_X5_copyFrom_23 : decode m_X5_copyFrom.2.1 23 = .ok (.aload_n 0, 1) := by decide +kernel
theorem d_X5_copyFrom_24 : decode m_X5_copyFrom.2.1 24 = .ok (.getfield 15, 3) := by decide +kernel
theorem d_X5_copyFrom_27 : decode m_X5_copyFrom.2.1 27 = .ok (.iconst 3, 1) := by decide +kernel
theorem d_X5_copyFrom_28 : decode m_X5_copyFrom.2.1 28 = .ok (.invokestatic 66, 3) := by decide +kernel
theorem d_X5_copyFrom_31 : decode m_X5_copyFrom.2.1 31 = .ok (.aload_n 1, 1) := by decide +kernel
theorem d_X5_copyFrom_32 : decode m_X5_copyFrom.2.1 32 = .ok (.getfield 18, 3) := by decide +kernel
theorem d_X5_copyFrom_35 : decode m_X5_copyFrom.2.1 35 = .ok (.aload_n 0, 1) := by decide +kernel
theorem d_X5_copyFrom_36 : decode m_X5_copyFrom.2.1 36 = .ok (.getfield 18, 3) := by decide +kernel
theorem d_X5_copyFrom_39 : decode m_X5_copyFrom.2.1 39 = .ok (.iconst 3, 1) := by decide +kernel
theorem d_X5_copyFrom_40 : decode m_X5_copyFrom.2.1 40 = .ok (.invokestatic 66, 3) := by decide +kernel
theorem d_X5_copyFrom_43 : decode m_X5_copyFrom.2.1 43 = .ok (.return_, 1) := by decide +kernel
theorem d_X6_init_0 : decode m_X6_init.2.1 0 = .ok (.aload_n 0, 1) := by decide +kernel
theorem d_X6_init_1 : decode m_X6_init.2.1 1 = .ok (.invokespecial 3, 3) := by decide +kernel
theorem d_X6_init_4 : decode m_X6_init.2.1 4 = .ok (.aload_n 0, 1) := by decide +kernel
theorem d_X6_init_5 : decode m_X6_init.2.1 5 = .ok (.new 9, 3) := by decide +kernel
theorem d_X6_init_8 : decode m_X6_init.2.1 8 = .ok (.dup, 1) := by decide +kernel
theorem d_X6_init_9 : decode m_X6_init.2.1 9 = .ok (.invokespecial 11, 3) := by decide +kernel
theorem d_X6_init_12 : decode m_X6_init.2.1 12 = .ok (.putfield 12, 3) := by decide +kernel
theorem d_X6_init_15 : decode m_X6_init.2.1 15 = .ok (.aload_n 0, 1) := by decide +kernel
theorem d_X6_init_16 : decode m_X6_init.2.1 16 = .ok (.new 18, 3) := by decide +kernel
theorem d_X6_init_19 : decode m_X6_init.2.1 19 = .ok (.dup, 1) := by decide +kernel
theorem d_X6_init_20 : decode m_X6_init.2.1 20 = .ok (.invokespecial 20, 3) := by decide +kernel
theorem d_X6_init_23 : decode m_X6_init.2.1 23 = .ok (.putfield 21, 3) := by decide +kernel
theorem d_X6_init_26 : decode m_X6_init.2.1 26 = .ok (.aload_n 0, 1) := by decide +kernel
theorem d_X6_init_27 : decode m_X6_init.2.1 27 = .ok (.new 25, 3) := by decide +kernel
theorem d_X6_init_30 : decode m_X6_init.2.1 30 = .ok (.dup, 1) := by decide +kernel
theorem d_X6_init_31 : decode m_X6_init.2.1 31 = .ok (.invokespecial 27, 3) := by decide +kernel
theorem d_X6_init_34 : decode m_X6_init.2.1 34 = .ok (.putfield 28, 3) := by decide +kernel
theorem d_X6_init_37 : decode m_X6_init.2.1 37 = .ok (.aload_n 0, 1) := by decide +kernel
theorem d_X6_init_38 : decode m_X6_init.2.1 38 = .ok (.iconst 3, 1) := by decide +kernel
theorem d_X6_init_39 : decode m_X6_init.2.1 39 = .ok (.newarray .int, 2) := by decide +kernel
theorem d_X6_init_41 : decode m_X6_init.2.1 41 = .ok (.dup, 1) := by decide +kernel
theorem d_X6_init_42 : decode m_X6_init.2.1 42 = .ok (.iconst 0, 1) := by decide +kernel
theorem d_X6_init_43 : decode m_X6_init.2.1 43 = .ok (.bipush 100, 2) := by decide +kernel
theorem d_X6_init_45 : decode m_X6_init.2.1 45 = .ok (.iastore, 1) := by decide +kernel
theorem d_X6_init_46 : decode m_X6_init.2.1 46 = .ok (.dup, 1) := by decide +kernel
theorem d_X6_init_47 : decode m_X6_init.2.1 47 = .ok (.iconst 1, 1) := by decide +kernel
theorem d_X6_init_48 : decode m_X6_init.2.1 48 = .ok (.iconst 1, 1) := by decide +kernel
theorem d_X6_init_49 : decode m_X6_init.2.1 49 = .ok (.iastore, 1) := by decide +kernel
theorem d_X6_init_50 : decode m_X6_init.2.1 50 = .ok (.dup, 1) := by decide +kernel
theorem d_X6_init_51 : decode m_X6_init.2.1 51 = .ok (.iconst 2, 1) := by decide +kernel
theorem d_X6_init_52 : decode m_X6_init.2.1 52 = .ok (.iconst 2, 1) := by decide +kernel
theorem d_X6_init_53 : decode m_X6_init.2.1 53 = .ok (.iastore, 1) := by decide +kernel
theorem d_X6_init_54 : decode m_X6_init.2.1 54 = .ok (.putfield 32, 3) := by decide +kernel
theorem d_X6_init_57 : decode m_X6_init.2.1 57 = .ok (.aload_n 0, 1) := by decide +kernel
theorem d_X6_init_58 : decode m_X6_init.2.1 58 = .ok (.new 36, 3) := by decide +kernel
theorem d_X6_init_61 : decode m_X6_init.2.1 61 = .ok (.dup, 1) := by decide +kernel
theorem d_X6_init_62 : decode m_X6_init.2.1 62 = .ok (.invokespecial 38, 3) := by decide +kernel
theorem d_X6_init_65 : decode m_X6_init.2.1 65 = .ok (.putfield 39, 3) := by decide +kernel
theorem d_X6_init_68 : decode m_X6_init.2.1 68 = .ok (.aload_n 0, 1) := by decide +kernel
theorem d_X6_init_69 : decode m_X6_init.2.1 69 = .ok (.new 43, 3) := by decide +kernel
theorem d_X6_init_72 : decode m_X6_init.2.1 72 = .ok (.dup, 1) := by decide +kernel
theorem d_X6_init_73 : decode m_X6_init.2.1 73 = .ok (.invokespecial 45, 3) := by decide +kernel
theorem d_X6_init_76 : decode m_X6_init.2.1 76 = .ok (.putfield 46, 3) := by decide +kernel
theorem d_X6_init_79 : decode m_X6_init.2.1 79 = .ok (.return_, 1) := by decide +kernel
theorem d_X6_restart_0 : decode m_X6_restart.2.1 0 = .ok (.aload_n 0, 1) := by decide +kernel
theorem d_X6_restart_1 : decode m_X6_restart.2.1 1 = .ok (.getfield 39, 3) := by decide +kernel
theorem d_X6_restart_4 : decode m_X6_restart.2.1 4 = .ok (.aload_n 0, 1) := by decide +kernel
theorem d_X6_restart_5 : decode m_X6_restart.2.1 5 = .ok (.getfield 21, 3) := by decide +kernel
theorem d_X6_restart_8 : decode m_X6_restart.2.1 8 = .ok (.aload_n 0, 1) := by decide +kernel
theorem d_X6_restart_9 : decode m_X6_restart.2.1 9 = .ok (.getfield 12, 3) := by decide +kernel
theorem d_X6_restart_12 : decode m_X6_restart.2.1 12 = .ok (.invokevirtual 50, 3) := by decide +kernel
theorem d_X6_restart_15 : decode m_X6_restart.2.1 15 = .ok (.invokestatic 54, 3) := by decide +kernel
theorem d_X6_restart_18 : decode m_X6_restart.2.1 18 = .ok (.aload_n 0, 1) := by decide +kernel
theorem d_X6_restart_19 : decode m_X6_restart.2.1 19 = .ok (.getfield 32, 3) := by decide +kernel
theorem d_X6_restart_22 : decode m_X6_restart.2.1 22 = .ok (.iconst 2, 1) := by decide +kernel
theorem d_X6_restart_23 : decode m_X6_restart.2.1 23 = .ok (.invokestatic 58, 3) := by decide +kernel
theorem d_X6_restart_26 : decode m_X6_restart.2.1 26 = .ok (.invokevirtual 62, 3) := by decide +kernel
theorem d_X6_restart_29 : decode m_X6_restart.2.1 29 = .ok (.aload_n 0, 1) := by decide +kernel
theorem d_X6_restart_30 : decode m_X6_restart.2.1 30 = .ok (.getfield 46, 3) := by decide +kernel
theorem d_X6_restart_33 : decode m_X6_restart.2.1 33 = .ok (.aload_n 0, 1) := by decide +kernel
theorem d_X6_restart_34 : decode m_X6_restart.2.1 34 = .ok (.getfield 28, 3) := by decide +kernel
theorem d_X6_restart_37 : decode m_X6_restart.2.1 37 = .ok (.invokevirtual 66, 3) := by decide +kernel
theorem d_X6_restart_40 : decode m_X6_restart.2.1 40 = .ok (.return_, 1) := by decide +kernel
theorem d_X6_valueIn_0 : decode m_X6_valueIn.2.1 0 = .ok (.iload_n 3, 1) := by decide +kernel
theorem d_X6_valueIn_1 : decode m_X6_valueIn.2.1 1 = .ok (.ifCond .gt 15, 3) := by decide +kernel
theorem d_X6_valueIn_4 : decode m_X6_valueIn.2.1 4 = .ok (.aload_n 0, 1) := by decide +kernel
theorem d_X6_valueIn_5 : decode m_X6_valueIn.2.1 5 = .ok (.getfield 28, 3) := by decide +kernel
theorem d_X6_valueIn_8 : decode m_X6_valueIn.2.1 8 = .ok (.iload_n 2, 1) := by decide +kernel
theorem d_X6_valueIn_9 : decode m_X6_valueIn.2.1 9 = .ok (.iload_n 3, 1) := by decide +kernel
theorem d_X6_valueIn_10 : decode m_X6_valueIn.2.1 10 = .ok (.invokevirtual 70, 3) := by decide +kernel
theorem d_X6_valueIn_13 : decode m_X6_valueIn.2.1 13 = .ok (.goto 13, 3) := by decide +kernel
theorem d_X6_valueIn_16 : decode m_X6_valueIn.2.1 16 = .ok (.aload_n 0, 1) := by decide +kernel
theorem d_X6_valueIn_17 : decode m_X6_valueIn.2.1 17 = .ok (.getfield 46, 3) := by decide +kernel
theorem d_X6_valueIn_20 : decode m_X6_valueIn.2.1 20 = .ok (.iload_n 1, 1) := by decide +kernel
theorem d_X6_valueIn_21 : decode m_X6_valueIn.2.1 21 = .ok (.iload_n 2, 1) := by decide +kernel
theorem d_X6_valueIn_22 : decode m_X6_valueIn.2.1 22 = .ok (.iload_n 3, 1) := by decide +kernel
theorem d_X6_valueIn_23 : decode m_X6_valueIn.2.1 23 = .ok (.invokevirtual 74, 3) := by decide +kernel
theorem d_X6_valueIn_26 : decode m_X6_valueIn.2.1 26 = .ok (.ireturn, 1) := by decide +kernel
theorem d_X6_slopeIn_0 : decode m_X6_slopeIn.2.1 0 = .ok (.iload_n 3, 1) := by decide +kernel
theorem d_X6_slopeIn_1 : decode m_X6_slopeIn.2.1 1 = .ok (.ifCond .gt 15, 3) := by decide +kernel
theorem d_X6_slopeIn_4 : decode m_X6_slopeIn.2.1 4 = .ok (.aload_n 0, 1) := by decide +kernel
theorem d_X6_slopeIn_5 : decode m_X6_slopeIn.2.1 5 = .ok (.getfield 28, 3) := by decide +kernel
theorem d_X6_slopeIn_8 : decode m_X6_slopeIn.2.1 8 = .ok (.iload_n 2, 1) := by decide +kernel
theorem d_X6_slopeIn_9 : decode m_X6_slopeIn.2.1 9 = .ok (.iload_n 3, 1) := by decide +kernel
theorem d_X6_slopeIn_10 : decode m_X6_slopeIn.2.1 10 = .ok (.invokevirtual 78, 3) := by decide +kernel
theorem d_X6_slopeIn_13 : decode m_X6_slopeIn.2.1 13 = .ok (.goto 13, 3) := by decide +kernel
theorem d_X6_slopeIn_16 : decode m_X6_slopeIn.2.1 16 = .ok (.aload_n 0, 1) := by decide +kernel
theorem d_X6_slopeIn_17 : decode m_X6_slopeIn.2.1 17 = .ok (.getfield 46, 3) := by decide +kernel
theorem d_X6_slopeIn_20 : decode m_X6_slopeIn.2.1 20 = .ok (.iload_n 1, 1) := by decide +kernel
theorem d_X6_slopeIn_21 : decode m_X6_slopeIn.2.1 21 = .ok (.iload_n 2, 1) := by decide +kernel
theorem d_X6_slopeIn_22 : decode m_X6_slopeIn.2.1 22 = .ok (.iload_n 3, 1) := by decide +kernel
theorem d_X6_slopeIn_23 : decode m_X6_slopeIn.2.1 23 = .ok (.invokevirtual 81, 3) := by decide +kernel
theorem d_X6_slopeIn_26 : decode m_X6_slopeIn.2.1 26 = .ok (.ireturn, 1) := by decide +kernel
theorem d_X6_copyProblem_0 : decode m_X6_copyProblem.2.1 0 = .ok (.aload_n 1, 1) := by decide +kernel
theorem d_X6_copyProblem_1 : decode m_X6_copyProblem.2.1 1 = .ok (.ifnonnull 4, 3) := by decide +kernel
theorem d_X6_copyProblem_4 : decode m_X6_copyProblem.2.1 4 = .ok (.return_, 1) := by decide +kernel
theorem d_X6_copyProblem_5 : decode m_X6_copyProblem.2.1 5 = .ok (.aload_n 0, 1) := by decide +kernel
theorem d_X6_copyProblem_6 : decode m_X6_copyProblem.2.1 6 = .ok (.getfield 12, 3) := by decide +kernel
theorem d_X6_copyProblem_9 : decode m_X6_copyProblem.2.1 9 = .ok (.aload_n 1, 1) := by decide +kernel
theorem d_X6_copyProblem_10 : decode m_X6_copyProblem.2.1 10 = .ok (.getfield 12, 3) := by decide +kernel
theorem d_X6_copyProblem_13 : decode m_X6_copyProblem.2.1 13 = .ok (.invokevirtual 84, 3) := by decide +kernel
theorem d_X6_copyProblem_16 : decode m_X6_copyProblem.2.1 16 = .ok (.aload_n 0, 1) := by decide +kernel
theorem d_X6_copyProblem_17 : decode m_X6_copyProblem.2.1 17 = .ok (.getfield 21, 3) := by decide +kernel
theorem d_X6_copyProblem_20 : decode m_X6_copyProblem.2.1 20 = .ok (.aload_n 1, 1) := by decide +kernel
theorem d_X6_copyProblem_21 : decode m_X6_copyProblem.2.1 21 = .ok (.getfield 21, 3) := by decide +kernel
theorem d_X6_copyProblem_24 : decode m_X6_copyProblem.2.1 24 = .ok (.invokevirtual 88, 3) := by decide +kernel
theorem d_X6_copyProblem_27 : decode m_X6_copyProblem.2.1 27 = .ok (.aload_n 0, 1) := by decide +kernel
theorem d_X6_copyProblem_28 : decode m_X6_copyProblem.2.1 28 = .ok (.getfield 28, 3) := by decide +kernel
theorem d_X6_copyProblem_31 : decode m_X6_copyProblem.2.1 31 = .ok (.aload_n 1, 1) := by decide +kernel
theorem d_X6_copyProblem_32 : decode m_X6_copyProblem.2.1 32 = .ok (.getfield 28, 3) := by decide +kernel
theorem d_X6_copyProblem_35 : decode m_X6_copyProblem.2.1 35 = .ok (.invokevirtual 91, 3) := by decide +kernel
theorem d_X6_copyProblem_38 : decode m_X6_copyProblem.2.1 38 = .ok (.aload_n 1, 1) := by decide +kernel
theorem d_X6_copyProblem_39 : decode m_X6_copyProblem.2.1 39 = .ok (.getfield 32, 3) := by decide +kernel
theorem d_X6_copyProblem_42 : decode m_X6_copyProblem.2.1 42 = .ok (.aload_n 0, 1) := by decide +kernel
theorem d_X6_copyProblem_43 : decode m_X6_copyProblem.2.1 43 = .ok (.getfield 32, 3) := by decide +kernel
theorem d_X6_copyProblem_46 : decode m_X6_copyProblem.2.1 46 = .ok (.iconst 3, 1) := by decide +kernel
theorem d_X6_copyProblem_47 : decode m_X6_copyProblem.2.1 47 = .ok (.invokestatic 93, 3) := by decide +kernel
theorem d_X6_copyProblem_50 : decode m_X6_copyProblem.2.1 50 = .ok (.return_, 1) := by decide +kernel
theorem d_X6_copyFrom_0 : decode m_X6_copyFrom.2.1 0 = .ok (.aload_n 1, 1) := by decide +kernel
theorem d_X6_copyFrom_1 : decode m_X6_copyFrom.2.1 1 = .ok (.ifnonnull 4, 3) := by decide +kernel
theorem d_X6_copyFrom_4 : decode m_X6_copyFrom.2.1 4 = .ok (.return_, 1) := by decide +kernel
theorem d_X6_copyFrom_5 : decode m_X6_copyFrom.2.1 5 = .ok (.aload_n 0, 1) := by decide +kernel
theorem d_X6_copyFrom_6 : decode m_X6_copyFrom.2.1 6 = .ok (.aload_n 1, 1) := by decide +kernel
theorem d_X6_copyFrom_7 : decode m_X6_copyFrom.2.1 7 = .ok (.invokevirtual 97, 3) := by decide +kernel
theorem d_X6_copyFrom_10 : decode m_X6_copyFrom.2.1 10 = .ok (.aload_n 0, 1) := by decide +kernel
theorem d_X6_copyFrom_11 : decode m_X6_copyFrom.2.1 11 = .ok (.getfield 39, 3) := by decide +kernel
theorem d_X6_copyFrom_14 : decode m_X6_copyFrom.2.1 14 = .ok (.aload_n 1, 1) := by decide +kernel
theorem d_X6_copyFrom_15 : decode m_X6_copyFrom.2.1 15 = .ok (.getfield 39, 3) := by decide +kernel
theorem d_X6_copyFrom_18 : decode m_X6_copyFrom.2.1 18 = .ok (.invokevirtual 101, 3) := by decide +kernel
theorem d_X6_copyFrom_21 : decode m_X6_copyFrom.2.1 21 = .ok (.aload_n 0, 1) := by decide +kernel
theorem d_X6_copyFrom_22 : decode m_X6_copyFrom.2.1 22 = .ok (.getfield 46, 3) := by decide +kernel
theorem d_X6_copyFrom_25 : decode m_X6_copyFrom.2.1 25 = .ok (.aload_n 1, 1) := by decide +kernel
theorem d_X6_copyFrom_26 : decode m_X6_copyFrom.2.1 26 = .ok (.getfield 46, 3) := by decide +kernel
theorem d_X6_copyFrom_29 : decode m_X6_copyFrom.2.1 29 = .ok (.invokevirtual 104, 3) := by decide +kernel
theorem d_X6_copyFrom_32 : decode m_X6_copyFrom.2.1 32 = .ok (.return_, 1) := by decide +kernel
theorem d_X7_init_0 : decode m_X7_init.2.1 0 = .ok (.aload_n 0, 1) := by decide +kernel
theorem d_X7_init_1 : decode m_X7_init.2.1 1 = .ok (.invokespecial 3, 3) := by decide +kernel
theorem d_X7_init_4 : decode m_X7_init.2.1 4 = .ok (.aload_n 0, 1) := by decide +kernel
theorem d_X7_init_5 : decode m_X7_init.2.1 5 = .ok (.bipush 22, 2) := by decide +kernel
theorem d_X7_init_7 : decode m_X7_init.2.1 7 = .ok (.newarray .int, 2) := by decide +kernel
theorem d_X7_init_9 : decode m_X7_init.2.1 9 = .ok (.putfield 9, 3) := by decide +kernel
theorem d_X7_init_12 : decode m_X7_init.2.1 12 = .ok (.aload_n 0, 1) := by decide +kernel
theorem d_X7_init_13 : decode m_X7_init.2.1 13 = .ok (.bipush 80, 2) := by decide +kernel
theorem d_X7_init_15 : decode m_X7_init.2.1 15 = .ok (.newarray .int, 2) := by decide +kernel
theorem d_X7_init_17 : decode m_X7_init.2.1 17 = .ok (.putfield 15, 3) := by decide +kernel
theorem d_X7_init_20 : decode m_X7_init.2.1 20 = .ok (.aload_n 0, 1) := by decide +kernel
theorem d_X7_init_21 : decode m_X7_init.2.1 21 = .ok (.iconst 3, 1) := by decide +kernel
theorem d_X7_init_22 : decode m_X7_init.2.1 22 = .ok (.newarray .int, 2) := by decide +kernel
theorem d_X7_init_24 : decode m_X7_init.2.1 24 = .ok (.putfield 18, 3) := by decide +kernel
theorem d_X7_init_27 : decode m_X7_init.2.1 27 = .ok (.aload_n 0, 1) := by decide +kernel
theorem d_X7_init_28 : decode m_X7_init.2.1 28 = .ok (.iconst 3, 1) := by decide +kernel
theorem d_X7_init_29 : decode m_X7_init.2.1 29 = .ok (.newarray .int, 2) := by decide +kernel
theorem d_X7_init_31 : decode m_X7_init.2.1 31 = .ok (.putfield 21, 3) := by decide +kernel
theorem d_X7_init_34 : decode m_X7_init.2.1 34 = .ok (.aload_n 0, 1) := by decide +kernel
theorem d_X7_init_35 : decode m_X7_init.2.1 35 = .ok (.iconst 3, 1) := by decide +kernel
theorem d_X7_init_36 : decode m_X7_init.2.1 36 = .ok (.newarray .int, 2) := by decide +kernel
theorem d_X7_init_38 : decode m_X7_init.2.1 38 = .ok (.putfield 24, 3) := by decide +kernel
theorem d_X7_init_41 : decode m_X7_init.2.1 41 = .ok (.aload_n 0, 1) := by decide +kernel
theorem d_X7_init_42 : decode m_X7_init.2.1 42 = .ok (.iconst 3, 1) := by decide +kernel
theorem d_X7_init_43 : decode m_X7_init.2.1 43 = .ok (.newarray .int, 2) := by decide +kernel
theorem d_X7_init_45 : decode m_X7_init.2.1 45 = .ok (.putfield 27, 3) := by decide +kernel
theorem d_X7_init_48 : decode m_X7_init.2.1 48 = .ok (.return_, 1) := by decide +kernel
theorem d_X7_advance_0 : decode m_X7_advance.2.1 0 = .ok (.aload_n 1, 1) := by decide +kernel
theorem d_X7_advance_1 : decode m_X7_advance.2.1 1 = .ok (.ifnonnull 4, 3) := by decide +kernel
theorem d_X7_advance_4 : decode m_X7_advance.2.1 4 = .ok (.return_, 1) := by decide +kernel
theorem d_X7_advance_5 : decode m_X7_advance.2.1 5 = .ok (.iconst 0, 1) := by decide +kernel
theorem d_X7_advance_6 : decode m_X7_advance.2.1 6 = .ok (.istore_n 3, 1) := by decide +kernel
theorem d_X7_advance_7 : decode m_X7_advance.2.1 7 = .ok (.iload_n 3, 1) := by decide +kernel
theorem d_X7_advance_8 : decode m_X7_advance.2.1 8 = .ok (.sipush 960, 3) := by decide +kernel
theorem d_X7_advance_11 : decode m_X7_advance.2.1 11 = .ok (.if_icmp .ge 67, 3) := by decide +kernel
theorem d_X7_advance_14 : decode m_X7_advance.2.1 14 = .ok (.aload_n 1, 1) := by decide +kernel
theorem d_X7_advance_15 : decode m_X7_advance.2.1 15 = .ok (.getfield 30, 3) := by decide +kernel
theorem d_X7_advance_18 : decode m_X7_advance.2.1 18 = .ok (.invokevirtual 36, 3) := by decide +kernel
theorem d_X7_advance_21 : decode m_X7_advance.2.1 21 = .ok (.iload_n 2, 1) := by decide +kernel
theorem d_X7_advance_22 : decode m_X7_advance.2.1 22 = .ok (.if_icmp .ge 56, 3) := by decide +kernel
theorem d_X7_advance_25 : decode m_X7_advance.2.1 25 = .ok (.aload_n 1, 1) := by decide +kernel
theorem d_X7_advance_26 : decode m_X7_advance.2.1 26 = .ok (.getfield 30, 3) := by decide +kernel
theorem d_X7_advance_29 : decode m_X7_advance.2.1 29 = .ok (.invokevirtual 36, 3) := by decide +kernel
theorem d_X7_advance_32 : decode m_X7_advance.2.1 32 = .ok (.istore 4, 2) := by decide +kernel
theorem d_X7_advance_34 : decode m_X7_advance.2.1 34 = .ok (.iload_n 2, 1) := by decide +kernel
theorem d_X7_advance_35 : decode m_X7_advance.2.1 35 = .ok (.aload_n 1, 1) := by decide +kernel
theorem d_X7_advance_36 : decode m_X7_advance.2.1 36 = .ok (.getfield 42, 3) := by decide +kernel
theorem d_X7_advance_39 : decode m_X7_advance.2.1 39 = .ok (.iload 4, 2) := by decide +kernel
theorem d_X7_advance_41 : decode m_X7_advance.2.1 41 = .ok (.invokevirtual 46, 3) := by decide +kernel
theorem d_X7_advance_44 : decode m_X7_advance.2.1 44 = .ok (.invokestatic 52, 3) := by decide +kernel
theorem d_X7_advance_47 : decode m_X7_advance.2.1 47 = .ok (.istore 5, 2) := by decide +kernel
theorem d_X7_advance_49 : decode m_X7_advance.2.1 49 = .ok (.aload_n 0, 1) := by decide +kernel
theorem d_X7_advance_50 : decode m_X7_advance.2.1 50 = .ok (.aload_n 1, 1) := by decide +kernel
theorem d_X7_advance_51 : decode m_X7_advance.2.1 51 = .ok (.iload 4, 2) := by decide +kernel
theorem d_X7_advance_53 : decode m_X7_advance.2.1 53 = .ok (.aload_n 1, 1) := by decide +kernel
theorem d_X7_advance_54 : decode m_X7_advance.2.1 54 = .ok (.getfield 58, 3) := by decide +kernel
theorem d_X7_advance_57 : decode m_X7_advance.2.1 57 = .ok (.iconst 0, 1) := by decide +kernel
theorem d_X7_advance_58 : decode m_X7_advance.2.1 58 = .ok (.invokestatic 61, 3) := by decide +kernel
theorem d_X7_advance_61 : decode m_X7_advance.2.1 61 = .ok (.iload 5, 2) := by decide +kernel
theorem d_X7_advance_63 : decode m_X7_advance.2.1 63 = .ok (.iload 4, 2) := by decide +kernel
theorem d_X7_advance_65 : decode m_X7_advance.2.1 65 = .ok (.isub, 1) := by decide +kernel
theorem d_X7_advance_66 : decode m_X7_advance.2.1 66 = .ok (.invokestatic 52, 3) := by decide +kernel
theorem d_X7_advance_69 : decode m_X7_advance.2.1 69 = .ok (.invokevirtual 65, 3) := by decide +kernel
theorem d_X7_advance_72 : decode m_X7_advance.2.1 72 = .ok (.iinc 3 1, 3) := by decide +kernel
theorem d_X7_advance_75 : decode m_X7_advance.2.1 75 = .ok (.goto (-68), 3) := by decide +kernel
theorem d_X7_advance_78 : decode m_X7_advance.2.1 78 = .ok (.return_, 1) := by decide +kernel
theorem d_X7_takeStep_0 : decode m_X7_takeStep.2.1 0 = .ok (.iconst 0, 1) := by decide +kernel
theorem d_X7_takeStep_1 : decode m_X7_takeStep.2.1 1 = .ok (.istore 4, 2) := by decide +kernel
theorem d_X7_takeStep_3 : decode m_X7_takeStep.2.1 3 = .ok (.iload 4, 2) := by decide +kernel
theorem d_X7_takeStep_5 : decode m_X7_takeStep.2.1 5 = .ok (.iconst 3, 1) := by decide +kernel
theorem d_X7_takeStep_6 : decode m_X7_takeStep.2.1 6 = .ok (.if_icmp .ge 45, 3) := by decide +kernel
theorem d_X7_takeStep_9 : decode m_X7_takeStep.2.1 9 = .ok (.aload_n 0, 1) := by decide +kernel
theorem d_X7_takeStep_10 : decode m_X7_takeStep.2.1 10 = .ok (.getfield 18, 3) := by decide +kernel
theorem d_X7_takeStep_13 : decode m_X7_takeStep.2.1 13 = .ok (.iload 4, 2) := by decide +kernel
theorem d_X7_takeStep_15 : decode m_X7_takeStep.2.1 15 = .ok (.aload_n 1, 1) := by decide +kernel
theorem d_X7_takeStep_16 : decode m_X7_takeStep.2.1 16 = .ok (.getfield 30, 3) := by decide +kernel
theorem d_X7_takeStep_19 : decode m_X7_takeStep.2.1 19 = .ok (.iload 4, 2) := by decide +kernel
theorem d_X7_takeStep_21 : decode m_X7_takeStep.2.1 21 = .ok (.invokevirtual 69, 3) := by decide +kernel
theorem d_X7_takeStep_24 : decode m_X7_takeStep.2.1 24 = .ok (.invokestatic 72, 3) := by decide +kernel
theorem d_X7_takeStep_27 : decode m_X7_takeStep.2.1 27 = .ok (.aload_n 0, 1) := by decide +kernel
theorem d_X7_takeStep_28 : decode m_X7_takeStep.2.1 28 = .ok (.getfield 21, 3) := by decide +kernel
theorem d_X7_takeStep_31 : decode m_X7_takeStep.2.1 31 = .ok (.iload 4, 2) := by decide +kernel
theorem d_X7_takeStep_33 : decode m_X7_takeStep.2.1 33 = .ok (.aload_n 0, 1) := by decide +kernel
theorem d_X7_takeStep_34 : decode m_X7_takeStep.2.1 34 = .ok (.getfield 18, 3) := by decide +kernel
theorem d_X7_takeStep_37 : decode m_X7_takeStep.2.1 37 = .ok (.iload 4, 2) := by decide +kernel
theorem d_X7_takeStep_39 : decode m_X7_takeStep.2.1 39 = .ok (.invokestatic 61, 3) := by decide +kernel
theorem d_X7_takeStep_42 : decode m_X7_takeStep.2.1 42 = .ok (.invokestatic 72, 3) := by decide +kernel
theorem d_X7_takeStep_45 : decode m_X7_takeStep.2.1 45 = .ok (.iinc 4 1, 3) := by decide +kernel
theorem d_X7_takeStep_48 : decode m_X7_takeStep.2.1 48 = .ok (.goto (-45), 3) := by decide +kernel
theorem d_X7_takeStep_51 : decode m_X7_takeStep.2.1 51 = .ok (.aload_n 0, 1) := by decide +kernel
theorem d_X7_takeStep_52 : decode m_X7_takeStep.2.1 52 = .ok (.aload_n 1, 1) := by decide +kernel
theorem d_X7_takeStep_53 : decode m_X7_takeStep.2.1 53 = .ok (.iload_n 2, 1) := by decide +kernel
theorem d_X7_takeStep_54 : decode m_X7_takeStep.2.1 54 = .ok (.iload_n 2, 1) := by decide +kernel
theorem d_X7_takeStep_55 : decode m_X7_takeStep.2.1 55 = .ok (.invokevirtual 76, 3) := by decide +kernel
theorem d_X7_takeStep_58 : decode m_X7_takeStep.2.1 58 = .ok (.aload_n 0, 1) := by decide +kernel
theorem d_X7_takeStep_59 : decode m_X7_takeStep.2.1 59 = .ok (.aload_n 1, 1) := by decide +kernel
theorem d_X7_takeStep_60 : decode m_X7_takeStep.2.1 60 = .ok (.aload_n 0, 1) := by decide +kernel
theorem d_X7_takeStep_61 : decode m_X7_takeStep.2.1 61 = .ok (.getfield 24, 3) := by decide +kernel
theorem d_X7_takeStep_64 : decode m_X7_takeStep.2.1 64 = .ok (.invokevirtual 79, 3) := by decide +kernel
theorem d_X7_takeStep_67 : decode m_X7_takeStep.2.1 67 = .ok (.iconst 0, 1) := by decide +kernel
theorem d_X7_takeStep_68 : decode m_X7_takeStep.2.1 68 = .ok (.istore 4, 2) := by decide +kernel
theorem d_X7_takeStep_70 : decode m_X7_takeStep.2.1 70 = .ok (.iload 4, 2) := by decide +kernel
theorem d_X7_takeStep_72 : decode m_X7_takeStep.2.1 72 = .ok (.iconst 3, 1) := by decide +kernel
theorem d_X7_takeStep_73 : decode m_X7_takeStep.2.1 73 = .ok (.if_icmp .ge 53, 3) := by decide +kernel
theorem d_X7_takeStep_76 : decode m_X7_takeStep.2.1 76 = .ok (.aload_n 0, 1) := by decide +kernel
theorem d_X7_takeStep_77 : decode m_X7_takeStep.2.1 77 = .ok (.getfield 24, 3) := by decide +kernel
theorem d_X7_takeStep_80 : decode m_X7_takeStep.2.1 80 = .ok (.iload 4, 2) := by decide +kernel
theorem d_X7_takeStep_82 : decode m_X7_takeStep.2.1 82 = .ok (.invokestatic 61, 3) := by decide +kernel
theorem d_X7_takeStep_85 : decode m_X7_takeStep.2.1 85 = .ok (.i2l, 1) := by decide +kernel
theorem d_X7_takeStep_86 : decode m_X7_takeStep.2.1 86 = .ok (.lstore 5, 2) := by decide +kernel
theorem d_X7_takeStep_88 : decode m_X7_takeStep.2.1 88 = .ok (.aload_n 0, 1) := by decide +kernel
theorem d_X7_takeStep_89 : decode m_X7_takeStep.2.1 89 = .ok (.getfield 21, 3) := by decide +kernel
theorem d_X7_takeStep_92 : decode m_X7_takeStep.2.1 92 = .ok (.iload 4, 2) := by decide +kernel
theorem d_X7_takeStep_94 : decode m_X7_takeStep.2.1 94 = .ok (.aload_n 0, 1) := by decide +kernel
theorem d_X7_takeStep_95 : decode m_X7_takeStep.2.1 95 = .ok (.getfield 18, 3) := by decide +kernel
theorem d_X7_takeStep_98 : decode m_X7_takeStep.2.1 98 = .ok (.iload 4, 2) := by decide +kernel
theorem d_X7_takeStep_100 : decode m_X7_takeStep.2.1 100 = .ok (.invokestatic 61, 3) := by decide +kernel
theorem d_X7_takeStep_103 : decode m_X7_takeStep.2.1 103 = .ok (.i2l, 1) := by decide +kernel
theorem d_X7_takeStep_104 : decode m_X7_takeStep.2.1 104 = .ok (.lload 5, 2) := by decide +kernel
theorem d_X7_takeStep_106 : decode m_X7_takeStep.2.1 106 = .ok (.iload_n 3, 1) := by decide +kernel
theorem d_X7_takeStep_107 : decode m_X7_takeStep.2.1 107 = .ok (.i2l, 1) := by decide +kernel
theorem d_X7_takeStep_108 : decode m_X7_takeStep.2.1 108 = .ok (.lmul, 1) := by decide +kernel
theorem d_X7_takeStep_109 : decode m_X7_takeStep.2.1 109 = .ok (.ldc2_w 83, 3) := by decide +kernel
theorem d_X7_takeStep_112 : decode m_X7_takeStep.2.1 112 = .ok (.ldiv, 1) := by decide +kernel
theorem d_X7_takeStep_113 : decode m_X7_takeStep.2.1 113 = .ok (.ladd, 1) := by decide +kernel
theorem d_X7_takeStep_114 : decode m_X7_takeStep.2.1 114 = .ok (.invokestatic 85, 3) := by decide +kernel
theorem d_X7_takeStep_117 : decode m_X7_takeStep.2.1 117 = .ok (.invokestatic 72, 3) := by decide +kernel
theorem d_X7_takeStep_120 : decode m_X7_takeStep.2.1 120 = .ok (.iinc 4 1, 3) := by decide +kernel
theorem d_X7_takeStep_123 : decode m_X7_takeStep.2.1 123 = .ok (.goto (-53), 3) := by decide +kernel
theorem d_X7_takeStep_126 : decode m_X7_takeStep.2.1 126 = .ok (.aload_n 1, 1) := by decide +kernel
theorem d_X7_takeStep_127 : decode m_X7_takeStep.2.1 127 = .ok (.iload_n 2, 1) := by decide +kernel
theorem d_X7_takeStep_128 : decode m_X7_takeStep.2.1 128 = .ok (.iload_n 3, 1) := by decide +kernel
theorem d_X7_takeStep_129 : decode m_X7_takeStep.2.1 129 = .ok (.iadd, 1) := by decide +kernel
theorem d_X7_takeStep_130 : decode m_X7_takeStep.2.1 130 = .ok (.iload_n 3, 1) := by decide +kernel
theorem d_X7_takeStep_131 : decode m_X7_takeStep.2.1 131 = .ok (.invokestatic 89, 3) := by decide +kernel
theorem d_X7_takeStep_134 : decode m_X7_takeStep.2.1 134 = .ok (.istore 4, 2) := by decide +kernel
theorem d_X7_takeStep_136 : decode m_X7_takeStep.2.1 136 = .ok (.iload 4, 2) := by decide +kernel
theorem d_X7_takeStep_138 : decode m_X7_takeStep.2.1 138 = .ok (.ifCond .eq 14, 3) := by decide +kernel
theorem d_X7_takeStep_141 : decode m_X7_takeStep.2.1 141 = .ok (.aload_n 1, 1) := by decide +kernel
theorem d_X7_takeStep_142 : decode m_X7_takeStep.2.1 142 = .ok (.getfield 58, 3) := by decide +kernel
theorem d_X7_takeStep_145 : decode m_X7_takeStep.2.1 145 = .ok (.iconst 1, 1) := by decide +kernel
theorem d_X7_takeStep_146 : decode m_X7_takeStep.2.1 146 = .ok (.invokestatic 61, 3) := by decide +kernel
theorem d_X7_takeStep_149 : decode m_X7_takeStep.2.1 149 = .ok (.goto 4, 3) := by decide +kernel
theorem d_X7_takeStep_152 : decode m_X7_takeStep.2.1 152 = .ok (.iconst 0, 1) := by decide +kernel
theorem d_X7_takeStep_153 : decode m_X7_takeStep.2.1 153 = .ok (.istore 5, 2) := by decide +kernel
theorem d_X7_takeStep_155 : decode m_X7_takeStep.2.1 155 = .ok (.iconst 0, 1) := by decide +kernel
theorem d_X7_takeStep_156 : decode m_X7_takeStep.2.1 156 = .ok (.istore 6, 2) := by decide +kernel
theorem d_X7_takeStep_158 : decode m_X7_takeStep.2.1 158 = .ok (.iload 6, 2) := by decide +kernel
theorem d_X7_takeStep_160 : decode m_X7_takeStep.2.1 160 = .ok (.iload 5, 2) := by decide +kernel
theorem d_X7_takeStep_162 : decode m_X7_takeStep.2.1 162 = .ok (.if_icmp .gt 97, 3) := by decide +kernel
theorem d_X7_takeStep_165 : decode m_X7_takeStep.2.1 165 = .ok (.aload_n 0, 1) := by decide +kernel
theorem d_X7_takeStep_166 : decode m_X7_takeStep.2.1 166 = .ok (.aload_n 1, 1) := by decide +kernel
theorem d_X7_takeStep_167 : decode m_X7_takeStep.2.1 167 = .ok (.iload_n 2, 1) := by decide +kernel
theorem d_X7_takeStep_168 : decode m_X7_takeStep.2.1 168 = .ok (.iload_n 3, 1) := by decide +kernel
theorem d_X7_takeStep_169 : decode m_X7_takeStep.2.1 169 = .ok (.iadd, 1) := by decide +kernel
theorem d_X7_takeStep_170 : decode m_X7_takeStep.2.1 170 = .ok (.iload_n 2, 1) := by decide +kernel
theorem d_X7_takeStep_171 : decode m_X7_takeStep.2.1 171 = .ok (.invokevirtual 76, 3) := by decide +kernel
theorem d_X7_takeStep_174 : decode m_X7_takeStep.2.1 174 = .ok (.aload_n 0, 1) := by decide +kernel
theorem d_X7_takeStep_175 : decode m_X7_takeStep.2.1 175 = .ok (.aload_n 1, 1) := by decide +kernel
theorem d_X7_takeStep_176 : decode m_X7_takeStep.2.1 176 = .ok (.aload_n 0, 1) := by decide +kernel
theorem d_X7_takeStep_177 : decode m_X7_takeStep.2.1 177 = .ok (.getfield 27, 3) := by decide +kernel
theorem d_X7_takeStep_180 : decode m_X7_takeStep.2.1 180 = .ok (.invokevirtual 79, 3) := by decide +kernel
theorem d_X7_takeStep_183 : decode m_X7_takeStep.2.1 183 = .ok (.iconst 0, 1) := by decide +kernel
theorem d_X7_takeStep_184 : decode m_X7_takeStep.2.1 184 = .ok (.istore 7, 2) := by decide +kernel
theorem d_X7_takeStep_186 : decode m_X7_takeStep.2.1 186 = .ok (.iload 7, 2) := by decide +kernel
theorem d_X7_takeStep_188 : decode m_X7_takeStep.2.1 188 = .ok (.iconst 3, 1) := by decide +kernel
theorem d_X7_takeStep_189 : decode m_X7_takeStep.2.1 189 = .ok (.if_icmp .ge 64, 3) := by decide +kernel
theorem d_X7_takeStep_192 : decode m_X7_takeStep.2.1 192 = .ok (.aload_n 0, 1) := by decide +kernel
theorem d_X7_takeStep_193 : decode m_X7_takeStep.2.1 193 = .ok (.getfield 24, 3) := by decide +kernel
theorem d_X7_takeStep_196 : decode m_X7_takeStep.2.1 196 = .ok (.iload 7, 2) := by decide +kernel
theorem d_X7_takeStep_198 : decode m_X7_takeStep.2.1 198 = .ok (.invokestatic 61, 3) := by decide +kernel
theorem d_X7_takeStep_201 : decode m_X7_takeStep.2.1 201 = .ok (.i2l, 1) := by decide +kernel
theorem d_X7_takeStep_202 : decode m_X7_takeStep.2.1 202 = .ok (.aload_n 0, 1) := by decide +kernel
theorem d_X7_takeStep_203 : decode m_X7_takeStep.2.1 203 = .ok (.getfield 27, 3) := by decide +kernel
theorem d_X7_takeStep_206 : decode m_X7_takeStep.2.1 206 = .ok (.iload 7, 2) := by decide +kernel
theorem d_X7_takeStep_208 : decode m_X7_takeStep.2.1 208 = .ok (.invokestatic 61, 3) := by decide +kernel
theorem d_X7_takeStep_211 : decode m_X7_takeStep.2.1 211 = .ok (.i2l, 1) := by decide +kernel
theorem d_X7_takeStep_212 : decode m_X7_takeStep.2.1 212 = .ok (.ladd, 1) := by decide +kernel
theorem d_X7_takeStep_213 : decode m_X7_takeStep.2.1 213 = .ok (.lstore 8, 2) := by decide +kernel
theorem d_X7_takeStep_215 : decode m_X7_takeStep.2.1 215 = .ok (.aload_n 0, 1) := by decide +kernel
theorem d_X7_takeStep_216 : decode m_X7_takeStep.2.1 216 = .ok (.getfield 21, 3) := by decide +kernel
theorem d_X7_takeStep_219 : decode m_X7_takeStep.2.1 219 = .ok (.iload 7, 2) := by decide +kernel
theorem d_X7_takeStep_221 : decode m_X7_takeStep.2.1 221 = .ok (.aload_n 0, 1) := by decide +kernel
theorem d_X7_takeStep_222 : decode m_X7_takeStep.2.1 222 = .ok (.getfield 18, 3) := by decide +kernel
theorem d_X7_takeStep_225 : decode m_X7_takeStep.2.1 225 = .ok (.iload 7, 2) := by decide +kernel
theorem d_X7_takeStep_227 : decode m_X7_takeStep.2.1 227 = .ok (.invokestatic 61, 3) := by decide +kernel
theorem d_X7_takeStep_230 : decode m_X7_takeStep.2.1 230 = .ok (.i2l, 1) := by decide +kernel
theorem d_X7_takeStep_231 : decode m_X7_takeStep.2.1 231 = .ok (.lload 8, 2) := by decide +kernel
theorem d_X7_takeStep_233 : decode m_X7_takeStep.2.1 233 = .ok (.iload_n 3, 1) := by decide +kernel
theorem d_X7_takeStep_234 : decode m_X7_takeStep.2.1 234 = .ok (.i2l, 1) := by decide +kernel
theorem d_X7_takeStep_235 : decode m_X7_takeStep.2.1 235 = .ok (.lmul, 1) := by decide +kernel
theorem d_X7_takeStep_236 : decode m_X7_takeStep.2.1 236 = .ok (.ldc2_w 93, 3) := by decide +kernel
theorem d_X7_takeStep_239 : decode m_X7_takeStep.2.1 239 = .ok (.ldiv, 1) := by decide +kernel
theorem d_X7_takeStep_240 : decode m_X7_takeStep.2.1 240 = .ok (.ladd, 1) := by decide +kernel
theorem d_X7_takeStep_241 : decode m_X7_takeStep.2.1 241 = .ok (.invokestatic 85, 3) := by decide +kernel
theorem d_X7_takeStep_244 : decode m_X7_takeStep.2.1 244 = .ok (.invokestatic 72, 3) := by decide +kernel
theorem d_X7_takeStep_247 : decode m_X7_takeStep.2.1 247 = .ok (.iinc 7 1, 3) := by decide +kernel
theorem d_X7_takeStep_250 : decode m_X7_takeStep.2.1 250 = .ok (.goto (-64), 3) := by decide +kernel
theorem d_X7_takeStep_253 : decode m_X7_takeStep.2.1 253 = .ok (.iinc 6 1, 3) := by decide +kernel
theorem d_X7_takeStep_256 : decode m_X7_takeStep.2.1 256 = .ok (.goto (-98), 3) := by decide +kernel
theorem d_X7_takeStep_259 : decode m_X7_takeStep.2.1 259 = .ok (.aload_n 1, 1) := by decide +kernel
theorem d_X7_takeStep_260 : decode m_X7_takeStep.2.1 260 = .ok (.getfield 30, 3) := by decide +kernel
theorem d_X7_takeStep_263 : decode m_X7_takeStep.2.1 263 = .ok (.iload_n 3, 1) := by decide +kernel
theorem d_X7_takeStep_264 : decode m_X7_takeStep.2.1 264 = .ok (.aload_n 0, 1) := by decide +kernel
theorem d_X7_takeStep_265 : decode m_X7_takeStep.2.1 265 = .ok (.getfield 24, 3) := by decide +kernel
theorem d_X7_takeStep_268 : decode m_X7_takeStep.2.1 268 = .ok (.iload 5, 2) := by decide +kernel
theorem d_X7_takeStep_270 : decode m_X7_takeStep.2.1 270 = .ok (.aload_n 0, 1) := by decide +kernel
theorem d_X7_takeStep_271 : decode m_X7_takeStep.2.1 271 = .ok (.getfield 21, 3) := by decide +kernel
theorem d_X7_takeStep_274 : decode m_X7_takeStep.2.1 274 = .ok (.invokevirtual 95, 3) := by decide +kernel
theorem d_X7_takeStep_277 : decode m_X7_takeStep.2.1 277 = .ok (.return_, 1) := by decide +kernel
theorem d_X7_hasShortLag_0 : decode m_X7_hasShortLag.2.1 0 = .ok (.aload_n 0, 1) := by decide +kernel
theorem d_X7_hasShortLag_1 : decode m_X7_hasShortLag.2.1 1 = .ok (.getfield 99, 3) := by decide +kernel
theorem d_X7_hasShortLag_4 : decode m_X7_hasShortLag.2.1 4 = .ok (.invokevirtual 103, 3) := by decide +kernel
theorem d_X7_hasShortLag_7 : decode m_X7_hasShortLag.2.1 7 = .ok (.istore_n 3, 1) := by decide +kernel
theorem d_X7_hasShortLag_8 : decode m_X7_hasShortLag.2.1 8 = .ok (.iconst 0, 1) := by decide +kernel
theorem d_X7_hasShortLag_9 : decode m_X7_hasShortLag.2.1 9 = .ok (.istore 4, 2) := by decide +kernel
theorem d_X7_hasShortLag_11 : decode m_X7_hasShortLag.2.1 11 = .ok (.iload 4, 2) := by decide +kernel
theorem d_X7_hasShortLag_13 : decode m_X7_hasShortLag.2.1 13 = .ok (.iconst 3, 1) := by decide +kernel
theorem d_X7_hasShortLag_14 : decode m_X7_hasShortLag.2.1 14 = .ok (.if_icmp .ge 43, 3) := by decide +kernel
theorem d_X7_hasShortLag_17 : decode m_X7_hasShortLag.2.1 17 = .ok (.aload_n 0, 1) := by decide +kernel
theorem d_X7_hasShortLag_18 : decode m_X7_hasShortLag.2.1 18 = .ok (.getfield 108, 3) := by decide +kernel
theorem d_X7_hasShortLag_21 : decode m_X7_hasShortLag.2.1 21 = .ok (.iload 4, 2) := by decide +kernel
theorem d_X7_hasShortLag_23 : decode m_X7_hasShortLag.2.1 23 = .ok (.iload_n 1, 1) := by decide +kernel
theorem d_X7_hasShortLag_24 : decode m_X7_hasShortLag.2.1 24 = .ok (.invokevirtual 112, 3) := by decide +kernel
theorem d_X7_hasShortLag_27 : decode m_X7_hasShortLag.2.1 27 = .ok (.istore 5, 2) := by decide +kernel
theorem d_X7_hasShortLag_29 : decode m_X7_hasShortLag.2.1 29 = .ok (.iload_n 3, 1) := by decide +kernel
theorem d_X7_hasShortLag_30 : decode m_X7_hasShortLag.2.1 30 = .ok (.iload 4, 2) := by decide +kernel
theorem d_X7_hasShortLag_32 : decode m_X7_hasShortLag.2.1 32 = .ok (.invokestatic 117, 3) := by decide +kernel
theorem d_X7_hasShortLag_35 : decode m_X7_hasShortLag.2.1 35 = .ok (.ifCond .eq 16, 3) := by decide +kernel
theorem d_X7_hasShortLag_38 : decode m_X7_hasShortLag.2.1 38 = .ok (.iload 5, 2) := by decide +kernel
theorem d_X7_hasShortLag_40 : decode m_X7_hasShortLag.2.1 40 = .ok (.ifCond .eq 11, 3) := by decide +kernel
theorem d_X7_hasShortLag_43 : decode m_X7_hasShortLag.2.1 43 = .ok (.iload 5, 2) := by decide +kernel
theorem d_X7_hasShortLag_45 : decode m_X7_hasShortLag.2.1 45 = .ok (.iload_n 2, 1) := by decide +kernel
theorem d_X7_hasShortLag_46 : decode m_X7_hasShortLag.2.1 46 = .ok (.if_icmp .ge 5, 3) := by decide +kernel
theorem d_X7_hasShortLag_49 : decode m_X7_hasShortLag.2.1 49 = .ok (.iconst 1, 1) := by decide +kernel
theorem d_X7_hasShortLag_50 : decode m_X7_hasShortLag.2.1 50 = .ok (.ireturn, 1) := by decide +kernel
theorem d_X7_hasShortLag_51 : decode m_X7_hasShortLag.2.1 51 = .ok (.iinc 4 1, 3) := by decide +kernel
theorem d_X7_hasShortLag_54 : decode m_X7_hasShortLag.2.1 54 = .ok (.goto (-43), 3) := by decide +kernel
theorem d_X7_hasShortLag_57 : decode m_X7_hasShortLag.2.1 57 = .ok (.iconst 0, 1) := by decide +kernel
theorem d_X7_hasShortLag_58 : decode m_X7_hasShortLag.2.1 58 = .ok (.ireturn, 1) := by decide +kernel
theorem d_X7_workOutSlopes_0 : decode m_X7_workOutSlopes.2.1 0 = .ok (.iconst 0, 1) := by decide +kernel
theorem d_X7_workOutSlopes_1 : decode m_X7_workOutSlopes.2.1 1 = .ok (.istore_n 3, 1) := by decide +kernel
theorem d_X7_workOutSlopes_2 : decode m_X7_workOutSlopes.2.1 2 = .ok (.iload_n 3, 1) := by decide +kernel
theorem d_X7_workOutSlopes_3 : decode m_X7_workOutSlopes.2.1 3 = .ok (.iconst 3, 1) := by decide +kernel
theorem d_X7_workOutSlopes_4 : decode m_X7_workOutSlopes.2.1 4 = .ok (.if_icmp .ge 30, 3) := by decide +kernel
theorem d_X7_workOutSlopes_7 : decode m_X7_workOutSlopes.2.1 7 = .ok (.aload_n 2, 1) := by decide +kernel
theorem d_X7_workOutSlopes_8 : decode m_X7_workOutSlopes.2.1 8 = .ok (.iload_n 3, 1) := by decide +kernel
theorem d_X7_workOutSlopes_9 : decode m_X7_workOutSlopes.2.1 9 = .ok (.aload_n 1, 1) := by decide +kernel
theorem d_X7_workOutSlopes_10 : decode m_X7_workOutSlopes.2.1 10 = .ok (.getfield 99, 3) := by decide +kernel
theorem d_X7_workOutSlopes_13 : decode m_X7_workOutSlopes.2.1 13 = .ok (.iload_n 3, 1) := by decide +kernel
theorem d_X7_workOutSlopes_14 : decode m_X7_workOutSlopes.2.1 14 = .ok (.aload_n 0, 1) := by decide +kernel
theorem d_X7_workOutSlopes_15 : decode m_X7_workOutSlopes.2.1 15 = .ok (.getfield 9, 3) := by decide +kernel
theorem d_X7_workOutSlopes_18 : decode m_X7_workOutSlopes.2.1 18 = .ok (.aload_n 0, 1) := by decide +kernel
theorem d_X7_workOutSlopes_19 : decode m_X7_workOutSlopes.2.1 19 = .ok (.getfield 15, 3) := by decide +kernel
theorem d_X7_workOutSlopes_22 : decode m_X7_workOutSlopes.2.1 22 = .ok (.invokevirtual 121, 3) := by decide +kernel
theorem d_X7_workOutSlopes_25 : decode m_X7_workOutSlopes.2.1 25 = .ok (.invokestatic 72, 3) := by decide +kernel
theorem d_X7_workOutSlopes_28 : decode m_X7_workOutSlopes.2.1 28 = .ok (.iinc 3 1, 3) := by decide +kernel
theorem d_X7_workOutSlopes_31 : decode m_X7_workOutSlopes.2.1 31 = .ok (.goto (-29), 3) := by decide +kernel
theorem d_X7_workOutSlopes_34 : decode m_X7_workOutSlopes.2.1 34 = .ok (.return_, 1) := by decide +kernel
theorem d_X7_rightSide_0 : decode m_X7_rightSide.2.1 0 = .ok (.aload_n 1, 1) := by decide +kernel
theorem d_X7_rightSide_1 : decode m_X7_rightSide.2.1 1 = .ok (.ifnonnull 5, 3) := by decide +kernel
theorem d_X7_rightSide_4 : decode m_X7_rightSide.2.1 4 = .ok (.iconst 0, 1) := by decide +kernel
theorem d_X7_rightSide_5 : decode m_X7_rightSide.2.1 5 = .ok (.ireturn, 1) := by decide +kernel
theorem d_X7_rightSide_6 : decode m_X7_rightSide.2.1 6 = .ok (.aload_n 1, 1) := by decide +kernel
theorem d_X7_rightSide_7 : decode m_X7_rightSide.2.1 7 = .ok (.getfield 30, 3) := by decide +kernel
theorem d_X7_rightSide_10 : decode m_X7_rightSide.2.1 10 = .ok (.iload_n 3, 1) := by decide +kernel
theorem d_X7_rightSide_11 : decode m_X7_rightSide.2.1 11 = .ok (.invokevirtual 125, 3) := by decide +kernel
theorem d_X7_rightSide_14 : decode m_X7_rightSide.2.1 14 = .ok (.istore 4, 2) := by decide +kernel
theorem d_X7_rightSide_16 : decode m_X7_rightSide.2.1 16 = .ok (.iconst 0, 1) := by decide +kernel
theorem d_X7_rightSide_17 : decode m_X7_rightSide.2.1 17 = .ok (.istore 5, 2) := by decide +kernel
theorem d_X7_rightSide_19 : decode m_X7_rightSide.2.1 19 = .ok (.iload 5, 2) := by decide +kernel
theorem d_X7_rightSide_21 : decode m_X7_rightSide.2.1 21 = .ok (.iconst 3, 1) := by decide +kernel
theorem d_X7_rightSide_22 : decode m_X7_rightSide.2.1 22 = .ok (.if_icmp .ge 27, 3) := by decide +kernel
theorem d_X7_rightSide_25 : decode m_X7_rightSide.2.1 25 = .ok (.aload_n 0, 1) := by decide +kernel
theorem d_X7_rightSide_26 : decode m_X7_rightSide.2.1 26 = .ok (.getfield 21, 3) := by decide +kernel
theorem d_X7_rightSide_29 : decode m_X7_rightSide.2.1 29 = .ok (.iload 5, 2) := by decide +kernel
theorem d_X7_rightSide_31 : decode m_X7_rightSide.2.1 31 = .ok (.aload_n 1, 1) := by decide +kernel
theorem d_X7_rightSide_32 : decode m_X7_rightSide.2.1 32 = .ok (.iload 4, 2) := by decide +kernel
theorem d_X7_rightSide_34 : decode m_X7_rightSide.2.1 34 = .ok (.iload 5, 2) := by decide +kernel
theorem d_X7_rightSide_36 : decode m_X7_rightSide.2.1 36 = .ok (.iload_n 3, 1) := by decide +kernel
theorem d_X7_rightSide_37 : decode m_X7_rightSide.2.1 37 = .ok (.invokevirtual 128, 3) := by decide +kernel
theorem d_X7_rightSide_40 : decode m_X7_rightSide.2.1 40 = .ok (.invokestatic 72, 3) := by decide +kernel
theorem d_X7_rightSide_43 : decode m_X7_rightSide.2.1 43 = .ok (.iinc 5 1, 3) := by decide +kernel
theorem d_X7_rightSide_46 : decode m_X7_rightSide.2.1 46 = .ok (.goto (-27), 3) := by decide +kernel
theorem d_X7_rightSide_49 : decode m_X7_rightSide.2.1 49 = .ok (.aload_n 0, 1) := by decide +kernel
theorem d_X7_rightSide_50 : decode m_X7_rightSide.2.1 50 = .ok (.aload_n 1, 1) := by decide +kernel
theorem d_X7_rightSide_51 : decode m_X7_rightSide.2.1 51 = .ok (.iload_n 3, 1) := by decide +kernel
theorem d_X7_rightSide_52 : decode m_X7_rightSide.2.1 52 = .ok (.iload_n 3, 1) := by decide +kernel
theorem d_X7_rightSide_53 : decode m_X7_rightSide.2.1 53 = .ok (.invokevirtual 76, 3) := by decide +kernel
theorem d_X7_rightSide_56 : decode m_X7_rightSide.2.1 56 = .ok (.aload_n 1, 1) := by decide +kernel
theorem d_X7_rightSide_57 : decode m_X7_rightSide.2.1 57 = .ok (.getfield 99, 3) := by decide +kernel
theorem d_X7_rightSide_60 : decode m_X7_rightSide.2.1 60 = .ok (.iload_n 2, 1) := by decide +kernel
theorem d_X7_rightSide_61 : decode m_X7_rightSide.2.1 61 = .ok (.aload_n 0, 1) := by decide +kernel
theorem d_X7_rightSide_62 : decode m_X7_rightSide.2.1 62 = .ok (.getfield 9, 3) := by decide +kernel
theorem d_X7_rightSide_65 : decode m_X7_rightSide.2.1 65 = .ok (.aload_n 0, 1) := by decide +kernel
theorem d_X7_rightSide_66 : decode m_X7_rightSide.2.1 66 = .ok (.getfield 15, 3) := by decide +kernel
theorem d_X7_rightSide_69 : decode m_X7_rightSide.2.1 69 = .ok (.invokevirtual 121, 3) := by decide +kernel
theorem d_X7_rightSide_72 : decode m_X7_rightSide.2.1 72 = .ok (.ireturn, 1) := by decide +kernel
theorem d_X7_gather_0 : decode m_X7_gather.2.1 0 = .ok (.aload_n 1, 1) := by decide +kernel
theorem d_X7_gather_1 : decode m_X7_gather.2.1 1 = .ok (.getfield 99, 3) := by decide +kernel
theorem d_X7_gather_4 : decode m_X7_gather.2.1 4 = .ok (.invokevirtual 103, 3) := by decide +kernel
theorem d_X7_gather_7 : decode m_X7_gather.2.1 7 = .ok (.istore 4, 2) := by decide +kernel
theorem d_X7_gather_9 : decode m_X7_gather.2.1 9 = .ok (.aload_n 0, 1) := by decide +kernel
theorem d_X7_gather_10 : decode m_X7_gather.2.1 10 = .ok (.getfield 9, 3) := by decide +kernel
theorem d_X7_gather_13 : decode m_X7_gather.2.1 13 = .ok (.iconst 3, 1) := by decide +kernel
theorem d_X7_gather_14 : decode m_X7_gather.2.1 14 = .ok (.iload_n 2, 1) := by decide +kernel
theorem d_X7_gather_15 : decode m_X7_gather.2.1 15 = .ok (.invokestatic 72, 3) := by decide +kernel
theorem d_X7_gather_18 : decode m_X7_gather.2.1 18 = .ok (.iconst 0, 1) := by decide +kernel
theorem d_X7_gather_19 : decode m_X7_gather.2.1 19 = .ok (.istore 5, 2) := by decide +kernel
theorem d_X7_gather_21 : decode m_X7_gather.2.1 21 = .ok (.iload 5, 2) := by decide +kernel
theorem d_X7_gather_23 : decode m_X7_gather.2.1 23 = .ok (.iconst 3, 1) := by decide +kernel
theorem d_X7_gather_24 : decode m_X7_gather.2.1 24 = .ok (.if_icmp .ge 27, 3) := by decide +kernel
theorem d_X7_gather_27 : decode m_X7_gather.2.1 27 = .ok (.aload_n 0, 1) := by decide +kernel
theorem d_X7_gather_28 : decode m_X7_gather.2.1 28 = .ok (.getfield 9, 3) := by decide +kernel
theorem d_X7_gather_31 : decode m_X7_gather.2.1 31 = .ok (.iload 5, 2) := by decide +kernel
theorem d_X7_gather_33 : decode m_X7_gather.2.1 33 = .ok (.aload_n 0, 1) := by decide +kernel
theorem d_X7_gather_34 : decode m_X7_gather.2.1 34 = .ok (.getfield 21, 3) := by decide +kernel
theorem d_X7_gather_37 : decode m_X7_gather.2.1 37 = .ok (.iload 5, 2) := by decide +kernel
theorem d_X7_gather_39 : decode m_X7_gather.2.1 39 = .ok (.invokestatic 61, 3) := by decide +kernel
theorem d_X7_gather_42 : decode m_X7_gather.2.1 42 = .ok (.invokestatic 72, 3) := by decide +kernel
theorem d_X7_gather_45 : decode m_X7_gather.2.1 45 = .ok (.iinc 5 1, 3) := by decide +kernel
theorem d_X7_gather_48 : decode m_X7_gather.2.1 48 = .ok (.goto (-27), 3) := by decide +kernel
theorem d_X7_gather_51 : decode m_X7_gather.2.1 51 = .ok (.iconst 0, 1) := by decide +kernel
theorem d_X7_gather_52 : decode m_X7_gather.2.1 52 = .ok (.istore 5, 2) := by decide +kernel
theorem d_X7_gather_54 : decode m_X7_gather.2.1 54 = .ok (.iload 5, 2) := by decide +kernel
theorem d_X7_gather_56 : decode m_X7_gather.2.1 56 = .ok (.iconst 3, 1) := by decide +kernel
theorem d_X7_gather_57 : decode m_X7_gather.2.1 57 = .ok (.if_icmp .ge 178, 3) := by decide +kernel
theorem d_X7_gather_60 : decode m_X7_gather.2.1 60 = .ok (.iload 4, 2) := by decide +kernel
theorem d_X7_gather_62 : decode m_X7_gather.2.1 62 = .ok (.iload 5, 2) := by decide +kernel
theorem d_X7_gather_64 : decode m_X7_gather.2.1 64 = .ok (.invokestatic 117, 3) := by decide +kernel
theorem d_X7_gather_67 : decode m_X7_gather.2.1 67 = .ok (.ifCond .ne 6, 3) := by decide +kernel
theorem d_X7_gather_70 : decode m_X7_gather.2.1 70 = .ok (.goto 159, 3) := by decide +kernel
theorem d_X7_gather_73 : decode m_X7_gather.2.1 73 = .ok (.iload_n 2, 1) := by decide +kernel
theorem d_X7_gather_74 : decode m_X7_gather.2.1 74 = .ok (.aload_n 1, 1) := by decide +kernel
theorem d_X7_gather_75 : decode m_X7_gather.2.1 75 = .ok (.getfield 108, 3) := by decide +kernel
theorem d_X7_gather_78 : decode m_X7_gather.2.1 78 = .ok (.iload 5, 2) := by decide +kernel
theorem d_X7_gather_80 : decode m_X7_gather.2.1 80 = .ok (.iload_n 2, 1) := by decide +kernel
theorem d_X7_gather_81 : decode m_X7_gather.2.1 81 = .ok (.invokevirtual 112, 3) := by decide +kernel
theorem d_X7_gather_84 : decode m_X7_gather.2.1 84 = .ok (.isub, 1) := by decide +kernel
theorem d_X7_gather_85 : decode m_X7_gather.2.1 85 = .ok (.istore 6, 2) := by decide +kernel
theorem d_X7_gather_87 : decode m_X7_gather.2.1 87 = .ok (.aload_n 1, 1) := by decide +kernel
theorem d_X7_gather_88 : decode m_X7_gather.2.1 88 = .ok (.getfield 30, 3) := by decide +kernel
theorem d_X7_gather_91 : decode m_X7_gather.2.1 91 = .ok (.iload 6, 2) := by decide +kernel
theorem d_X7_gather_93 : decode m_X7_gather.2.1 93 = .ok (.invokevirtual 125, 3) := by decide +kernel
theorem d_X7_gather_96 : decode m_X7_gather.2.1 96 = .ok (.istore 7, 2) := by decide +kernel
theorem d_X7_gather_98 : decode m_X7_gather.2.1 98 = .ok (.iconst 0, 1) := by decide +kernel
theorem d_X7_gather_99 : decode m_X7_gather.2.1 99 = .ok (.istore 8, 2) := by decide +kernel
theorem d_X7_gather_101 : decode m_X7_gather.2.1 101 = .ok (.iload 8, 2) := by decide +kernel
theorem d_X7_gather_103 : decode m_X7_gather.2.1 103 = .ok (.iconst 3, 1) := by decide +kernel
theorem d_X7_gather_104 : decode m_X7_gather.2.1 104 = .ok (.if_icmp .ge 125, 3) := by decide +kernel
theorem d_X7_gather_107 : decode m_X7_gather.2.1 107 = .ok (.iload 5, 2) := by decide +kernel
theorem d_X7_gather_109 : decode m_X7_gather.2.1 109 = .ok (.iload 8, 2) := by decide +kernel
theorem d_X7_gather_111 : decode m_X7_gather.2.1 111 = .ok (.invokestatic 132, 3) := by decide +kernel
theorem d_X7_gather_114 : decode m_X7_gather.2.1 114 = .ok (.istore 9, 2) := by decide +kernel
theorem d_X7_gather_116 : decode m_X7_gather.2.1 116 = .ok (.iload 4, 2) := by decide +kernel
theorem d_X7_gather_118 : decode m_X7_gather.2.1 118 = .ok (.iload 9, 2) := by decide +kernel
theorem d_X7_gather_120 : decode m_X7_gather.2.1 120 = .ok (.invokestatic 135, 3) := by decide +kernel
theorem d_X7_gather_123 : decode m_X7_gather.2.1 123 = .ok (.ifCond .eq 44, 3) := by decide +kernel
theorem d_X7_gather_126 : decode m_X7_gather.2.1 126 = .ok (.aload_n 0, 1) := by decide +kernel
theorem d_X7_gather_127 : decode m_X7_gather.2.1 127 = .ok (.getfield 9, 3) := by decide +kernel
theorem d_X7_gather_130 : decode m_X7_gather.2.1 130 = .ok (.iload 9, 2) := by decide +kernel
theorem d_X7_gather_132 : decode m_X7_gather.2.1 132 = .ok (.iload 6, 2) := by decide +kernel
theorem d_X7_gather_134 : decode m_X7_gather.2.1 134 = .ok (.iload_n 3, 1) := by decide +kernel
theorem d_X7_gather_135 : decode m_X7_gather.2.1 135 = .ok (.if_icmp .le 19, 3) := by decide +kernel
theorem d_X7_gather_138 : decode m_X7_gather.2.1 138 = .ok (.aload_n 0, 1) := by decide +kernel
theorem d_X7_gather_139 : decode m_X7_gather.2.1 139 = .ok (.iload 8, 2) := by decide +kernel
theorem d_X7_gather_141 : decode m_X7_gather.2.1 141 = .ok (.iload 6, 2) := by decide +kernel
theorem d_X7_gather_143 : decode m_X7_gather.2.1 143 = .ok (.iload_n 3, 1) := by decide +kernel
theorem d_X7_gather_144 : decode m_X7_gather.2.1 144 = .ok (.isub, 1) := by decide +kernel
theorem d_X7_gather_145 : decode m_X7_gather.2.1 145 = .ok (.iload_n 2, 1) := by decide +kernel
theorem d_X7_gather_146 : decode m_X7_gather.2.1 146 = .ok (.iload_n 3, 1) := by decide +kernel
theorem d_X7_gather_147 : decode m_X7_gather.2.1 147 = .ok (.isub, 1) := by decide +kernel
theorem d_X7_gather_148 : decode m_X7_gather.2.1 148 = .ok (.invokevirtual 138, 3) := by decide +kernel
theorem d_X7_gather_151 : decode m_X7_gather.2.1 151 = .ok (.goto 13, 3) := by decide +kernel
theorem d_X7_gather_154 : decode m_X7_gather.2.1 154 = .ok (.aload_n 1, 1) := by decide +kernel
theorem d_X7_gather_155 : decode m_X7_gather.2.1 155 = .ok (.iload 7, 2) := by decide +kernel
theorem d_X7_gather_157 : decode m_X7_gather.2.1 157 = .ok (.iload 8, 2) := by decide +kernel
theorem d_X7_gather_159 : decode m_X7_gather.2.1 159 = .ok (.iload 6, 2) := by decide +kernel
theorem d_X7_gather_161 : decode m_X7_gather.2.1 161 = .ok (.invokevirtual 128, 3) := by decide +kernel
theorem d_X7_gather_164 : decode m_X7_gather.2.1 164 = .ok (.invokestatic 72, 3) := by decide +kernel
theorem d_X7_gather_167 : decode m_X7_gather.2.1 167 = .ok (.iload 5, 2) := by decide +kernel
theorem d_X7_gather_169 : decode m_X7_gather.2.1 169 = .ok (.iload 8, 2) := by decide +kernel
theorem d_X7_gather_171 : decode m_X7_gather.2.1 171 = .ok (.invokestatic 141, 3) := by decide +kernel
theorem d_X7_gather_174 : decode m_X7_gather.2.1 174 = .ok (.istore 9, 2) := by decide +kernel
theorem d_X7_gather_176 : decode m_X7_gather.2.1 176 = .ok (.iload 4, 2) := by decide +kernel
theorem d_X7_gather_178 : decode m_X7_gather.2.1 178 = .ok (.iload 9, 2) := by decide +kernel
theorem d_X7_gather_180 : decode m_X7_gather.2.1 180 = .ok (.invokestatic 135, 3) := by decide +kernel
theorem d_X7_gather_183 : decode m_X7_gather.2.1 183 = .ok (.ifCond .eq 40, 3) := by decide +kernel
theorem d_X7_gather_186 : decode m_X7_gather.2.1 186 = .ok (.aload_n 0, 1) := by decide +kernel
theorem d_X7_gather_187 : decode m_X7_gather.2.1 187 = .ok (.getfield 9, 3) := by decide +kernel
theorem d_X7_gather_190 : decode m_X7_gather.2.1 190 = .ok (.iload 9, 2) := by decide +kernel
theorem d_X7_gather_192 : decode m_X7_gather.2.1 192 = .ok (.iload 6, 2) := by decide +kernel
theorem d_X7_gather_194 : decode m_X7_gather.2.1 194 = .ok (.iload_n 3, 1) := by decide +kernel
theorem d_X7_gather_195 : decode m_X7_gather.2.1 195 = .ok (.if_icmp .le 15, 3) := by decide +kernel
theorem d_X7_gather_198 : decode m_X7_gather.2.1 198 = .ok (.aload_n 0, 1) := by decide +kernel
theorem d_X7_gather_199 : decode m_X7_gather.2.1 199 = .ok (.iload 8, 2) := by decide +kernel
theorem d_X7_gather_201 : decode m_X7_gather.2.1 201 = .ok (.iload_n 2, 1) := by decide +kernel
theorem d_X7_gather_202 : decode m_X7_gather.2.1 202 = .ok (.iload_n 3, 1) := by decide +kernel
theorem d_X7_gather_203 : decode m_X7_gather.2.1 203 = .ok (.isub, 1) := by decide +kernel
theorem d_X7_gather_204 : decode m_X7_gather.2.1 204 = .ok (.invokevirtual 144, 3) := by decide +kernel
theorem d_X7_gather_207 : decode m_X7_gather.2.1 207 = .ok (.goto 13, 3) := by decide +kernel
theorem d_X7_gather_210 : decode m_X7_gather.2.1 210 = .ok (.aload_n 1, 1) := by decide +kernel
theorem d_X7_gather_211 : decode m_X7_gather.2.1 211 = .ok (.iload 7, 2) := by decide +kernel
theorem d_X7_gather_213 : decode m_X7_gather.2.1 213 = .ok (.iload 8, 2) := by decide +kernel
theorem d_X7_gather_215 : decode m_X7_gather.2.1 215 = .ok (.iload 6, 2) := by decide +kernel
theorem d_X7_gather_217 : decode m_X7_gather.2.1 217 = .ok (.invokevirtual 147, 3) := by decide +kernel
theorem d_X7_gather_220 : decode m_X7_gather.2.1 220 = .ok (.invokestatic 72, 3) := by decide +kernel
theorem d_X7_gather_223 : decode m_X7_gather.2.1 223 = .ok (.iinc 8 1, 3) := by decide +kernel
theorem d_X7_gather_226 : decode m_X7_gather.2.1 226 = .ok (.goto (-125), 3) := by decide +kernel
theorem d_X7_gather_229 : decode m_X7_gather.2.1 229 = .ok (.iinc 5 1, 3) := by decide +kernel
theorem d_X7_gather_232 : decode m_X7_gather.2.1 232 = .ok (.goto (-178), 3) := by decide +kernel
theorem d_X7_gather_235 : decode m_X7_gather.2.1 235 = .ok (.return_, 1) := by decide +kernel
theorem d_X7_guessedValue_0 : decode m_X7_guessedValue.2.1 0 = .ok (.aload_n 0, 1) := by decide +kernel
theorem d_X7_guessedValue_1 : decode m_X7_guessedValue.2.1 1 = .ok (.getfield 18, 3) := by decide +kernel
theorem d_X7_guessedValue_4 : decode m_X7_guessedValue.2.1 4 = .ok (.iload_n 1, 1) := by decide +kernel
theorem d_X7_guessedValue_5 : decode m_X7_guessedValue.2.1 5 = .ok (.invokestatic 61, 3) := by decide +kernel
theorem d_X7_guessedValue_8 : decode m_X7_guessedValue.2.1 8 = .ok (.i2l, 1) := by decide +kernel
theorem d_X7_guessedValue_9 : decode m_X7_guessedValue.2.1 9 = .ok (.lstore 4, 2) := by decide +kernel
theorem d_X7_guessedValue_11 : decode m_X7_guessedValue.2.1 11 = .ok (.aload_n 0, 1) := by decide +kernel
theorem d_X7_guessedValue_12 : decode m_X7_guessedValue.2.1 12 = .ok (.getfield 21, 3) := by decide +kernel
theorem d_X7_guessedValue_15 : decode m_X7_guessedValue.2.1 15 = .ok (.iload_n 1, 1) := by decide +kernel
theorem d_X7_guessedValue_16 : decode m_X7_guessedValue.2.1 16 = .ok (.invokestatic 61, 3) := by decide +kernel
theorem d_X7_guessedValue_19 : decode m_X7_guessedValue.2.1 19 = .ok (.i2l, 1) := by decide +kernel
theorem d_X7_guessedValue_20 : decode m_X7_guessedValue.2.1 20 = .ok (.lload 4, 2) := by decide +kernel
theorem d_X7_guessedValue_22 : decode m_X7_guessedValue.2.1 22 = .ok (.lsub, 1) := by decide +kernel
theorem d_X7_guessedValue_23 : decode m_X7_guessedValue.2.1 23 = .ok (.lstore 6, 2) := by decide +kernel
theorem d_X7_guessedValue_25 : decode m_X7_guessedValue.2.1 25 = .ok (.lload 4, 2) := by decide +kernel
theorem d_X7_guessedValue_27 : decode m_X7_guessedValue.2.1 27 = .ok (.lload 6, 2) := by decide +kernel
theorem d_X7_guessedValue_29 : decode m_X7_guessedValue.2.1 29 = .ok (.iload_n 2, 1) := by decide +kernel
theorem d_X7_guessedValue_30 : decode m_X7_guessedValue.2.1 30 = .ok (.i2l, 1) := by decide +kernel
theorem d_X7_guessedValue_31 : decode m_X7_guessedValue.2.1 31 = .ok (.lmul, 1) := by decide +kernel
theorem d_X7_guessedValue_32 : decode m_X7_guessedValue.2.1 32 = .ok (.iload_n 3, 1) := by decide +kernel
theorem d_X7_guessedValue_33 : decode m_X7_guessedValue.2.1 33 = .ok (.i2l, 1) := by decide +kernel
theorem d_X7_guessedValue_34 : decode m_X7_guessedValue.2.1 34 = .ok (.invokestatic 150, 3) := by decide +kernel
theorem d_X7_guessedValue_37 : decode m_X7_guessedValue.2.1 37 = .ok (.ladd, 1) := by decide +kernel
theorem d_X7_guessedValue_38 : decode m_X7_guessedValue.2.1 38 = .ok (.invokestatic 85, 3) := by decide +kernel
theorem d_X7_guessedValue_41 : decode m_X7_guessedValue.2.1 41 = .ok (.ireturn, 1) := by decide +kernel
theorem d_X7_guessedSlope_0 : decode m_X7_guessedSlope.2.1 0 = .ok (.aload_n 0, 1) := by decide +kernel
theorem d_X7_guessedSlope_1 : decode m_X7_guessedSlope.2.1 1 = .ok (.getfield 21, 3) := by decide +kernel
theorem d_X7_guessedSlope_4 : decode m_X7_guessedSlope.2.1 4 = .ok (.iload_n 1, 1) := by decide +kernel
theorem d_X7_guessedSlope_5 : decode m_X7_guessedSlope.2.1 5 = .ok (.invokestatic 61, 3) := by decide +kernel
theorem d_X7_guessedSlope_8 : decode m_X7_guessedSlope.2.1 8 = .ok (.i2l, 1) := by decide +kernel
theorem d_X7_guessedSlope_9 : decode m_X7_guessedSlope.2.1 9 = .ok (.aload_n 0, 1) := by decide +kernel
theorem d_X7_guessedSlope_10 : decode m_X7_guessedSlope.2.1 10 = .ok (.getfield 18, 3) := by decide +kernel
theorem d_X7_guessedSlope_13 : decode m_X7_guessedSlope.2.1 13 = .ok (.iload_n 1, 1) := by decide +kernel
theorem d_X7_guessedSlope_14 : decode m_X7_guessedSlope.2.1 14 = .ok (.invokestatic 61, 3) := by decide +kernel
theorem d_X7_guessedSlope_17 : decode m_X7_guessedSlope.2.1 17 = .ok (.i2l, 1) := by decide +kernel
theorem d_X7_guessedSlope_18 : decode m_X7_guessedSlope.2.1 18 = .ok (.lsub, 1) := by decide +kernel
theorem d_X7_guessedSlope_19 : decode m_X7_guessedSlope.2.1 19 = .ok (.lstore_n 3, 1) := by decide +kernel
theorem d_X7_guessedSlope_20 : decode m_X7_guessedSlope.2.1 20 = .ok (.lload_n 3, 1) := by decide +kernel
theorem d_X7_guessedSlope_21 : decode m_X7_guessedSlope.2.1 21 = .ok (.ldc2_w 83, 3) := by decide +kernel
theorem d_X7_guessedSlope_24 : decode m_X7_guessedSlope.2.1 24 = .ok (.lmul, 1) := by decide +kernel
theorem d_X7_guessedSlope_25 : decode m_X7_guessedSlope.2.1 25 = .ok (.iload_n 2, 1) := by decide +kernel
theorem d_X7_guessedSlope_26 : decode m_X7_guessedSlope.2.1 26 = .ok (.i2l, 1) := by decide +kernel
theorem d_X7_guessedSlope_27 : decode m_X7_guessedSlope.2.1 27 = .ok (.invokestatic 150, 3) := by decide +kernel
theorem d_X7_guessedSlope_30 : decode m_X7_guessedSlope.2.1 30 = .ok (.invokestatic 85, 3) := by decide +kernel
theorem d_X7_guessedSlope_33 : decode m_X7_guessedSlope.2.1 33 = .ok (.ireturn, 1) := by decide +kernel
theorem d_X8_init_0 : decode m_X8_init.2.1 0 = .ok (.aload_n 0, 1) := by decide +kernel
theorem d_X8_init_1 : decode m_X8_init.2.1 1 = .ok (.invokespecial 3, 3) := by decide +kernel
theorem d_X8_init_4 : decode m_X8_init.2.1 4 = .ok (.aload_n 0, 1) := by decide +kernel
theorem d_X8_init_5 : decode m_X8_init.2.1 5 = .ok (.bipush 80, 2) := by decide +kernel
theorem d_X8_init_7 : decode m_X8_init.2.1 7 = .ok (.newarray .int, 2) := by decide +kernel
theorem d_X8_init_9 : decode m_X8_init.2.1 9 = .ok (.putfield 9, 3) := by decide +kernel
theorem d_X8_init_12 : decode m_X8_init.2.1 12 = .ok (.aload_n 0, 1) := by decide +kernel
theorem d_X8_init_13 : decode m_X8_init.2.1 13 = .ok (.bipush 80, 2) := by decide +kernel
theorem d_X8_init_15 : decode m_X8_init.2.1 15 = .ok (.newarray .int, 2) := by decide +kernel
theorem d_X8_init_17 : decode m_X8_init.2.1 17 = .ok (.putfield 15, 3) := by decide +kernel
theorem d_X8_init_20 : decode m_X8_init.2.1 20 = .ok (.return_, 1) := by decide +kernel
theorem d_X8_append_0 : decode m_X8_append.2.1 0 = .ok (.aload_n 0, 1) := by decide +kernel
theorem d_X8_append_1 : decode m_X8_append.2.1 1 = .ok (.getfield 18, 3) := by decide +kernel
theorem d_X8_append_4 : decode m_X8_append.2.1 4 = .ok (.bipush 80, 2) := by decide +kernel
theorem d_X8_append_6 : decode m_X8_append.2.1 6 = .ok (.if_icmp .lt 5, 3) := by decide +kernel
theorem d_X8_append_9 : decode m_X8_append.2.1 9 = .ok (.iconst 0, 1) := by decide +kernel
theorem d_X8_append_10 : decode m_X8_append.2.1 10 = .ok (.ireturn, 1) := by decide +kernel
theorem d_X8_append_11 : decode m_X8_append.2.1 11 = .ok (.aload_n 0, 1) := by decide +kernel
theorem d_X8_append_12 : decode m_X8_append.2.1 12 = .ok (.getfield 9, 3) := by decide +kernel
theorem d_X8_append_15 : decode m_X8_append.2.1 15 = .ok (.aload_n 0, 1) := by decide +kernel
theorem d_X8_append_16 : decode m_X8_append.2.1 16 = .ok (.getfield 18, 3) := by decide +kernel
theorem d_X8_append_19 : decode m_X8_append.2.1 19 = .ok (.iload_n 1, 1) := by decide +kernel
theorem d_X8_append_20 : decode m_X8_append.2.1 20 = .ok (.invokestatic 22, 3) := by decide +kernel
theorem d_X8_append_23 : decode m_X8_append.2.1 23 = .ok (.aload_n 0, 1) := by decide +kernel
theorem d_X8_append_24 : decode m_X8_append.2.1 24 = .ok (.dup, 1) := by decide +kernel
theorem d_X8_append_25 : decode m_X8_append.2.1 25 = .ok (.getfield 18, 3) := by decide +kernel
theorem d_X8_append_28 : decode m_X8_append.2.1 28 = .ok (.iconst 1, 1) := by decide +kernel
theorem d_X8_append_29 : decode m_X8_append.2.1 29 = .ok (.iadd, 1) := by decide +kernel
theorem d_X8_append_30 : decode m_X8_append.2.1 30 = .ok (.putfield 18, 3) := by decide +kernel
theorem d_X8_append_33 : decode m_X8_append.2.1 33 = .ok (.iconst 1, 1) := by decide +kernel
theorem d_X8_append_34 : decode m_X8_append.2.1 34 = .ok (.ireturn, 1) := by decide +kernel
theorem d_X8_empty_0 : decode m_X8_empty.2.1 0 = .ok (.aload_n 0, 1) := by decide +kernel
theorem d_X8_empty_1 : decode m_X8_empty.2.1 1 = .ok (.iconst 0, 1) := by decide +kernel
theorem d_X8_empty_2 : decode m_X8_empty.2.1 2 = .ok (.putfield 18, 3) := by decide +kernel
theorem d_X8_empty_5 : decode m_X8_empty.2.1 5 = .ok (.return_, 1) := by decide +kernel
theorem d_X8_read_0 : decode m_X8_read.2.1 0 = .ok (.aload_n 0, 1) := by decide +kernel
theorem d_X8_read_1 : decode m_X8_read.2.1 1 = .ok (.iconst 0, 1) := by decide +kernel
theorem d_X8_read_2 : decode m_X8_read.2.1 2 = .ok (.putfield 26, 3) := by decide +kernel
theorem d_X8_read_5 : decode m_X8_read.2.1 5 = .ok (.aload_n 0, 1) := by decide +kernel
theorem d_X8_read_6 : decode m_X8_read.2.1 6 = .ok (.iconst 0, 1) := by decide +kernel
theorem d_X8_read_7 : decode m_X8_read.2.1 7 = .ok (.putfield 29, 3) := by decide +kernel
theorem d_X8_read_10 : decode m_X8_read.2.1 10 = .ok (.aload_n 0, 1) := by decide +kernel
theorem d_X8_read_11 : decode m_X8_read.2.1 11 = .ok (.iconst 0, 1) := by decide +kernel
theorem d_X8_read_12 : decode m_X8_read.2.1 12 = .ok (.putfield 32, 3) := by decide +kernel
theorem d_X8_read_15 : decode m_X8_read.2.1 15 = .ok (.aload_n 0, 1) := by decide +kernel
theorem d_X8_read_16 : decode m_X8_read.2.1 16 = .ok (.iconst 0, 1) := by decide +kernel
theorem d_X8_read_17 : decode m_X8_read.2.1 17 = .ok (.invokevirtual 35, 3) := by decide +kernel
theorem d_X8_read_20 : decode m_X8_read.2.1 20 = .ok (.istore_n 1, 1) := by decide +kernel
theorem d_X8_read_21 : decode m_X8_read.2.1 21 = .ok (.iload_n 1, 1) := by decide +kernel
theorem d_X8_read_22 : decode m_X8_read.2.1 22 = .ok (.ifCond .eq 18, 3) := by decide +kernel
theorem d_X8_read_25 : decode m_X8_read.2.1 25 = .ok (.aload_n 0, 1) := by decide +kernel
theorem d_X8_read_26 : decode m_X8_read.2.1 26 = .ok (.getfield 26, 3) := by decide +kernel
theorem d_X8_read_29 : decode m_X8_read.2.1 29 = .ok (.aload_n 0, 1) := by decide +kernel
theorem d_X8_read_30 : decode m_X8_read.2.1 30 = .ok (.getfield 18, 3) := by decide +kernel
theorem d_X8_read_33 : decode m_X8_read.2.1 33 = .ok (.if_icmp .ne 7, 3) := by decide +kernel
theorem d_X8_read_36 : decode m_X8_read.2.1 36 = .ok (.iconst (-1), 1) := by decide +kernel
theorem d_X8_read_37 : decode m_X8_read.2.1 37 = .ok (.goto 7, 3) := by decide +kernel
theorem d_X8_read_40 : decode m_X8_read.2.1 40 = .ok (.aload_n 0, 1) := by decide +kernel
theorem d_X8_read_41 : decode m_X8_read.2.1 41 = .ok (.getfield 26, 3) := by decide +kernel
theorem d_X8_read_44 : decode m_X8_read.2.1 44 = .ok (.ireturn, 1) := by decide +kernel
theorem d_X8_readSum_0 : decode m_X8_readSum.2.1 0 = .ok (.iload_n 1, 1) := by decide +kernel
theorem d_X8_readSum_1 : decode m_X8_readSum.2.1 1 = .ok (.bipush 6, 2) := by decide +kernel
theorem d_X8_readSum_3 : decode m_X8_readSum.2.1 3 = .ok (.if_icmp .gt 11, 3) := by decide +kernel
theorem d_X8_readSum_6 : decode m_X8_readSum.2.1 6 = .ok (.aload_n 0, 1) := by decide +kernel
theorem d_X8_readSum_7 : decode m_X8_readSum.2.1 7 = .ok (.iload_n 1, 1) := by decide +kernel
theorem d_X8_readSum_8 : decode m_X8_readSum.2.1 8 = .ok (.invokevirtual 39, 3) := by decide +kernel
theorem d_X8_readSum_11 : decode m_X8_readSum.2.1 11 = .ok (.ifCond .ne 5, 3) := by decide +kernel
theorem d_X8_readSum_14 : decode m_X8_readSum.2.1 14 = .ok (.iconst 0, 1) := by decide +kernel
theorem d_X8_readSum_15 : decode m_X8_readSum.2.1 15 = .ok (.ireturn, 1) := by decide +kernel
theorem d_X8_readSum_16 : decode m_X8_readSum.2.1 16 = .ok (.iconst 0, 1) := by decide +kernel
theorem d_X8_readSum_17 : decode m_X8_readSum.2.1 17 = .ok (.istore_n 2, 1) := by decide +kernel
theorem d_X8_readSum_18 : decode m_X8_readSum.2.1 18 = .ok (.iload_n 2, 1) := by decide +kernel
theorem d_X8_readSum_19 : decode m_X8_readSum.2.1 19 = .ok (.bipush 80, 2) := by decide +kernel
theorem d_X8_readSum_21 : decode m_X8_readSum.2.1 21 = .ok (.if_icmp .ge 68, 3) := by decide +kernel
theorem d_X8_readSum_24 : decode m_X8_readSum.2.1 24 = .ok (.aload_n 0, 1) := by decide +kernel
theorem d_X8_readSum_25 : decode m_X8_readSum.2.1 25 = .ok (.invokevirtual 42, 3) := by decide +kernel
theorem d_X8_readSum_28 : decode m_X8_readSum.2.1 28 = .ok (.bipush 43, 2) := by decide +kernel
theorem d_X8_readSum_30 : decode m_X8_readSum.2.1 30 = .ok (.if_icmp .eq 12, 3) := by decide +kernel
theorem d_X8_readSum_33 : decode m_X8_readSum.2.1 33 = .ok (.aload_n 0, 1) := by decide +kernel
theorem d_X8_readSum_34 : decode m_X8_readSum.2.1 34 = .ok (.invokevirtual 42, 3) := by decide +kernel
theorem d_X8_readSum_37 : decode m_X8_readSum.2.1 37 = .ok (.bipush 45, 2) := by decide +kernel
theorem d_X8_readSum_39 : decode m_X8_readSum.2.1 39 = .ok (.if_icmp .ne 50, 3) := by decide +kernel
theorem d_X8_readSum_42 : decode m_X8_readSum.2.1 42 = .ok (.aload_n 0, 1) := by decide +kernel
theorem d_X8_readSum_43 : decode m_X8_readSum.2.1 43 = .ok (.invokevirtual 42, 3) := by decide +kernel
theorem d_X8_readSum_46 : decode m_X8_readSum.2.1 46 = .ok (.bipush 43, 2) := by decide +kernel
theorem d_X8_readSum_48 : decode m_X8_readSum.2.1 48 = .ok (.if_icmp .ne 7, 3) := by decide +kernel
theorem d_X8_readSum_51 : decode m_X8_readSum.2.1 51 = .ok (.iconst 2, 1) := by decide +kernel
theorem d_X8_readSum_52 : decode m_X8_readSum.2.1 52 = .ok (.goto 4, 3) := by decide +kernel
theorem d_X8_readSum_55 : decode m_X8_readSum.2.1 55 = .ok (.iconst 3, 1) := by decide +kernel
theorem d_X8_readSum_56 : decode m_X8_readSum.2.1 56 = .ok (.istore_n 3, 1) := by decide +kernel
theorem d_X8_readSum_57 : decode m_X8_readSum.2.1 57 = .ok (.aload_n 0, 1) := by decide +kernel
theorem d_X8_readSum_58 : decode m_X8_readSum.2.1 58 = .ok (.dup, 1) := by decide +kernel
theorem d_X8_readSum_59 : decode m_X8_readSum.2.1 59 = .ok (.getfield 26, 3) := by decide +kernel
theorem d_X8_readSum_62 : decode m_X8_readSum.2.1 62 = .ok (.iconst 1, 1) := by decide +kernel
theorem d_X8_readSum_63 : decode m_X8_readSum.2.1 63 = .ok (.iadd, 1) := by decide +kernel
theorem d_X8_readSum_64 : decode m_X8_readSum.2.1 64 = .ok (.putfield 26, 3) := by decide +kernel
theorem d_X8_readSum_67 : decode m_X8_readSum.2.1 67 = .ok (.aload_n 0, 1) := by decide +kernel
theorem d_X8_readSum_68 : decode m_X8_readSum.2.1 68 = .ok (.iload_n 1, 1) := by decide +kernel
theorem d_X8_readSum_69 : decode m_X8_readSum.2.1 69 = .ok (.invokevirtual 39, 3) := by decide +kernel
theorem d_X8_readSum_72 : decode m_X8_readSum.2.1 72 = .ok (.ifCond .ne 5, 3) := by decide +kernel
theorem d_X8_readSum_75 : decode m_X8_readSum.2.1 75 = .ok (.iconst 0, 1) := by decide +kernel
theorem d_X8_readSum_76 : decode m_X8_readSum.2.1 76 = .ok (.ireturn, 1) := by decide +kernel
theorem d_X8_readSum_77 : decode m_X8_readSum.2.1 77 = .ok (.aload_n 0, 1) := by decide +kernel
theorem d_X8_readSum_78 : decode m_X8_readSum.2.1 78 = .ok (.iload_n 3, 1) := by decide +kernel
theorem d_X8_readSum_79 : decode m_X8_readSum.2.1 79 = .ok (.iconst 0, 1) := by decide +kernel
theorem d_X8_readSum_80 : decode m_X8_readSum.2.1 80 = .ok (.invokevirtual 46, 3) := by decide +kernel
theorem d_X8_readSum_83 : decode m_X8_readSum.2.1 83 = .ok (.iinc 2 1, 3) := by decide +kernel
theorem d_X8_readSum_86 : decode m_X8_readSum.2.1 86 = .ok (.goto (-68), 3) := by decide +kernel
theorem d_X8_readSum_89 : decode m_X8_readSum.2.1 89 = .ok (.iconst 1, 1) := by decide +kernel
theorem d_X8_readSum_90 : decode m_X8_readSum.2.1 90 = .ok (.ireturn, 1) := by decide +kernel
theorem d_X8_readTerm_0 : decode m_X8_readTerm.2.1 0 = .ok (.aload_n 0, 1) := by decide +kernel
theorem d_X8_readTerm_1 : decode m_X8_readTerm.2.1 1 = .ok (.iload_n 1, 1) := by decide +kernel
theorem d_X8_readTerm_2 : decode m_X8_readTerm.2.1 2 = .ok (.invokevirtual 50, 3) := by decide +kernel
theorem d_X8_readTerm_5 : decode m_X8_readTerm.2.1 5 = .ok (.ifCond .ne 5, 3) := by decide +kernel
theorem d_X8_readTerm_8 : decode m_X8_readTerm.2.1 8 = .ok (.iconst 0, 1) := by decide +kernel
theorem d_X8_readTerm_9 : decode m_X8_readTerm.2.1 9 = .ok (.ireturn, 1) := by decide +kernel
theorem d_X8_readTerm_10 : decode m_X8_readTerm.2.1 10 = .ok (.iconst 0, 1) := by decide +kernel
theorem d_X8_readTerm_11 : decode m_X8_readTerm.2.1 11 = .ok (.istore_n 2, 1) := by decide +kernel
theorem d_X8_readTerm_12 : decode m_X8_readTerm.2.1 12 = .ok (.iload_n 2, 1) := by decide +kernel
theorem d_X8_readTerm_13 : decode m_X8_readTerm.2.1 13 = .ok (.bipush 80, 2) := by decide +kernel
theorem d_X8_readTerm_15 : decode m_X8_readTerm.2.1 15 = .ok (.if_icmp .ge 68, 3) := by decide +kernel
theorem d_X8_readTerm_18 : decode m_X8_readTerm.2.1 18 = .ok (.aload_n 0, 1) := by decide +kernel
theorem d_X8_readTerm_19 : decode m_X8_readTerm.2.1 19 = .ok (.invokevirtual 42, 3) := by decide +kernel
theorem d_X8_readTerm_22 : decode m_X8_readTerm.2.1 22 = .ok (.bipush 42, 2) := by decide +kernel
theorem d_X8_readTerm_24 : decode m_X8_readTerm.2.1 24 = .ok (.if_icmp .eq 12, 3) := by decide +kernel
theorem d_X8_readTerm_27 : decode m_X8_readTerm.2.1 27 = .ok (.aload_n 0, 1) := by decide +kernel
theorem d_X8_readTerm_28 : decode m_X8_readTerm.2.1 28 = .ok (.invokevirtual 42, 3) := by decide +kernel
theorem d_X8_readTerm_31 : decode m_X8_readTerm.2.1 31 = .ok (.bipush 47, 2) := by decide +kernel
theorem d_X8_readTerm_33 : decode m_X8_readTerm.2.1 33 = .ok (.if_icmp .ne 50, 3) := by decide +kernel
theorem d_X8_readTerm_36 : decode m_X8_readTerm.2.1 36 = .ok (.aload_n 0, 1) := by decide +kernel
theorem d_X8_readTerm_37 : decode m_X8_readTerm.2.1 37 = .ok (.invokevirtual 42, 3) := by decide +kernel
theorem d_X8_readTerm_40 : decode m_X8_readTerm.2.1 40 = .ok (.bipush 42, 2) := by decide +kernel
theorem d_X8_readTerm_42 : decode m_X8_readTerm.2.1 42 = .ok (.if_icmp .ne 7, 3) := by decide +kernel
theorem d_X8_readTerm_45 : decode m_X8_readTerm.2.1 45 = .ok (.iconst 4, 1) := by decide +kernel
theorem d_X8_readTerm_46 : decode m_X8_readTerm.2.1 46 = .ok (.goto 4, 3) := by decide +kernel
theorem d_X8_readTerm_49 : decode m_X8_readTerm.2.1 49 = .ok (.iconst 5, 1) := by decide +kernel
theorem d_X8_readTerm_50 : decode m_X8_readTerm.2.1 50 = .ok (.istore_n 3, 1) := by decide +kernel
theorem d_X8_readTerm_51 : decode m_X8_readTerm.2.1 51 = .ok (.aload_n 0, 1) := by decide +kernel
theorem d_X8_readTerm_52 : decode m_X8_readTerm.2.1 52 = .ok (.dup, 1) := by decide +kernel
theorem d_X8_readTerm_53 : decode m_X8_readTerm.2.1 53 = .ok (.getfield 26, 3) := by decide +kernel
theorem d_X8_readTerm_56 : decode m_X8_readTerm.2.1 56 = .ok (.iconst 1, 1) := by decide +kernel
theorem d_X8_readTerm_57 : decode m_X8_readTerm.2.1 57 = .ok (.iadd, 1) := by decide +kernel
theorem d_X8_readTerm_58 : decode m_X8_readTerm.2.1 58 = .ok (.putfield 26, 3) := by decide +kernel
theorem d_X8_readTerm_61 : decode m_X8_readTerm.2.1 61 = .ok (.aload_n 0, 1) := by decide +kernel
theorem d_X8_readTerm_62 : decode m_X8_readTerm.2.1 62 = .ok (.iload_n 1, 1) := by decide +kernel
theorem d_X8_readTerm_63 : decode m_X8_readTerm.2.1 63 = .ok (.invokevirtual 50, 3) := by decide +kernel
theorem d_X8_readTerm_66 : decode m_X8_readTerm.2.1 66 = .ok (.ifCond .ne 5, 3) := by decide +kernel
theorem d_X8_readTerm_69 : decode m_X8_readTerm.2.1 69 = .ok (.iconst 0, 1) := by decide +kernel
theorem d_X8_readTerm_70 : decode m_X8_readTerm.2.1 70 = .ok (.ireturn, 1) := by decide +kernel
theorem d_X8_readTerm_71 : decode m_X8_readTerm.2.1 71 = .ok (.aload_n 0, 1) := by decide +kernel
theorem d_X8_readTerm_72 : decode m_X8_readTerm.2.1 72 = .ok (.iload_n 3, 1) := by decide +kernel
theorem d_X8_readTerm_73 : decode m_X8_readTerm.2.1 73 = .ok (.iconst 0, 1) := by decide +kernel
theorem d_X8_readTerm_74 : decode m_X8_readTerm.2.1 74 = .ok (.invokevirtual 46, 3) := by decide +kernel
theorem d_X8_readTerm_77 : decode m_X8_readTerm.2.1 77 = .ok (.iinc 2 1, 3) := by decide +kernel
theorem d_X8_readTerm_80 : decode m_X8_readTerm.2.1 80 = .ok (.goto (-68), 3) := by decide +kernel
theorem d_X8_readTerm_83 : decode m_X8_readTerm.2.1 83 = .ok (.iconst 1, 1) := by decide +kernel
theorem d_X8_readTerm_84 : decode m_X8_readTerm.2.1 84 = .ok (.ireturn, 1) := by decide +kernel
theorem d_X8_readUnit_0 : decode m_X8_readUnit.2.1 0 = .ok (.iconst 0, 1) := by decide +kernel
theorem d_X8_readUnit_1 : decode m_X8_readUnit.2.1 1 = .ok (.istore_n 2, 1) := by decide +kernel
theorem d_X8_readUnit_2 : decode m_X8_readUnit.2.1 2 = .ok (.iload_n 2, 1) := by decide +kernel
theorem d_X8_readUnit_3 : decode m_X8_readUnit.2.1 3 = .ok (.bipush 80, 2) := by decide +kernel
theorem d_X8_readUnit_5 : decode m_X8_readUnit.2.1 5 = .ok (.if_icmp .ge 18, 3) := by decide +kernel
theorem d_X8_readUnit_8 : decode m_X8_readUnit.2.1 8 = .ok (.aload_n 0, 1) := by decide +kernel
theorem d_X8_readUnit_9 : decode m_X8_readUnit.2.1 9 = .ok (.bipush 45, 2) := by decide +kernel
theorem d_X8_readUnit_11 : decode m_X8_readUnit.2.1 11 = .ok (.invokevirtual 53, 3) := by decide +kernel
theorem d_X8_readUnit_14 : decode m_X8_readUnit.2.1 14 = .ok (.ifCond .eq 9, 3) := by decide +kernel
theorem d_X8_readUnit_17 : decode m_X8_readUnit.2.1 17 = .ok (.iinc 2 1, 3) := by decide +kernel
theorem d_X8_readUnit_20 : decode m_X8_readUnit.2.1 20 = .ok (.goto (-18), 3) := by decide +kernel
theorem d_X8_readUnit_23 : decode m_X8_readUnit.2.1 23 = .ok (.aload_n 0, 1) := by decide +kernel
theorem d_X8_readUnit_24 : decode m_X8_readUnit.2.1 24 = .ok (.iload_n 1, 1) := by decide +kernel
theorem d_X8_readUnit_25 : decode m_X8_readUnit.2.1 25 = .ok (.invokevirtual 56, 3) := by decide +kernel
theorem d_X8_readUnit_28 : decode m_X8_readUnit.2.1 28 = .ok (.ifCond .ne 5, 3) := by decide +kernel
theorem d_X8_readUnit_31 : decode m_X8_readUnit.2.1 31 = .ok (.iconst 0, 1) := by decide +kernel
theorem d_X8_readUnit_32 : decode m_X8_readUnit.2.1 32 = .ok (.ireturn, 1) := by decide +kernel
theorem d_X8_readUnit_33 : decode m_X8_readUnit.2.1 33 = .ok (.iconst 0, 1) := by decide +kernel
theorem d_X8_readUnit_34 : decode m_X8_readUnit.2.1 34 = .ok (.istore_n 3, 1) := by decide +kernel
theorem d_X8_readUnit_35 : decode m_X8_readUnit.2.1 35 = .ok (.iload_n 3, 1) := by decide +kernel
theorem d_X8_readUnit_36 : decode m_X8_readUnit.2.1 36 = .ok (.iload_n 2, 1) := by decide +kernel
theorem d_X8_readUnit_37 : decode m_X8_readUnit.2.1 37 = .ok (.if_icmp .ge 16, 3) := by decide +kernel
theorem d_X8_readUnit_40 : decode m_X8_readUnit.2.1 40 = .ok (.aload_n 0, 1) := by decide +kernel
theorem d_X8_readUnit_41 : decode m_X8_readUnit.2.1 41 = .ok (.bipush 6, 2) := by decide +kernel
theorem d_X8_readUnit_43 : decode m_X8_readUnit.2.1 43 = .ok (.iconst 0, 1) := by decide +kernel
theorem d_X8_readUnit_44 : decode m_X8_readUnit.2.1 44 = .ok (.invokevirtual 46, 3) := by decide +kernel
theorem d_X8_readUnit_47 : decode m_X8_readUnit.2.1 47 = .ok (.iinc 3 1, 3) := by decide +kernel
theorem d_X8_readUnit_50 : decode m_X8_readUnit.2.1 50 = .ok (.goto (-15), 3) := by decide +kernel
theorem d_X8_readUnit_53 : decode m_X8_readUnit.2.1 53 = .ok (.iconst 1, 1) := by decide +kernel
theorem d_X8_readUnit_54 : decode m_X8_readUnit.2.1 54 = .ok (.ireturn, 1) := by decide +kernel
theorem d_X8_readBareUnit_0 : decode m_X8_readBareUnit.2.1 0 = .ok (.aload_n 0, 1) := by decide +kernel
theorem d_X8_readBareUnit_1 : decode m_X8_readBareUnit.2.1 1 = .ok (.invokevirtual 42, 3) := by decide +kernel
theorem d_X8_readBareUnit_4 : decode m_X8_readBareUnit.2.1 4 = .ok (.istore_n 2, 1) := by decide +kernel
theorem d_X8_readBareUnit_5 : decode m_X8_readBareUnit.2.1 5 = .ok (.iload_n 2, 1) := by decide +kernel
theorem d_X8_readBareUnit_6 : decode m_X8_readBareUnit.2.1 6 = .ok (.invokestatic 59, 3) := by decide +kernel
theorem d_X8_readBareUnit_9 : decode m_X8_readBareUnit.2.1 9 = .ok (.ifCond .eq 8, 3) := by decide +kernel
theorem d_X8_readBareUnit_12 : decode m_X8_readBareUnit.2.1 12 = .ok (.aload_n 0, 1) := by decide +kernel
theorem d_X8_readBareUnit_13 : decode m_X8_readBareUnit.2.1 13 = .ok (.invokevirtual 62, 3) := by decide +kernel
theorem d_X8_readBareUnit_16 : decode m_X8_readBareUnit.2.1 16 = .ok (.ireturn, 1) := by decide +kernel
theorem d_X8_readBareUnit_17 : decode m_X8_readBareUnit.2.1 17 = .ok (.iload_n 2, 1) := by decide +kernel
theorem d_X8_readBareUnit_18 : decode m_X8_readBareUnit.2.1 18 = .ok (.bipush 120, 2) := by decide +kernel
theorem d_X8_readBareUnit_20 : decode m_X8_readBareUnit.2.1 20 = .ok (.bipush 122, 2) := by decide +kernel
theorem d_X8_readBareUnit_22 : decode m_X8_readBareUnit.2.1 22 = .ok (.invokestatic 66, 3) := by decide +kernel
theorem d_X8_readBareUnit_25 : decode m_X8_readBareUnit.2.1 25 = .ok (.ifCond .eq 8, 3) := by decide +kernel
theorem d_X8_readBareUnit_28 : decode m_X8_readBareUnit.2.1 28 = .ok (.aload_n 0, 1) := by decide +kernel
theorem d_X8_readBareUnit_29 : decode m_X8_readBareUnit.2.1 29 = .ok (.invokevirtual 70, 3) := by decide +kernel
theorem d_X8_readBareUnit_32 : decode m_X8_readBareUnit.2.1 32 = .ok (.ireturn, 1) := by decide +kernel
theorem d_X8_readBareUnit_33 : decode m_X8_readBareUnit.2.1 33 = .ok (.aload_n 0, 1) := by decide +kernel
theorem d_X8_readBareUnit_34 : decode m_X8_readBareUnit.2.1 34 = .ok (.bipush 116, 2) := by decide +kernel
theorem d_X8_readBareUnit_36 : decode m_X8_readBareUnit.2.1 36 = .ok (.invokevirtual 53, 3) := by decide +kernel
theorem d_X8_readBareUnit_39 : decode m_X8_readBareUnit.2.1 39 = .ok (.ifCond .eq 10, 3) := by decide +kernel
theorem d_X8_readBareUnit_42 : decode m_X8_readBareUnit.2.1 42 = .ok (.aload_n 0, 1) := by decide +kernel
theorem d_X8_readBareUnit_43 : decode m_X8_readBareUnit.2.1 43 = .ok (.iconst 3, 1) := by decide +kernel
theorem d_X8_readBareUnit_44 : decode m_X8_readBareUnit.2.1 44 = .ok (.invokevirtual 73, 3) := by decide +kernel
theorem d_X8_readBareUnit_47 : decode m_X8_readBareUnit.2.1 47 = .ok (.iconst 1, 1) := by decide +kernel
theorem d_X8_readBareUnit_48 : decode m_X8_readBareUnit.2.1 48 = .ok (.ireturn, 1) := by decide +kernel
theorem d_X8_readBareUnit_49 : decode m_X8_readBareUnit.2.1 49 = .ok (.aload_n 0, 1) := by decide +kernel
theorem d_X8_readBareUnit_50 : decode m_X8_readBareUnit.2.1 50 = .ok (.bipush 109, 2) := by decide +kernel
theorem d_X8_readBareUnit_52 : decode m_X8_readBareUnit.2.1 52 = .ok (.invokevirtual 53, 3) := by decide +kernel
theorem d_X8_readBareUnit_55 : decode m_X8_readBareUnit.2.1 55 = .ok (.ifCond .eq 9, 3) := by decide +kernel
theorem d_X8_readBareUnit_58 : decode m_X8_readBareUnit.2.1 58 = .ok (.aload_n 0, 1) := by decide +kernel
theorem d_X8_readBareUnit_59 : decode m_X8_readBareUnit.2.1 59 = .ok (.iload_n 1, 1) := by decide +kernel
theorem d_X8_readBareUnit_60 : decode m_X8_readBareUnit.2.1 60 = .ok (.invokevirtual 77, 3) := by decide +kernel
theorem d_X8_readBareUnit_63 : decode m_X8_readBareUnit.2.1 63 = .ok (.ireturn, 1) := by decide +kernel
theorem d_X8_readBareUnit_64 : decode m_X8_readBareUnit.2.1 64 = .ok (.aload_n 0, 1) := by decide +kernel
theorem d_X8_readBareUnit_65 : decode m_X8_readBareUnit.2.1 65 = .ok (.iload_n 1, 1) := by decide +kernel
theorem d_X8_readBareUnit_66 : decode m_X8_readBareUnit.2.1 66 = .ok (.invokevirtual 80, 3) := by decide +kernel
theorem d_X8_readBareUnit_69 : decode m_X8_readBareUnit.2.1 69 = .ok (.ifCond .eq 26, 3) := by decide +kernel
theorem d_X8_readBareUnit_72 : decode m_X8_readBareUnit.2.1 72 = .ok (.aload_n 0, 1) := by decide +kernel
theorem d_X8_readBareUnit_73 : decode m_X8_readBareUnit.2.1 73 = .ok (.iload_n 1, 1) := by decide +kernel
theorem d_X8_readBareUnit_74 : decode m_X8_readBareUnit.2.1 74 = .ok (.iconst 1, 1) := by decide +kernel
theorem d_X8_readBareUnit_75 : decode m_X8_readBareUnit.2.1 75 = .ok (.iadd, 1) := by decide +kernel
theorem d_X8_readBareUnit_76 : decode m_X8_readBareUnit.2.1 76 = .ok (.invokevirtual 35, 3) := by decide +kernel
theorem d_X8_readBareUnit_79 : decode m_X8_readBareUnit.2.1 79 = .ok (.ifCond .eq 16, 3) := by decide +kernel
theorem d_X8_readBareUnit_82 : decode m_X8_readBareUnit.2.1 82 = .ok (.aload_n 0, 1) := by decide +kernel
theorem d_X8_readBareUnit_83 : decode m_X8_readBareUnit.2.1 83 = .ok (.bipush 41, 2) := by decide +kernel
theorem d_X8_readBareUnit_85 : decode m_X8_readBareUnit.2.1 85 = .ok (.invokevirtual 53, 3) := by decide +kernel
theorem d_X8_readBareUnit_88 : decode m_X8_readBareUnit.2.1 88 = .ok (.ifCond .eq 7, 3) := by decide +kernel
theorem d_X8_readBareUnit_91 : decode m_X8_readBareUnit.2.1 91 = .ok (.iconst 1, 1) := by decide +kernel
theorem d_X8_readBareUnit_92 : decode m_X8_readBareUnit.2.1 92 = .ok (.goto 4, 3) := by decide +kernel
theorem d_X8_readBareUnit_95 : decode m_X8_readBareUnit.2.1 95 = .ok (.iconst 0, 1) := by decide +kernel
theorem d_X8_readBareUnit_96 : decode m_X8_readBareUnit.2.1 96 = .ok (.ireturn, 1) := by decide +kernel
theorem d_X8_readNumber_0 : decode m_X8_readNumber.2.1 0 = .ok (.iconst 0, 1) := by decide +kernel
theorem d_X8_readNumber_1 : decode m_X8_readNumber.2.1 1 = .ok (.istore_n 1, 1) := by decide +kernel
theorem d_X8_readNumber_2 : decode m_X8_readNumber.2.1 2 = .ok (.iconst 0, 1) := by decide +kernel
theorem d_X8_readNumber_3 : decode m_X8_readNumber.2.1 3 = .ok (.istore_n 2, 1) := by decide +kernel
theorem d_X8_readNumber_4 : decode m_X8_readNumber.2.1 4 = .ok (.iload_n 2, 1) := by decide +kernel
theorem d_X8_readNumber_5 : decode m_X8_readNumber.2.1 5 = .ok (.iconst 4, 1) := by decide +kernel
theorem d_X8_readNumber_6 : decode m_X8_readNumber.2.1 6 = .ok (.if_icmp .ge 42, 3) := by decide +kernel
theorem d_X8_readNumber_9 : decode m_X8_readNumber.2.1 9 = .ok (.aload_n 0, 1) := by decide +kernel
theorem d_X8_readNumber_10 : decode m_X8_readNumber.2.1 10 = .ok (.invokevirtual 42, 3) := by decide +kernel
theorem d_X8_readNumber_13 : decode m_X8_readNumber.2.1 13 = .ok (.invokestatic 59, 3) := by decide +kernel
theorem d_X8_readNumber_16 : decode m_X8_readNumber.2.1 16 = .ok (.ifCond .eq 32, 3) := by decide +kernel
theorem d_X8_readNumber_19 : decode m_X8_readNumber.2.1 19 = .ok (.iload_n 1, 1) := by decide +kernel
theorem d_X8_readNumber_20 : decode m_X8_readNumber.2.1 20 = .ok (.bipush 10, 2) := by decide +kernel
theorem d_X8_readNumber_22 : decode m_X8_readNumber.2.1 22 = .ok (.imul, 1) := by decide +kernel
theorem d_X8_readNumber_23 : decode m_X8_readNumber.2.1 23 = .ok (.aload_n 0, 1) := by decide +kernel
theorem d_X8_readNumber_24 : decode m_X8_readNumber.2.1 24 = .ok (.invokevirtual 42, 3) := by decide +kernel
theorem d_X8_readNumber_27 : decode m_X8_readNumber.2.1 27 = .ok (.iadd, 1) := by decide +kernel
theorem d_X8_readNumber_28 : decode m_X8_readNumber.2.1 28 = .ok (.bipush 48, 2) := by decide +kernel
theorem d_X8_readNumber_30 : decode m_X8_readNumber.2.1 30 = .ok (.isub, 1) := by decide +kernel
theorem d_X8_readNumber_31 : decode m_X8_readNumber.2.1 31 = .ok (.istore_n 1, 1) := by decide +kernel
theorem d_X8_readNumber_32 : decode m_X8_readNumber.2.1 32 = .ok (.aload_n 0, 1) := by decide +kernel
theorem d_X8_readNumber_33 : decode m_X8_readNumber.2.1 33 = .ok (.dup, 1) := by decide +kernel
theorem d_X8_readNumber_34 : decode m_X8_readNumber.2.1 34 = .ok (.getfield 26, 3) := by decide +kernel
theorem d_X8_readNumber_37 : decode m_X8_readNumber.2.1 37 = .ok (.iconst 1, 1) := by decide +kernel
theorem d_X8_readNumber_38 : decode m_X8_readNumber.2.1 38 = .ok (.iadd, 1) := by decide +kernel
theorem d_X8_readNumber_39 : decode m_X8_readNumber.2.1 39 = .ok (.putfield 26, 3) := by decide +kernel
theorem d_X8_readNumber_42 : decode m_X8_readNumber.2.1 42 = .ok (.iinc 2 1, 3) := by decide +kernel
theorem d_X8_readNumber_45 : decode m_X8_readNumber.2.1 45 = .ok (.goto (-41), 3) := by decide +kernel
theorem d_X8_readNumber_48 : decode m_X8_readNumber.2.1 48 = .ok (.iload_n 1, 1) := by decide +kernel
theorem d_X8_readNumber_49 : decode m_X8_readNumber.2.1 49 = .ok (.sipush 1000, 3) := by decide +kernel
theorem d_X8_readNumber_52 : decode m_X8_readNumber.2.1 52 = .ok (.imul, 1) := by decide +kernel
theorem d_X8_readNumber_53 : decode m_X8_readNumber.2.1 53 = .ok (.istore_n 1, 1) := by decide +kernel
theorem d_X8_readNumber_54 : decode m_X8_readNumber.2.1 54 = .ok (.aload_n 0, 1) := by decide +kernel
theorem d_X8_readNumber_55 : decode m_X8_readNumber.2.1 55 = .ok (.bipush 46, 2) := by decide +kernel
theorem d_X8_readNumber_57 : decode m_X8_readNumber.2.1 57 = .ok (.invokevirtual 53, 3) := by decide +kernel
theorem d_X8_readNumber_60 : decode m_X8_readNumber.2.1 60 = .ok (.ifCond .eq 68, 3) := by decide +kernel
theorem d_X8_readNumber_63 : decode m_X8_readNumber.2.1 63 = .ok (.aload_n 0, 1) := by decide +kernel
theorem d_X8_readNumber_64 : decode m_X8_readNumber.2.1 64 = .ok (.invokevirtual 42, 3) := by decide +kernel
theorem d_X8_readNumber_67 : decode m_X8_readNumber.2.1 67 = .ok (.invokestatic 59, 3) := by decide +kernel
theorem d_X8_readNumber_70 : decode m_X8_readNumber.2.1 70 = .ok (.ifCond .ne 5, 3) := by decide +kernel
theorem d_X8_readNumber_73 : decode m_X8_readNumber.2.1 73 = .ok (.iconst 0, 1) := by decide +kernel
theorem d_X8_readNumber_74 : decode m_X8_readNumber.2.1 74 = .ok (.ireturn, 1) := by decide +kernel
theorem d_X8_readNumber_75 : decode m_X8_readNumber.2.1 75 = .ok (.bipush 100, 2) := by decide +kernel
theorem d_X8_readNumber_77 : decode m_X8_readNumber.2.1 77 = .ok (.istore_n 2, 1) := by decide +kernel
theorem d_X8_readNumber_78 : decode m_X8_readNumber.2.1 78 = .ok (.iconst 0, 1) := by decide +kernel
theorem d_X8_readNumber_79 : decode m_X8_readNumber.2.1 79 = .ok (.istore_n 3, 1) := by decide +kernel
theorem d_X8_readNumber_80 : decode m_X8_readNumber.2.1 80 = .ok (.iload_n 3, 1) := by decide +kernel
theorem d_X8_readNumber_81 : decode m_X8_readNumber.2.1 81 = .ok (.iconst 3, 1) := by decide +kernel
theorem d_X8_readNumber_82 : decode m_X8_readNumber.2.1 82 = .ok (.if_icmp .ge 46, 3) := by decide +kernel
theorem d_X8_readNumber_85 : decode m_X8_readNumber.2.1 85 = .ok (.aload_n 0, 1) := by decide +kernel
theorem d_X8_readNumber_86 : decode m_X8_readNumber.2.1 86 = .ok (.invokevirtual 42, 3) := by decide +kernel
theorem d_X8_readNumber_89 : decode m_X8_readNumber.2.1 89 = .ok (.invokestatic 59, 3) := by decide +kernel
theorem d_X8_readNumber_92 : decode m_X8_readNumber.2.1 92 = .ok (.ifCond .eq 36, 3) := by decide +kernel
theorem d_X8_readNumber_95 : decode m_X8_readNumber.2.1 95 = .ok (.iload_n 1, 1) := by decide +kernel
theorem d_X8_readNumber_96 : decode m_X8_readNumber.2.1 96 = .ok (.aload_n 0, 1) := by decide +kernel
theorem d_X8_readNumber_97 : decode m_X8_readNumber.2.1 97 = .ok (.invokevirtual 42, 3) := by decide +kernel
theorem d_X8_readNumber_100 : decode m_X8_readNumber.2.1 100 = .ok (.bipush 48, 2) := by decide +kernel
theorem d_X8_readNumber_102 : decode m_X8_readNumber.2.1 102 = .ok (.isub, 1) := by decide +kernel
theorem d_X8_readNumber_103 : decode m_X8_readNumber.2.1 103 = .ok (.iload_n 2, 1) := by decide +kernel
theorem d_X8_readNumber_104 : decode m_X8_readNumber.2.1 104 = .ok (.imul, 1) := by decide +kernel
theorem d_X8_readNumber_105 : decode m_X8_readNumber.2.1 105 = .ok (.iadd, 1) := by decide +kernel
theorem d_X8_readNumber_106 : decode m_X8_readNumber.2.1 106 = .ok (.istore_n 1, 1) := by decide +kernel
theorem d_X8_readNumber_107 : decode m_X8_readNumber.2.1 107 = .ok (.iload_n 2, 1) := by decide +kernel
theorem d_X8_readNumber_108 : decode m_X8_readNumber.2.1 108 = .ok (.bipush 10, 2) := by decide +kernel
theorem d_X8_readNumber_110 : decode m_X8_readNumber.2.1 110 = .ok (.idiv, 1) := by decide +kernel
theorem d_X8_readNumber_111 : decode m_X8_readNumber.2.1 111 = .ok (.istore_n 2, 1) := by decide +kernel
theorem d_X8_readNumber_112 : decode m_X8_readNumber.2.1 112 = .ok (.aload_n 0, 1) := by decide +kernel
theorem d_X8_readNumber_113 : decode m_X8_readNumber.2.1 113 = .ok (.dup, 1) := by decide +kernel
theorem d_X8_readNumber_114 : decode m_X8_readNumber.2.1 114 = .ok (.getfield 26, 3) := by decide +kernel
theorem d_X8_readNumber_117 : decode m_X8_readNumber.2.1 117 = .ok (.iconst 1, 1) := by decide +kernel
theorem d_X8_readNumber_118 : decode m_X8_readNumber.2.1 118 = .ok (.iadd, 1) := by decide +kernel
theorem d_X8_readNumber_119 : decode m_X8_readNumber.2.1 119 = .ok (.putfield 26, 3) := by decide +kernel
theorem d_X8_readNumber_122 : decode m_X8_readNumber.2.1 122 = .ok (.iinc 3 1, 3) := by decide +kernel
theorem d_X8_readNumber_125 : decode m_X8_readNumber.2.1 125 = .ok (.goto (-45), 3) := by decide +kernel
theorem d_X8_readNumber_128 : decode m_X8_readNumber.2.1 128 = .ok (.aload_n 0, 1) := by decide +kernel
theorem d_X8_readNumber_129 : decode m_X8_readNumber.2.1 129 = .ok (.iconst 0, 1) := by decide +kernel
theorem d_X8_readNumber_130 : decode m_X8_readNumber.2.1 130 = .ok (.iload_n 1, 1) := by decide +kernel
theorem d_X8_readNumber_131 : decode m_X8_readNumber.2.1 131 = .ok (.invokevirtual 46, 3) := by decide +kernel
theorem d_X8_readNumber_134 : decode m_X8_readNumber.2.1 134 = .ok (.iconst 1, 1) := by decide +kernel
theorem d_X8_readNumber_135 : decode m_X8_readNumber.2.1 135 = .ok (.ireturn, 1) := by decide +kernel
theorem d_X8_readName_0 : decode m_X8_readName.2.1 0 = .ok (.aload_n 0, 1) := by decide +kernel
theorem d_X8_readName_1 : decode m_X8_readName.2.1 1 = .ok (.invokevirtual 42, 3) := by decide +kernel
theorem d_X8_readName_4 : decode m_X8_readName.2.1 4 = .ok (.bipush 120, 2) := by decide +kernel
theorem d_X8_readName_6 : decode m_X8_readName.2.1 6 = .ok (.isub, 1) := by decide +kernel
theorem d_X8_readName_7 : decode m_X8_readName.2.1 7 = .ok (.istore_n 1, 1) := by decide +kernel
theorem d_X8_readName_8 : decode m_X8_readName.2.1 8 = .ok (.aload_n 0, 1) := by decide +kernel
theorem d_X8_readName_9 : decode m_X8_readName.2.1 9 = .ok (.dup, 1) := by decide +kernel
theorem d_X8_readName_10 : decode m_X8_readName.2.1 10 = .ok (.getfield 26, 3) := by decide +kernel
theorem d_X8_readName_13 : decode m_X8_readName.2.1 13 = .ok (.iconst 1, 1) := by decide +kernel
theorem d_X8_readName_14 : decode m_X8_readName.2.1 14 = .ok (.iadd, 1) := by decide +kernel
theorem d_X8_readName_15 : decode m_X8_readName.2.1 15 = .ok (.putfield 26, 3) := by decide +kernel
theorem d_X8_readName_18 : decode m_X8_readName.2.1 18 = .ok (.aload_n 0, 1) := by decide +kernel
theorem d_X8_readName_19 : decode m_X8_readName.2.1 19 = .ok (.bipush 39, 2) := by decide +kernel
theorem d_X8_readName_21 : decode m_X8_readName.2.1 21 = .ok (.invokevirtual 53, 3) := by decide +kernel
theorem d_X8_readName_24 : decode m_X8_readName.2.1 24 = .ok (.istore_n 2, 1) := by decide +kernel
theorem d_X8_readName_25 : decode m_X8_readName.2.1 25 = .ok (.aload_n 0, 1) := by decide +kernel
theorem d_X8_readName_26 : decode m_X8_readName.2.1 26 = .ok (.bipush 64, 2) := by decide +kernel
theorem d_X8_readName_28 : decode m_X8_readName.2.1 28 = .ok (.invokevirtual 53, 3) := by decide +kernel
theorem d_X8_readName_31 : decode m_X8_readName.2.1 31 = .ok (.ifCond .ne 18, 3) := by decide +kernel
theorem d_X8_readName_34 : decode m_X8_readName.2.1 34 = .ok (.aload_n 0, 1) := by decide +kernel
theorem d_X8_readName_35 : decode m_X8_readName.2.1 35 = .ok (.iload_n 1, 1) := by decide +kernel
theorem d_X8_readName_36 : decode m_X8_readName.2.1 36 = .ok (.invokevirtual 73, 3) := by decide +kernel
theorem d_X8_readName_39 : decode m_X8_readName.2.1 39 = .ok (.iload_n 2, 1) := by decide +kernel
theorem d_X8_readName_40 : decode m_X8_readName.2.1 40 = .ok (.ifCond .ne 7, 3) := by decide +kernel
theorem d_X8_readName_43 : decode m_X8_readName.2.1 43 = .ok (.iconst 1, 1) := by decide +kernel
theorem d_X8_readName_44 : decode m_X8_readName.2.1 44 = .ok (.goto 4, 3) := by decide +kernel
theorem d_X8_readName_47 : decode m_X8_readName.2.1 47 = .ok (.iconst 0, 1) := by decide +kernel
theorem d_X8_readName_48 : decode m_X8_readName.2.1 48 = .ok (.ireturn, 1) := by decide +kernel
theorem d_X8_readName_49 : decode m_X8_readName.2.1 49 = .ok (.aload_n 0, 1) := by decide +kernel
theorem d_X8_readName_50 : decode m_X8_readName.2.1 50 = .ok (.invokevirtual 42, 3) := by decide +kernel
theorem d_X8_readName_53 : decode m_X8_readName.2.1 53 = .ok (.bipush 48, 2) := by decide +kernel
theorem d_X8_readName_55 : decode m_X8_readName.2.1 55 = .ok (.isub, 1) := by decide +kernel
theorem d_X8_readName_56 : decode m_X8_readName.2.1 56 = .ok (.istore_n 3, 1) := by decide +kernel
theorem d_X8_readName_57 : decode m_X8_readName.2.1 57 = .ok (.iload_n 3, 1) := by decide +kernel
theorem d_X8_readName_58 : decode m_X8_readName.2.1 58 = .ok (.invokestatic 83, 3) := by decide +kernel
theorem d_X8_readName_61 : decode m_X8_readName.2.1 61 = .ok (.ifCond .ne 5, 3) := by decide +kernel
theorem d_X8_readName_64 : decode m_X8_readName.2.1 64 = .ok (.iconst 0, 1) := by decide +kernel
theorem d_X8_readName_65 : decode m_X8_readName.2.1 65 = .ok (.ireturn, 1) := by decide +kernel
theorem d_X8_readName_66 : decode m_X8_readName.2.1 66 = .ok (.aload_n 0, 1) := by decide +kernel
theorem d_X8_readName_67 : decode m_X8_readName.2.1 67 = .ok (.dup, 1) := by decide +kernel
theorem d_X8_readName_68 : decode m_X8_readName.2.1 68 = .ok (.getfield 26, 3) := by decide +kernel
theorem d_X8_readName_71 : decode m_X8_readName.2.1 71 = .ok (.iconst 1, 1) := by decide +kernel
theorem d_X8_readName_72 : decode m_X8_readName.2.1 72 = .ok (.iadd, 1) := by decide +kernel
theorem d_X8_readName_73 : decode m_X8_readName.2.1 73 = .ok (.putfield 26, 3) := by decide +kernel
theorem d_X8_readName_76 : decode m_X8_readName.2.1 76 = .ok (.aload_n 0, 1) := by decide +kernel
theorem d_X8_readName_77 : decode m_X8_readName.2.1 77 = .ok (.iload_n 2, 1) := by decide +kernel
theorem d_X8_readName_78 : decode m_X8_readName.2.1 78 = .ok (.ifCond .eq 11, 3) := by decide +kernel
theorem d_X8_readName_81 : decode m_X8_readName.2.1 81 = .ok (.iload_n 3, 1) := by decide +kernel
theorem d_X8_readName_82 : decode m_X8_readName.2.1 82 = .ok (.iload_n 1, 1) := by decide +kernel
theorem d_X8_readName_83 : decode m_X8_readName.2.1 83 = .ok (.invokestatic 86, 3) := by decide +kernel
theorem d_X8_readName_86 : decode m_X8_readName.2.1 86 = .ok (.goto 8, 3) := by decide +kernel
theorem d_X8_readName_89 : decode m_X8_readName.2.1 89 = .ok (.iload_n 3, 1) := by decide +kernel
theorem d_X8_readName_90 : decode m_X8_readName.2.1 90 = .ok (.iload_n 1, 1) := by decide +kernel
theorem d_X8_readName_91 : decode m_X8_readName.2.1 91 = .ok (.invokestatic 90, 3) := by decide +kernel
theorem d_X8_readName_94 : decode m_X8_readName.2.1 94 = .ok (.invokevirtual 73, 3) := by decide +kernel
theorem d_X8_readName_97 : decode m_X8_readName.2.1 97 = .ok (.iconst 1, 1) := by decide +kernel
theorem d_X8_readName_98 : decode m_X8_readName.2.1 98 = .ok (.ireturn, 1) := by decide +kernel
theorem d_X8_readLeastOrMost_0 : decode m_X8_readLeastOrMost.2.1 0 = .ok (.aload_n 0, 1) := by decide +kernel
theorem d_X8_readLeastOrMost_1 : decode m_X8_readLeastOrMost.2.1 1 = .ok (.bipush 105, 2) := by decide +kernel
theorem d_X8_readLeastOrMost_3 : decode m_X8_readLeastOrMost.2.1 3 = .ok (.invokevirtual 53, 3) := by decide +kernel
theorem d_X8_readLeastOrMost_6 : decode m_X8_readLeastOrMost.2.1 6 = .ok (.istore_n 2, 1) := by decide +kernel
theorem d_X8_readLeastOrMost_7 : decode m_X8_readLeastOrMost.2.1 7 = .ok (.iload_n 2, 1) := by decide +kernel
theorem d_X8_readLeastOrMost_8 : decode m_X8_readLeastOrMost.2.1 8 = .ok (.ifCond .ne 14, 3) := by decide +kernel
theorem d_X8_readLeastOrMost_11 : decode m_X8_readLeastOrMost.2.1 11 = .ok (.aload_n 0, 1) := by decide +kernel
theorem d_X8_readLeastOrMost_12 : decode m_X8_readLeastOrMost.2.1 12 = .ok (.bipush 97, 2) := by decide +kernel
theorem d_X8_readLeastOrMost_14 : decode m_X8_readLeastOrMost.2.1 14 = .ok (.invokevirtual 53, 3) := by decide +kernel
theorem d_X8_readLeastOrMost_17 : decode m_X8_readLeastOrMost.2.1 17 = .ok (.ifCond .ne 5, 3) := by decide +kernel
theorem d_X8_readLeastOrMost_20 : decode m_X8_readLeastOrMost.2.1 20 = .ok (.iconst 0, 1) := by decide +kernel
theorem d_X8_readLeastOrMost_21 : decode m_X8_readLeastOrMost.2.1 21 = .ok (.ireturn, 1) := by decide +kernel
theorem d_X8_readLeastOrMost_22 : decode m_X8_readLeastOrMost.2.1 22 = .ok (.aload_n 0, 1) := by decide +kernel
theorem d_X8_readLeastOrMost_23 : decode m_X8_readLeastOrMost.2.1 23 = .ok (.iload_n 2, 1) := by decide +kernel
theorem d_X8_readLeastOrMost_24 : decode m_X8_readLeastOrMost.2.1 24 = .ok (.ifCond .eq 8, 3) := by decide +kernel
theorem d_X8_readLeastOrMost_27 : decode m_X8_readLeastOrMost.2.1 27 = .ok (.bipush 110, 2) := by decide +kernel
theorem d_X8_readLeastOrMost_29 : decode m_X8_readLeastOrMost.2.1 29 = .ok (.goto 5, 3) := by decide +kernel
theorem d_X8_readLeastOrMost_32 : decode m_X8_readLeastOrMost.2.1 32 = .ok (.bipush 120, 2) := by decide +kernel
theorem d_X8_readLeastOrMost_34 : decode m_X8_readLeastOrMost.2.1 34 = .ok (.invokevirtual 53, 3) := by decide +kernel
theorem d_X8_readLeastOrMost_37 : decode m_X8_readLeastOrMost.2.1 37 = .ok (.ifCond .eq 49, 3) := by decide +kernel
theorem d_X8_readLeastOrMost_40 : decode m_X8_readLeastOrMost.2.1 40 = .ok (.aload_n 0, 1) := by decide +kernel
theorem d_X8_readLeastOrMost_41 : decode m_X8_readLeastOrMost.2.1 41 = .ok (.iload_n 1, 1) := by decide +kernel
theorem d_X8_readLeastOrMost_42 : decode m_X8_readLeastOrMost.2.1 42 = .ok (.invokevirtual 80, 3) := by decide +kernel
theorem d_X8_readLeastOrMost_45 : decode m_X8_readLeastOrMost.2.1 45 = .ok (.ifCond .eq 41, 3) := by decide +kernel
theorem d_X8_readLeastOrMost_48 : decode m_X8_readLeastOrMost.2.1 48 = .ok (.aload_n 0, 1) := by decide +kernel
theorem d_X8_readLeastOrMost_49 : decode m_X8_readLeastOrMost.2.1 49 = .ok (.iload_n 1, 1) := by decide +kernel
theorem d_X8_readLeastOrMost_50 : decode m_X8_readLeastOrMost.2.1 50 = .ok (.iconst 1, 1) := by decide +kernel
theorem d_X8_readLeastOrMost_51 : decode m_X8_readLeastOrMost.2.1 51 = .ok (.iadd, 1) := by decide +kernel
theorem d_X8_readLeastOrMost_52 : decode m_X8_readLeastOrMost.2.1 52 = .ok (.invokevirtual 35, 3) := by decide +kernel
theorem d_X8_readLeastOrMost_55 : decode m_X8_readLeastOrMost.2.1 55 = .ok (.ifCond .eq 31, 3) := by decide +kernel
theorem d_X8_readLeastOrMost_58 : decode m_X8_readLeastOrMost.2.1 58 = .ok (.aload_n 0, 1) := by decide +kernel
theorem d_X8_readLeastOrMost_59 : decode m_X8_readLeastOrMost.2.1 59 = .ok (.bipush 44, 2) := by decide +kernel
theorem d_X8_readLeastOrMost_61 : decode m_X8_readLeastOrMost.2.1 61 = .ok (.invokevirtual 53, 3) := by decide +kernel
theorem d_X8_readLeastOrMost_64 : decode m_X8_readLeastOrMost.2.1 64 = .ok (.ifCond .eq 22, 3) := by decide +kernel
theorem d_X8_readLeastOrMost_67 : decode m_X8_readLeastOrMost.2.1 67 = .ok (.aload_n 0, 1) := by decide +kernel
theorem d_X8_readLeastOrMost_68 : decode m_X8_readLeastOrMost.2.1 68 = .ok (.iload_n 1, 1) := by decide +kernel
theorem d_X8_readLeastOrMost_69 : decode m_X8_readLeastOrMost.2.1 69 = .ok (.iconst 1, 1) := by decide +kernel
theorem d_X8_readLeastOrMost_70 : decode m_X8_readLeastOrMost.2.1 70 = .ok (.iadd, 1) := by decide +kernel
theorem d_X8_readLeastOrMost_71 : decode m_X8_readLeastOrMost.2.1 71 = .ok (.invokevirtual 35, 3) := by decide +kernel
theorem d_X8_readLeastOrMost_74 : decode m_X8_readLeastOrMost.2.1 74 = .ok (.ifCond .eq 12, 3) := by decide +kernel
theorem d_X8_readLeastOrMost_77 : decode m_X8_readLeastOrMost.2.1 77 = .ok (.aload_n 0, 1) := by decide +kernel
theorem d_X8_readLeastOrMost_78 : decode m_X8_readLeastOrMost.2.1 78 = .ok (.bipush 41, 2) := by decide +kernel
theorem d_X8_readLeastOrMost_80 : decode m_X8_readLeastOrMost.2.1 80 = .ok (.invokevirtual 53, 3) := by decide +kernel
theorem d_X8_readLeastOrMost_83 : decode m_X8_readLeastOrMost.2.1 83 = .ok (.ifCond .ne 5, 3) := by decide +kernel
theorem d_X8_readLeastOrMost_86 : decode m_X8_readLeastOrMost.2.1 86 = .ok (.iconst 0, 1) := by decide +kernel
theorem d_X8_readLeastOrMost_87 : decode m_X8_readLeastOrMost.2.1 87 = .ok (.ireturn, 1) := by decide +kernel
theorem d_X8_readLeastOrMost_88 : decode m_X8_readLeastOrMost.2.1 88 = .ok (.aload_n 0, 1) := by decide +kernel
theorem d_X8_readLeastOrMost_89 : decode m_X8_readLeastOrMost.2.1 89 = .ok (.iload_n 2, 1) := by decide +kernel
theorem d_X8_readLeastOrMost_90 : decode m_X8_readLeastOrMost.2.1 90 = .ok (.ifCond .eq 8, 3) := by decide +kernel
theorem d_X8_readLeastOrMost_93 : decode m_X8_readLeastOrMost.2.1 93 = .ok (.bipush 7, 2) := by decide +kernel
theorem d_X8_readLeastOrMost_95 : decode m_X8_readLeastOrMost.2.1 95 = .ok (.goto 5, 3) := by decide +kernel
theorem d_X8_readLeastOrMost_98 : decode m_X8_readLeastOrMost.2.1 98 = .ok (.bipush 8, 2) := by decide +kernel
theorem d_X8_readLeastOrMost_100 : decode m_X8_readLeastOrMost.2.1 100 = .ok (.iconst 0, 1) := by decide +kernel
theorem d_X8_readLeastOrMost_101 : decode m_X8_readLeastOrMost.2.1 101 = .ok (.invokevirtual 46, 3) := by decide +kernel
theorem d_X8_readLeastOrMost_104 : decode m_X8_readLeastOrMost.2.1 104 = .ok (.iconst 1, 1) := by decide +kernel
theorem d_X8_readLeastOrMost_105 : decode m_X8_readLeastOrMost.2.1 105 = .ok (.ireturn, 1) := by decide +kernel
theorem d_X8_readOpen_0 : decode m_X8_readOpen.2.1 0 = .ok (.iload_n 1, 1) := by decide +kernel
theorem d_X8_readOpen_1 : decode m_X8_readOpen.2.1 1 = .ok (.bipush 6, 2) := by decide +kernel
theorem d_X8_readOpen_3 : decode m_X8_readOpen.2.1 3 = .ok (.if_icmp .ge 16, 3) := by decide +kernel
theorem d_X8_readOpen_6 : decode m_X8_readOpen.2.1 6 = .ok (.aload_n 0, 1) := by decide +kernel
theorem d_X8_readOpen_7 : decode m_X8_readOpen.2.1 7 = .ok (.bipush 40, 2) := by decide +kernel
theorem d_X8_readOpen_9 : decode m_X8_readOpen.2.1 9 = .ok (.invokevirtual 53, 3) := by decide +kernel
theorem d_X8_readOpen_12 : decode m_X8_readOpen.2.1 12 = .ok (.ifCond .eq 7, 3) := by decide +kernel
theorem d_X8_readOpen_15 : decode m_X8_readOpen.2.1 15 = .ok (.iconst 1, 1) := by decide +kernel
theorem d_X8_readOpen_16 : decode m_X8_readOpen.2.1 16 = .ok (.goto 4, 3) := by decide +kernel
theorem d_X8_readOpen_19 : decode m_X8_readOpen.2.1 19 = .ok (.iconst 0, 1) := by decide +kernel
theorem d_X8_readOpen_20 : decode m_X8_readOpen.2.1 20 = .ok (.ireturn, 1) := by decide +kernel
theorem d_X8_sign_0 : decode m_X8_sign.2.1 0 = .ok (.aload_n 0, 1) := by decide +kernel
theorem d_X8_sign_1 : decode m_X8_sign.2.1 1 = .ok (.getfield 26, 3) := by decide +kernel
theorem d_X8_sign_4 : decode m_X8_sign.2.1 4 = .ok (.aload_n 0, 1) := by decide +kernel
theorem d_X8_sign_5 : decode m_X8_sign.2.1 5 = .ok (.getfield 18, 3) := by decide +kernel
theorem d_X8_sign_8 : decode m_X8_sign.2.1 8 = .ok (.if_icmp .ge 17, 3) := by decide +kernel
theorem d_X8_sign_11 : decode m_X8_sign.2.1 11 = .ok (.aload_n 0, 1) := by decide +kernel
theorem d_X8_sign_12 : decode m_X8_sign.2.1 12 = .ok (.getfield 9, 3) := by decide +kernel
theorem d_X8_sign_15 : decode m_X8_sign.2.1 15 = .ok (.aload_n 0, 1) := by decide +kernel
theorem d_X8_sign_16 : decode m_X8_sign.2.1 16 = .ok (.getfield 26, 3) := by decide +kernel
theorem d_X8_sign_19 : decode m_X8_sign.2.1 19 = .ok (.invokestatic 93, 3) := by decide +kernel
theorem d_X8_sign_22 : decode m_X8_sign.2.1 22 = .ok (.goto 4, 3) := by decide +kernel
theorem d_X8_sign_25 : decode m_X8_sign.2.1 25 = .ok (.iconst 0, 1) := by decide +kernel
theorem d_X8_sign_26 : decode m_X8_sign.2.1 26 = .ok (.ireturn, 1) := by decide +kernel
theorem d_X8_accept_0 : decode m_X8_accept.2.1 0 = .ok (.aload_n 0, 1) := by decide +kernel
theorem d_X8_accept_1 : decode m_X8_accept.2.1 1 = .ok (.invokevirtual 42, 3) := by decide +kernel
theorem d_X8_accept_4 : decode m_X8_accept.2.1 4 = .ok (.iload_n 1, 1) := by decide +kernel
theorem d_X8_accept_5 : decode m_X8_accept.2.1 5 = .ok (.if_icmp .eq 5, 3) := by decide +kernel
theorem d_X8_accept_8 : decode m_X8_accept.2.1 8 = .ok (.iconst 0, 1) := by decide +kernel
theorem d_X8_accept_9 : decode m_X8_accept.2.1 9 = .ok (.ireturn, 1) := by decide +kernel
theorem d_X8_accept_10 : decode m_X8_accept.2.1 10 = .ok (.aload_n 0, 1) := by decide +kernel
theorem d_X8_accept_11 : decode m_X8_accept.2.1 11 = .ok (.dup, 1) := by decide +kernel
theorem d_X8_accept_12 : decode m_X8_accept.2.1 12 = .ok (.getfield 26, 3) := by decide +kernel
theorem d_X8_accept_15 : decode m_X8_accept.2.1 15 = .ok (.iconst 1, 1) := by decide +kernel
theorem d_X8_accept_16 : decode m_X8_accept.2.1 16 = .ok (.iadd, 1) := by decide +kernel
theorem d_X8_accept_17 : decode m_X8_accept.2.1 17 = .ok (.putfield 26, 3) := by decide +kernel
theorem d_X8_accept_20 : decode m_X8_accept.2.1 20 = .ok (.iconst 1, 1) := by decide +kernel
theorem d_X8_accept_21 : decode m_X8_accept.2.1 21 = .ok (.ireturn, 1) := by decide +kernel
theorem d_X8_isDigit_0 : decode m_X8_isDigit.2.1 0 = .ok (.iload_n 0, 1) := by decide +kernel
theorem d_X8_isDigit_1 : decode m_X8_isDigit.2.1 1 = .ok (.bipush 48, 2) := by decide +kernel
theorem d_X8_isDigit_3 : decode m_X8_isDigit.2.1 3 = .ok (.bipush 57, 2) := by decide +kernel
theorem d_X8_isDigit_5 : decode m_X8_isDigit.2.1 5 = .ok (.invokestatic 66, 3) := by decide +kernel
theorem d_X8_isDigit_8 : decode m_X8_isDigit.2.1 8 = .ok (.ireturn, 1) := by decide +kernel
theorem d_X8_emit_0 : decode m_X8_emit.2.1 0 = .ok (.aload_n 0, 1) := by decide +kernel
theorem d_X8_emit_1 : decode m_X8_emit.2.1 1 = .ok (.getfield 29, 3) := by decide +kernel
theorem d_X8_emit_4 : decode m_X8_emit.2.1 4 = .ok (.bipush 80, 2) := by decide +kernel
theorem d_X8_emit_6 : decode m_X8_emit.2.1 6 = .ok (.if_icmp .ge 29, 3) := by decide +kernel
theorem d_X8_emit_9 : decode m_X8_emit.2.1 9 = .ok (.aload_n 0, 1) := by decide +kernel
theorem d_X8_emit_10 : decode m_X8_emit.2.1 10 = .ok (.getfield 15, 3) := by decide +kernel
theorem d_X8_emit_13 : decode m_X8_emit.2.1 13 = .ok (.aload_n 0, 1) := by decide +kernel
theorem d_X8_emit_14 : decode m_X8_emit.2.1 14 = .ok (.getfield 29, 3) := by decide +kernel
theorem d_X8_emit_17 : decode m_X8_emit.2.1 17 = .ok (.iload_n 2, 1) := by decide +kernel
theorem d_X8_emit_18 : decode m_X8_emit.2.1 18 = .ok (.iconst 4, 1) := by decide +kernel
theorem d_X8_emit_19 : decode m_X8_emit.2.1 19 = .ok (.ishl, 1) := by decide +kernel
theorem d_X8_emit_20 : decode m_X8_emit.2.1 20 = .ok (.iload_n 1, 1) := by decide +kernel
theorem d_X8_emit_21 : decode m_X8_emit.2.1 21 = .ok (.ior, 1) := by decide +kernel
theorem d_X8_emit_22 : decode m_X8_emit.2.1 22 = .ok (.invokestatic 22, 3) := by decide +kernel
theorem d_X8_emit_25 : decode m_X8_emit.2.1 25 = .ok (.aload_n 0, 1) := by decide +kernel
theorem d_X8_emit_26 : decode m_X8_emit.2.1 26 = .ok (.dup, 1) := by decide +kernel
theorem d_X8_emit_27 : decode m_X8_emit.2.1 27 = .ok (.getfield 29, 3) := by decide +kernel
theorem d_X8_emit_30 : decode m_X8_emit.2.1 30 = .ok (.iconst 1, 1) := by decide +kernel
theorem d_X8_emit_31 : decode m_X8_emit.2.1 31 = .ok (.iadd, 1) := by decide +kernel
theorem d_X8_emit_32 : decode m_X8_emit.2.1 32 = .ok (.putfield 29, 3) := by decide +kernel
theorem d_X8_emit_35 : decode m_X8_emit.2.1 35 = .ok (.return_, 1) := by decide +kernel
theorem d_X8_emitOperand_0 : decode m_X8_emitOperand.2.1 0 = .ok (.aload_n 0, 1) := by decide +kernel
theorem d_X8_emitOperand_1 : decode m_X8_emitOperand.2.1 1 = .ok (.iconst 1, 1) := by decide +kernel
theorem d_X8_emitOperand_2 : decode m_X8_emitOperand.2.1 2 = .ok (.iload_n 1, 1) := by decide +kernel
theorem d_X8_emitOperand_3 : decode m_X8_emitOperand.2.1 3 = .ok (.invokevirtual 46, 3) := by decide +kernel
theorem d_X8_emitOperand_6 : decode m_X8_emitOperand.2.1 6 = .ok (.aload_n 0, 1) := by decide +kernel
theorem d_X8_emitOperand_7 : decode m_X8_emitOperand.2.1 7 = .ok (.dup, 1) := by decide +kernel
theorem d_X8_emitOperand_8 : decode m_X8_emitOperand.2.1 8 = .ok (.getfield 32, 3) := by decide +kernel
theorem d_X8_emitOperand_11 : decode m_X8_emitOperand.2.1 11 = .ok (.iconst 1, 1) := by decide +kernel
theorem d_X8_emitOperand_12 : decode m_X8_emitOperand.2.1 12 = .ok (.iload_n 1, 1) := by decide +kernel
theorem d_X8_emitOperand_13 : decode m_X8_emitOperand.2.1 13 = .ok (.ishl, 1) := by decide +kernel
theorem d_X8_emitOperand_14 : decode m_X8_emitOperand.2.1 14 = .ok (.ior, 1) := by decide +kernel
theorem d_X8_emitOperand_15 : decode m_X8_emitOperand.2.1 15 = .ok (.putfield 32, 3) := by decide +kernel
theorem d_X8_emitOperand_18 : decode m_X8_emitOperand.2.1 18 = .ok (.return_, 1) := by decide +kernel
end
section
set_option maxRecDepth 20000
theorem d_X9_init_0 : decode m_X9_init.2.1 0 = .ok (.aload_n 0, 1) := by decide +kernel
theorem d_X9_init_1 : decode m_X9_init.2.1 1 = .ok (.invokespecial 3, 3) := by decide +kernel
theorem d_X9_init_4 : decode m_X9_init.2.1 4 = .ok (.aload_n 0, 1) := by decide +kernel
theorem d_X9_init_5 : decode m_X9_init.2.1 5 = .ok (.new 9, 3) := by decide +kernel
theorem d_X9_init_8 : decode m_X9_init.2.1 8 = .ok (.dup, 1) := by decide +kernel
theorem d_X9_init_9 : decode m_X9_init.2.1 9 = .ok (.invokespecial 11, 3) := by decide +kernel
theorem d_X9_init_12 : decode m_X9_init.2.1 12 = .ok (.putfield 12, 3) := by decide +kernel
theorem d_X9_init_15 : decode m_X9_init.2.1 15 = .ok (.aload_n 0, 1) := by decide +kernel
theorem d_X9_init_16 : decode m_X9_init.2.1 16 = .ok (.new 16, 3) := by decide +kernel
theorem d_X9_init_19 : decode m_X9_init.2.1 19 = .ok (.dup, 1) := by decide +kernel
theorem d_X9_init_20 : decode m_X9_init.2.1 20 = .ok (.invokespecial 18, 3) := by decide +kernel
theorem d_X9_init_23 : decode m_X9_init.2.1 23 = .ok (.putfield 19, 3) := by decide +kernel
theorem d_X9_init_26 : decode m_X9_init.2.1 26 = .ok (.aload_n 0, 1) := by decide +kernel
theorem d_X9_init_27 : decode m_X9_init.2.1 27 = .ok (.new 16, 3) := by decide +kernel
theorem d_X9_init_30 : decode m_X9_init.2.1 30 = .ok (.dup, 1) := by decide +kernel
theorem d_X9_init_31 : decode m_X9_init.2.1 31 = .ok (.invokespecial 18, 3) := by decide +kernel
theorem d_X9_init_34 : decode m_X9_init.2.1 34 = .ok (.putfield 23, 3) := by decide +kernel
theorem d_X9_init_37 : decode m_X9_init.2.1 37 = .ok (.aload_n 0, 1) := by decide +kernel
theorem d_X9_init_38 : decode m_X9_init.2.1 38 = .ok (.new 26, 3) := by decide +kernel
theorem d_X9_init_41 : decode m_X9_init.2.1 41 = .ok (.dup, 1) := by decide +kernel
theorem d_X9_init_42 : decode m_X9_init.2.1 42 = .ok (.invokespecial 28, 3) := by decide +kernel
theorem d_X9_init_45 : decode m_X9_init.2.1 45 = .ok (.putfield 29, 3) := by decide +kernel
theorem d_X9_init_48 : decode m_X9_init.2.1 48 = .ok (.aload_n 0, 1) := by decide +kernel
theorem d_X9_init_49 : decode m_X9_init.2.1 49 = .ok (.iconst 2, 1) := by decide +kernel
theorem d_X9_init_50 : decode m_X9_init.2.1 50 = .ok (.anewarray 16, 3) := by decide +kernel
theorem d_X9_init_53 : decode m_X9_init.2.1 53 = .ok (.putfield 33, 3) := by decide +kernel
theorem d_X9_init_56 : decode m_X9_init.2.1 56 = .ok (.aload_n 0, 1) := by decide +kernel
theorem d_X9_init_57 : decode m_X9_init.2.1 57 = .ok (.new 37, 3) := by decide +kernel
theorem d_X9_init_60 : decode m_X9_init.2.1 60 = .ok (.dup, 1) := by decide +kernel
theorem d_X9_init_61 : decode m_X9_init.2.1 61 = .ok (.invokespecial 39, 3) := by decide +kernel
theorem d_X9_init_64 : decode m_X9_init.2.1 64 = .ok (.putfield 40, 3) := by decide +kernel
theorem d_X9_init_67 : decode m_X9_init.2.1 67 = .ok (.return_, 1) := by decide +kernel
theorem d_X9_type_0 : decode m_X9_type.2.1 0 = .ok (.iload_n 1, 1) := by decide +kernel
theorem d_X9_type_1 : decode m_X9_type.2.1 1 = .ok (.bipush 33, 2) := by decide +kernel
theorem d_X9_type_3 : decode m_X9_type.2.1 3 = .ok (.bipush 126, 2) := by decide +kernel
theorem d_X9_type_5 : decode m_X9_type.2.1 5 = .ok (.invokestatic 44, 3) := by decide +kernel
theorem d_X9_type_8 : decode m_X9_type.2.1 8 = .ok (.ifCond .ne 6, 3) := by decide +kernel
theorem d_X9_type_11 : decode m_X9_type.2.1 11 = .ok (.ldc 48, 2) := by decide +kernel
theorem d_X9_type_13 : decode m_X9_type.2.1 13 = .ok (.ireturn, 1) := by decide +kernel
theorem d_X9_type_14 : decode m_X9_type.2.1 14 = .ok (.aload_n 0, 1) := by decide +kernel
theorem d_X9_type_15 : decode m_X9_type.2.1 15 = .ok (.getfield 12, 3) := by decide +kernel
theorem d_X9_type_18 : decode m_X9_type.2.1 18 = .ok (.iload_n 1, 1) := by decide +kernel
theorem d_X9_type_19 : decode m_X9_type.2.1 19 = .ok (.invokevirtual 49, 3) := by decide +kernel
theorem d_X9_type_22 : decode m_X9_type.2.1 22 = .ok (.ifCond .eq 13, 3) := by decide +kernel
theorem d_X9_type_25 : decode m_X9_type.2.1 25 = .ok (.aload_n 0, 1) := by decide +kernel
theorem d_X9_type_26 : decode m_X9_type.2.1 26 = .ok (.getfield 12, 3) := by decide +kernel
theorem d_X9_type_29 : decode m_X9_type.2.1 29 = .ok (.getfield 53, 3) := by decide +kernel
theorem d_X9_type_32 : decode m_X9_type.2.1 32 = .ok (.goto 5, 3) := by decide +kernel
theorem d_X9_type_35 : decode m_X9_type.2.1 35 = .ok (.ldc 57, 2) := by decide +kernel
theorem d_X9_type_37 : decode m_X9_type.2.1 37 = .ok (.ireturn, 1) := by decide +kernel
theorem d_X9_wipe_0 : decode m_X9_wipe.2.1 0 = .ok (.aload_n 0, 1) := by decide +kernel
theorem d_X9_wipe_1 : decode m_X9_wipe.2.1 1 = .ok (.getfield 12, 3) := by decide +kernel
theorem d_X9_wipe_4 : decode m_X9_wipe.2.1 4 = .ok (.getfield 53, 3) := by decide +kernel
theorem d_X9_wipe_7 : decode m_X9_wipe.2.1 7 = .ok (.istore_n 1, 1) := by decide +kernel
theorem d_X9_wipe_8 : decode m_X9_wipe.2.1 8 = .ok (.aload_n 0, 1) := by decide +kernel
theorem d_X9_wipe_9 : decode m_X9_wipe.2.1 9 = .ok (.getfield 12, 3) := by decide +kernel
theorem d_X9_wipe_12 : decode m_X9_wipe.2.1 12 = .ok (.invokevirtual 58, 3) := by decide +kernel
theorem d_X9_wipe_15 : decode m_X9_wipe.2.1 15 = .ok (.iload_n 1, 1) := by decide +kernel
theorem d_X9_wipe_16 : decode m_X9_wipe.2.1 16 = .ok (.ireturn, 1) := by decide +kernel
theorem d_X9_fault_0 : decode m_X9_fault.2.1 0 = .ok (.aload_n 0, 1) := by decide +kernel
theorem d_X9_fault_1 : decode m_X9_fault.2.1 1 = .ok (.getfield 12, 3) := by decide +kernel
theorem d_X9_fault_4 : decode m_X9_fault.2.1 4 = .ok (.invokevirtual 61, 3) := by decide +kernel
theorem d_X9_fault_7 : decode m_X9_fault.2.1 7 = .ok (.istore_n 1, 1) := by decide +kernel
theorem d_X9_fault_8 : decode m_X9_fault.2.1 8 = .ok (.iload_n 1, 1) := by decide +kernel
theorem d_X9_fault_9 : decode m_X9_fault.2.1 9 = .ok (.iconst (-1), 1) := by decide +kernel
theorem d_X9_fault_10 : decode m_X9_fault.2.1 10 = .ok (.if_icmp .ne 8, 3) := by decide +kernel
theorem d_X9_fault_13 : decode m_X9_fault.2.1 13 = .ok (.ldc 65, 2) := by decide +kernel
theorem d_X9_fault_15 : decode m_X9_fault.2.1 15 = .ok (.goto 4, 3) := by decide +kernel
theorem d_X9_fault_18 : decode m_X9_fault.2.1 18 = .ok (.iload_n 1, 1) := by decide +kernel
theorem d_X9_fault_19 : decode m_X9_fault.2.1 19 = .ok (.ireturn, 1) := by decide +kernel
theorem d_X9_right_0 : decode m_X9_right.2.1 0 = .ok (.iload_n 1, 1) := by decide +kernel
theorem d_X9_right_1 : decode m_X9_right.2.1 1 = .ok (.invokestatic 66, 3) := by decide +kernel
theorem d_X9_right_4 : decode m_X9_right.2.1 4 = .ok (.ifCond .ne 6, 3) := by decide +kernel
theorem d_X9_right_7 : decode m_X9_right.2.1 7 = .ok (.ldc 48, 2) := by decide +kernel
theorem d_X9_right_9 : decode m_X9_right.2.1 9 = .ok (.ireturn, 1) := by decide +kernel
theorem d_X9_right_10 : decode m_X9_right.2.1 10 = .ok (.aload_n 0, 1) := by decide +kernel
theorem d_X9_right_11 : decode m_X9_right.2.1 11 = .ok (.getfield 12, 3) := by decide +kernel
theorem d_X9_right_14 : decode m_X9_right.2.1 14 = .ok (.invokevirtual 61, 3) := by decide +kernel
theorem d_X9_right_17 : decode m_X9_right.2.1 17 = .ok (.iconst (-1), 1) := by decide +kernel
theorem d_X9_right_18 : decode m_X9_right.2.1 18 = .ok (.if_icmp .eq 6, 3) := by decide +kernel
theorem d_X9_right_21 : decode m_X9_right.2.1 21 = .ok (.ldc 69, 2) := by decide +kernel
theorem d_X9_right_23 : decode m_X9_right.2.1 23 = .ok (.ireturn, 1) := by decide +kernel
theorem d_X9_right_24 : decode m_X9_right.2.1 24 = .ok (.aload_n 0, 1) := by decide +kernel
theorem d_X9_right_25 : decode m_X9_right.2.1 25 = .ok (.getfield 29, 3) := by decide +kernel
theorem d_X9_right_28 : decode m_X9_right.2.1 28 = .ok (.aload_n 0, 1) := by decide +kernel
theorem d_X9_right_29 : decode m_X9_right.2.1 29 = .ok (.getfield 19, 3) := by decide +kernel
theorem d_X9_right_32 : decode m_X9_right.2.1 32 = .ok (.invokevirtual 70, 3) := by decide +kernel
theorem d_X9_right_35 : decode m_X9_right.2.1 35 = .ok (.aload_n 0, 1) := by decide +kernel
theorem d_X9_right_36 : decode m_X9_right.2.1 36 = .ok (.getfield 19, 3) := by decide +kernel
theorem d_X9_right_39 : decode m_X9_right.2.1 39 = .ok (.getfield 74, 3) := by decide +kernel
theorem d_X9_right_42 : decode m_X9_right.2.1 42 = .ok (.iload_n 1, 1) := by decide +kernel
theorem d_X9_right_43 : decode m_X9_right.2.1 43 = .ok (.aload_n 0, 1) := by decide +kernel
theorem d_X9_right_44 : decode m_X9_right.2.1 44 = .ok (.getfield 12, 3) := by decide +kernel
theorem d_X9_right_47 : decode m_X9_right.2.1 47 = .ok (.invokevirtual 78, 3) := by decide +kernel
theorem d_X9_right_50 : decode m_X9_right.2.1 50 = .ok (.aload_n 0, 1) := by decide +kernel
theorem d_X9_right_51 : decode m_X9_right.2.1 51 = .ok (.getfield 19, 3) := by decide +kernel
theorem d_X9_right_54 : decode m_X9_right.2.1 54 = .ok (.invokevirtual 84, 3) := by decide +kernel
theorem d_X9_right_57 : decode m_X9_right.2.1 57 = .ok (.aload_n 0, 1) := by decide +kernel
theorem d_X9_right_58 : decode m_X9_right.2.1 58 = .ok (.getfield 12, 3) := by decide +kernel
theorem d_X9_right_61 : decode m_X9_right.2.1 61 = .ok (.invokevirtual 58, 3) := by decide +kernel
theorem d_X9_right_64 : decode m_X9_right.2.1 64 = .ok (.aload_n 0, 1) := by decide +kernel
theorem d_X9_right_65 : decode m_X9_right.2.1 65 = .ok (.getfield 19, 3) := by decide +kernel
theorem d_X9_right_68 : decode m_X9_right.2.1 68 = .ok (.getfield 74, 3) := by decide +kernel
theorem d_X9_right_71 : decode m_X9_right.2.1 71 = .ok (.getfield 87, 3) := by decide +kernel
theorem d_X9_right_74 : decode m_X9_right.2.1 74 = .ok (.iload_n 1, 1) := by decide +kernel
theorem d_X9_right_75 : decode m_X9_right.2.1 75 = .ok (.invokestatic 91, 3) := by decide +kernel
theorem d_X9_right_78 : decode m_X9_right.2.1 78 = .ok (.invokestatic 95, 3) := by decide +kernel
theorem d_X9_right_81 : decode m_X9_right.2.1 81 = .ok (.ireturn, 1) := by decide +kernel
theorem d_X9_delay_0 : decode m_X9_delay.2.1 0 = .ok (.iload_n 1, 1) := by decide +kernel
theorem d_X9_delay_1 : decode m_X9_delay.2.1 1 = .ok (.invokestatic 99, 3) := by decide +kernel
theorem d_X9_delay_4 : decode m_X9_delay.2.1 4 = .ok (.ifCond .eq 27, 3) := by decide +kernel
theorem d_X9_delay_7 : decode m_X9_delay.2.1 7 = .ok (.iload_n 2, 1) := by decide +kernel
theorem d_X9_delay_8 : decode m_X9_delay.2.1 8 = .ok (.iconst 0, 1) := by decide +kernel
theorem d_X9_delay_9 : decode m_X9_delay.2.1 9 = .ok (.sipush 5000, 3) := by decide +kernel
theorem d_X9_delay_12 : decode m_X9_delay.2.1 12 = .ok (.invokestatic 44, 3) := by decide +kernel
theorem d_X9_delay_15 : decode m_X9_delay.2.1 15 = .ok (.ifCond .eq 16, 3) := by decide +kernel
theorem d_X9_delay_18 : decode m_X9_delay.2.1 18 = .ok (.iload_n 3, 1) := by decide +kernel
theorem d_X9_delay_19 : decode m_X9_delay.2.1 19 = .ok (.sipush (-900), 3) := by decide +kernel
theorem d_X9_delay_22 : decode m_X9_delay.2.1 22 = .ok (.sipush 900, 3) := by decide +kernel
theorem d_X9_delay_25 : decode m_X9_delay.2.1 25 = .ok (.invokestatic 44, 3) := by decide +kernel
theorem d_X9_delay_28 : decode m_X9_delay.2.1 28 = .ok (.ifCond .ne 6, 3) := by decide +kernel
theorem d_X9_delay_31 : decode m_X9_delay.2.1 31 = .ok (.ldc 48, 2) := by decide +kernel
theorem d_X9_delay_33 : decode m_X9_delay.2.1 33 = .ok (.ireturn, 1) := by decide +kernel
theorem d_X9_delay_34 : decode m_X9_delay.2.1 34 = .ok (.aload_n 0, 1) := by decide +kernel
theorem d_X9_delay_35 : decode m_X9_delay.2.1 35 = .ok (.getfield 29, 3) := by decide +kernel
theorem d_X9_delay_38 : decode m_X9_delay.2.1 38 = .ok (.aload_n 0, 1) := by decide +kernel
theorem d_X9_delay_39 : decode m_X9_delay.2.1 39 = .ok (.getfield 19, 3) := by decide +kernel
theorem d_X9_delay_42 : decode m_X9_delay.2.1 42 = .ok (.invokevirtual 70, 3) := by decide +kernel
theorem d_X9_delay_45 : decode m_X9_delay.2.1 45 = .ok (.aload_n 0, 1) := by decide +kernel
theorem d_X9_delay_46 : decode m_X9_delay.2.1 46 = .ok (.getfield 19, 3) := by decide +kernel
theorem d_X9_delay_49 : decode m_X9_delay.2.1 49 = .ok (.getfield 102, 3) := by decide +kernel
theorem d_X9_delay_52 : decode m_X9_delay.2.1 52 = .ok (.getfield 106, 3) := by decide +kernel
theorem d_X9_delay_55 : decode m_X9_delay.2.1 55 = .ok (.iload_n 1, 1) := by decide +kernel
theorem d_X9_delay_56 : decode m_X9_delay.2.1 56 = .ok (.invokestatic 91, 3) := by decide +kernel
theorem d_X9_delay_59 : decode m_X9_delay.2.1 59 = .ok (.istore 4, 2) := by decide +kernel
theorem d_X9_delay_61 : decode m_X9_delay.2.1 61 = .ok (.aload_n 0, 1) := by decide +kernel
theorem d_X9_delay_62 : decode m_X9_delay.2.1 62 = .ok (.getfield 19, 3) := by decide +kernel
theorem d_X9_delay_65 : decode m_X9_delay.2.1 65 = .ok (.getfield 102, 3) := by decide +kernel
theorem d_X9_delay_68 : decode m_X9_delay.2.1 68 = .ok (.getfield 106, 3) := by decide +kernel
theorem d_X9_delay_71 : decode m_X9_delay.2.1 71 = .ok (.iload_n 1, 1) := by decide +kernel
theorem d_X9_delay_72 : decode m_X9_delay.2.1 72 = .ok (.iload_n 2, 1) := by decide +kernel
theorem d_X9_delay_73 : decode m_X9_delay.2.1 73 = .ok (.invokestatic 111, 3) := by decide +kernel
theorem d_X9_delay_76 : decode m_X9_delay.2.1 76 = .ok (.aload_n 0, 1) := by decide +kernel
theorem d_X9_delay_77 : decode m_X9_delay.2.1 77 = .ok (.getfield 19, 3) := by decide +kernel
theorem d_X9_delay_80 : decode m_X9_delay.2.1 80 = .ok (.getfield 102, 3) := by decide +kernel
theorem d_X9_delay_83 : decode m_X9_delay.2.1 83 = .ok (.getfield 115, 3) := by decide +kernel
theorem d_X9_delay_86 : decode m_X9_delay.2.1 86 = .ok (.iload_n 1, 1) := by decide +kernel
theorem d_X9_delay_87 : decode m_X9_delay.2.1 87 = .ok (.iload_n 3, 1) := by decide +kernel
theorem d_X9_delay_88 : decode m_X9_delay.2.1 88 = .ok (.invokestatic 111, 3) := by decide +kernel
theorem d_X9_delay_91 : decode m_X9_delay.2.1 91 = .ok (.aload_n 0, 1) := by decide +kernel
theorem d_X9_delay_92 : decode m_X9_delay.2.1 92 = .ok (.getfield 19, 3) := by decide +kernel
theorem d_X9_delay_95 : decode m_X9_delay.2.1 95 = .ok (.invokevirtual 84, 3) := by decide +kernel
theorem d_X9_delay_98 : decode m_X9_delay.2.1 98 = .ok (.iload 4, 2) := by decide +kernel
theorem d_X9_delay_100 : decode m_X9_delay.2.1 100 = .ok (.ireturn, 1) := by decide +kernel
theorem d_X9_point_0 : decode m_X9_point.2.1 0 = .ok (.iload_n 1, 1) := by decide +kernel
theorem d_X9_point_1 : decode m_X9_point.2.1 1 = .ok (.invokestatic 66, 3) := by decide +kernel
theorem d_X9_point_4 : decode m_X9_point.2.1 4 = .ok (.ifCond .eq 25, 3) := by decide +kernel
theorem d_X9_point_7 : decode m_X9_point.2.1 7 = .ok (.iload_n 2, 1) := by decide +kernel
theorem d_X9_point_8 : decode m_X9_point.2.1 8 = .ok (.sipush (-10000), 3) := by decide +kernel
theorem d_X9_point_11 : decode m_X9_point.2.1 11 = .ok (.iconst 0, 1) := by decide +kernel
theorem d_X9_point_12 : decode m_X9_point.2.1 12 = .ok (.invokestatic 44, 3) := by decide +kernel
theorem d_X9_point_15 : decode m_X9_point.2.1 15 = .ok (.ifCond .eq 14, 3) := by decide +kernel
theorem d_X9_point_18 : decode m_X9_point.2.1 18 = .ok (.iload_n 3, 1) := by decide +kernel
theorem d_X9_point_19 : decode m_X9_point.2.1 19 = .ok (.ldc 118, 2) := by decide +kernel
theorem d_X9_point_21 : decode m_X9_point.2.1 21 = .ok (.ldc 119, 2) := by decide +kernel
theorem d_X9_point_23 : decode m_X9_point.2.1 23 = .ok (.invokestatic 44, 3) := by decide +kernel
theorem d_X9_point_26 : decode m_X9_point.2.1 26 = .ok (.ifCond .ne 6, 3) := by decide +kernel
theorem d_X9_point_29 : decode m_X9_point.2.1 29 = .ok (.ldc 48, 2) := by decide +kernel
theorem d_X9_point_31 : decode m_X9_point.2.1 31 = .ok (.ireturn, 1) := by decide +kernel
theorem d_X9_point_32 : decode m_X9_point.2.1 32 = .ok (.aload_n 0, 1) := by decide +kernel
theorem d_X9_point_33 : decode m_X9_point.2.1 33 = .ok (.getfield 19, 3) := by decide +kernel
theorem d_X9_point_36 : decode m_X9_point.2.1 36 = .ok (.getfield 120, 3) := by decide +kernel
theorem d_X9_point_39 : decode m_X9_point.2.1 39 = .ok (.iload_n 1, 1) := by decide +kernel
theorem d_X9_point_40 : decode m_X9_point.2.1 40 = .ok (.iload_n 2, 1) := by decide +kernel
theorem d_X9_point_41 : decode m_X9_point.2.1 41 = .ok (.invokevirtual 124, 3) := by decide +kernel
theorem d_X9_point_44 : decode m_X9_point.2.1 44 = .ok (.ifCond .eq 6, 3) := by decide +kernel
theorem d_X9_point_47 : decode m_X9_point.2.1 47 = .ok (.ldc 69, 2) := by decide +kernel
theorem d_X9_point_49 : decode m_X9_point.2.1 49 = .ok (.ireturn, 1) := by decide +kernel
theorem d_X9_point_50 : decode m_X9_point.2.1 50 = .ok (.aload_n 0, 1) := by decide +kernel
theorem d_X9_point_51 : decode m_X9_point.2.1 51 = .ok (.getfield 19, 3) := by decide +kernel
theorem d_X9_point_54 : decode m_X9_point.2.1 54 = .ok (.getfield 120, 3) := by decide +kernel
theorem d_X9_point_57 : decode m_X9_point.2.1 57 = .ok (.getfield 130, 3) := by decide +kernel
theorem d_X9_point_60 : decode m_X9_point.2.1 60 = .ok (.iload_n 1, 1) := by decide +kernel
theorem d_X9_point_61 : decode m_X9_point.2.1 61 = .ok (.invokestatic 91, 3) := by decide +kernel
theorem d_X9_point_64 : decode m_X9_point.2.1 64 = .ok (.bipush 6, 2) := by decide +kernel
theorem d_X9_point_66 : decode m_X9_point.2.1 66 = .ok (.if_icmp .lt 6, 3) := by decide +kernel
theorem d_X9_point_69 : decode m_X9_point.2.1 69 = .ok (.ldc 57, 2) := by decide +kernel
theorem d_X9_point_71 : decode m_X9_point.2.1 71 = .ok (.ireturn, 1) := by decide +kernel
theorem d_X9_point_72 : decode m_X9_point.2.1 72 = .ok (.aload_n 0, 1) := by decide +kernel
theorem d_X9_point_73 : decode m_X9_point.2.1 73 = .ok (.getfield 29, 3) := by decide +kernel
theorem d_X9_point_76 : decode m_X9_point.2.1 76 = .ok (.aload_n 0, 1) := by decide +kernel
theorem d_X9_point_77 : decode m_X9_point.2.1 77 = .ok (.getfield 19, 3) := by decide +kernel
theorem d_X9_point_80 : decode m_X9_point.2.1 80 = .ok (.invokevirtual 70, 3) := by decide +kernel
theorem d_X9_point_83 : decode m_X9_point.2.1 83 = .ok (.aload_n 0, 1) := by decide +kernel
theorem d_X9_point_84 : decode m_X9_point.2.1 84 = .ok (.getfield 19, 3) := by decide +kernel
theorem d_X9_point_87 : decode m_X9_point.2.1 87 = .ok (.getfield 120, 3) := by decide +kernel
theorem d_X9_point_90 : decode m_X9_point.2.1 90 = .ok (.iload_n 1, 1) := by decide +kernel
theorem d_X9_point_91 : decode m_X9_point.2.1 91 = .ok (.iload_n 2, 1) := by decide +kernel
theorem d_X9_point_92 : decode m_X9_point.2.1 92 = .ok (.iload_n 3, 1) := by decide +kernel
theorem d_X9_point_93 : decode m_X9_point.2.1 93 = .ok (.invokevirtual 133, 3) := by decide +kernel
theorem d_X9_point_96 : decode m_X9_point.2.1 96 = .ok (.aload_n 0, 1) := by decide +kernel
theorem d_X9_point_97 : decode m_X9_point.2.1 97 = .ok (.getfield 19, 3) := by decide +kernel
theorem d_X9_point_100 : decode m_X9_point.2.1 100 = .ok (.invokevirtual 84, 3) := by decide +kernel
theorem d_X9_point_103 : decode m_X9_point.2.1 103 = .ok (.aload_n 0, 1) := by decide +kernel
theorem d_X9_point_104 : decode m_X9_point.2.1 104 = .ok (.getfield 19, 3) := by decide +kernel
theorem d_X9_point_107 : decode m_X9_point.2.1 107 = .ok (.getfield 120, 3) := by decide +kernel
theorem d_X9_point_110 : decode m_X9_point.2.1 110 = .ok (.getfield 130, 3) := by decide +kernel
theorem d_X9_point_113 : decode m_X9_point.2.1 113 = .ok (.iload_n 1, 1) := by decide +kernel
theorem d_X9_point_114 : decode m_X9_point.2.1 114 = .ok (.invokestatic 91, 3) := by decide +kernel
theorem d_X9_point_117 : decode m_X9_point.2.1 117 = .ok (.ireturn, 1) := by decide +kernel
theorem d_X9_clear_0 : decode m_X9_clear.2.1 0 = .ok (.iload_n 1, 1) := by decide +kernel
theorem d_X9_clear_1 : decode m_X9_clear.2.1 1 = .ok (.invokestatic 66, 3) := by decide +kernel
theorem d_X9_clear_4 : decode m_X9_clear.2.1 4 = .ok (.ifCond .ne 6, 3) := by decide +kernel
theorem d_X9_clear_7 : decode m_X9_clear.2.1 7 = .ok (.ldc 48, 2) := by decide +kernel
theorem d_X9_clear_9 : decode m_X9_clear.2.1 9 = .ok (.ireturn, 1) := by decide +kernel
theorem d_X9_clear_10 : decode m_X9_clear.2.1 10 = .ok (.aload_n 0, 1) := by decide +kernel
theorem d_X9_clear_11 : decode m_X9_clear.2.1 11 = .ok (.getfield 29, 3) := by decide +kernel
theorem d_X9_clear_14 : decode m_X9_clear.2.1 14 = .ok (.aload_n 0, 1) := by decide +kernel
theorem d_X9_clear_15 : decode m_X9_clear.2.1 15 = .ok (.getfield 19, 3) := by decide +kernel
theorem d_X9_clear_18 : decode m_X9_clear.2.1 18 = .ok (.invokevirtual 70, 3) := by decide +kernel
theorem d_X9_clear_21 : decode m_X9_clear.2.1 21 = .ok (.aload_n 0, 1) := by decide +kernel
theorem d_X9_clear_22 : decode m_X9_clear.2.1 22 = .ok (.getfield 19, 3) := by decide +kernel
theorem d_X9_clear_25 : decode m_X9_clear.2.1 25 = .ok (.getfield 120, 3) := by decide +kernel
theorem d_X9_clear_28 : decode m_X9_clear.2.1 28 = .ok (.getfield 130, 3) := by decide +kernel
theorem d_X9_clear_31 : decode m_X9_clear.2.1 31 = .ok (.iload_n 1, 1) := by decide +kernel
theorem d_X9_clear_32 : decode m_X9_clear.2.1 32 = .ok (.invokestatic 91, 3) := by decide +kernel
theorem d_X9_clear_35 : decode m_X9_clear.2.1 35 = .ok (.istore_n 2, 1) := by decide +kernel
theorem d_X9_clear_36 : decode m_X9_clear.2.1 36 = .ok (.aload_n 0, 1) := by decide +kernel
theorem d_X9_clear_37 : decode m_X9_clear.2.1 37 = .ok (.getfield 19, 3) := by decide +kernel
theorem d_X9_clear_40 : decode m_X9_clear.2.1 40 = .ok (.getfield 120, 3) := by decide +kernel
theorem d_X9_clear_43 : decode m_X9_clear.2.1 43 = .ok (.getfield 130, 3) := by decide +kernel
theorem d_X9_clear_46 : decode m_X9_clear.2.1 46 = .ok (.iload_n 1, 1) := by decide +kernel
theorem d_X9_clear_47 : decode m_X9_clear.2.1 47 = .ok (.iconst 0, 1) := by decide +kernel
theorem d_X9_clear_48 : decode m_X9_clear.2.1 48 = .ok (.invokestatic 111, 3) := by decide +kernel
theorem d_X9_clear_51 : decode m_X9_clear.2.1 51 = .ok (.aload_n 0, 1) := by decide +kernel
theorem d_X9_clear_52 : decode m_X9_clear.2.1 52 = .ok (.getfield 19, 3) := by decide +kernel
theorem d_X9_clear_55 : decode m_X9_clear.2.1 55 = .ok (.invokevirtual 84, 3) := by decide +kernel
theorem d_X9_clear_58 : decode m_X9_clear.2.1 58 = .ok (.iload_n 2, 1) := by decide +kernel
theorem d_X9_clear_59 : decode m_X9_clear.2.1 59 = .ok (.ireturn, 1) := by decide +kernel
theorem d_X9_set_0 : decode m_X9_set.2.1 0 = .ok (.iload_n 1, 1) := by decide +kernel
theorem d_X9_set_1 : decode m_X9_set.2.1 1 = .ok (.iconst 0, 1) := by decide +kernel
theorem d_X9_set_2 : decode m_X9_set.2.1 2 = .ok (.iconst 2, 1) := by decide +kernel
theorem d_X9_set_3 : decode m_X9_set.2.1 3 = .ok (.invokestatic 44, 3) := by decide +kernel
theorem d_X9_set_6 : decode m_X9_set.2.1 6 = .ok (.ifCond .eq 24, 3) := by decide +kernel
theorem d_X9_set_9 : decode m_X9_set.2.1 9 = .ok (.iload_n 2, 1) := by decide +kernel
theorem d_X9_set_10 : decode m_X9_set.2.1 10 = .ok (.getstatic 137, 3) := by decide +kernel
theorem d_X9_set_13 : decode m_X9_set.2.1 13 = .ok (.iload_n 1, 1) := by decide +kernel
theorem d_X9_set_14 : decode m_X9_set.2.1 14 = .ok (.invokestatic 91, 3) := by decide +kernel
theorem d_X9_set_17 : decode m_X9_set.2.1 17 = .ok (.getstatic 140, 3) := by decide +kernel
theorem d_X9_set_20 : decode m_X9_set.2.1 20 = .ok (.iload_n 1, 1) := by decide +kernel
theorem d_X9_set_21 : decode m_X9_set.2.1 21 = .ok (.invokestatic 91, 3) := by decide +kernel
theorem d_X9_set_24 : decode m_X9_set.2.1 24 = .ok (.invokestatic 44, 3) := by decide +kernel
theorem d_X9_set_27 : decode m_X9_set.2.1 27 = .ok (.ifCond .ne 6, 3) := by decide +kernel
theorem d_X9_set_30 : decode m_X9_set.2.1 30 = .ok (.ldc 48, 2) := by decide +kernel
theorem d_X9_set_32 : decode m_X9_set.2.1 32 = .ok (.ireturn, 1) := by decide +kernel
theorem d_X9_set_33 : decode m_X9_set.2.1 33 = .ok (.aload_n 0, 1) := by decide +kernel
theorem d_X9_set_34 : decode m_X9_set.2.1 34 = .ok (.getfield 29, 3) := by decide +kernel
theorem d_X9_set_37 : decode m_X9_set.2.1 37 = .ok (.aload_n 0, 1) := by decide +kernel
theorem d_X9_set_38 : decode m_X9_set.2.1 38 = .ok (.getfield 19, 3) := by decide +kernel
theorem d_X9_set_41 : decode m_X9_set.2.1 41 = .ok (.invokevirtual 70, 3) := by decide +kernel
theorem d_X9_set_44 : decode m_X9_set.2.1 44 = .ok (.aload_n 0, 1) := by decide +kernel
theorem d_X9_set_45 : decode m_X9_set.2.1 45 = .ok (.getfield 19, 3) := by decide +kernel
theorem d_X9_set_48 : decode m_X9_set.2.1 48 = .ok (.getfield 143, 3) := by decide +kernel
theorem d_X9_set_51 : decode m_X9_set.2.1 51 = .ok (.iload_n 1, 1) := by decide +kernel
theorem d_X9_set_52 : decode m_X9_set.2.1 52 = .ok (.invokestatic 91, 3) := by decide +kernel
theorem d_X9_set_55 : decode m_X9_set.2.1 55 = .ok (.istore_n 3, 1) := by decide +kernel
theorem d_X9_set_56 : decode m_X9_set.2.1 56 = .ok (.aload_n 0, 1) := by decide +kernel
theorem d_X9_set_57 : decode m_X9_set.2.1 57 = .ok (.getfield 19, 3) := by decide +kernel
theorem d_X9_set_60 : decode m_X9_set.2.1 60 = .ok (.getfield 143, 3) := by decide +kernel
theorem d_X9_set_63 : decode m_X9_set.2.1 63 = .ok (.iload_n 1, 1) := by decide +kernel
theorem d_X9_set_64 : decode m_X9_set.2.1 64 = .ok (.iload_n 2, 1) := by decide +kernel
theorem d_X9_set_65 : decode m_X9_set.2.1 65 = .ok (.invokestatic 111, 3) := by decide +kernel
theorem d_X9_set_68 : decode m_X9_set.2.1 68 = .ok (.aload_n 0, 1) := by decide +kernel
theorem d_X9_set_69 : decode m_X9_set.2.1 69 = .ok (.getfield 19, 3) := by decide +kernel
theorem d_X9_set_72 : decode m_X9_set.2.1 72 = .ok (.invokevirtual 84, 3) := by decide +kernel
theorem d_X9_set_75 : decode m_X9_set.2.1 75 = .ok (.iload_n 3, 1) := by decide +kernel
theorem d_X9_set_76 : decode m_X9_set.2.1 76 = .ok (.ireturn, 1) := by decide +kernel
theorem d_X9_lag_0 : decode m_X9_lag.2.1 0 = .ok (.iload_n 1, 1) := by decide +kernel
theorem d_X9_lag_1 : decode m_X9_lag.2.1 1 = .ok (.invokestatic 99, 3) := by decide +kernel
theorem d_X9_lag_4 : decode m_X9_lag.2.1 4 = .ok (.ifCond .eq 14, 3) := by decide +kernel
theorem d_X9_lag_7 : decode m_X9_lag.2.1 7 = .ok (.iload_n 2, 1) := by decide +kernel
theorem d_X9_lag_8 : decode m_X9_lag.2.1 8 = .ok (.iconst 0, 1) := by decide +kernel
theorem d_X9_lag_9 : decode m_X9_lag.2.1 9 = .ok (.sipush 8000, 3) := by decide +kernel
theorem d_X9_lag_12 : decode m_X9_lag.2.1 12 = .ok (.invokestatic 44, 3) := by decide +kernel
theorem d_X9_lag_15 : decode m_X9_lag.2.1 15 = .ok (.ifCond .ne 6, 3) := by decide +kernel
theorem d_X9_lag_18 : decode m_X9_lag.2.1 18 = .ok (.ldc 48, 2) := by decide +kernel
theorem d_X9_lag_20 : decode m_X9_lag.2.1 20 = .ok (.ireturn, 1) := by decide +kernel
theorem d_X9_lag_21 : decode m_X9_lag.2.1 21 = .ok (.aload_n 0, 1) := by decide +kernel
theorem d_X9_lag_22 : decode m_X9_lag.2.1 22 = .ok (.getfield 19, 3) := by decide +kernel
theorem d_X9_lag_25 : decode m_X9_lag.2.1 25 = .ok (.getfield 102, 3) := by decide +kernel
theorem d_X9_lag_28 : decode m_X9_lag.2.1 28 = .ok (.iload_n 1, 1) := by decide +kernel
theorem d_X9_lag_29 : decode m_X9_lag.2.1 29 = .ok (.iload_n 2, 1) := by decide +kernel
theorem d_X9_lag_30 : decode m_X9_lag.2.1 30 = .ok (.invokevirtual 146, 3) := by decide +kernel
theorem d_X9_lag_33 : decode m_X9_lag.2.1 33 = .ok (.ireturn, 1) := by decide +kernel
theorem d_X9_breakAt_0 : decode m_X9_breakAt.2.1 0 = .ok (.iload_n 1, 1) := by decide +kernel
theorem d_X9_breakAt_1 : decode m_X9_breakAt.2.1 1 = .ok (.ifCond .lt 12, 3) := by decide +kernel
theorem d_X9_breakAt_4 : decode m_X9_breakAt.2.1 4 = .ok (.iload_n 2, 1) := by decide +kernel
theorem d_X9_breakAt_5 : decode m_X9_breakAt.2.1 5 = .ok (.iconst 0, 1) := by decide +kernel
theorem d_X9_breakAt_6 : decode m_X9_breakAt.2.1 6 = .ok (.iconst 2, 1) := by decide +kernel
theorem d_X9_breakAt_7 : decode m_X9_breakAt.2.1 7 = .ok (.invokestatic 44, 3) := by decide +kernel
theorem d_X9_breakAt_10 : decode m_X9_breakAt.2.1 10 = .ok (.ifCond .ne 6, 3) := by decide +kernel
theorem d_X9_breakAt_13 : decode m_X9_breakAt.2.1 13 = .ok (.ldc 48, 2) := by decide +kernel
theorem d_X9_breakAt_15 : decode m_X9_breakAt.2.1 15 = .ok (.ireturn, 1) := by decide +kernel
theorem d_X9_breakAt_16 : decode m_X9_breakAt.2.1 16 = .ok (.aload_n 0, 1) := by decide +kernel
theorem d_X9_breakAt_17 : decode m_X9_breakAt.2.1 17 = .ok (.getfield 19, 3) := by decide +kernel
theorem d_X9_breakAt_20 : decode m_X9_breakAt.2.1 20 = .ok (.getfield 150, 3) := by decide +kernel
theorem d_X9_breakAt_23 : decode m_X9_breakAt.2.1 23 = .ok (.astore_n 3, 1) := by decide +kernel
theorem d_X9_breakAt_24 : decode m_X9_breakAt.2.1 24 = .ok (.iload_n 1, 1) := by decide +kernel
theorem d_X9_breakAt_25 : decode m_X9_breakAt.2.1 25 = .ok (.aload_n 3, 1) := by decide +kernel
theorem d_X9_breakAt_26 : decode m_X9_breakAt.2.1 26 = .ok (.getfield 154, 3) := by decide +kernel
theorem d_X9_breakAt_29 : decode m_X9_breakAt.2.1 29 = .ok (.if_icmp .ge 12, 3) := by decide +kernel
theorem d_X9_breakAt_32 : decode m_X9_breakAt.2.1 32 = .ok (.iload_n 1, 1) := by decide +kernel
theorem d_X9_breakAt_33 : decode m_X9_breakAt.2.1 33 = .ok (.ifCond .ne 11, 3) := by decide +kernel
theorem d_X9_breakAt_36 : decode m_X9_breakAt.2.1 36 = .ok (.iload_n 2, 1) := by decide +kernel
theorem d_X9_breakAt_37 : decode m_X9_breakAt.2.1 37 = .ok (.iconst 2, 1) := by decide +kernel
theorem d_X9_breakAt_38 : decode m_X9_breakAt.2.1 38 = .ok (.if_icmp .ne 6, 3) := by decide +kernel
theorem d_X9_breakAt_41 : decode m_X9_breakAt.2.1 41 = .ok (.ldc 65, 2) := by decide +kernel
theorem d_X9_breakAt_43 : decode m_X9_breakAt.2.1 43 = .ok (.ireturn, 1) := by decide +kernel
theorem d_X9_breakAt_44 : decode m_X9_breakAt.2.1 44 = .ok (.iload_n 2, 1) := by decide +kernel
theorem d_X9_breakAt_45 : decode m_X9_breakAt.2.1 45 = .ok (.lookupswitch 45 #[(0, 27), (1, 36)], 27) := by decide +kernel
theorem d_X9_breakAt_72 : decode m_X9_breakAt.2.1 72 = .ok (.aload_n 3, 1) := by decide +kernel
theorem d_X9_breakAt_73 : decode m_X9_breakAt.2.1 73 = .ok (.getfield 159, 3) := by decide +kernel
theorem d_X9_breakAt_76 : decode m_X9_breakAt.2.1 76 = .ok (.iload_n 1, 1) := by decide +kernel
theorem d_X9_breakAt_77 : decode m_X9_breakAt.2.1 77 = .ok (.invokestatic 91, 3) := by decide +kernel
theorem d_X9_breakAt_80 : decode m_X9_breakAt.2.1 80 = .ok (.ireturn, 1) := by decide +kernel
theorem d_X9_breakAt_81 : decode m_X9_breakAt.2.1 81 = .ok (.aload_n 3, 1) := by decide +kernel
theorem d_X9_breakAt_82 : decode m_X9_breakAt.2.1 82 = .ok (.getfield 162, 3) := by decide +kernel
theorem d_X9_breakAt_85 : decode m_X9_breakAt.2.1 85 = .ok (.iload_n 1, 1) := by decide +kernel
theorem d_X9_breakAt_86 : decode m_X9_breakAt.2.1 86 = .ok (.invokestatic 91, 3) := by decide +kernel
theorem d_X9_breakAt_89 : decode m_X9_breakAt.2.1 89 = .ok (.ireturn, 1) := by decide +kernel
theorem d_X9_breakAt_90 : decode m_X9_breakAt.2.1 90 = .ok (.aload_n 3, 1) := by decide +kernel
theorem d_X9_breakAt_91 : decode m_X9_breakAt.2.1 91 = .ok (.getfield 165, 3) := by decide +kernel
theorem d_X9_breakAt_94 : decode m_X9_breakAt.2.1 94 = .ok (.iload_n 1, 1) := by decide +kernel
theorem d_X9_breakAt_95 : decode m_X9_breakAt.2.1 95 = .ok (.invokestatic 91, 3) := by decide +kernel
theorem d_X9_breakAt_98 : decode m_X9_breakAt.2.1 98 = .ok (.ireturn, 1) := by decide +kernel
theorem d_X9_solve_0 : decode m_X9_solve.2.1 0 = .ok (.iload_n 1, 1) := by decide +kernel
theorem d_X9_solve_1 : decode m_X9_solve.2.1 1 = .ok (.iconst 1, 1) := by decide +kernel
theorem d_X9_solve_2 : decode m_X9_solve.2.1 2 = .ok (.sipush 2000, 3) := by decide +kernel
theorem d_X9_solve_5 : decode m_X9_solve.2.1 5 = .ok (.invokestatic 44, 3) := by decide +kernel
theorem d_X9_solve_8 : decode m_X9_solve.2.1 8 = .ok (.ifCond .ne 6, 3) := by decide +kernel
theorem d_X9_solve_11 : decode m_X9_solve.2.1 11 = .ok (.ldc 48, 2) := by decide +kernel
theorem d_X9_solve_13 : decode m_X9_solve.2.1 13 = .ok (.ireturn, 1) := by decide +kernel
theorem d_X9_solve_14 : decode m_X9_solve.2.1 14 = .ok (.aload_n 0, 1) := by decide +kernel
theorem d_X9_solve_15 : decode m_X9_solve.2.1 15 = .ok (.getfield 19, 3) := by decide +kernel
theorem d_X9_solve_18 : decode m_X9_solve.2.1 18 = .ok (.getfield 168, 3) := by decide +kernel
theorem d_X9_solve_21 : decode m_X9_solve.2.1 21 = .ok (.invokevirtual 172, 3) := by decide +kernel
theorem d_X9_solve_24 : decode m_X9_solve.2.1 24 = .ok (.iload_n 1, 1) := by decide +kernel
theorem d_X9_solve_25 : decode m_X9_solve.2.1 25 = .ok (.iadd, 1) := by decide +kernel
theorem d_X9_solve_26 : decode m_X9_solve.2.1 26 = .ok (.istore_n 2, 1) := by decide +kernel
theorem d_X9_solve_27 : decode m_X9_solve.2.1 27 = .ok (.iload_n 2, 1) := by decide +kernel
theorem d_X9_solve_28 : decode m_X9_solve.2.1 28 = .ok (.sipush 8000, 3) := by decide +kernel
theorem d_X9_solve_31 : decode m_X9_solve.2.1 31 = .ok (.if_icmp .le 6, 3) := by decide +kernel
theorem d_X9_solve_34 : decode m_X9_solve.2.1 34 = .ok (.ldc 57, 2) := by decide +kernel
theorem d_X9_solve_36 : decode m_X9_solve.2.1 36 = .ok (.ireturn, 1) := by decide +kernel
theorem d_X9_solve_37 : decode m_X9_solve.2.1 37 = .ok (.aload_n 0, 1) := by decide +kernel
theorem d_X9_solve_38 : decode m_X9_solve.2.1 38 = .ok (.getfield 29, 3) := by decide +kernel
theorem d_X9_solve_41 : decode m_X9_solve.2.1 41 = .ok (.aload_n 0, 1) := by decide +kernel
theorem d_X9_solve_42 : decode m_X9_solve.2.1 42 = .ok (.getfield 19, 3) := by decide +kernel
theorem d_X9_solve_45 : decode m_X9_solve.2.1 45 = .ok (.invokevirtual 70, 3) := by decide +kernel
theorem d_X9_solve_48 : decode m_X9_solve.2.1 48 = .ok (.aload_n 0, 1) := by decide +kernel
theorem d_X9_solve_49 : decode m_X9_solve.2.1 49 = .ok (.getfield 40, 3) := by decide +kernel
theorem d_X9_solve_52 : decode m_X9_solve.2.1 52 = .ok (.aload_n 0, 1) := by decide +kernel
theorem d_X9_solve_53 : decode m_X9_solve.2.1 53 = .ok (.getfield 19, 3) := by decide +kernel
theorem d_X9_solve_56 : decode m_X9_solve.2.1 56 = .ok (.iload_n 2, 1) := by decide +kernel
theorem d_X9_solve_57 : decode m_X9_solve.2.1 57 = .ok (.invokevirtual 177, 3) := by decide +kernel
theorem d_X9_solve_60 : decode m_X9_solve.2.1 60 = .ok (.aload_n 0, 1) := by decide +kernel
theorem d_X9_solve_61 : decode m_X9_solve.2.1 61 = .ok (.getfield 19, 3) := by decide +kernel
theorem d_X9_solve_64 : decode m_X9_solve.2.1 64 = .ok (.getfield 168, 3) := by decide +kernel
theorem d_X9_solve_67 : decode m_X9_solve.2.1 67 = .ok (.invokevirtual 172, 3) := by decide +kernel
theorem d_X9_solve_70 : decode m_X9_solve.2.1 70 = .ok (.ireturn, 1) := by decide +kernel
theorem d_X9_value_0 : decode m_X9_value.2.1 0 = .ok (.iload_n 1, 1) := by decide +kernel
theorem d_X9_value_1 : decode m_X9_value.2.1 1 = .ok (.invokestatic 66, 3) := by decide +kernel
theorem d_X9_value_4 : decode m_X9_value.2.1 4 = .ok (.ifCond .eq 16, 3) := by decide +kernel
theorem d_X9_value_7 : decode m_X9_value.2.1 7 = .ok (.iload_n 2, 1) := by decide +kernel
theorem d_X9_value_8 : decode m_X9_value.2.1 8 = .ok (.sipush (-10000), 3) := by decide +kernel
theorem d_X9_value_11 : decode m_X9_value.2.1 11 = .ok (.sipush 8000, 3) := by decide +kernel
theorem d_X9_value_14 : decode m_X9_value.2.1 14 = .ok (.invokestatic 44, 3) := by decide +kernel
theorem d_X9_value_17 : decode m_X9_value.2.1 17 = .ok (.ifCond .ne 6, 3) := by decide +kernel
theorem d_X9_value_20 : decode m_X9_value.2.1 20 = .ok (.ldc 48, 2) := by decide +kernel
theorem d_X9_value_22 : decode m_X9_value.2.1 22 = .ok (.ireturn, 1) := by decide +kernel
theorem d_X9_value_23 : decode m_X9_value.2.1 23 = .ok (.aload_n 0, 1) := by decide +kernel
theorem d_X9_value_24 : decode m_X9_value.2.1 24 = .ok (.getfield 19, 3) := by decide +kernel
theorem d_X9_value_27 : decode m_X9_value.2.1 27 = .ok (.getfield 168, 3) := by decide +kernel
theorem d_X9_value_30 : decode m_X9_value.2.1 30 = .ok (.iload_n 2, 1) := by decide +kernel
theorem d_X9_value_31 : decode m_X9_value.2.1 31 = .ok (.invokevirtual 181, 3) := by decide +kernel
theorem d_X9_value_34 : decode m_X9_value.2.1 34 = .ok (.istore_n 3, 1) := by decide +kernel
theorem d_X9_value_35 : decode m_X9_value.2.1 35 = .ok (.iload_n 2, 1) := by decide +kernel
theorem d_X9_value_36 : decode m_X9_value.2.1 36 = .ok (.aload_n 0, 1) := by decide +kernel
theorem d_X9_value_37 : decode m_X9_value.2.1 37 = .ok (.getfield 19, 3) := by decide +kernel
theorem d_X9_value_40 : decode m_X9_value.2.1 40 = .ok (.getfield 168, 3) := by decide +kernel
theorem d_X9_value_43 : decode m_X9_value.2.1 43 = .ok (.invokevirtual 172, 3) := by decide +kernel
theorem d_X9_value_46 : decode m_X9_value.2.1 46 = .ok (.if_icmp .le 8, 3) := by decide +kernel
theorem d_X9_value_49 : decode m_X9_value.2.1 49 = .ok (.ldc 65, 2) := by decide +kernel
theorem d_X9_value_51 : decode m_X9_value.2.1 51 = .ok (.goto 13, 3) := by decide +kernel
theorem d_X9_value_54 : decode m_X9_value.2.1 54 = .ok (.aload_n 0, 1) := by decide +kernel
theorem d_X9_value_55 : decode m_X9_value.2.1 55 = .ok (.getfield 19, 3) := by decide +kernel
theorem d_X9_value_58 : decode m_X9_value.2.1 58 = .ok (.iload_n 3, 1) := by decide +kernel
theorem d_X9_value_59 : decode m_X9_value.2.1 59 = .ok (.iload_n 1, 1) := by decide +kernel
theorem d_X9_value_60 : decode m_X9_value.2.1 60 = .ok (.iload_n 2, 1) := by decide +kernel
theorem d_X9_value_61 : decode m_X9_value.2.1 61 = .ok (.invokevirtual 184, 3) := by decide +kernel
theorem d_X9_value_64 : decode m_X9_value.2.1 64 = .ok (.ireturn, 1) := by decide +kernel
theorem d_X9_slope_0 : decode m_X9_slope.2.1 0 = .ok (.iload_n 1, 1) := by decide +kernel
theorem d_X9_slope_1 : decode m_X9_slope.2.1 1 = .ok (.invokestatic 66, 3) := by decide +kernel
theorem d_X9_slope_4 : decode m_X9_slope.2.1 4 = .ok (.ifCond .eq 16, 3) := by decide +kernel
theorem d_X9_slope_7 : decode m_X9_slope.2.1 7 = .ok (.iload_n 2, 1) := by decide +kernel
theorem d_X9_slope_8 : decode m_X9_slope.2.1 8 = .ok (.sipush (-10000), 3) := by decide +kernel
theorem d_X9_slope_11 : decode m_X9_slope.2.1 11 = .ok (.sipush 8000, 3) := by decide +kernel
theorem d_X9_slope_14 : decode m_X9_slope.2.1 14 = .ok (.invokestatic 44, 3) := by decide +kernel
theorem d_X9_slope_17 : decode m_X9_slope.2.1 17 = .ok (.ifCond .ne 6, 3) := by decide +kernel
theorem d_X9_slope_20 : decode m_X9_slope.2.1 20 = .ok (.ldc 48, 2) := by decide +kernel
theorem d_X9_slope_22 : decode m_X9_slope.2.1 22 = .ok (.ireturn, 1) := by decide +kernel
theorem d_X9_slope_23 : decode m_X9_slope.2.1 23 = .ok (.aload_n 0, 1) := by decide +kernel
theorem d_X9_slope_24 : decode m_X9_slope.2.1 24 = .ok (.getfield 19, 3) := by decide +kernel
theorem d_X9_slope_27 : decode m_X9_slope.2.1 27 = .ok (.getfield 168, 3) := by decide +kernel
theorem d_X9_slope_30 : decode m_X9_slope.2.1 30 = .ok (.iload_n 2, 1) := by decide +kernel
theorem d_X9_slope_31 : decode m_X9_slope.2.1 31 = .ok (.invokevirtual 181, 3) := by decide +kernel
theorem d_X9_slope_34 : decode m_X9_slope.2.1 34 = .ok (.istore_n 3, 1) := by decide +kernel
theorem d_X9_slope_35 : decode m_X9_slope.2.1 35 = .ok (.iload_n 2, 1) := by decide +kernel
theorem d_X9_slope_36 : decode m_X9_slope.2.1 36 = .ok (.aload_n 0, 1) := by decide +kernel
theorem d_X9_slope_37 : decode m_X9_slope.2.1 37 = .ok (.getfield 19, 3) := by decide +kernel
theorem d_X9_slope_40 : decode m_X9_slope.2.1 40 = .ok (.getfield 168, 3) := by decide +kernel
theorem d_X9_slope_43 : decode m_X9_slope.2.1 43 = .ok (.invokevirtual 172, 3) := by decide +kernel
theorem d_X9_slope_46 : decode m_X9_slope.2.1 46 = .ok (.if_icmp .le 8, 3) := by decide +kernel
theorem d_X9_slope_49 : decode m_X9_slope.2.1 49 = .ok (.ldc 65, 2) := by decide +kernel
theorem d_X9_slope_51 : decode m_X9_slope.2.1 51 = .ok (.goto 13, 3) := by decide +kernel
theorem d_X9_slope_54 : decode m_X9_slope.2.1 54 = .ok (.aload_n 0, 1) := by decide +kernel
theorem d_X9_slope_55 : decode m_X9_slope.2.1 55 = .ok (.getfield 19, 3) := by decide +kernel
theorem d_X9_slope_58 : decode m_X9_slope.2.1 58 = .ok (.iload_n 3, 1) := by decide +kernel
theorem d_X9_slope_59 : decode m_X9_slope.2.1 59 = .ok (.iload_n 1, 1) := by decide +kernel
theorem d_X9_slope_60 : decode m_X9_slope.2.1 60 = .ok (.iload_n 2, 1) := by decide +kernel
theorem d_X9_slope_61 : decode m_X9_slope.2.1 61 = .ok (.invokevirtual 188, 3) := by decide +kernel
theorem d_X9_slope_64 : decode m_X9_slope.2.1 64 = .ok (.ireturn, 1) := by decide +kernel
theorem d_X9_rightAt_0 : decode m_X9_rightAt.2.1 0 = .ok (.iload_n 1, 1) := by decide +kernel
theorem d_X9_rightAt_1 : decode m_X9_rightAt.2.1 1 = .ok (.invokestatic 66, 3) := by decide +kernel
theorem d_X9_rightAt_4 : decode m_X9_rightAt.2.1 4 = .ok (.ifCond .eq 14, 3) := by decide +kernel
theorem d_X9_rightAt_7 : decode m_X9_rightAt.2.1 7 = .ok (.iload_n 2, 1) := by decide +kernel
theorem d_X9_rightAt_8 : decode m_X9_rightAt.2.1 8 = .ok (.iconst 0, 1) := by decide +kernel
theorem d_X9_rightAt_9 : decode m_X9_rightAt.2.1 9 = .ok (.sipush 8000, 3) := by decide +kernel
theorem d_X9_rightAt_12 : decode m_X9_rightAt.2.1 12 = .ok (.invokestatic 44, 3) := by decide +kernel
theorem d_X9_rightAt_15 : decode m_X9_rightAt.2.1 15 = .ok (.ifCond .ne 6, 3) := by decide +kernel
theorem d_X9_rightAt_18 : decode m_X9_rightAt.2.1 18 = .ok (.ldc 48, 2) := by decide +kernel
theorem d_X9_rightAt_20 : decode m_X9_rightAt.2.1 20 = .ok (.ireturn, 1) := by decide +kernel
theorem d_X9_rightAt_21 : decode m_X9_rightAt.2.1 21 = .ok (.iload_n 2, 1) := by decide +kernel
theorem d_X9_rightAt_22 : decode m_X9_rightAt.2.1 22 = .ok (.aload_n 0, 1) := by decide +kernel
theorem d_X9_rightAt_23 : decode m_X9_rightAt.2.1 23 = .ok (.getfield 19, 3) := by decide +kernel
theorem d_X9_rightAt_26 : decode m_X9_rightAt.2.1 26 = .ok (.getfield 168, 3) := by decide +kernel
theorem d_X9_rightAt_29 : decode m_X9_rightAt.2.1 29 = .ok (.invokevirtual 172, 3) := by decide +kernel
theorem d_X9_rightAt_32 : decode m_X9_rightAt.2.1 32 = .ok (.if_icmp .le 8, 3) := by decide +kernel
theorem d_X9_rightAt_35 : decode m_X9_rightAt.2.1 35 = .ok (.ldc 65, 2) := by decide +kernel
theorem d_X9_rightAt_37 : decode m_X9_rightAt.2.1 37 = .ok (.goto 16, 3) := by decide +kernel
theorem d_X9_rightAt_40 : decode m_X9_rightAt.2.1 40 = .ok (.aload_n 0, 1) := by decide +kernel
theorem d_X9_rightAt_41 : decode m_X9_rightAt.2.1 41 = .ok (.getfield 40, 3) := by decide +kernel
theorem d_X9_rightAt_44 : decode m_X9_rightAt.2.1 44 = .ok (.aload_n 0, 1) := by decide +kernel
theorem d_X9_rightAt_45 : decode m_X9_rightAt.2.1 45 = .ok (.getfield 19, 3) := by decide +kernel
theorem d_X9_rightAt_48 : decode m_X9_rightAt.2.1 48 = .ok (.iload_n 1, 1) := by decide +kernel
theorem d_X9_rightAt_49 : decode m_X9_rightAt.2.1 49 = .ok (.iload_n 2, 1) := by decide +kernel
theorem d_X9_rightAt_50 : decode m_X9_rightAt.2.1 50 = .ok (.invokevirtual 191, 3) := by decide +kernel
theorem d_X9_rightAt_53 : decode m_X9_rightAt.2.1 53 = .ok (.ireturn, 1) := by decide +kernel
theorem d_X9_step_0 : decode m_X9_step.2.1 0 = .ok (.iload_n 1, 1) := by decide +kernel
theorem d_X9_step_1 : decode m_X9_step.2.1 1 = .ok (.ifCond .lt 12, 3) := by decide +kernel
theorem d_X9_step_4 : decode m_X9_step.2.1 4 = .ok (.iload_n 2, 1) := by decide +kernel
theorem d_X9_step_5 : decode m_X9_step.2.1 5 = .ok (.iconst 0, 1) := by decide +kernel
theorem d_X9_step_6 : decode m_X9_step.2.1 6 = .ok (.iconst 5, 1) := by decide +kernel
theorem d_X9_step_7 : decode m_X9_step.2.1 7 = .ok (.invokestatic 44, 3) := by decide +kernel
theorem d_X9_step_10 : decode m_X9_step.2.1 10 = .ok (.ifCond .ne 6, 3) := by decide +kernel
theorem d_X9_step_13 : decode m_X9_step.2.1 13 = .ok (.ldc 48, 2) := by decide +kernel
theorem d_X9_step_15 : decode m_X9_step.2.1 15 = .ok (.ireturn, 1) := by decide +kernel
theorem d_X9_step_16 : decode m_X9_step.2.1 16 = .ok (.aload_n 0, 1) := by decide +kernel
theorem d_X9_step_17 : decode m_X9_step.2.1 17 = .ok (.getfield 19, 3) := by decide +kernel
theorem d_X9_step_20 : decode m_X9_step.2.1 20 = .ok (.getfield 168, 3) := by decide +kernel
theorem d_X9_step_23 : decode m_X9_step.2.1 23 = .ok (.astore_n 3, 1) := by decide +kernel
theorem d_X9_step_24 : decode m_X9_step.2.1 24 = .ok (.iload_n 1, 1) := by decide +kernel
theorem d_X9_step_25 : decode m_X9_step.2.1 25 = .ok (.aload_n 3, 1) := by decide +kernel
theorem d_X9_step_26 : decode m_X9_step.2.1 26 = .ok (.getfield 195, 3) := by decide +kernel
theorem d_X9_step_29 : decode m_X9_step.2.1 29 = .ok (.if_icmp .lt 6, 3) := by decide +kernel
theorem d_X9_step_32 : decode m_X9_step.2.1 32 = .ok (.ldc 65, 2) := by decide +kernel
theorem d_X9_step_34 : decode m_X9_step.2.1 34 = .ok (.ireturn, 1) := by decide +kernel
theorem d_X9_step_35 : decode m_X9_step.2.1 35 = .ok (.iload_n 2, 1) := by decide +kernel
theorem d_X9_step_36 : decode m_X9_step.2.1 36 = .ok (.ifCond .ne 9, 3) := by decide +kernel
theorem d_X9_step_39 : decode m_X9_step.2.1 39 = .ok (.aload_n 3, 1) := by decide +kernel
theorem d_X9_step_40 : decode m_X9_step.2.1 40 = .ok (.iload_n 1, 1) := by decide +kernel
theorem d_X9_step_41 : decode m_X9_step.2.1 41 = .ok (.invokevirtual 198, 3) := by decide +kernel
theorem d_X9_step_44 : decode m_X9_step.2.1 44 = .ok (.ireturn, 1) := by decide +kernel
theorem d_X9_step_45 : decode m_X9_step.2.1 45 = .ok (.iload_n 2, 1) := by decide +kernel
theorem d_X9_step_46 : decode m_X9_step.2.1 46 = .ok (.iconst 1, 1) := by decide +kernel
theorem d_X9_step_47 : decode m_X9_step.2.1 47 = .ok (.if_icmp .ne 15, 3) := by decide +kernel
theorem d_X9_step_50 : decode m_X9_step.2.1 50 = .ok (.aload_n 3, 1) := by decide +kernel
theorem d_X9_step_51 : decode m_X9_step.2.1 51 = .ok (.iload_n 1, 1) := by decide +kernel
theorem d_X9_step_52 : decode m_X9_step.2.1 52 = .ok (.invokevirtual 201, 3) := by decide +kernel
theorem d_X9_step_55 : decode m_X9_step.2.1 55 = .ok (.aload_n 3, 1) := by decide +kernel
theorem d_X9_step_56 : decode m_X9_step.2.1 56 = .ok (.iload_n 1, 1) := by decide +kernel
theorem d_X9_step_57 : decode m_X9_step.2.1 57 = .ok (.invokevirtual 198, 3) := by decide +kernel
theorem d_X9_step_60 : decode m_X9_step.2.1 60 = .ok (.isub, 1) := by decide +kernel
theorem d_X9_step_61 : decode m_X9_step.2.1 61 = .ok (.ireturn, 1) := by decide +kernel
theorem d_X9_step_62 : decode m_X9_step.2.1 62 = .ok (.iload_n 2, 1) := by decide +kernel
theorem d_X9_step_63 : decode m_X9_step.2.1 63 = .ok (.iconst 5, 1) := by decide +kernel
theorem d_X9_step_64 : decode m_X9_step.2.1 64 = .ok (.if_icmp .ne 11, 3) := by decide +kernel
theorem d_X9_step_67 : decode m_X9_step.2.1 67 = .ok (.aload_n 3, 1) := by decide +kernel
theorem d_X9_step_68 : decode m_X9_step.2.1 68 = .ok (.iload_n 1, 1) := by decide +kernel
theorem d_X9_step_69 : decode m_X9_step.2.1 69 = .ok (.invokevirtual 204, 3) := by decide +kernel
theorem d_X9_step_72 : decode m_X9_step.2.1 72 = .ok (.goto 11, 3) := by decide +kernel
theorem d_X9_step_75 : decode m_X9_step.2.1 75 = .ok (.aload_n 3, 1) := by decide +kernel
theorem d_X9_step_76 : decode m_X9_step.2.1 76 = .ok (.iload_n 1, 1) := by decide +kernel
theorem d_X9_step_77 : decode m_X9_step.2.1 77 = .ok (.iload_n 2, 1) := by decide +kernel
theorem d_X9_step_78 : decode m_X9_step.2.1 78 = .ok (.iconst 2, 1) := by decide +kernel
theorem d_X9_step_79 : decode m_X9_step.2.1 79 = .ok (.isub, 1) := by decide +kernel
theorem d_X9_step_80 : decode m_X9_step.2.1 80 = .ok (.invokevirtual 207, 3) := by decide +kernel
theorem d_X9_step_83 : decode m_X9_step.2.1 83 = .ok (.ireturn, 1) := by decide +kernel
theorem d_X9_crossing_0 : decode m_X9_crossing.2.1 0 = .ok (.iload_n 1, 1) := by decide +kernel
theorem d_X9_crossing_1 : decode m_X9_crossing.2.1 1 = .ok (.invokestatic 66, 3) := by decide +kernel
theorem d_X9_crossing_4 : decode m_X9_crossing.2.1 4 = .ok (.ifCond .eq 25, 3) := by decide +kernel
theorem d_X9_crossing_7 : decode m_X9_crossing.2.1 7 = .ok (.iload_n 2, 1) := by decide +kernel
theorem d_X9_crossing_8 : decode m_X9_crossing.2.1 8 = .ok (.ldc 210, 2) := by decide +kernel
theorem d_X9_crossing_10 : decode m_X9_crossing.2.1 10 = .ok (.ldc 211, 2) := by decide +kernel
theorem d_X9_crossing_12 : decode m_X9_crossing.2.1 12 = .ok (.invokestatic 44, 3) := by decide +kernel
theorem d_X9_crossing_15 : decode m_X9_crossing.2.1 15 = .ok (.ifCond .eq 14, 3) := by decide +kernel
theorem d_X9_crossing_18 : decode m_X9_crossing.2.1 18 = .ok (.iload_n 3, 1) := by decide +kernel
theorem d_X9_crossing_19 : decode m_X9_crossing.2.1 19 = .ok (.iconst 1, 1) := by decide +kernel
theorem d_X9_crossing_20 : decode m_X9_crossing.2.1 20 = .ok (.sipush 8000, 3) := by decide +kernel
theorem d_X9_crossing_23 : decode m_X9_crossing.2.1 23 = .ok (.invokestatic 44, 3) := by decide +kernel
theorem d_X9_crossing_26 : decode m_X9_crossing.2.1 26 = .ok (.ifCond .ne 6, 3) := by decide +kernel
theorem d_X9_crossing_29 : decode m_X9_crossing.2.1 29 = .ok (.ldc 48, 2) := by decide +kernel
theorem d_X9_crossing_31 : decode m_X9_crossing.2.1 31 = .ok (.ireturn, 1) := by decide +kernel
theorem d_X9_crossing_32 : decode m_X9_crossing.2.1 32 = .ok (.aload_n 0, 1) := by decide +kernel
theorem d_X9_crossing_33 : decode m_X9_crossing.2.1 33 = .ok (.getfield 19, 3) := by decide +kernel
theorem d_X9_crossing_36 : decode m_X9_crossing.2.1 36 = .ok (.getfield 168, 3) := by decide +kernel
theorem d_X9_crossing_39 : decode m_X9_crossing.2.1 39 = .ok (.astore 4, 2) := by decide +kernel
theorem d_X9_crossing_41 : decode m_X9_crossing.2.1 41 = .ok (.aload 4, 2) := by decide +kernel
theorem d_X9_crossing_43 : decode m_X9_crossing.2.1 43 = .ok (.invokevirtual 172, 3) := by decide +kernel
theorem d_X9_crossing_46 : decode m_X9_crossing.2.1 46 = .ok (.istore 5, 2) := by decide +kernel
theorem d_X9_crossing_48 : decode m_X9_crossing.2.1 48 = .ok (.iload_n 3, 1) := by decide +kernel
theorem d_X9_crossing_49 : decode m_X9_crossing.2.1 49 = .ok (.iload 5, 2) := by decide +kernel
theorem d_X9_crossing_51 : decode m_X9_crossing.2.1 51 = .ok (.if_icmp .le 6, 3) := by decide +kernel
theorem d_X9_crossing_54 : decode m_X9_crossing.2.1 54 = .ok (.ldc 65, 2) := by decide +kernel
theorem d_X9_crossing_56 : decode m_X9_crossing.2.1 56 = .ok (.ireturn, 1) := by decide +kernel
theorem d_X9_crossing_57 : decode m_X9_crossing.2.1 57 = .ok (.aload 4, 2) := by decide +kernel
theorem d_X9_crossing_59 : decode m_X9_crossing.2.1 59 = .ok (.iload_n 3, 1) := by decide +kernel
theorem d_X9_crossing_60 : decode m_X9_crossing.2.1 60 = .ok (.iconst 1, 1) := by decide +kernel
theorem d_X9_crossing_61 : decode m_X9_crossing.2.1 61 = .ok (.isub, 1) := by decide +kernel
theorem d_X9_crossing_62 : decode m_X9_crossing.2.1 62 = .ok (.invokevirtual 181, 3) := by decide +kernel
theorem d_X9_crossing_65 : decode m_X9_crossing.2.1 65 = .ok (.istore 6, 2) := by decide +kernel
theorem d_X9_crossing_67 : decode m_X9_crossing.2.1 67 = .ok (.aload 4, 2) := by decide +kernel
theorem d_X9_crossing_69 : decode m_X9_crossing.2.1 69 = .ok (.iload 6, 2) := by decide +kernel
theorem d_X9_crossing_71 : decode m_X9_crossing.2.1 71 = .ok (.iload_n 1, 1) := by decide +kernel
theorem d_X9_crossing_72 : decode m_X9_crossing.2.1 72 = .ok (.iload_n 3, 1) := by decide +kernel
theorem d_X9_crossing_73 : decode m_X9_crossing.2.1 73 = .ok (.iconst 1, 1) := by decide +kernel
theorem d_X9_crossing_74 : decode m_X9_crossing.2.1 74 = .ok (.isub, 1) := by decide +kernel
theorem d_X9_crossing_75 : decode m_X9_crossing.2.1 75 = .ok (.invokevirtual 212, 3) := by decide +kernel
theorem d_X9_crossing_78 : decode m_X9_crossing.2.1 78 = .ok (.iload_n 2, 1) := by decide +kernel
theorem d_X9_crossing_79 : decode m_X9_crossing.2.1 79 = .ok (.if_icmp .ge 7, 3) := by decide +kernel
theorem d_X9_crossing_82 : decode m_X9_crossing.2.1 82 = .ok (.iconst 1, 1) := by decide +kernel
theorem d_X9_crossing_83 : decode m_X9_crossing.2.1 83 = .ok (.goto 4, 3) := by decide +kernel
theorem d_X9_crossing_86 : decode m_X9_crossing.2.1 86 = .ok (.iconst 0, 1) := by decide +kernel
theorem d_X9_crossing_87 : decode m_X9_crossing.2.1 87 = .ok (.istore 7, 2) := by decide +kernel
theorem d_X9_crossing_89 : decode m_X9_crossing.2.1 89 = .ok (.iload_n 3, 1) := by decide +kernel
theorem d_X9_crossing_90 : decode m_X9_crossing.2.1 90 = .ok (.istore 8, 2) := by decide +kernel
theorem d_X9_crossing_92 : decode m_X9_crossing.2.1 92 = .ok (.iload 8, 2) := by decide +kernel
theorem d_X9_crossing_94 : decode m_X9_crossing.2.1 94 = .ok (.iload 5, 2) := by decide +kernel
theorem d_X9_crossing_96 : decode m_X9_crossing.2.1 96 = .ok (.if_icmp .gt 62, 3) := by decide +kernel
theorem d_X9_crossing_99 : decode m_X9_crossing.2.1 99 = .ok (.iload 8, 2) := by decide +kernel
theorem d_X9_crossing_101 : decode m_X9_crossing.2.1 101 = .ok (.aload 4, 2) := by decide +kernel
theorem d_X9_crossing_103 : decode m_X9_crossing.2.1 103 = .ok (.iload 6, 2) := by decide +kernel
theorem d_X9_crossing_105 : decode m_X9_crossing.2.1 105 = .ok (.invokevirtual 201, 3) := by decide +kernel
theorem d_X9_crossing_108 : decode m_X9_crossing.2.1 108 = .ok (.if_icmp .le 6, 3) := by decide +kernel
theorem d_X9_crossing_111 : decode m_X9_crossing.2.1 111 = .ok (.iinc 6 1, 3) := by decide +kernel
theorem d_X9_crossing_114 : decode m_X9_crossing.2.1 114 = .ok (.aload 4, 2) := by decide +kernel
theorem d_X9_crossing_116 : decode m_X9_crossing.2.1 116 = .ok (.iload 6, 2) := by decide +kernel
theorem d_X9_crossing_118 : decode m_X9_crossing.2.1 118 = .ok (.iload_n 1, 1) := by decide +kernel
theorem d_X9_crossing_119 : decode m_X9_crossing.2.1 119 = .ok (.iload 8, 2) := by decide +kernel
theorem d_X9_crossing_121 : decode m_X9_crossing.2.1 121 = .ok (.invokevirtual 212, 3) := by decide +kernel
theorem d_X9_crossing_124 : decode m_X9_crossing.2.1 124 = .ok (.iload_n 2, 1) := by decide +kernel
theorem d_X9_crossing_125 : decode m_X9_crossing.2.1 125 = .ok (.if_icmp .ge 7, 3) := by decide +kernel
theorem d_X9_crossing_128 : decode m_X9_crossing.2.1 128 = .ok (.iconst 1, 1) := by decide +kernel
theorem d_X9_crossing_129 : decode m_X9_crossing.2.1 129 = .ok (.goto 4, 3) := by decide +kernel
theorem d_X9_crossing_132 : decode m_X9_crossing.2.1 132 = .ok (.iconst 0, 1) := by decide +kernel
theorem d_X9_crossing_133 : decode m_X9_crossing.2.1 133 = .ok (.istore 9, 2) := by decide +kernel
theorem d_X9_crossing_135 : decode m_X9_crossing.2.1 135 = .ok (.iload 7, 2) := by decide +kernel
theorem d_X9_crossing_137 : decode m_X9_crossing.2.1 137 = .ok (.ifCond .eq 11, 3) := by decide +kernel
theorem d_X9_crossing_140 : decode m_X9_crossing.2.1 140 = .ok (.iload 9, 2) := by decide +kernel
theorem d_X9_crossing_142 : decode m_X9_crossing.2.1 142 = .ok (.ifCond .ne 6, 3) := by decide +kernel
theorem d_X9_crossing_145 : decode m_X9_crossing.2.1 145 = .ok (.iload 8, 2) := by decide +kernel
theorem d_X9_crossing_147 : decode m_X9_crossing.2.1 147 = .ok (.ireturn, 1) := by decide +kernel
theorem d_X9_crossing_148 : decode m_X9_crossing.2.1 148 = .ok (.iload 9, 2) := by decide +kernel
theorem d_X9_crossing_150 : decode m_X9_crossing.2.1 150 = .ok (.istore 7, 2) := by decide +kernel
theorem d_X9_crossing_152 : decode m_X9_crossing.2.1 152 = .ok (.iinc 8 1, 3) := by decide +kernel
theorem d_X9_crossing_155 : decode m_X9_crossing.2.1 155 = .ok (.goto (-63), 3) := by decide +kernel
theorem d_X9_crossing_158 : decode m_X9_crossing.2.1 158 = .ok (.ldc 65, 2) := by decide +kernel
theorem d_X9_crossing_160 : decode m_X9_crossing.2.1 160 = .ok (.ireturn, 1) := by decide +kernel
theorem d_X9_greatest_0 : decode m_X9_greatest.2.1 0 = .ok (.iload_n 1, 1) := by decide +kernel
theorem d_X9_greatest_1 : decode m_X9_greatest.2.1 1 = .ok (.invokestatic 66, 3) := by decide +kernel
theorem d_X9_greatest_4 : decode m_X9_greatest.2.1 4 = .ok (.ifCond .eq 35, 3) := by decide +kernel
theorem d_X9_greatest_7 : decode m_X9_greatest.2.1 7 = .ok (.iload_n 2, 1) := by decide +kernel
theorem d_X9_greatest_8 : decode m_X9_greatest.2.1 8 = .ok (.iconst 0, 1) := by decide +kernel
theorem d_X9_greatest_9 : decode m_X9_greatest.2.1 9 = .ok (.sipush 8000, 3) := by decide +kernel
theorem d_X9_greatest_12 : decode m_X9_greatest.2.1 12 = .ok (.invokestatic 44, 3) := by decide +kernel
theorem d_X9_greatest_15 : decode m_X9_greatest.2.1 15 = .ok (.ifCond .eq 24, 3) := by decide +kernel
theorem d_X9_greatest_18 : decode m_X9_greatest.2.1 18 = .ok (.iload_n 3, 1) := by decide +kernel
theorem d_X9_greatest_19 : decode m_X9_greatest.2.1 19 = .ok (.iload_n 2, 1) := by decide +kernel
theorem d_X9_greatest_20 : decode m_X9_greatest.2.1 20 = .ok (.sipush 8000, 3) := by decide +kernel
theorem d_X9_greatest_23 : decode m_X9_greatest.2.1 23 = .ok (.invokestatic 44, 3) := by decide +kernel
theorem d_X9_greatest_26 : decode m_X9_greatest.2.1 26 = .ok (.ifCond .eq 13, 3) := by decide +kernel
theorem d_X9_greatest_29 : decode m_X9_greatest.2.1 29 = .ok (.iload 4, 2) := by decide +kernel
theorem d_X9_greatest_31 : decode m_X9_greatest.2.1 31 = .ok (.iconst 0, 1) := by decide +kernel
theorem d_X9_greatest_32 : decode m_X9_greatest.2.1 32 = .ok (.iconst 1, 1) := by decide +kernel
theorem d_X9_greatest_33 : decode m_X9_greatest.2.1 33 = .ok (.invokestatic 44, 3) := by decide +kernel
theorem d_X9_greatest_36 : decode m_X9_greatest.2.1 36 = .ok (.ifCond .ne 6, 3) := by decide +kernel
theorem d_X9_greatest_39 : decode m_X9_greatest.2.1 39 = .ok (.ldc 48, 2) := by decide +kernel
theorem d_X9_greatest_41 : decode m_X9_greatest.2.1 41 = .ok (.ireturn, 1) := by decide +kernel
theorem d_X9_greatest_42 : decode m_X9_greatest.2.1 42 = .ok (.aload_n 0, 1) := by decide +kernel
theorem d_X9_greatest_43 : decode m_X9_greatest.2.1 43 = .ok (.getfield 19, 3) := by decide +kernel
theorem d_X9_greatest_46 : decode m_X9_greatest.2.1 46 = .ok (.getfield 168, 3) := by decide +kernel
theorem d_X9_greatest_49 : decode m_X9_greatest.2.1 49 = .ok (.astore 5, 2) := by decide +kernel
theorem d_X9_greatest_51 : decode m_X9_greatest.2.1 51 = .ok (.iload_n 3, 1) := by decide +kernel
theorem d_X9_greatest_52 : decode m_X9_greatest.2.1 52 = .ok (.aload 5, 2) := by decide +kernel
theorem d_X9_greatest_54 : decode m_X9_greatest.2.1 54 = .ok (.invokevirtual 172, 3) := by decide +kernel
theorem d_X9_greatest_57 : decode m_X9_greatest.2.1 57 = .ok (.if_icmp .le 6, 3) := by decide +kernel
theorem d_X9_greatest_60 : decode m_X9_greatest.2.1 60 = .ok (.ldc 65, 2) := by decide +kernel
theorem d_X9_greatest_62 : decode m_X9_greatest.2.1 62 = .ok (.ireturn, 1) := by decide +kernel
theorem d_X9_greatest_63 : decode m_X9_greatest.2.1 63 = .ok (.aload 5, 2) := by decide +kernel
theorem d_X9_greatest_65 : decode m_X9_greatest.2.1 65 = .ok (.iload_n 2, 1) := by decide +kernel
theorem d_X9_greatest_66 : decode m_X9_greatest.2.1 66 = .ok (.invokevirtual 181, 3) := by decide +kernel
theorem d_X9_greatest_69 : decode m_X9_greatest.2.1 69 = .ok (.istore 6, 2) := by decide +kernel
theorem d_X9_greatest_71 : decode m_X9_greatest.2.1 71 = .ok (.aload 5, 2) := by decide +kernel
theorem d_X9_greatest_73 : decode m_X9_greatest.2.1 73 = .ok (.iload 6, 2) := by decide +kernel
theorem d_X9_greatest_75 : decode m_X9_greatest.2.1 75 = .ok (.iload_n 1, 1) := by decide +kernel
theorem d_X9_greatest_76 : decode m_X9_greatest.2.1 76 = .ok (.iload_n 2, 1) := by decide +kernel
theorem d_X9_greatest_77 : decode m_X9_greatest.2.1 77 = .ok (.invokevirtual 212, 3) := by decide +kernel
theorem d_X9_greatest_80 : decode m_X9_greatest.2.1 80 = .ok (.istore 7, 2) := by decide +kernel
theorem d_X9_greatest_82 : decode m_X9_greatest.2.1 82 = .ok (.iload_n 2, 1) := by decide +kernel
theorem d_X9_greatest_83 : decode m_X9_greatest.2.1 83 = .ok (.istore 8, 2) := by decide +kernel
theorem d_X9_greatest_85 : decode m_X9_greatest.2.1 85 = .ok (.iload_n 2, 1) := by decide +kernel
theorem d_X9_greatest_86 : decode m_X9_greatest.2.1 86 = .ok (.iconst 1, 1) := by decide +kernel
theorem d_X9_greatest_87 : decode m_X9_greatest.2.1 87 = .ok (.iadd, 1) := by decide +kernel
theorem d_X9_greatest_88 : decode m_X9_greatest.2.1 88 = .ok (.istore 9, 2) := by decide +kernel
theorem d_X9_greatest_90 : decode m_X9_greatest.2.1 90 = .ok (.iload 9, 2) := by decide +kernel
theorem d_X9_greatest_92 : decode m_X9_greatest.2.1 92 = .ok (.iload_n 3, 1) := by decide +kernel
theorem d_X9_greatest_93 : decode m_X9_greatest.2.1 93 = .ok (.if_icmp .gt 51, 3) := by decide +kernel
theorem d_X9_greatest_96 : decode m_X9_greatest.2.1 96 = .ok (.iload 9, 2) := by decide +kernel
theorem d_X9_greatest_98 : decode m_X9_greatest.2.1 98 = .ok (.aload 5, 2) := by decide +kernel
theorem d_X9_greatest_100 : decode m_X9_greatest.2.1 100 = .ok (.iload 6, 2) := by decide +kernel
theorem d_X9_greatest_102 : decode m_X9_greatest.2.1 102 = .ok (.invokevirtual 201, 3) := by decide +kernel
theorem d_X9_greatest_105 : decode m_X9_greatest.2.1 105 = .ok (.if_icmp .le 6, 3) := by decide +kernel
theorem d_X9_greatest_108 : decode m_X9_greatest.2.1 108 = .ok (.iinc 6 1, 3) := by decide +kernel
theorem d_X9_greatest_111 : decode m_X9_greatest.2.1 111 = .ok (.aload 5, 2) := by decide +kernel
theorem d_X9_greatest_113 : decode m_X9_greatest.2.1 113 = .ok (.iload 6, 2) := by decide +kernel
theorem d_X9_greatest_115 : decode m_X9_greatest.2.1 115 = .ok (.iload_n 1, 1) := by decide +kernel
theorem d_X9_greatest_116 : decode m_X9_greatest.2.1 116 = .ok (.iload 9, 2) := by decide +kernel
theorem d_X9_greatest_118 : decode m_X9_greatest.2.1 118 = .ok (.invokevirtual 212, 3) := by decide +kernel
theorem d_X9_greatest_121 : decode m_X9_greatest.2.1 121 = .ok (.istore 10, 2) := by decide +kernel
theorem d_X9_greatest_123 : decode m_X9_greatest.2.1 123 = .ok (.iload 10, 2) := by decide +kernel
theorem d_X9_greatest_125 : decode m_X9_greatest.2.1 125 = .ok (.iload 7, 2) := by decide +kernel
theorem d_X9_greatest_127 : decode m_X9_greatest.2.1 127 = .ok (.if_icmp .le 11, 3) := by decide +kernel
theorem d_X9_greatest_130 : decode m_X9_greatest.2.1 130 = .ok (.iload 10, 2) := by decide +kernel
theorem d_X9_greatest_132 : decode m_X9_greatest.2.1 132 = .ok (.istore 7, 2) := by decide +kernel
theorem d_X9_greatest_134 : decode m_X9_greatest.2.1 134 = .ok (.iload 9, 2) := by decide +kernel
theorem d_X9_greatest_136 : decode m_X9_greatest.2.1 136 = .ok (.istore 8, 2) := by decide +kernel
theorem d_X9_greatest_138 : decode m_X9_greatest.2.1 138 = .ok (.iinc 9 1, 3) := by decide +kernel
theorem d_X9_greatest_141 : decode m_X9_greatest.2.1 141 = .ok (.goto (-51), 3) := by decide +kernel
theorem d_X9_greatest_144 : decode m_X9_greatest.2.1 144 = .ok (.iload 4, 2) := by decide +kernel
theorem d_X9_greatest_146 : decode m_X9_greatest.2.1 146 = .ok (.ifCond .ne 8, 3) := by decide +kernel
theorem d_X9_greatest_149 : decode m_X9_greatest.2.1 149 = .ok (.iload 7, 2) := by decide +kernel
theorem d_X9_greatest_151 : decode m_X9_greatest.2.1 151 = .ok (.goto 5, 3) := by decide +kernel
theorem d_X9_greatest_154 : decode m_X9_greatest.2.1 154 = .ok (.iload 8, 2) := by decide +kernel
theorem d_X9_greatest_156 : decode m_X9_greatest.2.1 156 = .ok (.ireturn, 1) := by decide +kernel
theorem d_X9_differs_0 : decode m_X9_differs.2.1 0 = .ok (.iload_n 1, 1) := by decide +kernel
theorem d_X9_differs_1 : decode m_X9_differs.2.1 1 = .ok (.getstatic 137, 3) := by decide +kernel
theorem d_X9_differs_4 : decode m_X9_differs.2.1 4 = .ok (.iconst 0, 1) := by decide +kernel
theorem d_X9_differs_5 : decode m_X9_differs.2.1 5 = .ok (.invokestatic 91, 3) := by decide +kernel
theorem d_X9_differs_8 : decode m_X9_differs.2.1 8 = .ok (.getstatic 140, 3) := by decide +kernel
theorem d_X9_differs_11 : decode m_X9_differs.2.1 11 = .ok (.iconst 0, 1) := by decide +kernel
theorem d_X9_differs_12 : decode m_X9_differs.2.1 12 = .ok (.invokestatic 91, 3) := by decide +kernel
theorem d_X9_differs_15 : decode m_X9_differs.2.1 15 = .ok (.invokestatic 44, 3) := by decide +kernel
theorem d_X9_differs_18 : decode m_X9_differs.2.1 18 = .ok (.ifCond .ne 6, 3) := by decide +kernel
theorem d_X9_differs_21 : decode m_X9_differs.2.1 21 = .ok (.ldc 48, 2) := by decide +kernel
theorem d_X9_differs_23 : decode m_X9_differs.2.1 23 = .ok (.ireturn, 1) := by decide +kernel
theorem d_X9_differs_24 : decode m_X9_differs.2.1 24 = .ok (.aload_n 0, 1) := by decide +kernel
theorem d_X9_differs_25 : decode m_X9_differs.2.1 25 = .ok (.getfield 19, 3) := by decide +kernel
theorem d_X9_differs_28 : decode m_X9_differs.2.1 28 = .ok (.getfield 168, 3) := by decide +kernel
theorem d_X9_differs_31 : decode m_X9_differs.2.1 31 = .ok (.invokevirtual 172, 3) := by decide +kernel
theorem d_X9_differs_34 : decode m_X9_differs.2.1 34 = .ok (.istore_n 2, 1) := by decide +kernel
theorem d_X9_differs_35 : decode m_X9_differs.2.1 35 = .ok (.aload_n 0, 1) := by decide +kernel
theorem d_X9_differs_36 : decode m_X9_differs.2.1 36 = .ok (.getfield 23, 3) := by decide +kernel
theorem d_X9_differs_39 : decode m_X9_differs.2.1 39 = .ok (.aload_n 0, 1) := by decide +kernel
theorem d_X9_differs_40 : decode m_X9_differs.2.1 40 = .ok (.getfield 19, 3) := by decide +kernel
theorem d_X9_differs_43 : decode m_X9_differs.2.1 43 = .ok (.invokevirtual 213, 3) := by decide +kernel
theorem d_X9_differs_46 : decode m_X9_differs.2.1 46 = .ok (.aload_n 0, 1) := by decide +kernel
theorem d_X9_differs_47 : decode m_X9_differs.2.1 47 = .ok (.getfield 23, 3) := by decide +kernel
theorem d_X9_differs_50 : decode m_X9_differs.2.1 50 = .ok (.getfield 143, 3) := by decide +kernel
theorem d_X9_differs_53 : decode m_X9_differs.2.1 53 = .ok (.iconst 0, 1) := by decide +kernel
theorem d_X9_differs_54 : decode m_X9_differs.2.1 54 = .ok (.iload_n 1, 1) := by decide +kernel
theorem d_X9_differs_55 : decode m_X9_differs.2.1 55 = .ok (.invokestatic 111, 3) := by decide +kernel
theorem d_X9_differs_58 : decode m_X9_differs.2.1 58 = .ok (.aload_n 0, 1) := by decide +kernel
theorem d_X9_differs_59 : decode m_X9_differs.2.1 59 = .ok (.getfield 23, 3) := by decide +kernel
theorem d_X9_differs_62 : decode m_X9_differs.2.1 62 = .ok (.invokevirtual 84, 3) := by decide +kernel
theorem d_X9_differs_65 : decode m_X9_differs.2.1 65 = .ok (.aload_n 0, 1) := by decide +kernel
theorem d_X9_differs_66 : decode m_X9_differs.2.1 66 = .ok (.getfield 40, 3) := by decide +kernel
theorem d_X9_differs_69 : decode m_X9_differs.2.1 69 = .ok (.aload_n 0, 1) := by decide +kernel
theorem d_X9_differs_70 : decode m_X9_differs.2.1 70 = .ok (.getfield 23, 3) := by decide +kernel
theorem d_X9_differs_73 : decode m_X9_differs.2.1 73 = .ok (.iload_n 2, 1) := by decide +kernel
theorem d_X9_differs_74 : decode m_X9_differs.2.1 74 = .ok (.invokevirtual 177, 3) := by decide +kernel
theorem d_X9_differs_77 : decode m_X9_differs.2.1 77 = .ok (.lconst 0, 1) := by decide +kernel
theorem d_X9_differs_78 : decode m_X9_differs.2.1 78 = .ok (.lstore_n 3, 1) := by decide +kernel
theorem d_X9_differs_79 : decode m_X9_differs.2.1 79 = .ok (.iconst 0, 1) := by decide +kernel
theorem d_X9_differs_80 : decode m_X9_differs.2.1 80 = .ok (.istore 5, 2) := by decide +kernel
theorem d_X9_differs_82 : decode m_X9_differs.2.1 82 = .ok (.iload 5, 2) := by decide +kernel
theorem d_X9_differs_84 : decode m_X9_differs.2.1 84 = .ok (.iconst 3, 1) := by decide +kernel
theorem d_X9_differs_85 : decode m_X9_differs.2.1 85 = .ok (.if_icmp .ge 48, 3) := by decide +kernel
theorem d_X9_differs_88 : decode m_X9_differs.2.1 88 = .ok (.aload_n 0, 1) := by decide +kernel
theorem d_X9_differs_89 : decode m_X9_differs.2.1 89 = .ok (.getfield 19, 3) := by decide +kernel
theorem d_X9_differs_92 : decode m_X9_differs.2.1 92 = .ok (.getfield 168, 3) := by decide +kernel
theorem d_X9_differs_95 : decode m_X9_differs.2.1 95 = .ok (.iload 5, 2) := by decide +kernel
theorem d_X9_differs_97 : decode m_X9_differs.2.1 97 = .ok (.invokevirtual 216, 3) := by decide +kernel
theorem d_X9_differs_100 : decode m_X9_differs.2.1 100 = .ok (.i2l, 1) := by decide +kernel
theorem d_X9_differs_101 : decode m_X9_differs.2.1 101 = .ok (.lstore 6, 2) := by decide +kernel
theorem d_X9_differs_103 : decode m_X9_differs.2.1 103 = .ok (.lload_n 3, 1) := by decide +kernel
theorem d_X9_differs_104 : decode m_X9_differs.2.1 104 = .ok (.aload_n 0, 1) := by decide +kernel
theorem d_X9_differs_105 : decode m_X9_differs.2.1 105 = .ok (.getfield 23, 3) := by decide +kernel
theorem d_X9_differs_108 : decode m_X9_differs.2.1 108 = .ok (.getfield 168, 3) := by decide +kernel
theorem d_X9_differs_111 : decode m_X9_differs.2.1 111 = .ok (.iload 5, 2) := by decide +kernel
theorem d_X9_differs_113 : decode m_X9_differs.2.1 113 = .ok (.invokevirtual 216, 3) := by decide +kernel
theorem d_X9_differs_116 : decode m_X9_differs.2.1 116 = .ok (.i2l, 1) := by decide +kernel
theorem d_X9_differs_117 : decode m_X9_differs.2.1 117 = .ok (.lload 6, 2) := by decide +kernel
theorem d_X9_differs_119 : decode m_X9_differs.2.1 119 = .ok (.lsub, 1) := by decide +kernel
theorem d_X9_differs_120 : decode m_X9_differs.2.1 120 = .ok (.invokestatic 219, 3) := by decide +kernel
theorem d_X9_differs_123 : decode m_X9_differs.2.1 123 = .ok (.invokestatic 225, 3) := by decide +kernel
theorem d_X9_differs_126 : decode m_X9_differs.2.1 126 = .ok (.lstore_n 3, 1) := by decide +kernel
theorem d_X9_differs_127 : decode m_X9_differs.2.1 127 = .ok (.iinc 5 1, 3) := by decide +kernel
theorem d_X9_differs_130 : decode m_X9_differs.2.1 130 = .ok (.goto (-48), 3) := by decide +kernel
theorem d_X9_differs_133 : decode m_X9_differs.2.1 133 = .ok (.lload_n 3, 1) := by decide +kernel
theorem d_X9_differs_134 : decode m_X9_differs.2.1 134 = .ok (.invokestatic 229, 3) := by decide +kernel
theorem d_X9_differs_137 : decode m_X9_differs.2.1 137 = .ok (.ireturn, 1) := by decide +kernel
theorem d_X9_count_0 : decode m_X9_count.2.1 0 = .ok (.iload_n 1, 1) := by decide +kernel
theorem d_X9_count_1 : decode m_X9_count.2.1 1 = .ok (.tableswitch 186 0 14 #[75, 75, 75, 87, 98, 109, 120, 128, 136, 136, 136, 154, 154, 154, 172], 75) := by decide +kernel
theorem d_X9_count_76 : decode m_X9_count.2.1 76 = .ok (.aload_n 0, 1) := by decide +kernel
theorem d_X9_count_77 : decode m_X9_count.2.1 77 = .ok (.getfield 19, 3) := by decide +kernel
theorem d_X9_count_80 : decode m_X9_count.2.1 80 = .ok (.getfield 143, 3) := by decide +kernel
theorem d_X9_count_83 : decode m_X9_count.2.1 83 = .ok (.iload_n 1, 1) := by decide +kernel
theorem d_X9_count_84 : decode m_X9_count.2.1 84 = .ok (.invokestatic 91, 3) := by decide +kernel
theorem d_X9_count_87 : decode m_X9_count.2.1 87 = .ok (.ireturn, 1) := by decide +kernel
theorem d_X9_count_88 : decode m_X9_count.2.1 88 = .ok (.aload_n 0, 1) := by decide +kernel
theorem d_X9_count_89 : decode m_X9_count.2.1 89 = .ok (.getfield 19, 3) := by decide +kernel
theorem d_X9_count_92 : decode m_X9_count.2.1 92 = .ok (.getfield 168, 3) := by decide +kernel
theorem d_X9_count_95 : decode m_X9_count.2.1 95 = .ok (.invokevirtual 172, 3) := by decide +kernel
theorem d_X9_count_98 : decode m_X9_count.2.1 98 = .ok (.ireturn, 1) := by decide +kernel
theorem d_X9_count_99 : decode m_X9_count.2.1 99 = .ok (.aload_n 0, 1) := by decide +kernel
theorem d_X9_count_100 : decode m_X9_count.2.1 100 = .ok (.getfield 19, 3) := by decide +kernel
theorem d_X9_count_103 : decode m_X9_count.2.1 103 = .ok (.getfield 168, 3) := by decide +kernel
theorem d_X9_count_106 : decode m_X9_count.2.1 106 = .ok (.getfield 195, 3) := by decide +kernel
theorem d_X9_count_109 : decode m_X9_count.2.1 109 = .ok (.ireturn, 1) := by decide +kernel
theorem d_X9_count_110 : decode m_X9_count.2.1 110 = .ok (.aload_n 0, 1) := by decide +kernel
theorem d_X9_count_111 : decode m_X9_count.2.1 111 = .ok (.getfield 19, 3) := by decide +kernel
theorem d_X9_count_114 : decode m_X9_count.2.1 114 = .ok (.getfield 150, 3) := by decide +kernel
theorem d_X9_count_117 : decode m_X9_count.2.1 117 = .ok (.getfield 154, 3) := by decide +kernel
theorem d_X9_count_120 : decode m_X9_count.2.1 120 = .ok (.ireturn, 1) := by decide +kernel
theorem d_X9_count_121 : decode m_X9_count.2.1 121 = .ok (.aload_n 0, 1) := by decide +kernel
theorem d_X9_count_122 : decode m_X9_count.2.1 122 = .ok (.getfield 12, 3) := by decide +kernel
theorem d_X9_count_125 : decode m_X9_count.2.1 125 = .ok (.getfield 53, 3) := by decide +kernel
theorem d_X9_count_128 : decode m_X9_count.2.1 128 = .ok (.ireturn, 1) := by decide +kernel
theorem d_X9_count_129 : decode m_X9_count.2.1 129 = .ok (.aload_n 0, 1) := by decide +kernel
theorem d_X9_count_130 : decode m_X9_count.2.1 130 = .ok (.getfield 29, 3) := by decide +kernel
theorem d_X9_count_133 : decode m_X9_count.2.1 133 = .ok (.getfield 233, 3) := by decide +kernel
theorem d_X9_count_136 : decode m_X9_count.2.1 136 = .ok (.ireturn, 1) := by decide +kernel
theorem d_X9_count_137 : decode m_X9_count.2.1 137 = .ok (.aload_n 0, 1) := by decide +kernel
theorem d_X9_count_138 : decode m_X9_count.2.1 138 = .ok (.getfield 19, 3) := by decide +kernel
theorem d_X9_count_141 : decode m_X9_count.2.1 141 = .ok (.getfield 120, 3) := by decide +kernel
theorem d_X9_count_144 : decode m_X9_count.2.1 144 = .ok (.getfield 130, 3) := by decide +kernel
theorem d_X9_count_147 : decode m_X9_count.2.1 147 = .ok (.iload_n 1, 1) := by decide +kernel
theorem d_X9_count_148 : decode m_X9_count.2.1 148 = .ok (.bipush 8, 2) := by decide +kernel
theorem d_X9_count_150 : decode m_X9_count.2.1 150 = .ok (.isub, 1) := by decide +kernel
theorem d_X9_count_151 : decode m_X9_count.2.1 151 = .ok (.invokestatic 91, 3) := by decide +kernel
theorem d_X9_count_154 : decode m_X9_count.2.1 154 = .ok (.ireturn, 1) := by decide +kernel
theorem d_X9_count_155 : decode m_X9_count.2.1 155 = .ok (.aload_n 0, 1) := by decide +kernel
theorem d_X9_count_156 : decode m_X9_count.2.1 156 = .ok (.getfield 19, 3) := by decide +kernel
theorem d_X9_count_159 : decode m_X9_count.2.1 159 = .ok (.getfield 102, 3) := by decide +kernel
theorem d_X9_count_162 : decode m_X9_count.2.1 162 = .ok (.getfield 115, 3) := by decide +kernel
theorem d_X9_count_165 : decode m_X9_count.2.1 165 = .ok (.iload_n 1, 1) := by decide +kernel
theorem d_X9_count_166 : decode m_X9_count.2.1 166 = .ok (.bipush 11, 2) := by decide +kernel
theorem d_X9_count_168 : decode m_X9_count.2.1 168 = .ok (.isub, 1) := by decide +kernel
theorem d_X9_count_169 : decode m_X9_count.2.1 169 = .ok (.invokestatic 91, 3) := by decide +kernel
theorem d_X9_count_172 : decode m_X9_count.2.1 172 = .ok (.ireturn, 1) := by decide +kernel
theorem d_X9_count_173 : decode m_X9_count.2.1 173 = .ok (.aload_n 0, 1) := by decide +kernel
theorem d_X9_count_174 : decode m_X9_count.2.1 174 = .ok (.getfield 19, 3) := by decide +kernel
theorem d_X9_count_177 : decode m_X9_count.2.1 177 = .ok (.getfield 74, 3) := by decide +kernel
theorem d_X9_count_180 : decode m_X9_count.2.1 180 = .ok (.invokevirtual 234, 3) := by decide +kernel
theorem d_X9_count_183 : decode m_X9_count.2.1 183 = .ok (.invokestatic 95, 3) := by decide +kernel
theorem d_X9_count_186 : decode m_X9_count.2.1 186 = .ok (.ireturn, 1) := by decide +kernel
theorem d_X9_count_187 : decode m_X9_count.2.1 187 = .ok (.ldc 48, 2) := by decide +kernel
theorem d_X9_count_189 : decode m_X9_count.2.1 189 = .ok (.ireturn, 1) := by decide +kernel
theorem d_X9_undo_0 : decode m_X9_undo.2.1 0 = .ok (.aload_n 0, 1) := by decide +kernel
theorem d_X9_undo_1 : decode m_X9_undo.2.1 1 = .ok (.getfield 29, 3) := by decide +kernel
theorem d_X9_undo_4 : decode m_X9_undo.2.1 4 = .ok (.aload_n 0, 1) := by decide +kernel
theorem d_X9_undo_5 : decode m_X9_undo.2.1 5 = .ok (.getfield 19, 3) := by decide +kernel
theorem d_X9_undo_8 : decode m_X9_undo.2.1 8 = .ok (.invokevirtual 237, 3) := by decide +kernel
theorem d_X9_undo_11 : decode m_X9_undo.2.1 11 = .ok (.ifCond .eq 13, 3) := by decide +kernel
theorem d_X9_undo_14 : decode m_X9_undo.2.1 14 = .ok (.aload_n 0, 1) := by decide +kernel
theorem d_X9_undo_15 : decode m_X9_undo.2.1 15 = .ok (.getfield 29, 3) := by decide +kernel
theorem d_X9_undo_18 : decode m_X9_undo.2.1 18 = .ok (.getfield 233, 3) := by decide +kernel
theorem d_X9_undo_21 : decode m_X9_undo.2.1 21 = .ok (.goto 5, 3) := by decide +kernel
theorem d_X9_undo_24 : decode m_X9_undo.2.1 24 = .ok (.ldc 69, 2) := by decide +kernel
theorem d_X9_undo_26 : decode m_X9_undo.2.1 26 = .ok (.ireturn, 1) := by decide +kernel
theorem d_X9_save_0 : decode m_X9_save.2.1 0 = .ok (.iload_n 1, 1) := by decide +kernel
theorem d_X9_save_1 : decode m_X9_save.2.1 1 = .ok (.ifCond .lt 12, 3) := by decide +kernel
theorem d_X9_save_4 : decode m_X9_save.2.1 4 = .ok (.iload_n 1, 1) := by decide +kernel
theorem d_X9_save_5 : decode m_X9_save.2.1 5 = .ok (.aload_n 0, 1) := by decide +kernel
theorem d_X9_save_6 : decode m_X9_save.2.1 6 = .ok (.getfield 33, 3) := by decide +kernel
theorem d_X9_save_9 : decode m_X9_save.2.1 9 = .ok (.arraylength, 1) := by decide +kernel
theorem d_X9_save_10 : decode m_X9_save.2.1 10 = .ok (.if_icmp .lt 6, 3) := by decide +kernel
theorem d_X9_save_13 : decode m_X9_save.2.1 13 = .ok (.ldc 48, 2) := by decide +kernel
theorem d_X9_save_15 : decode m_X9_save.2.1 15 = .ok (.ireturn, 1) := by decide +kernel
theorem d_X9_save_16 : decode m_X9_save.2.1 16 = .ok (.aload_n 0, 1) := by decide +kernel
theorem d_X9_save_17 : decode m_X9_save.2.1 17 = .ok (.getfield 33, 3) := by decide +kernel
theorem d_X9_save_20 : decode m_X9_save.2.1 20 = .ok (.iload_n 1, 1) := by decide +kernel
theorem d_X9_save_21 : decode m_X9_save.2.1 21 = .ok (.aaload, 1) := by decide +kernel
theorem d_X9_save_22 : decode m_X9_save.2.1 22 = .ok (.astore_n 2, 1) := by decide +kernel
theorem d_X9_save_23 : decode m_X9_save.2.1 23 = .ok (.aload_n 2, 1) := by decide +kernel
theorem d_X9_save_24 : decode m_X9_save.2.1 24 = .ok (.ifnonnull 18, 3) := by decide +kernel
theorem d_X9_save_27 : decode m_X9_save.2.1 27 = .ok (.new 16, 3) := by decide +kernel
theorem d_X9_save_30 : decode m_X9_save.2.1 30 = .ok (.dup, 1) := by decide +kernel
theorem d_X9_save_31 : decode m_X9_save.2.1 31 = .ok (.invokespecial 18, 3) := by decide +kernel
theorem d_X9_save_34 : decode m_X9_save.2.1 34 = .ok (.astore_n 2, 1) := by decide +kernel
theorem d_X9_save_35 : decode m_X9_save.2.1 35 = .ok (.aload_n 0, 1) := by decide +kernel
theorem d_X9_save_36 : decode m_X9_save.2.1 36 = .ok (.getfield 33, 3) := by decide +kernel
theorem d_X9_save_39 : decode m_X9_save.2.1 39 = .ok (.iload_n 1, 1) := by decide +kernel
theorem d_X9_save_40 : decode m_X9_save.2.1 40 = .ok (.aload_n 2, 1) := by decide +kernel
theorem d_X9_save_41 : decode m_X9_save.2.1 41 = .ok (.aastore, 1) := by decide +kernel
theorem d_X9_save_42 : decode m_X9_save.2.1 42 = .ok (.aload_n 2, 1) := by decide +kernel
theorem d_X9_save_43 : decode m_X9_save.2.1 43 = .ok (.aload_n 0, 1) := by decide +kernel
theorem d_X9_save_44 : decode m_X9_save.2.1 44 = .ok (.getfield 19, 3) := by decide +kernel
theorem d_X9_save_47 : decode m_X9_save.2.1 47 = .ok (.invokevirtual 241, 3) := by decide +kernel
theorem d_X9_save_50 : decode m_X9_save.2.1 50 = .ok (.aload_n 0, 1) := by decide +kernel
theorem d_X9_save_51 : decode m_X9_save.2.1 51 = .ok (.getfield 19, 3) := by decide +kernel
theorem d_X9_save_54 : decode m_X9_save.2.1 54 = .ok (.getfield 168, 3) := by decide +kernel
theorem d_X9_save_57 : decode m_X9_save.2.1 57 = .ok (.invokevirtual 172, 3) := by decide +kernel
theorem d_X9_save_60 : decode m_X9_save.2.1 60 = .ok (.ireturn, 1) := by decide +kernel
theorem d_X9_restore_0 : decode m_X9_restore.2.1 0 = .ok (.iload_n 1, 1) := by decide +kernel
theorem d_X9_restore_1 : decode m_X9_restore.2.1 1 = .ok (.ifCond .lt 12, 3) := by decide +kernel
theorem d_X9_restore_4 : decode m_X9_restore.2.1 4 = .ok (.iload_n 1, 1) := by decide +kernel
theorem d_X9_restore_5 : decode m_X9_restore.2.1 5 = .ok (.aload_n 0, 1) := by decide +kernel
theorem d_X9_restore_6 : decode m_X9_restore.2.1 6 = .ok (.getfield 33, 3) := by decide +kernel
theorem d_X9_restore_9 : decode m_X9_restore.2.1 9 = .ok (.arraylength, 1) := by decide +kernel
theorem d_X9_restore_10 : decode m_X9_restore.2.1 10 = .ok (.if_icmp .lt 6, 3) := by decide +kernel
theorem d_X9_restore_13 : decode m_X9_restore.2.1 13 = .ok (.ldc 48, 2) := by decide +kernel
theorem d_X9_restore_15 : decode m_X9_restore.2.1 15 = .ok (.ireturn, 1) := by decide +kernel
theorem d_X9_restore_16 : decode m_X9_restore.2.1 16 = .ok (.aload_n 0, 1) := by decide +kernel
theorem d_X9_restore_17 : decode m_X9_restore.2.1 17 = .ok (.getfield 33, 3) := by decide +kernel
theorem d_X9_restore_20 : decode m_X9_restore.2.1 20 = .ok (.iload_n 1, 1) := by decide +kernel
theorem d_X9_restore_21 : decode m_X9_restore.2.1 21 = .ok (.aaload, 1) := by decide +kernel
theorem d_X9_restore_22 : decode m_X9_restore.2.1 22 = .ok (.astore_n 2, 1) := by decide +kernel
theorem d_X9_restore_23 : decode m_X9_restore.2.1 23 = .ok (.aload_n 2, 1) := by decide +kernel
theorem d_X9_restore_24 : decode m_X9_restore.2.1 24 = .ok (.ifnonnull 6, 3) := by decide +kernel
theorem d_X9_restore_27 : decode m_X9_restore.2.1 27 = .ok (.ldc 69, 2) := by decide +kernel
theorem d_X9_restore_29 : decode m_X9_restore.2.1 29 = .ok (.ireturn, 1) := by decide +kernel
theorem d_X9_restore_30 : decode m_X9_restore.2.1 30 = .ok (.aload_n 0, 1) := by decide +kernel
theorem d_X9_restore_31 : decode m_X9_restore.2.1 31 = .ok (.getfield 29, 3) := by decide +kernel
theorem d_X9_restore_34 : decode m_X9_restore.2.1 34 = .ok (.aload_n 0, 1) := by decide +kernel
theorem d_X9_restore_35 : decode m_X9_restore.2.1 35 = .ok (.getfield 19, 3) := by decide +kernel
theorem d_X9_restore_38 : decode m_X9_restore.2.1 38 = .ok (.invokevirtual 70, 3) := by decide +kernel
theorem d_X9_restore_41 : decode m_X9_restore.2.1 41 = .ok (.aload_n 0, 1) := by decide +kernel
theorem d_X9_restore_42 : decode m_X9_restore.2.1 42 = .ok (.getfield 19, 3) := by decide +kernel
theorem d_X9_restore_45 : decode m_X9_restore.2.1 45 = .ok (.aload_n 2, 1) := by decide +kernel
theorem d_X9_restore_46 : decode m_X9_restore.2.1 46 = .ok (.invokevirtual 241, 3) := by decide +kernel
theorem d_X9_restore_49 : decode m_X9_restore.2.1 49 = .ok (.aload_n 0, 1) := by decide +kernel
theorem d_X9_restore_50 : decode m_X9_restore.2.1 50 = .ok (.getfield 19, 3) := by decide +kernel
theorem d_X9_restore_53 : decode m_X9_restore.2.1 53 = .ok (.getfield 168, 3) := by decide +kernel
theorem d_X9_restore_56 : decode m_X9_restore.2.1 56 = .ok (.invokevirtual 172, 3) := by decide +kernel
theorem d_X9_restore_59 : decode m_X9_restore.2.1 59 = .ok (.ireturn, 1) := by decide +kernel
theorem d_X9_isWithin_0 : decode m_X9_isWithin.2.1 0 = .ok (.iload_n 0, 1) := by decide +kernel
theorem d_X9_isWithin_1 : decode m_X9_isWithin.2.1 1 = .ok (.iload_n 1, 1) := by decide +kernel
theorem d_X9_isWithin_2 : decode m_X9_isWithin.2.1 2 = .ok (.if_icmp .lt 12, 3) := by decide +kernel
theorem d_X9_isWithin_5 : decode m_X9_isWithin.2.1 5 = .ok (.iload_n 0, 1) := by decide +kernel
theorem d_X9_isWithin_6 : decode m_X9_isWithin.2.1 6 = .ok (.iload_n 2, 1) := by decide +kernel
theorem d_X9_isWithin_7 : decode m_X9_isWithin.2.1 7 = .ok (.if_icmp .gt 7, 3) := by decide +kernel
theorem d_X9_isWithin_10 : decode m_X9_isWithin.2.1 10 = .ok (.iconst 1, 1) := by decide +kernel
theorem d_X9_isWithin_11 : decode m_X9_isWithin.2.1 11 = .ok (.goto 4, 3) := by decide +kernel
theorem d_X9_isWithin_14 : decode m_X9_isWithin.2.1 14 = .ok (.iconst 0, 1) := by decide +kernel
theorem d_X9_isWithin_15 : decode m_X9_isWithin.2.1 15 = .ok (.ireturn, 1) := by decide +kernel
theorem d_X9_isVariable_0 : decode m_X9_isVariable.2.1 0 = .ok (.iload_n 0, 1) := by decide +kernel
theorem d_X9_isVariable_1 : decode m_X9_isVariable.2.1 1 = .ok (.iconst 0, 1) := by decide +kernel
theorem d_X9_isVariable_2 : decode m_X9_isVariable.2.1 2 = .ok (.iconst 2, 1) := by decide +kernel
theorem d_X9_isVariable_3 : decode m_X9_isVariable.2.1 3 = .ok (.invokestatic 44, 3) := by decide +kernel
theorem d_X9_isVariable_6 : decode m_X9_isVariable.2.1 6 = .ok (.ireturn, 1) := by decide +kernel
theorem d_X9_isDelay_0 : decode m_X9_isDelay.2.1 0 = .ok (.iload_n 0, 1) := by decide +kernel
theorem d_X9_isDelay_1 : decode m_X9_isDelay.2.1 1 = .ok (.iconst 0, 1) := by decide +kernel
theorem d_X9_isDelay_2 : decode m_X9_isDelay.2.1 2 = .ok (.iconst 2, 1) := by decide +kernel
theorem d_X9_isDelay_3 : decode m_X9_isDelay.2.1 3 = .ok (.invokestatic 44, 3) := by decide +kernel
theorem d_X9_isDelay_6 : decode m_X9_isDelay.2.1 6 = .ok (.ireturn, 1) := by decide +kernel
theorem d_X9_hold_0 : decode m_X9_hold.2.1 0 = .ok (.lload_n 0, 1) := by decide +kernel
theorem d_X9_hold_1 : decode m_X9_hold.2.1 1 = .ok (.ldc2_w 244, 3) := by decide +kernel
theorem d_X9_hold_4 : decode m_X9_hold.2.1 4 = .ok (.lcmp, 1) := by decide +kernel
theorem d_X9_hold_5 : decode m_X9_hold.2.1 5 = .ok (.ifCond .ge 8, 3) := by decide +kernel
theorem d_X9_hold_8 : decode m_X9_hold.2.1 8 = .ok (.ldc 210, 2) := by decide +kernel
theorem d_X9_hold_10 : decode m_X9_hold.2.1 10 = .ok (.goto 18, 3) := by decide +kernel
theorem d_X9_hold_13 : decode m_X9_hold.2.1 13 = .ok (.lload_n 0, 1) := by decide +kernel
theorem d_X9_hold_14 : decode m_X9_hold.2.1 14 = .ok (.ldc2_w 246, 3) := by decide +kernel
theorem d_X9_hold_17 : decode m_X9_hold.2.1 17 = .ok (.lcmp, 1) := by decide +kernel
theorem d_X9_hold_18 : decode m_X9_hold.2.1 18 = .ok (.ifCond .le 8, 3) := by decide +kernel
theorem d_X9_hold_21 : decode m_X9_hold.2.1 21 = .ok (.ldc 211, 2) := by decide +kernel
theorem d_X9_hold_23 : decode m_X9_hold.2.1 23 = .ok (.goto 5, 3) := by decide +kernel
theorem d_X9_hold_26 : decode m_X9_hold.2.1 26 = .ok (.lload_n 0, 1) := by decide +kernel
theorem d_X9_hold_27 : decode m_X9_hold.2.1 27 = .ok (.l2i, 1) := by decide +kernel
theorem d_X9_hold_28 : decode m_X9_hold.2.1 28 = .ok (.ireturn, 1) := by decide +kernel
theorem d_X9_quotient_0 : decode m_X9_quotient.2.1 0 = .ok (.lload_n 2, 1) := by decide +kernel
theorem d_X9_quotient_1 : decode m_X9_quotient.2.1 1 = .ok (.lconst 0, 1) := by decide +kernel
theorem d_X9_quotient_2 : decode m_X9_quotient.2.1 2 = .ok (.lcmp, 1) := by decide +kernel
theorem d_X9_quotient_3 : decode m_X9_quotient.2.1 3 = .ok (.ifCond .ne 7, 3) := by decide +kernel
theorem d_X9_quotient_6 : decode m_X9_quotient.2.1 6 = .ok (.lconst 0, 1) := by decide +kernel
theorem d_X9_quotient_7 : decode m_X9_quotient.2.1 7 = .ok (.goto 6, 3) := by decide +kernel
theorem d_X9_quotient_10 : decode m_X9_quotient.2.1 10 = .ok (.lload_n 0, 1) := by decide +kernel
theorem d_X9_quotient_11 : decode m_X9_quotient.2.1 11 = .ok (.lload_n 2, 1) := by decide +kernel
theorem d_X9_quotient_12 : decode m_X9_quotient.2.1 12 = .ok (.ldiv, 1) := by decide +kernel
theorem d_X9_quotient_13 : decode m_X9_quotient.2.1 13 = .ok (.lreturn, 1) := by decide +kernel
theorem d_X9_pick_0 : decode m_X9_pick.2.1 0 = .ok (.aload_n 0, 1) := by decide +kernel
theorem d_X9_pick_1 : decode m_X9_pick.2.1 1 = .ok (.ifnull 19, 3) := by decide +kernel
theorem d_X9_pick_4 : decode m_X9_pick.2.1 4 = .ok (.iload_n 1, 1) := by decide +kernel
theorem d_X9_pick_5 : decode m_X9_pick.2.1 5 = .ok (.ifCond .lt 15, 3) := by decide +kernel
theorem d_X9_pick_8 : decode m_X9_pick.2.1 8 = .ok (.iload_n 1, 1) := by decide +kernel
theorem d_X9_pick_9 : decode m_X9_pick.2.1 9 = .ok (.aload_n 0, 1) := by decide +kernel
theorem d_X9_pick_10 : decode m_X9_pick.2.1 10 = .ok (.arraylength, 1) := by decide +kernel
theorem d_X9_pick_11 : decode m_X9_pick.2.1 11 = .ok (.if_icmp .ge 9, 3) := by decide +kernel
theorem d_X9_pick_14 : decode m_X9_pick.2.1 14 = .ok (.aload_n 0, 1) := by decide +kernel
theorem d_X9_pick_15 : decode m_X9_pick.2.1 15 = .ok (.iload_n 1, 1) := by decide +kernel
theorem d_X9_pick_16 : decode m_X9_pick.2.1 16 = .ok (.iaload, 1) := by decide +kernel
theorem d_X9_pick_17 : decode m_X9_pick.2.1 17 = .ok (.goto 4, 3) := by decide +kernel
theorem d_X9_pick_20 : decode m_X9_pick.2.1 20 = .ok (.iconst 0, 1) := by decide +kernel
theorem d_X9_pick_21 : decode m_X9_pick.2.1 21 = .ok (.ireturn, 1) := by decide +kernel
theorem d_X9_put_0 : decode m_X9_put.2.1 0 = .ok (.aload_n 0, 1) := by decide +kernel
theorem d_X9_put_1 : decode m_X9_put.2.1 1 = .ok (.ifnull 17, 3) := by decide +kernel
theorem d_X9_put_4 : decode m_X9_put.2.1 4 = .ok (.iload_n 1, 1) := by decide +kernel
theorem d_X9_put_5 : decode m_X9_put.2.1 5 = .ok (.ifCond .lt 13, 3) := by decide +kernel
theorem d_X9_put_8 : decode m_X9_put.2.1 8 = .ok (.iload_n 1, 1) := by decide +kernel
theorem d_X9_put_9 : decode m_X9_put.2.1 9 = .ok (.aload_n 0, 1) := by decide +kernel
theorem d_X9_put_10 : decode m_X9_put.2.1 10 = .ok (.arraylength, 1) := by decide +kernel
theorem d_X9_put_11 : decode m_X9_put.2.1 11 = .ok (.if_icmp .ge 7, 3) := by decide +kernel
theorem d_X9_put_14 : decode m_X9_put.2.1 14 = .ok (.aload_n 0, 1) := by decide +kernel
theorem d_X9_put_15 : decode m_X9_put.2.1 15 = .ok (.iload_n 1, 1) := by decide +kernel
theorem d_X9_put_16 : decode m_X9_put.2.1 16 = .ok (.iload_n 2, 1) := by decide +kernel
theorem d_X9_put_17 : decode m_X9_put.2.1 17 = .ok (.iastore, 1) := by decide +kernel
theorem d_X9_put_18 : decode m_X9_put.2.1 18 = .ok (.return_, 1) := by decide +kernel
theorem d_X9_copyRow_0 : decode m_X9_copyRow.2.1 0 = .ok (.aload_n 0, 1) := by decide +kernel
theorem d_X9_copyRow_1 : decode m_X9_copyRow.2.1 1 = .ok (.ifnull 7, 3) := by decide +kernel
theorem d_X9_copyRow_4 : decode m_X9_copyRow.2.1 4 = .ok (.aload_n 1, 1) := by decide +kernel
theorem d_X9_copyRow_5 : decode m_X9_copyRow.2.1 5 = .ok (.ifnonnull 4, 3) := by decide +kernel
theorem d_X9_copyRow_8 : decode m_X9_copyRow.2.1 8 = .ok (.return_, 1) := by decide +kernel
theorem d_X9_copyRow_9 : decode m_X9_copyRow.2.1 9 = .ok (.iload_n 2, 1) := by decide +kernel
theorem d_X9_copyRow_10 : decode m_X9_copyRow.2.1 10 = .ok (.aload_n 0, 1) := by decide +kernel
theorem d_X9_copyRow_11 : decode m_X9_copyRow.2.1 11 = .ok (.arraylength, 1) := by decide +kernel
theorem d_X9_copyRow_12 : decode m_X9_copyRow.2.1 12 = .ok (.aload_n 1, 1) := by decide +kernel
theorem d_X9_copyRow_13 : decode m_X9_copyRow.2.1 13 = .ok (.arraylength, 1) := by decide +kernel
theorem d_X9_copyRow_14 : decode m_X9_copyRow.2.1 14 = .ok (.invokestatic 248, 3) := by decide +kernel
theorem d_X9_copyRow_17 : decode m_X9_copyRow.2.1 17 = .ok (.invokestatic 248, 3) := by decide +kernel
theorem d_X9_copyRow_20 : decode m_X9_copyRow.2.1 20 = .ok (.istore_n 3, 1) := by decide +kernel
theorem d_X9_copyRow_21 : decode m_X9_copyRow.2.1 21 = .ok (.iload_n 3, 1) := by decide +kernel
theorem d_X9_copyRow_22 : decode m_X9_copyRow.2.1 22 = .ok (.ifCond .le 11, 3) := by decide +kernel
theorem d_X9_copyRow_25 : decode m_X9_copyRow.2.1 25 = .ok (.aload_n 0, 1) := by decide +kernel
theorem d_X9_copyRow_26 : decode m_X9_copyRow.2.1 26 = .ok (.iconst 0, 1) := by decide +kernel
theorem d_X9_copyRow_27 : decode m_X9_copyRow.2.1 27 = .ok (.aload_n 1, 1) := by decide +kernel
theorem d_X9_copyRow_28 : decode m_X9_copyRow.2.1 28 = .ok (.iconst 0, 1) := by decide +kernel
theorem d_X9_copyRow_29 : decode m_X9_copyRow.2.1 29 = .ok (.iload_n 3, 1) := by decide +kernel
theorem d_X9_copyRow_30 : decode m_X9_copyRow.2.1 30 = .ok (.invokestatic 251, 3) := by decide +kernel
theorem d_X9_copyRow_33 : decode m_X9_copyRow.2.1 33 = .ok (.return_, 1) := by decide +kernel
theorem d_X9_makeRoom_0 : decode m_X9_makeRoom.2.1 0 = .ok (.iload_n 2, 1) := by decide +kernel
theorem d_X9_makeRoom_1 : decode m_X9_makeRoom.2.1 1 = .ok (.istore_n 3, 1) := by decide +kernel
theorem d_X9_makeRoom_2 : decode m_X9_makeRoom.2.1 2 = .ok (.iload_n 3, 1) := by decide +kernel
theorem d_X9_makeRoom_3 : decode m_X9_makeRoom.2.1 3 = .ok (.iload_n 1, 1) := by decide +kernel
theorem d_X9_makeRoom_4 : decode m_X9_makeRoom.2.1 4 = .ok (.if_icmp .le 21, 3) := by decide +kernel
theorem d_X9_makeRoom_7 : decode m_X9_makeRoom.2.1 7 = .ok (.aload_n 0, 1) := by decide +kernel
theorem d_X9_makeRoom_8 : decode m_X9_makeRoom.2.1 8 = .ok (.iload_n 3, 1) := by decide +kernel
theorem d_X9_makeRoom_9 : decode m_X9_makeRoom.2.1 9 = .ok (.aload_n 0, 1) := by decide +kernel
theorem d_X9_makeRoom_10 : decode m_X9_makeRoom.2.1 10 = .ok (.iload_n 3, 1) := by decide +kernel
theorem d_X9_makeRoom_11 : decode m_X9_makeRoom.2.1 11 = .ok (.iconst 1, 1) := by decide +kernel
theorem d_X9_makeRoom_12 : decode m_X9_makeRoom.2.1 12 = .ok (.isub, 1) := by decide +kernel
theorem d_X9_makeRoom_13 : decode m_X9_makeRoom.2.1 13 = .ok (.invokestatic 91, 3) := by decide +kernel
theorem d_X9_makeRoom_16 : decode m_X9_makeRoom.2.1 16 = .ok (.invokestatic 111, 3) := by decide +kernel
theorem d_X9_makeRoom_19 : decode m_X9_makeRoom.2.1 19 = .ok (.iinc 3 (-1), 3) := by decide +kernel
theorem d_X9_makeRoom_22 : decode m_X9_makeRoom.2.1 22 = .ok (.goto (-20), 3) := by decide +kernel
theorem d_X9_makeRoom_25 : decode m_X9_makeRoom.2.1 25 = .ok (.return_, 1) := by decide +kernel
theorem d_X9_hasBit_0 : decode m_X9_hasBit.2.1 0 = .ok (.iload_n 0, 1) := by decide +kernel
theorem d_X9_hasBit_1 : decode m_X9_hasBit.2.1 1 = .ok (.iload_n 1, 1) := by decide +kernel
theorem d_X9_hasBit_2 : decode m_X9_hasBit.2.1 2 = .ok (.ishr, 1) := by decide +kernel
theorem d_X9_hasBit_3 : decode m_X9_hasBit.2.1 3 = .ok (.iconst 1, 1) := by decide +kernel
theorem d_X9_hasBit_4 : decode m_X9_hasBit.2.1 4 = .ok (.iand, 1) := by decide +kernel
theorem d_X9_hasBit_5 : decode m_X9_hasBit.2.1 5 = .ok (.ifCond .eq 7, 3) := by decide +kernel
theorem d_X9_hasBit_8 : decode m_X9_hasBit.2.1 8 = .ok (.iconst 1, 1) := by decide +kernel
theorem d_X9_hasBit_9 : decode m_X9_hasBit.2.1 9 = .ok (.goto 4, 3) := by decide +kernel
theorem d_X9_hasBit_12 : decode m_X9_hasBit.2.1 12 = .ok (.iconst 0, 1) := by decide +kernel
theorem d_X9_hasBit_13 : decode m_X9_hasBit.2.1 13 = .ok (.ireturn, 1) := by decide +kernel
theorem d_X9_pastOperand_0 : decode m_X9_pastOperand.2.1 0 = .ok (.iconst 4, 1) := by decide +kernel
theorem d_X9_pastOperand_1 : decode m_X9_pastOperand.2.1 1 = .ok (.iload_n 0, 1) := by decide +kernel
theorem d_X9_pastOperand_2 : decode m_X9_pastOperand.2.1 2 = .ok (.iconst 3, 1) := by decide +kernel
theorem d_X9_pastOperand_3 : decode m_X9_pastOperand.2.1 3 = .ok (.imul, 1) := by decide +kernel
theorem d_X9_pastOperand_4 : decode m_X9_pastOperand.2.1 4 = .ok (.iadd, 1) := by decide +kernel
theorem d_X9_pastOperand_5 : decode m_X9_pastOperand.2.1 5 = .ok (.iload_n 1, 1) := by decide +kernel
theorem d_X9_pastOperand_6 : decode m_X9_pastOperand.2.1 6 = .ok (.iadd, 1) := by decide +kernel
theorem d_X9_pastOperand_7 : decode m_X9_pastOperand.2.1 7 = .ok (.ireturn, 1) := by decide +kernel
theorem d_X9_slopeOperand_0 : decode m_X9_slopeOperand.2.1 0 = .ok (.bipush 13, 2) := by decide +kernel
theorem d_X9_slopeOperand_2 : decode m_X9_slopeOperand.2.1 2 = .ok (.iload_n 0, 1) := by decide +kernel
theorem d_X9_slopeOperand_3 : decode m_X9_slopeOperand.2.1 3 = .ok (.iconst 3, 1) := by decide +kernel
theorem d_X9_slopeOperand_4 : decode m_X9_slopeOperand.2.1 4 = .ok (.imul, 1) := by decide +kernel
theorem d_X9_slopeOperand_5 : decode m_X9_slopeOperand.2.1 5 = .ok (.iadd, 1) := by decide +kernel
theorem d_X9_slopeOperand_6 : decode m_X9_slopeOperand.2.1 6 = .ok (.iload_n 1, 1) := by decide +kernel
theorem d_X9_slopeOperand_7 : decode m_X9_slopeOperand.2.1 7 = .ok (.iadd, 1) := by decide +kernel
theorem d_X9_slopeOperand_8 : decode m_X9_slopeOperand.2.1 8 = .ok (.ireturn, 1) := by decide +kernel
theorem d_X9_needsDelay_0 : decode m_X9_needsDelay.2.1 0 = .ok (.bipush 7, 2) := by decide +kernel
theorem d_X9_needsDelay_2 : decode m_X9_needsDelay.2.1 2 = .ok (.iload_n 1, 1) := by decide +kernel
theorem d_X9_needsDelay_3 : decode m_X9_needsDelay.2.1 3 = .ok (.iconst 0, 1) := by decide +kernel
theorem d_X9_needsDelay_4 : decode m_X9_needsDelay.2.1 4 = .ok (.invokestatic 257, 3) := by decide +kernel
theorem d_X9_needsDelay_7 : decode m_X9_needsDelay.2.1 7 = .ok (.ishl, 1) := by decide +kernel
theorem d_X9_needsDelay_8 : decode m_X9_needsDelay.2.1 8 = .ok (.bipush 7, 2) := by decide +kernel
theorem d_X9_needsDelay_10 : decode m_X9_needsDelay.2.1 10 = .ok (.iload_n 1, 1) := by decide +kernel
theorem d_X9_needsDelay_11 : decode m_X9_needsDelay.2.1 11 = .ok (.iconst 0, 1) := by decide +kernel
theorem d_X9_needsDelay_12 : decode m_X9_needsDelay.2.1 12 = .ok (.invokestatic 260, 3) := by decide +kernel
theorem d_X9_needsDelay_15 : decode m_X9_needsDelay.2.1 15 = .ok (.ishl, 1) := by decide +kernel
theorem d_X9_needsDelay_16 : decode m_X9_needsDelay.2.1 16 = .ok (.ior, 1) := by decide +kernel
theorem d_X9_needsDelay_17 : decode m_X9_needsDelay.2.1 17 = .ok (.istore_n 2, 1) := by decide +kernel
theorem d_X9_needsDelay_18 : decode m_X9_needsDelay.2.1 18 = .ok (.iload_n 0, 1) := by decide +kernel
theorem d_X9_needsDelay_19 : decode m_X9_needsDelay.2.1 19 = .ok (.iload_n 2, 1) := by decide +kernel
theorem d_X9_needsDelay_20 : decode m_X9_needsDelay.2.1 20 = .ok (.iand, 1) := by decide +kernel
theorem d_X9_needsDelay_21 : decode m_X9_needsDelay.2.1 21 = .ok (.ifCond .eq 7, 3) := by decide +kernel
theorem d_X9_needsDelay_24 : decode m_X9_needsDelay.2.1 24 = .ok (.iconst 1, 1) := by decide +kernel
theorem d_X9_needsDelay_25 : decode m_X9_needsDelay.2.1 25 = .ok (.goto 4, 3) := by decide +kernel
theorem d_X9_needsDelay_28 : decode m_X9_needsDelay.2.1 28 = .ok (.iconst 0, 1) := by decide +kernel
theorem d_X9_needsDelay_29 : decode m_X9_needsDelay.2.1 29 = .ok (.ireturn, 1) := by decide +kernel
theorem d_X9_delaysIn_0 : decode m_X9_delaysIn.2.1 0 = .ok (.iconst 0, 1) := by decide +kernel
theorem d_X9_delaysIn_1 : decode m_X9_delaysIn.2.1 1 = .ok (.istore_n 1, 1) := by decide +kernel
theorem d_X9_delaysIn_2 : decode m_X9_delaysIn.2.1 2 = .ok (.iconst 0, 1) := by decide +kernel
theorem d_X9_delaysIn_3 : decode m_X9_delaysIn.2.1 3 = .ok (.istore_n 2, 1) := by decide +kernel
theorem d_X9_delaysIn_4 : decode m_X9_delaysIn.2.1 4 = .ok (.iload_n 2, 1) := by decide +kernel
theorem d_X9_delaysIn_5 : decode m_X9_delaysIn.2.1 5 = .ok (.iconst 3, 1) := by decide +kernel
theorem d_X9_delaysIn_6 : decode m_X9_delaysIn.2.1 6 = .ok (.if_icmp .ge 23, 3) := by decide +kernel
theorem d_X9_delaysIn_9 : decode m_X9_delaysIn.2.1 9 = .ok (.iload_n 0, 1) := by decide +kernel
theorem d_X9_delaysIn_10 : decode m_X9_delaysIn.2.1 10 = .ok (.iload_n 2, 1) := by decide +kernel
theorem d_X9_delaysIn_11 : decode m_X9_delaysIn.2.1 11 = .ok (.invokestatic 263, 3) := by decide +kernel
theorem d_X9_delaysIn_14 : decode m_X9_delaysIn.2.1 14 = .ok (.ifCond .eq 9, 3) := by decide +kernel
theorem d_X9_delaysIn_17 : decode m_X9_delaysIn.2.1 17 = .ok (.iload_n 1, 1) := by decide +kernel
theorem d_X9_delaysIn_18 : decode m_X9_delaysIn.2.1 18 = .ok (.iconst 1, 1) := by decide +kernel
theorem d_X9_delaysIn_19 : decode m_X9_delaysIn.2.1 19 = .ok (.iload_n 2, 1) := by decide +kernel
theorem d_X9_delaysIn_20 : decode m_X9_delaysIn.2.1 20 = .ok (.ishl, 1) := by decide +kernel
theorem d_X9_delaysIn_21 : decode m_X9_delaysIn.2.1 21 = .ok (.ior, 1) := by decide +kernel
theorem d_X9_delaysIn_22 : decode m_X9_delaysIn.2.1 22 = .ok (.istore_n 1, 1) := by decide +kernel
theorem d_X9_delaysIn_23 : decode m_X9_delaysIn.2.1 23 = .ok (.iinc 2 1, 3) := by decide +kernel
theorem d_X9_delaysIn_26 : decode m_X9_delaysIn.2.1 26 = .ok (.goto (-22), 3) := by decide +kernel
theorem d_X9_delaysIn_29 : decode m_X9_delaysIn.2.1 29 = .ok (.iload_n 1, 1) := by decide +kernel
theorem d_X9_delaysIn_30 : decode m_X9_delaysIn.2.1 30 = .ok (.ireturn, 1) := by decide +kernel
end
section
set_option maxRecDepth 20000
theorem d_X10_init_0 : decode m_X10_init.2.1 0 = .ok (.aload_n 0, 1) := by decide +kernel
theorem d_X10_init_1 : decode m_X10_init.2.1 1 = .ok (.invokespecial 1, 3) := by decide +kernel
theorem d_X10_init_4 : decode m_X10_init.2.1 4 = .ok (.aload_n 0, 1) := by decide +kernel
theorem d_X10_init_5 : decode m_X10_init.2.1 5 = .ok (.sipush 812, 3) := by decide +kernel
theorem d_X10_init_8 : decode m_X10_init.2.1 8 = .ok (.newarray .int, 2) := by decide +kernel
theorem d_X10_init_10 : decode m_X10_init.2.1 10 = .ok (.putfield 7, 3) := by decide +kernel
theorem d_X10_init_13 : decode m_X10_init.2.1 13 = .ok (.aload_n 0, 1) := by decide +kernel
theorem d_X10_init_14 : decode m_X10_init.2.1 14 = .ok (.sipush 3248, 3) := by decide +kernel
theorem d_X10_init_17 : decode m_X10_init.2.1 17 = .ok (.newarray .int, 2) := by decide +kernel
theorem d_X10_init_19 : decode m_X10_init.2.1 19 = .ok (.putfield 13, 3) := by decide +kernel
theorem d_X10_init_22 : decode m_X10_init.2.1 22 = .ok (.aload_n 0, 1) := by decide +kernel
theorem d_X10_init_23 : decode m_X10_init.2.1 23 = .ok (.sipush 1624, 3) := by decide +kernel
theorem d_X10_init_26 : decode m_X10_init.2.1 26 = .ok (.newarray .int, 2) := by decide +kernel
theorem d_X10_init_28 : decode m_X10_init.2.1 28 = .ok (.putfield 16, 3) := by decide +kernel
theorem d_X10_init_31 : decode m_X10_init.2.1 31 = .ok (.aload_n 0, 1) := by decide +kernel
theorem d_X10_init_32 : decode m_X10_init.2.1 32 = .ok (.iconst 2, 1) := by decide +kernel
theorem d_X10_init_33 : decode m_X10_init.2.1 33 = .ok (.newarray .int, 2) := by decide +kernel
theorem d_X10_init_35 : decode m_X10_init.2.1 35 = .ok (.putfield 19, 3) := by decide +kernel
theorem d_X10_init_38 : decode m_X10_init.2.1 38 = .ok (.aload_n 0, 1) := by decide +kernel
theorem d_X10_init_39 : decode m_X10_init.2.1 39 = .ok (.bipush 80, 2) := by decide +kernel
theorem d_X10_init_41 : decode m_X10_init.2.1 41 = .ok (.newarray .int, 2) := by decide +kernel
theorem d_X10_init_43 : decode m_X10_init.2.1 43 = .ok (.putfield 22, 3) := by decide +kernel
theorem d_X10_init_46 : decode m_X10_init.2.1 46 = .ok (.aload_n 0, 1) := by decide +kernel
theorem d_X10_init_47 : decode m_X10_init.2.1 47 = .ok (.bipush 64, 2) := by decide +kernel
theorem d_X10_init_49 : decode m_X10_init.2.1 49 = .ok (.newarray .int, 2) := by decide +kernel
theorem d_X10_init_51 : decode m_X10_init.2.1 51 = .ok (.putfield 25, 3) := by decide +kernel
theorem d_X10_init_54 : decode m_X10_init.2.1 54 = .ok (.aload_n 0, 1) := by decide +kernel
theorem d_X10_init_55 : decode m_X10_init.2.1 55 = .ok (.bipush 64, 2) := by decide +kernel
theorem d_X10_init_57 : decode m_X10_init.2.1 57 = .ok (.newarray .int, 2) := by decide +kernel
theorem d_X10_init_59 : decode m_X10_init.2.1 59 = .ok (.putfield 28, 3) := by decide +kernel
theorem d_X10_init_62 : decode m_X10_init.2.1 62 = .ok (.aload_n 0, 1) := by decide +kernel
theorem d_X10_init_63 : decode m_X10_init.2.1 63 = .ok (.bipush 64, 2) := by decide +kernel
theorem d_X10_init_65 : decode m_X10_init.2.1 65 = .ok (.newarray .int, 2) := by decide +kernel
theorem d_X10_init_67 : decode m_X10_init.2.1 67 = .ok (.putfield 31, 3) := by decide +kernel
theorem d_X10_init_70 : decode m_X10_init.2.1 70 = .ok (.aload_n 0, 1) := by decide +kernel
theorem d_X10_init_71 : decode m_X10_init.2.1 71 = .ok (.sipush 1100, 3) := by decide +kernel
theorem d_X10_init_74 : decode m_X10_init.2.1 74 = .ok (.newarray .int, 2) := by decide +kernel
theorem d_X10_init_76 : decode m_X10_init.2.1 76 = .ok (.putfield 34, 3) := by decide +kernel
theorem d_X10_init_79 : decode m_X10_init.2.1 79 = .ok (.aload_n 0, 1) := by decide +kernel
theorem d_X10_init_80 : decode m_X10_init.2.1 80 = .ok (.sipush 1100, 3) := by decide +kernel
theorem d_X10_init_83 : decode m_X10_init.2.1 83 = .ok (.newarray .int, 2) := by decide +kernel
theorem d_X10_init_85 : decode m_X10_init.2.1 85 = .ok (.putfield 37, 3) := by decide +kernel
theorem d_X10_init_88 : decode m_X10_init.2.1 88 = .ok (.aload_n 0, 1) := by decide +kernel
theorem d_X10_init_89 : decode m_X10_init.2.1 89 = .ok (.sipush 1100, 3) := by decide +kernel
theorem d_X10_init_92 : decode m_X10_init.2.1 92 = .ok (.newarray .int, 2) := by decide +kernel
theorem d_X10_init_94 : decode m_X10_init.2.1 94 = .ok (.putfield 40, 3) := by decide +kernel
theorem d_X10_init_97 : decode m_X10_init.2.1 97 = .ok (.aload_n 0, 1) := by decide +kernel
theorem d_X10_init_98 : decode m_X10_init.2.1 98 = .ok (.sipush 3300, 3) := by decide +kernel
theorem d_X10_init_101 : decode m_X10_init.2.1 101 = .ok (.newarray .long, 2) := by decide +kernel
theorem d_X10_init_103 : decode m_X10_init.2.1 103 = .ok (.putfield 43, 3) := by decide +kernel
theorem d_X10_init_106 : decode m_X10_init.2.1 106 = .ok (.aload_n 0, 1) := by decide +kernel
theorem d_X10_init_107 : decode m_X10_init.2.1 107 = .ok (.sipush 3300, 3) := by decide +kernel
theorem d_X10_init_110 : decode m_X10_init.2.1 110 = .ok (.newarray .long, 2) := by decide +kernel
theorem d_X10_init_112 : decode m_X10_init.2.1 112 = .ok (.putfield 47, 3) := by decide +kernel
theorem d_X10_init_115 : decode m_X10_init.2.1 115 = .ok (.aload_n 0, 1) := by decide +kernel
theorem d_X10_init_116 : decode m_X10_init.2.1 116 = .ok (.sipush 3300, 3) := by decide +kernel
theorem d_X10_init_119 : decode m_X10_init.2.1 119 = .ok (.newarray .long, 2) := by decide +kernel
theorem d_X10_init_121 : decode m_X10_init.2.1 121 = .ok (.putfield 50, 3) := by decide +kernel
theorem d_X10_init_124 : decode m_X10_init.2.1 124 = .ok (.aload_n 0, 1) := by decide +kernel
theorem d_X10_init_125 : decode m_X10_init.2.1 125 = .ok (.iconst 3, 1) := by decide +kernel
theorem d_X10_init_126 : decode m_X10_init.2.1 126 = .ok (.newarray .long, 2) := by decide +kernel
theorem d_X10_init_128 : decode m_X10_init.2.1 128 = .ok (.putfield 53, 3) := by decide +kernel
theorem d_X10_init_131 : decode m_X10_init.2.1 131 = .ok (.aload_n 0, 1) := by decide +kernel
theorem d_X10_init_132 : decode m_X10_init.2.1 132 = .ok (.iconst 3, 1) := by decide +kernel
theorem d_X10_init_133 : decode m_X10_init.2.1 133 = .ok (.newarray .long, 2) := by decide +kernel
theorem d_X10_init_135 : decode m_X10_init.2.1 135 = .ok (.putfield 56, 3) := by decide +kernel
theorem d_X10_init_138 : decode m_X10_init.2.1 138 = .ok (.aload_n 0, 1) := by decide +kernel
theorem d_X10_init_139 : decode m_X10_init.2.1 139 = .ok (.iconst 3, 1) := by decide +kernel
theorem d_X10_init_140 : decode m_X10_init.2.1 140 = .ok (.newarray .long, 2) := by decide +kernel
theorem d_X10_init_142 : decode m_X10_init.2.1 142 = .ok (.putfield 59, 3) := by decide +kernel
theorem d_X10_init_145 : decode m_X10_init.2.1 145 = .ok (.aload_n 0, 1) := by decide +kernel
theorem d_X10_init_146 : decode m_X10_init.2.1 146 = .ok (.iconst 3, 1) := by decide +kernel
theorem d_X10_init_147 : decode m_X10_init.2.1 147 = .ok (.newarray .long, 2) := by decide +kernel
theorem d_X10_init_149 : decode m_X10_init.2.1 149 = .ok (.putfield 62, 3) := by decide +kernel
theorem d_X10_init_152 : decode m_X10_init.2.1 152 = .ok (.aload_n 0, 1) := by decide +kernel
theorem d_X10_init_153 : decode m_X10_init.2.1 153 = .ok (.iconst 3, 1) := by decide +kernel
theorem d_X10_init_154 : decode m_X10_init.2.1 154 = .ok (.newarray .long, 2) := by decide +kernel
theorem d_X10_init_156 : decode m_X10_init.2.1 156 = .ok (.putfield 65, 3) := by decide +kernel
theorem d_X10_init_159 : decode m_X10_init.2.1 159 = .ok (.aload_n 0, 1) := by decide +kernel
theorem d_X10_init_160 : decode m_X10_init.2.1 160 = .ok (.bipush 80, 2) := by decide +kernel
theorem d_X10_init_162 : decode m_X10_init.2.1 162 = .ok (.newarray .long, 2) := by decide +kernel
theorem d_X10_init_164 : decode m_X10_init.2.1 164 = .ok (.putfield 68, 3) := by decide +kernel
theorem d_X10_init_167 : decode m_X10_init.2.1 167 = .ok (.aload_n 0, 1) := by decide +kernel
theorem d_X10_init_168 : decode m_X10_init.2.1 168 = .ok (.sipush 160, 3) := by decide +kernel
theorem d_X10_init_171 : decode m_X10_init.2.1 171 = .ok (.newarray .int, 2) := by decide +kernel
theorem d_X10_init_173 : decode m_X10_init.2.1 173 = .ok (.putfield 71, 3) := by decide +kernel
theorem d_X10_init_176 : decode m_X10_init.2.1 176 = .ok (.aload_n 0, 1) := by decide +kernel
theorem d_X10_init_177 : decode m_X10_init.2.1 177 = .ok (.getfield 7, 3) := by decide +kernel
theorem d_X10_init_180 : decode m_X10_init.2.1 180 = .ok (.iconst 0, 1) := by decide +kernel
theorem d_X10_init_181 : decode m_X10_init.2.1 181 = .ok (.bipush 100, 2) := by decide +kernel
theorem d_X10_init_183 : decode m_X10_init.2.1 183 = .ok (.iastore, 1) := by decide +kernel
theorem d_X10_init_184 : decode m_X10_init.2.1 184 = .ok (.aload_n 0, 1) := by decide +kernel
theorem d_X10_init_185 : decode m_X10_init.2.1 185 = .ok (.getfield 7, 3) := by decide +kernel
theorem d_X10_init_188 : decode m_X10_init.2.1 188 = .ok (.iconst 1, 1) := by decide +kernel
theorem d_X10_init_189 : decode m_X10_init.2.1 189 = .ok (.iconst 1, 1) := by decide +kernel
theorem d_X10_init_190 : decode m_X10_init.2.1 190 = .ok (.iastore, 1) := by decide +kernel
theorem d_X10_init_191 : decode m_X10_init.2.1 191 = .ok (.aload_n 0, 1) := by decide +kernel
theorem d_X10_init_192 : decode m_X10_init.2.1 192 = .ok (.getfield 7, 3) := by decide +kernel
theorem d_X10_init_195 : decode m_X10_init.2.1 195 = .ok (.iconst 2, 1) := by decide +kernel
theorem d_X10_init_196 : decode m_X10_init.2.1 196 = .ok (.iconst 2, 1) := by decide +kernel
theorem d_X10_init_197 : decode m_X10_init.2.1 197 = .ok (.iastore, 1) := by decide +kernel
theorem d_X10_init_198 : decode m_X10_init.2.1 198 = .ok (.iconst 0, 1) := by decide +kernel
theorem d_X10_init_199 : decode m_X10_init.2.1 199 = .ok (.istore_n 1, 1) := by decide +kernel
theorem d_X10_init_200 : decode m_X10_init.2.1 200 = .ok (.iload_n 1, 1) := by decide +kernel
theorem d_X10_init_201 : decode m_X10_init.2.1 201 = .ok (.iconst 3, 1) := by decide +kernel
theorem d_X10_init_202 : decode m_X10_init.2.1 202 = .ok (.if_icmp .ge 38, 3) := by decide +kernel
theorem d_X10_init_205 : decode m_X10_init.2.1 205 = .ok (.aload_n 0, 1) := by decide +kernel
theorem d_X10_init_206 : decode m_X10_init.2.1 206 = .ok (.getfield 7, 3) := by decide +kernel
theorem d_X10_init_209 : decode m_X10_init.2.1 209 = .ok (.bipush 48, 2) := by decide +kernel
theorem d_X10_init_211 : decode m_X10_init.2.1 211 = .ok (.bipush 81, 2) := by decide +kernel
theorem d_X10_init_213 : decode m_X10_init.2.1 213 = .ok (.iload_n 1, 1) := by decide +kernel
theorem d_X10_init_214 : decode m_X10_init.2.1 214 = .ok (.imul, 1) := by decide +kernel
theorem d_X10_init_215 : decode m_X10_init.2.1 215 = .ok (.iadd, 1) := by decide +kernel
theorem d_X10_init_216 : decode m_X10_init.2.1 216 = .ok (.iconst 1, 1) := by decide +kernel
theorem d_X10_init_217 : decode m_X10_init.2.1 217 = .ok (.iastore, 1) := by decide +kernel
theorem d_X10_init_218 : decode m_X10_init.2.1 218 = .ok (.aload_n 0, 1) := by decide +kernel
theorem d_X10_init_219 : decode m_X10_init.2.1 219 = .ok (.getfield 7, 3) := by decide +kernel
theorem d_X10_init_222 : decode m_X10_init.2.1 222 = .ok (.bipush 48, 2) := by decide +kernel
theorem d_X10_init_224 : decode m_X10_init.2.1 224 = .ok (.bipush 81, 2) := by decide +kernel
theorem d_X10_init_226 : decode m_X10_init.2.1 226 = .ok (.iload_n 1, 1) := by decide +kernel
theorem d_X10_init_227 : decode m_X10_init.2.1 227 = .ok (.imul, 1) := by decide +kernel
theorem d_X10_init_228 : decode m_X10_init.2.1 228 = .ok (.iadd, 1) := by decide +kernel
theorem d_X10_init_229 : decode m_X10_init.2.1 229 = .ok (.iconst 1, 1) := by decide +kernel
theorem d_X10_init_230 : decode m_X10_init.2.1 230 = .ok (.iadd, 1) := by decide +kernel
theorem d_X10_init_231 : decode m_X10_init.2.1 231 = .ok (.bipush 48, 2) := by decide +kernel
theorem d_X10_init_233 : decode m_X10_init.2.1 233 = .ok (.iastore, 1) := by decide +kernel
theorem d_X10_init_234 : decode m_X10_init.2.1 234 = .ok (.iinc 1 1, 3) := by decide +kernel
theorem d_X10_init_237 : decode m_X10_init.2.1 237 = .ok (.goto (-37), 3) := by decide +kernel
theorem d_X10_init_240 : decode m_X10_init.2.1 240 = .ok (.aload_n 0, 1) := by decide +kernel
theorem d_X10_init_241 : decode m_X10_init.2.1 241 = .ok (.invokevirtual 74, 3) := by decide +kernel
theorem d_X10_init_244 : decode m_X10_init.2.1 244 = .ok (.return_, 1) := by decide +kernel
theorem d_X10_within_0 : decode m_X10_within.2.1 0 = .ok (.iload_n 0, 1) := by decide +kernel
theorem d_X10_within_1 : decode m_X10_within.2.1 1 = .ok (.iload_n 1, 1) := by decide +kernel
theorem d_X10_within_2 : decode m_X10_within.2.1 2 = .ok (.if_icmp .lt 12, 3) := by decide +kernel
theorem d_X10_within_5 : decode m_X10_within.2.1 5 = .ok (.iload_n 0, 1) := by decide +kernel
theorem d_X10_within_6 : decode m_X10_within.2.1 6 = .ok (.iload_n 2, 1) := by decide +kernel
theorem d_X10_within_7 : decode m_X10_within.2.1 7 = .ok (.if_icmp .gt 7, 3) := by decide +kernel
theorem d_X10_within_10 : decode m_X10_within.2.1 10 = .ok (.iconst 1, 1) := by decide +kernel
theorem d_X10_within_11 : decode m_X10_within.2.1 11 = .ok (.goto 4, 3) := by decide +kernel
theorem d_X10_within_14 : decode m_X10_within.2.1 14 = .ok (.iconst 0, 1) := by decide +kernel
theorem d_X10_within_15 : decode m_X10_within.2.1 15 = .ok (.ireturn, 1) := by decide +kernel
theorem d_X10_held_0 : decode m_X10_held.2.1 0 = .ok (.lload_n 0, 1) := by decide +kernel
theorem d_X10_held_1 : decode m_X10_held.2.1 1 = .ok (.ldc2_w 77, 3) := by decide +kernel
theorem d_X10_held_4 : decode m_X10_held.2.1 4 = .ok (.lcmp, 1) := by decide +kernel
theorem d_X10_held_5 : decode m_X10_held.2.1 5 = .ok (.ifCond .ge 9, 3) := by decide +kernel
theorem d_X10_held_8 : decode m_X10_held.2.1 8 = .ok (.ldc2_w 77, 3) := by decide +kernel
theorem d_X10_held_11 : decode m_X10_held.2.1 11 = .ok (.goto 18, 3) := by decide +kernel
theorem d_X10_held_14 : decode m_X10_held.2.1 14 = .ok (.lload_n 0, 1) := by decide +kernel
theorem d_X10_held_15 : decode m_X10_held.2.1 15 = .ok (.ldc2_w 79, 3) := by decide +kernel
theorem d_X10_held_18 : decode m_X10_held.2.1 18 = .ok (.lcmp, 1) := by decide +kernel
theorem d_X10_held_19 : decode m_X10_held.2.1 19 = .ok (.ifCond .le 9, 3) := by decide +kernel
theorem d_X10_held_22 : decode m_X10_held.2.1 22 = .ok (.ldc2_w 79, 3) := by decide +kernel
theorem d_X10_held_25 : decode m_X10_held.2.1 25 = .ok (.goto 4, 3) := by decide +kernel
theorem d_X10_held_28 : decode m_X10_held.2.1 28 = .ok (.lload_n 0, 1) := by decide +kernel
theorem d_X10_held_29 : decode m_X10_held.2.1 29 = .ok (.lreturn, 1) := by decide +kernel
theorem d_X10_saves_0 : decode m_X10_saves.2.1 0 = .ok (.aload_n 0, 1) := by decide +kernel
theorem d_X10_saves_1 : decode m_X10_saves.2.1 1 = .ok (.getfield 81, 3) := by decide +kernel
theorem d_X10_saves_4 : decode m_X10_saves.2.1 4 = .ok (.iconst 4, 1) := by decide +kernel
theorem d_X10_saves_5 : decode m_X10_saves.2.1 5 = .ok (.if_icmp .ne 44, 3) := by decide +kernel
theorem d_X10_saves_8 : decode m_X10_saves.2.1 8 = .ok (.iconst 0, 1) := by decide +kernel
theorem d_X10_saves_9 : decode m_X10_saves.2.1 9 = .ok (.istore_n 1, 1) := by decide +kernel
theorem d_X10_saves_10 : decode m_X10_saves.2.1 10 = .ok (.iload_n 1, 1) := by decide +kernel
theorem d_X10_saves_11 : decode m_X10_saves.2.1 11 = .ok (.sipush 2436, 3) := by decide +kernel
theorem d_X10_saves_14 : decode m_X10_saves.2.1 14 = .ok (.if_icmp .ge 25, 3) := by decide +kernel
theorem d_X10_saves_17 : decode m_X10_saves.2.1 17 = .ok (.aload_n 0, 1) := by decide +kernel
theorem d_X10_saves_18 : decode m_X10_saves.2.1 18 = .ok (.getfield 13, 3) := by decide +kernel
theorem d_X10_saves_21 : decode m_X10_saves.2.1 21 = .ok (.iload_n 1, 1) := by decide +kernel
theorem d_X10_saves_22 : decode m_X10_saves.2.1 22 = .ok (.aload_n 0, 1) := by decide +kernel
theorem d_X10_saves_23 : decode m_X10_saves.2.1 23 = .ok (.getfield 13, 3) := by decide +kernel
theorem d_X10_saves_26 : decode m_X10_saves.2.1 26 = .ok (.iload_n 1, 1) := by decide +kernel
theorem d_X10_saves_27 : decode m_X10_saves.2.1 27 = .ok (.sipush 812, 3) := by decide +kernel
theorem d_X10_saves_30 : decode m_X10_saves.2.1 30 = .ok (.iadd, 1) := by decide +kernel
theorem d_X10_saves_31 : decode m_X10_saves.2.1 31 = .ok (.iaload, 1) := by decide +kernel
theorem d_X10_saves_32 : decode m_X10_saves.2.1 32 = .ok (.iastore, 1) := by decide +kernel
theorem d_X10_saves_33 : decode m_X10_saves.2.1 33 = .ok (.iinc 1 1, 3) := by decide +kernel
theorem d_X10_saves_36 : decode m_X10_saves.2.1 36 = .ok (.goto (-26), 3) := by decide +kernel
theorem d_X10_saves_39 : decode m_X10_saves.2.1 39 = .ok (.aload_n 0, 1) := by decide +kernel
theorem d_X10_saves_40 : decode m_X10_saves.2.1 40 = .ok (.dup, 1) := by decide +kernel
theorem d_X10_saves_41 : decode m_X10_saves.2.1 41 = .ok (.getfield 81, 3) := by decide +kernel
theorem d_X10_saves_44 : decode m_X10_saves.2.1 44 = .ok (.iconst 1, 1) := by decide +kernel
theorem d_X10_saves_45 : decode m_X10_saves.2.1 45 = .ok (.isub, 1) := by decide +kernel
theorem d_X10_saves_46 : decode m_X10_saves.2.1 46 = .ok (.putfield 81, 3) := by decide +kernel
theorem d_X10_saves_49 : decode m_X10_saves.2.1 49 = .ok (.iconst 0, 1) := by decide +kernel
theorem d_X10_saves_50 : decode m_X10_saves.2.1 50 = .ok (.istore_n 1, 1) := by decide +kernel
theorem d_X10_saves_51 : decode m_X10_saves.2.1 51 = .ok (.iload_n 1, 1) := by decide +kernel
theorem d_X10_saves_52 : decode m_X10_saves.2.1 52 = .ok (.sipush 812, 3) := by decide +kernel
theorem d_X10_saves_55 : decode m_X10_saves.2.1 55 = .ok (.if_icmp .ge 30, 3) := by decide +kernel
theorem d_X10_saves_58 : decode m_X10_saves.2.1 58 = .ok (.aload_n 0, 1) := by decide +kernel
theorem d_X10_saves_59 : decode m_X10_saves.2.1 59 = .ok (.getfield 13, 3) := by decide +kernel
theorem d_X10_saves_62 : decode m_X10_saves.2.1 62 = .ok (.sipush 812, 3) := by decide +kernel
theorem d_X10_saves_65 : decode m_X10_saves.2.1 65 = .ok (.aload_n 0, 1) := by decide +kernel
theorem d_X10_saves_66 : decode m_X10_saves.2.1 66 = .ok (.getfield 81, 3) := by decide +kernel
theorem d_X10_saves_69 : decode m_X10_saves.2.1 69 = .ok (.imul, 1) := by decide +kernel
theorem d_X10_saves_70 : decode m_X10_saves.2.1 70 = .ok (.iload_n 1, 1) := by decide +kernel
theorem d_X10_saves_71 : decode m_X10_saves.2.1 71 = .ok (.iadd, 1) := by decide +kernel
theorem d_X10_saves_72 : decode m_X10_saves.2.1 72 = .ok (.aload_n 0, 1) := by decide +kernel
theorem d_X10_saves_73 : decode m_X10_saves.2.1 73 = .ok (.getfield 7, 3) := by decide +kernel
theorem d_X10_saves_76 : decode m_X10_saves.2.1 76 = .ok (.iload_n 1, 1) := by decide +kernel
theorem d_X10_saves_77 : decode m_X10_saves.2.1 77 = .ok (.iaload, 1) := by decide +kernel
theorem d_X10_saves_78 : decode m_X10_saves.2.1 78 = .ok (.iastore, 1) := by decide +kernel
theorem d_X10_saves_79 : decode m_X10_saves.2.1 79 = .ok (.iinc 1 1, 3) := by decide +kernel
theorem d_X10_saves_82 : decode m_X10_saves.2.1 82 = .ok (.goto (-31), 3) := by decide +kernel
theorem d_X10_saves_85 : decode m_X10_saves.2.1 85 = .ok (.aload_n 0, 1) := by decide +kernel
theorem d_X10_saves_86 : decode m_X10_saves.2.1 86 = .ok (.dup, 1) := by decide +kernel
theorem d_X10_saves_87 : decode m_X10_saves.2.1 87 = .ok (.getfield 81, 3) := by decide +kernel
theorem d_X10_saves_90 : decode m_X10_saves.2.1 90 = .ok (.iconst 1, 1) := by decide +kernel
theorem d_X10_saves_91 : decode m_X10_saves.2.1 91 = .ok (.iadd, 1) := by decide +kernel
theorem d_X10_saves_92 : decode m_X10_saves.2.1 92 = .ok (.putfield 81, 3) := by decide +kernel
theorem d_X10_saves_95 : decode m_X10_saves.2.1 95 = .ok (.return_, 1) := by decide +kernel
theorem d_X10_undo_0 : decode m_X10_undo.2.1 0 = .ok (.aload_n 0, 1) := by decide +kernel
theorem d_X10_undo_1 : decode m_X10_undo.2.1 1 = .ok (.getfield 81, 3) := by decide +kernel
theorem d_X10_undo_4 : decode m_X10_undo.2.1 4 = .ok (.ifCond .ne 6, 3) := by decide +kernel
theorem d_X10_undo_7 : decode m_X10_undo.2.1 7 = .ok (.ldc 85, 2) := by decide +kernel
theorem d_X10_undo_9 : decode m_X10_undo.2.1 9 = .ok (.ireturn, 1) := by decide +kernel
theorem d_X10_undo_10 : decode m_X10_undo.2.1 10 = .ok (.aload_n 0, 1) := by decide +kernel
theorem d_X10_undo_11 : decode m_X10_undo.2.1 11 = .ok (.dup, 1) := by decide +kernel
theorem d_X10_undo_12 : decode m_X10_undo.2.1 12 = .ok (.getfield 81, 3) := by decide +kernel
theorem d_X10_undo_15 : decode m_X10_undo.2.1 15 = .ok (.iconst 1, 1) := by decide +kernel
theorem d_X10_undo_16 : decode m_X10_undo.2.1 16 = .ok (.isub, 1) := by decide +kernel
theorem d_X10_undo_17 : decode m_X10_undo.2.1 17 = .ok (.putfield 81, 3) := by decide +kernel
theorem d_X10_undo_20 : decode m_X10_undo.2.1 20 = .ok (.iconst 0, 1) := by decide +kernel
theorem d_X10_undo_21 : decode m_X10_undo.2.1 21 = .ok (.istore_n 1, 1) := by decide +kernel
theorem d_X10_undo_22 : decode m_X10_undo.2.1 22 = .ok (.iload_n 1, 1) := by decide +kernel
theorem d_X10_undo_23 : decode m_X10_undo.2.1 23 = .ok (.sipush 812, 3) := by decide +kernel
theorem d_X10_undo_26 : decode m_X10_undo.2.1 26 = .ok (.if_icmp .ge 30, 3) := by decide +kernel
theorem d_X10_undo_29 : decode m_X10_undo.2.1 29 = .ok (.aload_n 0, 1) := by decide +kernel
theorem d_X10_undo_30 : decode m_X10_undo.2.1 30 = .ok (.getfield 7, 3) := by decide +kernel
theorem d_X10_undo_33 : decode m_X10_undo.2.1 33 = .ok (.iload_n 1, 1) := by decide +kernel
theorem d_X10_undo_34 : decode m_X10_undo.2.1 34 = .ok (.aload_n 0, 1) := by decide +kernel
theorem d_X10_undo_35 : decode m_X10_undo.2.1 35 = .ok (.getfield 13, 3) := by decide +kernel
theorem d_X10_undo_38 : decode m_X10_undo.2.1 38 = .ok (.sipush 812, 3) := by decide +kernel
theorem d_X10_undo_41 : decode m_X10_undo.2.1 41 = .ok (.aload_n 0, 1) := by decide +kernel
theorem d_X10_undo_42 : decode m_X10_undo.2.1 42 = .ok (.getfield 81, 3) := by decide +kernel
theorem d_X10_undo_45 : decode m_X10_undo.2.1 45 = .ok (.imul, 1) := by decide +kernel
theorem d_X10_undo_46 : decode m_X10_undo.2.1 46 = .ok (.iload_n 1, 1) := by decide +kernel
theorem d_X10_undo_47 : decode m_X10_undo.2.1 47 = .ok (.iadd, 1) := by decide +kernel
theorem d_X10_undo_48 : decode m_X10_undo.2.1 48 = .ok (.iaload, 1) := by decide +kernel
theorem d_X10_undo_49 : decode m_X10_undo.2.1 49 = .ok (.iastore, 1) := by decide +kernel
theorem d_X10_undo_50 : decode m_X10_undo.2.1 50 = .ok (.iinc 1 1, 3) := by decide +kernel
theorem d_X10_undo_53 : decode m_X10_undo.2.1 53 = .ok (.goto (-31), 3) := by decide +kernel
theorem d_X10_undo_56 : decode m_X10_undo.2.1 56 = .ok (.aload_n 0, 1) := by decide +kernel
theorem d_X10_undo_57 : decode m_X10_undo.2.1 57 = .ok (.invokevirtual 74, 3) := by decide +kernel
theorem d_X10_undo_60 : decode m_X10_undo.2.1 60 = .ok (.aload_n 0, 1) := by decide +kernel
theorem d_X10_undo_61 : decode m_X10_undo.2.1 61 = .ok (.getfield 81, 3) := by decide +kernel
theorem d_X10_undo_64 : decode m_X10_undo.2.1 64 = .ok (.ireturn, 1) := by decide +kernel
theorem d_X10_save_0 : decode m_X10_save.2.1 0 = .ok (.iload_n 1, 1) := by decide +kernel
theorem d_X10_save_1 : decode m_X10_save.2.1 1 = .ok (.iconst 0, 1) := by decide +kernel
theorem d_X10_save_2 : decode m_X10_save.2.1 2 = .ok (.iconst 1, 1) := by decide +kernel
theorem d_X10_save_3 : decode m_X10_save.2.1 3 = .ok (.invokestatic 86, 3) := by decide +kernel
theorem d_X10_save_6 : decode m_X10_save.2.1 6 = .ok (.ifCond .ne 6, 3) := by decide +kernel
theorem d_X10_save_9 : decode m_X10_save.2.1 9 = .ok (.ldc 90, 2) := by decide +kernel
theorem d_X10_save_11 : decode m_X10_save.2.1 11 = .ok (.ireturn, 1) := by decide +kernel
theorem d_X10_save_12 : decode m_X10_save.2.1 12 = .ok (.iconst 0, 1) := by decide +kernel
theorem d_X10_save_13 : decode m_X10_save.2.1 13 = .ok (.istore_n 2, 1) := by decide +kernel
theorem d_X10_save_14 : decode m_X10_save.2.1 14 = .ok (.iload_n 2, 1) := by decide +kernel
theorem d_X10_save_15 : decode m_X10_save.2.1 15 = .ok (.sipush 812, 3) := by decide +kernel
theorem d_X10_save_18 : decode m_X10_save.2.1 18 = .ok (.if_icmp .ge 27, 3) := by decide +kernel
theorem d_X10_save_21 : decode m_X10_save.2.1 21 = .ok (.aload_n 0, 1) := by decide +kernel
theorem d_X10_save_22 : decode m_X10_save.2.1 22 = .ok (.getfield 16, 3) := by decide +kernel
theorem d_X10_save_25 : decode m_X10_save.2.1 25 = .ok (.sipush 812, 3) := by decide +kernel
theorem d_X10_save_28 : decode m_X10_save.2.1 28 = .ok (.iload_n 1, 1) := by decide +kernel
theorem d_X10_save_29 : decode m_X10_save.2.1 29 = .ok (.imul, 1) := by decide +kernel
theorem d_X10_save_30 : decode m_X10_save.2.1 30 = .ok (.iload_n 2, 1) := by decide +kernel
theorem d_X10_save_31 : decode m_X10_save.2.1 31 = .ok (.iadd, 1) := by decide +kernel
theorem d_X10_save_32 : decode m_X10_save.2.1 32 = .ok (.aload_n 0, 1) := by decide +kernel
theorem d_X10_save_33 : decode m_X10_save.2.1 33 = .ok (.getfield 7, 3) := by decide +kernel
theorem d_X10_save_36 : decode m_X10_save.2.1 36 = .ok (.iload_n 2, 1) := by decide +kernel
theorem d_X10_save_37 : decode m_X10_save.2.1 37 = .ok (.iaload, 1) := by decide +kernel
theorem d_X10_save_38 : decode m_X10_save.2.1 38 = .ok (.iastore, 1) := by decide +kernel
theorem d_X10_save_39 : decode m_X10_save.2.1 39 = .ok (.iinc 2 1, 3) := by decide +kernel
theorem d_X10_save_42 : decode m_X10_save.2.1 42 = .ok (.goto (-28), 3) := by decide +kernel
theorem d_X10_save_45 : decode m_X10_save.2.1 45 = .ok (.aload_n 0, 1) := by decide +kernel
theorem d_X10_save_46 : decode m_X10_save.2.1 46 = .ok (.getfield 19, 3) := by decide +kernel
theorem d_X10_save_49 : decode m_X10_save.2.1 49 = .ok (.iload_n 1, 1) := by decide +kernel
theorem d_X10_save_50 : decode m_X10_save.2.1 50 = .ok (.iconst 1, 1) := by decide +kernel
theorem d_X10_save_51 : decode m_X10_save.2.1 51 = .ok (.iastore, 1) := by decide +kernel
theorem d_X10_save_52 : decode m_X10_save.2.1 52 = .ok (.aload_n 0, 1) := by decide +kernel
theorem d_X10_save_53 : decode m_X10_save.2.1 53 = .ok (.getfield 91, 3) := by decide +kernel
theorem d_X10_save_56 : decode m_X10_save.2.1 56 = .ok (.ireturn, 1) := by decide +kernel
theorem d_X10_restore_0 : decode m_X10_restore.2.1 0 = .ok (.iload_n 1, 1) := by decide +kernel
theorem d_X10_restore_1 : decode m_X10_restore.2.1 1 = .ok (.iconst 0, 1) := by decide +kernel
theorem d_X10_restore_2 : decode m_X10_restore.2.1 2 = .ok (.iconst 1, 1) := by decide +kernel
theorem d_X10_restore_3 : decode m_X10_restore.2.1 3 = .ok (.invokestatic 86, 3) := by decide +kernel
theorem d_X10_restore_6 : decode m_X10_restore.2.1 6 = .ok (.ifCond .ne 6, 3) := by decide +kernel
theorem d_X10_restore_9 : decode m_X10_restore.2.1 9 = .ok (.ldc 90, 2) := by decide +kernel
theorem d_X10_restore_11 : decode m_X10_restore.2.1 11 = .ok (.ireturn, 1) := by decide +kernel
theorem d_X10_restore_12 : decode m_X10_restore.2.1 12 = .ok (.aload_n 0, 1) := by decide +kernel
theorem d_X10_restore_13 : decode m_X10_restore.2.1 13 = .ok (.getfield 19, 3) := by decide +kernel
theorem d_X10_restore_16 : decode m_X10_restore.2.1 16 = .ok (.iload_n 1, 1) := by decide +kernel
theorem d_X10_restore_17 : decode m_X10_restore.2.1 17 = .ok (.iaload, 1) := by decide +kernel
theorem d_X10_restore_18 : decode m_X10_restore.2.1 18 = .ok (.ifCond .ne 6, 3) := by decide +kernel
theorem d_X10_restore_21 : decode m_X10_restore.2.1 21 = .ok (.ldc 85, 2) := by decide +kernel
theorem d_X10_restore_23 : decode m_X10_restore.2.1 23 = .ok (.ireturn, 1) := by decide +kernel
theorem d_X10_restore_24 : decode m_X10_restore.2.1 24 = .ok (.aload_n 0, 1) := by decide +kernel
theorem d_X10_restore_25 : decode m_X10_restore.2.1 25 = .ok (.invokevirtual 94, 3) := by decide +kernel
theorem d_X10_restore_28 : decode m_X10_restore.2.1 28 = .ok (.iconst 0, 1) := by decide +kernel
theorem d_X10_restore_29 : decode m_X10_restore.2.1 29 = .ok (.istore_n 2, 1) := by decide +kernel
theorem d_X10_restore_30 : decode m_X10_restore.2.1 30 = .ok (.iload_n 2, 1) := by decide +kernel
theorem d_X10_restore_31 : decode m_X10_restore.2.1 31 = .ok (.sipush 812, 3) := by decide +kernel
theorem d_X10_restore_34 : decode m_X10_restore.2.1 34 = .ok (.if_icmp .ge 27, 3) := by decide +kernel
theorem d_X10_restore_37 : decode m_X10_restore.2.1 37 = .ok (.aload_n 0, 1) := by decide +kernel
theorem d_X10_restore_38 : decode m_X10_restore.2.1 38 = .ok (.getfield 7, 3) := by decide +kernel
theorem d_X10_restore_41 : decode m_X10_restore.2.1 41 = .ok (.iload_n 2, 1) := by decide +kernel
theorem d_X10_restore_42 : decode m_X10_restore.2.1 42 = .ok (.aload_n 0, 1) := by decide +kernel
theorem d_X10_restore_43 : decode m_X10_restore.2.1 43 = .ok (.getfield 16, 3) := by decide +kernel
theorem d_X10_restore_46 : decode m_X10_restore.2.1 46 = .ok (.sipush 812, 3) := by decide +kernel
theorem d_X10_restore_49 : decode m_X10_restore.2.1 49 = .ok (.iload_n 1, 1) := by decide +kernel
theorem d_X10_restore_50 : decode m_X10_restore.2.1 50 = .ok (.imul, 1) := by decide +kernel
theorem d_X10_restore_51 : decode m_X10_restore.2.1 51 = .ok (.iload_n 2, 1) := by decide +kernel
theorem d_X10_restore_52 : decode m_X10_restore.2.1 52 = .ok (.iadd, 1) := by decide +kernel
theorem d_X10_restore_53 : decode m_X10_restore.2.1 53 = .ok (.iaload, 1) := by decide +kernel
theorem d_X10_restore_54 : decode m_X10_restore.2.1 54 = .ok (.iastore, 1) := by decide +kernel
theorem d_X10_restore_55 : decode m_X10_restore.2.1 55 = .ok (.iinc 2 1, 3) := by decide +kernel
theorem d_X10_restore_58 : decode m_X10_restore.2.1 58 = .ok (.goto (-28), 3) := by decide +kernel
theorem d_X10_restore_61 : decode m_X10_restore.2.1 61 = .ok (.aload_n 0, 1) := by decide +kernel
theorem d_X10_restore_62 : decode m_X10_restore.2.1 62 = .ok (.invokevirtual 74, 3) := by decide +kernel
theorem d_X10_restore_65 : decode m_X10_restore.2.1 65 = .ok (.aload_n 0, 1) := by decide +kernel
theorem d_X10_restore_66 : decode m_X10_restore.2.1 66 = .ok (.getfield 91, 3) := by decide +kernel
theorem d_X10_restore_69 : decode m_X10_restore.2.1 69 = .ok (.ireturn, 1) := by decide +kernel
theorem d_X10_anew_0 : decode m_X10_anew.2.1 0 = .ok (.aload_n 0, 1) := by decide +kernel
theorem d_X10_anew_1 : decode m_X10_anew.2.1 1 = .ok (.getfield 7, 3) := by decide +kernel
theorem d_X10_anew_4 : decode m_X10_anew.2.1 4 = .ok (.sipush 291, 3) := by decide +kernel
theorem d_X10_anew_7 : decode m_X10_anew.2.1 7 = .ok (.iconst 0, 1) := by decide +kernel
theorem d_X10_anew_8 : decode m_X10_anew.2.1 8 = .ok (.iastore, 1) := by decide +kernel
theorem d_X10_anew_9 : decode m_X10_anew.2.1 9 = .ok (.aload_n 0, 1) := by decide +kernel
theorem d_X10_anew_10 : decode m_X10_anew.2.1 10 = .ok (.invokevirtual 74, 3) := by decide +kernel
theorem d_X10_anew_13 : decode m_X10_anew.2.1 13 = .ok (.return_, 1) := by decide +kernel
theorem d_X10_type_0 : decode m_X10_type.2.1 0 = .ok (.iload_n 1, 1) := by decide +kernel
theorem d_X10_type_1 : decode m_X10_type.2.1 1 = .ok (.bipush 33, 2) := by decide +kernel
theorem d_X10_type_3 : decode m_X10_type.2.1 3 = .ok (.bipush 126, 2) := by decide +kernel
theorem d_X10_type_5 : decode m_X10_type.2.1 5 = .ok (.invokestatic 86, 3) := by decide +kernel
theorem d_X10_type_8 : decode m_X10_type.2.1 8 = .ok (.ifCond .ne 6, 3) := by decide +kernel
theorem d_X10_type_11 : decode m_X10_type.2.1 11 = .ok (.ldc 90, 2) := by decide +kernel
theorem d_X10_type_13 : decode m_X10_type.2.1 13 = .ok (.ireturn, 1) := by decide +kernel
theorem d_X10_type_14 : decode m_X10_type.2.1 14 = .ok (.aload_n 0, 1) := by decide +kernel
theorem d_X10_type_15 : decode m_X10_type.2.1 15 = .ok (.getfield 97, 3) := by decide +kernel
theorem d_X10_type_18 : decode m_X10_type.2.1 18 = .ok (.bipush 80, 2) := by decide +kernel
theorem d_X10_type_20 : decode m_X10_type.2.1 20 = .ok (.if_icmp .ne 6, 3) := by decide +kernel
theorem d_X10_type_23 : decode m_X10_type.2.1 23 = .ok (.ldc 100, 2) := by decide +kernel
theorem d_X10_type_25 : decode m_X10_type.2.1 25 = .ok (.ireturn, 1) := by decide +kernel
theorem d_X10_type_26 : decode m_X10_type.2.1 26 = .ok (.aload_n 0, 1) := by decide +kernel
theorem d_X10_type_27 : decode m_X10_type.2.1 27 = .ok (.getfield 22, 3) := by decide +kernel
theorem d_X10_type_30 : decode m_X10_type.2.1 30 = .ok (.aload_n 0, 1) := by decide +kernel
theorem d_X10_type_31 : decode m_X10_type.2.1 31 = .ok (.getfield 97, 3) := by decide +kernel
theorem d_X10_type_34 : decode m_X10_type.2.1 34 = .ok (.iload_n 1, 1) := by decide +kernel
theorem d_X10_type_35 : decode m_X10_type.2.1 35 = .ok (.iastore, 1) := by decide +kernel
theorem d_X10_type_36 : decode m_X10_type.2.1 36 = .ok (.aload_n 0, 1) := by decide +kernel
theorem d_X10_type_37 : decode m_X10_type.2.1 37 = .ok (.dup, 1) := by decide +kernel
theorem d_X10_type_38 : decode m_X10_type.2.1 38 = .ok (.getfield 97, 3) := by decide +kernel
theorem d_X10_type_41 : decode m_X10_type.2.1 41 = .ok (.iconst 1, 1) := by decide +kernel
theorem d_X10_type_42 : decode m_X10_type.2.1 42 = .ok (.iadd, 1) := by decide +kernel
theorem d_X10_type_43 : decode m_X10_type.2.1 43 = .ok (.putfield 97, 3) := by decide +kernel
theorem d_X10_type_46 : decode m_X10_type.2.1 46 = .ok (.aload_n 0, 1) := by decide +kernel
theorem d_X10_type_47 : decode m_X10_type.2.1 47 = .ok (.getfield 97, 3) := by decide +kernel
theorem d_X10_type_50 : decode m_X10_type.2.1 50 = .ok (.ireturn, 1) := by decide +kernel
theorem d_X10_wipe_0 : decode m_X10_wipe.2.1 0 = .ok (.aload_n 0, 1) := by decide +kernel
theorem d_X10_wipe_1 : decode m_X10_wipe.2.1 1 = .ok (.getfield 97, 3) := by decide +kernel
theorem d_X10_wipe_4 : decode m_X10_wipe.2.1 4 = .ok (.istore_n 1, 1) := by decide +kernel
theorem d_X10_wipe_5 : decode m_X10_wipe.2.1 5 = .ok (.aload_n 0, 1) := by decide +kernel
theorem d_X10_wipe_6 : decode m_X10_wipe.2.1 6 = .ok (.iconst 0, 1) := by decide +kernel
theorem d_X10_wipe_7 : decode m_X10_wipe.2.1 7 = .ok (.putfield 97, 3) := by decide +kernel
theorem d_X10_wipe_10 : decode m_X10_wipe.2.1 10 = .ok (.iload_n 1, 1) := by decide +kernel
theorem d_X10_wipe_11 : decode m_X10_wipe.2.1 11 = .ok (.ireturn, 1) := by decide +kernel
theorem d_X10_letter_0 : decode m_X10_letter.2.1 0 = .ok (.iload_n 1, 1) := by decide +kernel
theorem d_X10_letter_1 : decode m_X10_letter.2.1 1 = .ok (.aload_n 0, 1) := by decide +kernel
theorem d_X10_letter_2 : decode m_X10_letter.2.1 2 = .ok (.getfield 97, 3) := by decide +kernel
theorem d_X10_letter_5 : decode m_X10_letter.2.1 5 = .ok (.if_icmp .ge 12, 3) := by decide +kernel
theorem d_X10_letter_8 : decode m_X10_letter.2.1 8 = .ok (.aload_n 0, 1) := by decide +kernel
theorem d_X10_letter_9 : decode m_X10_letter.2.1 9 = .ok (.getfield 22, 3) := by decide +kernel
theorem d_X10_letter_12 : decode m_X10_letter.2.1 12 = .ok (.iload_n 1, 1) := by decide +kernel
theorem d_X10_letter_13 : decode m_X10_letter.2.1 13 = .ok (.iaload, 1) := by decide +kernel
theorem d_X10_letter_14 : decode m_X10_letter.2.1 14 = .ok (.goto 4, 3) := by decide +kernel
theorem d_X10_letter_17 : decode m_X10_letter.2.1 17 = .ok (.iconst 0, 1) := by decide +kernel
theorem d_X10_letter_18 : decode m_X10_letter.2.1 18 = .ok (.ireturn, 1) := by decide +kernel
theorem d_X10_isDigit_0 : decode m_X10_isDigit.2.1 0 = .ok (.iload_n 0, 1) := by decide +kernel
theorem d_X10_isDigit_1 : decode m_X10_isDigit.2.1 1 = .ok (.bipush 48, 2) := by decide +kernel
theorem d_X10_isDigit_3 : decode m_X10_isDigit.2.1 3 = .ok (.bipush 57, 2) := by decide +kernel
theorem d_X10_isDigit_5 : decode m_X10_isDigit.2.1 5 = .ok (.invokestatic 86, 3) := by decide +kernel
theorem d_X10_isDigit_8 : decode m_X10_isDigit.2.1 8 = .ok (.ireturn, 1) := by decide +kernel
theorem d_X10_isName_0 : decode m_X10_isName.2.1 0 = .ok (.iload_n 0, 1) := by decide +kernel
theorem d_X10_isName_1 : decode m_X10_isName.2.1 1 = .ok (.bipush 120, 2) := by decide +kernel
theorem d_X10_isName_3 : decode m_X10_isName.2.1 3 = .ok (.bipush 122, 2) := by decide +kernel
theorem d_X10_isName_5 : decode m_X10_isName.2.1 5 = .ok (.invokestatic 86, 3) := by decide +kernel
theorem d_X10_isName_8 : decode m_X10_isName.2.1 8 = .ok (.ireturn, 1) := by decide +kernel
theorem d_X10_digits_0 : decode m_X10_digits.2.1 0 = .ok (.iconst 0, 1) := by decide +kernel
theorem d_X10_digits_1 : decode m_X10_digits.2.1 1 = .ok (.istore_n 3, 1) := by decide +kernel
theorem d_X10_digits_2 : decode m_X10_digits.2.1 2 = .ok (.iload_n 3, 1) := by decide +kernel
theorem d_X10_digits_3 : decode m_X10_digits.2.1 3 = .ok (.iload_n 2, 1) := by decide +kernel
theorem d_X10_digits_4 : decode m_X10_digits.2.1 4 = .ok (.if_icmp .ge 22, 3) := by decide +kernel
theorem d_X10_digits_7 : decode m_X10_digits.2.1 7 = .ok (.aload_n 0, 1) := by decide +kernel
theorem d_X10_digits_8 : decode m_X10_digits.2.1 8 = .ok (.iload_n 1, 1) := by decide +kernel
theorem d_X10_digits_9 : decode m_X10_digits.2.1 9 = .ok (.iload_n 3, 1) := by decide +kernel
theorem d_X10_digits_10 : decode m_X10_digits.2.1 10 = .ok (.iadd, 1) := by decide +kernel
theorem d_X10_digits_11 : decode m_X10_digits.2.1 11 = .ok (.invokevirtual 101, 3) := by decide +kernel
theorem d_X10_digits_14 : decode m_X10_digits.2.1 14 = .ok (.invokestatic 105, 3) := by decide +kernel
theorem d_X10_digits_17 : decode m_X10_digits.2.1 17 = .ok (.ifCond .eq 9, 3) := by decide +kernel
theorem d_X10_digits_20 : decode m_X10_digits.2.1 20 = .ok (.iinc 3 1, 3) := by decide +kernel
theorem d_X10_digits_23 : decode m_X10_digits.2.1 23 = .ok (.goto (-21), 3) := by decide +kernel
theorem d_X10_digits_26 : decode m_X10_digits.2.1 26 = .ok (.iload_n 3, 1) := by decide +kernel
theorem d_X10_digits_27 : decode m_X10_digits.2.1 27 = .ok (.ireturn, 1) := by decide +kernel
theorem d_X10_numberEnd_0 : decode m_X10_numberEnd.2.1 0 = .ok (.iload_n 1, 1) := by decide +kernel
theorem d_X10_numberEnd_1 : decode m_X10_numberEnd.2.1 1 = .ok (.aload_n 0, 1) := by decide +kernel
theorem d_X10_numberEnd_2 : decode m_X10_numberEnd.2.1 2 = .ok (.iload_n 1, 1) := by decide +kernel
theorem d_X10_numberEnd_3 : decode m_X10_numberEnd.2.1 3 = .ok (.iconst 4, 1) := by decide +kernel
theorem d_X10_numberEnd_4 : decode m_X10_numberEnd.2.1 4 = .ok (.invokevirtual 109, 3) := by decide +kernel
theorem d_X10_numberEnd_7 : decode m_X10_numberEnd.2.1 7 = .ok (.iadd, 1) := by decide +kernel
theorem d_X10_numberEnd_8 : decode m_X10_numberEnd.2.1 8 = .ok (.istore_n 2, 1) := by decide +kernel
theorem d_X10_numberEnd_9 : decode m_X10_numberEnd.2.1 9 = .ok (.aload_n 0, 1) := by decide +kernel
theorem d_X10_numberEnd_10 : decode m_X10_numberEnd.2.1 10 = .ok (.iload_n 2, 1) := by decide +kernel
theorem d_X10_numberEnd_11 : decode m_X10_numberEnd.2.1 11 = .ok (.invokevirtual 101, 3) := by decide +kernel
theorem d_X10_numberEnd_14 : decode m_X10_numberEnd.2.1 14 = .ok (.bipush 46, 2) := by decide +kernel
theorem d_X10_numberEnd_16 : decode m_X10_numberEnd.2.1 16 = .ok (.if_icmp .eq 5, 3) := by decide +kernel
theorem d_X10_numberEnd_19 : decode m_X10_numberEnd.2.1 19 = .ok (.iload_n 2, 1) := by decide +kernel
theorem d_X10_numberEnd_20 : decode m_X10_numberEnd.2.1 20 = .ok (.ireturn, 1) := by decide +kernel
theorem d_X10_numberEnd_21 : decode m_X10_numberEnd.2.1 21 = .ok (.aload_n 0, 1) := by decide +kernel
theorem d_X10_numberEnd_22 : decode m_X10_numberEnd.2.1 22 = .ok (.iload_n 2, 1) := by decide +kernel
theorem d_X10_numberEnd_23 : decode m_X10_numberEnd.2.1 23 = .ok (.iconst 1, 1) := by decide +kernel
theorem d_X10_numberEnd_24 : decode m_X10_numberEnd.2.1 24 = .ok (.iadd, 1) := by decide +kernel
theorem d_X10_numberEnd_25 : decode m_X10_numberEnd.2.1 25 = .ok (.iconst 3, 1) := by decide +kernel
theorem d_X10_numberEnd_26 : decode m_X10_numberEnd.2.1 26 = .ok (.invokevirtual 109, 3) := by decide +kernel
theorem d_X10_numberEnd_29 : decode m_X10_numberEnd.2.1 29 = .ok (.istore_n 3, 1) := by decide +kernel
theorem d_X10_numberEnd_30 : decode m_X10_numberEnd.2.1 30 = .ok (.iload_n 3, 1) := by decide +kernel
theorem d_X10_numberEnd_31 : decode m_X10_numberEnd.2.1 31 = .ok (.ifCond .ne 10, 3) := by decide +kernel
theorem d_X10_numberEnd_34 : decode m_X10_numberEnd.2.1 34 = .ok (.bipush (-2), 2) := by decide +kernel
theorem d_X10_numberEnd_36 : decode m_X10_numberEnd.2.1 36 = .ok (.iload_n 2, 1) := by decide +kernel
theorem d_X10_numberEnd_37 : decode m_X10_numberEnd.2.1 37 = .ok (.isub, 1) := by decide +kernel
theorem d_X10_numberEnd_38 : decode m_X10_numberEnd.2.1 38 = .ok (.goto 8, 3) := by decide +kernel
theorem d_X10_numberEnd_41 : decode m_X10_numberEnd.2.1 41 = .ok (.iload_n 2, 1) := by decide +kernel
theorem d_X10_numberEnd_42 : decode m_X10_numberEnd.2.1 42 = .ok (.iconst 1, 1) := by decide +kernel
theorem d_X10_numberEnd_43 : decode m_X10_numberEnd.2.1 43 = .ok (.iadd, 1) := by decide +kernel
theorem d_X10_numberEnd_44 : decode m_X10_numberEnd.2.1 44 = .ok (.iload_n 3, 1) := by decide +kernel
theorem d_X10_numberEnd_45 : decode m_X10_numberEnd.2.1 45 = .ok (.iadd, 1) := by decide +kernel
theorem d_X10_numberEnd_46 : decode m_X10_numberEnd.2.1 46 = .ok (.ireturn, 1) := by decide +kernel
theorem d_X10_nameEnd_0 : decode m_X10_nameEnd.2.1 0 = .ok (.iload_n 1, 1) := by decide +kernel
theorem d_X10_nameEnd_1 : decode m_X10_nameEnd.2.1 1 = .ok (.iconst 1, 1) := by decide +kernel
theorem d_X10_nameEnd_2 : decode m_X10_nameEnd.2.1 2 = .ok (.iadd, 1) := by decide +kernel
theorem d_X10_nameEnd_3 : decode m_X10_nameEnd.2.1 3 = .ok (.istore_n 2, 1) := by decide +kernel
theorem d_X10_nameEnd_4 : decode m_X10_nameEnd.2.1 4 = .ok (.aload_n 0, 1) := by decide +kernel
theorem d_X10_nameEnd_5 : decode m_X10_nameEnd.2.1 5 = .ok (.iload_n 2, 1) := by decide +kernel
theorem d_X10_nameEnd_6 : decode m_X10_nameEnd.2.1 6 = .ok (.invokevirtual 101, 3) := by decide +kernel
theorem d_X10_nameEnd_9 : decode m_X10_nameEnd.2.1 9 = .ok (.bipush 39, 2) := by decide +kernel
theorem d_X10_nameEnd_11 : decode m_X10_nameEnd.2.1 11 = .ok (.if_icmp .ne 20, 3) := by decide +kernel
theorem d_X10_nameEnd_14 : decode m_X10_nameEnd.2.1 14 = .ok (.iinc 2 1, 3) := by decide +kernel
theorem d_X10_nameEnd_17 : decode m_X10_nameEnd.2.1 17 = .ok (.aload_n 0, 1) := by decide +kernel
theorem d_X10_nameEnd_18 : decode m_X10_nameEnd.2.1 18 = .ok (.iload_n 2, 1) := by decide +kernel
theorem d_X10_nameEnd_19 : decode m_X10_nameEnd.2.1 19 = .ok (.invokevirtual 101, 3) := by decide +kernel
theorem d_X10_nameEnd_22 : decode m_X10_nameEnd.2.1 22 = .ok (.bipush 64, 2) := by decide +kernel
theorem d_X10_nameEnd_24 : decode m_X10_nameEnd.2.1 24 = .ok (.if_icmp .eq 7, 3) := by decide +kernel
theorem d_X10_nameEnd_27 : decode m_X10_nameEnd.2.1 27 = .ok (.iconst (-1), 1) := by decide +kernel
theorem d_X10_nameEnd_28 : decode m_X10_nameEnd.2.1 28 = .ok (.iload_n 2, 1) := by decide +kernel
theorem d_X10_nameEnd_29 : decode m_X10_nameEnd.2.1 29 = .ok (.isub, 1) := by decide +kernel
theorem d_X10_nameEnd_30 : decode m_X10_nameEnd.2.1 30 = .ok (.ireturn, 1) := by decide +kernel
theorem d_X10_nameEnd_31 : decode m_X10_nameEnd.2.1 31 = .ok (.aload_n 0, 1) := by decide +kernel
theorem d_X10_nameEnd_32 : decode m_X10_nameEnd.2.1 32 = .ok (.iload_n 2, 1) := by decide +kernel
theorem d_X10_nameEnd_33 : decode m_X10_nameEnd.2.1 33 = .ok (.invokevirtual 101, 3) := by decide +kernel
theorem d_X10_nameEnd_36 : decode m_X10_nameEnd.2.1 36 = .ok (.bipush 64, 2) := by decide +kernel
theorem d_X10_nameEnd_38 : decode m_X10_nameEnd.2.1 38 = .ok (.if_icmp .eq 5, 3) := by decide +kernel
theorem d_X10_nameEnd_41 : decode m_X10_nameEnd.2.1 41 = .ok (.iload_n 2, 1) := by decide +kernel
theorem d_X10_nameEnd_42 : decode m_X10_nameEnd.2.1 42 = .ok (.ireturn, 1) := by decide +kernel
theorem d_X10_nameEnd_43 : decode m_X10_nameEnd.2.1 43 = .ok (.aload_n 0, 1) := by decide +kernel
theorem d_X10_nameEnd_44 : decode m_X10_nameEnd.2.1 44 = .ok (.iload_n 2, 1) := by decide +kernel
theorem d_X10_nameEnd_45 : decode m_X10_nameEnd.2.1 45 = .ok (.iconst 1, 1) := by decide +kernel
theorem d_X10_nameEnd_46 : decode m_X10_nameEnd.2.1 46 = .ok (.iadd, 1) := by decide +kernel
theorem d_X10_nameEnd_47 : decode m_X10_nameEnd.2.1 47 = .ok (.invokevirtual 101, 3) := by decide +kernel
theorem d_X10_nameEnd_50 : decode m_X10_nameEnd.2.1 50 = .ok (.bipush 48, 2) := by decide +kernel
theorem d_X10_nameEnd_52 : decode m_X10_nameEnd.2.1 52 = .ok (.bipush 50, 2) := by decide +kernel
theorem d_X10_nameEnd_54 : decode m_X10_nameEnd.2.1 54 = .ok (.invokestatic 86, 3) := by decide +kernel
theorem d_X10_nameEnd_57 : decode m_X10_nameEnd.2.1 57 = .ok (.ifCond .eq 9, 3) := by decide +kernel
theorem d_X10_nameEnd_60 : decode m_X10_nameEnd.2.1 60 = .ok (.iload_n 2, 1) := by decide +kernel
theorem d_X10_nameEnd_61 : decode m_X10_nameEnd.2.1 61 = .ok (.iconst 2, 1) := by decide +kernel
theorem d_X10_nameEnd_62 : decode m_X10_nameEnd.2.1 62 = .ok (.iadd, 1) := by decide +kernel
theorem d_X10_nameEnd_63 : decode m_X10_nameEnd.2.1 63 = .ok (.goto 7, 3) := by decide +kernel
theorem d_X10_nameEnd_66 : decode m_X10_nameEnd.2.1 66 = .ok (.bipush (-2), 2) := by decide +kernel
theorem d_X10_nameEnd_68 : decode m_X10_nameEnd.2.1 68 = .ok (.iload_n 2, 1) := by decide +kernel
theorem d_X10_nameEnd_69 : decode m_X10_nameEnd.2.1 69 = .ok (.isub, 1) := by decide +kernel
theorem d_X10_nameEnd_70 : decode m_X10_nameEnd.2.1 70 = .ok (.ireturn, 1) := by decide +kernel
theorem d_X10_wordEnd_0 : decode m_X10_wordEnd.2.1 0 = .ok (.aload_n 0, 1) := by decide +kernel
theorem d_X10_wordEnd_1 : decode m_X10_wordEnd.2.1 1 = .ok (.iload_n 1, 1) := by decide +kernel
theorem d_X10_wordEnd_2 : decode m_X10_wordEnd.2.1 2 = .ok (.iconst 1, 1) := by decide +kernel
theorem d_X10_wordEnd_3 : decode m_X10_wordEnd.2.1 3 = .ok (.iadd, 1) := by decide +kernel
theorem d_X10_wordEnd_4 : decode m_X10_wordEnd.2.1 4 = .ok (.invokevirtual 101, 3) := by decide +kernel
theorem d_X10_wordEnd_7 : decode m_X10_wordEnd.2.1 7 = .ok (.istore_n 2, 1) := by decide +kernel
theorem d_X10_wordEnd_8 : decode m_X10_wordEnd.2.1 8 = .ok (.iload_n 2, 1) := by decide +kernel
theorem d_X10_wordEnd_9 : decode m_X10_wordEnd.2.1 9 = .ok (.bipush 105, 2) := by decide +kernel
theorem d_X10_wordEnd_11 : decode m_X10_wordEnd.2.1 11 = .ok (.if_icmp .eq 14, 3) := by decide +kernel
theorem d_X10_wordEnd_14 : decode m_X10_wordEnd.2.1 14 = .ok (.iload_n 2, 1) := by decide +kernel
theorem d_X10_wordEnd_15 : decode m_X10_wordEnd.2.1 15 = .ok (.bipush 97, 2) := by decide +kernel
theorem d_X10_wordEnd_17 : decode m_X10_wordEnd.2.1 17 = .ok (.if_icmp .eq 8, 3) := by decide +kernel
theorem d_X10_wordEnd_20 : decode m_X10_wordEnd.2.1 20 = .ok (.bipush (-2), 2) := by decide +kernel
theorem d_X10_wordEnd_22 : decode m_X10_wordEnd.2.1 22 = .ok (.iload_n 1, 1) := by decide +kernel
theorem d_X10_wordEnd_23 : decode m_X10_wordEnd.2.1 23 = .ok (.isub, 1) := by decide +kernel
theorem d_X10_wordEnd_24 : decode m_X10_wordEnd.2.1 24 = .ok (.ireturn, 1) := by decide +kernel
theorem d_X10_wordEnd_25 : decode m_X10_wordEnd.2.1 25 = .ok (.aload_n 0, 1) := by decide +kernel
theorem d_X10_wordEnd_26 : decode m_X10_wordEnd.2.1 26 = .ok (.iload_n 1, 1) := by decide +kernel
theorem d_X10_wordEnd_27 : decode m_X10_wordEnd.2.1 27 = .ok (.iconst 2, 1) := by decide +kernel
theorem d_X10_wordEnd_28 : decode m_X10_wordEnd.2.1 28 = .ok (.iadd, 1) := by decide +kernel
theorem d_X10_wordEnd_29 : decode m_X10_wordEnd.2.1 29 = .ok (.invokevirtual 101, 3) := by decide +kernel
theorem d_X10_wordEnd_32 : decode m_X10_wordEnd.2.1 32 = .ok (.iload_n 2, 1) := by decide +kernel
theorem d_X10_wordEnd_33 : decode m_X10_wordEnd.2.1 33 = .ok (.bipush 105, 2) := by decide +kernel
theorem d_X10_wordEnd_35 : decode m_X10_wordEnd.2.1 35 = .ok (.if_icmp .ne 8, 3) := by decide +kernel
theorem d_X10_wordEnd_38 : decode m_X10_wordEnd.2.1 38 = .ok (.bipush 110, 2) := by decide +kernel
theorem d_X10_wordEnd_40 : decode m_X10_wordEnd.2.1 40 = .ok (.goto 5, 3) := by decide +kernel
theorem d_X10_wordEnd_43 : decode m_X10_wordEnd.2.1 43 = .ok (.bipush 120, 2) := by decide +kernel
theorem d_X10_wordEnd_45 : decode m_X10_wordEnd.2.1 45 = .ok (.if_icmp .ne 9, 3) := by decide +kernel
theorem d_X10_wordEnd_48 : decode m_X10_wordEnd.2.1 48 = .ok (.iload_n 1, 1) := by decide +kernel
theorem d_X10_wordEnd_49 : decode m_X10_wordEnd.2.1 49 = .ok (.iconst 3, 1) := by decide +kernel
theorem d_X10_wordEnd_50 : decode m_X10_wordEnd.2.1 50 = .ok (.iadd, 1) := by decide +kernel
theorem d_X10_wordEnd_51 : decode m_X10_wordEnd.2.1 51 = .ok (.goto 7, 3) := by decide +kernel
theorem d_X10_wordEnd_54 : decode m_X10_wordEnd.2.1 54 = .ok (.bipush (-3), 2) := by decide +kernel
theorem d_X10_wordEnd_56 : decode m_X10_wordEnd.2.1 56 = .ok (.iload_n 1, 1) := by decide +kernel
theorem d_X10_wordEnd_57 : decode m_X10_wordEnd.2.1 57 = .ok (.isub, 1) := by decide +kernel
theorem d_X10_wordEnd_58 : decode m_X10_wordEnd.2.1 58 = .ok (.ireturn, 1) := by decide +kernel
theorem d_X10_faultOf_0 : decode m_X10_faultOf.2.1 0 = .ok (.iconst 0, 1) := by decide +kernel
theorem d_X10_faultOf_1 : decode m_X10_faultOf.2.1 1 = .ok (.istore_n 1, 1) := by decide +kernel
theorem d_X10_faultOf_2 : decode m_X10_faultOf.2.1 2 = .ok (.iconst 1, 1) := by decide +kernel
theorem d_X10_faultOf_3 : decode m_X10_faultOf.2.1 3 = .ok (.istore_n 2, 1) := by decide +kernel
theorem d_X10_faultOf_4 : decode m_X10_faultOf.2.1 4 = .ok (.iconst 0, 1) := by decide +kernel
theorem d_X10_faultOf_5 : decode m_X10_faultOf.2.1 5 = .ok (.istore_n 3, 1) := by decide +kernel
theorem d_X10_faultOf_6 : decode m_X10_faultOf.2.1 6 = .ok (.iload_n 3, 1) := by decide +kernel
theorem d_X10_faultOf_7 : decode m_X10_faultOf.2.1 7 = .ok (.aload_n 0, 1) := by decide +kernel
theorem d_X10_faultOf_8 : decode m_X10_faultOf.2.1 8 = .ok (.getfield 97, 3) := by decide +kernel
theorem d_X10_faultOf_11 : decode m_X10_faultOf.2.1 11 = .ok (.if_icmp .ge 350, 3) := by decide +kernel
theorem d_X10_faultOf_14 : decode m_X10_faultOf.2.1 14 = .ok (.aload_n 0, 1) := by decide +kernel
theorem d_X10_faultOf_15 : decode m_X10_faultOf.2.1 15 = .ok (.getfield 22, 3) := by decide +kernel
theorem d_X10_faultOf_18 : decode m_X10_faultOf.2.1 18 = .ok (.iload_n 3, 1) := by decide +kernel
theorem d_X10_faultOf_19 : decode m_X10_faultOf.2.1 19 = .ok (.iaload, 1) := by decide +kernel
theorem d_X10_faultOf_20 : decode m_X10_faultOf.2.1 20 = .ok (.istore 4, 2) := by decide +kernel
theorem d_X10_faultOf_22 : decode m_X10_faultOf.2.1 22 = .ok (.iload_n 3, 1) := by decide +kernel
theorem d_X10_faultOf_23 : decode m_X10_faultOf.2.1 23 = .ok (.iconst 1, 1) := by decide +kernel
theorem d_X10_faultOf_24 : decode m_X10_faultOf.2.1 24 = .ok (.iadd, 1) := by decide +kernel
theorem d_X10_faultOf_25 : decode m_X10_faultOf.2.1 25 = .ok (.istore 5, 2) := by decide +kernel
theorem d_X10_faultOf_27 : decode m_X10_faultOf.2.1 27 = .ok (.iload_n 2, 1) := by decide +kernel
theorem d_X10_faultOf_28 : decode m_X10_faultOf.2.1 28 = .ok (.ifCond .eq 68, 3) := by decide +kernel
theorem d_X10_faultOf_31 : decode m_X10_faultOf.2.1 31 = .ok (.iload 4, 2) := by decide +kernel
theorem d_X10_faultOf_33 : decode m_X10_faultOf.2.1 33 = .ok (.invokestatic 105, 3) := by decide +kernel
theorem d_X10_faultOf_36 : decode m_X10_faultOf.2.1 36 = .ok (.ifCond .ne 18, 3) := by decide +kernel
theorem d_X10_faultOf_39 : decode m_X10_faultOf.2.1 39 = .ok (.iload 4, 2) := by decide +kernel
theorem d_X10_faultOf_41 : decode m_X10_faultOf.2.1 41 = .ok (.bipush 116, 2) := by decide +kernel
theorem d_X10_faultOf_43 : decode m_X10_faultOf.2.1 43 = .ok (.if_icmp .eq 11, 3) := by decide +kernel
theorem d_X10_faultOf_46 : decode m_X10_faultOf.2.1 46 = .ok (.iload 4, 2) := by decide +kernel
theorem d_X10_faultOf_48 : decode m_X10_faultOf.2.1 48 = .ok (.invokestatic 113, 3) := by decide +kernel
theorem d_X10_faultOf_51 : decode m_X10_faultOf.2.1 51 = .ok (.ifCond .eq 45, 3) := by decide +kernel
theorem d_X10_faultOf_54 : decode m_X10_faultOf.2.1 54 = .ok (.iload 4, 2) := by decide +kernel
theorem d_X10_faultOf_56 : decode m_X10_faultOf.2.1 56 = .ok (.invokestatic 105, 3) := by decide +kernel
theorem d_X10_faultOf_59 : decode m_X10_faultOf.2.1 59 = .ok (.ifCond .eq 11, 3) := by decide +kernel
theorem d_X10_faultOf_62 : decode m_X10_faultOf.2.1 62 = .ok (.aload_n 0, 1) := by decide +kernel
theorem d_X10_faultOf_63 : decode m_X10_faultOf.2.1 63 = .ok (.iload_n 3, 1) := by decide +kernel
theorem d_X10_faultOf_64 : decode m_X10_faultOf.2.1 64 = .ok (.invokevirtual 116, 3) := by decide +kernel
theorem d_X10_faultOf_67 : decode m_X10_faultOf.2.1 67 = .ok (.goto 22, 3) := by decide +kernel
theorem d_X10_faultOf_70 : decode m_X10_faultOf.2.1 70 = .ok (.iload 4, 2) := by decide +kernel
theorem d_X10_faultOf_72 : decode m_X10_faultOf.2.1 72 = .ok (.invokestatic 113, 3) := by decide +kernel
theorem d_X10_faultOf_75 : decode m_X10_faultOf.2.1 75 = .ok (.ifCond .eq 11, 3) := by decide +kernel
theorem d_X10_faultOf_78 : decode m_X10_faultOf.2.1 78 = .ok (.aload_n 0, 1) := by decide +kernel
theorem d_X10_faultOf_79 : decode m_X10_faultOf.2.1 79 = .ok (.iload_n 3, 1) := by decide +kernel
theorem d_X10_faultOf_80 : decode m_X10_faultOf.2.1 80 = .ok (.invokevirtual 119, 3) := by decide +kernel
theorem d_X10_faultOf_83 : decode m_X10_faultOf.2.1 83 = .ok (.goto 6, 3) := by decide +kernel
theorem d_X10_faultOf_86 : decode m_X10_faultOf.2.1 86 = .ok (.iload_n 3, 1) := by decide +kernel
theorem d_X10_faultOf_87 : decode m_X10_faultOf.2.1 87 = .ok (.iconst 1, 1) := by decide +kernel
theorem d_X10_faultOf_88 : decode m_X10_faultOf.2.1 88 = .ok (.iadd, 1) := by decide +kernel
theorem d_X10_faultOf_89 : decode m_X10_faultOf.2.1 89 = .ok (.istore 5, 2) := by decide +kernel
theorem d_X10_faultOf_91 : decode m_X10_faultOf.2.1 91 = .ok (.iconst 0, 1) := by decide +kernel
theorem d_X10_faultOf_92 : decode m_X10_faultOf.2.1 92 = .ok (.istore_n 2, 1) := by decide +kernel
theorem d_X10_faultOf_93 : decode m_X10_faultOf.2.1 93 = .ok (.goto 252, 3) := by decide +kernel
theorem d_X10_faultOf_96 : decode m_X10_faultOf.2.1 96 = .ok (.iload_n 2, 1) := by decide +kernel
theorem d_X10_faultOf_97 : decode m_X10_faultOf.2.1 97 = .ok (.ifCond .eq 116, 3) := by decide +kernel
theorem d_X10_faultOf_100 : decode m_X10_faultOf.2.1 100 = .ok (.iload 4, 2) := by decide +kernel
theorem d_X10_faultOf_102 : decode m_X10_faultOf.2.1 102 = .ok (.bipush 40, 2) := by decide +kernel
theorem d_X10_faultOf_104 : decode m_X10_faultOf.2.1 104 = .ok (.if_icmp .eq 10, 3) := by decide +kernel
theorem d_X10_faultOf_107 : decode m_X10_faultOf.2.1 107 = .ok (.iload 4, 2) := by decide +kernel
theorem d_X10_faultOf_109 : decode m_X10_faultOf.2.1 109 = .ok (.bipush 109, 2) := by decide +kernel
theorem d_X10_faultOf_111 : decode m_X10_faultOf.2.1 111 = .ok (.if_icmp .ne 102, 3) := by decide +kernel
theorem d_X10_faultOf_114 : decode m_X10_faultOf.2.1 114 = .ok (.iload 4, 2) := by decide +kernel
theorem d_X10_faultOf_116 : decode m_X10_faultOf.2.1 116 = .ok (.bipush 109, 2) := by decide +kernel
theorem d_X10_faultOf_118 : decode m_X10_faultOf.2.1 118 = .ok (.if_icmp .ne 11, 3) := by decide +kernel
theorem d_X10_faultOf_121 : decode m_X10_faultOf.2.1 121 = .ok (.aload_n 0, 1) := by decide +kernel
theorem d_X10_faultOf_122 : decode m_X10_faultOf.2.1 122 = .ok (.iload_n 3, 1) := by decide +kernel
theorem d_X10_faultOf_123 : decode m_X10_faultOf.2.1 123 = .ok (.invokevirtual 122, 3) := by decide +kernel
theorem d_X10_faultOf_126 : decode m_X10_faultOf.2.1 126 = .ok (.goto 4, 3) := by decide +kernel
theorem d_X10_faultOf_129 : decode m_X10_faultOf.2.1 129 = .ok (.iload_n 3, 1) := by decide +kernel
theorem d_X10_faultOf_130 : decode m_X10_faultOf.2.1 130 = .ok (.istore 5, 2) := by decide +kernel
theorem d_X10_faultOf_132 : decode m_X10_faultOf.2.1 132 = .ok (.iload 5, 2) := by decide +kernel
theorem d_X10_faultOf_134 : decode m_X10_faultOf.2.1 134 = .ok (.ifCond .lt 24, 3) := by decide +kernel
theorem d_X10_faultOf_137 : decode m_X10_faultOf.2.1 137 = .ok (.aload_n 0, 1) := by decide +kernel
theorem d_X10_faultOf_138 : decode m_X10_faultOf.2.1 138 = .ok (.iload 5, 2) := by decide +kernel
theorem d_X10_faultOf_140 : decode m_X10_faultOf.2.1 140 = .ok (.invokevirtual 101, 3) := by decide +kernel
theorem d_X10_faultOf_143 : decode m_X10_faultOf.2.1 143 = .ok (.bipush 40, 2) := by decide +kernel
theorem d_X10_faultOf_145 : decode m_X10_faultOf.2.1 145 = .ok (.if_icmp .ne 13, 3) := by decide +kernel
theorem d_X10_faultOf_148 : decode m_X10_faultOf.2.1 148 = .ok (.iload_n 1, 1) := by decide +kernel
theorem d_X10_faultOf_149 : decode m_X10_faultOf.2.1 149 = .ok (.bipush 6, 2) := by decide +kernel
theorem d_X10_faultOf_151 : decode m_X10_faultOf.2.1 151 = .ok (.if_icmp .ge 7, 3) := by decide +kernel
theorem d_X10_faultOf_154 : decode m_X10_faultOf.2.1 154 = .ok (.iconst 1, 1) := by decide +kernel
theorem d_X10_faultOf_155 : decode m_X10_faultOf.2.1 155 = .ok (.goto 4, 3) := by decide +kernel
theorem d_X10_faultOf_158 : decode m_X10_faultOf.2.1 158 = .ok (.iconst 0, 1) := by decide +kernel
theorem d_X10_faultOf_159 : decode m_X10_faultOf.2.1 159 = .ok (.istore 6, 2) := by decide +kernel
theorem d_X10_faultOf_161 : decode m_X10_faultOf.2.1 161 = .ok (.iload 5, 2) := by decide +kernel
theorem d_X10_faultOf_163 : decode m_X10_faultOf.2.1 163 = .ok (.ifCond .lt 11, 3) := by decide +kernel
theorem d_X10_faultOf_166 : decode m_X10_faultOf.2.1 166 = .ok (.iload 6, 2) := by decide +kernel
theorem d_X10_faultOf_168 : decode m_X10_faultOf.2.1 168 = .ok (.ifCond .ne 6, 3) := by decide +kernel
theorem d_X10_faultOf_171 : decode m_X10_faultOf.2.1 171 = .ok (.iload 5, 2) := by decide +kernel
theorem d_X10_faultOf_173 : decode m_X10_faultOf.2.1 173 = .ok (.ireturn, 1) := by decide +kernel
theorem d_X10_faultOf_174 : decode m_X10_faultOf.2.1 174 = .ok (.aload_n 0, 1) := by decide +kernel
theorem d_X10_faultOf_175 : decode m_X10_faultOf.2.1 175 = .ok (.getfield 71, 3) := by decide +kernel
theorem d_X10_faultOf_178 : decode m_X10_faultOf.2.1 178 = .ok (.iload_n 1, 1) := by decide +kernel
theorem d_X10_faultOf_179 : decode m_X10_faultOf.2.1 179 = .ok (.iload 4, 2) := by decide +kernel
theorem d_X10_faultOf_181 : decode m_X10_faultOf.2.1 181 = .ok (.bipush 109, 2) := by decide +kernel
theorem d_X10_faultOf_183 : decode m_X10_faultOf.2.1 183 = .ok (.if_icmp .ne 7, 3) := by decide +kernel
theorem d_X10_faultOf_186 : decode m_X10_faultOf.2.1 186 = .ok (.iconst 2, 1) := by decide +kernel
theorem d_X10_faultOf_187 : decode m_X10_faultOf.2.1 187 = .ok (.goto 4, 3) := by decide +kernel
theorem d_X10_faultOf_190 : decode m_X10_faultOf.2.1 190 = .ok (.iconst 1, 1) := by decide +kernel
theorem d_X10_faultOf_191 : decode m_X10_faultOf.2.1 191 = .ok (.iastore, 1) := by decide +kernel
theorem d_X10_faultOf_192 : decode m_X10_faultOf.2.1 192 = .ok (.iinc 1 1, 3) := by decide +kernel
theorem d_X10_faultOf_195 : decode m_X10_faultOf.2.1 195 = .ok (.iload 5, 2) := by decide +kernel
theorem d_X10_faultOf_197 : decode m_X10_faultOf.2.1 197 = .ok (.iload 5, 2) := by decide +kernel
theorem d_X10_faultOf_199 : decode m_X10_faultOf.2.1 199 = .ok (.ifCond .lt 7, 3) := by decide +kernel
theorem d_X10_faultOf_202 : decode m_X10_faultOf.2.1 202 = .ok (.iconst 1, 1) := by decide +kernel
theorem d_X10_faultOf_203 : decode m_X10_faultOf.2.1 203 = .ok (.goto 4, 3) := by decide +kernel
theorem d_X10_faultOf_206 : decode m_X10_faultOf.2.1 206 = .ok (.iconst 0, 1) := by decide +kernel
theorem d_X10_faultOf_207 : decode m_X10_faultOf.2.1 207 = .ok (.iadd, 1) := by decide +kernel
theorem d_X10_faultOf_208 : decode m_X10_faultOf.2.1 208 = .ok (.istore 5, 2) := by decide +kernel
theorem d_X10_faultOf_210 : decode m_X10_faultOf.2.1 210 = .ok (.goto 135, 3) := by decide +kernel
theorem d_X10_faultOf_213 : decode m_X10_faultOf.2.1 213 = .ok (.iload_n 2, 1) := by decide +kernel
theorem d_X10_faultOf_214 : decode m_X10_faultOf.2.1 214 = .ok (.ifCond .eq 18, 3) := by decide +kernel
theorem d_X10_faultOf_217 : decode m_X10_faultOf.2.1 217 = .ok (.iload 4, 2) := by decide +kernel
theorem d_X10_faultOf_219 : decode m_X10_faultOf.2.1 219 = .ok (.bipush 45, 2) := by decide +kernel
theorem d_X10_faultOf_221 : decode m_X10_faultOf.2.1 221 = .ok (.if_icmp .ne 11, 3) := by decide +kernel
theorem d_X10_faultOf_224 : decode m_X10_faultOf.2.1 224 = .ok (.iload_n 3, 1) := by decide +kernel
theorem d_X10_faultOf_225 : decode m_X10_faultOf.2.1 225 = .ok (.iconst 1, 1) := by decide +kernel
theorem d_X10_faultOf_226 : decode m_X10_faultOf.2.1 226 = .ok (.iadd, 1) := by decide +kernel
theorem d_X10_faultOf_227 : decode m_X10_faultOf.2.1 227 = .ok (.istore 5, 2) := by decide +kernel
theorem d_X10_faultOf_229 : decode m_X10_faultOf.2.1 229 = .ok (.goto 116, 3) := by decide +kernel
theorem d_X10_faultOf_232 : decode m_X10_faultOf.2.1 232 = .ok (.iload_n 2, 1) := by decide +kernel
theorem d_X10_faultOf_233 : decode m_X10_faultOf.2.1 233 = .ok (.ifCond .ne 36, 3) := by decide +kernel
theorem d_X10_faultOf_236 : decode m_X10_faultOf.2.1 236 = .ok (.iload 4, 2) := by decide +kernel
theorem d_X10_faultOf_238 : decode m_X10_faultOf.2.1 238 = .ok (.bipush 43, 2) := by decide +kernel
theorem d_X10_faultOf_240 : decode m_X10_faultOf.2.1 240 = .ok (.if_icmp .eq 24, 3) := by decide +kernel
theorem d_X10_faultOf_243 : decode m_X10_faultOf.2.1 243 = .ok (.iload 4, 2) := by decide +kernel
theorem d_X10_faultOf_245 : decode m_X10_faultOf.2.1 245 = .ok (.bipush 45, 2) := by decide +kernel
theorem d_X10_faultOf_247 : decode m_X10_faultOf.2.1 247 = .ok (.if_icmp .eq 17, 3) := by decide +kernel
theorem d_X10_faultOf_250 : decode m_X10_faultOf.2.1 250 = .ok (.iload 4, 2) := by decide +kernel
theorem d_X10_faultOf_252 : decode m_X10_faultOf.2.1 252 = .ok (.bipush 42, 2) := by decide +kernel
theorem d_X10_faultOf_254 : decode m_X10_faultOf.2.1 254 = .ok (.if_icmp .eq 10, 3) := by decide +kernel
theorem d_X10_faultOf_257 : decode m_X10_faultOf.2.1 257 = .ok (.iload 4, 2) := by decide +kernel
theorem d_X10_faultOf_259 : decode m_X10_faultOf.2.1 259 = .ok (.bipush 47, 2) := by decide +kernel
theorem d_X10_faultOf_261 : decode m_X10_faultOf.2.1 261 = .ok (.if_icmp .ne 8, 3) := by decide +kernel
theorem d_X10_faultOf_264 : decode m_X10_faultOf.2.1 264 = .ok (.iconst 1, 1) := by decide +kernel
theorem d_X10_faultOf_265 : decode m_X10_faultOf.2.1 265 = .ok (.istore_n 2, 1) := by decide +kernel
theorem d_X10_faultOf_266 : decode m_X10_faultOf.2.1 266 = .ok (.goto 79, 3) := by decide +kernel
theorem d_X10_faultOf_269 : decode m_X10_faultOf.2.1 269 = .ok (.iload_n 2, 1) := by decide +kernel
theorem d_X10_faultOf_270 : decode m_X10_faultOf.2.1 270 = .ok (.ifCond .ne 40, 3) := by decide +kernel
theorem d_X10_faultOf_273 : decode m_X10_faultOf.2.1 273 = .ok (.iload 4, 2) := by decide +kernel
theorem d_X10_faultOf_275 : decode m_X10_faultOf.2.1 275 = .ok (.bipush 44, 2) := by decide +kernel
theorem d_X10_faultOf_277 : decode m_X10_faultOf.2.1 277 = .ok (.if_icmp .ne 33, 3) := by decide +kernel
theorem d_X10_faultOf_280 : decode m_X10_faultOf.2.1 280 = .ok (.iload_n 1, 1) := by decide +kernel
theorem d_X10_faultOf_281 : decode m_X10_faultOf.2.1 281 = .ok (.ifCond .le 29, 3) := by decide +kernel
theorem d_X10_faultOf_284 : decode m_X10_faultOf.2.1 284 = .ok (.aload_n 0, 1) := by decide +kernel
theorem d_X10_faultOf_285 : decode m_X10_faultOf.2.1 285 = .ok (.getfield 71, 3) := by decide +kernel
theorem d_X10_faultOf_288 : decode m_X10_faultOf.2.1 288 = .ok (.iload_n 1, 1) := by decide +kernel
theorem d_X10_faultOf_289 : decode m_X10_faultOf.2.1 289 = .ok (.iconst 1, 1) := by decide +kernel
theorem d_X10_faultOf_290 : decode m_X10_faultOf.2.1 290 = .ok (.isub, 1) := by decide +kernel
theorem d_X10_faultOf_291 : decode m_X10_faultOf.2.1 291 = .ok (.iaload, 1) := by decide +kernel
theorem d_X10_faultOf_292 : decode m_X10_faultOf.2.1 292 = .ok (.iconst 2, 1) := by decide +kernel
theorem d_X10_faultOf_293 : decode m_X10_faultOf.2.1 293 = .ok (.if_icmp .ne 17, 3) := by decide +kernel
theorem d_X10_faultOf_296 : decode m_X10_faultOf.2.1 296 = .ok (.aload_n 0, 1) := by decide +kernel
theorem d_X10_faultOf_297 : decode m_X10_faultOf.2.1 297 = .ok (.getfield 71, 3) := by decide +kernel
theorem d_X10_faultOf_300 : decode m_X10_faultOf.2.1 300 = .ok (.iload_n 1, 1) := by decide +kernel
theorem d_X10_faultOf_301 : decode m_X10_faultOf.2.1 301 = .ok (.iconst 1, 1) := by decide +kernel
theorem d_X10_faultOf_302 : decode m_X10_faultOf.2.1 302 = .ok (.isub, 1) := by decide +kernel
theorem d_X10_faultOf_303 : decode m_X10_faultOf.2.1 303 = .ok (.iconst 1, 1) := by decide +kernel
theorem d_X10_faultOf_304 : decode m_X10_faultOf.2.1 304 = .ok (.iastore, 1) := by decide +kernel
theorem d_X10_faultOf_305 : decode m_X10_faultOf.2.1 305 = .ok (.iconst 1, 1) := by decide +kernel
theorem d_X10_faultOf_306 : decode m_X10_faultOf.2.1 306 = .ok (.istore_n 2, 1) := by decide +kernel
theorem d_X10_faultOf_307 : decode m_X10_faultOf.2.1 307 = .ok (.goto 38, 3) := by decide +kernel
theorem d_X10_faultOf_310 : decode m_X10_faultOf.2.1 310 = .ok (.iload_n 2, 1) := by decide +kernel
theorem d_X10_faultOf_311 : decode m_X10_faultOf.2.1 311 = .ok (.ifCond .ne 32, 3) := by decide +kernel
theorem d_X10_faultOf_314 : decode m_X10_faultOf.2.1 314 = .ok (.iload 4, 2) := by decide +kernel
theorem d_X10_faultOf_316 : decode m_X10_faultOf.2.1 316 = .ok (.bipush 41, 2) := by decide +kernel
theorem d_X10_faultOf_318 : decode m_X10_faultOf.2.1 318 = .ok (.if_icmp .ne 25, 3) := by decide +kernel
theorem d_X10_faultOf_321 : decode m_X10_faultOf.2.1 321 = .ok (.iload_n 1, 1) := by decide +kernel
theorem d_X10_faultOf_322 : decode m_X10_faultOf.2.1 322 = .ok (.ifCond .le 21, 3) := by decide +kernel
theorem d_X10_faultOf_325 : decode m_X10_faultOf.2.1 325 = .ok (.aload_n 0, 1) := by decide +kernel
theorem d_X10_faultOf_326 : decode m_X10_faultOf.2.1 326 = .ok (.getfield 71, 3) := by decide +kernel
theorem d_X10_faultOf_329 : decode m_X10_faultOf.2.1 329 = .ok (.iload_n 1, 1) := by decide +kernel
theorem d_X10_faultOf_330 : decode m_X10_faultOf.2.1 330 = .ok (.iconst 1, 1) := by decide +kernel
theorem d_X10_faultOf_331 : decode m_X10_faultOf.2.1 331 = .ok (.isub, 1) := by decide +kernel
theorem d_X10_faultOf_332 : decode m_X10_faultOf.2.1 332 = .ok (.iaload, 1) := by decide +kernel
theorem d_X10_faultOf_333 : decode m_X10_faultOf.2.1 333 = .ok (.iconst 1, 1) := by decide +kernel
theorem d_X10_faultOf_334 : decode m_X10_faultOf.2.1 334 = .ok (.if_icmp .ne 9, 3) := by decide +kernel
theorem d_X10_faultOf_337 : decode m_X10_faultOf.2.1 337 = .ok (.iinc 1 (-1), 3) := by decide +kernel
theorem d_X10_faultOf_340 : decode m_X10_faultOf.2.1 340 = .ok (.goto 5, 3) := by decide +kernel
theorem d_X10_faultOf_343 : decode m_X10_faultOf.2.1 343 = .ok (.iload_n 3, 1) := by decide +kernel
theorem d_X10_faultOf_344 : decode m_X10_faultOf.2.1 344 = .ok (.ireturn, 1) := by decide +kernel
theorem d_X10_faultOf_345 : decode m_X10_faultOf.2.1 345 = .ok (.iload 5, 2) := by decide +kernel
theorem d_X10_faultOf_347 : decode m_X10_faultOf.2.1 347 = .ok (.ifCond .ge 8, 3) := by decide +kernel
theorem d_X10_faultOf_350 : decode m_X10_faultOf.2.1 350 = .ok (.iconst (-1), 1) := by decide +kernel
theorem d_X10_faultOf_351 : decode m_X10_faultOf.2.1 351 = .ok (.iload 5, 2) := by decide +kernel
theorem d_X10_faultOf_353 : decode m_X10_faultOf.2.1 353 = .ok (.isub, 1) := by decide +kernel
theorem d_X10_faultOf_354 : decode m_X10_faultOf.2.1 354 = .ok (.ireturn, 1) := by decide +kernel
theorem d_X10_faultOf_355 : decode m_X10_faultOf.2.1 355 = .ok (.iload 5, 2) := by decide +kernel
theorem d_X10_faultOf_357 : decode m_X10_faultOf.2.1 357 = .ok (.istore_n 3, 1) := by decide +kernel
theorem d_X10_faultOf_358 : decode m_X10_faultOf.2.1 358 = .ok (.goto (-352), 3) := by decide +kernel
theorem d_X10_faultOf_361 : decode m_X10_faultOf.2.1 361 = .ok (.iload_n 2, 1) := by decide +kernel
theorem d_X10_faultOf_362 : decode m_X10_faultOf.2.1 362 = .ok (.ifCond .ne 7, 3) := by decide +kernel
theorem d_X10_faultOf_365 : decode m_X10_faultOf.2.1 365 = .ok (.iload_n 1, 1) := by decide +kernel
theorem d_X10_faultOf_366 : decode m_X10_faultOf.2.1 366 = .ok (.ifCond .le 10, 3) := by decide +kernel
theorem d_X10_faultOf_369 : decode m_X10_faultOf.2.1 369 = .ok (.aload_n 0, 1) := by decide +kernel
theorem d_X10_faultOf_370 : decode m_X10_faultOf.2.1 370 = .ok (.getfield 97, 3) := by decide +kernel
theorem d_X10_faultOf_373 : decode m_X10_faultOf.2.1 373 = .ok (.goto 5, 3) := by decide +kernel
theorem d_X10_faultOf_376 : decode m_X10_faultOf.2.1 376 = .ok (.ldc 125, 2) := by decide +kernel
theorem d_X10_faultOf_378 : decode m_X10_faultOf.2.1 378 = .ok (.ireturn, 1) := by decide +kernel
theorem d_X10_fault_0 : decode m_X10_fault.2.1 0 = .ok (.aload_n 0, 1) := by decide +kernel
theorem d_X10_fault_1 : decode m_X10_fault.2.1 1 = .ok (.invokevirtual 126, 3) := by decide +kernel
theorem d_X10_fault_4 : decode m_X10_fault.2.1 4 = .ok (.ireturn, 1) := by decide +kernel
theorem d_X10_isThree_0 : decode m_X10_isThree.2.1 0 = .ok (.iload_n 0, 1) := by decide +kernel
theorem d_X10_isThree_1 : decode m_X10_isThree.2.1 1 = .ok (.iconst 0, 1) := by decide +kernel
theorem d_X10_isThree_2 : decode m_X10_isThree.2.1 2 = .ok (.iconst 2, 1) := by decide +kernel
theorem d_X10_isThree_3 : decode m_X10_isThree.2.1 3 = .ok (.invokestatic 86, 3) := by decide +kernel
theorem d_X10_isThree_6 : decode m_X10_isThree.2.1 6 = .ok (.ireturn, 1) := by decide +kernel
theorem d_X10_rightLetter_0 : decode m_X10_rightLetter.2.1 0 = .ok (.iload_n 2, 1) := by decide +kernel
theorem d_X10_rightLetter_1 : decode m_X10_rightLetter.2.1 1 = .ok (.aload_n 0, 1) := by decide +kernel
theorem d_X10_rightLetter_2 : decode m_X10_rightLetter.2.1 2 = .ok (.getfield 7, 3) := by decide +kernel
theorem d_X10_rightLetter_5 : decode m_X10_rightLetter.2.1 5 = .ok (.bipush 48, 2) := by decide +kernel
theorem d_X10_rightLetter_7 : decode m_X10_rightLetter.2.1 7 = .ok (.bipush 81, 2) := by decide +kernel
theorem d_X10_rightLetter_9 : decode m_X10_rightLetter.2.1 9 = .ok (.iload_n 1, 1) := by decide +kernel
theorem d_X10_rightLetter_10 : decode m_X10_rightLetter.2.1 10 = .ok (.imul, 1) := by decide +kernel
theorem d_X10_rightLetter_11 : decode m_X10_rightLetter.2.1 11 = .ok (.iadd, 1) := by decide +kernel
theorem d_X10_rightLetter_12 : decode m_X10_rightLetter.2.1 12 = .ok (.iaload, 1) := by decide +kernel
theorem d_X10_rightLetter_13 : decode m_X10_rightLetter.2.1 13 = .ok (.if_icmp .ge 22, 3) := by decide +kernel
theorem d_X10_rightLetter_16 : decode m_X10_rightLetter.2.1 16 = .ok (.aload_n 0, 1) := by decide +kernel
theorem d_X10_rightLetter_17 : decode m_X10_rightLetter.2.1 17 = .ok (.getfield 7, 3) := by decide +kernel
theorem d_X10_rightLetter_20 : decode m_X10_rightLetter.2.1 20 = .ok (.bipush 48, 2) := by decide +kernel
theorem d_X10_rightLetter_22 : decode m_X10_rightLetter.2.1 22 = .ok (.bipush 81, 2) := by decide +kernel
theorem d_X10_rightLetter_24 : decode m_X10_rightLetter.2.1 24 = .ok (.iload_n 1, 1) := by decide +kernel
theorem d_X10_rightLetter_25 : decode m_X10_rightLetter.2.1 25 = .ok (.imul, 1) := by decide +kernel
theorem d_X10_rightLetter_26 : decode m_X10_rightLetter.2.1 26 = .ok (.iadd, 1) := by decide +kernel
theorem d_X10_rightLetter_27 : decode m_X10_rightLetter.2.1 27 = .ok (.iconst 1, 1) := by decide +kernel
theorem d_X10_rightLetter_28 : decode m_X10_rightLetter.2.1 28 = .ok (.iadd, 1) := by decide +kernel
theorem d_X10_rightLetter_29 : decode m_X10_rightLetter.2.1 29 = .ok (.iload_n 2, 1) := by decide +kernel
theorem d_X10_rightLetter_30 : decode m_X10_rightLetter.2.1 30 = .ok (.iadd, 1) := by decide +kernel
theorem d_X10_rightLetter_31 : decode m_X10_rightLetter.2.1 31 = .ok (.iaload, 1) := by decide +kernel
theorem d_X10_rightLetter_32 : decode m_X10_rightLetter.2.1 32 = .ok (.goto 4, 3) := by decide +kernel
theorem d_X10_rightLetter_35 : decode m_X10_rightLetter.2.1 35 = .ok (.iconst 0, 1) := by decide +kernel
theorem d_X10_rightLetter_36 : decode m_X10_rightLetter.2.1 36 = .ok (.ireturn, 1) := by decide +kernel
theorem d_X10_usedBy_0 : decode m_X10_usedBy.2.1 0 = .ok (.iconst 0, 1) := by decide +kernel
theorem d_X10_usedBy_1 : decode m_X10_usedBy.2.1 1 = .ok (.istore_n 2, 1) := by decide +kernel
theorem d_X10_usedBy_2 : decode m_X10_usedBy.2.1 2 = .ok (.iconst 0, 1) := by decide +kernel
theorem d_X10_usedBy_3 : decode m_X10_usedBy.2.1 3 = .ok (.istore_n 3, 1) := by decide +kernel
theorem d_X10_usedBy_4 : decode m_X10_usedBy.2.1 4 = .ok (.iload_n 3, 1) := by decide +kernel
theorem d_X10_usedBy_5 : decode m_X10_usedBy.2.1 5 = .ok (.aload_n 0, 1) := by decide +kernel
theorem d_X10_usedBy_6 : decode m_X10_usedBy.2.1 6 = .ok (.getfield 7, 3) := by decide +kernel
theorem d_X10_usedBy_9 : decode m_X10_usedBy.2.1 9 = .ok (.bipush 48, 2) := by decide +kernel
theorem d_X10_usedBy_11 : decode m_X10_usedBy.2.1 11 = .ok (.bipush 81, 2) := by decide +kernel
theorem d_X10_usedBy_13 : decode m_X10_usedBy.2.1 13 = .ok (.iload_n 1, 1) := by decide +kernel
theorem d_X10_usedBy_14 : decode m_X10_usedBy.2.1 14 = .ok (.imul, 1) := by decide +kernel
theorem d_X10_usedBy_15 : decode m_X10_usedBy.2.1 15 = .ok (.iadd, 1) := by decide +kernel
theorem d_X10_usedBy_16 : decode m_X10_usedBy.2.1 16 = .ok (.iaload, 1) := by decide +kernel
theorem d_X10_usedBy_17 : decode m_X10_usedBy.2.1 17 = .ok (.if_icmp .ge 40, 3) := by decide +kernel
theorem d_X10_usedBy_20 : decode m_X10_usedBy.2.1 20 = .ok (.iload_n 2, 1) := by decide +kernel
theorem d_X10_usedBy_21 : decode m_X10_usedBy.2.1 21 = .ok (.aload_n 0, 1) := by decide +kernel
theorem d_X10_usedBy_22 : decode m_X10_usedBy.2.1 22 = .ok (.iload_n 1, 1) := by decide +kernel
theorem d_X10_usedBy_23 : decode m_X10_usedBy.2.1 23 = .ok (.iload_n 3, 1) := by decide +kernel
theorem d_X10_usedBy_24 : decode m_X10_usedBy.2.1 24 = .ok (.invokevirtual 130, 3) := by decide +kernel
theorem d_X10_usedBy_27 : decode m_X10_usedBy.2.1 27 = .ok (.bipush 64, 2) := by decide +kernel
theorem d_X10_usedBy_29 : decode m_X10_usedBy.2.1 29 = .ok (.if_icmp .ne 19, 3) := by decide +kernel
theorem d_X10_usedBy_32 : decode m_X10_usedBy.2.1 32 = .ok (.iconst 1, 1) := by decide +kernel
theorem d_X10_usedBy_33 : decode m_X10_usedBy.2.1 33 = .ok (.aload_n 0, 1) := by decide +kernel
theorem d_X10_usedBy_34 : decode m_X10_usedBy.2.1 34 = .ok (.iload_n 1, 1) := by decide +kernel
theorem d_X10_usedBy_35 : decode m_X10_usedBy.2.1 35 = .ok (.iload_n 3, 1) := by decide +kernel
theorem d_X10_usedBy_36 : decode m_X10_usedBy.2.1 36 = .ok (.iconst 1, 1) := by decide +kernel
theorem d_X10_usedBy_37 : decode m_X10_usedBy.2.1 37 = .ok (.iadd, 1) := by decide +kernel
theorem d_X10_usedBy_38 : decode m_X10_usedBy.2.1 38 = .ok (.invokevirtual 130, 3) := by decide +kernel
theorem d_X10_usedBy_41 : decode m_X10_usedBy.2.1 41 = .ok (.bipush 48, 2) := by decide +kernel
theorem d_X10_usedBy_43 : decode m_X10_usedBy.2.1 43 = .ok (.isub, 1) := by decide +kernel
theorem d_X10_usedBy_44 : decode m_X10_usedBy.2.1 44 = .ok (.ishl, 1) := by decide +kernel
theorem d_X10_usedBy_45 : decode m_X10_usedBy.2.1 45 = .ok (.goto 4, 3) := by decide +kernel
theorem d_X10_usedBy_48 : decode m_X10_usedBy.2.1 48 = .ok (.iconst 0, 1) := by decide +kernel
theorem d_X10_usedBy_49 : decode m_X10_usedBy.2.1 49 = .ok (.ior, 1) := by decide +kernel
theorem d_X10_usedBy_50 : decode m_X10_usedBy.2.1 50 = .ok (.istore_n 2, 1) := by decide +kernel
theorem d_X10_usedBy_51 : decode m_X10_usedBy.2.1 51 = .ok (.iinc 3 1, 3) := by decide +kernel
theorem d_X10_usedBy_54 : decode m_X10_usedBy.2.1 54 = .ok (.goto (-50), 3) := by decide +kernel
theorem d_X10_usedBy_57 : decode m_X10_usedBy.2.1 57 = .ok (.iload_n 2, 1) := by decide +kernel
theorem d_X10_usedBy_58 : decode m_X10_usedBy.2.1 58 = .ok (.ireturn, 1) := by decide +kernel
theorem d_X10_used_0 : decode m_X10_used.2.1 0 = .ok (.aload_n 0, 1) := by decide +kernel
theorem d_X10_used_1 : decode m_X10_used.2.1 1 = .ok (.iconst 0, 1) := by decide +kernel
theorem d_X10_used_2 : decode m_X10_used.2.1 2 = .ok (.invokevirtual 133, 3) := by decide +kernel
theorem d_X10_used_5 : decode m_X10_used.2.1 5 = .ok (.aload_n 0, 1) := by decide +kernel
theorem d_X10_used_6 : decode m_X10_used.2.1 6 = .ok (.iconst 1, 1) := by decide +kernel
theorem d_X10_used_7 : decode m_X10_used.2.1 7 = .ok (.invokevirtual 133, 3) := by decide +kernel
theorem d_X10_used_10 : decode m_X10_used.2.1 10 = .ok (.ior, 1) := by decide +kernel
theorem d_X10_used_11 : decode m_X10_used.2.1 11 = .ok (.aload_n 0, 1) := by decide +kernel
theorem d_X10_used_12 : decode m_X10_used.2.1 12 = .ok (.iconst 2, 1) := by decide +kernel
theorem d_X10_used_13 : decode m_X10_used.2.1 13 = .ok (.invokevirtual 133, 3) := by decide +kernel
theorem d_X10_used_16 : decode m_X10_used.2.1 16 = .ok (.ior, 1) := by decide +kernel
theorem d_X10_used_17 : decode m_X10_used.2.1 17 = .ok (.ireturn, 1) := by decide +kernel
theorem d_X10_right_0 : decode m_X10_right.2.1 0 = .ok (.iload_n 1, 1) := by decide +kernel
theorem d_X10_right_1 : decode m_X10_right.2.1 1 = .ok (.invokestatic 136, 3) := by decide +kernel
theorem d_X10_right_4 : decode m_X10_right.2.1 4 = .ok (.ifCond .ne 6, 3) := by decide +kernel
theorem d_X10_right_7 : decode m_X10_right.2.1 7 = .ok (.ldc 90, 2) := by decide +kernel
theorem d_X10_right_9 : decode m_X10_right.2.1 9 = .ok (.ireturn, 1) := by decide +kernel
theorem d_X10_right_10 : decode m_X10_right.2.1 10 = .ok (.aload_n 0, 1) := by decide +kernel
theorem d_X10_right_11 : decode m_X10_right.2.1 11 = .ok (.invokevirtual 126, 3) := by decide +kernel
theorem d_X10_right_14 : decode m_X10_right.2.1 14 = .ok (.ldc 125, 2) := by decide +kernel
theorem d_X10_right_16 : decode m_X10_right.2.1 16 = .ok (.if_icmp .eq 6, 3) := by decide +kernel
theorem d_X10_right_19 : decode m_X10_right.2.1 19 = .ok (.ldc 85, 2) := by decide +kernel
theorem d_X10_right_21 : decode m_X10_right.2.1 21 = .ok (.ireturn, 1) := by decide +kernel
theorem d_X10_right_22 : decode m_X10_right.2.1 22 = .ok (.aload_n 0, 1) := by decide +kernel
theorem d_X10_right_23 : decode m_X10_right.2.1 23 = .ok (.invokevirtual 94, 3) := by decide +kernel
theorem d_X10_right_26 : decode m_X10_right.2.1 26 = .ok (.aload_n 0, 1) := by decide +kernel
theorem d_X10_right_27 : decode m_X10_right.2.1 27 = .ok (.getfield 7, 3) := by decide +kernel
theorem d_X10_right_30 : decode m_X10_right.2.1 30 = .ok (.bipush 48, 2) := by decide +kernel
theorem d_X10_right_32 : decode m_X10_right.2.1 32 = .ok (.bipush 81, 2) := by decide +kernel
theorem d_X10_right_34 : decode m_X10_right.2.1 34 = .ok (.iload_n 1, 1) := by decide +kernel
theorem d_X10_right_35 : decode m_X10_right.2.1 35 = .ok (.imul, 1) := by decide +kernel
theorem d_X10_right_36 : decode m_X10_right.2.1 36 = .ok (.iadd, 1) := by decide +kernel
theorem d_X10_right_37 : decode m_X10_right.2.1 37 = .ok (.aload_n 0, 1) := by decide +kernel
theorem d_X10_right_38 : decode m_X10_right.2.1 38 = .ok (.getfield 97, 3) := by decide +kernel
theorem d_X10_right_41 : decode m_X10_right.2.1 41 = .ok (.iastore, 1) := by decide +kernel
theorem d_X10_right_42 : decode m_X10_right.2.1 42 = .ok (.iconst 0, 1) := by decide +kernel
theorem d_X10_right_43 : decode m_X10_right.2.1 43 = .ok (.istore_n 2, 1) := by decide +kernel
theorem d_X10_right_44 : decode m_X10_right.2.1 44 = .ok (.iload_n 2, 1) := by decide +kernel
theorem d_X10_right_45 : decode m_X10_right.2.1 45 = .ok (.bipush 80, 2) := by decide +kernel
theorem d_X10_right_47 : decode m_X10_right.2.1 47 = .ok (.if_icmp .ge 43, 3) := by decide +kernel
theorem d_X10_right_50 : decode m_X10_right.2.1 50 = .ok (.aload_n 0, 1) := by decide +kernel
theorem d_X10_right_51 : decode m_X10_right.2.1 51 = .ok (.getfield 7, 3) := by decide +kernel
theorem d_X10_right_54 : decode m_X10_right.2.1 54 = .ok (.bipush 48, 2) := by decide +kernel
theorem d_X10_right_56 : decode m_X10_right.2.1 56 = .ok (.bipush 81, 2) := by decide +kernel
theorem d_X10_right_58 : decode m_X10_right.2.1 58 = .ok (.iload_n 1, 1) := by decide +kernel
theorem d_X10_right_59 : decode m_X10_right.2.1 59 = .ok (.imul, 1) := by decide +kernel
theorem d_X10_right_60 : decode m_X10_right.2.1 60 = .ok (.iadd, 1) := by decide +kernel
theorem d_X10_right_61 : decode m_X10_right.2.1 61 = .ok (.iconst 1, 1) := by decide +kernel
theorem d_X10_right_62 : decode m_X10_right.2.1 62 = .ok (.iadd, 1) := by decide +kernel
theorem d_X10_right_63 : decode m_X10_right.2.1 63 = .ok (.iload_n 2, 1) := by decide +kernel
theorem d_X10_right_64 : decode m_X10_right.2.1 64 = .ok (.iadd, 1) := by decide +kernel
theorem d_X10_right_65 : decode m_X10_right.2.1 65 = .ok (.iload_n 2, 1) := by decide +kernel
theorem d_X10_right_66 : decode m_X10_right.2.1 66 = .ok (.aload_n 0, 1) := by decide +kernel
theorem d_X10_right_67 : decode m_X10_right.2.1 67 = .ok (.getfield 97, 3) := by decide +kernel
theorem d_X10_right_70 : decode m_X10_right.2.1 70 = .ok (.if_icmp .ge 12, 3) := by decide +kernel
theorem d_X10_right_73 : decode m_X10_right.2.1 73 = .ok (.aload_n 0, 1) := by decide +kernel
theorem d_X10_right_74 : decode m_X10_right.2.1 74 = .ok (.getfield 22, 3) := by decide +kernel
theorem d_X10_right_77 : decode m_X10_right.2.1 77 = .ok (.iload_n 2, 1) := by decide +kernel
theorem d_X10_right_78 : decode m_X10_right.2.1 78 = .ok (.iaload, 1) := by decide +kernel
theorem d_X10_right_79 : decode m_X10_right.2.1 79 = .ok (.goto 4, 3) := by decide +kernel
theorem d_X10_right_82 : decode m_X10_right.2.1 82 = .ok (.iconst 0, 1) := by decide +kernel
theorem d_X10_right_83 : decode m_X10_right.2.1 83 = .ok (.iastore, 1) := by decide +kernel
theorem d_X10_right_84 : decode m_X10_right.2.1 84 = .ok (.iinc 2 1, 3) := by decide +kernel
theorem d_X10_right_87 : decode m_X10_right.2.1 87 = .ok (.goto (-43), 3) := by decide +kernel
theorem d_X10_right_90 : decode m_X10_right.2.1 90 = .ok (.aload_n 0, 1) := by decide +kernel
theorem d_X10_right_91 : decode m_X10_right.2.1 91 = .ok (.iconst 0, 1) := by decide +kernel
theorem d_X10_right_92 : decode m_X10_right.2.1 92 = .ok (.putfield 97, 3) := by decide +kernel
theorem d_X10_right_95 : decode m_X10_right.2.1 95 = .ok (.aload_n 0, 1) := by decide +kernel
theorem d_X10_right_96 : decode m_X10_right.2.1 96 = .ok (.invokevirtual 139, 3) := by decide +kernel
theorem d_X10_right_99 : decode m_X10_right.2.1 99 = .ok (.aload_n 0, 1) := by decide +kernel
theorem d_X10_right_100 : decode m_X10_right.2.1 100 = .ok (.iload_n 1, 1) := by decide +kernel
theorem d_X10_right_101 : decode m_X10_right.2.1 101 = .ok (.invokevirtual 133, 3) := by decide +kernel
theorem d_X10_right_104 : decode m_X10_right.2.1 104 = .ok (.ireturn, 1) := by decide +kernel
theorem d_X10_delay_0 : decode m_X10_delay.2.1 0 = .ok (.iload_n 1, 1) := by decide +kernel
theorem d_X10_delay_1 : decode m_X10_delay.2.1 1 = .ok (.invokestatic 136, 3) := by decide +kernel
theorem d_X10_delay_4 : decode m_X10_delay.2.1 4 = .ok (.ifCond .eq 27, 3) := by decide +kernel
theorem d_X10_delay_7 : decode m_X10_delay.2.1 7 = .ok (.iload_n 2, 1) := by decide +kernel
theorem d_X10_delay_8 : decode m_X10_delay.2.1 8 = .ok (.iconst 0, 1) := by decide +kernel
theorem d_X10_delay_9 : decode m_X10_delay.2.1 9 = .ok (.sipush 5000, 3) := by decide +kernel
theorem d_X10_delay_12 : decode m_X10_delay.2.1 12 = .ok (.invokestatic 86, 3) := by decide +kernel
theorem d_X10_delay_15 : decode m_X10_delay.2.1 15 = .ok (.ifCond .eq 16, 3) := by decide +kernel
theorem d_X10_delay_18 : decode m_X10_delay.2.1 18 = .ok (.iload_n 3, 1) := by decide +kernel
theorem d_X10_delay_19 : decode m_X10_delay.2.1 19 = .ok (.sipush (-900), 3) := by decide +kernel
theorem d_X10_delay_22 : decode m_X10_delay.2.1 22 = .ok (.sipush 900, 3) := by decide +kernel
theorem d_X10_delay_25 : decode m_X10_delay.2.1 25 = .ok (.invokestatic 86, 3) := by decide +kernel
theorem d_X10_delay_28 : decode m_X10_delay.2.1 28 = .ok (.ifCond .ne 6, 3) := by decide +kernel
theorem d_X10_delay_31 : decode m_X10_delay.2.1 31 = .ok (.ldc 90, 2) := by decide +kernel
theorem d_X10_delay_33 : decode m_X10_delay.2.1 33 = .ok (.ireturn, 1) := by decide +kernel
theorem d_X10_delay_34 : decode m_X10_delay.2.1 34 = .ok (.aload_n 0, 1) := by decide +kernel
theorem d_X10_delay_35 : decode m_X10_delay.2.1 35 = .ok (.invokevirtual 94, 3) := by decide +kernel
theorem d_X10_delay_38 : decode m_X10_delay.2.1 38 = .ok (.aload_n 0, 1) := by decide +kernel
theorem d_X10_delay_39 : decode m_X10_delay.2.1 39 = .ok (.getfield 7, 3) := by decide +kernel
theorem d_X10_delay_42 : decode m_X10_delay.2.1 42 = .ok (.iconst 3, 1) := by decide +kernel
theorem d_X10_delay_43 : decode m_X10_delay.2.1 43 = .ok (.iload_n 1, 1) := by decide +kernel
theorem d_X10_delay_44 : decode m_X10_delay.2.1 44 = .ok (.iadd, 1) := by decide +kernel
theorem d_X10_delay_45 : decode m_X10_delay.2.1 45 = .ok (.iaload, 1) := by decide +kernel
theorem d_X10_delay_46 : decode m_X10_delay.2.1 46 = .ok (.istore 4, 2) := by decide +kernel
theorem d_X10_delay_48 : decode m_X10_delay.2.1 48 = .ok (.aload_n 0, 1) := by decide +kernel
theorem d_X10_delay_49 : decode m_X10_delay.2.1 49 = .ok (.getfield 7, 3) := by decide +kernel
theorem d_X10_delay_52 : decode m_X10_delay.2.1 52 = .ok (.iconst 3, 1) := by decide +kernel
theorem d_X10_delay_53 : decode m_X10_delay.2.1 53 = .ok (.iload_n 1, 1) := by decide +kernel
theorem d_X10_delay_54 : decode m_X10_delay.2.1 54 = .ok (.iadd, 1) := by decide +kernel
theorem d_X10_delay_55 : decode m_X10_delay.2.1 55 = .ok (.iload_n 2, 1) := by decide +kernel
theorem d_X10_delay_56 : decode m_X10_delay.2.1 56 = .ok (.iastore, 1) := by decide +kernel
theorem d_X10_delay_57 : decode m_X10_delay.2.1 57 = .ok (.aload_n 0, 1) := by decide +kernel
theorem d_X10_delay_58 : decode m_X10_delay.2.1 58 = .ok (.getfield 7, 3) := by decide +kernel
theorem d_X10_delay_61 : decode m_X10_delay.2.1 61 = .ok (.bipush 6, 2) := by decide +kernel
theorem d_X10_delay_63 : decode m_X10_delay.2.1 63 = .ok (.iload_n 1, 1) := by decide +kernel
theorem d_X10_delay_64 : decode m_X10_delay.2.1 64 = .ok (.iadd, 1) := by decide +kernel
theorem d_X10_delay_65 : decode m_X10_delay.2.1 65 = .ok (.iload_n 3, 1) := by decide +kernel
theorem d_X10_delay_66 : decode m_X10_delay.2.1 66 = .ok (.iastore, 1) := by decide +kernel
theorem d_X10_delay_67 : decode m_X10_delay.2.1 67 = .ok (.aload_n 0, 1) := by decide +kernel
theorem d_X10_delay_68 : decode m_X10_delay.2.1 68 = .ok (.invokevirtual 139, 3) := by decide +kernel
theorem d_X10_delay_71 : decode m_X10_delay.2.1 71 = .ok (.iload 4, 2) := by decide +kernel
theorem d_X10_delay_73 : decode m_X10_delay.2.1 73 = .ok (.ireturn, 1) := by decide +kernel
theorem d_X10_pointTime_0 : decode m_X10_pointTime.2.1 0 = .ok (.aload_n 0, 1) := by decide +kernel
theorem d_X10_pointTime_1 : decode m_X10_pointTime.2.1 1 = .ok (.getfield 7, 3) := by decide +kernel
theorem d_X10_pointTime_4 : decode m_X10_pointTime.2.1 4 = .ok (.bipush 9, 2) := by decide +kernel
theorem d_X10_pointTime_6 : decode m_X10_pointTime.2.1 6 = .ok (.bipush 13, 2) := by decide +kernel
theorem d_X10_pointTime_8 : decode m_X10_pointTime.2.1 8 = .ok (.iload_n 1, 1) := by decide +kernel
theorem d_X10_pointTime_9 : decode m_X10_pointTime.2.1 9 = .ok (.imul, 1) := by decide +kernel
theorem d_X10_pointTime_10 : decode m_X10_pointTime.2.1 10 = .ok (.iadd, 1) := by decide +kernel
theorem d_X10_pointTime_11 : decode m_X10_pointTime.2.1 11 = .ok (.iconst 1, 1) := by decide +kernel
theorem d_X10_pointTime_12 : decode m_X10_pointTime.2.1 12 = .ok (.iadd, 1) := by decide +kernel
theorem d_X10_pointTime_13 : decode m_X10_pointTime.2.1 13 = .ok (.iload_n 2, 1) := by decide +kernel
theorem d_X10_pointTime_14 : decode m_X10_pointTime.2.1 14 = .ok (.iadd, 1) := by decide +kernel
theorem d_X10_pointTime_15 : decode m_X10_pointTime.2.1 15 = .ok (.iaload, 1) := by decide +kernel
theorem d_X10_pointTime_16 : decode m_X10_pointTime.2.1 16 = .ok (.ireturn, 1) := by decide +kernel
theorem d_X10_pointValue_0 : decode m_X10_pointValue.2.1 0 = .ok (.aload_n 0, 1) := by decide +kernel
theorem d_X10_pointValue_1 : decode m_X10_pointValue.2.1 1 = .ok (.getfield 7, 3) := by decide +kernel
theorem d_X10_pointValue_4 : decode m_X10_pointValue.2.1 4 = .ok (.bipush 9, 2) := by decide +kernel
theorem d_X10_pointValue_6 : decode m_X10_pointValue.2.1 6 = .ok (.bipush 13, 2) := by decide +kernel
theorem d_X10_pointValue_8 : decode m_X10_pointValue.2.1 8 = .ok (.iload_n 1, 1) := by decide +kernel
theorem d_X10_pointValue_9 : decode m_X10_pointValue.2.1 9 = .ok (.imul, 1) := by decide +kernel
theorem d_X10_pointValue_10 : decode m_X10_pointValue.2.1 10 = .ok (.iadd, 1) := by decide +kernel
theorem d_X10_pointValue_11 : decode m_X10_pointValue.2.1 11 = .ok (.bipush 7, 2) := by decide +kernel
theorem d_X10_pointValue_13 : decode m_X10_pointValue.2.1 13 = .ok (.iadd, 1) := by decide +kernel
theorem d_X10_pointValue_14 : decode m_X10_pointValue.2.1 14 = .ok (.iload_n 2, 1) := by decide +kernel
theorem d_X10_pointValue_15 : decode m_X10_pointValue.2.1 15 = .ok (.iadd, 1) := by decide +kernel
theorem d_X10_pointValue_16 : decode m_X10_pointValue.2.1 16 = .ok (.iaload, 1) := by decide +kernel
theorem d_X10_pointValue_17 : decode m_X10_pointValue.2.1 17 = .ok (.ireturn, 1) := by decide +kernel
theorem d_X10_points_0 : decode m_X10_points.2.1 0 = .ok (.aload_n 0, 1) := by decide +kernel
theorem d_X10_points_1 : decode m_X10_points.2.1 1 = .ok (.getfield 7, 3) := by decide +kernel
theorem d_X10_points_4 : decode m_X10_points.2.1 4 = .ok (.bipush 9, 2) := by decide +kernel
theorem d_X10_points_6 : decode m_X10_points.2.1 6 = .ok (.bipush 13, 2) := by decide +kernel
theorem d_X10_points_8 : decode m_X10_points.2.1 8 = .ok (.iload_n 1, 1) := by decide +kernel
theorem d_X10_points_9 : decode m_X10_points.2.1 9 = .ok (.imul, 1) := by decide +kernel
theorem d_X10_points_10 : decode m_X10_points.2.1 10 = .ok (.iadd, 1) := by decide +kernel
theorem d_X10_points_11 : decode m_X10_points.2.1 11 = .ok (.iaload, 1) := by decide +kernel
theorem d_X10_points_12 : decode m_X10_points.2.1 12 = .ok (.ireturn, 1) := by decide +kernel
theorem d_X10_point_0 : decode m_X10_point.2.1 0 = .ok (.iload_n 1, 1) := by decide +kernel
theorem d_X10_point_1 : decode m_X10_point.2.1 1 = .ok (.invokestatic 136, 3) := by decide +kernel
theorem d_X10_point_4 : decode m_X10_point.2.1 4 = .ok (.ifCond .eq 25, 3) := by decide +kernel
theorem d_X10_point_7 : decode m_X10_point.2.1 7 = .ok (.iload_n 2, 1) := by decide +kernel
theorem d_X10_point_8 : decode m_X10_point.2.1 8 = .ok (.sipush (-10000), 3) := by decide +kernel
theorem d_X10_point_11 : decode m_X10_point.2.1 11 = .ok (.iconst 0, 1) := by decide +kernel
theorem d_X10_point_12 : decode m_X10_point.2.1 12 = .ok (.invokestatic 86, 3) := by decide +kernel
theorem d_X10_point_15 : decode m_X10_point.2.1 15 = .ok (.ifCond .eq 14, 3) := by decide +kernel
theorem d_X10_point_18 : decode m_X10_point.2.1 18 = .ok (.iload_n 3, 1) := by decide +kernel
theorem d_X10_point_19 : decode m_X10_point.2.1 19 = .ok (.ldc 142, 2) := by decide +kernel
theorem d_X10_point_21 : decode m_X10_point.2.1 21 = .ok (.ldc 143, 2) := by decide +kernel
theorem d_X10_point_23 : decode m_X10_point.2.1 23 = .ok (.invokestatic 86, 3) := by decide +kernel
theorem d_X10_point_26 : decode m_X10_point.2.1 26 = .ok (.ifCond .ne 6, 3) := by decide +kernel
theorem d_X10_point_29 : decode m_X10_point.2.1 29 = .ok (.ldc 90, 2) := by decide +kernel
theorem d_X10_point_31 : decode m_X10_point.2.1 31 = .ok (.ireturn, 1) := by decide +kernel
theorem d_X10_point_32 : decode m_X10_point.2.1 32 = .ok (.aload_n 0, 1) := by decide +kernel
theorem d_X10_point_33 : decode m_X10_point.2.1 33 = .ok (.iload_n 1, 1) := by decide +kernel
theorem d_X10_point_34 : decode m_X10_point.2.1 34 = .ok (.invokevirtual 144, 3) := by decide +kernel
theorem d_X10_point_37 : decode m_X10_point.2.1 37 = .ok (.istore 4, 2) := by decide +kernel
theorem d_X10_point_39 : decode m_X10_point.2.1 39 = .ok (.iconst 0, 1) := by decide +kernel
theorem d_X10_point_40 : decode m_X10_point.2.1 40 = .ok (.istore 5, 2) := by decide +kernel
theorem d_X10_point_42 : decode m_X10_point.2.1 42 = .ok (.iconst 0, 1) := by decide +kernel
theorem d_X10_point_43 : decode m_X10_point.2.1 43 = .ok (.istore 6, 2) := by decide +kernel
theorem d_X10_point_45 : decode m_X10_point.2.1 45 = .ok (.iconst 0, 1) := by decide +kernel
theorem d_X10_point_46 : decode m_X10_point.2.1 46 = .ok (.istore 7, 2) := by decide +kernel
theorem d_X10_point_48 : decode m_X10_point.2.1 48 = .ok (.iload 7, 2) := by decide +kernel
theorem d_X10_point_50 : decode m_X10_point.2.1 50 = .ok (.iload 4, 2) := by decide +kernel
theorem d_X10_point_52 : decode m_X10_point.2.1 52 = .ok (.if_icmp .ge 53, 3) := by decide +kernel
theorem d_X10_point_55 : decode m_X10_point.2.1 55 = .ok (.iload 5, 2) := by decide +kernel
theorem d_X10_point_57 : decode m_X10_point.2.1 57 = .ok (.aload_n 0, 1) := by decide +kernel
theorem d_X10_point_58 : decode m_X10_point.2.1 58 = .ok (.iload_n 1, 1) := by decide +kernel
theorem d_X10_point_59 : decode m_X10_point.2.1 59 = .ok (.iload 7, 2) := by decide +kernel
theorem d_X10_point_61 : decode m_X10_point.2.1 61 = .ok (.invokevirtual 147, 3) := by decide +kernel
theorem d_X10_point_64 : decode m_X10_point.2.1 64 = .ok (.iload_n 2, 1) := by decide +kernel
theorem d_X10_point_65 : decode m_X10_point.2.1 65 = .ok (.if_icmp .ge 7, 3) := by decide +kernel
theorem d_X10_point_68 : decode m_X10_point.2.1 68 = .ok (.iconst 1, 1) := by decide +kernel
theorem d_X10_point_69 : decode m_X10_point.2.1 69 = .ok (.goto 4, 3) := by decide +kernel
theorem d_X10_point_72 : decode m_X10_point.2.1 72 = .ok (.iconst 0, 1) := by decide +kernel
theorem d_X10_point_73 : decode m_X10_point.2.1 73 = .ok (.iadd, 1) := by decide +kernel
theorem d_X10_point_74 : decode m_X10_point.2.1 74 = .ok (.istore 5, 2) := by decide +kernel
theorem d_X10_point_76 : decode m_X10_point.2.1 76 = .ok (.iload 6, 2) := by decide +kernel
theorem d_X10_point_78 : decode m_X10_point.2.1 78 = .ok (.ifCond .ne 14, 3) := by decide +kernel
theorem d_X10_point_81 : decode m_X10_point.2.1 81 = .ok (.aload_n 0, 1) := by decide +kernel
theorem d_X10_point_82 : decode m_X10_point.2.1 82 = .ok (.iload_n 1, 1) := by decide +kernel
theorem d_X10_point_83 : decode m_X10_point.2.1 83 = .ok (.iload 7, 2) := by decide +kernel
theorem d_X10_point_85 : decode m_X10_point.2.1 85 = .ok (.invokevirtual 147, 3) := by decide +kernel
theorem d_X10_point_88 : decode m_X10_point.2.1 88 = .ok (.iload_n 2, 1) := by decide +kernel
theorem d_X10_point_89 : decode m_X10_point.2.1 89 = .ok (.if_icmp .ne 7, 3) := by decide +kernel
theorem d_X10_point_92 : decode m_X10_point.2.1 92 = .ok (.iconst 1, 1) := by decide +kernel
theorem d_X10_point_93 : decode m_X10_point.2.1 93 = .ok (.goto 4, 3) := by decide +kernel
theorem d_X10_point_96 : decode m_X10_point.2.1 96 = .ok (.iconst 0, 1) := by decide +kernel
theorem d_X10_point_97 : decode m_X10_point.2.1 97 = .ok (.istore 6, 2) := by decide +kernel
theorem d_X10_point_99 : decode m_X10_point.2.1 99 = .ok (.iinc 7 1, 3) := by decide +kernel
theorem d_X10_point_102 : decode m_X10_point.2.1 102 = .ok (.goto (-54), 3) := by decide +kernel
theorem d_X10_point_105 : decode m_X10_point.2.1 105 = .ok (.iload 6, 2) := by decide +kernel
theorem d_X10_point_107 : decode m_X10_point.2.1 107 = .ok (.ifCond .eq 6, 3) := by decide +kernel
theorem d_X10_point_110 : decode m_X10_point.2.1 110 = .ok (.ldc 85, 2) := by decide +kernel
theorem d_X10_point_112 : decode m_X10_point.2.1 112 = .ok (.ireturn, 1) := by decide +kernel
theorem d_X10_point_113 : decode m_X10_point.2.1 113 = .ok (.iload 4, 2) := by decide +kernel
theorem d_X10_point_115 : decode m_X10_point.2.1 115 = .ok (.bipush 6, 2) := by decide +kernel
theorem d_X10_point_117 : decode m_X10_point.2.1 117 = .ok (.if_icmp .ne 6, 3) := by decide +kernel
theorem d_X10_point_120 : decode m_X10_point.2.1 120 = .ok (.ldc 100, 2) := by decide +kernel
theorem d_X10_point_122 : decode m_X10_point.2.1 122 = .ok (.ireturn, 1) := by decide +kernel
theorem d_X10_point_123 : decode m_X10_point.2.1 123 = .ok (.aload_n 0, 1) := by decide +kernel
theorem d_X10_point_124 : decode m_X10_point.2.1 124 = .ok (.invokevirtual 94, 3) := by decide +kernel
theorem d_X10_point_127 : decode m_X10_point.2.1 127 = .ok (.iload 4, 2) := by decide +kernel
theorem d_X10_point_129 : decode m_X10_point.2.1 129 = .ok (.istore 7, 2) := by decide +kernel
theorem d_X10_point_131 : decode m_X10_point.2.1 131 = .ok (.iload 7, 2) := by decide +kernel
theorem d_X10_point_133 : decode m_X10_point.2.1 133 = .ok (.iload 5, 2) := by decide +kernel
theorem d_X10_point_135 : decode m_X10_point.2.1 135 = .ok (.if_icmp .le 62, 3) := by decide +kernel
theorem d_X10_point_138 : decode m_X10_point.2.1 138 = .ok (.aload_n 0, 1) := by decide +kernel
theorem d_X10_point_139 : decode m_X10_point.2.1 139 = .ok (.getfield 7, 3) := by decide +kernel
theorem d_X10_point_142 : decode m_X10_point.2.1 142 = .ok (.bipush 9, 2) := by decide +kernel
theorem d_X10_point_144 : decode m_X10_point.2.1 144 = .ok (.bipush 13, 2) := by decide +kernel
theorem d_X10_point_146 : decode m_X10_point.2.1 146 = .ok (.iload_n 1, 1) := by decide +kernel
theorem d_X10_point_147 : decode m_X10_point.2.1 147 = .ok (.imul, 1) := by decide +kernel
theorem d_X10_point_148 : decode m_X10_point.2.1 148 = .ok (.iadd, 1) := by decide +kernel
theorem d_X10_point_149 : decode m_X10_point.2.1 149 = .ok (.iconst 1, 1) := by decide +kernel
theorem d_X10_point_150 : decode m_X10_point.2.1 150 = .ok (.iadd, 1) := by decide +kernel
theorem d_X10_point_151 : decode m_X10_point.2.1 151 = .ok (.iload 7, 2) := by decide +kernel
theorem d_X10_point_153 : decode m_X10_point.2.1 153 = .ok (.iadd, 1) := by decide +kernel
theorem d_X10_point_154 : decode m_X10_point.2.1 154 = .ok (.aload_n 0, 1) := by decide +kernel
theorem d_X10_point_155 : decode m_X10_point.2.1 155 = .ok (.iload_n 1, 1) := by decide +kernel
theorem d_X10_point_156 : decode m_X10_point.2.1 156 = .ok (.iload 7, 2) := by decide +kernel
theorem d_X10_point_158 : decode m_X10_point.2.1 158 = .ok (.iconst 1, 1) := by decide +kernel
theorem d_X10_point_159 : decode m_X10_point.2.1 159 = .ok (.isub, 1) := by decide +kernel
theorem d_X10_point_160 : decode m_X10_point.2.1 160 = .ok (.invokevirtual 147, 3) := by decide +kernel
theorem d_X10_point_163 : decode m_X10_point.2.1 163 = .ok (.iastore, 1) := by decide +kernel
theorem d_X10_point_164 : decode m_X10_point.2.1 164 = .ok (.aload_n 0, 1) := by decide +kernel
theorem d_X10_point_165 : decode m_X10_point.2.1 165 = .ok (.getfield 7, 3) := by decide +kernel
theorem d_X10_point_168 : decode m_X10_point.2.1 168 = .ok (.bipush 9, 2) := by decide +kernel
theorem d_X10_point_170 : decode m_X10_point.2.1 170 = .ok (.bipush 13, 2) := by decide +kernel
theorem d_X10_point_172 : decode m_X10_point.2.1 172 = .ok (.iload_n 1, 1) := by decide +kernel
theorem d_X10_point_173 : decode m_X10_point.2.1 173 = .ok (.imul, 1) := by decide +kernel
theorem d_X10_point_174 : decode m_X10_point.2.1 174 = .ok (.iadd, 1) := by decide +kernel
theorem d_X10_point_175 : decode m_X10_point.2.1 175 = .ok (.bipush 7, 2) := by decide +kernel
theorem d_X10_point_177 : decode m_X10_point.2.1 177 = .ok (.iadd, 1) := by decide +kernel
theorem d_X10_point_178 : decode m_X10_point.2.1 178 = .ok (.iload 7, 2) := by decide +kernel
theorem d_X10_point_180 : decode m_X10_point.2.1 180 = .ok (.iadd, 1) := by decide +kernel
theorem d_X10_point_181 : decode m_X10_point.2.1 181 = .ok (.aload_n 0, 1) := by decide +kernel
theorem d_X10_point_182 : decode m_X10_point.2.1 182 = .ok (.iload_n 1, 1) := by decide +kernel
theorem d_X10_point_183 : decode m_X10_point.2.1 183 = .ok (.iload 7, 2) := by decide +kernel
theorem d_X10_point_185 : decode m_X10_point.2.1 185 = .ok (.iconst 1, 1) := by decide +kernel
theorem d_X10_point_186 : decode m_X10_point.2.1 186 = .ok (.isub, 1) := by decide +kernel
theorem d_X10_point_187 : decode m_X10_point.2.1 187 = .ok (.invokevirtual 150, 3) := by decide +kernel
theorem d_X10_point_190 : decode m_X10_point.2.1 190 = .ok (.iastore, 1) := by decide +kernel
theorem d_X10_point_191 : decode m_X10_point.2.1 191 = .ok (.iinc 7 (-1), 3) := by decide +kernel
theorem d_X10_point_194 : decode m_X10_point.2.1 194 = .ok (.goto (-63), 3) := by decide +kernel
theorem d_X10_point_197 : decode m_X10_point.2.1 197 = .ok (.aload_n 0, 1) := by decide +kernel
theorem d_X10_point_198 : decode m_X10_point.2.1 198 = .ok (.getfield 7, 3) := by decide +kernel
theorem d_X10_point_201 : decode m_X10_point.2.1 201 = .ok (.bipush 9, 2) := by decide +kernel
theorem d_X10_point_203 : decode m_X10_point.2.1 203 = .ok (.bipush 13, 2) := by decide +kernel
theorem d_X10_point_205 : decode m_X10_point.2.1 205 = .ok (.iload_n 1, 1) := by decide +kernel
theorem d_X10_point_206 : decode m_X10_point.2.1 206 = .ok (.imul, 1) := by decide +kernel
theorem d_X10_point_207 : decode m_X10_point.2.1 207 = .ok (.iadd, 1) := by decide +kernel
theorem d_X10_point_208 : decode m_X10_point.2.1 208 = .ok (.iconst 1, 1) := by decide +kernel
theorem d_X10_point_209 : decode m_X10_point.2.1 209 = .ok (.iadd, 1) := by decide +kernel
theorem d_X10_point_210 : decode m_X10_point.2.1 210 = .ok (.iload 5, 2) := by decide +kernel
theorem d_X10_point_212 : decode m_X10_point.2.1 212 = .ok (.iadd, 1) := by decide +kernel
theorem d_X10_point_213 : decode m_X10_point.2.1 213 = .ok (.iload_n 2, 1) := by decide +kernel
theorem d_X10_point_214 : decode m_X10_point.2.1 214 = .ok (.iastore, 1) := by decide +kernel
theorem d_X10_point_215 : decode m_X10_point.2.1 215 = .ok (.aload_n 0, 1) := by decide +kernel
theorem d_X10_point_216 : decode m_X10_point.2.1 216 = .ok (.getfield 7, 3) := by decide +kernel
theorem d_X10_point_219 : decode m_X10_point.2.1 219 = .ok (.bipush 9, 2) := by decide +kernel
theorem d_X10_point_221 : decode m_X10_point.2.1 221 = .ok (.bipush 13, 2) := by decide +kernel
theorem d_X10_point_223 : decode m_X10_point.2.1 223 = .ok (.iload_n 1, 1) := by decide +kernel
theorem d_X10_point_224 : decode m_X10_point.2.1 224 = .ok (.imul, 1) := by decide +kernel
theorem d_X10_point_225 : decode m_X10_point.2.1 225 = .ok (.iadd, 1) := by decide +kernel
theorem d_X10_point_226 : decode m_X10_point.2.1 226 = .ok (.bipush 7, 2) := by decide +kernel
theorem d_X10_point_228 : decode m_X10_point.2.1 228 = .ok (.iadd, 1) := by decide +kernel
theorem d_X10_point_229 : decode m_X10_point.2.1 229 = .ok (.iload 5, 2) := by decide +kernel
theorem d_X10_point_231 : decode m_X10_point.2.1 231 = .ok (.iadd, 1) := by decide +kernel
theorem d_X10_point_232 : decode m_X10_point.2.1 232 = .ok (.iload_n 3, 1) := by decide +kernel
theorem d_X10_point_233 : decode m_X10_point.2.1 233 = .ok (.iastore, 1) := by decide +kernel
theorem d_X10_point_234 : decode m_X10_point.2.1 234 = .ok (.aload_n 0, 1) := by decide +kernel
theorem d_X10_point_235 : decode m_X10_point.2.1 235 = .ok (.getfield 7, 3) := by decide +kernel
theorem d_X10_point_238 : decode m_X10_point.2.1 238 = .ok (.bipush 9, 2) := by decide +kernel
theorem d_X10_point_240 : decode m_X10_point.2.1 240 = .ok (.bipush 13, 2) := by decide +kernel
theorem d_X10_point_242 : decode m_X10_point.2.1 242 = .ok (.iload_n 1, 1) := by decide +kernel
theorem d_X10_point_243 : decode m_X10_point.2.1 243 = .ok (.imul, 1) := by decide +kernel
theorem d_X10_point_244 : decode m_X10_point.2.1 244 = .ok (.iadd, 1) := by decide +kernel
theorem d_X10_point_245 : decode m_X10_point.2.1 245 = .ok (.iload 4, 2) := by decide +kernel
theorem d_X10_point_247 : decode m_X10_point.2.1 247 = .ok (.iconst 1, 1) := by decide +kernel
theorem d_X10_point_248 : decode m_X10_point.2.1 248 = .ok (.iadd, 1) := by decide +kernel
theorem d_X10_point_249 : decode m_X10_point.2.1 249 = .ok (.iastore, 1) := by decide +kernel
theorem d_X10_point_250 : decode m_X10_point.2.1 250 = .ok (.aload_n 0, 1) := by decide +kernel
theorem d_X10_point_251 : decode m_X10_point.2.1 251 = .ok (.invokevirtual 139, 3) := by decide +kernel
theorem d_X10_point_254 : decode m_X10_point.2.1 254 = .ok (.iload 4, 2) := by decide +kernel
theorem d_X10_point_256 : decode m_X10_point.2.1 256 = .ok (.iconst 1, 1) := by decide +kernel
theorem d_X10_point_257 : decode m_X10_point.2.1 257 = .ok (.iadd, 1) := by decide +kernel
theorem d_X10_point_258 : decode m_X10_point.2.1 258 = .ok (.ireturn, 1) := by decide +kernel
theorem d_X10_clear_0 : decode m_X10_clear.2.1 0 = .ok (.iload_n 1, 1) := by decide +kernel
theorem d_X10_clear_1 : decode m_X10_clear.2.1 1 = .ok (.invokestatic 136, 3) := by decide +kernel
theorem d_X10_clear_4 : decode m_X10_clear.2.1 4 = .ok (.ifCond .ne 6, 3) := by decide +kernel
theorem d_X10_clear_7 : decode m_X10_clear.2.1 7 = .ok (.ldc 90, 2) := by decide +kernel
theorem d_X10_clear_9 : decode m_X10_clear.2.1 9 = .ok (.ireturn, 1) := by decide +kernel
theorem d_X10_clear_10 : decode m_X10_clear.2.1 10 = .ok (.aload_n 0, 1) := by decide +kernel
theorem d_X10_clear_11 : decode m_X10_clear.2.1 11 = .ok (.invokevirtual 94, 3) := by decide +kernel
theorem d_X10_clear_14 : decode m_X10_clear.2.1 14 = .ok (.aload_n 0, 1) := by decide +kernel
theorem d_X10_clear_15 : decode m_X10_clear.2.1 15 = .ok (.iload_n 1, 1) := by decide +kernel
theorem d_X10_clear_16 : decode m_X10_clear.2.1 16 = .ok (.invokevirtual 144, 3) := by decide +kernel
theorem d_X10_clear_19 : decode m_X10_clear.2.1 19 = .ok (.istore_n 2, 1) := by decide +kernel
theorem d_X10_clear_20 : decode m_X10_clear.2.1 20 = .ok (.iconst 0, 1) := by decide +kernel
theorem d_X10_clear_21 : decode m_X10_clear.2.1 21 = .ok (.istore_n 3, 1) := by decide +kernel
theorem d_X10_clear_22 : decode m_X10_clear.2.1 22 = .ok (.iload_n 3, 1) := by decide +kernel
theorem d_X10_clear_23 : decode m_X10_clear.2.1 23 = .ok (.bipush 13, 2) := by decide +kernel
theorem d_X10_clear_25 : decode m_X10_clear.2.1 25 = .ok (.if_icmp .ge 24, 3) := by decide +kernel
theorem d_X10_clear_28 : decode m_X10_clear.2.1 28 = .ok (.aload_n 0, 1) := by decide +kernel
theorem d_X10_clear_29 : decode m_X10_clear.2.1 29 = .ok (.getfield 7, 3) := by decide +kernel
theorem d_X10_clear_32 : decode m_X10_clear.2.1 32 = .ok (.bipush 9, 2) := by decide +kernel
theorem d_X10_clear_34 : decode m_X10_clear.2.1 34 = .ok (.bipush 13, 2) := by decide +kernel
theorem d_X10_clear_36 : decode m_X10_clear.2.1 36 = .ok (.iload_n 1, 1) := by decide +kernel
theorem d_X10_clear_37 : decode m_X10_clear.2.1 37 = .ok (.imul, 1) := by decide +kernel
theorem d_X10_clear_38 : decode m_X10_clear.2.1 38 = .ok (.iadd, 1) := by decide +kernel
theorem d_X10_clear_39 : decode m_X10_clear.2.1 39 = .ok (.iload_n 3, 1) := by decide +kernel
theorem d_X10_clear_40 : decode m_X10_clear.2.1 40 = .ok (.iadd, 1) := by decide +kernel
theorem d_X10_clear_41 : decode m_X10_clear.2.1 41 = .ok (.iconst 0, 1) := by decide +kernel
theorem d_X10_clear_42 : decode m_X10_clear.2.1 42 = .ok (.iastore, 1) := by decide +kernel
theorem d_X10_clear_43 : decode m_X10_clear.2.1 43 = .ok (.iinc 3 1, 3) := by decide +kernel
theorem d_X10_clear_46 : decode m_X10_clear.2.1 46 = .ok (.goto (-24), 3) := by decide +kernel
theorem d_X10_clear_49 : decode m_X10_clear.2.1 49 = .ok (.aload_n 0, 1) := by decide +kernel
theorem d_X10_clear_50 : decode m_X10_clear.2.1 50 = .ok (.invokevirtual 139, 3) := by decide +kernel
theorem d_X10_clear_53 : decode m_X10_clear.2.1 53 = .ok (.iload_n 2, 1) := by decide +kernel
theorem d_X10_clear_54 : decode m_X10_clear.2.1 54 = .ok (.ireturn, 1) := by decide +kernel
theorem d_X10_set_0 : decode m_X10_set.2.1 0 = .ok (.iload_n 1, 1) := by decide +kernel
theorem d_X10_set_1 : decode m_X10_set.2.1 1 = .ok (.ifCond .ne 15, 3) := by decide +kernel
theorem d_X10_set_4 : decode m_X10_set.2.1 4 = .ok (.iload_n 2, 1) := by decide +kernel
theorem d_X10_set_5 : decode m_X10_set.2.1 5 = .ok (.bipush 20, 2) := by decide +kernel
theorem d_X10_set_7 : decode m_X10_set.2.1 7 = .ok (.sipush 500, 3) := by decide +kernel
theorem d_X10_set_10 : decode m_X10_set.2.1 10 = .ok (.invokestatic 86, 3) := by decide +kernel
theorem d_X10_set_13 : decode m_X10_set.2.1 13 = .ok (.ifCond .ne 31, 3) := by decide +kernel
theorem d_X10_set_16 : decode m_X10_set.2.1 16 = .ok (.iload_n 1, 1) := by decide +kernel
theorem d_X10_set_17 : decode m_X10_set.2.1 17 = .ok (.iconst 1, 1) := by decide +kernel
theorem d_X10_set_18 : decode m_X10_set.2.1 18 = .ok (.if_icmp .ne 12, 3) := by decide +kernel
theorem d_X10_set_21 : decode m_X10_set.2.1 21 = .ok (.iload_n 2, 1) := by decide +kernel
theorem d_X10_set_22 : decode m_X10_set.2.1 22 = .ok (.iconst 0, 1) := by decide +kernel
theorem d_X10_set_23 : decode m_X10_set.2.1 23 = .ok (.iconst 4, 1) := by decide +kernel
theorem d_X10_set_24 : decode m_X10_set.2.1 24 = .ok (.invokestatic 86, 3) := by decide +kernel
theorem d_X10_set_27 : decode m_X10_set.2.1 27 = .ok (.ifCond .ne 17, 3) := by decide +kernel
theorem d_X10_set_30 : decode m_X10_set.2.1 30 = .ok (.iload_n 1, 1) := by decide +kernel
theorem d_X10_set_31 : decode m_X10_set.2.1 31 = .ok (.iconst 2, 1) := by decide +kernel
theorem d_X10_set_32 : decode m_X10_set.2.1 32 = .ok (.if_icmp .ne 16, 3) := by decide +kernel
theorem d_X10_set_35 : decode m_X10_set.2.1 35 = .ok (.iload_n 2, 1) := by decide +kernel
theorem d_X10_set_36 : decode m_X10_set.2.1 36 = .ok (.iconst 0, 1) := by decide +kernel
theorem d_X10_set_37 : decode m_X10_set.2.1 37 = .ok (.iconst 3, 1) := by decide +kernel
theorem d_X10_set_38 : decode m_X10_set.2.1 38 = .ok (.invokestatic 86, 3) := by decide +kernel
theorem d_X10_set_41 : decode m_X10_set.2.1 41 = .ok (.ifCond .eq 7, 3) := by decide +kernel
theorem d_X10_set_44 : decode m_X10_set.2.1 44 = .ok (.iconst 1, 1) := by decide +kernel
theorem d_X10_set_45 : decode m_X10_set.2.1 45 = .ok (.goto 4, 3) := by decide +kernel
theorem d_X10_set_48 : decode m_X10_set.2.1 48 = .ok (.iconst 0, 1) := by decide +kernel
theorem d_X10_set_49 : decode m_X10_set.2.1 49 = .ok (.istore_n 3, 1) := by decide +kernel
theorem d_X10_set_50 : decode m_X10_set.2.1 50 = .ok (.iload_n 3, 1) := by decide +kernel
theorem d_X10_set_51 : decode m_X10_set.2.1 51 = .ok (.ifCond .ne 6, 3) := by decide +kernel
theorem d_X10_set_54 : decode m_X10_set.2.1 54 = .ok (.ldc 90, 2) := by decide +kernel
theorem d_X10_set_56 : decode m_X10_set.2.1 56 = .ok (.ireturn, 1) := by decide +kernel
theorem d_X10_set_57 : decode m_X10_set.2.1 57 = .ok (.aload_n 0, 1) := by decide +kernel
theorem d_X10_set_58 : decode m_X10_set.2.1 58 = .ok (.invokevirtual 94, 3) := by decide +kernel
theorem d_X10_set_61 : decode m_X10_set.2.1 61 = .ok (.aload_n 0, 1) := by decide +kernel
theorem d_X10_set_62 : decode m_X10_set.2.1 62 = .ok (.getfield 7, 3) := by decide +kernel
theorem d_X10_set_65 : decode m_X10_set.2.1 65 = .ok (.iload_n 1, 1) := by decide +kernel
theorem d_X10_set_66 : decode m_X10_set.2.1 66 = .ok (.iaload, 1) := by decide +kernel
theorem d_X10_set_67 : decode m_X10_set.2.1 67 = .ok (.istore 4, 2) := by decide +kernel
theorem d_X10_set_69 : decode m_X10_set.2.1 69 = .ok (.aload_n 0, 1) := by decide +kernel
theorem d_X10_set_70 : decode m_X10_set.2.1 70 = .ok (.getfield 7, 3) := by decide +kernel
theorem d_X10_set_73 : decode m_X10_set.2.1 73 = .ok (.iload_n 1, 1) := by decide +kernel
theorem d_X10_set_74 : decode m_X10_set.2.1 74 = .ok (.iload_n 2, 1) := by decide +kernel
theorem d_X10_set_75 : decode m_X10_set.2.1 75 = .ok (.iastore, 1) := by decide +kernel
theorem d_X10_set_76 : decode m_X10_set.2.1 76 = .ok (.aload_n 0, 1) := by decide +kernel
theorem d_X10_set_77 : decode m_X10_set.2.1 77 = .ok (.invokevirtual 139, 3) := by decide +kernel
theorem d_X10_set_80 : decode m_X10_set.2.1 80 = .ok (.iload 4, 2) := by decide +kernel
theorem d_X10_set_82 : decode m_X10_set.2.1 82 = .ok (.ireturn, 1) := by decide +kernel
theorem d_X10_lagAt_0 : decode m_X10_lagAt.2.1 0 = .ok (.aload_n 0, 1) := by decide +kernel
theorem d_X10_lagAt_1 : decode m_X10_lagAt.2.1 1 = .ok (.getfield 7, 3) := by decide +kernel
theorem d_X10_lagAt_4 : decode m_X10_lagAt.2.1 4 = .ok (.iconst 3, 1) := by decide +kernel
theorem d_X10_lagAt_5 : decode m_X10_lagAt.2.1 5 = .ok (.iload_n 1, 1) := by decide +kernel
theorem d_X10_lagAt_6 : decode m_X10_lagAt.2.1 6 = .ok (.iadd, 1) := by decide +kernel
theorem d_X10_lagAt_7 : decode m_X10_lagAt.2.1 7 = .ok (.iaload, 1) := by decide +kernel
theorem d_X10_lagAt_8 : decode m_X10_lagAt.2.1 8 = .ok (.aload_n 0, 1) := by decide +kernel
theorem d_X10_lagAt_9 : decode m_X10_lagAt.2.1 9 = .ok (.getfield 7, 3) := by decide +kernel
theorem d_X10_lagAt_12 : decode m_X10_lagAt.2.1 12 = .ok (.bipush 6, 2) := by decide +kernel
theorem d_X10_lagAt_14 : decode m_X10_lagAt.2.1 14 = .ok (.iload_n 1, 1) := by decide +kernel
theorem d_X10_lagAt_15 : decode m_X10_lagAt.2.1 15 = .ok (.iadd, 1) := by decide +kernel
theorem d_X10_lagAt_16 : decode m_X10_lagAt.2.1 16 = .ok (.iaload, 1) := by decide +kernel
theorem d_X10_lagAt_17 : decode m_X10_lagAt.2.1 17 = .ok (.iload_n 2, 1) := by decide +kernel
theorem d_X10_lagAt_18 : decode m_X10_lagAt.2.1 18 = .ok (.imul, 1) := by decide +kernel
theorem d_X10_lagAt_19 : decode m_X10_lagAt.2.1 19 = .ok (.sipush 1000, 3) := by decide +kernel
theorem d_X10_lagAt_22 : decode m_X10_lagAt.2.1 22 = .ok (.idiv, 1) := by decide +kernel
theorem d_X10_lagAt_23 : decode m_X10_lagAt.2.1 23 = .ok (.iadd, 1) := by decide +kernel
theorem d_X10_lagAt_24 : decode m_X10_lagAt.2.1 24 = .ok (.istore_n 3, 1) := by decide +kernel
theorem d_X10_lagAt_25 : decode m_X10_lagAt.2.1 25 = .ok (.iload_n 3, 1) := by decide +kernel
theorem d_X10_lagAt_26 : decode m_X10_lagAt.2.1 26 = .ok (.ifCond .ge 7, 3) := by decide +kernel
theorem d_X10_lagAt_29 : decode m_X10_lagAt.2.1 29 = .ok (.iconst 0, 1) := by decide +kernel
theorem d_X10_lagAt_30 : decode m_X10_lagAt.2.1 30 = .ok (.goto 4, 3) := by decide +kernel
theorem d_X10_lagAt_33 : decode m_X10_lagAt.2.1 33 = .ok (.iload_n 3, 1) := by decide +kernel
theorem d_X10_lagAt_34 : decode m_X10_lagAt.2.1 34 = .ok (.ireturn, 1) := by decide +kernel
theorem d_X10_lag_0 : decode m_X10_lag.2.1 0 = .ok (.iload_n 1, 1) := by decide +kernel
theorem d_X10_lag_1 : decode m_X10_lag.2.1 1 = .ok (.invokestatic 136, 3) := by decide +kernel
theorem d_X10_lag_4 : decode m_X10_lag.2.1 4 = .ok (.ifCond .eq 14, 3) := by decide +kernel
theorem d_X10_lag_7 : decode m_X10_lag.2.1 7 = .ok (.iload_n 2, 1) := by decide +kernel
theorem d_X10_lag_8 : decode m_X10_lag.2.1 8 = .ok (.iconst 0, 1) := by decide +kernel
theorem d_X10_lag_9 : decode m_X10_lag.2.1 9 = .ok (.sipush 8000, 3) := by decide +kernel
theorem d_X10_lag_12 : decode m_X10_lag.2.1 12 = .ok (.invokestatic 86, 3) := by decide +kernel
theorem d_X10_lag_15 : decode m_X10_lag.2.1 15 = .ok (.ifCond .ne 8, 3) := by decide +kernel
theorem d_X10_lag_18 : decode m_X10_lag.2.1 18 = .ok (.ldc 90, 2) := by decide +kernel
theorem d_X10_lag_20 : decode m_X10_lag.2.1 20 = .ok (.goto 9, 3) := by decide +kernel
theorem d_X10_lag_23 : decode m_X10_lag.2.1 23 = .ok (.aload_n 0, 1) := by decide +kernel
theorem d_X10_lag_24 : decode m_X10_lag.2.1 24 = .ok (.iload_n 1, 1) := by decide +kernel
theorem d_X10_lag_25 : decode m_X10_lag.2.1 25 = .ok (.iload_n 2, 1) := by decide +kernel
theorem d_X10_lag_26 : decode m_X10_lag.2.1 26 = .ok (.invokevirtual 153, 3) := by decide +kernel
theorem d_X10_lag_29 : decode m_X10_lag.2.1 29 = .ok (.ireturn, 1) := by decide +kernel
theorem d_X10_madeFrom_0 : decode m_X10_madeFrom.2.1 0 = .ok (.iload_n 1, 1) := by decide +kernel
theorem d_X10_madeFrom_1 : decode m_X10_madeFrom.2.1 1 = .ok (.iconst 1, 1) := by decide +kernel
theorem d_X10_madeFrom_2 : decode m_X10_madeFrom.2.1 2 = .ok (.iadd, 1) := by decide +kernel
theorem d_X10_madeFrom_3 : decode m_X10_madeFrom.2.1 3 = .ok (.istore_n 3, 1) := by decide +kernel
theorem d_X10_madeFrom_4 : decode m_X10_madeFrom.2.1 4 = .ok (.iload_n 3, 1) := by decide +kernel
theorem d_X10_madeFrom_5 : decode m_X10_madeFrom.2.1 5 = .ok (.sipush 8000, 3) := by decide +kernel
theorem d_X10_madeFrom_8 : decode m_X10_madeFrom.2.1 8 = .ok (.if_icmp .gt 21, 3) := by decide +kernel
theorem d_X10_madeFrom_11 : decode m_X10_madeFrom.2.1 11 = .ok (.iload_n 3, 1) := by decide +kernel
theorem d_X10_madeFrom_12 : decode m_X10_madeFrom.2.1 12 = .ok (.aload_n 0, 1) := by decide +kernel
theorem d_X10_madeFrom_13 : decode m_X10_madeFrom.2.1 13 = .ok (.iload_n 2, 1) := by decide +kernel
theorem d_X10_madeFrom_14 : decode m_X10_madeFrom.2.1 14 = .ok (.iload_n 3, 1) := by decide +kernel
theorem d_X10_madeFrom_15 : decode m_X10_madeFrom.2.1 15 = .ok (.invokevirtual 153, 3) := by decide +kernel
theorem d_X10_madeFrom_18 : decode m_X10_madeFrom.2.1 18 = .ok (.isub, 1) := by decide +kernel
theorem d_X10_madeFrom_19 : decode m_X10_madeFrom.2.1 19 = .ok (.iload_n 1, 1) := by decide +kernel
theorem d_X10_madeFrom_20 : decode m_X10_madeFrom.2.1 20 = .ok (.if_icmp .ge 9, 3) := by decide +kernel
theorem d_X10_madeFrom_23 : decode m_X10_madeFrom.2.1 23 = .ok (.iinc 3 1, 3) := by decide +kernel
theorem d_X10_madeFrom_26 : decode m_X10_madeFrom.2.1 26 = .ok (.goto (-22), 3) := by decide +kernel
theorem d_X10_madeFrom_29 : decode m_X10_madeFrom.2.1 29 = .ok (.iload_n 3, 1) := by decide +kernel
theorem d_X10_madeFrom_30 : decode m_X10_madeFrom.2.1 30 = .ok (.sipush 8000, 3) := by decide +kernel
theorem d_X10_madeFrom_33 : decode m_X10_madeFrom.2.1 33 = .ok (.if_icmp .gt 12, 3) := by decide +kernel
theorem d_X10_madeFrom_36 : decode m_X10_madeFrom.2.1 36 = .ok (.aload_n 0, 1) := by decide +kernel
theorem d_X10_madeFrom_37 : decode m_X10_madeFrom.2.1 37 = .ok (.iload_n 2, 1) := by decide +kernel
theorem d_X10_madeFrom_38 : decode m_X10_madeFrom.2.1 38 = .ok (.iload_n 3, 1) := by decide +kernel
theorem d_X10_madeFrom_39 : decode m_X10_madeFrom.2.1 39 = .ok (.invokevirtual 153, 3) := by decide +kernel
theorem d_X10_madeFrom_42 : decode m_X10_madeFrom.2.1 42 = .ok (.ifCond .ne 7, 3) := by decide +kernel
theorem d_X10_madeFrom_45 : decode m_X10_madeFrom.2.1 45 = .ok (.iconst (-1), 1) := by decide +kernel
theorem d_X10_madeFrom_46 : decode m_X10_madeFrom.2.1 46 = .ok (.goto 4, 3) := by decide +kernel
theorem d_X10_madeFrom_49 : decode m_X10_madeFrom.2.1 49 = .ok (.iload_n 3, 1) := by decide +kernel
theorem d_X10_madeFrom_50 : decode m_X10_madeFrom.2.1 50 = .ok (.ireturn, 1) := by decide +kernel
theorem d_X10_breakWith_0 : decode m_X10_breakWith.2.1 0 = .ok (.iconst 0, 1) := by decide +kernel
theorem d_X10_breakWith_1 : decode m_X10_breakWith.2.1 1 = .ok (.istore_n 2, 1) := by decide +kernel
theorem d_X10_breakWith_2 : decode m_X10_breakWith.2.1 2 = .ok (.iload_n 2, 1) := by decide +kernel
theorem d_X10_breakWith_3 : decode m_X10_breakWith.2.1 3 = .ok (.aload_n 0, 1) := by decide +kernel
theorem d_X10_breakWith_4 : decode m_X10_breakWith.2.1 4 = .ok (.getfield 156, 3) := by decide +kernel
theorem d_X10_breakWith_7 : decode m_X10_breakWith.2.1 7 = .ok (.if_icmp .ge 21, 3) := by decide +kernel
theorem d_X10_breakWith_10 : decode m_X10_breakWith.2.1 10 = .ok (.aload_n 0, 1) := by decide +kernel
theorem d_X10_breakWith_11 : decode m_X10_breakWith.2.1 11 = .ok (.getfield 25, 3) := by decide +kernel
theorem d_X10_breakWith_14 : decode m_X10_breakWith.2.1 14 = .ok (.iload_n 2, 1) := by decide +kernel
theorem d_X10_breakWith_15 : decode m_X10_breakWith.2.1 15 = .ok (.iaload, 1) := by decide +kernel
theorem d_X10_breakWith_16 : decode m_X10_breakWith.2.1 16 = .ok (.iload_n 1, 1) := by decide +kernel
theorem d_X10_breakWith_17 : decode m_X10_breakWith.2.1 17 = .ok (.if_icmp .ne 5, 3) := by decide +kernel
theorem d_X10_breakWith_20 : decode m_X10_breakWith.2.1 20 = .ok (.iload_n 2, 1) := by decide +kernel
theorem d_X10_breakWith_21 : decode m_X10_breakWith.2.1 21 = .ok (.ireturn, 1) := by decide +kernel
theorem d_X10_breakWith_22 : decode m_X10_breakWith.2.1 22 = .ok (.iinc 2 1, 3) := by decide +kernel
theorem d_X10_breakWith_25 : decode m_X10_breakWith.2.1 25 = .ok (.goto (-23), 3) := by decide +kernel
theorem d_X10_breakWith_28 : decode m_X10_breakWith.2.1 28 = .ok (.iconst (-1), 1) := by decide +kernel
theorem d_X10_breakWith_29 : decode m_X10_breakWith.2.1 29 = .ok (.ireturn, 1) := by decide +kernel
theorem d_X10_makes_0 : decode m_X10_makes.2.1 0 = .ok (.aload_n 0, 1) := by decide +kernel
theorem d_X10_makes_1 : decode m_X10_makes.2.1 1 = .ok (.iload_n 1, 1) := by decide +kernel
theorem d_X10_makes_2 : decode m_X10_makes.2.1 2 = .ok (.invokevirtual 159, 3) := by decide +kernel
theorem d_X10_makes_5 : decode m_X10_makes.2.1 5 = .ok (.istore 4, 2) := by decide +kernel
theorem d_X10_makes_7 : decode m_X10_makes.2.1 7 = .ok (.iload 4, 2) := by decide +kernel
theorem d_X10_makes_9 : decode m_X10_makes.2.1 9 = .ok (.ifCond .ge 46, 3) := by decide +kernel
theorem d_X10_makes_12 : decode m_X10_makes.2.1 12 = .ok (.aload_n 0, 1) := by decide +kernel
theorem d_X10_makes_13 : decode m_X10_makes.2.1 13 = .ok (.getfield 25, 3) := by decide +kernel
theorem d_X10_makes_16 : decode m_X10_makes.2.1 16 = .ok (.aload_n 0, 1) := by decide +kernel
theorem d_X10_makes_17 : decode m_X10_makes.2.1 17 = .ok (.getfield 156, 3) := by decide +kernel
theorem d_X10_makes_20 : decode m_X10_makes.2.1 20 = .ok (.iload_n 1, 1) := by decide +kernel
theorem d_X10_makes_21 : decode m_X10_makes.2.1 21 = .ok (.iastore, 1) := by decide +kernel
theorem d_X10_makes_22 : decode m_X10_makes.2.1 22 = .ok (.aload_n 0, 1) := by decide +kernel
theorem d_X10_makes_23 : decode m_X10_makes.2.1 23 = .ok (.getfield 28, 3) := by decide +kernel
theorem d_X10_makes_26 : decode m_X10_makes.2.1 26 = .ok (.aload_n 0, 1) := by decide +kernel
theorem d_X10_makes_27 : decode m_X10_makes.2.1 27 = .ok (.getfield 156, 3) := by decide +kernel
theorem d_X10_makes_30 : decode m_X10_makes.2.1 30 = .ok (.iload_n 2, 1) := by decide +kernel
theorem d_X10_makes_31 : decode m_X10_makes.2.1 31 = .ok (.iastore, 1) := by decide +kernel
theorem d_X10_makes_32 : decode m_X10_makes.2.1 32 = .ok (.aload_n 0, 1) := by decide +kernel
theorem d_X10_makes_33 : decode m_X10_makes.2.1 33 = .ok (.getfield 31, 3) := by decide +kernel
theorem d_X10_makes_36 : decode m_X10_makes.2.1 36 = .ok (.aload_n 0, 1) := by decide +kernel
theorem d_X10_makes_37 : decode m_X10_makes.2.1 37 = .ok (.getfield 156, 3) := by decide +kernel
theorem d_X10_makes_40 : decode m_X10_makes.2.1 40 = .ok (.iload_n 3, 1) := by decide +kernel
theorem d_X10_makes_41 : decode m_X10_makes.2.1 41 = .ok (.iastore, 1) := by decide +kernel
theorem d_X10_makes_42 : decode m_X10_makes.2.1 42 = .ok (.aload_n 0, 1) := by decide +kernel
theorem d_X10_makes_43 : decode m_X10_makes.2.1 43 = .ok (.dup, 1) := by decide +kernel
theorem d_X10_makes_44 : decode m_X10_makes.2.1 44 = .ok (.getfield 156, 3) := by decide +kernel
theorem d_X10_makes_47 : decode m_X10_makes.2.1 47 = .ok (.iconst 1, 1) := by decide +kernel
theorem d_X10_makes_48 : decode m_X10_makes.2.1 48 = .ok (.iadd, 1) := by decide +kernel
theorem d_X10_makes_49 : decode m_X10_makes.2.1 49 = .ok (.putfield 156, 3) := by decide +kernel
theorem d_X10_makes_52 : decode m_X10_makes.2.1 52 = .ok (.goto 33, 3) := by decide +kernel
theorem d_X10_makes_55 : decode m_X10_makes.2.1 55 = .ok (.aload_n 0, 1) := by decide +kernel
theorem d_X10_makes_56 : decode m_X10_makes.2.1 56 = .ok (.getfield 28, 3) := by decide +kernel
theorem d_X10_makes_59 : decode m_X10_makes.2.1 59 = .ok (.iload 4, 2) := by decide +kernel
theorem d_X10_makes_61 : decode m_X10_makes.2.1 61 = .ok (.iaload, 1) := by decide +kernel
theorem d_X10_makes_62 : decode m_X10_makes.2.1 62 = .ok (.iload_n 2, 1) := by decide +kernel
theorem d_X10_makes_63 : decode m_X10_makes.2.1 63 = .ok (.if_icmp .ne 22, 3) := by decide +kernel
theorem d_X10_makes_66 : decode m_X10_makes.2.1 66 = .ok (.iload_n 3, 1) := by decide +kernel
theorem d_X10_makes_67 : decode m_X10_makes.2.1 67 = .ok (.aload_n 0, 1) := by decide +kernel
theorem d_X10_makes_68 : decode m_X10_makes.2.1 68 = .ok (.getfield 31, 3) := by decide +kernel
theorem d_X10_makes_71 : decode m_X10_makes.2.1 71 = .ok (.iload 4, 2) := by decide +kernel
theorem d_X10_makes_73 : decode m_X10_makes.2.1 73 = .ok (.iaload, 1) := by decide +kernel
theorem d_X10_makes_74 : decode m_X10_makes.2.1 74 = .ok (.if_icmp .ge 11, 3) := by decide +kernel
theorem d_X10_makes_77 : decode m_X10_makes.2.1 77 = .ok (.aload_n 0, 1) := by decide +kernel
theorem d_X10_makes_78 : decode m_X10_makes.2.1 78 = .ok (.getfield 31, 3) := by decide +kernel
theorem d_X10_makes_81 : decode m_X10_makes.2.1 81 = .ok (.iload 4, 2) := by decide +kernel
theorem d_X10_makes_83 : decode m_X10_makes.2.1 83 = .ok (.iload_n 3, 1) := by decide +kernel
theorem d_X10_makes_84 : decode m_X10_makes.2.1 84 = .ok (.iastore, 1) := by decide +kernel
theorem d_X10_makes_85 : decode m_X10_makes.2.1 85 = .ok (.return_, 1) := by decide +kernel
theorem d_X10_findsBreaks_0 : decode m_X10_findsBreaks.2.1 0 = .ok (.aload_n 0, 1) := by decide +kernel
theorem d_X10_findsBreaks_1 : decode m_X10_findsBreaks.2.1 1 = .ok (.getfield 25, 3) := by decide +kernel
theorem d_X10_findsBreaks_4 : decode m_X10_findsBreaks.2.1 4 = .ok (.iconst 0, 1) := by decide +kernel
theorem d_X10_findsBreaks_5 : decode m_X10_findsBreaks.2.1 5 = .ok (.iconst 0, 1) := by decide +kernel
theorem d_X10_findsBreaks_6 : decode m_X10_findsBreaks.2.1 6 = .ok (.iastore, 1) := by decide +kernel
theorem d_X10_findsBreaks_7 : decode m_X10_findsBreaks.2.1 7 = .ok (.aload_n 0, 1) := by decide +kernel
theorem d_X10_findsBreaks_8 : decode m_X10_findsBreaks.2.1 8 = .ok (.getfield 28, 3) := by decide +kernel
theorem d_X10_findsBreaks_11 : decode m_X10_findsBreaks.2.1 11 = .ok (.iconst 0, 1) := by decide +kernel
theorem d_X10_findsBreaks_12 : decode m_X10_findsBreaks.2.1 12 = .ok (.iconst 0, 1) := by decide +kernel
theorem d_X10_findsBreaks_13 : decode m_X10_findsBreaks.2.1 13 = .ok (.iastore, 1) := by decide +kernel
theorem d_X10_findsBreaks_14 : decode m_X10_findsBreaks.2.1 14 = .ok (.aload_n 0, 1) := by decide +kernel
theorem d_X10_findsBreaks_15 : decode m_X10_findsBreaks.2.1 15 = .ok (.getfield 31, 3) := by decide +kernel
theorem d_X10_findsBreaks_18 : decode m_X10_findsBreaks.2.1 18 = .ok (.iconst 0, 1) := by decide +kernel
theorem d_X10_findsBreaks_19 : decode m_X10_findsBreaks.2.1 19 = .ok (.ldc 125, 2) := by decide +kernel
theorem d_X10_findsBreaks_21 : decode m_X10_findsBreaks.2.1 21 = .ok (.iastore, 1) := by decide +kernel
theorem d_X10_findsBreaks_22 : decode m_X10_findsBreaks.2.1 22 = .ok (.aload_n 0, 1) := by decide +kernel
theorem d_X10_findsBreaks_23 : decode m_X10_findsBreaks.2.1 23 = .ok (.iconst 1, 1) := by decide +kernel
theorem d_X10_findsBreaks_24 : decode m_X10_findsBreaks.2.1 24 = .ok (.putfield 156, 3) := by decide +kernel
theorem d_X10_findsBreaks_27 : decode m_X10_findsBreaks.2.1 27 = .ok (.aload_n 0, 1) := by decide +kernel
theorem d_X10_findsBreaks_28 : decode m_X10_findsBreaks.2.1 28 = .ok (.invokevirtual 162, 3) := by decide +kernel
theorem d_X10_findsBreaks_31 : decode m_X10_findsBreaks.2.1 31 = .ok (.istore_n 1, 1) := by decide +kernel
theorem d_X10_findsBreaks_32 : decode m_X10_findsBreaks.2.1 32 = .ok (.iconst 0, 1) := by decide +kernel
theorem d_X10_findsBreaks_33 : decode m_X10_findsBreaks.2.1 33 = .ok (.istore_n 2, 1) := by decide +kernel
theorem d_X10_findsBreaks_34 : decode m_X10_findsBreaks.2.1 34 = .ok (.iload_n 2, 1) := by decide +kernel
theorem d_X10_findsBreaks_35 : decode m_X10_findsBreaks.2.1 35 = .ok (.aload_n 0, 1) := by decide +kernel
theorem d_X10_findsBreaks_36 : decode m_X10_findsBreaks.2.1 36 = .ok (.getfield 7, 3) := by decide +kernel
theorem d_X10_findsBreaks_39 : decode m_X10_findsBreaks.2.1 39 = .ok (.iconst 2, 1) := by decide +kernel
theorem d_X10_findsBreaks_40 : decode m_X10_findsBreaks.2.1 40 = .ok (.iaload, 1) := by decide +kernel
theorem d_X10_findsBreaks_41 : decode m_X10_findsBreaks.2.1 41 = .ok (.if_icmp .ge 100, 3) := by decide +kernel
theorem d_X10_findsBreaks_44 : decode m_X10_findsBreaks.2.1 44 = .ok (.aload_n 0, 1) := by decide +kernel
theorem d_X10_findsBreaks_45 : decode m_X10_findsBreaks.2.1 45 = .ok (.getfield 156, 3) := by decide +kernel
theorem d_X10_findsBreaks_48 : decode m_X10_findsBreaks.2.1 48 = .ok (.istore_n 3, 1) := by decide +kernel
theorem d_X10_findsBreaks_49 : decode m_X10_findsBreaks.2.1 49 = .ok (.iconst 0, 1) := by decide +kernel
theorem d_X10_findsBreaks_50 : decode m_X10_findsBreaks.2.1 50 = .ok (.istore 4, 2) := by decide +kernel
theorem d_X10_findsBreaks_52 : decode m_X10_findsBreaks.2.1 52 = .ok (.iload 4, 2) := by decide +kernel
theorem d_X10_findsBreaks_54 : decode m_X10_findsBreaks.2.1 54 = .ok (.iload_n 3, 1) := by decide +kernel
theorem d_X10_findsBreaks_55 : decode m_X10_findsBreaks.2.1 55 = .ok (.if_icmp .ge 80, 3) := by decide +kernel
theorem d_X10_findsBreaks_58 : decode m_X10_findsBreaks.2.1 58 = .ok (.iconst 0, 1) := by decide +kernel
theorem d_X10_findsBreaks_59 : decode m_X10_findsBreaks.2.1 59 = .ok (.istore 5, 2) := by decide +kernel
theorem d_X10_findsBreaks_61 : decode m_X10_findsBreaks.2.1 61 = .ok (.iload 5, 2) := by decide +kernel
theorem d_X10_findsBreaks_63 : decode m_X10_findsBreaks.2.1 63 = .ok (.iconst 3, 1) := by decide +kernel
theorem d_X10_findsBreaks_64 : decode m_X10_findsBreaks.2.1 64 = .ok (.if_icmp .ge 65, 3) := by decide +kernel
theorem d_X10_findsBreaks_67 : decode m_X10_findsBreaks.2.1 67 = .ok (.aload_n 0, 1) := by decide +kernel
theorem d_X10_findsBreaks_68 : decode m_X10_findsBreaks.2.1 68 = .ok (.getfield 28, 3) := by decide +kernel
theorem d_X10_findsBreaks_71 : decode m_X10_findsBreaks.2.1 71 = .ok (.iload 4, 2) := by decide +kernel
theorem d_X10_findsBreaks_73 : decode m_X10_findsBreaks.2.1 73 = .ok (.iaload, 1) := by decide +kernel
theorem d_X10_findsBreaks_74 : decode m_X10_findsBreaks.2.1 74 = .ok (.iload_n 2, 1) := by decide +kernel
theorem d_X10_findsBreaks_75 : decode m_X10_findsBreaks.2.1 75 = .ok (.if_icmp .ne 29, 3) := by decide +kernel
theorem d_X10_findsBreaks_78 : decode m_X10_findsBreaks.2.1 78 = .ok (.iload_n 1, 1) := by decide +kernel
theorem d_X10_findsBreaks_79 : decode m_X10_findsBreaks.2.1 79 = .ok (.iload 5, 2) := by decide +kernel
theorem d_X10_findsBreaks_81 : decode m_X10_findsBreaks.2.1 81 = .ok (.ishr, 1) := by decide +kernel
theorem d_X10_findsBreaks_82 : decode m_X10_findsBreaks.2.1 82 = .ok (.iconst 1, 1) := by decide +kernel
theorem d_X10_findsBreaks_83 : decode m_X10_findsBreaks.2.1 83 = .ok (.iand, 1) := by decide +kernel
theorem d_X10_findsBreaks_84 : decode m_X10_findsBreaks.2.1 84 = .ok (.iconst 1, 1) := by decide +kernel
theorem d_X10_findsBreaks_85 : decode m_X10_findsBreaks.2.1 85 = .ok (.if_icmp .ne 19, 3) := by decide +kernel
theorem d_X10_findsBreaks_88 : decode m_X10_findsBreaks.2.1 88 = .ok (.aload_n 0, 1) := by decide +kernel
theorem d_X10_findsBreaks_89 : decode m_X10_findsBreaks.2.1 89 = .ok (.aload_n 0, 1) := by decide +kernel
theorem d_X10_findsBreaks_90 : decode m_X10_findsBreaks.2.1 90 = .ok (.getfield 25, 3) := by decide +kernel
theorem d_X10_findsBreaks_93 : decode m_X10_findsBreaks.2.1 93 = .ok (.iload 4, 2) := by decide +kernel
theorem d_X10_findsBreaks_95 : decode m_X10_findsBreaks.2.1 95 = .ok (.iaload, 1) := by decide +kernel
theorem d_X10_findsBreaks_96 : decode m_X10_findsBreaks.2.1 96 = .ok (.iload 5, 2) := by decide +kernel
theorem d_X10_findsBreaks_98 : decode m_X10_findsBreaks.2.1 98 = .ok (.invokevirtual 165, 3) := by decide +kernel
theorem d_X10_findsBreaks_101 : decode m_X10_findsBreaks.2.1 101 = .ok (.goto 4, 3) := by decide +kernel
theorem d_X10_findsBreaks_104 : decode m_X10_findsBreaks.2.1 104 = .ok (.iconst (-1), 1) := by decide +kernel
theorem d_X10_findsBreaks_105 : decode m_X10_findsBreaks.2.1 105 = .ok (.istore 6, 2) := by decide +kernel
theorem d_X10_findsBreaks_107 : decode m_X10_findsBreaks.2.1 107 = .ok (.iload 6, 2) := by decide +kernel
theorem d_X10_findsBreaks_109 : decode m_X10_findsBreaks.2.1 109 = .ok (.ifCond .lt 14, 3) := by decide +kernel
theorem d_X10_findsBreaks_112 : decode m_X10_findsBreaks.2.1 112 = .ok (.aload_n 0, 1) := by decide +kernel
theorem d_X10_findsBreaks_113 : decode m_X10_findsBreaks.2.1 113 = .ok (.iload 6, 2) := by decide +kernel
theorem d_X10_findsBreaks_115 : decode m_X10_findsBreaks.2.1 115 = .ok (.iload_n 2, 1) := by decide +kernel
theorem d_X10_findsBreaks_116 : decode m_X10_findsBreaks.2.1 116 = .ok (.iconst 1, 1) := by decide +kernel
theorem d_X10_findsBreaks_117 : decode m_X10_findsBreaks.2.1 117 = .ok (.iadd, 1) := by decide +kernel
theorem d_X10_findsBreaks_118 : decode m_X10_findsBreaks.2.1 118 = .ok (.iload 5, 2) := by decide +kernel
theorem d_X10_findsBreaks_120 : decode m_X10_findsBreaks.2.1 120 = .ok (.invokevirtual 168, 3) := by decide +kernel
theorem d_X10_findsBreaks_123 : decode m_X10_findsBreaks.2.1 123 = .ok (.iinc 5 1, 3) := by decide +kernel
theorem d_X10_findsBreaks_126 : decode m_X10_findsBreaks.2.1 126 = .ok (.goto (-65), 3) := by decide +kernel
theorem d_X10_findsBreaks_129 : decode m_X10_findsBreaks.2.1 129 = .ok (.iinc 4 1, 3) := by decide +kernel
theorem d_X10_findsBreaks_132 : decode m_X10_findsBreaks.2.1 132 = .ok (.goto (-80), 3) := by decide +kernel
theorem d_X10_findsBreaks_135 : decode m_X10_findsBreaks.2.1 135 = .ok (.iinc 2 1, 3) := by decide +kernel
theorem d_X10_findsBreaks_138 : decode m_X10_findsBreaks.2.1 138 = .ok (.goto (-104), 3) := by decide +kernel
theorem d_X10_findsBreaks_141 : decode m_X10_findsBreaks.2.1 141 = .ok (.iconst 1, 1) := by decide +kernel
theorem d_X10_findsBreaks_142 : decode m_X10_findsBreaks.2.1 142 = .ok (.istore_n 2, 1) := by decide +kernel
theorem d_X10_findsBreaks_143 : decode m_X10_findsBreaks.2.1 143 = .ok (.iload_n 2, 1) := by decide +kernel
theorem d_X10_findsBreaks_144 : decode m_X10_findsBreaks.2.1 144 = .ok (.aload_n 0, 1) := by decide +kernel
theorem d_X10_findsBreaks_145 : decode m_X10_findsBreaks.2.1 145 = .ok (.getfield 156, 3) := by decide +kernel
theorem d_X10_findsBreaks_148 : decode m_X10_findsBreaks.2.1 148 = .ok (.if_icmp .ge 62, 3) := by decide +kernel
theorem d_X10_findsBreaks_151 : decode m_X10_findsBreaks.2.1 151 = .ok (.iload_n 2, 1) := by decide +kernel
theorem d_X10_findsBreaks_152 : decode m_X10_findsBreaks.2.1 152 = .ok (.istore_n 3, 1) := by decide +kernel
theorem d_X10_findsBreaks_153 : decode m_X10_findsBreaks.2.1 153 = .ok (.iload_n 3, 1) := by decide +kernel
theorem d_X10_findsBreaks_154 : decode m_X10_findsBreaks.2.1 154 = .ok (.ifCond .le 50, 3) := by decide +kernel
theorem d_X10_findsBreaks_157 : decode m_X10_findsBreaks.2.1 157 = .ok (.aload_n 0, 1) := by decide +kernel
theorem d_X10_findsBreaks_158 : decode m_X10_findsBreaks.2.1 158 = .ok (.getfield 25, 3) := by decide +kernel
theorem d_X10_findsBreaks_161 : decode m_X10_findsBreaks.2.1 161 = .ok (.iload_n 3, 1) := by decide +kernel
theorem d_X10_findsBreaks_162 : decode m_X10_findsBreaks.2.1 162 = .ok (.iaload, 1) := by decide +kernel
theorem d_X10_findsBreaks_163 : decode m_X10_findsBreaks.2.1 163 = .ok (.aload_n 0, 1) := by decide +kernel
theorem d_X10_findsBreaks_164 : decode m_X10_findsBreaks.2.1 164 = .ok (.getfield 25, 3) := by decide +kernel
theorem d_X10_findsBreaks_167 : decode m_X10_findsBreaks.2.1 167 = .ok (.iload_n 3, 1) := by decide +kernel
theorem d_X10_findsBreaks_168 : decode m_X10_findsBreaks.2.1 168 = .ok (.iconst 1, 1) := by decide +kernel
theorem d_X10_findsBreaks_169 : decode m_X10_findsBreaks.2.1 169 = .ok (.isub, 1) := by decide +kernel
theorem d_X10_findsBreaks_170 : decode m_X10_findsBreaks.2.1 170 = .ok (.iaload, 1) := by decide +kernel
theorem d_X10_findsBreaks_171 : decode m_X10_findsBreaks.2.1 171 = .ok (.if_icmp .ge 33, 3) := by decide +kernel
theorem d_X10_findsBreaks_174 : decode m_X10_findsBreaks.2.1 174 = .ok (.aload_n 0, 1) := by decide +kernel
theorem d_X10_findsBreaks_175 : decode m_X10_findsBreaks.2.1 175 = .ok (.getfield 25, 3) := by decide +kernel
theorem d_X10_findsBreaks_178 : decode m_X10_findsBreaks.2.1 178 = .ok (.iload_n 3, 1) := by decide +kernel
theorem d_X10_findsBreaks_179 : decode m_X10_findsBreaks.2.1 179 = .ok (.invokestatic 172, 3) := by decide +kernel
theorem d_X10_findsBreaks_182 : decode m_X10_findsBreaks.2.1 182 = .ok (.aload_n 0, 1) := by decide +kernel
theorem d_X10_findsBreaks_183 : decode m_X10_findsBreaks.2.1 183 = .ok (.getfield 28, 3) := by decide +kernel
theorem d_X10_findsBreaks_186 : decode m_X10_findsBreaks.2.1 186 = .ok (.iload_n 3, 1) := by decide +kernel
theorem d_X10_findsBreaks_187 : decode m_X10_findsBreaks.2.1 187 = .ok (.invokestatic 172, 3) := by decide +kernel
theorem d_X10_findsBreaks_190 : decode m_X10_findsBreaks.2.1 190 = .ok (.aload_n 0, 1) := by decide +kernel
theorem d_X10_findsBreaks_191 : decode m_X10_findsBreaks.2.1 191 = .ok (.getfield 31, 3) := by decide +kernel
theorem d_X10_findsBreaks_194 : decode m_X10_findsBreaks.2.1 194 = .ok (.iload_n 3, 1) := by decide +kernel
theorem d_X10_findsBreaks_195 : decode m_X10_findsBreaks.2.1 195 = .ok (.invokestatic 172, 3) := by decide +kernel
theorem d_X10_findsBreaks_198 : decode m_X10_findsBreaks.2.1 198 = .ok (.iinc 3 (-1), 3) := by decide +kernel
theorem d_X10_findsBreaks_201 : decode m_X10_findsBreaks.2.1 201 = .ok (.goto (-48), 3) := by decide +kernel
theorem d_X10_findsBreaks_204 : decode m_X10_findsBreaks.2.1 204 = .ok (.iinc 2 1, 3) := by decide +kernel
theorem d_X10_findsBreaks_207 : decode m_X10_findsBreaks.2.1 207 = .ok (.goto (-64), 3) := by decide +kernel
theorem d_X10_findsBreaks_210 : decode m_X10_findsBreaks.2.1 210 = .ok (.return_, 1) := by decide +kernel
theorem d_X10_swaps_0 : decode m_X10_swaps.2.1 0 = .ok (.aload_n 0, 1) := by decide +kernel
theorem d_X10_swaps_1 : decode m_X10_swaps.2.1 1 = .ok (.iload_n 1, 1) := by decide +kernel
theorem d_X10_swaps_2 : decode m_X10_swaps.2.1 2 = .ok (.iaload, 1) := by decide +kernel
theorem d_X10_swaps_3 : decode m_X10_swaps.2.1 3 = .ok (.istore_n 2, 1) := by decide +kernel
theorem d_X10_swaps_4 : decode m_X10_swaps.2.1 4 = .ok (.aload_n 0, 1) := by decide +kernel
theorem d_X10_swaps_5 : decode m_X10_swaps.2.1 5 = .ok (.iload_n 1, 1) := by decide +kernel
theorem d_X10_swaps_6 : decode m_X10_swaps.2.1 6 = .ok (.aload_n 0, 1) := by decide +kernel
theorem d_X10_swaps_7 : decode m_X10_swaps.2.1 7 = .ok (.iload_n 1, 1) := by decide +kernel
theorem d_X10_swaps_8 : decode m_X10_swaps.2.1 8 = .ok (.iconst 1, 1) := by decide +kernel
theorem d_X10_swaps_9 : decode m_X10_swaps.2.1 9 = .ok (.isub, 1) := by decide +kernel
theorem d_X10_swaps_10 : decode m_X10_swaps.2.1 10 = .ok (.iaload, 1) := by decide +kernel
theorem d_X10_swaps_11 : decode m_X10_swaps.2.1 11 = .ok (.iastore, 1) := by decide +kernel
theorem d_X10_swaps_12 : decode m_X10_swaps.2.1 12 = .ok (.aload_n 0, 1) := by decide +kernel
theorem d_X10_swaps_13 : decode m_X10_swaps.2.1 13 = .ok (.iload_n 1, 1) := by decide +kernel
theorem d_X10_swaps_14 : decode m_X10_swaps.2.1 14 = .ok (.iconst 1, 1) := by decide +kernel
theorem d_X10_swaps_15 : decode m_X10_swaps.2.1 15 = .ok (.isub, 1) := by decide +kernel
theorem d_X10_swaps_16 : decode m_X10_swaps.2.1 16 = .ok (.iload_n 2, 1) := by decide +kernel
theorem d_X10_swaps_17 : decode m_X10_swaps.2.1 17 = .ok (.iastore, 1) := by decide +kernel
theorem d_X10_swaps_18 : decode m_X10_swaps.2.1 18 = .ok (.return_, 1) := by decide +kernel
theorem d_X10_breakAt_0 : decode m_X10_breakAt.2.1 0 = .ok (.iload_n 1, 1) := by decide +kernel
theorem d_X10_breakAt_1 : decode m_X10_breakAt.2.1 1 = .ok (.ifCond .lt 12, 3) := by decide +kernel
theorem d_X10_breakAt_4 : decode m_X10_breakAt.2.1 4 = .ok (.iload_n 2, 1) := by decide +kernel
theorem d_X10_breakAt_5 : decode m_X10_breakAt.2.1 5 = .ok (.iconst 0, 1) := by decide +kernel
theorem d_X10_breakAt_6 : decode m_X10_breakAt.2.1 6 = .ok (.iconst 2, 1) := by decide +kernel
theorem d_X10_breakAt_7 : decode m_X10_breakAt.2.1 7 = .ok (.invokestatic 86, 3) := by decide +kernel
theorem d_X10_breakAt_10 : decode m_X10_breakAt.2.1 10 = .ok (.ifCond .ne 6, 3) := by decide +kernel
theorem d_X10_breakAt_13 : decode m_X10_breakAt.2.1 13 = .ok (.ldc 90, 2) := by decide +kernel
theorem d_X10_breakAt_15 : decode m_X10_breakAt.2.1 15 = .ok (.ireturn, 1) := by decide +kernel
theorem d_X10_breakAt_16 : decode m_X10_breakAt.2.1 16 = .ok (.iload_n 1, 1) := by decide +kernel
theorem d_X10_breakAt_17 : decode m_X10_breakAt.2.1 17 = .ok (.aload_n 0, 1) := by decide +kernel
theorem d_X10_breakAt_18 : decode m_X10_breakAt.2.1 18 = .ok (.getfield 156, 3) := by decide +kernel
theorem d_X10_breakAt_21 : decode m_X10_breakAt.2.1 21 = .ok (.if_icmp .lt 6, 3) := by decide +kernel
theorem d_X10_breakAt_24 : decode m_X10_breakAt.2.1 24 = .ok (.ldc 125, 2) := by decide +kernel
theorem d_X10_breakAt_26 : decode m_X10_breakAt.2.1 26 = .ok (.ireturn, 1) := by decide +kernel
theorem d_X10_breakAt_27 : decode m_X10_breakAt.2.1 27 = .ok (.iload_n 2, 1) := by decide +kernel
theorem d_X10_breakAt_28 : decode m_X10_breakAt.2.1 28 = .ok (.ifCond .ne 12, 3) := by decide +kernel
theorem d_X10_breakAt_31 : decode m_X10_breakAt.2.1 31 = .ok (.aload_n 0, 1) := by decide +kernel
theorem d_X10_breakAt_32 : decode m_X10_breakAt.2.1 32 = .ok (.getfield 25, 3) := by decide +kernel
theorem d_X10_breakAt_35 : decode m_X10_breakAt.2.1 35 = .ok (.iload_n 1, 1) := by decide +kernel
theorem d_X10_breakAt_36 : decode m_X10_breakAt.2.1 36 = .ok (.iaload, 1) := by decide +kernel
theorem d_X10_breakAt_37 : decode m_X10_breakAt.2.1 37 = .ok (.goto 23, 3) := by decide +kernel
theorem d_X10_breakAt_40 : decode m_X10_breakAt.2.1 40 = .ok (.iload_n 2, 1) := by decide +kernel
theorem d_X10_breakAt_41 : decode m_X10_breakAt.2.1 41 = .ok (.iconst 1, 1) := by decide +kernel
theorem d_X10_breakAt_42 : decode m_X10_breakAt.2.1 42 = .ok (.if_icmp .ne 12, 3) := by decide +kernel
theorem d_X10_breakAt_45 : decode m_X10_breakAt.2.1 45 = .ok (.aload_n 0, 1) := by decide +kernel
theorem d_X10_breakAt_46 : decode m_X10_breakAt.2.1 46 = .ok (.getfield 28, 3) := by decide +kernel
theorem d_X10_breakAt_49 : decode m_X10_breakAt.2.1 49 = .ok (.iload_n 1, 1) := by decide +kernel
theorem d_X10_breakAt_50 : decode m_X10_breakAt.2.1 50 = .ok (.iaload, 1) := by decide +kernel
theorem d_X10_breakAt_51 : decode m_X10_breakAt.2.1 51 = .ok (.goto 9, 3) := by decide +kernel
theorem d_X10_breakAt_54 : decode m_X10_breakAt.2.1 54 = .ok (.aload_n 0, 1) := by decide +kernel
theorem d_X10_breakAt_55 : decode m_X10_breakAt.2.1 55 = .ok (.getfield 31, 3) := by decide +kernel
theorem d_X10_breakAt_58 : decode m_X10_breakAt.2.1 58 = .ok (.iload_n 1, 1) := by decide +kernel
theorem d_X10_breakAt_59 : decode m_X10_breakAt.2.1 59 = .ok (.iaload, 1) := by decide +kernel
theorem d_X10_breakAt_60 : decode m_X10_breakAt.2.1 60 = .ok (.ireturn, 1) := by decide +kernel
theorem d_X10_nextBreak_0 : decode m_X10_nextBreak.2.1 0 = .ok (.iconst 0, 1) := by decide +kernel
theorem d_X10_nextBreak_1 : decode m_X10_nextBreak.2.1 1 = .ok (.istore_n 2, 1) := by decide +kernel
theorem d_X10_nextBreak_2 : decode m_X10_nextBreak.2.1 2 = .ok (.iload_n 2, 1) := by decide +kernel
theorem d_X10_nextBreak_3 : decode m_X10_nextBreak.2.1 3 = .ok (.aload_n 0, 1) := by decide +kernel
theorem d_X10_nextBreak_4 : decode m_X10_nextBreak.2.1 4 = .ok (.getfield 156, 3) := by decide +kernel
theorem d_X10_nextBreak_7 : decode m_X10_nextBreak.2.1 7 = .ok (.if_icmp .ge 26, 3) := by decide +kernel
theorem d_X10_nextBreak_10 : decode m_X10_nextBreak.2.1 10 = .ok (.aload_n 0, 1) := by decide +kernel
theorem d_X10_nextBreak_11 : decode m_X10_nextBreak.2.1 11 = .ok (.getfield 25, 3) := by decide +kernel
theorem d_X10_nextBreak_14 : decode m_X10_nextBreak.2.1 14 = .ok (.iload_n 2, 1) := by decide +kernel
theorem d_X10_nextBreak_15 : decode m_X10_nextBreak.2.1 15 = .ok (.iaload, 1) := by decide +kernel
theorem d_X10_nextBreak_16 : decode m_X10_nextBreak.2.1 16 = .ok (.iload_n 1, 1) := by decide +kernel
theorem d_X10_nextBreak_17 : decode m_X10_nextBreak.2.1 17 = .ok (.if_icmp .le 10, 3) := by decide +kernel
theorem d_X10_nextBreak_20 : decode m_X10_nextBreak.2.1 20 = .ok (.aload_n 0, 1) := by decide +kernel
theorem d_X10_nextBreak_21 : decode m_X10_nextBreak.2.1 21 = .ok (.getfield 25, 3) := by decide +kernel
theorem d_X10_nextBreak_24 : decode m_X10_nextBreak.2.1 24 = .ok (.iload_n 2, 1) := by decide +kernel
theorem d_X10_nextBreak_25 : decode m_X10_nextBreak.2.1 25 = .ok (.iaload, 1) := by decide +kernel
theorem d_X10_nextBreak_26 : decode m_X10_nextBreak.2.1 26 = .ok (.ireturn, 1) := by decide +kernel
theorem d_X10_nextBreak_27 : decode m_X10_nextBreak.2.1 27 = .ok (.iinc 2 1, 3) := by decide +kernel
theorem d_X10_nextBreak_30 : decode m_X10_nextBreak.2.1 30 = .ok (.goto (-28), 3) := by decide +kernel
theorem d_X10_nextBreak_33 : decode m_X10_nextBreak.2.1 33 = .ok (.sipush 8000, 3) := by decide +kernel
theorem d_X10_nextBreak_36 : decode m_X10_nextBreak.2.1 36 = .ok (.ireturn, 1) := by decide +kernel
theorem d_X10_historyValue_0 : decode m_X10_historyValue.2.1 0 = .ok (.aload_n 0, 1) := by decide +kernel
theorem d_X10_historyValue_1 : decode m_X10_historyValue.2.1 1 = .ok (.iload_n 1, 1) := by decide +kernel
theorem d_X10_historyValue_2 : decode m_X10_historyValue.2.1 2 = .ok (.invokevirtual 144, 3) := by decide +kernel
theorem d_X10_historyValue_5 : decode m_X10_historyValue.2.1 5 = .ok (.istore_n 3, 1) := by decide +kernel
theorem d_X10_historyValue_6 : decode m_X10_historyValue.2.1 6 = .ok (.iload_n 3, 1) := by decide +kernel
theorem d_X10_historyValue_7 : decode m_X10_historyValue.2.1 7 = .ok (.ifCond .ne 5, 3) := by decide +kernel
theorem d_X10_historyValue_10 : decode m_X10_historyValue.2.1 10 = .ok (.lconst 0, 1) := by decide +kernel
theorem d_X10_historyValue_11 : decode m_X10_historyValue.2.1 11 = .ok (.lreturn, 1) := by decide +kernel
theorem d_X10_historyValue_12 : decode m_X10_historyValue.2.1 12 = .ok (.iload_n 2, 1) := by decide +kernel
theorem d_X10_historyValue_13 : decode m_X10_historyValue.2.1 13 = .ok (.aload_n 0, 1) := by decide +kernel
theorem d_X10_historyValue_14 : decode m_X10_historyValue.2.1 14 = .ok (.iload_n 1, 1) := by decide +kernel
theorem d_X10_historyValue_15 : decode m_X10_historyValue.2.1 15 = .ok (.iconst 0, 1) := by decide +kernel
theorem d_X10_historyValue_16 : decode m_X10_historyValue.2.1 16 = .ok (.invokevirtual 147, 3) := by decide +kernel
theorem d_X10_historyValue_19 : decode m_X10_historyValue.2.1 19 = .ok (.if_icmp .gt 11, 3) := by decide +kernel
theorem d_X10_historyValue_22 : decode m_X10_historyValue.2.1 22 = .ok (.aload_n 0, 1) := by decide +kernel
theorem d_X10_historyValue_23 : decode m_X10_historyValue.2.1 23 = .ok (.iload_n 1, 1) := by decide +kernel
theorem d_X10_historyValue_24 : decode m_X10_historyValue.2.1 24 = .ok (.iconst 0, 1) := by decide +kernel
theorem d_X10_historyValue_25 : decode m_X10_historyValue.2.1 25 = .ok (.invokevirtual 150, 3) := by decide +kernel
theorem d_X10_historyValue_28 : decode m_X10_historyValue.2.1 28 = .ok (.i2l, 1) := by decide +kernel
theorem d_X10_historyValue_29 : decode m_X10_historyValue.2.1 29 = .ok (.lreturn, 1) := by decide +kernel
theorem d_X10_historyValue_30 : decode m_X10_historyValue.2.1 30 = .ok (.iconst 0, 1) := by decide +kernel
theorem d_X10_historyValue_31 : decode m_X10_historyValue.2.1 31 = .ok (.istore 4, 2) := by decide +kernel
theorem d_X10_historyValue_33 : decode m_X10_historyValue.2.1 33 = .ok (.iload 4, 2) := by decide +kernel
theorem d_X10_historyValue_35 : decode m_X10_historyValue.2.1 35 = .ok (.iload_n 3, 1) := by decide +kernel
theorem d_X10_historyValue_36 : decode m_X10_historyValue.2.1 36 = .ok (.if_icmp .ge 20, 3) := by decide +kernel
theorem d_X10_historyValue_39 : decode m_X10_historyValue.2.1 39 = .ok (.aload_n 0, 1) := by decide +kernel
theorem d_X10_historyValue_40 : decode m_X10_historyValue.2.1 40 = .ok (.iload_n 1, 1) := by decide +kernel
theorem d_X10_historyValue_41 : decode m_X10_historyValue.2.1 41 = .ok (.iload 4, 2) := by decide +kernel
theorem d_X10_historyValue_43 : decode m_X10_historyValue.2.1 43 = .ok (.invokevirtual 147, 3) := by decide +kernel
theorem d_X10_historyValue_46 : decode m_X10_historyValue.2.1 46 = .ok (.iload_n 2, 1) := by decide +kernel
theorem d_X10_historyValue_47 : decode m_X10_historyValue.2.1 47 = .ok (.if_icmp .gt 9, 3) := by decide +kernel
theorem d_X10_historyValue_50 : decode m_X10_historyValue.2.1 50 = .ok (.iinc 4 1, 3) := by decide +kernel
theorem d_X10_historyValue_53 : decode m_X10_historyValue.2.1 53 = .ok (.goto (-20), 3) := by decide +kernel
theorem d_X10_historyValue_56 : decode m_X10_historyValue.2.1 56 = .ok (.iload 4, 2) := by decide +kernel
theorem d_X10_historyValue_58 : decode m_X10_historyValue.2.1 58 = .ok (.iload_n 3, 1) := by decide +kernel
theorem d_X10_historyValue_59 : decode m_X10_historyValue.2.1 59 = .ok (.if_icmp .ne 13, 3) := by decide +kernel
theorem d_X10_historyValue_62 : decode m_X10_historyValue.2.1 62 = .ok (.aload_n 0, 1) := by decide +kernel
theorem d_X10_historyValue_63 : decode m_X10_historyValue.2.1 63 = .ok (.iload_n 1, 1) := by decide +kernel
theorem d_X10_historyValue_64 : decode m_X10_historyValue.2.1 64 = .ok (.iload_n 3, 1) := by decide +kernel
theorem d_X10_historyValue_65 : decode m_X10_historyValue.2.1 65 = .ok (.iconst 1, 1) := by decide +kernel
theorem d_X10_historyValue_66 : decode m_X10_historyValue.2.1 66 = .ok (.isub, 1) := by decide +kernel
theorem d_X10_historyValue_67 : decode m_X10_historyValue.2.1 67 = .ok (.invokevirtual 150, 3) := by decide +kernel
theorem d_X10_historyValue_70 : decode m_X10_historyValue.2.1 70 = .ok (.i2l, 1) := by decide +kernel
theorem d_X10_historyValue_71 : decode m_X10_historyValue.2.1 71 = .ok (.lreturn, 1) := by decide +kernel
theorem d_X10_historyValue_72 : decode m_X10_historyValue.2.1 72 = .ok (.aload_n 0, 1) := by decide +kernel
theorem d_X10_historyValue_73 : decode m_X10_historyValue.2.1 73 = .ok (.iload_n 1, 1) := by decide +kernel
theorem d_X10_historyValue_74 : decode m_X10_historyValue.2.1 74 = .ok (.iload 4, 2) := by decide +kernel
theorem d_X10_historyValue_76 : decode m_X10_historyValue.2.1 76 = .ok (.iconst 1, 1) := by decide +kernel
theorem d_X10_historyValue_77 : decode m_X10_historyValue.2.1 77 = .ok (.isub, 1) := by decide +kernel
theorem d_X10_historyValue_78 : decode m_X10_historyValue.2.1 78 = .ok (.invokevirtual 147, 3) := by decide +kernel
theorem d_X10_historyValue_81 : decode m_X10_historyValue.2.1 81 = .ok (.i2l, 1) := by decide +kernel
theorem d_X10_historyValue_82 : decode m_X10_historyValue.2.1 82 = .ok (.lstore 5, 2) := by decide +kernel
theorem d_X10_historyValue_84 : decode m_X10_historyValue.2.1 84 = .ok (.aload_n 0, 1) := by decide +kernel
theorem d_X10_historyValue_85 : decode m_X10_historyValue.2.1 85 = .ok (.iload_n 1, 1) := by decide +kernel
theorem d_X10_historyValue_86 : decode m_X10_historyValue.2.1 86 = .ok (.iload 4, 2) := by decide +kernel
theorem d_X10_historyValue_88 : decode m_X10_historyValue.2.1 88 = .ok (.iconst 1, 1) := by decide +kernel
theorem d_X10_historyValue_89 : decode m_X10_historyValue.2.1 89 = .ok (.isub, 1) := by decide +kernel
theorem d_X10_historyValue_90 : decode m_X10_historyValue.2.1 90 = .ok (.invokevirtual 150, 3) := by decide +kernel
theorem d_X10_historyValue_93 : decode m_X10_historyValue.2.1 93 = .ok (.i2l, 1) := by decide +kernel
theorem d_X10_historyValue_94 : decode m_X10_historyValue.2.1 94 = .ok (.lstore 7, 2) := by decide +kernel
theorem d_X10_historyValue_96 : decode m_X10_historyValue.2.1 96 = .ok (.lload 7, 2) := by decide +kernel
theorem d_X10_historyValue_98 : decode m_X10_historyValue.2.1 98 = .ok (.aload_n 0, 1) := by decide +kernel
theorem d_X10_historyValue_99 : decode m_X10_historyValue.2.1 99 = .ok (.iload_n 1, 1) := by decide +kernel
theorem d_X10_historyValue_100 : decode m_X10_historyValue.2.1 100 = .ok (.iload 4, 2) := by decide +kernel
theorem d_X10_historyValue_102 : decode m_X10_historyValue.2.1 102 = .ok (.invokevirtual 150, 3) := by decide +kernel
theorem d_X10_historyValue_105 : decode m_X10_historyValue.2.1 105 = .ok (.i2l, 1) := by decide +kernel
theorem d_X10_historyValue_106 : decode m_X10_historyValue.2.1 106 = .ok (.lload 7, 2) := by decide +kernel
theorem d_X10_historyValue_108 : decode m_X10_historyValue.2.1 108 = .ok (.lsub, 1) := by decide +kernel
theorem d_X10_historyValue_109 : decode m_X10_historyValue.2.1 109 = .ok (.iload_n 2, 1) := by decide +kernel
theorem d_X10_historyValue_110 : decode m_X10_historyValue.2.1 110 = .ok (.i2l, 1) := by decide +kernel
theorem d_X10_historyValue_111 : decode m_X10_historyValue.2.1 111 = .ok (.lload 5, 2) := by decide +kernel
theorem d_X10_historyValue_113 : decode m_X10_historyValue.2.1 113 = .ok (.lsub, 1) := by decide +kernel
theorem d_X10_historyValue_114 : decode m_X10_historyValue.2.1 114 = .ok (.lmul, 1) := by decide +kernel
theorem d_X10_historyValue_115 : decode m_X10_historyValue.2.1 115 = .ok (.aload_n 0, 1) := by decide +kernel
theorem d_X10_historyValue_116 : decode m_X10_historyValue.2.1 116 = .ok (.iload_n 1, 1) := by decide +kernel
theorem d_X10_historyValue_117 : decode m_X10_historyValue.2.1 117 = .ok (.iload 4, 2) := by decide +kernel
theorem d_X10_historyValue_119 : decode m_X10_historyValue.2.1 119 = .ok (.invokevirtual 147, 3) := by decide +kernel
theorem d_X10_historyValue_122 : decode m_X10_historyValue.2.1 122 = .ok (.i2l, 1) := by decide +kernel
theorem d_X10_historyValue_123 : decode m_X10_historyValue.2.1 123 = .ok (.lload 5, 2) := by decide +kernel
theorem d_X10_historyValue_125 : decode m_X10_historyValue.2.1 125 = .ok (.lsub, 1) := by decide +kernel
theorem d_X10_historyValue_126 : decode m_X10_historyValue.2.1 126 = .ok (.ldiv, 1) := by decide +kernel
theorem d_X10_historyValue_127 : decode m_X10_historyValue.2.1 127 = .ok (.ladd, 1) := by decide +kernel
theorem d_X10_historyValue_128 : decode m_X10_historyValue.2.1 128 = .ok (.lreturn, 1) := by decide +kernel
theorem d_X10_historySlope_0 : decode m_X10_historySlope.2.1 0 = .ok (.iconst 1, 1) := by decide +kernel
theorem d_X10_historySlope_1 : decode m_X10_historySlope.2.1 1 = .ok (.istore_n 3, 1) := by decide +kernel
theorem d_X10_historySlope_2 : decode m_X10_historySlope.2.1 2 = .ok (.iload_n 3, 1) := by decide +kernel
theorem d_X10_historySlope_3 : decode m_X10_historySlope.2.1 3 = .ok (.aload_n 0, 1) := by decide +kernel
theorem d_X10_historySlope_4 : decode m_X10_historySlope.2.1 4 = .ok (.iload_n 1, 1) := by decide +kernel
theorem d_X10_historySlope_5 : decode m_X10_historySlope.2.1 5 = .ok (.invokevirtual 144, 3) := by decide +kernel
theorem d_X10_historySlope_8 : decode m_X10_historySlope.2.1 8 = .ok (.if_icmp .ge 69, 3) := by decide +kernel
theorem d_X10_historySlope_11 : decode m_X10_historySlope.2.1 11 = .ok (.aload_n 0, 1) := by decide +kernel
theorem d_X10_historySlope_12 : decode m_X10_historySlope.2.1 12 = .ok (.iload_n 1, 1) := by decide +kernel
theorem d_X10_historySlope_13 : decode m_X10_historySlope.2.1 13 = .ok (.iload_n 3, 1) := by decide +kernel
theorem d_X10_historySlope_14 : decode m_X10_historySlope.2.1 14 = .ok (.iconst 1, 1) := by decide +kernel
theorem d_X10_historySlope_15 : decode m_X10_historySlope.2.1 15 = .ok (.isub, 1) := by decide +kernel
theorem d_X10_historySlope_16 : decode m_X10_historySlope.2.1 16 = .ok (.invokevirtual 147, 3) := by decide +kernel
theorem d_X10_historySlope_19 : decode m_X10_historySlope.2.1 19 = .ok (.iload_n 2, 1) := by decide +kernel
theorem d_X10_historySlope_20 : decode m_X10_historySlope.2.1 20 = .ok (.if_icmp .gt 51, 3) := by decide +kernel
theorem d_X10_historySlope_23 : decode m_X10_historySlope.2.1 23 = .ok (.iload_n 2, 1) := by decide +kernel
theorem d_X10_historySlope_24 : decode m_X10_historySlope.2.1 24 = .ok (.aload_n 0, 1) := by decide +kernel
theorem d_X10_historySlope_25 : decode m_X10_historySlope.2.1 25 = .ok (.iload_n 1, 1) := by decide +kernel
theorem d_X10_historySlope_26 : decode m_X10_historySlope.2.1 26 = .ok (.iload_n 3, 1) := by decide +kernel
theorem d_X10_historySlope_27 : decode m_X10_historySlope.2.1 27 = .ok (.invokevirtual 147, 3) := by decide +kernel
theorem d_X10_historySlope_30 : decode m_X10_historySlope.2.1 30 = .ok (.if_icmp .ge 41, 3) := by decide +kernel
theorem d_X10_historySlope_33 : decode m_X10_historySlope.2.1 33 = .ok (.aload_n 0, 1) := by decide +kernel
theorem d_X10_historySlope_34 : decode m_X10_historySlope.2.1 34 = .ok (.iload_n 1, 1) := by decide +kernel
theorem d_X10_historySlope_35 : decode m_X10_historySlope.2.1 35 = .ok (.iload_n 3, 1) := by decide +kernel
theorem d_X10_historySlope_36 : decode m_X10_historySlope.2.1 36 = .ok (.invokevirtual 150, 3) := by decide +kernel
theorem d_X10_historySlope_39 : decode m_X10_historySlope.2.1 39 = .ok (.aload_n 0, 1) := by decide +kernel
theorem d_X10_historySlope_40 : decode m_X10_historySlope.2.1 40 = .ok (.iload_n 1, 1) := by decide +kernel
theorem d_X10_historySlope_41 : decode m_X10_historySlope.2.1 41 = .ok (.iload_n 3, 1) := by decide +kernel
theorem d_X10_historySlope_42 : decode m_X10_historySlope.2.1 42 = .ok (.iconst 1, 1) := by decide +kernel
theorem d_X10_historySlope_43 : decode m_X10_historySlope.2.1 43 = .ok (.isub, 1) := by decide +kernel
theorem d_X10_historySlope_44 : decode m_X10_historySlope.2.1 44 = .ok (.invokevirtual 150, 3) := by decide +kernel
theorem d_X10_historySlope_47 : decode m_X10_historySlope.2.1 47 = .ok (.isub, 1) := by decide +kernel
theorem d_X10_historySlope_48 : decode m_X10_historySlope.2.1 48 = .ok (.i2l, 1) := by decide +kernel
theorem d_X10_historySlope_49 : decode m_X10_historySlope.2.1 49 = .ok (.ldc2_w 176, 3) := by decide +kernel
theorem d_X10_historySlope_52 : decode m_X10_historySlope.2.1 52 = .ok (.lmul, 1) := by decide +kernel
theorem d_X10_historySlope_53 : decode m_X10_historySlope.2.1 53 = .ok (.aload_n 0, 1) := by decide +kernel
theorem d_X10_historySlope_54 : decode m_X10_historySlope.2.1 54 = .ok (.iload_n 1, 1) := by decide +kernel
theorem d_X10_historySlope_55 : decode m_X10_historySlope.2.1 55 = .ok (.iload_n 3, 1) := by decide +kernel
theorem d_X10_historySlope_56 : decode m_X10_historySlope.2.1 56 = .ok (.invokevirtual 147, 3) := by decide +kernel
theorem d_X10_historySlope_59 : decode m_X10_historySlope.2.1 59 = .ok (.aload_n 0, 1) := by decide +kernel
theorem d_X10_historySlope_60 : decode m_X10_historySlope.2.1 60 = .ok (.iload_n 1, 1) := by decide +kernel
theorem d_X10_historySlope_61 : decode m_X10_historySlope.2.1 61 = .ok (.iload_n 3, 1) := by decide +kernel
theorem d_X10_historySlope_62 : decode m_X10_historySlope.2.1 62 = .ok (.iconst 1, 1) := by decide +kernel
theorem d_X10_historySlope_63 : decode m_X10_historySlope.2.1 63 = .ok (.isub, 1) := by decide +kernel
theorem d_X10_historySlope_64 : decode m_X10_historySlope.2.1 64 = .ok (.invokevirtual 147, 3) := by decide +kernel
theorem d_X10_historySlope_67 : decode m_X10_historySlope.2.1 67 = .ok (.isub, 1) := by decide +kernel
theorem d_X10_historySlope_68 : decode m_X10_historySlope.2.1 68 = .ok (.i2l, 1) := by decide +kernel
theorem d_X10_historySlope_69 : decode m_X10_historySlope.2.1 69 = .ok (.ldiv, 1) := by decide +kernel
theorem d_X10_historySlope_70 : decode m_X10_historySlope.2.1 70 = .ok (.lreturn, 1) := by decide +kernel
theorem d_X10_historySlope_71 : decode m_X10_historySlope.2.1 71 = .ok (.iinc 3 1, 3) := by decide +kernel
theorem d_X10_historySlope_74 : decode m_X10_historySlope.2.1 74 = .ok (.goto (-72), 3) := by decide +kernel
theorem d_X10_historySlope_77 : decode m_X10_historySlope.2.1 77 = .ok (.lconst 0, 1) := by decide +kernel
theorem d_X10_historySlope_78 : decode m_X10_historySlope.2.1 78 = .ok (.lreturn, 1) := by decide +kernel
theorem d_X10_stepOf_0 : decode m_X10_stepOf.2.1 0 = .ok (.iconst 0, 1) := by decide +kernel
theorem d_X10_stepOf_1 : decode m_X10_stepOf.2.1 1 = .ok (.istore_n 2, 1) := by decide +kernel
theorem d_X10_stepOf_2 : decode m_X10_stepOf.2.1 2 = .ok (.aload_n 0, 1) := by decide +kernel
theorem d_X10_stepOf_3 : decode m_X10_stepOf.2.1 3 = .ok (.getfield 178, 3) := by decide +kernel
theorem d_X10_stepOf_6 : decode m_X10_stepOf.2.1 6 = .ok (.iconst 1, 1) := by decide +kernel
theorem d_X10_stepOf_7 : decode m_X10_stepOf.2.1 7 = .ok (.isub, 1) := by decide +kernel
theorem d_X10_stepOf_8 : decode m_X10_stepOf.2.1 8 = .ok (.istore_n 3, 1) := by decide +kernel
theorem d_X10_stepOf_9 : decode m_X10_stepOf.2.1 9 = .ok (.iload_n 2, 1) := by decide +kernel
theorem d_X10_stepOf_10 : decode m_X10_stepOf.2.1 10 = .ok (.iload_n 3, 1) := by decide +kernel
theorem d_X10_stepOf_11 : decode m_X10_stepOf.2.1 11 = .ok (.if_icmp .ge 37, 3) := by decide +kernel
theorem d_X10_stepOf_14 : decode m_X10_stepOf.2.1 14 = .ok (.iload_n 2, 1) := by decide +kernel
theorem d_X10_stepOf_15 : decode m_X10_stepOf.2.1 15 = .ok (.iload_n 3, 1) := by decide +kernel
theorem d_X10_stepOf_16 : decode m_X10_stepOf.2.1 16 = .ok (.iadd, 1) := by decide +kernel
theorem d_X10_stepOf_17 : decode m_X10_stepOf.2.1 17 = .ok (.iconst 1, 1) := by decide +kernel
theorem d_X10_stepOf_18 : decode m_X10_stepOf.2.1 18 = .ok (.iadd, 1) := by decide +kernel
theorem d_X10_stepOf_19 : decode m_X10_stepOf.2.1 19 = .ok (.iconst 2, 1) := by decide +kernel
theorem d_X10_stepOf_20 : decode m_X10_stepOf.2.1 20 = .ok (.idiv, 1) := by decide +kernel
theorem d_X10_stepOf_21 : decode m_X10_stepOf.2.1 21 = .ok (.istore 4, 2) := by decide +kernel
theorem d_X10_stepOf_23 : decode m_X10_stepOf.2.1 23 = .ok (.aload_n 0, 1) := by decide +kernel
theorem d_X10_stepOf_24 : decode m_X10_stepOf.2.1 24 = .ok (.getfield 34, 3) := by decide +kernel
theorem d_X10_stepOf_27 : decode m_X10_stepOf.2.1 27 = .ok (.iload 4, 2) := by decide +kernel
theorem d_X10_stepOf_29 : decode m_X10_stepOf.2.1 29 = .ok (.iaload, 1) := by decide +kernel
theorem d_X10_stepOf_30 : decode m_X10_stepOf.2.1 30 = .ok (.iload_n 1, 1) := by decide +kernel
theorem d_X10_stepOf_31 : decode m_X10_stepOf.2.1 31 = .ok (.if_icmp .ge 9, 3) := by decide +kernel
theorem d_X10_stepOf_34 : decode m_X10_stepOf.2.1 34 = .ok (.iload 4, 2) := by decide +kernel
theorem d_X10_stepOf_36 : decode m_X10_stepOf.2.1 36 = .ok (.istore_n 2, 1) := by decide +kernel
theorem d_X10_stepOf_37 : decode m_X10_stepOf.2.1 37 = .ok (.goto 8, 3) := by decide +kernel
theorem d_X10_stepOf_40 : decode m_X10_stepOf.2.1 40 = .ok (.iload 4, 2) := by decide +kernel
theorem d_X10_stepOf_42 : decode m_X10_stepOf.2.1 42 = .ok (.iconst 1, 1) := by decide +kernel
theorem d_X10_stepOf_43 : decode m_X10_stepOf.2.1 43 = .ok (.isub, 1) := by decide +kernel
theorem d_X10_stepOf_44 : decode m_X10_stepOf.2.1 44 = .ok (.istore_n 3, 1) := by decide +kernel
theorem d_X10_stepOf_45 : decode m_X10_stepOf.2.1 45 = .ok (.goto (-36), 3) := by decide +kernel
theorem d_X10_stepOf_48 : decode m_X10_stepOf.2.1 48 = .ok (.iload_n 2, 1) := by decide +kernel
theorem d_X10_stepOf_49 : decode m_X10_stepOf.2.1 49 = .ok (.ireturn, 1) := by decide +kernel
theorem d_X10_bend_0 : decode m_X10_bend.2.1 0 = .ok (.aload_n 0, 1) := by decide +kernel
theorem d_X10_bend_1 : decode m_X10_bend.2.1 1 = .ok (.getfield 50, 3) := by decide +kernel
theorem d_X10_bend_4 : decode m_X10_bend.2.1 4 = .ok (.iconst 3, 1) := by decide +kernel
theorem d_X10_bend_5 : decode m_X10_bend.2.1 5 = .ok (.iload_n 1, 1) := by decide +kernel
theorem d_X10_bend_6 : decode m_X10_bend.2.1 6 = .ok (.imul, 1) := by decide +kernel
theorem d_X10_bend_7 : decode m_X10_bend.2.1 7 = .ok (.iload_n 2, 1) := by decide +kernel
theorem d_X10_bend_8 : decode m_X10_bend.2.1 8 = .ok (.iadd, 1) := by decide +kernel
theorem d_X10_bend_9 : decode m_X10_bend.2.1 9 = .ok (.laload, 1) := by decide +kernel
theorem d_X10_bend_10 : decode m_X10_bend.2.1 10 = .ok (.aload_n 0, 1) := by decide +kernel
theorem d_X10_bend_11 : decode m_X10_bend.2.1 11 = .ok (.getfield 43, 3) := by decide +kernel
theorem d_X10_bend_14 : decode m_X10_bend.2.1 14 = .ok (.iconst 3, 1) := by decide +kernel
theorem d_X10_bend_15 : decode m_X10_bend.2.1 15 = .ok (.iload_n 1, 1) := by decide +kernel
theorem d_X10_bend_16 : decode m_X10_bend.2.1 16 = .ok (.imul, 1) := by decide +kernel
theorem d_X10_bend_17 : decode m_X10_bend.2.1 17 = .ok (.iload_n 2, 1) := by decide +kernel
theorem d_X10_bend_18 : decode m_X10_bend.2.1 18 = .ok (.iadd, 1) := by decide +kernel
theorem d_X10_bend_19 : decode m_X10_bend.2.1 19 = .ok (.laload, 1) := by decide +kernel
theorem d_X10_bend_20 : decode m_X10_bend.2.1 20 = .ok (.lsub, 1) := by decide +kernel
theorem d_X10_bend_21 : decode m_X10_bend.2.1 21 = .ok (.aload_n 0, 1) := by decide +kernel
theorem d_X10_bend_22 : decode m_X10_bend.2.1 22 = .ok (.getfield 47, 3) := by decide +kernel
theorem d_X10_bend_25 : decode m_X10_bend.2.1 25 = .ok (.iconst 3, 1) := by decide +kernel
theorem d_X10_bend_26 : decode m_X10_bend.2.1 26 = .ok (.iload_n 1, 1) := by decide +kernel
theorem d_X10_bend_27 : decode m_X10_bend.2.1 27 = .ok (.imul, 1) := by decide +kernel
theorem d_X10_bend_28 : decode m_X10_bend.2.1 28 = .ok (.iload_n 2, 1) := by decide +kernel
theorem d_X10_bend_29 : decode m_X10_bend.2.1 29 = .ok (.iadd, 1) := by decide +kernel
theorem d_X10_bend_30 : decode m_X10_bend.2.1 30 = .ok (.laload, 1) := by decide +kernel
theorem d_X10_bend_31 : decode m_X10_bend.2.1 31 = .ok (.aload_n 0, 1) := by decide +kernel
theorem d_X10_bend_32 : decode m_X10_bend.2.1 32 = .ok (.getfield 37, 3) := by decide +kernel
theorem d_X10_bend_35 : decode m_X10_bend.2.1 35 = .ok (.iload_n 1, 1) := by decide +kernel
theorem d_X10_bend_36 : decode m_X10_bend.2.1 36 = .ok (.iaload, 1) := by decide +kernel
theorem d_X10_bend_37 : decode m_X10_bend.2.1 37 = .ok (.i2l, 1) := by decide +kernel
theorem d_X10_bend_38 : decode m_X10_bend.2.1 38 = .ok (.lmul, 1) := by decide +kernel
theorem d_X10_bend_39 : decode m_X10_bend.2.1 39 = .ok (.ldc2_w 176, 3) := by decide +kernel
theorem d_X10_bend_42 : decode m_X10_bend.2.1 42 = .ok (.ldiv, 1) := by decide +kernel
theorem d_X10_bend_43 : decode m_X10_bend.2.1 43 = .ok (.lsub, 1) := by decide +kernel
theorem d_X10_bend_44 : decode m_X10_bend.2.1 44 = .ok (.lreturn, 1) := by decide +kernel
theorem d_X10_toldValue_0 : decode m_X10_toldValue.2.1 0 = .ok (.iload_n 2, 1) := by decide +kernel
theorem d_X10_toldValue_1 : decode m_X10_toldValue.2.1 1 = .ok (.ifCond .gt 10, 3) := by decide +kernel
theorem d_X10_toldValue_4 : decode m_X10_toldValue.2.1 4 = .ok (.aload_n 0, 1) := by decide +kernel
theorem d_X10_toldValue_5 : decode m_X10_toldValue.2.1 5 = .ok (.iload_n 1, 1) := by decide +kernel
theorem d_X10_toldValue_6 : decode m_X10_toldValue.2.1 6 = .ok (.iload_n 2, 1) := by decide +kernel
theorem d_X10_toldValue_7 : decode m_X10_toldValue.2.1 7 = .ok (.invokevirtual 181, 3) := by decide +kernel
theorem d_X10_toldValue_10 : decode m_X10_toldValue.2.1 10 = .ok (.lreturn, 1) := by decide +kernel
theorem d_X10_toldValue_11 : decode m_X10_toldValue.2.1 11 = .ok (.aload_n 0, 1) := by decide +kernel
theorem d_X10_toldValue_12 : decode m_X10_toldValue.2.1 12 = .ok (.iload_n 2, 1) := by decide +kernel
theorem d_X10_toldValue_13 : decode m_X10_toldValue.2.1 13 = .ok (.invokevirtual 185, 3) := by decide +kernel
theorem d_X10_toldValue_16 : decode m_X10_toldValue.2.1 16 = .ok (.istore_n 3, 1) := by decide +kernel
theorem d_X10_toldValue_17 : decode m_X10_toldValue.2.1 17 = .ok (.iload_n 2, 1) := by decide +kernel
theorem d_X10_toldValue_18 : decode m_X10_toldValue.2.1 18 = .ok (.aload_n 0, 1) := by decide +kernel
theorem d_X10_toldValue_19 : decode m_X10_toldValue.2.1 19 = .ok (.getfield 34, 3) := by decide +kernel
theorem d_X10_toldValue_22 : decode m_X10_toldValue.2.1 22 = .ok (.iload_n 3, 1) := by decide +kernel
theorem d_X10_toldValue_23 : decode m_X10_toldValue.2.1 23 = .ok (.iaload, 1) := by decide +kernel
theorem d_X10_toldValue_24 : decode m_X10_toldValue.2.1 24 = .ok (.isub, 1) := by decide +kernel
theorem d_X10_toldValue_25 : decode m_X10_toldValue.2.1 25 = .ok (.i2l, 1) := by decide +kernel
theorem d_X10_toldValue_26 : decode m_X10_toldValue.2.1 26 = .ok (.lstore 4, 2) := by decide +kernel
theorem d_X10_toldValue_28 : decode m_X10_toldValue.2.1 28 = .ok (.aload_n 0, 1) := by decide +kernel
theorem d_X10_toldValue_29 : decode m_X10_toldValue.2.1 29 = .ok (.getfield 37, 3) := by decide +kernel
theorem d_X10_toldValue_32 : decode m_X10_toldValue.2.1 32 = .ok (.iload_n 3, 1) := by decide +kernel
theorem d_X10_toldValue_33 : decode m_X10_toldValue.2.1 33 = .ok (.iaload, 1) := by decide +kernel
theorem d_X10_toldValue_34 : decode m_X10_toldValue.2.1 34 = .ok (.i2l, 1) := by decide +kernel
theorem d_X10_toldValue_35 : decode m_X10_toldValue.2.1 35 = .ok (.lstore 6, 2) := by decide +kernel
theorem d_X10_toldValue_37 : decode m_X10_toldValue.2.1 37 = .ok (.lload 4, 2) := by decide +kernel
theorem d_X10_toldValue_39 : decode m_X10_toldValue.2.1 39 = .ok (.lload 6, 2) := by decide +kernel
theorem d_X10_toldValue_41 : decode m_X10_toldValue.2.1 41 = .ok (.lcmp, 1) := by decide +kernel
theorem d_X10_toldValue_42 : decode m_X10_toldValue.2.1 42 = .ok (.ifCond .ne 14, 3) := by decide +kernel
theorem d_X10_toldValue_45 : decode m_X10_toldValue.2.1 45 = .ok (.aload_n 0, 1) := by decide +kernel
theorem d_X10_toldValue_46 : decode m_X10_toldValue.2.1 46 = .ok (.getfield 50, 3) := by decide +kernel
theorem d_X10_toldValue_49 : decode m_X10_toldValue.2.1 49 = .ok (.iconst 3, 1) := by decide +kernel
theorem d_X10_toldValue_50 : decode m_X10_toldValue.2.1 50 = .ok (.iload_n 3, 1) := by decide +kernel
theorem d_X10_toldValue_51 : decode m_X10_toldValue.2.1 51 = .ok (.imul, 1) := by decide +kernel
theorem d_X10_toldValue_52 : decode m_X10_toldValue.2.1 52 = .ok (.iload_n 1, 1) := by decide +kernel
theorem d_X10_toldValue_53 : decode m_X10_toldValue.2.1 53 = .ok (.iadd, 1) := by decide +kernel
theorem d_X10_toldValue_54 : decode m_X10_toldValue.2.1 54 = .ok (.laload, 1) := by decide +kernel
theorem d_X10_toldValue_55 : decode m_X10_toldValue.2.1 55 = .ok (.lreturn, 1) := by decide +kernel
theorem d_X10_toldValue_56 : decode m_X10_toldValue.2.1 56 = .ok (.aload_n 0, 1) := by decide +kernel
theorem d_X10_toldValue_57 : decode m_X10_toldValue.2.1 57 = .ok (.getfield 43, 3) := by decide +kernel
theorem d_X10_toldValue_60 : decode m_X10_toldValue.2.1 60 = .ok (.iconst 3, 1) := by decide +kernel
theorem d_X10_toldValue_61 : decode m_X10_toldValue.2.1 61 = .ok (.iload_n 3, 1) := by decide +kernel
theorem d_X10_toldValue_62 : decode m_X10_toldValue.2.1 62 = .ok (.imul, 1) := by decide +kernel
theorem d_X10_toldValue_63 : decode m_X10_toldValue.2.1 63 = .ok (.iload_n 1, 1) := by decide +kernel
theorem d_X10_toldValue_64 : decode m_X10_toldValue.2.1 64 = .ok (.iadd, 1) := by decide +kernel
theorem d_X10_toldValue_65 : decode m_X10_toldValue.2.1 65 = .ok (.laload, 1) := by decide +kernel
theorem d_X10_toldValue_66 : decode m_X10_toldValue.2.1 66 = .ok (.aload_n 0, 1) := by decide +kernel
theorem d_X10_toldValue_67 : decode m_X10_toldValue.2.1 67 = .ok (.getfield 47, 3) := by decide +kernel
theorem d_X10_toldValue_70 : decode m_X10_toldValue.2.1 70 = .ok (.iconst 3, 1) := by decide +kernel
theorem d_X10_toldValue_71 : decode m_X10_toldValue.2.1 71 = .ok (.iload_n 3, 1) := by decide +kernel
theorem d_X10_toldValue_72 : decode m_X10_toldValue.2.1 72 = .ok (.imul, 1) := by decide +kernel
theorem d_X10_toldValue_73 : decode m_X10_toldValue.2.1 73 = .ok (.iload_n 1, 1) := by decide +kernel
theorem d_X10_toldValue_74 : decode m_X10_toldValue.2.1 74 = .ok (.iadd, 1) := by decide +kernel
theorem d_X10_toldValue_75 : decode m_X10_toldValue.2.1 75 = .ok (.laload, 1) := by decide +kernel
theorem d_X10_toldValue_76 : decode m_X10_toldValue.2.1 76 = .ok (.lload 4, 2) := by decide +kernel
theorem d_X10_toldValue_78 : decode m_X10_toldValue.2.1 78 = .ok (.lmul, 1) := by decide +kernel
theorem d_X10_toldValue_79 : decode m_X10_toldValue.2.1 79 = .ok (.ldc2_w 176, 3) := by decide +kernel
theorem d_X10_toldValue_82 : decode m_X10_toldValue.2.1 82 = .ok (.ldiv, 1) := by decide +kernel
theorem d_X10_toldValue_83 : decode m_X10_toldValue.2.1 83 = .ok (.ladd, 1) := by decide +kernel
theorem d_X10_toldValue_84 : decode m_X10_toldValue.2.1 84 = .ok (.aload_n 0, 1) := by decide +kernel
theorem d_X10_toldValue_85 : decode m_X10_toldValue.2.1 85 = .ok (.iload_n 3, 1) := by decide +kernel
theorem d_X10_toldValue_86 : decode m_X10_toldValue.2.1 86 = .ok (.iload_n 1, 1) := by decide +kernel
theorem d_X10_toldValue_87 : decode m_X10_toldValue.2.1 87 = .ok (.invokevirtual 188, 3) := by decide +kernel
theorem d_X10_toldValue_90 : decode m_X10_toldValue.2.1 90 = .ok (.lload 4, 2) := by decide +kernel
theorem d_X10_toldValue_92 : decode m_X10_toldValue.2.1 92 = .ok (.lmul, 1) := by decide +kernel
theorem d_X10_toldValue_93 : decode m_X10_toldValue.2.1 93 = .ok (.lload 4, 2) := by decide +kernel
theorem d_X10_toldValue_95 : decode m_X10_toldValue.2.1 95 = .ok (.lmul, 1) := by decide +kernel
theorem d_X10_toldValue_96 : decode m_X10_toldValue.2.1 96 = .ok (.lload 6, 2) := by decide +kernel
theorem d_X10_toldValue_98 : decode m_X10_toldValue.2.1 98 = .ok (.lload 6, 2) := by decide +kernel
theorem d_X10_toldValue_100 : decode m_X10_toldValue.2.1 100 = .ok (.lmul, 1) := by decide +kernel
theorem d_X10_toldValue_101 : decode m_X10_toldValue.2.1 101 = .ok (.ldiv, 1) := by decide +kernel
theorem d_X10_toldValue_102 : decode m_X10_toldValue.2.1 102 = .ok (.ladd, 1) := by decide +kernel
theorem d_X10_toldValue_103 : decode m_X10_toldValue.2.1 103 = .ok (.invokestatic 191, 3) := by decide +kernel
theorem d_X10_toldValue_106 : decode m_X10_toldValue.2.1 106 = .ok (.lreturn, 1) := by decide +kernel
theorem d_X10_toldSlope_0 : decode m_X10_toldSlope.2.1 0 = .ok (.iload_n 2, 1) := by decide +kernel
theorem d_X10_toldSlope_1 : decode m_X10_toldSlope.2.1 1 = .ok (.ifCond .gt 10, 3) := by decide +kernel
theorem d_X10_toldSlope_4 : decode m_X10_toldSlope.2.1 4 = .ok (.aload_n 0, 1) := by decide +kernel
theorem d_X10_toldSlope_5 : decode m_X10_toldSlope.2.1 5 = .ok (.iload_n 1, 1) := by decide +kernel
theorem d_X10_toldSlope_6 : decode m_X10_toldSlope.2.1 6 = .ok (.iload_n 2, 1) := by decide +kernel
theorem d_X10_toldSlope_7 : decode m_X10_toldSlope.2.1 7 = .ok (.invokevirtual 195, 3) := by decide +kernel
theorem d_X10_toldSlope_10 : decode m_X10_toldSlope.2.1 10 = .ok (.lreturn, 1) := by decide +kernel
theorem d_X10_toldSlope_11 : decode m_X10_toldSlope.2.1 11 = .ok (.aload_n 0, 1) := by decide +kernel
theorem d_X10_toldSlope_12 : decode m_X10_toldSlope.2.1 12 = .ok (.iload_n 2, 1) := by decide +kernel
theorem d_X10_toldSlope_13 : decode m_X10_toldSlope.2.1 13 = .ok (.invokevirtual 185, 3) := by decide +kernel
theorem d_X10_toldSlope_16 : decode m_X10_toldSlope.2.1 16 = .ok (.istore_n 3, 1) := by decide +kernel
theorem d_X10_toldSlope_17 : decode m_X10_toldSlope.2.1 17 = .ok (.iload_n 2, 1) := by decide +kernel
theorem d_X10_toldSlope_18 : decode m_X10_toldSlope.2.1 18 = .ok (.aload_n 0, 1) := by decide +kernel
theorem d_X10_toldSlope_19 : decode m_X10_toldSlope.2.1 19 = .ok (.getfield 34, 3) := by decide +kernel
theorem d_X10_toldSlope_22 : decode m_X10_toldSlope.2.1 22 = .ok (.iload_n 3, 1) := by decide +kernel
theorem d_X10_toldSlope_23 : decode m_X10_toldSlope.2.1 23 = .ok (.iaload, 1) := by decide +kernel
theorem d_X10_toldSlope_24 : decode m_X10_toldSlope.2.1 24 = .ok (.isub, 1) := by decide +kernel
theorem d_X10_toldSlope_25 : decode m_X10_toldSlope.2.1 25 = .ok (.i2l, 1) := by decide +kernel
theorem d_X10_toldSlope_26 : decode m_X10_toldSlope.2.1 26 = .ok (.lstore 4, 2) := by decide +kernel
theorem d_X10_toldSlope_28 : decode m_X10_toldSlope.2.1 28 = .ok (.aload_n 0, 1) := by decide +kernel
theorem d_X10_toldSlope_29 : decode m_X10_toldSlope.2.1 29 = .ok (.getfield 37, 3) := by decide +kernel
theorem d_X10_toldSlope_32 : decode m_X10_toldSlope.2.1 32 = .ok (.iload_n 3, 1) := by decide +kernel
theorem d_X10_toldSlope_33 : decode m_X10_toldSlope.2.1 33 = .ok (.iaload, 1) := by decide +kernel
theorem d_X10_toldSlope_34 : decode m_X10_toldSlope.2.1 34 = .ok (.i2l, 1) := by decide +kernel
theorem d_X10_toldSlope_35 : decode m_X10_toldSlope.2.1 35 = .ok (.lstore 6, 2) := by decide +kernel
theorem d_X10_toldSlope_37 : decode m_X10_toldSlope.2.1 37 = .ok (.aload_n 0, 1) := by decide +kernel
theorem d_X10_toldSlope_38 : decode m_X10_toldSlope.2.1 38 = .ok (.getfield 47, 3) := by decide +kernel
theorem d_X10_toldSlope_41 : decode m_X10_toldSlope.2.1 41 = .ok (.iconst 3, 1) := by decide +kernel
theorem d_X10_toldSlope_42 : decode m_X10_toldSlope.2.1 42 = .ok (.iload_n 3, 1) := by decide +kernel
theorem d_X10_toldSlope_43 : decode m_X10_toldSlope.2.1 43 = .ok (.imul, 1) := by decide +kernel
theorem d_X10_toldSlope_44 : decode m_X10_toldSlope.2.1 44 = .ok (.iload_n 1, 1) := by decide +kernel
theorem d_X10_toldSlope_45 : decode m_X10_toldSlope.2.1 45 = .ok (.iadd, 1) := by decide +kernel
theorem d_X10_toldSlope_46 : decode m_X10_toldSlope.2.1 46 = .ok (.laload, 1) := by decide +kernel
theorem d_X10_toldSlope_47 : decode m_X10_toldSlope.2.1 47 = .ok (.ldc2_w 198, 3) := by decide +kernel
theorem d_X10_toldSlope_50 : decode m_X10_toldSlope.2.1 50 = .ok (.aload_n 0, 1) := by decide +kernel
theorem d_X10_toldSlope_51 : decode m_X10_toldSlope.2.1 51 = .ok (.iload_n 3, 1) := by decide +kernel
theorem d_X10_toldSlope_52 : decode m_X10_toldSlope.2.1 52 = .ok (.iload_n 1, 1) := by decide +kernel
theorem d_X10_toldSlope_53 : decode m_X10_toldSlope.2.1 53 = .ok (.invokevirtual 188, 3) := by decide +kernel
theorem d_X10_toldSlope_56 : decode m_X10_toldSlope.2.1 56 = .ok (.lmul, 1) := by decide +kernel
theorem d_X10_toldSlope_57 : decode m_X10_toldSlope.2.1 57 = .ok (.lload 4, 2) := by decide +kernel
theorem d_X10_toldSlope_59 : decode m_X10_toldSlope.2.1 59 = .ok (.lmul, 1) := by decide +kernel
theorem d_X10_toldSlope_60 : decode m_X10_toldSlope.2.1 60 = .ok (.lload 6, 2) := by decide +kernel
theorem d_X10_toldSlope_62 : decode m_X10_toldSlope.2.1 62 = .ok (.lload 6, 2) := by decide +kernel
theorem d_X10_toldSlope_64 : decode m_X10_toldSlope.2.1 64 = .ok (.lmul, 1) := by decide +kernel
theorem d_X10_toldSlope_65 : decode m_X10_toldSlope.2.1 65 = .ok (.ldiv, 1) := by decide +kernel
theorem d_X10_toldSlope_66 : decode m_X10_toldSlope.2.1 66 = .ok (.ladd, 1) := by decide +kernel
theorem d_X10_toldSlope_67 : decode m_X10_toldSlope.2.1 67 = .ok (.invokestatic 191, 3) := by decide +kernel
theorem d_X10_toldSlope_70 : decode m_X10_toldSlope.2.1 70 = .ok (.lreturn, 1) := by decide +kernel
theorem d_X10_valueAt_0 : decode m_X10_valueAt.2.1 0 = .ok (.aload_n 0, 1) := by decide +kernel
theorem d_X10_valueAt_1 : decode m_X10_valueAt.2.1 1 = .ok (.getfield 200, 3) := by decide +kernel
theorem d_X10_valueAt_4 : decode m_X10_valueAt.2.1 4 = .ok (.ifCond .eq 49, 3) := by decide +kernel
theorem d_X10_valueAt_7 : decode m_X10_valueAt.2.1 7 = .ok (.iload_n 2, 1) := by decide +kernel
theorem d_X10_valueAt_8 : decode m_X10_valueAt.2.1 8 = .ok (.aload_n 0, 1) := by decide +kernel
theorem d_X10_valueAt_9 : decode m_X10_valueAt.2.1 9 = .ok (.getfield 204, 3) := by decide +kernel
theorem d_X10_valueAt_12 : decode m_X10_valueAt.2.1 12 = .ok (.if_icmp .le 41, 3) := by decide +kernel
theorem d_X10_valueAt_15 : decode m_X10_valueAt.2.1 15 = .ok (.aload_n 0, 1) := by decide +kernel
theorem d_X10_valueAt_16 : decode m_X10_valueAt.2.1 16 = .ok (.getfield 53, 3) := by decide +kernel
theorem d_X10_valueAt_19 : decode m_X10_valueAt.2.1 19 = .ok (.iload_n 1, 1) := by decide +kernel
theorem d_X10_valueAt_20 : decode m_X10_valueAt.2.1 20 = .ok (.laload, 1) := by decide +kernel
theorem d_X10_valueAt_21 : decode m_X10_valueAt.2.1 21 = .ok (.aload_n 0, 1) := by decide +kernel
theorem d_X10_valueAt_22 : decode m_X10_valueAt.2.1 22 = .ok (.getfield 56, 3) := by decide +kernel
theorem d_X10_valueAt_25 : decode m_X10_valueAt.2.1 25 = .ok (.iload_n 1, 1) := by decide +kernel
theorem d_X10_valueAt_26 : decode m_X10_valueAt.2.1 26 = .ok (.laload, 1) := by decide +kernel
theorem d_X10_valueAt_27 : decode m_X10_valueAt.2.1 27 = .ok (.aload_n 0, 1) := by decide +kernel
theorem d_X10_valueAt_28 : decode m_X10_valueAt.2.1 28 = .ok (.getfield 53, 3) := by decide +kernel
theorem d_X10_valueAt_31 : decode m_X10_valueAt.2.1 31 = .ok (.iload_n 1, 1) := by decide +kernel
theorem d_X10_valueAt_32 : decode m_X10_valueAt.2.1 32 = .ok (.laload, 1) := by decide +kernel
theorem d_X10_valueAt_33 : decode m_X10_valueAt.2.1 33 = .ok (.lsub, 1) := by decide +kernel
theorem d_X10_valueAt_34 : decode m_X10_valueAt.2.1 34 = .ok (.iload_n 2, 1) := by decide +kernel
theorem d_X10_valueAt_35 : decode m_X10_valueAt.2.1 35 = .ok (.aload_n 0, 1) := by decide +kernel
theorem d_X10_valueAt_36 : decode m_X10_valueAt.2.1 36 = .ok (.getfield 204, 3) := by decide +kernel
theorem d_X10_valueAt_39 : decode m_X10_valueAt.2.1 39 = .ok (.isub, 1) := by decide +kernel
theorem d_X10_valueAt_40 : decode m_X10_valueAt.2.1 40 = .ok (.i2l, 1) := by decide +kernel
theorem d_X10_valueAt_41 : decode m_X10_valueAt.2.1 41 = .ok (.lmul, 1) := by decide +kernel
theorem d_X10_valueAt_42 : decode m_X10_valueAt.2.1 42 = .ok (.aload_n 0, 1) := by decide +kernel
theorem d_X10_valueAt_43 : decode m_X10_valueAt.2.1 43 = .ok (.getfield 207, 3) := by decide +kernel
theorem d_X10_valueAt_46 : decode m_X10_valueAt.2.1 46 = .ok (.i2l, 1) := by decide +kernel
theorem d_X10_valueAt_47 : decode m_X10_valueAt.2.1 47 = .ok (.ldiv, 1) := by decide +kernel
theorem d_X10_valueAt_48 : decode m_X10_valueAt.2.1 48 = .ok (.ladd, 1) := by decide +kernel
theorem d_X10_valueAt_49 : decode m_X10_valueAt.2.1 49 = .ok (.invokestatic 191, 3) := by decide +kernel
theorem d_X10_valueAt_52 : decode m_X10_valueAt.2.1 52 = .ok (.lreturn, 1) := by decide +kernel
theorem d_X10_valueAt_53 : decode m_X10_valueAt.2.1 53 = .ok (.aload_n 0, 1) := by decide +kernel
theorem d_X10_valueAt_54 : decode m_X10_valueAt.2.1 54 = .ok (.iload_n 1, 1) := by decide +kernel
theorem d_X10_valueAt_55 : decode m_X10_valueAt.2.1 55 = .ok (.iload_n 2, 1) := by decide +kernel
theorem d_X10_valueAt_56 : decode m_X10_valueAt.2.1 56 = .ok (.invokevirtual 210, 3) := by decide +kernel
theorem d_X10_valueAt_59 : decode m_X10_valueAt.2.1 59 = .ok (.lreturn, 1) := by decide +kernel
theorem d_X10_slopeAt_0 : decode m_X10_slopeAt.2.1 0 = .ok (.aload_n 0, 1) := by decide +kernel
theorem d_X10_slopeAt_1 : decode m_X10_slopeAt.2.1 1 = .ok (.getfield 200, 3) := by decide +kernel
theorem d_X10_slopeAt_4 : decode m_X10_slopeAt.2.1 4 = .ok (.ifCond .eq 38, 3) := by decide +kernel
theorem d_X10_slopeAt_7 : decode m_X10_slopeAt.2.1 7 = .ok (.iload_n 2, 1) := by decide +kernel
theorem d_X10_slopeAt_8 : decode m_X10_slopeAt.2.1 8 = .ok (.aload_n 0, 1) := by decide +kernel
theorem d_X10_slopeAt_9 : decode m_X10_slopeAt.2.1 9 = .ok (.getfield 204, 3) := by decide +kernel
theorem d_X10_slopeAt_12 : decode m_X10_slopeAt.2.1 12 = .ok (.if_icmp .le 30, 3) := by decide +kernel
theorem d_X10_slopeAt_15 : decode m_X10_slopeAt.2.1 15 = .ok (.aload_n 0, 1) := by decide +kernel
theorem d_X10_slopeAt_16 : decode m_X10_slopeAt.2.1 16 = .ok (.getfield 56, 3) := by decide +kernel
theorem d_X10_slopeAt_19 : decode m_X10_slopeAt.2.1 19 = .ok (.iload_n 1, 1) := by decide +kernel
theorem d_X10_slopeAt_20 : decode m_X10_slopeAt.2.1 20 = .ok (.laload, 1) := by decide +kernel
theorem d_X10_slopeAt_21 : decode m_X10_slopeAt.2.1 21 = .ok (.aload_n 0, 1) := by decide +kernel
theorem d_X10_slopeAt_22 : decode m_X10_slopeAt.2.1 22 = .ok (.getfield 53, 3) := by decide +kernel
theorem d_X10_slopeAt_25 : decode m_X10_slopeAt.2.1 25 = .ok (.iload_n 1, 1) := by decide +kernel
theorem d_X10_slopeAt_26 : decode m_X10_slopeAt.2.1 26 = .ok (.laload, 1) := by decide +kernel
theorem d_X10_slopeAt_27 : decode m_X10_slopeAt.2.1 27 = .ok (.lsub, 1) := by decide +kernel
theorem d_X10_slopeAt_28 : decode m_X10_slopeAt.2.1 28 = .ok (.ldc2_w 176, 3) := by decide +kernel
theorem d_X10_slopeAt_31 : decode m_X10_slopeAt.2.1 31 = .ok (.lmul, 1) := by decide +kernel
theorem d_X10_slopeAt_32 : decode m_X10_slopeAt.2.1 32 = .ok (.aload_n 0, 1) := by decide +kernel
theorem d_X10_slopeAt_33 : decode m_X10_slopeAt.2.1 33 = .ok (.getfield 207, 3) := by decide +kernel
theorem d_X10_slopeAt_36 : decode m_X10_slopeAt.2.1 36 = .ok (.i2l, 1) := by decide +kernel
theorem d_X10_slopeAt_37 : decode m_X10_slopeAt.2.1 37 = .ok (.ldiv, 1) := by decide +kernel
theorem d_X10_slopeAt_38 : decode m_X10_slopeAt.2.1 38 = .ok (.invokestatic 191, 3) := by decide +kernel
theorem d_X10_slopeAt_41 : decode m_X10_slopeAt.2.1 41 = .ok (.lreturn, 1) := by decide +kernel
theorem d_X10_slopeAt_42 : decode m_X10_slopeAt.2.1 42 = .ok (.aload_n 0, 1) := by decide +kernel
theorem d_X10_slopeAt_43 : decode m_X10_slopeAt.2.1 43 = .ok (.iload_n 1, 1) := by decide +kernel
theorem d_X10_slopeAt_44 : decode m_X10_slopeAt.2.1 44 = .ok (.iload_n 2, 1) := by decide +kernel
theorem d_X10_slopeAt_45 : decode m_X10_slopeAt.2.1 45 = .ok (.invokevirtual 213, 3) := by decide +kernel
theorem d_X10_slopeAt_48 : decode m_X10_slopeAt.2.1 48 = .ok (.lreturn, 1) := by decide +kernel
theorem d_X10_rank_0 : decode m_X10_rank.2.1 0 = .ok (.iload_n 0, 1) := by decide +kernel
theorem d_X10_rank_1 : decode m_X10_rank.2.1 1 = .ok (.bipush 42, 2) := by decide +kernel
theorem d_X10_rank_3 : decode m_X10_rank.2.1 3 = .ok (.if_icmp .eq 9, 3) := by decide +kernel
theorem d_X10_rank_6 : decode m_X10_rank.2.1 6 = .ok (.iload_n 0, 1) := by decide +kernel
theorem d_X10_rank_7 : decode m_X10_rank.2.1 7 = .ok (.bipush 47, 2) := by decide +kernel
theorem d_X10_rank_9 : decode m_X10_rank.2.1 9 = .ok (.if_icmp .ne 7, 3) := by decide +kernel
theorem d_X10_rank_12 : decode m_X10_rank.2.1 12 = .ok (.iconst 2, 1) := by decide +kernel
theorem d_X10_rank_13 : decode m_X10_rank.2.1 13 = .ok (.goto 20, 3) := by decide +kernel
theorem d_X10_rank_16 : decode m_X10_rank.2.1 16 = .ok (.iload_n 0, 1) := by decide +kernel
theorem d_X10_rank_17 : decode m_X10_rank.2.1 17 = .ok (.bipush 43, 2) := by decide +kernel
theorem d_X10_rank_19 : decode m_X10_rank.2.1 19 = .ok (.if_icmp .eq 9, 3) := by decide +kernel
theorem d_X10_rank_22 : decode m_X10_rank.2.1 22 = .ok (.iload_n 0, 1) := by decide +kernel
theorem d_X10_rank_23 : decode m_X10_rank.2.1 23 = .ok (.bipush 45, 2) := by decide +kernel
theorem d_X10_rank_25 : decode m_X10_rank.2.1 25 = .ok (.if_icmp .ne 7, 3) := by decide +kernel
theorem d_X10_rank_28 : decode m_X10_rank.2.1 28 = .ok (.iconst 1, 1) := by decide +kernel
theorem d_X10_rank_29 : decode m_X10_rank.2.1 29 = .ok (.goto 4, 3) := by decide +kernel
theorem d_X10_rank_32 : decode m_X10_rank.2.1 32 = .ok (.iconst 0, 1) := by decide +kernel
theorem d_X10_rank_33 : decode m_X10_rank.2.1 33 = .ok (.ireturn, 1) := by decide +kernel
theorem d_X10_carriesOut_0 : decode m_X10_carriesOut.2.1 0 = .ok (.aload_n 0, 1) := by decide +kernel
theorem d_X10_carriesOut_1 : decode m_X10_carriesOut.2.1 1 = .ok (.dup, 1) := by decide +kernel
theorem d_X10_carriesOut_2 : decode m_X10_carriesOut.2.1 2 = .ok (.getfield 216, 3) := by decide +kernel
theorem d_X10_carriesOut_5 : decode m_X10_carriesOut.2.1 5 = .ok (.iconst 1, 1) := by decide +kernel
theorem d_X10_carriesOut_6 : decode m_X10_carriesOut.2.1 6 = .ok (.isub, 1) := by decide +kernel
theorem d_X10_carriesOut_7 : decode m_X10_carriesOut.2.1 7 = .ok (.putfield 216, 3) := by decide +kernel
theorem d_X10_carriesOut_10 : decode m_X10_carriesOut.2.1 10 = .ok (.aload_n 0, 1) := by decide +kernel
theorem d_X10_carriesOut_11 : decode m_X10_carriesOut.2.1 11 = .ok (.getfield 71, 3) := by decide +kernel
theorem d_X10_carriesOut_14 : decode m_X10_carriesOut.2.1 14 = .ok (.aload_n 0, 1) := by decide +kernel
theorem d_X10_carriesOut_15 : decode m_X10_carriesOut.2.1 15 = .ok (.getfield 216, 3) := by decide +kernel
theorem d_X10_carriesOut_18 : decode m_X10_carriesOut.2.1 18 = .ok (.iaload, 1) := by decide +kernel
theorem d_X10_carriesOut_19 : decode m_X10_carriesOut.2.1 19 = .ok (.istore_n 1, 1) := by decide +kernel
theorem d_X10_carriesOut_20 : decode m_X10_carriesOut.2.1 20 = .ok (.aload_n 0, 1) := by decide +kernel
theorem d_X10_carriesOut_21 : decode m_X10_carriesOut.2.1 21 = .ok (.dup, 1) := by decide +kernel
theorem d_X10_carriesOut_22 : decode m_X10_carriesOut.2.1 22 = .ok (.getfield 219, 3) := by decide +kernel
theorem d_X10_carriesOut_25 : decode m_X10_carriesOut.2.1 25 = .ok (.iconst 1, 1) := by decide +kernel
theorem d_X10_carriesOut_26 : decode m_X10_carriesOut.2.1 26 = .ok (.isub, 1) := by decide +kernel
theorem d_X10_carriesOut_27 : decode m_X10_carriesOut.2.1 27 = .ok (.putfield 219, 3) := by decide +kernel
theorem d_X10_carriesOut_30 : decode m_X10_carriesOut.2.1 30 = .ok (.aload_n 0, 1) := by decide +kernel
theorem d_X10_carriesOut_31 : decode m_X10_carriesOut.2.1 31 = .ok (.getfield 68, 3) := by decide +kernel
theorem d_X10_carriesOut_34 : decode m_X10_carriesOut.2.1 34 = .ok (.aload_n 0, 1) := by decide +kernel
theorem d_X10_carriesOut_35 : decode m_X10_carriesOut.2.1 35 = .ok (.getfield 219, 3) := by decide +kernel
theorem d_X10_carriesOut_38 : decode m_X10_carriesOut.2.1 38 = .ok (.laload, 1) := by decide +kernel
theorem d_X10_carriesOut_39 : decode m_X10_carriesOut.2.1 39 = .ok (.lstore_n 2, 1) := by decide +kernel
theorem d_X10_carriesOut_40 : decode m_X10_carriesOut.2.1 40 = .ok (.aload_n 0, 1) := by decide +kernel
theorem d_X10_carriesOut_41 : decode m_X10_carriesOut.2.1 41 = .ok (.getfield 68, 3) := by decide +kernel
theorem d_X10_carriesOut_44 : decode m_X10_carriesOut.2.1 44 = .ok (.aload_n 0, 1) := by decide +kernel
theorem d_X10_carriesOut_45 : decode m_X10_carriesOut.2.1 45 = .ok (.getfield 219, 3) := by decide +kernel
theorem d_X10_carriesOut_48 : decode m_X10_carriesOut.2.1 48 = .ok (.iconst 1, 1) := by decide +kernel
theorem d_X10_carriesOut_49 : decode m_X10_carriesOut.2.1 49 = .ok (.isub, 1) := by decide +kernel
theorem d_X10_carriesOut_50 : decode m_X10_carriesOut.2.1 50 = .ok (.laload, 1) := by decide +kernel
theorem d_X10_carriesOut_51 : decode m_X10_carriesOut.2.1 51 = .ok (.lstore 4, 2) := by decide +kernel
theorem d_X10_carriesOut_53 : decode m_X10_carriesOut.2.1 53 = .ok (.iload_n 1, 1) := by decide +kernel
theorem d_X10_carriesOut_54 : decode m_X10_carriesOut.2.1 54 = .ok (.bipush 43, 2) := by decide +kernel
theorem d_X10_carriesOut_56 : decode m_X10_carriesOut.2.1 56 = .ok (.if_icmp .ne 10, 3) := by decide +kernel
theorem d_X10_carriesOut_59 : decode m_X10_carriesOut.2.1 59 = .ok (.lload 4, 2) := by decide +kernel
theorem d_X10_carriesOut_61 : decode m_X10_carriesOut.2.1 61 = .ok (.lload_n 2, 1) := by decide +kernel
theorem d_X10_carriesOut_62 : decode m_X10_carriesOut.2.1 62 = .ok (.ladd, 1) := by decide +kernel
theorem d_X10_carriesOut_63 : decode m_X10_carriesOut.2.1 63 = .ok (.goto 51, 3) := by decide +kernel
theorem d_X10_carriesOut_66 : decode m_X10_carriesOut.2.1 66 = .ok (.iload_n 1, 1) := by decide +kernel
theorem d_X10_carriesOut_67 : decode m_X10_carriesOut.2.1 67 = .ok (.bipush 45, 2) := by decide +kernel
theorem d_X10_carriesOut_69 : decode m_X10_carriesOut.2.1 69 = .ok (.if_icmp .ne 10, 3) := by decide +kernel
theorem d_X10_carriesOut_72 : decode m_X10_carriesOut.2.1 72 = .ok (.lload 4, 2) := by decide +kernel
theorem d_X10_carriesOut_74 : decode m_X10_carriesOut.2.1 74 = .ok (.lload_n 2, 1) := by decide +kernel
theorem d_X10_carriesOut_75 : decode m_X10_carriesOut.2.1 75 = .ok (.lsub, 1) := by decide +kernel
theorem d_X10_carriesOut_76 : decode m_X10_carriesOut.2.1 76 = .ok (.goto 38, 3) := by decide +kernel
theorem d_X10_carriesOut_79 : decode m_X10_carriesOut.2.1 79 = .ok (.iload_n 1, 1) := by decide +kernel
theorem d_X10_carriesOut_80 : decode m_X10_carriesOut.2.1 80 = .ok (.bipush 42, 2) := by decide +kernel
theorem d_X10_carriesOut_82 : decode m_X10_carriesOut.2.1 82 = .ok (.if_icmp .ne 14, 3) := by decide +kernel
theorem d_X10_carriesOut_85 : decode m_X10_carriesOut.2.1 85 = .ok (.lload 4, 2) := by decide +kernel
theorem d_X10_carriesOut_87 : decode m_X10_carriesOut.2.1 87 = .ok (.lload_n 2, 1) := by decide +kernel
theorem d_X10_carriesOut_88 : decode m_X10_carriesOut.2.1 88 = .ok (.lmul, 1) := by decide +kernel
theorem d_X10_carriesOut_89 : decode m_X10_carriesOut.2.1 89 = .ok (.ldc2_w 176, 3) := by decide +kernel
theorem d_X10_carriesOut_92 : decode m_X10_carriesOut.2.1 92 = .ok (.ldiv, 1) := by decide +kernel
theorem d_X10_carriesOut_93 : decode m_X10_carriesOut.2.1 93 = .ok (.goto 21, 3) := by decide +kernel
theorem d_X10_carriesOut_96 : decode m_X10_carriesOut.2.1 96 = .ok (.lload_n 2, 1) := by decide +kernel
theorem d_X10_carriesOut_97 : decode m_X10_carriesOut.2.1 97 = .ok (.lconst 0, 1) := by decide +kernel
theorem d_X10_carriesOut_98 : decode m_X10_carriesOut.2.1 98 = .ok (.lcmp, 1) := by decide +kernel
theorem d_X10_carriesOut_99 : decode m_X10_carriesOut.2.1 99 = .ok (.ifCond .ne 7, 3) := by decide +kernel
theorem d_X10_carriesOut_102 : decode m_X10_carriesOut.2.1 102 = .ok (.lconst 0, 1) := by decide +kernel
theorem d_X10_carriesOut_103 : decode m_X10_carriesOut.2.1 103 = .ok (.goto 11, 3) := by decide +kernel
theorem d_X10_carriesOut_106 : decode m_X10_carriesOut.2.1 106 = .ok (.lload 4, 2) := by decide +kernel
theorem d_X10_carriesOut_108 : decode m_X10_carriesOut.2.1 108 = .ok (.ldc2_w 176, 3) := by decide +kernel
theorem d_X10_carriesOut_111 : decode m_X10_carriesOut.2.1 111 = .ok (.lmul, 1) := by decide +kernel
theorem d_X10_carriesOut_112 : decode m_X10_carriesOut.2.1 112 = .ok (.lload_n 2, 1) := by decide +kernel
theorem d_X10_carriesOut_113 : decode m_X10_carriesOut.2.1 113 = .ok (.ldiv, 1) := by decide +kernel
theorem d_X10_carriesOut_114 : decode m_X10_carriesOut.2.1 114 = .ok (.lstore 6, 2) := by decide +kernel
theorem d_X10_carriesOut_116 : decode m_X10_carriesOut.2.1 116 = .ok (.aload_n 0, 1) := by decide +kernel
theorem d_X10_carriesOut_117 : decode m_X10_carriesOut.2.1 117 = .ok (.getfield 68, 3) := by decide +kernel
theorem d_X10_carriesOut_120 : decode m_X10_carriesOut.2.1 120 = .ok (.aload_n 0, 1) := by decide +kernel
theorem d_X10_carriesOut_121 : decode m_X10_carriesOut.2.1 121 = .ok (.getfield 219, 3) := by decide +kernel
theorem d_X10_carriesOut_124 : decode m_X10_carriesOut.2.1 124 = .ok (.iconst 1, 1) := by decide +kernel
theorem d_X10_carriesOut_125 : decode m_X10_carriesOut.2.1 125 = .ok (.isub, 1) := by decide +kernel
theorem d_X10_carriesOut_126 : decode m_X10_carriesOut.2.1 126 = .ok (.lload 6, 2) := by decide +kernel
theorem d_X10_carriesOut_128 : decode m_X10_carriesOut.2.1 128 = .ok (.invokestatic 191, 3) := by decide +kernel
theorem d_X10_carriesOut_131 : decode m_X10_carriesOut.2.1 131 = .ok (.lastore, 1) := by decide +kernel
theorem d_X10_carriesOut_132 : decode m_X10_carriesOut.2.1 132 = .ok (.return_, 1) := by decide +kernel
theorem d_X10_carriesAll_0 : decode m_X10_carriesAll.2.1 0 = .ok (.aload_n 0, 1) := by decide +kernel
theorem d_X10_carriesAll_1 : decode m_X10_carriesAll.2.1 1 = .ok (.getfield 216, 3) := by decide +kernel
theorem d_X10_carriesAll_4 : decode m_X10_carriesAll.2.1 4 = .ok (.ifCond .le 28, 3) := by decide +kernel
theorem d_X10_carriesAll_7 : decode m_X10_carriesAll.2.1 7 = .ok (.aload_n 0, 1) := by decide +kernel
theorem d_X10_carriesAll_8 : decode m_X10_carriesAll.2.1 8 = .ok (.getfield 71, 3) := by decide +kernel
theorem d_X10_carriesAll_11 : decode m_X10_carriesAll.2.1 11 = .ok (.aload_n 0, 1) := by decide +kernel
theorem d_X10_carriesAll_12 : decode m_X10_carriesAll.2.1 12 = .ok (.getfield 216, 3) := by decide +kernel
theorem d_X10_carriesAll_15 : decode m_X10_carriesAll.2.1 15 = .ok (.iconst 1, 1) := by decide +kernel
theorem d_X10_carriesAll_16 : decode m_X10_carriesAll.2.1 16 = .ok (.isub, 1) := by decide +kernel
theorem d_X10_carriesAll_17 : decode m_X10_carriesAll.2.1 17 = .ok (.iaload, 1) := by decide +kernel
theorem d_X10_carriesAll_18 : decode m_X10_carriesAll.2.1 18 = .ok (.invokestatic 222, 3) := by decide +kernel
theorem d_X10_carriesAll_21 : decode m_X10_carriesAll.2.1 21 = .ok (.iload_n 1, 1) := by decide +kernel
theorem d_X10_carriesAll_22 : decode m_X10_carriesAll.2.1 22 = .ok (.if_icmp .lt 10, 3) := by decide +kernel
theorem d_X10_carriesAll_25 : decode m_X10_carriesAll.2.1 25 = .ok (.aload_n 0, 1) := by decide +kernel
theorem d_X10_carriesAll_26 : decode m_X10_carriesAll.2.1 26 = .ok (.invokevirtual 225, 3) := by decide +kernel
theorem d_X10_carriesAll_29 : decode m_X10_carriesAll.2.1 29 = .ok (.goto (-29), 3) := by decide +kernel
theorem d_X10_carriesAll_32 : decode m_X10_carriesAll.2.1 32 = .ok (.return_, 1) := by decide +kernel
theorem d_X10_negates_0 : decode m_X10_negates.2.1 0 = .ok (.aload_n 0, 1) := by decide +kernel
theorem d_X10_negates_1 : decode m_X10_negates.2.1 1 = .ok (.getfield 216, 3) := by decide +kernel
theorem d_X10_negates_4 : decode m_X10_negates.2.1 4 = .ok (.ifCond .le 58, 3) := by decide +kernel
theorem d_X10_negates_7 : decode m_X10_negates.2.1 7 = .ok (.aload_n 0, 1) := by decide +kernel
theorem d_X10_negates_8 : decode m_X10_negates.2.1 8 = .ok (.getfield 71, 3) := by decide +kernel
theorem d_X10_negates_11 : decode m_X10_negates.2.1 11 = .ok (.aload_n 0, 1) := by decide +kernel
theorem d_X10_negates_12 : decode m_X10_negates.2.1 12 = .ok (.getfield 216, 3) := by decide +kernel
theorem d_X10_negates_15 : decode m_X10_negates.2.1 15 = .ok (.iconst 1, 1) := by decide +kernel
theorem d_X10_negates_16 : decode m_X10_negates.2.1 16 = .ok (.isub, 1) := by decide +kernel
theorem d_X10_negates_17 : decode m_X10_negates.2.1 17 = .ok (.iaload, 1) := by decide +kernel
theorem d_X10_negates_18 : decode m_X10_negates.2.1 18 = .ok (.bipush 126, 2) := by decide +kernel
theorem d_X10_negates_20 : decode m_X10_negates.2.1 20 = .ok (.if_icmp .ne 42, 3) := by decide +kernel
theorem d_X10_negates_23 : decode m_X10_negates.2.1 23 = .ok (.aload_n 0, 1) := by decide +kernel
theorem d_X10_negates_24 : decode m_X10_negates.2.1 24 = .ok (.dup, 1) := by decide +kernel
theorem d_X10_negates_25 : decode m_X10_negates.2.1 25 = .ok (.getfield 216, 3) := by decide +kernel
theorem d_X10_negates_28 : decode m_X10_negates.2.1 28 = .ok (.iconst 1, 1) := by decide +kernel
theorem d_X10_negates_29 : decode m_X10_negates.2.1 29 = .ok (.isub, 1) := by decide +kernel
theorem d_X10_negates_30 : decode m_X10_negates.2.1 30 = .ok (.putfield 216, 3) := by decide +kernel
theorem d_X10_negates_33 : decode m_X10_negates.2.1 33 = .ok (.aload_n 0, 1) := by decide +kernel
theorem d_X10_negates_34 : decode m_X10_negates.2.1 34 = .ok (.getfield 68, 3) := by decide +kernel
theorem d_X10_negates_37 : decode m_X10_negates.2.1 37 = .ok (.aload_n 0, 1) := by decide +kernel
theorem d_X10_negates_38 : decode m_X10_negates.2.1 38 = .ok (.getfield 219, 3) := by decide +kernel
theorem d_X10_negates_41 : decode m_X10_negates.2.1 41 = .ok (.iconst 1, 1) := by decide +kernel
theorem d_X10_negates_42 : decode m_X10_negates.2.1 42 = .ok (.isub, 1) := by decide +kernel
theorem d_X10_negates_43 : decode m_X10_negates.2.1 43 = .ok (.aload_n 0, 1) := by decide +kernel
theorem d_X10_negates_44 : decode m_X10_negates.2.1 44 = .ok (.getfield 68, 3) := by decide +kernel
theorem d_X10_negates_47 : decode m_X10_negates.2.1 47 = .ok (.aload_n 0, 1) := by decide +kernel
theorem d_X10_negates_48 : decode m_X10_negates.2.1 48 = .ok (.getfield 219, 3) := by decide +kernel
theorem d_X10_negates_51 : decode m_X10_negates.2.1 51 = .ok (.iconst 1, 1) := by decide +kernel
theorem d_X10_negates_52 : decode m_X10_negates.2.1 52 = .ok (.isub, 1) := by decide +kernel
theorem d_X10_negates_53 : decode m_X10_negates.2.1 53 = .ok (.laload, 1) := by decide +kernel
theorem d_X10_negates_54 : decode m_X10_negates.2.1 54 = .ok (.lneg, 1) := by decide +kernel
theorem d_X10_negates_55 : decode m_X10_negates.2.1 55 = .ok (.invokestatic 191, 3) := by decide +kernel
theorem d_X10_negates_58 : decode m_X10_negates.2.1 58 = .ok (.lastore, 1) := by decide +kernel
theorem d_X10_negates_59 : decode m_X10_negates.2.1 59 = .ok (.goto (-59), 3) := by decide +kernel
theorem d_X10_negates_62 : decode m_X10_negates.2.1 62 = .ok (.return_, 1) := by decide +kernel
theorem d_X10_puts_0 : decode m_X10_puts.2.1 0 = .ok (.aload_n 0, 1) := by decide +kernel
theorem d_X10_puts_1 : decode m_X10_puts.2.1 1 = .ok (.getfield 68, 3) := by decide +kernel
theorem d_X10_puts_4 : decode m_X10_puts.2.1 4 = .ok (.aload_n 0, 1) := by decide +kernel
theorem d_X10_puts_5 : decode m_X10_puts.2.1 5 = .ok (.getfield 219, 3) := by decide +kernel
theorem d_X10_puts_8 : decode m_X10_puts.2.1 8 = .ok (.lload_n 1, 1) := by decide +kernel
theorem d_X10_puts_9 : decode m_X10_puts.2.1 9 = .ok (.lastore, 1) := by decide +kernel
theorem d_X10_puts_10 : decode m_X10_puts.2.1 10 = .ok (.aload_n 0, 1) := by decide +kernel
theorem d_X10_puts_11 : decode m_X10_puts.2.1 11 = .ok (.dup, 1) := by decide +kernel
theorem d_X10_puts_12 : decode m_X10_puts.2.1 12 = .ok (.getfield 219, 3) := by decide +kernel
theorem d_X10_puts_15 : decode m_X10_puts.2.1 15 = .ok (.iconst 1, 1) := by decide +kernel
theorem d_X10_puts_16 : decode m_X10_puts.2.1 16 = .ok (.iadd, 1) := by decide +kernel
theorem d_X10_puts_17 : decode m_X10_puts.2.1 17 = .ok (.putfield 219, 3) := by decide +kernel
theorem d_X10_puts_20 : decode m_X10_puts.2.1 20 = .ok (.aload_n 0, 1) := by decide +kernel
theorem d_X10_puts_21 : decode m_X10_puts.2.1 21 = .ok (.invokevirtual 228, 3) := by decide +kernel
theorem d_X10_puts_24 : decode m_X10_puts.2.1 24 = .ok (.return_, 1) := by decide +kernel
theorem d_X10_putsSign_0 : decode m_X10_putsSign.2.1 0 = .ok (.aload_n 0, 1) := by decide +kernel
theorem d_X10_putsSign_1 : decode m_X10_putsSign.2.1 1 = .ok (.getfield 71, 3) := by decide +kernel
theorem d_X10_putsSign_4 : decode m_X10_putsSign.2.1 4 = .ok (.aload_n 0, 1) := by decide +kernel
theorem d_X10_putsSign_5 : decode m_X10_putsSign.2.1 5 = .ok (.getfield 216, 3) := by decide +kernel
theorem d_X10_putsSign_8 : decode m_X10_putsSign.2.1 8 = .ok (.iload_n 1, 1) := by decide +kernel
theorem d_X10_putsSign_9 : decode m_X10_putsSign.2.1 9 = .ok (.iastore, 1) := by decide +kernel
theorem d_X10_putsSign_10 : decode m_X10_putsSign.2.1 10 = .ok (.aload_n 0, 1) := by decide +kernel
theorem d_X10_putsSign_11 : decode m_X10_putsSign.2.1 11 = .ok (.dup, 1) := by decide +kernel
theorem d_X10_putsSign_12 : decode m_X10_putsSign.2.1 12 = .ok (.getfield 216, 3) := by decide +kernel
theorem d_X10_putsSign_15 : decode m_X10_putsSign.2.1 15 = .ok (.iconst 1, 1) := by decide +kernel
theorem d_X10_putsSign_16 : decode m_X10_putsSign.2.1 16 = .ok (.iadd, 1) := by decide +kernel
theorem d_X10_putsSign_17 : decode m_X10_putsSign.2.1 17 = .ok (.putfield 216, 3) := by decide +kernel
theorem d_X10_putsSign_20 : decode m_X10_putsSign.2.1 20 = .ok (.return_, 1) := by decide +kernel
theorem d_X10_shuts_0 : decode m_X10_shuts.2.1 0 = .ok (.aload_n 0, 1) := by decide +kernel
theorem d_X10_shuts_1 : decode m_X10_shuts.2.1 1 = .ok (.iconst 1, 1) := by decide +kernel
theorem d_X10_shuts_2 : decode m_X10_shuts.2.1 2 = .ok (.invokevirtual 231, 3) := by decide +kernel
theorem d_X10_shuts_5 : decode m_X10_shuts.2.1 5 = .ok (.aload_n 0, 1) := by decide +kernel
theorem d_X10_shuts_6 : decode m_X10_shuts.2.1 6 = .ok (.dup, 1) := by decide +kernel
theorem d_X10_shuts_7 : decode m_X10_shuts.2.1 7 = .ok (.getfield 216, 3) := by decide +kernel
theorem d_X10_shuts_10 : decode m_X10_shuts.2.1 10 = .ok (.iconst 1, 1) := by decide +kernel
theorem d_X10_shuts_11 : decode m_X10_shuts.2.1 11 = .ok (.isub, 1) := by decide +kernel
theorem d_X10_shuts_12 : decode m_X10_shuts.2.1 12 = .ok (.putfield 216, 3) := by decide +kernel
theorem d_X10_shuts_15 : decode m_X10_shuts.2.1 15 = .ok (.aload_n 0, 1) := by decide +kernel
theorem d_X10_shuts_16 : decode m_X10_shuts.2.1 16 = .ok (.getfield 71, 3) := by decide +kernel
theorem d_X10_shuts_19 : decode m_X10_shuts.2.1 19 = .ok (.aload_n 0, 1) := by decide +kernel
theorem d_X10_shuts_20 : decode m_X10_shuts.2.1 20 = .ok (.getfield 216, 3) := by decide +kernel
theorem d_X10_shuts_23 : decode m_X10_shuts.2.1 23 = .ok (.iaload, 1) := by decide +kernel
theorem d_X10_shuts_24 : decode m_X10_shuts.2.1 24 = .ok (.bipush 44, 2) := by decide +kernel
theorem d_X10_shuts_26 : decode m_X10_shuts.2.1 26 = .ok (.if_icmp .ne 107, 3) := by decide +kernel
theorem d_X10_shuts_29 : decode m_X10_shuts.2.1 29 = .ok (.aload_n 0, 1) := by decide +kernel
theorem d_X10_shuts_30 : decode m_X10_shuts.2.1 30 = .ok (.dup, 1) := by decide +kernel
theorem d_X10_shuts_31 : decode m_X10_shuts.2.1 31 = .ok (.getfield 216, 3) := by decide +kernel
theorem d_X10_shuts_34 : decode m_X10_shuts.2.1 34 = .ok (.iconst 1, 1) := by decide +kernel
theorem d_X10_shuts_35 : decode m_X10_shuts.2.1 35 = .ok (.isub, 1) := by decide +kernel
theorem d_X10_shuts_36 : decode m_X10_shuts.2.1 36 = .ok (.putfield 216, 3) := by decide +kernel
theorem d_X10_shuts_39 : decode m_X10_shuts.2.1 39 = .ok (.aload_n 0, 1) := by decide +kernel
theorem d_X10_shuts_40 : decode m_X10_shuts.2.1 40 = .ok (.dup, 1) := by decide +kernel
theorem d_X10_shuts_41 : decode m_X10_shuts.2.1 41 = .ok (.getfield 219, 3) := by decide +kernel
theorem d_X10_shuts_44 : decode m_X10_shuts.2.1 44 = .ok (.iconst 1, 1) := by decide +kernel
theorem d_X10_shuts_45 : decode m_X10_shuts.2.1 45 = .ok (.isub, 1) := by decide +kernel
theorem d_X10_shuts_46 : decode m_X10_shuts.2.1 46 = .ok (.putfield 219, 3) := by decide +kernel
theorem d_X10_shuts_49 : decode m_X10_shuts.2.1 49 = .ok (.aload_n 0, 1) := by decide +kernel
theorem d_X10_shuts_50 : decode m_X10_shuts.2.1 50 = .ok (.getfield 68, 3) := by decide +kernel
theorem d_X10_shuts_53 : decode m_X10_shuts.2.1 53 = .ok (.aload_n 0, 1) := by decide +kernel
theorem d_X10_shuts_54 : decode m_X10_shuts.2.1 54 = .ok (.getfield 219, 3) := by decide +kernel
theorem d_X10_shuts_57 : decode m_X10_shuts.2.1 57 = .ok (.laload, 1) := by decide +kernel
theorem d_X10_shuts_58 : decode m_X10_shuts.2.1 58 = .ok (.lstore_n 1, 1) := by decide +kernel
theorem d_X10_shuts_59 : decode m_X10_shuts.2.1 59 = .ok (.aload_n 0, 1) := by decide +kernel
theorem d_X10_shuts_60 : decode m_X10_shuts.2.1 60 = .ok (.getfield 68, 3) := by decide +kernel
theorem d_X10_shuts_63 : decode m_X10_shuts.2.1 63 = .ok (.aload_n 0, 1) := by decide +kernel
theorem d_X10_shuts_64 : decode m_X10_shuts.2.1 64 = .ok (.getfield 219, 3) := by decide +kernel
theorem d_X10_shuts_67 : decode m_X10_shuts.2.1 67 = .ok (.iconst 1, 1) := by decide +kernel
theorem d_X10_shuts_68 : decode m_X10_shuts.2.1 68 = .ok (.isub, 1) := by decide +kernel
theorem d_X10_shuts_69 : decode m_X10_shuts.2.1 69 = .ok (.laload, 1) := by decide +kernel
theorem d_X10_shuts_70 : decode m_X10_shuts.2.1 70 = .ok (.lstore_n 3, 1) := by decide +kernel
theorem d_X10_shuts_71 : decode m_X10_shuts.2.1 71 = .ok (.aload_n 0, 1) := by decide +kernel
theorem d_X10_shuts_72 : decode m_X10_shuts.2.1 72 = .ok (.getfield 71, 3) := by decide +kernel
theorem d_X10_shuts_75 : decode m_X10_shuts.2.1 75 = .ok (.aload_n 0, 1) := by decide +kernel
theorem d_X10_shuts_76 : decode m_X10_shuts.2.1 76 = .ok (.getfield 216, 3) := by decide +kernel
theorem d_X10_shuts_79 : decode m_X10_shuts.2.1 79 = .ok (.iaload, 1) := by decide +kernel
theorem d_X10_shuts_80 : decode m_X10_shuts.2.1 80 = .ok (.bipush 105, 2) := by decide +kernel
theorem d_X10_shuts_82 : decode m_X10_shuts.2.1 82 = .ok (.if_icmp .ne 17, 3) := by decide +kernel
theorem d_X10_shuts_85 : decode m_X10_shuts.2.1 85 = .ok (.lload_n 3, 1) := by decide +kernel
theorem d_X10_shuts_86 : decode m_X10_shuts.2.1 86 = .ok (.lload_n 1, 1) := by decide +kernel
theorem d_X10_shuts_87 : decode m_X10_shuts.2.1 87 = .ok (.lcmp, 1) := by decide +kernel
theorem d_X10_shuts_88 : decode m_X10_shuts.2.1 88 = .ok (.ifCond .ge 7, 3) := by decide +kernel
theorem d_X10_shuts_91 : decode m_X10_shuts.2.1 91 = .ok (.iconst 1, 1) := by decide +kernel
theorem d_X10_shuts_92 : decode m_X10_shuts.2.1 92 = .ok (.goto 18, 3) := by decide +kernel
theorem d_X10_shuts_95 : decode m_X10_shuts.2.1 95 = .ok (.iconst 0, 1) := by decide +kernel
theorem d_X10_shuts_96 : decode m_X10_shuts.2.1 96 = .ok (.goto 14, 3) := by decide +kernel
theorem d_X10_shuts_99 : decode m_X10_shuts.2.1 99 = .ok (.lload_n 3, 1) := by decide +kernel
theorem d_X10_shuts_100 : decode m_X10_shuts.2.1 100 = .ok (.lload_n 1, 1) := by decide +kernel
theorem d_X10_shuts_101 : decode m_X10_shuts.2.1 101 = .ok (.lcmp, 1) := by decide +kernel
theorem d_X10_shuts_102 : decode m_X10_shuts.2.1 102 = .ok (.ifCond .le 7, 3) := by decide +kernel
theorem d_X10_shuts_105 : decode m_X10_shuts.2.1 105 = .ok (.iconst 1, 1) := by decide +kernel
theorem d_X10_shuts_106 : decode m_X10_shuts.2.1 106 = .ok (.goto 4, 3) := by decide +kernel
theorem d_X10_shuts_109 : decode m_X10_shuts.2.1 109 = .ok (.iconst 0, 1) := by decide +kernel
theorem d_X10_shuts_110 : decode m_X10_shuts.2.1 110 = .ok (.istore 5, 2) := by decide +kernel
theorem d_X10_shuts_112 : decode m_X10_shuts.2.1 112 = .ok (.aload_n 0, 1) := by decide +kernel
theorem d_X10_shuts_113 : decode m_X10_shuts.2.1 113 = .ok (.getfield 68, 3) := by decide +kernel
theorem d_X10_shuts_116 : decode m_X10_shuts.2.1 116 = .ok (.aload_n 0, 1) := by decide +kernel
theorem d_X10_shuts_117 : decode m_X10_shuts.2.1 117 = .ok (.getfield 219, 3) := by decide +kernel
theorem d_X10_shuts_120 : decode m_X10_shuts.2.1 120 = .ok (.iconst 1, 1) := by decide +kernel
theorem d_X10_shuts_121 : decode m_X10_shuts.2.1 121 = .ok (.isub, 1) := by decide +kernel
theorem d_X10_shuts_122 : decode m_X10_shuts.2.1 122 = .ok (.iload 5, 2) := by decide +kernel
theorem d_X10_shuts_124 : decode m_X10_shuts.2.1 124 = .ok (.ifCond .eq 7, 3) := by decide +kernel
theorem d_X10_shuts_127 : decode m_X10_shuts.2.1 127 = .ok (.lload_n 3, 1) := by decide +kernel
theorem d_X10_shuts_128 : decode m_X10_shuts.2.1 128 = .ok (.goto 4, 3) := by decide +kernel
theorem d_X10_shuts_131 : decode m_X10_shuts.2.1 131 = .ok (.lload_n 1, 1) := by decide +kernel
theorem d_X10_shuts_132 : decode m_X10_shuts.2.1 132 = .ok (.lastore, 1) := by decide +kernel
theorem d_X10_shuts_133 : decode m_X10_shuts.2.1 133 = .ok (.aload_n 0, 1) := by decide +kernel
theorem d_X10_shuts_134 : decode m_X10_shuts.2.1 134 = .ok (.invokevirtual 228, 3) := by decide +kernel
theorem d_X10_shuts_137 : decode m_X10_shuts.2.1 137 = .ok (.return_, 1) := by decide +kernel
theorem d_X10_numberAt_0 : decode m_X10_numberAt.2.1 0 = .ok (.lconst 0, 1) := by decide +kernel
theorem d_X10_numberAt_1 : decode m_X10_numberAt.2.1 1 = .ok (.lstore_n 3, 1) := by decide +kernel
theorem d_X10_numberAt_2 : decode m_X10_numberAt.2.1 2 = .ok (.iload_n 2, 1) := by decide +kernel
theorem d_X10_numberAt_3 : decode m_X10_numberAt.2.1 3 = .ok (.istore 5, 2) := by decide +kernel
theorem d_X10_numberAt_5 : decode m_X10_numberAt.2.1 5 = .ok (.aload_n 0, 1) := by decide +kernel
theorem d_X10_numberAt_6 : decode m_X10_numberAt.2.1 6 = .ok (.iload_n 1, 1) := by decide +kernel
theorem d_X10_numberAt_7 : decode m_X10_numberAt.2.1 7 = .ok (.iload 5, 2) := by decide +kernel
theorem d_X10_numberAt_9 : decode m_X10_numberAt.2.1 9 = .ok (.invokevirtual 130, 3) := by decide +kernel
theorem d_X10_numberAt_12 : decode m_X10_numberAt.2.1 12 = .ok (.invokestatic 105, 3) := by decide +kernel
theorem d_X10_numberAt_15 : decode m_X10_numberAt.2.1 15 = .ok (.ifCond .eq 28, 3) := by decide +kernel
theorem d_X10_numberAt_18 : decode m_X10_numberAt.2.1 18 = .ok (.ldc2_w 235, 3) := by decide +kernel
theorem d_X10_numberAt_21 : decode m_X10_numberAt.2.1 21 = .ok (.lload_n 3, 1) := by decide +kernel
theorem d_X10_numberAt_22 : decode m_X10_numberAt.2.1 22 = .ok (.lmul, 1) := by decide +kernel
theorem d_X10_numberAt_23 : decode m_X10_numberAt.2.1 23 = .ok (.aload_n 0, 1) := by decide +kernel
theorem d_X10_numberAt_24 : decode m_X10_numberAt.2.1 24 = .ok (.iload_n 1, 1) := by decide +kernel
theorem d_X10_numberAt_25 : decode m_X10_numberAt.2.1 25 = .ok (.iload 5, 2) := by decide +kernel
theorem d_X10_numberAt_27 : decode m_X10_numberAt.2.1 27 = .ok (.invokevirtual 130, 3) := by decide +kernel
theorem d_X10_numberAt_30 : decode m_X10_numberAt.2.1 30 = .ok (.i2l, 1) := by decide +kernel
theorem d_X10_numberAt_31 : decode m_X10_numberAt.2.1 31 = .ok (.ladd, 1) := by decide +kernel
theorem d_X10_numberAt_32 : decode m_X10_numberAt.2.1 32 = .ok (.ldc2_w 237, 3) := by decide +kernel
theorem d_X10_numberAt_35 : decode m_X10_numberAt.2.1 35 = .ok (.lsub, 1) := by decide +kernel
theorem d_X10_numberAt_36 : decode m_X10_numberAt.2.1 36 = .ok (.lstore_n 3, 1) := by decide +kernel
theorem d_X10_numberAt_37 : decode m_X10_numberAt.2.1 37 = .ok (.iinc 5 1, 3) := by decide +kernel
theorem d_X10_numberAt_40 : decode m_X10_numberAt.2.1 40 = .ok (.goto (-35), 3) := by decide +kernel
theorem d_X10_numberAt_43 : decode m_X10_numberAt.2.1 43 = .ok (.aload_n 0, 1) := by decide +kernel
theorem d_X10_numberAt_44 : decode m_X10_numberAt.2.1 44 = .ok (.iload_n 1, 1) := by decide +kernel
theorem d_X10_numberAt_45 : decode m_X10_numberAt.2.1 45 = .ok (.iload 5, 2) := by decide +kernel
theorem d_X10_numberAt_47 : decode m_X10_numberAt.2.1 47 = .ok (.invokevirtual 130, 3) := by decide +kernel
theorem d_X10_numberAt_50 : decode m_X10_numberAt.2.1 50 = .ok (.bipush 46, 2) := by decide +kernel
theorem d_X10_numberAt_52 : decode m_X10_numberAt.2.1 52 = .ok (.if_icmp .ne 7, 3) := by decide +kernel
theorem d_X10_numberAt_55 : decode m_X10_numberAt.2.1 55 = .ok (.iconst 1, 1) := by decide +kernel
theorem d_X10_numberAt_56 : decode m_X10_numberAt.2.1 56 = .ok (.goto 4, 3) := by decide +kernel
theorem d_X10_numberAt_59 : decode m_X10_numberAt.2.1 59 = .ok (.iconst 0, 1) := by decide +kernel
theorem d_X10_numberAt_60 : decode m_X10_numberAt.2.1 60 = .ok (.istore 6, 2) := by decide +kernel
theorem d_X10_numberAt_62 : decode m_X10_numberAt.2.1 62 = .ok (.iconst 0, 1) := by decide +kernel
theorem d_X10_numberAt_63 : decode m_X10_numberAt.2.1 63 = .ok (.istore 7, 2) := by decide +kernel
theorem d_X10_numberAt_65 : decode m_X10_numberAt.2.1 65 = .ok (.iload 7, 2) := by decide +kernel
theorem d_X10_numberAt_67 : decode m_X10_numberAt.2.1 67 = .ok (.iconst 3, 1) := by decide +kernel
theorem d_X10_numberAt_68 : decode m_X10_numberAt.2.1 68 = .ok (.if_icmp .ge 76, 3) := by decide +kernel
theorem d_X10_numberAt_71 : decode m_X10_numberAt.2.1 71 = .ok (.iload 5, 2) := by decide +kernel
theorem d_X10_numberAt_73 : decode m_X10_numberAt.2.1 73 = .ok (.iload 6, 2) := by decide +kernel
theorem d_X10_numberAt_75 : decode m_X10_numberAt.2.1 75 = .ok (.ifCond .eq 7, 3) := by decide +kernel
theorem d_X10_numberAt_78 : decode m_X10_numberAt.2.1 78 = .ok (.iconst 1, 1) := by decide +kernel
theorem d_X10_numberAt_79 : decode m_X10_numberAt.2.1 79 = .ok (.goto 4, 3) := by decide +kernel
theorem d_X10_numberAt_82 : decode m_X10_numberAt.2.1 82 = .ok (.iconst 0, 1) := by decide +kernel
theorem d_X10_numberAt_83 : decode m_X10_numberAt.2.1 83 = .ok (.iadd, 1) := by decide +kernel
theorem d_X10_numberAt_84 : decode m_X10_numberAt.2.1 84 = .ok (.istore 5, 2) := by decide +kernel
theorem d_X10_numberAt_86 : decode m_X10_numberAt.2.1 86 = .ok (.iload 6, 2) := by decide +kernel
theorem d_X10_numberAt_88 : decode m_X10_numberAt.2.1 88 = .ok (.ifCond .eq 20, 3) := by decide +kernel
theorem d_X10_numberAt_91 : decode m_X10_numberAt.2.1 91 = .ok (.aload_n 0, 1) := by decide +kernel
theorem d_X10_numberAt_92 : decode m_X10_numberAt.2.1 92 = .ok (.iload_n 1, 1) := by decide +kernel
theorem d_X10_numberAt_93 : decode m_X10_numberAt.2.1 93 = .ok (.iload 5, 2) := by decide +kernel
theorem d_X10_numberAt_95 : decode m_X10_numberAt.2.1 95 = .ok (.invokevirtual 130, 3) := by decide +kernel
theorem d_X10_numberAt_98 : decode m_X10_numberAt.2.1 98 = .ok (.invokestatic 105, 3) := by decide +kernel
theorem d_X10_numberAt_101 : decode m_X10_numberAt.2.1 101 = .ok (.ifCond .eq 7, 3) := by decide +kernel
theorem d_X10_numberAt_104 : decode m_X10_numberAt.2.1 104 = .ok (.iconst 1, 1) := by decide +kernel
theorem d_X10_numberAt_105 : decode m_X10_numberAt.2.1 105 = .ok (.goto 4, 3) := by decide +kernel
theorem d_X10_numberAt_108 : decode m_X10_numberAt.2.1 108 = .ok (.iconst 0, 1) := by decide +kernel
theorem d_X10_numberAt_109 : decode m_X10_numberAt.2.1 109 = .ok (.istore 6, 2) := by decide +kernel
theorem d_X10_numberAt_111 : decode m_X10_numberAt.2.1 111 = .ok (.ldc2_w 235, 3) := by decide +kernel
theorem d_X10_numberAt_114 : decode m_X10_numberAt.2.1 114 = .ok (.lload_n 3, 1) := by decide +kernel
theorem d_X10_numberAt_115 : decode m_X10_numberAt.2.1 115 = .ok (.lmul, 1) := by decide +kernel
theorem d_X10_numberAt_116 : decode m_X10_numberAt.2.1 116 = .ok (.iload 6, 2) := by decide +kernel
theorem d_X10_numberAt_118 : decode m_X10_numberAt.2.1 118 = .ok (.ifCond .eq 16, 3) := by decide +kernel
theorem d_X10_numberAt_121 : decode m_X10_numberAt.2.1 121 = .ok (.aload_n 0, 1) := by decide +kernel
theorem d_X10_numberAt_122 : decode m_X10_numberAt.2.1 122 = .ok (.iload_n 1, 1) := by decide +kernel
theorem d_X10_numberAt_123 : decode m_X10_numberAt.2.1 123 = .ok (.iload 5, 2) := by decide +kernel
theorem d_X10_numberAt_125 : decode m_X10_numberAt.2.1 125 = .ok (.invokevirtual 130, 3) := by decide +kernel
theorem d_X10_numberAt_128 : decode m_X10_numberAt.2.1 128 = .ok (.bipush 48, 2) := by decide +kernel
theorem d_X10_numberAt_130 : decode m_X10_numberAt.2.1 130 = .ok (.isub, 1) := by decide +kernel
theorem d_X10_numberAt_131 : decode m_X10_numberAt.2.1 131 = .ok (.goto 4, 3) := by decide +kernel
theorem d_X10_numberAt_134 : decode m_X10_numberAt.2.1 134 = .ok (.iconst 0, 1) := by decide +kernel
theorem d_X10_numberAt_135 : decode m_X10_numberAt.2.1 135 = .ok (.i2l, 1) := by decide +kernel
theorem d_X10_numberAt_136 : decode m_X10_numberAt.2.1 136 = .ok (.ladd, 1) := by decide +kernel
theorem d_X10_numberAt_137 : decode m_X10_numberAt.2.1 137 = .ok (.lstore_n 3, 1) := by decide +kernel
theorem d_X10_numberAt_138 : decode m_X10_numberAt.2.1 138 = .ok (.iinc 7 1, 3) := by decide +kernel
theorem d_X10_numberAt_141 : decode m_X10_numberAt.2.1 141 = .ok (.goto (-76), 3) := by decide +kernel
theorem d_X10_numberAt_144 : decode m_X10_numberAt.2.1 144 = .ok (.lload_n 3, 1) := by decide +kernel
theorem d_X10_numberAt_145 : decode m_X10_numberAt.2.1 145 = .ok (.lreturn, 1) := by decide +kernel
theorem d_X10_behindNumber_0 : decode m_X10_behindNumber.2.1 0 = .ok (.iload_n 2, 1) := by decide +kernel
theorem d_X10_behindNumber_1 : decode m_X10_behindNumber.2.1 1 = .ok (.istore_n 3, 1) := by decide +kernel
theorem d_X10_behindNumber_2 : decode m_X10_behindNumber.2.1 2 = .ok (.aload_n 0, 1) := by decide +kernel
theorem d_X10_behindNumber_3 : decode m_X10_behindNumber.2.1 3 = .ok (.iload_n 1, 1) := by decide +kernel
theorem d_X10_behindNumber_4 : decode m_X10_behindNumber.2.1 4 = .ok (.iload_n 3, 1) := by decide +kernel
theorem d_X10_behindNumber_5 : decode m_X10_behindNumber.2.1 5 = .ok (.invokevirtual 130, 3) := by decide +kernel
theorem d_X10_behindNumber_8 : decode m_X10_behindNumber.2.1 8 = .ok (.invokestatic 105, 3) := by decide +kernel
theorem d_X10_behindNumber_11 : decode m_X10_behindNumber.2.1 11 = .ok (.ifCond .ne 14, 3) := by decide +kernel
theorem d_X10_behindNumber_14 : decode m_X10_behindNumber.2.1 14 = .ok (.aload_n 0, 1) := by decide +kernel
theorem d_X10_behindNumber_15 : decode m_X10_behindNumber.2.1 15 = .ok (.iload_n 1, 1) := by decide +kernel
theorem d_X10_behindNumber_16 : decode m_X10_behindNumber.2.1 16 = .ok (.iload_n 3, 1) := by decide +kernel
theorem d_X10_behindNumber_17 : decode m_X10_behindNumber.2.1 17 = .ok (.invokevirtual 130, 3) := by decide +kernel
theorem d_X10_behindNumber_20 : decode m_X10_behindNumber.2.1 20 = .ok (.bipush 46, 2) := by decide +kernel
theorem d_X10_behindNumber_22 : decode m_X10_behindNumber.2.1 22 = .ok (.if_icmp .ne 9, 3) := by decide +kernel
theorem d_X10_behindNumber_25 : decode m_X10_behindNumber.2.1 25 = .ok (.iinc 3 1, 3) := by decide +kernel
theorem d_X10_behindNumber_28 : decode m_X10_behindNumber.2.1 28 = .ok (.goto (-26), 3) := by decide +kernel
theorem d_X10_behindNumber_31 : decode m_X10_behindNumber.2.1 31 = .ok (.iload_n 3, 1) := by decide +kernel
theorem d_X10_behindNumber_32 : decode m_X10_behindNumber.2.1 32 = .ok (.ireturn, 1) := by decide +kernel
theorem d_X10_worksOut_0 : decode m_X10_worksOut.2.1 0 = .ok (.aload_n 0, 1) := by decide +kernel
theorem d_X10_worksOut_1 : decode m_X10_worksOut.2.1 1 = .ok (.iconst 0, 1) := by decide +kernel
theorem d_X10_worksOut_2 : decode m_X10_worksOut.2.1 2 = .ok (.putfield 219, 3) := by decide +kernel
theorem d_X10_worksOut_5 : decode m_X10_worksOut.2.1 5 = .ok (.aload_n 0, 1) := by decide +kernel
theorem d_X10_worksOut_6 : decode m_X10_worksOut.2.1 6 = .ok (.iconst 0, 1) := by decide +kernel
theorem d_X10_worksOut_7 : decode m_X10_worksOut.2.1 7 = .ok (.putfield 216, 3) := by decide +kernel
theorem d_X10_worksOut_10 : decode m_X10_worksOut.2.1 10 = .ok (.iconst 1, 1) := by decide +kernel
theorem d_X10_worksOut_11 : decode m_X10_worksOut.2.1 11 = .ok (.istore_n 3, 1) := by decide +kernel
theorem d_X10_worksOut_12 : decode m_X10_worksOut.2.1 12 = .ok (.iconst 0, 1) := by decide +kernel
theorem d_X10_worksOut_13 : decode m_X10_worksOut.2.1 13 = .ok (.istore 4, 2) := by decide +kernel
theorem d_X10_worksOut_15 : decode m_X10_worksOut.2.1 15 = .ok (.iload 4, 2) := by decide +kernel
theorem d_X10_worksOut_17 : decode m_X10_worksOut.2.1 17 = .ok (.aload_n 0, 1) := by decide +kernel
theorem d_X10_worksOut_18 : decode m_X10_worksOut.2.1 18 = .ok (.getfield 7, 3) := by decide +kernel
theorem d_X10_worksOut_21 : decode m_X10_worksOut.2.1 21 = .ok (.bipush 48, 2) := by decide +kernel
theorem d_X10_worksOut_23 : decode m_X10_worksOut.2.1 23 = .ok (.bipush 81, 2) := by decide +kernel
theorem d_X10_worksOut_25 : decode m_X10_worksOut.2.1 25 = .ok (.iload_n 1, 1) := by decide +kernel
theorem d_X10_worksOut_26 : decode m_X10_worksOut.2.1 26 = .ok (.imul, 1) := by decide +kernel
theorem d_X10_worksOut_27 : decode m_X10_worksOut.2.1 27 = .ok (.iadd, 1) := by decide +kernel
theorem d_X10_worksOut_28 : decode m_X10_worksOut.2.1 28 = .ok (.iaload, 1) := by decide +kernel
theorem d_X10_worksOut_29 : decode m_X10_worksOut.2.1 29 = .ok (.if_icmp .ge 300, 3) := by decide +kernel
theorem d_X10_worksOut_32 : decode m_X10_worksOut.2.1 32 = .ok (.aload_n 0, 1) := by decide +kernel
theorem d_X10_worksOut_33 : decode m_X10_worksOut.2.1 33 = .ok (.iload_n 1, 1) := by decide +kernel
theorem d_X10_worksOut_34 : decode m_X10_worksOut.2.1 34 = .ok (.iload 4, 2) := by decide +kernel
theorem d_X10_worksOut_36 : decode m_X10_worksOut.2.1 36 = .ok (.invokevirtual 130, 3) := by decide +kernel
theorem d_X10_worksOut_39 : decode m_X10_worksOut.2.1 39 = .ok (.istore 5, 2) := by decide +kernel
theorem d_X10_worksOut_41 : decode m_X10_worksOut.2.1 41 = .ok (.iload 4, 2) := by decide +kernel
theorem d_X10_worksOut_43 : decode m_X10_worksOut.2.1 43 = .ok (.iconst 1, 1) := by decide +kernel
theorem d_X10_worksOut_44 : decode m_X10_worksOut.2.1 44 = .ok (.iadd, 1) := by decide +kernel
theorem d_X10_worksOut_45 : decode m_X10_worksOut.2.1 45 = .ok (.istore 6, 2) := by decide +kernel
theorem d_X10_worksOut_47 : decode m_X10_worksOut.2.1 47 = .ok (.iconst 1, 1) := by decide +kernel
theorem d_X10_worksOut_48 : decode m_X10_worksOut.2.1 48 = .ok (.istore 7, 2) := by decide +kernel
theorem d_X10_worksOut_50 : decode m_X10_worksOut.2.1 50 = .ok (.iload 5, 2) := by decide +kernel
theorem d_X10_worksOut_52 : decode m_X10_worksOut.2.1 52 = .ok (.invokestatic 105, 3) := by decide +kernel
theorem d_X10_worksOut_55 : decode m_X10_worksOut.2.1 55 = .ok (.ifCond .eq 26, 3) := by decide +kernel
theorem d_X10_worksOut_58 : decode m_X10_worksOut.2.1 58 = .ok (.aload_n 0, 1) := by decide +kernel
theorem d_X10_worksOut_59 : decode m_X10_worksOut.2.1 59 = .ok (.aload_n 0, 1) := by decide +kernel
theorem d_X10_worksOut_60 : decode m_X10_worksOut.2.1 60 = .ok (.iload_n 1, 1) := by decide +kernel
theorem d_X10_worksOut_61 : decode m_X10_worksOut.2.1 61 = .ok (.iload 4, 2) := by decide +kernel
theorem d_X10_worksOut_63 : decode m_X10_worksOut.2.1 63 = .ok (.invokevirtual 239, 3) := by decide +kernel
theorem d_X10_worksOut_66 : decode m_X10_worksOut.2.1 66 = .ok (.invokevirtual 242, 3) := by decide +kernel
theorem d_X10_worksOut_69 : decode m_X10_worksOut.2.1 69 = .ok (.aload_n 0, 1) := by decide +kernel
theorem d_X10_worksOut_70 : decode m_X10_worksOut.2.1 70 = .ok (.iload_n 1, 1) := by decide +kernel
theorem d_X10_worksOut_71 : decode m_X10_worksOut.2.1 71 = .ok (.iload 4, 2) := by decide +kernel
theorem d_X10_worksOut_73 : decode m_X10_worksOut.2.1 73 = .ok (.invokevirtual 246, 3) := by decide +kernel
theorem d_X10_worksOut_76 : decode m_X10_worksOut.2.1 76 = .ok (.istore 6, 2) := by decide +kernel
theorem d_X10_worksOut_78 : decode m_X10_worksOut.2.1 78 = .ok (.goto 233, 3) := by decide +kernel
theorem d_X10_worksOut_81 : decode m_X10_worksOut.2.1 81 = .ok (.iload 5, 2) := by decide +kernel
theorem d_X10_worksOut_83 : decode m_X10_worksOut.2.1 83 = .ok (.bipush 116, 2) := by decide +kernel
theorem d_X10_worksOut_85 : decode m_X10_worksOut.2.1 85 = .ok (.if_icmp .ne 12, 3) := by decide +kernel
theorem d_X10_worksOut_88 : decode m_X10_worksOut.2.1 88 = .ok (.aload_n 0, 1) := by decide +kernel
theorem d_X10_worksOut_89 : decode m_X10_worksOut.2.1 89 = .ok (.iload_n 2, 1) := by decide +kernel
theorem d_X10_worksOut_90 : decode m_X10_worksOut.2.1 90 = .ok (.i2l, 1) := by decide +kernel
theorem d_X10_worksOut_91 : decode m_X10_worksOut.2.1 91 = .ok (.invokevirtual 242, 3) := by decide +kernel
theorem d_X10_worksOut_94 : decode m_X10_worksOut.2.1 94 = .ok (.goto 217, 3) := by decide +kernel
theorem d_X10_worksOut_97 : decode m_X10_worksOut.2.1 97 = .ok (.iload 5, 2) := by decide +kernel
theorem d_X10_worksOut_99 : decode m_X10_worksOut.2.1 99 = .ok (.invokestatic 113, 3) := by decide +kernel
theorem d_X10_worksOut_102 : decode m_X10_worksOut.2.1 102 = .ok (.ifCond .eq 146, 3) := by decide +kernel
theorem d_X10_worksOut_105 : decode m_X10_worksOut.2.1 105 = .ok (.aload_n 0, 1) := by decide +kernel
theorem d_X10_worksOut_106 : decode m_X10_worksOut.2.1 106 = .ok (.iload_n 1, 1) := by decide +kernel
theorem d_X10_worksOut_107 : decode m_X10_worksOut.2.1 107 = .ok (.iload 4, 2) := by decide +kernel
theorem d_X10_worksOut_109 : decode m_X10_worksOut.2.1 109 = .ok (.iconst 1, 1) := by decide +kernel
theorem d_X10_worksOut_110 : decode m_X10_worksOut.2.1 110 = .ok (.iadd, 1) := by decide +kernel
theorem d_X10_worksOut_111 : decode m_X10_worksOut.2.1 111 = .ok (.invokevirtual 130, 3) := by decide +kernel
theorem d_X10_worksOut_114 : decode m_X10_worksOut.2.1 114 = .ok (.bipush 39, 2) := by decide +kernel
theorem d_X10_worksOut_116 : decode m_X10_worksOut.2.1 116 = .ok (.if_icmp .ne 7, 3) := by decide +kernel
theorem d_X10_worksOut_119 : decode m_X10_worksOut.2.1 119 = .ok (.iconst 1, 1) := by decide +kernel
theorem d_X10_worksOut_120 : decode m_X10_worksOut.2.1 120 = .ok (.goto 4, 3) := by decide +kernel
theorem d_X10_worksOut_123 : decode m_X10_worksOut.2.1 123 = .ok (.iconst 0, 1) := by decide +kernel
theorem d_X10_worksOut_124 : decode m_X10_worksOut.2.1 124 = .ok (.istore 8, 2) := by decide +kernel
theorem d_X10_worksOut_126 : decode m_X10_worksOut.2.1 126 = .ok (.iload 8, 2) := by decide +kernel
theorem d_X10_worksOut_128 : decode m_X10_worksOut.2.1 128 = .ok (.ifCond .eq 10, 3) := by decide +kernel
theorem d_X10_worksOut_131 : decode m_X10_worksOut.2.1 131 = .ok (.iload 4, 2) := by decide +kernel
theorem d_X10_worksOut_133 : decode m_X10_worksOut.2.1 133 = .ok (.iconst 2, 1) := by decide +kernel
theorem d_X10_worksOut_134 : decode m_X10_worksOut.2.1 134 = .ok (.iadd, 1) := by decide +kernel
theorem d_X10_worksOut_135 : decode m_X10_worksOut.2.1 135 = .ok (.goto 7, 3) := by decide +kernel
theorem d_X10_worksOut_138 : decode m_X10_worksOut.2.1 138 = .ok (.iload 4, 2) := by decide +kernel
theorem d_X10_worksOut_140 : decode m_X10_worksOut.2.1 140 = .ok (.iconst 1, 1) := by decide +kernel
theorem d_X10_worksOut_141 : decode m_X10_worksOut.2.1 141 = .ok (.iadd, 1) := by decide +kernel
theorem d_X10_worksOut_142 : decode m_X10_worksOut.2.1 142 = .ok (.istore 9, 2) := by decide +kernel
theorem d_X10_worksOut_144 : decode m_X10_worksOut.2.1 144 = .ok (.aload_n 0, 1) := by decide +kernel
theorem d_X10_worksOut_145 : decode m_X10_worksOut.2.1 145 = .ok (.iload_n 1, 1) := by decide +kernel
theorem d_X10_worksOut_146 : decode m_X10_worksOut.2.1 146 = .ok (.iload 9, 2) := by decide +kernel
theorem d_X10_worksOut_148 : decode m_X10_worksOut.2.1 148 = .ok (.invokevirtual 130, 3) := by decide +kernel
theorem d_X10_worksOut_151 : decode m_X10_worksOut.2.1 151 = .ok (.bipush 64, 2) := by decide +kernel
theorem d_X10_worksOut_153 : decode m_X10_worksOut.2.1 153 = .ok (.if_icmp .ne 7, 3) := by decide +kernel
theorem d_X10_worksOut_156 : decode m_X10_worksOut.2.1 156 = .ok (.iconst 1, 1) := by decide +kernel
theorem d_X10_worksOut_157 : decode m_X10_worksOut.2.1 157 = .ok (.goto 4, 3) := by decide +kernel
theorem d_X10_worksOut_160 : decode m_X10_worksOut.2.1 160 = .ok (.iconst 0, 1) := by decide +kernel
theorem d_X10_worksOut_161 : decode m_X10_worksOut.2.1 161 = .ok (.istore 10, 2) := by decide +kernel
theorem d_X10_worksOut_163 : decode m_X10_worksOut.2.1 163 = .ok (.iload 10, 2) := by decide +kernel
theorem d_X10_worksOut_165 : decode m_X10_worksOut.2.1 165 = .ok (.ifCond .eq 25, 3) := by decide +kernel
theorem d_X10_worksOut_168 : decode m_X10_worksOut.2.1 168 = .ok (.iload_n 2, 1) := by decide +kernel
theorem d_X10_worksOut_169 : decode m_X10_worksOut.2.1 169 = .ok (.aload_n 0, 1) := by decide +kernel
theorem d_X10_worksOut_170 : decode m_X10_worksOut.2.1 170 = .ok (.aload_n 0, 1) := by decide +kernel
theorem d_X10_worksOut_171 : decode m_X10_worksOut.2.1 171 = .ok (.iload_n 1, 1) := by decide +kernel
theorem d_X10_worksOut_172 : decode m_X10_worksOut.2.1 172 = .ok (.iload 9, 2) := by decide +kernel
theorem d_X10_worksOut_174 : decode m_X10_worksOut.2.1 174 = .ok (.iconst 1, 1) := by decide +kernel
theorem d_X10_worksOut_175 : decode m_X10_worksOut.2.1 175 = .ok (.iadd, 1) := by decide +kernel
theorem d_X10_worksOut_176 : decode m_X10_worksOut.2.1 176 = .ok (.invokevirtual 130, 3) := by decide +kernel
theorem d_X10_worksOut_179 : decode m_X10_worksOut.2.1 179 = .ok (.bipush 48, 2) := by decide +kernel
theorem d_X10_worksOut_181 : decode m_X10_worksOut.2.1 181 = .ok (.isub, 1) := by decide +kernel
theorem d_X10_worksOut_182 : decode m_X10_worksOut.2.1 182 = .ok (.iload_n 2, 1) := by decide +kernel
theorem d_X10_worksOut_183 : decode m_X10_worksOut.2.1 183 = .ok (.invokevirtual 153, 3) := by decide +kernel
theorem d_X10_worksOut_186 : decode m_X10_worksOut.2.1 186 = .ok (.isub, 1) := by decide +kernel
theorem d_X10_worksOut_187 : decode m_X10_worksOut.2.1 187 = .ok (.goto 4, 3) := by decide +kernel
theorem d_X10_worksOut_190 : decode m_X10_worksOut.2.1 190 = .ok (.iload_n 2, 1) := by decide +kernel
theorem d_X10_worksOut_191 : decode m_X10_worksOut.2.1 191 = .ok (.istore 11, 2) := by decide +kernel
theorem d_X10_worksOut_193 : decode m_X10_worksOut.2.1 193 = .ok (.aload_n 0, 1) := by decide +kernel
theorem d_X10_worksOut_194 : decode m_X10_worksOut.2.1 194 = .ok (.iload 8, 2) := by decide +kernel
theorem d_X10_worksOut_196 : decode m_X10_worksOut.2.1 196 = .ok (.ifCond .eq 17, 3) := by decide +kernel
theorem d_X10_worksOut_199 : decode m_X10_worksOut.2.1 199 = .ok (.aload_n 0, 1) := by decide +kernel
theorem d_X10_worksOut_200 : decode m_X10_worksOut.2.1 200 = .ok (.iload 5, 2) := by decide +kernel
theorem d_X10_worksOut_202 : decode m_X10_worksOut.2.1 202 = .ok (.bipush 120, 2) := by decide +kernel
theorem d_X10_worksOut_204 : decode m_X10_worksOut.2.1 204 = .ok (.isub, 1) := by decide +kernel
theorem d_X10_worksOut_205 : decode m_X10_worksOut.2.1 205 = .ok (.iload 11, 2) := by decide +kernel
theorem d_X10_worksOut_207 : decode m_X10_worksOut.2.1 207 = .ok (.invokevirtual 249, 3) := by decide +kernel
theorem d_X10_worksOut_210 : decode m_X10_worksOut.2.1 210 = .ok (.goto 14, 3) := by decide +kernel
theorem d_X10_worksOut_213 : decode m_X10_worksOut.2.1 213 = .ok (.aload_n 0, 1) := by decide +kernel
theorem d_X10_worksOut_214 : decode m_X10_worksOut.2.1 214 = .ok (.iload 5, 2) := by decide +kernel
theorem d_X10_worksOut_216 : decode m_X10_worksOut.2.1 216 = .ok (.bipush 120, 2) := by decide +kernel
theorem d_X10_worksOut_218 : decode m_X10_worksOut.2.1 218 = .ok (.isub, 1) := by decide +kernel
theorem d_X10_worksOut_219 : decode m_X10_worksOut.2.1 219 = .ok (.iload 11, 2) := by decide +kernel
theorem d_X10_worksOut_221 : decode m_X10_worksOut.2.1 221 = .ok (.invokevirtual 252, 3) := by decide +kernel
theorem d_X10_worksOut_224 : decode m_X10_worksOut.2.1 224 = .ok (.invokevirtual 242, 3) := by decide +kernel
theorem d_X10_worksOut_227 : decode m_X10_worksOut.2.1 227 = .ok (.iload 10, 2) := by decide +kernel
theorem d_X10_worksOut_229 : decode m_X10_worksOut.2.1 229 = .ok (.ifCond .eq 10, 3) := by decide +kernel
theorem d_X10_worksOut_232 : decode m_X10_worksOut.2.1 232 = .ok (.iload 9, 2) := by decide +kernel
theorem d_X10_worksOut_234 : decode m_X10_worksOut.2.1 234 = .ok (.iconst 2, 1) := by decide +kernel
theorem d_X10_worksOut_235 : decode m_X10_worksOut.2.1 235 = .ok (.iadd, 1) := by decide +kernel
theorem d_X10_worksOut_236 : decode m_X10_worksOut.2.1 236 = .ok (.goto 7, 3) := by decide +kernel
theorem d_X10_worksOut_239 : decode m_X10_worksOut.2.1 239 = .ok (.iload 4, 2) := by decide +kernel
theorem d_X10_worksOut_241 : decode m_X10_worksOut.2.1 241 = .ok (.iconst 1, 1) := by decide +kernel
theorem d_X10_worksOut_242 : decode m_X10_worksOut.2.1 242 = .ok (.iadd, 1) := by decide +kernel
theorem d_X10_worksOut_243 : decode m_X10_worksOut.2.1 243 = .ok (.istore 6, 2) := by decide +kernel
theorem d_X10_worksOut_245 : decode m_X10_worksOut.2.1 245 = .ok (.goto 66, 3) := by decide +kernel
theorem d_X10_worksOut_248 : decode m_X10_worksOut.2.1 248 = .ok (.iload 5, 2) := by decide +kernel
theorem d_X10_worksOut_250 : decode m_X10_worksOut.2.1 250 = .ok (.bipush 41, 2) := by decide +kernel
theorem d_X10_worksOut_252 : decode m_X10_worksOut.2.1 252 = .ok (.if_icmp .ne 10, 3) := by decide +kernel
theorem d_X10_worksOut_255 : decode m_X10_worksOut.2.1 255 = .ok (.aload_n 0, 1) := by decide +kernel
theorem d_X10_worksOut_256 : decode m_X10_worksOut.2.1 256 = .ok (.invokevirtual 255, 3) := by decide +kernel
theorem d_X10_worksOut_259 : decode m_X10_worksOut.2.1 259 = .ok (.goto 52, 3) := by decide +kernel
theorem d_X10_worksOut_262 : decode m_X10_worksOut.2.1 262 = .ok (.iconst 0, 1) := by decide +kernel
theorem d_X10_worksOut_263 : decode m_X10_worksOut.2.1 263 = .ok (.istore 7, 2) := by decide +kernel
theorem d_X10_worksOut_265 : decode m_X10_worksOut.2.1 265 = .ok (.iload 5, 2) := by decide +kernel
theorem d_X10_worksOut_267 : decode m_X10_worksOut.2.1 267 = .ok (.bipush 109, 2) := by decide +kernel
theorem d_X10_worksOut_269 : decode m_X10_worksOut.2.1 269 = .ok (.if_icmp .ne 10, 3) := by decide +kernel
theorem d_X10_worksOut_272 : decode m_X10_worksOut.2.1 272 = .ok (.iload 4, 2) := by decide +kernel
theorem d_X10_worksOut_274 : decode m_X10_worksOut.2.1 274 = .ok (.iconst 4, 1) := by decide +kernel
theorem d_X10_worksOut_275 : decode m_X10_worksOut.2.1 275 = .ok (.iadd, 1) := by decide +kernel
theorem d_X10_worksOut_276 : decode m_X10_worksOut.2.1 276 = .ok (.goto 7, 3) := by decide +kernel
theorem d_X10_worksOut_279 : decode m_X10_worksOut.2.1 279 = .ok (.iload 4, 2) := by decide +kernel
theorem d_X10_worksOut_281 : decode m_X10_worksOut.2.1 281 = .ok (.iconst 1, 1) := by decide +kernel
theorem d_X10_worksOut_282 : decode m_X10_worksOut.2.1 282 = .ok (.iadd, 1) := by decide +kernel
theorem d_X10_worksOut_283 : decode m_X10_worksOut.2.1 283 = .ok (.istore 6, 2) := by decide +kernel
theorem d_X10_worksOut_285 : decode m_X10_worksOut.2.1 285 = .ok (.aload_n 0, 1) := by decide +kernel
theorem d_X10_worksOut_286 : decode m_X10_worksOut.2.1 286 = .ok (.iload 5, 2) := by decide +kernel
theorem d_X10_worksOut_288 : decode m_X10_worksOut.2.1 288 = .ok (.bipush 109, 2) := by decide +kernel
theorem d_X10_worksOut_290 : decode m_X10_worksOut.2.1 290 = .ok (.if_icmp .ne 15, 3) := by decide +kernel
theorem d_X10_worksOut_293 : decode m_X10_worksOut.2.1 293 = .ok (.aload_n 0, 1) := by decide +kernel
theorem d_X10_worksOut_294 : decode m_X10_worksOut.2.1 294 = .ok (.iload_n 1, 1) := by decide +kernel
theorem d_X10_worksOut_295 : decode m_X10_worksOut.2.1 295 = .ok (.iload 4, 2) := by decide +kernel
theorem d_X10_worksOut_297 : decode m_X10_worksOut.2.1 297 = .ok (.iconst 1, 1) := by decide +kernel
theorem d_X10_worksOut_298 : decode m_X10_worksOut.2.1 298 = .ok (.iadd, 1) := by decide +kernel
theorem d_X10_worksOut_299 : decode m_X10_worksOut.2.1 299 = .ok (.invokevirtual 130, 3) := by decide +kernel
theorem d_X10_worksOut_302 : decode m_X10_worksOut.2.1 302 = .ok (.goto 5, 3) := by decide +kernel
theorem d_X10_worksOut_305 : decode m_X10_worksOut.2.1 305 = .ok (.iload 5, 2) := by decide +kernel
theorem d_X10_worksOut_307 : decode m_X10_worksOut.2.1 307 = .ok (.iload_n 3, 1) := by decide +kernel
theorem d_X10_worksOut_308 : decode m_X10_worksOut.2.1 308 = .ok (.invokevirtual 258, 3) := by decide +kernel
theorem d_X10_worksOut_311 : decode m_X10_worksOut.2.1 311 = .ok (.iload 7, 2) := by decide +kernel
theorem d_X10_worksOut_313 : decode m_X10_worksOut.2.1 313 = .ok (.ifCond .ne 7, 3) := by decide +kernel
theorem d_X10_worksOut_316 : decode m_X10_worksOut.2.1 316 = .ok (.iconst 1, 1) := by decide +kernel
theorem d_X10_worksOut_317 : decode m_X10_worksOut.2.1 317 = .ok (.goto 4, 3) := by decide +kernel
theorem d_X10_worksOut_320 : decode m_X10_worksOut.2.1 320 = .ok (.iconst 0, 1) := by decide +kernel
theorem d_X10_worksOut_321 : decode m_X10_worksOut.2.1 321 = .ok (.istore_n 3, 1) := by decide +kernel
theorem d_X10_worksOut_322 : decode m_X10_worksOut.2.1 322 = .ok (.iload 6, 2) := by decide +kernel
theorem d_X10_worksOut_324 : decode m_X10_worksOut.2.1 324 = .ok (.istore 4, 2) := by decide +kernel
theorem d_X10_worksOut_326 : decode m_X10_worksOut.2.1 326 = .ok (.goto (-311), 3) := by decide +kernel
theorem d_X10_worksOut_329 : decode m_X10_worksOut.2.1 329 = .ok (.aload_n 0, 1) := by decide +kernel
theorem d_X10_worksOut_330 : decode m_X10_worksOut.2.1 330 = .ok (.iconst 1, 1) := by decide +kernel
theorem d_X10_worksOut_331 : decode m_X10_worksOut.2.1 331 = .ok (.invokevirtual 231, 3) := by decide +kernel
theorem d_X10_worksOut_334 : decode m_X10_worksOut.2.1 334 = .ok (.aload_n 0, 1) := by decide +kernel
theorem d_X10_worksOut_335 : decode m_X10_worksOut.2.1 335 = .ok (.getfield 68, 3) := by decide +kernel
theorem d_X10_worksOut_338 : decode m_X10_worksOut.2.1 338 = .ok (.iconst 0, 1) := by decide +kernel
theorem d_X10_worksOut_339 : decode m_X10_worksOut.2.1 339 = .ok (.laload, 1) := by decide +kernel
theorem d_X10_worksOut_340 : decode m_X10_worksOut.2.1 340 = .ok (.lreturn, 1) := by decide +kernel
theorem d_X10_opens_0 : decode m_X10_opens.2.1 0 = .ok (.iload_n 1, 1) := by decide +kernel
theorem d_X10_opens_1 : decode m_X10_opens.2.1 1 = .ok (.bipush 40, 2) := by decide +kernel
theorem d_X10_opens_3 : decode m_X10_opens.2.1 3 = .ok (.if_icmp .eq 15, 3) := by decide +kernel
theorem d_X10_opens_6 : decode m_X10_opens.2.1 6 = .ok (.iload_n 1, 1) := by decide +kernel
theorem d_X10_opens_7 : decode m_X10_opens.2.1 7 = .ok (.bipush 105, 2) := by decide +kernel
theorem d_X10_opens_9 : decode m_X10_opens.2.1 9 = .ok (.if_icmp .eq 9, 3) := by decide +kernel
theorem d_X10_opens_12 : decode m_X10_opens.2.1 12 = .ok (.iload_n 1, 1) := by decide +kernel
theorem d_X10_opens_13 : decode m_X10_opens.2.1 13 = .ok (.bipush 97, 2) := by decide +kernel
theorem d_X10_opens_15 : decode m_X10_opens.2.1 15 = .ok (.if_icmp .ne 11, 3) := by decide +kernel
theorem d_X10_opens_18 : decode m_X10_opens.2.1 18 = .ok (.aload_n 0, 1) := by decide +kernel
theorem d_X10_opens_19 : decode m_X10_opens.2.1 19 = .ok (.iload_n 1, 1) := by decide +kernel
theorem d_X10_opens_20 : decode m_X10_opens.2.1 20 = .ok (.invokevirtual 262, 3) := by decide +kernel
theorem d_X10_opens_23 : decode m_X10_opens.2.1 23 = .ok (.goto 48, 3) := by decide +kernel
theorem d_X10_opens_26 : decode m_X10_opens.2.1 26 = .ok (.iload_n 1, 1) := by decide +kernel
theorem d_X10_opens_27 : decode m_X10_opens.2.1 27 = .ok (.bipush 44, 2) := by decide +kernel
theorem d_X10_opens_29 : decode m_X10_opens.2.1 29 = .ok (.if_icmp .ne 16, 3) := by decide +kernel
theorem d_X10_opens_32 : decode m_X10_opens.2.1 32 = .ok (.aload_n 0, 1) := by decide +kernel
theorem d_X10_opens_33 : decode m_X10_opens.2.1 33 = .ok (.iconst 1, 1) := by decide +kernel
theorem d_X10_opens_34 : decode m_X10_opens.2.1 34 = .ok (.invokevirtual 231, 3) := by decide +kernel
theorem d_X10_opens_37 : decode m_X10_opens.2.1 37 = .ok (.aload_n 0, 1) := by decide +kernel
theorem d_X10_opens_38 : decode m_X10_opens.2.1 38 = .ok (.iload_n 1, 1) := by decide +kernel
theorem d_X10_opens_39 : decode m_X10_opens.2.1 39 = .ok (.invokevirtual 262, 3) := by decide +kernel
theorem d_X10_opens_42 : decode m_X10_opens.2.1 42 = .ok (.goto 29, 3) := by decide +kernel
theorem d_X10_opens_45 : decode m_X10_opens.2.1 45 = .ok (.iload_n 2, 1) := by decide +kernel
theorem d_X10_opens_46 : decode m_X10_opens.2.1 46 = .ok (.ifCond .eq 12, 3) := by decide +kernel
theorem d_X10_opens_49 : decode m_X10_opens.2.1 49 = .ok (.aload_n 0, 1) := by decide +kernel
theorem d_X10_opens_50 : decode m_X10_opens.2.1 50 = .ok (.bipush 126, 2) := by decide +kernel
theorem d_X10_opens_52 : decode m_X10_opens.2.1 52 = .ok (.invokevirtual 262, 3) := by decide +kernel
theorem d_X10_opens_55 : decode m_X10_opens.2.1 55 = .ok (.goto 16, 3) := by decide +kernel
theorem d_X10_opens_58 : decode m_X10_opens.2.1 58 = .ok (.aload_n 0, 1) := by decide +kernel
theorem d_X10_opens_59 : decode m_X10_opens.2.1 59 = .ok (.iload_n 1, 1) := by decide +kernel
theorem d_X10_opens_60 : decode m_X10_opens.2.1 60 = .ok (.invokestatic 222, 3) := by decide +kernel
theorem d_X10_opens_63 : decode m_X10_opens.2.1 63 = .ok (.invokevirtual 231, 3) := by decide +kernel
theorem d_X10_opens_66 : decode m_X10_opens.2.1 66 = .ok (.aload_n 0, 1) := by decide +kernel
theorem d_X10_opens_67 : decode m_X10_opens.2.1 67 = .ok (.iload_n 1, 1) := by decide +kernel
theorem d_X10_opens_68 : decode m_X10_opens.2.1 68 = .ok (.invokevirtual 262, 3) := by decide +kernel
theorem d_X10_opens_71 : decode m_X10_opens.2.1 71 = .ok (.return_, 1) := by decide +kernel
theorem d_X10_solvesAll_0 : decode m_X10_solvesAll.2.1 0 = .ok (.aload_n 0, 1) := by decide +kernel
theorem d_X10_solvesAll_1 : decode m_X10_solvesAll.2.1 1 = .ok (.invokevirtual 265, 3) := by decide +kernel
theorem d_X10_solvesAll_4 : decode m_X10_solvesAll.2.1 4 = .ok (.aload_n 0, 1) := by decide +kernel
theorem d_X10_solvesAll_5 : decode m_X10_solvesAll.2.1 5 = .ok (.iconst 0, 1) := by decide +kernel
theorem d_X10_solvesAll_6 : decode m_X10_solvesAll.2.1 6 = .ok (.putfield 178, 3) := by decide +kernel
theorem d_X10_solvesAll_9 : decode m_X10_solvesAll.2.1 9 = .ok (.aload_n 0, 1) := by decide +kernel
theorem d_X10_solvesAll_10 : decode m_X10_solvesAll.2.1 10 = .ok (.iconst 0, 1) := by decide +kernel
theorem d_X10_solvesAll_11 : decode m_X10_solvesAll.2.1 11 = .ok (.putfield 91, 3) := by decide +kernel
theorem d_X10_solvesAll_14 : decode m_X10_solvesAll.2.1 14 = .ok (.iconst 0, 1) := by decide +kernel
theorem d_X10_solvesAll_15 : decode m_X10_solvesAll.2.1 15 = .ok (.istore_n 1, 1) := by decide +kernel
theorem d_X10_solvesAll_16 : decode m_X10_solvesAll.2.1 16 = .ok (.iload_n 1, 1) := by decide +kernel
theorem d_X10_solvesAll_17 : decode m_X10_solvesAll.2.1 17 = .ok (.aload_n 0, 1) := by decide +kernel
theorem d_X10_solvesAll_18 : decode m_X10_solvesAll.2.1 18 = .ok (.getfield 7, 3) := by decide +kernel
theorem d_X10_solvesAll_21 : decode m_X10_solvesAll.2.1 21 = .ok (.sipush 291, 3) := by decide +kernel
theorem d_X10_solvesAll_24 : decode m_X10_solvesAll.2.1 24 = .ok (.iaload, 1) := by decide +kernel
theorem d_X10_solvesAll_25 : decode m_X10_solvesAll.2.1 25 = .ok (.if_icmp .ge 23, 3) := by decide +kernel
theorem d_X10_solvesAll_28 : decode m_X10_solvesAll.2.1 28 = .ok (.aload_n 0, 1) := by decide +kernel
theorem d_X10_solvesAll_29 : decode m_X10_solvesAll.2.1 29 = .ok (.aload_n 0, 1) := by decide +kernel
theorem d_X10_solvesAll_30 : decode m_X10_solvesAll.2.1 30 = .ok (.getfield 7, 3) := by decide +kernel
theorem d_X10_solvesAll_33 : decode m_X10_solvesAll.2.1 33 = .ok (.sipush 292, 3) := by decide +kernel
theorem d_X10_solvesAll_36 : decode m_X10_solvesAll.2.1 36 = .ok (.iload_n 1, 1) := by decide +kernel
theorem d_X10_solvesAll_37 : decode m_X10_solvesAll.2.1 37 = .ok (.iadd, 1) := by decide +kernel
theorem d_X10_solvesAll_38 : decode m_X10_solvesAll.2.1 38 = .ok (.iaload, 1) := by decide +kernel
theorem d_X10_solvesAll_39 : decode m_X10_solvesAll.2.1 39 = .ok (.invokevirtual 268, 3) := by decide +kernel
theorem d_X10_solvesAll_42 : decode m_X10_solvesAll.2.1 42 = .ok (.iinc 1 1, 3) := by decide +kernel
theorem d_X10_solvesAll_45 : decode m_X10_solvesAll.2.1 45 = .ok (.goto (-29), 3) := by decide +kernel
theorem d_X10_solvesAll_48 : decode m_X10_solvesAll.2.1 48 = .ok (.return_, 1) := by decide +kernel
theorem d_X10_goesTo_0 : decode m_X10_goesTo.2.1 0 = .ok (.aload_n 0, 1) := by decide +kernel
theorem d_X10_goesTo_1 : decode m_X10_goesTo.2.1 1 = .ok (.getfield 91, 3) := by decide +kernel
theorem d_X10_goesTo_4 : decode m_X10_goesTo.2.1 4 = .ok (.iload_n 1, 1) := by decide +kernel
theorem d_X10_goesTo_5 : decode m_X10_goesTo.2.1 5 = .ok (.if_icmp .ge 99, 3) := by decide +kernel
theorem d_X10_goesTo_8 : decode m_X10_goesTo.2.1 8 = .ok (.aload_n 0, 1) := by decide +kernel
theorem d_X10_goesTo_9 : decode m_X10_goesTo.2.1 9 = .ok (.getfield 7, 3) := by decide +kernel
theorem d_X10_goesTo_12 : decode m_X10_goesTo.2.1 12 = .ok (.iconst 0, 1) := by decide +kernel
theorem d_X10_goesTo_13 : decode m_X10_goesTo.2.1 13 = .ok (.iaload, 1) := by decide +kernel
theorem d_X10_goesTo_14 : decode m_X10_goesTo.2.1 14 = .ok (.istore_n 2, 1) := by decide +kernel
theorem d_X10_goesTo_15 : decode m_X10_goesTo.2.1 15 = .ok (.iload_n 1, 1) := by decide +kernel
theorem d_X10_goesTo_16 : decode m_X10_goesTo.2.1 16 = .ok (.aload_n 0, 1) := by decide +kernel
theorem d_X10_goesTo_17 : decode m_X10_goesTo.2.1 17 = .ok (.getfield 91, 3) := by decide +kernel
theorem d_X10_goesTo_20 : decode m_X10_goesTo.2.1 20 = .ok (.isub, 1) := by decide +kernel
theorem d_X10_goesTo_21 : decode m_X10_goesTo.2.1 21 = .ok (.iload_n 2, 1) := by decide +kernel
theorem d_X10_goesTo_22 : decode m_X10_goesTo.2.1 22 = .ok (.if_icmp .ge 12, 3) := by decide +kernel
theorem d_X10_goesTo_25 : decode m_X10_goesTo.2.1 25 = .ok (.iload_n 1, 1) := by decide +kernel
theorem d_X10_goesTo_26 : decode m_X10_goesTo.2.1 26 = .ok (.aload_n 0, 1) := by decide +kernel
theorem d_X10_goesTo_27 : decode m_X10_goesTo.2.1 27 = .ok (.getfield 91, 3) := by decide +kernel
theorem d_X10_goesTo_30 : decode m_X10_goesTo.2.1 30 = .ok (.isub, 1) := by decide +kernel
theorem d_X10_goesTo_31 : decode m_X10_goesTo.2.1 31 = .ok (.goto 4, 3) := by decide +kernel
theorem d_X10_goesTo_34 : decode m_X10_goesTo.2.1 34 = .ok (.iload_n 2, 1) := by decide +kernel
theorem d_X10_goesTo_35 : decode m_X10_goesTo.2.1 35 = .ok (.istore_n 2, 1) := by decide +kernel
theorem d_X10_goesTo_36 : decode m_X10_goesTo.2.1 36 = .ok (.aload_n 0, 1) := by decide +kernel
theorem d_X10_goesTo_37 : decode m_X10_goesTo.2.1 37 = .ok (.aload_n 0, 1) := by decide +kernel
theorem d_X10_goesTo_38 : decode m_X10_goesTo.2.1 38 = .ok (.getfield 91, 3) := by decide +kernel
theorem d_X10_goesTo_41 : decode m_X10_goesTo.2.1 41 = .ok (.invokevirtual 271, 3) := by decide +kernel
theorem d_X10_goesTo_44 : decode m_X10_goesTo.2.1 44 = .ok (.aload_n 0, 1) := by decide +kernel
theorem d_X10_goesTo_45 : decode m_X10_goesTo.2.1 45 = .ok (.getfield 91, 3) := by decide +kernel
theorem d_X10_goesTo_48 : decode m_X10_goesTo.2.1 48 = .ok (.isub, 1) := by decide +kernel
theorem d_X10_goesTo_49 : decode m_X10_goesTo.2.1 49 = .ok (.iload_n 2, 1) := by decide +kernel
theorem d_X10_goesTo_50 : decode m_X10_goesTo.2.1 50 = .ok (.if_icmp .ge 34, 3) := by decide +kernel
theorem d_X10_goesTo_53 : decode m_X10_goesTo.2.1 53 = .ok (.aload_n 0, 1) := by decide +kernel
theorem d_X10_goesTo_54 : decode m_X10_goesTo.2.1 54 = .ok (.aload_n 0, 1) := by decide +kernel
theorem d_X10_goesTo_55 : decode m_X10_goesTo.2.1 55 = .ok (.getfield 91, 3) := by decide +kernel
theorem d_X10_goesTo_58 : decode m_X10_goesTo.2.1 58 = .ok (.invokevirtual 271, 3) := by decide +kernel
theorem d_X10_goesTo_61 : decode m_X10_goesTo.2.1 61 = .ok (.aload_n 0, 1) := by decide +kernel
theorem d_X10_goesTo_62 : decode m_X10_goesTo.2.1 62 = .ok (.getfield 91, 3) := by decide +kernel
theorem d_X10_goesTo_65 : decode m_X10_goesTo.2.1 65 = .ok (.if_icmp .le 19, 3) := by decide +kernel
theorem d_X10_goesTo_68 : decode m_X10_goesTo.2.1 68 = .ok (.aload_n 0, 1) := by decide +kernel
theorem d_X10_goesTo_69 : decode m_X10_goesTo.2.1 69 = .ok (.aload_n 0, 1) := by decide +kernel
theorem d_X10_goesTo_70 : decode m_X10_goesTo.2.1 70 = .ok (.getfield 91, 3) := by decide +kernel
theorem d_X10_goesTo_73 : decode m_X10_goesTo.2.1 73 = .ok (.invokevirtual 271, 3) := by decide +kernel
theorem d_X10_goesTo_76 : decode m_X10_goesTo.2.1 76 = .ok (.aload_n 0, 1) := by decide +kernel
theorem d_X10_goesTo_77 : decode m_X10_goesTo.2.1 77 = .ok (.getfield 91, 3) := by decide +kernel
theorem d_X10_goesTo_80 : decode m_X10_goesTo.2.1 80 = .ok (.isub, 1) := by decide +kernel
theorem d_X10_goesTo_81 : decode m_X10_goesTo.2.1 81 = .ok (.goto 4, 3) := by decide +kernel
theorem d_X10_goesTo_84 : decode m_X10_goesTo.2.1 84 = .ok (.iload_n 2, 1) := by decide +kernel
theorem d_X10_goesTo_85 : decode m_X10_goesTo.2.1 85 = .ok (.istore_n 2, 1) := by decide +kernel
theorem d_X10_goesTo_86 : decode m_X10_goesTo.2.1 86 = .ok (.aload_n 0, 1) := by decide +kernel
theorem d_X10_goesTo_87 : decode m_X10_goesTo.2.1 87 = .ok (.iload_n 2, 1) := by decide +kernel
theorem d_X10_goesTo_88 : decode m_X10_goesTo.2.1 88 = .ok (.invokevirtual 274, 3) := by decide +kernel
theorem d_X10_goesTo_91 : decode m_X10_goesTo.2.1 91 = .ok (.aload_n 0, 1) := by decide +kernel
theorem d_X10_goesTo_92 : decode m_X10_goesTo.2.1 92 = .ok (.dup, 1) := by decide +kernel
theorem d_X10_goesTo_93 : decode m_X10_goesTo.2.1 93 = .ok (.getfield 91, 3) := by decide +kernel
theorem d_X10_goesTo_96 : decode m_X10_goesTo.2.1 96 = .ok (.iload_n 2, 1) := by decide +kernel
theorem d_X10_goesTo_97 : decode m_X10_goesTo.2.1 97 = .ok (.iadd, 1) := by decide +kernel
theorem d_X10_goesTo_98 : decode m_X10_goesTo.2.1 98 = .ok (.putfield 91, 3) := by decide +kernel
theorem d_X10_goesTo_101 : decode m_X10_goesTo.2.1 101 = .ok (.goto (-101), 3) := by decide +kernel
theorem d_X10_goesTo_104 : decode m_X10_goesTo.2.1 104 = .ok (.return_, 1) := by decide +kernel
theorem d_X10_needsRounds_0 : decode m_X10_needsRounds.2.1 0 = .ok (.iconst 0, 1) := by decide +kernel
theorem d_X10_needsRounds_1 : decode m_X10_needsRounds.2.1 1 = .ok (.istore_n 3, 1) := by decide +kernel
theorem d_X10_needsRounds_2 : decode m_X10_needsRounds.2.1 2 = .ok (.iconst 0, 1) := by decide +kernel
theorem d_X10_needsRounds_3 : decode m_X10_needsRounds.2.1 3 = .ok (.istore 4, 2) := by decide +kernel
theorem d_X10_needsRounds_5 : decode m_X10_needsRounds.2.1 5 = .ok (.iload 4, 2) := by decide +kernel
theorem d_X10_needsRounds_7 : decode m_X10_needsRounds.2.1 7 = .ok (.iconst 3, 1) := by decide +kernel
theorem d_X10_needsRounds_8 : decode m_X10_needsRounds.2.1 8 = .ok (.if_icmp .ge 69, 3) := by decide +kernel
theorem d_X10_needsRounds_11 : decode m_X10_needsRounds.2.1 11 = .ok (.aload_n 0, 1) := by decide +kernel
theorem d_X10_needsRounds_12 : decode m_X10_needsRounds.2.1 12 = .ok (.invokevirtual 162, 3) := by decide +kernel
theorem d_X10_needsRounds_15 : decode m_X10_needsRounds.2.1 15 = .ok (.iload 4, 2) := by decide +kernel
theorem d_X10_needsRounds_17 : decode m_X10_needsRounds.2.1 17 = .ok (.ishr, 1) := by decide +kernel
theorem d_X10_needsRounds_18 : decode m_X10_needsRounds.2.1 18 = .ok (.iconst 1, 1) := by decide +kernel
theorem d_X10_needsRounds_19 : decode m_X10_needsRounds.2.1 19 = .ok (.iand, 1) := by decide +kernel
theorem d_X10_needsRounds_20 : decode m_X10_needsRounds.2.1 20 = .ok (.iconst 1, 1) := by decide +kernel
theorem d_X10_needsRounds_21 : decode m_X10_needsRounds.2.1 21 = .ok (.if_icmp .ne 7, 3) := by decide +kernel
theorem d_X10_needsRounds_24 : decode m_X10_needsRounds.2.1 24 = .ok (.iconst 1, 1) := by decide +kernel
theorem d_X10_needsRounds_25 : decode m_X10_needsRounds.2.1 25 = .ok (.goto 4, 3) := by decide +kernel
theorem d_X10_needsRounds_28 : decode m_X10_needsRounds.2.1 28 = .ok (.iconst 0, 1) := by decide +kernel
theorem d_X10_needsRounds_29 : decode m_X10_needsRounds.2.1 29 = .ok (.istore 5, 2) := by decide +kernel
theorem d_X10_needsRounds_31 : decode m_X10_needsRounds.2.1 31 = .ok (.iload_n 3, 1) := by decide +kernel
theorem d_X10_needsRounds_32 : decode m_X10_needsRounds.2.1 32 = .ok (.ifCond .ne 33, 3) := by decide +kernel
theorem d_X10_needsRounds_35 : decode m_X10_needsRounds.2.1 35 = .ok (.iload 5, 2) := by decide +kernel
theorem d_X10_needsRounds_37 : decode m_X10_needsRounds.2.1 37 = .ok (.ifCond .eq 32, 3) := by decide +kernel
theorem d_X10_needsRounds_40 : decode m_X10_needsRounds.2.1 40 = .ok (.aload_n 0, 1) := by decide +kernel
theorem d_X10_needsRounds_41 : decode m_X10_needsRounds.2.1 41 = .ok (.iload 4, 2) := by decide +kernel
theorem d_X10_needsRounds_43 : decode m_X10_needsRounds.2.1 43 = .ok (.iload_n 1, 1) := by decide +kernel
theorem d_X10_needsRounds_44 : decode m_X10_needsRounds.2.1 44 = .ok (.iload_n 2, 1) := by decide +kernel
theorem d_X10_needsRounds_45 : decode m_X10_needsRounds.2.1 45 = .ok (.iadd, 1) := by decide +kernel
theorem d_X10_needsRounds_46 : decode m_X10_needsRounds.2.1 46 = .ok (.invokevirtual 153, 3) := by decide +kernel
theorem d_X10_needsRounds_49 : decode m_X10_needsRounds.2.1 49 = .ok (.iload_n 2, 1) := by decide +kernel
theorem d_X10_needsRounds_50 : decode m_X10_needsRounds.2.1 50 = .ok (.if_icmp .ge 19, 3) := by decide +kernel
theorem d_X10_needsRounds_53 : decode m_X10_needsRounds.2.1 53 = .ok (.aload_n 0, 1) := by decide +kernel
theorem d_X10_needsRounds_54 : decode m_X10_needsRounds.2.1 54 = .ok (.iload 4, 2) := by decide +kernel
theorem d_X10_needsRounds_56 : decode m_X10_needsRounds.2.1 56 = .ok (.iload_n 1, 1) := by decide +kernel
theorem d_X10_needsRounds_57 : decode m_X10_needsRounds.2.1 57 = .ok (.iload_n 2, 1) := by decide +kernel
theorem d_X10_needsRounds_58 : decode m_X10_needsRounds.2.1 58 = .ok (.iadd, 1) := by decide +kernel
theorem d_X10_needsRounds_59 : decode m_X10_needsRounds.2.1 59 = .ok (.invokevirtual 153, 3) := by decide +kernel
theorem d_X10_needsRounds_62 : decode m_X10_needsRounds.2.1 62 = .ok (.ifCond .eq 7, 3) := by decide +kernel
theorem d_X10_needsRounds_65 : decode m_X10_needsRounds.2.1 65 = .ok (.iconst 1, 1) := by decide +kernel
theorem d_X10_needsRounds_66 : decode m_X10_needsRounds.2.1 66 = .ok (.goto 4, 3) := by decide +kernel
theorem d_X10_needsRounds_69 : decode m_X10_needsRounds.2.1 69 = .ok (.iconst 0, 1) := by decide +kernel
theorem d_X10_needsRounds_70 : decode m_X10_needsRounds.2.1 70 = .ok (.istore_n 3, 1) := by decide +kernel
theorem d_X10_needsRounds_71 : decode m_X10_needsRounds.2.1 71 = .ok (.iinc 4 1, 3) := by decide +kernel
theorem d_X10_needsRounds_74 : decode m_X10_needsRounds.2.1 74 = .ok (.goto (-69), 3) := by decide +kernel
theorem d_X10_needsRounds_77 : decode m_X10_needsRounds.2.1 77 = .ok (.iload_n 3, 1) := by decide +kernel
theorem d_X10_needsRounds_78 : decode m_X10_needsRounds.2.1 78 = .ok (.ireturn, 1) := by decide +kernel
theorem d_X10_guesses_0 : decode m_X10_guesses.2.1 0 = .ok (.aload_n 0, 1) := by decide +kernel
theorem d_X10_guesses_1 : decode m_X10_guesses.2.1 1 = .ok (.iconst 1, 1) := by decide +kernel
theorem d_X10_guesses_2 : decode m_X10_guesses.2.1 2 = .ok (.putfield 200, 3) := by decide +kernel
theorem d_X10_guesses_5 : decode m_X10_guesses.2.1 5 = .ok (.iconst 0, 1) := by decide +kernel
theorem d_X10_guesses_6 : decode m_X10_guesses.2.1 6 = .ok (.istore_n 3, 1) := by decide +kernel
theorem d_X10_guesses_7 : decode m_X10_guesses.2.1 7 = .ok (.iload_n 3, 1) := by decide +kernel
theorem d_X10_guesses_8 : decode m_X10_guesses.2.1 8 = .ok (.iconst 3, 1) := by decide +kernel
theorem d_X10_guesses_9 : decode m_X10_guesses.2.1 9 = .ok (.if_icmp .ge 23, 3) := by decide +kernel
theorem d_X10_guesses_12 : decode m_X10_guesses.2.1 12 = .ok (.aload_n 0, 1) := by decide +kernel
theorem d_X10_guesses_13 : decode m_X10_guesses.2.1 13 = .ok (.getfield 62, 3) := by decide +kernel
theorem d_X10_guesses_16 : decode m_X10_guesses.2.1 16 = .ok (.iload_n 3, 1) := by decide +kernel
theorem d_X10_guesses_17 : decode m_X10_guesses.2.1 17 = .ok (.aload_n 0, 1) := by decide +kernel
theorem d_X10_guesses_18 : decode m_X10_guesses.2.1 18 = .ok (.iload_n 3, 1) := by decide +kernel
theorem d_X10_guesses_19 : decode m_X10_guesses.2.1 19 = .ok (.iload_n 1, 1) := by decide +kernel
theorem d_X10_guesses_20 : decode m_X10_guesses.2.1 20 = .ok (.iload_n 2, 1) := by decide +kernel
theorem d_X10_guesses_21 : decode m_X10_guesses.2.1 21 = .ok (.iadd, 1) := by decide +kernel
theorem d_X10_guesses_22 : decode m_X10_guesses.2.1 22 = .ok (.invokevirtual 277, 3) := by decide +kernel
theorem d_X10_guesses_25 : decode m_X10_guesses.2.1 25 = .ok (.lastore, 1) := by decide +kernel
theorem d_X10_guesses_26 : decode m_X10_guesses.2.1 26 = .ok (.iinc 3 1, 3) := by decide +kernel
theorem d_X10_guesses_29 : decode m_X10_guesses.2.1 29 = .ok (.goto (-22), 3) := by decide +kernel
theorem d_X10_guesses_32 : decode m_X10_guesses.2.1 32 = .ok (.aload_n 0, 1) := by decide +kernel
theorem d_X10_guesses_33 : decode m_X10_guesses.2.1 33 = .ok (.iconst 0, 1) := by decide +kernel
theorem d_X10_guesses_34 : decode m_X10_guesses.2.1 34 = .ok (.putfield 200, 3) := by decide +kernel
theorem d_X10_guesses_37 : decode m_X10_guesses.2.1 37 = .ok (.iconst 0, 1) := by decide +kernel
theorem d_X10_guesses_38 : decode m_X10_guesses.2.1 38 = .ok (.istore_n 3, 1) := by decide +kernel
theorem d_X10_guesses_39 : decode m_X10_guesses.2.1 39 = .ok (.iload_n 3, 1) := by decide +kernel
theorem d_X10_guesses_40 : decode m_X10_guesses.2.1 40 = .ok (.iconst 3, 1) := by decide +kernel
theorem d_X10_guesses_41 : decode m_X10_guesses.2.1 41 = .ok (.if_icmp .ge 45, 3) := by decide +kernel
theorem d_X10_guesses_44 : decode m_X10_guesses.2.1 44 = .ok (.aload_n 0, 1) := by decide +kernel
theorem d_X10_guesses_45 : decode m_X10_guesses.2.1 45 = .ok (.getfield 56, 3) := by decide +kernel
theorem d_X10_guesses_48 : decode m_X10_guesses.2.1 48 = .ok (.iload_n 3, 1) := by decide +kernel
theorem d_X10_guesses_49 : decode m_X10_guesses.2.1 49 = .ok (.aload_n 0, 1) := by decide +kernel
theorem d_X10_guesses_50 : decode m_X10_guesses.2.1 50 = .ok (.getfield 53, 3) := by decide +kernel
theorem d_X10_guesses_53 : decode m_X10_guesses.2.1 53 = .ok (.iload_n 3, 1) := by decide +kernel
theorem d_X10_guesses_54 : decode m_X10_guesses.2.1 54 = .ok (.laload, 1) := by decide +kernel
theorem d_X10_guesses_55 : decode m_X10_guesses.2.1 55 = .ok (.aload_n 0, 1) := by decide +kernel
theorem d_X10_guesses_56 : decode m_X10_guesses.2.1 56 = .ok (.getfield 59, 3) := by decide +kernel
theorem d_X10_guesses_59 : decode m_X10_guesses.2.1 59 = .ok (.iload_n 3, 1) := by decide +kernel
theorem d_X10_guesses_60 : decode m_X10_guesses.2.1 60 = .ok (.laload, 1) := by decide +kernel
theorem d_X10_guesses_61 : decode m_X10_guesses.2.1 61 = .ok (.aload_n 0, 1) := by decide +kernel
theorem d_X10_guesses_62 : decode m_X10_guesses.2.1 62 = .ok (.getfield 62, 3) := by decide +kernel
theorem d_X10_guesses_65 : decode m_X10_guesses.2.1 65 = .ok (.iload_n 3, 1) := by decide +kernel
theorem d_X10_guesses_66 : decode m_X10_guesses.2.1 66 = .ok (.laload, 1) := by decide +kernel
theorem d_X10_guesses_67 : decode m_X10_guesses.2.1 67 = .ok (.ladd, 1) := by decide +kernel
theorem d_X10_guesses_68 : decode m_X10_guesses.2.1 68 = .ok (.iload_n 2, 1) := by decide +kernel
theorem d_X10_guesses_69 : decode m_X10_guesses.2.1 69 = .ok (.i2l, 1) := by decide +kernel
theorem d_X10_guesses_70 : decode m_X10_guesses.2.1 70 = .ok (.lmul, 1) := by decide +kernel
theorem d_X10_guesses_71 : decode m_X10_guesses.2.1 71 = .ok (.ldc2_w 198, 3) := by decide +kernel
theorem d_X10_guesses_74 : decode m_X10_guesses.2.1 74 = .ok (.ldiv, 1) := by decide +kernel
theorem d_X10_guesses_75 : decode m_X10_guesses.2.1 75 = .ok (.ladd, 1) := by decide +kernel
theorem d_X10_guesses_76 : decode m_X10_guesses.2.1 76 = .ok (.invokestatic 191, 3) := by decide +kernel
theorem d_X10_guesses_79 : decode m_X10_guesses.2.1 79 = .ok (.lastore, 1) := by decide +kernel
theorem d_X10_guesses_80 : decode m_X10_guesses.2.1 80 = .ok (.iinc 3 1, 3) := by decide +kernel
theorem d_X10_guesses_83 : decode m_X10_guesses.2.1 83 = .ok (.goto (-44), 3) := by decide +kernel
theorem d_X10_guesses_86 : decode m_X10_guesses.2.1 86 = .ok (.return_, 1) := by decide +kernel
theorem d_X10_stepBy_0 : decode m_X10_stepBy.2.1 0 = .ok (.aload_n 0, 1) := by decide +kernel
theorem d_X10_stepBy_1 : decode m_X10_stepBy.2.1 1 = .ok (.getfield 91, 3) := by decide +kernel
theorem d_X10_stepBy_4 : decode m_X10_stepBy.2.1 4 = .ok (.istore_n 2, 1) := by decide +kernel
theorem d_X10_stepBy_5 : decode m_X10_stepBy.2.1 5 = .ok (.aload_n 0, 1) := by decide +kernel
theorem d_X10_stepBy_6 : decode m_X10_stepBy.2.1 6 = .ok (.iload_n 2, 1) := by decide +kernel
theorem d_X10_stepBy_7 : decode m_X10_stepBy.2.1 7 = .ok (.putfield 204, 3) := by decide +kernel
theorem d_X10_stepBy_10 : decode m_X10_stepBy.2.1 10 = .ok (.aload_n 0, 1) := by decide +kernel
theorem d_X10_stepBy_11 : decode m_X10_stepBy.2.1 11 = .ok (.iload_n 1, 1) := by decide +kernel
theorem d_X10_stepBy_12 : decode m_X10_stepBy.2.1 12 = .ok (.putfield 207, 3) := by decide +kernel
theorem d_X10_stepBy_15 : decode m_X10_stepBy.2.1 15 = .ok (.iconst 0, 1) := by decide +kernel
theorem d_X10_stepBy_16 : decode m_X10_stepBy.2.1 16 = .ok (.istore_n 3, 1) := by decide +kernel
theorem d_X10_stepBy_17 : decode m_X10_stepBy.2.1 17 = .ok (.iload_n 3, 1) := by decide +kernel
theorem d_X10_stepBy_18 : decode m_X10_stepBy.2.1 18 = .ok (.iconst 3, 1) := by decide +kernel
theorem d_X10_stepBy_19 : decode m_X10_stepBy.2.1 19 = .ok (.if_icmp .ge 33, 3) := by decide +kernel
theorem d_X10_stepBy_22 : decode m_X10_stepBy.2.1 22 = .ok (.aload_n 0, 1) := by decide +kernel
theorem d_X10_stepBy_23 : decode m_X10_stepBy.2.1 23 = .ok (.getfield 53, 3) := by decide +kernel
theorem d_X10_stepBy_26 : decode m_X10_stepBy.2.1 26 = .ok (.iload_n 3, 1) := by decide +kernel
theorem d_X10_stepBy_27 : decode m_X10_stepBy.2.1 27 = .ok (.aload_n 0, 1) := by decide +kernel
theorem d_X10_stepBy_28 : decode m_X10_stepBy.2.1 28 = .ok (.iload_n 3, 1) := by decide +kernel
theorem d_X10_stepBy_29 : decode m_X10_stepBy.2.1 29 = .ok (.iload_n 2, 1) := by decide +kernel
theorem d_X10_stepBy_30 : decode m_X10_stepBy.2.1 30 = .ok (.invokevirtual 210, 3) := by decide +kernel
theorem d_X10_stepBy_33 : decode m_X10_stepBy.2.1 33 = .ok (.lastore, 1) := by decide +kernel
theorem d_X10_stepBy_34 : decode m_X10_stepBy.2.1 34 = .ok (.aload_n 0, 1) := by decide +kernel
theorem d_X10_stepBy_35 : decode m_X10_stepBy.2.1 35 = .ok (.getfield 59, 3) := by decide +kernel
theorem d_X10_stepBy_38 : decode m_X10_stepBy.2.1 38 = .ok (.iload_n 3, 1) := by decide +kernel
theorem d_X10_stepBy_39 : decode m_X10_stepBy.2.1 39 = .ok (.aload_n 0, 1) := by decide +kernel
theorem d_X10_stepBy_40 : decode m_X10_stepBy.2.1 40 = .ok (.iload_n 3, 1) := by decide +kernel
theorem d_X10_stepBy_41 : decode m_X10_stepBy.2.1 41 = .ok (.iload_n 2, 1) := by decide +kernel
theorem d_X10_stepBy_42 : decode m_X10_stepBy.2.1 42 = .ok (.invokevirtual 277, 3) := by decide +kernel
theorem d_X10_stepBy_45 : decode m_X10_stepBy.2.1 45 = .ok (.lastore, 1) := by decide +kernel
theorem d_X10_stepBy_46 : decode m_X10_stepBy.2.1 46 = .ok (.iinc 3 1, 3) := by decide +kernel
theorem d_X10_stepBy_49 : decode m_X10_stepBy.2.1 49 = .ok (.goto (-32), 3) := by decide +kernel
theorem d_X10_stepBy_52 : decode m_X10_stepBy.2.1 52 = .ok (.iconst 0, 1) := by decide +kernel
theorem d_X10_stepBy_53 : decode m_X10_stepBy.2.1 53 = .ok (.istore_n 3, 1) := by decide +kernel
theorem d_X10_stepBy_54 : decode m_X10_stepBy.2.1 54 = .ok (.iload_n 3, 1) := by decide +kernel
theorem d_X10_stepBy_55 : decode m_X10_stepBy.2.1 55 = .ok (.iconst 3, 1) := by decide +kernel
theorem d_X10_stepBy_56 : decode m_X10_stepBy.2.1 56 = .ok (.if_icmp .ge 38, 3) := by decide +kernel
theorem d_X10_stepBy_59 : decode m_X10_stepBy.2.1 59 = .ok (.aload_n 0, 1) := by decide +kernel
theorem d_X10_stepBy_60 : decode m_X10_stepBy.2.1 60 = .ok (.getfield 56, 3) := by decide +kernel
theorem d_X10_stepBy_63 : decode m_X10_stepBy.2.1 63 = .ok (.iload_n 3, 1) := by decide +kernel
theorem d_X10_stepBy_64 : decode m_X10_stepBy.2.1 64 = .ok (.aload_n 0, 1) := by decide +kernel
theorem d_X10_stepBy_65 : decode m_X10_stepBy.2.1 65 = .ok (.getfield 53, 3) := by decide +kernel
theorem d_X10_stepBy_68 : decode m_X10_stepBy.2.1 68 = .ok (.iload_n 3, 1) := by decide +kernel
theorem d_X10_stepBy_69 : decode m_X10_stepBy.2.1 69 = .ok (.laload, 1) := by decide +kernel
theorem d_X10_stepBy_70 : decode m_X10_stepBy.2.1 70 = .ok (.aload_n 0, 1) := by decide +kernel
theorem d_X10_stepBy_71 : decode m_X10_stepBy.2.1 71 = .ok (.getfield 59, 3) := by decide +kernel
theorem d_X10_stepBy_74 : decode m_X10_stepBy.2.1 74 = .ok (.iload_n 3, 1) := by decide +kernel
theorem d_X10_stepBy_75 : decode m_X10_stepBy.2.1 75 = .ok (.laload, 1) := by decide +kernel
theorem d_X10_stepBy_76 : decode m_X10_stepBy.2.1 76 = .ok (.iload_n 1, 1) := by decide +kernel
theorem d_X10_stepBy_77 : decode m_X10_stepBy.2.1 77 = .ok (.i2l, 1) := by decide +kernel
theorem d_X10_stepBy_78 : decode m_X10_stepBy.2.1 78 = .ok (.lmul, 1) := by decide +kernel
theorem d_X10_stepBy_79 : decode m_X10_stepBy.2.1 79 = .ok (.ldc2_w 176, 3) := by decide +kernel
theorem d_X10_stepBy_82 : decode m_X10_stepBy.2.1 82 = .ok (.ldiv, 1) := by decide +kernel
theorem d_X10_stepBy_83 : decode m_X10_stepBy.2.1 83 = .ok (.ladd, 1) := by decide +kernel
theorem d_X10_stepBy_84 : decode m_X10_stepBy.2.1 84 = .ok (.invokestatic 191, 3) := by decide +kernel
theorem d_X10_stepBy_87 : decode m_X10_stepBy.2.1 87 = .ok (.lastore, 1) := by decide +kernel
theorem d_X10_stepBy_88 : decode m_X10_stepBy.2.1 88 = .ok (.iinc 3 1, 3) := by decide +kernel
theorem d_X10_stepBy_91 : decode m_X10_stepBy.2.1 91 = .ok (.goto (-37), 3) := by decide +kernel
theorem d_X10_stepBy_94 : decode m_X10_stepBy.2.1 94 = .ok (.aload_n 0, 1) := by decide +kernel
theorem d_X10_stepBy_95 : decode m_X10_stepBy.2.1 95 = .ok (.iload_n 2, 1) := by decide +kernel
theorem d_X10_stepBy_96 : decode m_X10_stepBy.2.1 96 = .ok (.iload_n 1, 1) := by decide +kernel
theorem d_X10_stepBy_97 : decode m_X10_stepBy.2.1 97 = .ok (.invokevirtual 280, 3) := by decide +kernel
theorem d_X10_stepBy_100 : decode m_X10_stepBy.2.1 100 = .ok (.aload_n 0, 1) := by decide +kernel
theorem d_X10_stepBy_101 : decode m_X10_stepBy.2.1 101 = .ok (.iload_n 2, 1) := by decide +kernel
theorem d_X10_stepBy_102 : decode m_X10_stepBy.2.1 102 = .ok (.iload_n 1, 1) := by decide +kernel
theorem d_X10_stepBy_103 : decode m_X10_stepBy.2.1 103 = .ok (.invokevirtual 284, 3) := by decide +kernel
theorem d_X10_stepBy_106 : decode m_X10_stepBy.2.1 106 = .ok (.ifCond .eq 12, 3) := by decide +kernel
theorem d_X10_stepBy_109 : decode m_X10_stepBy.2.1 109 = .ok (.aload_n 0, 1) := by decide +kernel
theorem d_X10_stepBy_110 : decode m_X10_stepBy.2.1 110 = .ok (.getfield 7, 3) := by decide +kernel
theorem d_X10_stepBy_113 : decode m_X10_stepBy.2.1 113 = .ok (.iconst 1, 1) := by decide +kernel
theorem d_X10_stepBy_114 : decode m_X10_stepBy.2.1 114 = .ok (.iaload, 1) := by decide +kernel
theorem d_X10_stepBy_115 : decode m_X10_stepBy.2.1 115 = .ok (.goto 4, 3) := by decide +kernel
theorem d_X10_stepBy_118 : decode m_X10_stepBy.2.1 118 = .ok (.iconst 0, 1) := by decide +kernel
theorem d_X10_stepBy_119 : decode m_X10_stepBy.2.1 119 = .ok (.istore_n 3, 1) := by decide +kernel
theorem d_X10_stepBy_120 : decode m_X10_stepBy.2.1 120 = .ok (.iconst 0, 1) := by decide +kernel
theorem d_X10_stepBy_121 : decode m_X10_stepBy.2.1 121 = .ok (.istore 4, 2) := by decide +kernel
theorem d_X10_stepBy_123 : decode m_X10_stepBy.2.1 123 = .ok (.iload 4, 2) := by decide +kernel
theorem d_X10_stepBy_125 : decode m_X10_stepBy.2.1 125 = .ok (.iload_n 3, 1) := by decide +kernel
theorem d_X10_stepBy_126 : decode m_X10_stepBy.2.1 126 = .ok (.if_icmp .ge 15, 3) := by decide +kernel
theorem d_X10_stepBy_129 : decode m_X10_stepBy.2.1 129 = .ok (.aload_n 0, 1) := by decide +kernel
theorem d_X10_stepBy_130 : decode m_X10_stepBy.2.1 130 = .ok (.iload_n 2, 1) := by decide +kernel
theorem d_X10_stepBy_131 : decode m_X10_stepBy.2.1 131 = .ok (.iload_n 1, 1) := by decide +kernel
theorem d_X10_stepBy_132 : decode m_X10_stepBy.2.1 132 = .ok (.invokevirtual 280, 3) := by decide +kernel
theorem d_X10_stepBy_135 : decode m_X10_stepBy.2.1 135 = .ok (.iinc 4 1, 3) := by decide +kernel
theorem d_X10_stepBy_138 : decode m_X10_stepBy.2.1 138 = .ok (.goto (-15), 3) := by decide +kernel
theorem d_X10_stepBy_141 : decode m_X10_stepBy.2.1 141 = .ok (.aload_n 0, 1) := by decide +kernel
theorem d_X10_stepBy_142 : decode m_X10_stepBy.2.1 142 = .ok (.getfield 34, 3) := by decide +kernel
theorem d_X10_stepBy_145 : decode m_X10_stepBy.2.1 145 = .ok (.aload_n 0, 1) := by decide +kernel
theorem d_X10_stepBy_146 : decode m_X10_stepBy.2.1 146 = .ok (.getfield 178, 3) := by decide +kernel
theorem d_X10_stepBy_149 : decode m_X10_stepBy.2.1 149 = .ok (.iload_n 2, 1) := by decide +kernel
theorem d_X10_stepBy_150 : decode m_X10_stepBy.2.1 150 = .ok (.iastore, 1) := by decide +kernel
theorem d_X10_stepBy_151 : decode m_X10_stepBy.2.1 151 = .ok (.aload_n 0, 1) := by decide +kernel
theorem d_X10_stepBy_152 : decode m_X10_stepBy.2.1 152 = .ok (.getfield 37, 3) := by decide +kernel
theorem d_X10_stepBy_155 : decode m_X10_stepBy.2.1 155 = .ok (.aload_n 0, 1) := by decide +kernel
theorem d_X10_stepBy_156 : decode m_X10_stepBy.2.1 156 = .ok (.getfield 178, 3) := by decide +kernel
theorem d_X10_stepBy_159 : decode m_X10_stepBy.2.1 159 = .ok (.iload_n 1, 1) := by decide +kernel
theorem d_X10_stepBy_160 : decode m_X10_stepBy.2.1 160 = .ok (.iastore, 1) := by decide +kernel
theorem d_X10_stepBy_161 : decode m_X10_stepBy.2.1 161 = .ok (.aload_n 0, 1) := by decide +kernel
theorem d_X10_stepBy_162 : decode m_X10_stepBy.2.1 162 = .ok (.getfield 40, 3) := by decide +kernel
theorem d_X10_stepBy_165 : decode m_X10_stepBy.2.1 165 = .ok (.aload_n 0, 1) := by decide +kernel
theorem d_X10_stepBy_166 : decode m_X10_stepBy.2.1 166 = .ok (.getfield 178, 3) := by decide +kernel
theorem d_X10_stepBy_169 : decode m_X10_stepBy.2.1 169 = .ok (.iload_n 3, 1) := by decide +kernel
theorem d_X10_stepBy_170 : decode m_X10_stepBy.2.1 170 = .ok (.iastore, 1) := by decide +kernel
theorem d_X10_stepBy_171 : decode m_X10_stepBy.2.1 171 = .ok (.iconst 0, 1) := by decide +kernel
theorem d_X10_stepBy_172 : decode m_X10_stepBy.2.1 172 = .ok (.istore 4, 2) := by decide +kernel
theorem d_X10_stepBy_174 : decode m_X10_stepBy.2.1 174 = .ok (.iload 4, 2) := by decide +kernel
theorem d_X10_stepBy_176 : decode m_X10_stepBy.2.1 176 = .ok (.iconst 3, 1) := by decide +kernel
theorem d_X10_stepBy_177 : decode m_X10_stepBy.2.1 177 = .ok (.if_icmp .ge 72, 3) := by decide +kernel
theorem d_X10_stepBy_180 : decode m_X10_stepBy.2.1 180 = .ok (.aload_n 0, 1) := by decide +kernel
theorem d_X10_stepBy_181 : decode m_X10_stepBy.2.1 181 = .ok (.getfield 43, 3) := by decide +kernel
theorem d_X10_stepBy_184 : decode m_X10_stepBy.2.1 184 = .ok (.iconst 3, 1) := by decide +kernel
theorem d_X10_stepBy_185 : decode m_X10_stepBy.2.1 185 = .ok (.aload_n 0, 1) := by decide +kernel
theorem d_X10_stepBy_186 : decode m_X10_stepBy.2.1 186 = .ok (.getfield 178, 3) := by decide +kernel
theorem d_X10_stepBy_189 : decode m_X10_stepBy.2.1 189 = .ok (.imul, 1) := by decide +kernel
theorem d_X10_stepBy_190 : decode m_X10_stepBy.2.1 190 = .ok (.iload 4, 2) := by decide +kernel
theorem d_X10_stepBy_192 : decode m_X10_stepBy.2.1 192 = .ok (.iadd, 1) := by decide +kernel
theorem d_X10_stepBy_193 : decode m_X10_stepBy.2.1 193 = .ok (.aload_n 0, 1) := by decide +kernel
theorem d_X10_stepBy_194 : decode m_X10_stepBy.2.1 194 = .ok (.getfield 53, 3) := by decide +kernel
theorem d_X10_stepBy_197 : decode m_X10_stepBy.2.1 197 = .ok (.iload 4, 2) := by decide +kernel
theorem d_X10_stepBy_199 : decode m_X10_stepBy.2.1 199 = .ok (.laload, 1) := by decide +kernel
theorem d_X10_stepBy_200 : decode m_X10_stepBy.2.1 200 = .ok (.lastore, 1) := by decide +kernel
theorem d_X10_stepBy_201 : decode m_X10_stepBy.2.1 201 = .ok (.aload_n 0, 1) := by decide +kernel
theorem d_X10_stepBy_202 : decode m_X10_stepBy.2.1 202 = .ok (.getfield 47, 3) := by decide +kernel
theorem d_X10_stepBy_205 : decode m_X10_stepBy.2.1 205 = .ok (.iconst 3, 1) := by decide +kernel
theorem d_X10_stepBy_206 : decode m_X10_stepBy.2.1 206 = .ok (.aload_n 0, 1) := by decide +kernel
theorem d_X10_stepBy_207 : decode m_X10_stepBy.2.1 207 = .ok (.getfield 178, 3) := by decide +kernel
theorem d_X10_stepBy_210 : decode m_X10_stepBy.2.1 210 = .ok (.imul, 1) := by decide +kernel
theorem d_X10_stepBy_211 : decode m_X10_stepBy.2.1 211 = .ok (.iload 4, 2) := by decide +kernel
theorem d_X10_stepBy_213 : decode m_X10_stepBy.2.1 213 = .ok (.iadd, 1) := by decide +kernel
theorem d_X10_stepBy_214 : decode m_X10_stepBy.2.1 214 = .ok (.aload_n 0, 1) := by decide +kernel
theorem d_X10_stepBy_215 : decode m_X10_stepBy.2.1 215 = .ok (.getfield 59, 3) := by decide +kernel
theorem d_X10_stepBy_218 : decode m_X10_stepBy.2.1 218 = .ok (.iload 4, 2) := by decide +kernel
theorem d_X10_stepBy_220 : decode m_X10_stepBy.2.1 220 = .ok (.laload, 1) := by decide +kernel
theorem d_X10_stepBy_221 : decode m_X10_stepBy.2.1 221 = .ok (.lastore, 1) := by decide +kernel
theorem d_X10_stepBy_222 : decode m_X10_stepBy.2.1 222 = .ok (.aload_n 0, 1) := by decide +kernel
theorem d_X10_stepBy_223 : decode m_X10_stepBy.2.1 223 = .ok (.getfield 50, 3) := by decide +kernel
theorem d_X10_stepBy_226 : decode m_X10_stepBy.2.1 226 = .ok (.iconst 3, 1) := by decide +kernel
theorem d_X10_stepBy_227 : decode m_X10_stepBy.2.1 227 = .ok (.aload_n 0, 1) := by decide +kernel
theorem d_X10_stepBy_228 : decode m_X10_stepBy.2.1 228 = .ok (.getfield 178, 3) := by decide +kernel
theorem d_X10_stepBy_231 : decode m_X10_stepBy.2.1 231 = .ok (.imul, 1) := by decide +kernel
theorem d_X10_stepBy_232 : decode m_X10_stepBy.2.1 232 = .ok (.iload 4, 2) := by decide +kernel
theorem d_X10_stepBy_234 : decode m_X10_stepBy.2.1 234 = .ok (.iadd, 1) := by decide +kernel
theorem d_X10_stepBy_235 : decode m_X10_stepBy.2.1 235 = .ok (.aload_n 0, 1) := by decide +kernel
theorem d_X10_stepBy_236 : decode m_X10_stepBy.2.1 236 = .ok (.getfield 56, 3) := by decide +kernel
theorem d_X10_stepBy_239 : decode m_X10_stepBy.2.1 239 = .ok (.iload 4, 2) := by decide +kernel
theorem d_X10_stepBy_241 : decode m_X10_stepBy.2.1 241 = .ok (.laload, 1) := by decide +kernel
theorem d_X10_stepBy_242 : decode m_X10_stepBy.2.1 242 = .ok (.lastore, 1) := by decide +kernel
theorem d_X10_stepBy_243 : decode m_X10_stepBy.2.1 243 = .ok (.iinc 4 1, 3) := by decide +kernel
theorem d_X10_stepBy_246 : decode m_X10_stepBy.2.1 246 = .ok (.goto (-72), 3) := by decide +kernel
theorem d_X10_stepBy_249 : decode m_X10_stepBy.2.1 249 = .ok (.aload_n 0, 1) := by decide +kernel
theorem d_X10_stepBy_250 : decode m_X10_stepBy.2.1 250 = .ok (.dup, 1) := by decide +kernel
theorem d_X10_stepBy_251 : decode m_X10_stepBy.2.1 251 = .ok (.getfield 178, 3) := by decide +kernel
theorem d_X10_stepBy_254 : decode m_X10_stepBy.2.1 254 = .ok (.iconst 1, 1) := by decide +kernel
theorem d_X10_stepBy_255 : decode m_X10_stepBy.2.1 255 = .ok (.iadd, 1) := by decide +kernel
theorem d_X10_stepBy_256 : decode m_X10_stepBy.2.1 256 = .ok (.putfield 178, 3) := by decide +kernel
theorem d_X10_stepBy_259 : decode m_X10_stepBy.2.1 259 = .ok (.return_, 1) := by decide +kernel
theorem d_X10_solve_0 : decode m_X10_solve.2.1 0 = .ok (.iload_n 1, 1) := by decide +kernel
theorem d_X10_solve_1 : decode m_X10_solve.2.1 1 = .ok (.iconst 1, 1) := by decide +kernel
theorem d_X10_solve_2 : decode m_X10_solve.2.1 2 = .ok (.sipush 2000, 3) := by decide +kernel
theorem d_X10_solve_5 : decode m_X10_solve.2.1 5 = .ok (.invokestatic 86, 3) := by decide +kernel
theorem d_X10_solve_8 : decode m_X10_solve.2.1 8 = .ok (.ifCond .ne 6, 3) := by decide +kernel
theorem d_X10_solve_11 : decode m_X10_solve.2.1 11 = .ok (.ldc 90, 2) := by decide +kernel
theorem d_X10_solve_13 : decode m_X10_solve.2.1 13 = .ok (.ireturn, 1) := by decide +kernel
theorem d_X10_solve_14 : decode m_X10_solve.2.1 14 = .ok (.aload_n 0, 1) := by decide +kernel
theorem d_X10_solve_15 : decode m_X10_solve.2.1 15 = .ok (.getfield 91, 3) := by decide +kernel
theorem d_X10_solve_18 : decode m_X10_solve.2.1 18 = .ok (.iload_n 1, 1) := by decide +kernel
theorem d_X10_solve_19 : decode m_X10_solve.2.1 19 = .ok (.iadd, 1) := by decide +kernel
theorem d_X10_solve_20 : decode m_X10_solve.2.1 20 = .ok (.sipush 8000, 3) := by decide +kernel
theorem d_X10_solve_23 : decode m_X10_solve.2.1 23 = .ok (.if_icmp .le 6, 3) := by decide +kernel
theorem d_X10_solve_26 : decode m_X10_solve.2.1 26 = .ok (.ldc 100, 2) := by decide +kernel
theorem d_X10_solve_28 : decode m_X10_solve.2.1 28 = .ok (.ireturn, 1) := by decide +kernel
theorem d_X10_solve_29 : decode m_X10_solve.2.1 29 = .ok (.aload_n 0, 1) := by decide +kernel
theorem d_X10_solve_30 : decode m_X10_solve.2.1 30 = .ok (.invokevirtual 94, 3) := by decide +kernel
theorem d_X10_solve_33 : decode m_X10_solve.2.1 33 = .ok (.aload_n 0, 1) := by decide +kernel
theorem d_X10_solve_34 : decode m_X10_solve.2.1 34 = .ok (.getfield 91, 3) := by decide +kernel
theorem d_X10_solve_37 : decode m_X10_solve.2.1 37 = .ok (.iload_n 1, 1) := by decide +kernel
theorem d_X10_solve_38 : decode m_X10_solve.2.1 38 = .ok (.iadd, 1) := by decide +kernel
theorem d_X10_solve_39 : decode m_X10_solve.2.1 39 = .ok (.istore_n 2, 1) := by decide +kernel
theorem d_X10_solve_40 : decode m_X10_solve.2.1 40 = .ok (.aload_n 0, 1) := by decide +kernel
theorem d_X10_solve_41 : decode m_X10_solve.2.1 41 = .ok (.getfield 7, 3) := by decide +kernel
theorem d_X10_solve_44 : decode m_X10_solve.2.1 44 = .ok (.sipush 292, 3) := by decide +kernel
theorem d_X10_solve_47 : decode m_X10_solve.2.1 47 = .ok (.aload_n 0, 1) := by decide +kernel
theorem d_X10_solve_48 : decode m_X10_solve.2.1 48 = .ok (.getfield 7, 3) := by decide +kernel
theorem d_X10_solve_51 : decode m_X10_solve.2.1 51 = .ok (.sipush 291, 3) := by decide +kernel
theorem d_X10_solve_54 : decode m_X10_solve.2.1 54 = .ok (.iaload, 1) := by decide +kernel
theorem d_X10_solve_55 : decode m_X10_solve.2.1 55 = .ok (.iadd, 1) := by decide +kernel
theorem d_X10_solve_56 : decode m_X10_solve.2.1 56 = .ok (.iload_n 2, 1) := by decide +kernel
theorem d_X10_solve_57 : decode m_X10_solve.2.1 57 = .ok (.iastore, 1) := by decide +kernel
theorem d_X10_solve_58 : decode m_X10_solve.2.1 58 = .ok (.aload_n 0, 1) := by decide +kernel
theorem d_X10_solve_59 : decode m_X10_solve.2.1 59 = .ok (.getfield 7, 3) := by decide +kernel
theorem d_X10_solve_62 : decode m_X10_solve.2.1 62 = .ok (.sipush 291, 3) := by decide +kernel
theorem d_X10_solve_65 : decode m_X10_solve.2.1 65 = .ok (.dup2, 1) := by decide +kernel
theorem d_X10_solve_66 : decode m_X10_solve.2.1 66 = .ok (.iaload, 1) := by decide +kernel
theorem d_X10_solve_67 : decode m_X10_solve.2.1 67 = .ok (.iconst 1, 1) := by decide +kernel
theorem d_X10_solve_68 : decode m_X10_solve.2.1 68 = .ok (.iadd, 1) := by decide +kernel
theorem d_X10_solve_69 : decode m_X10_solve.2.1 69 = .ok (.iastore, 1) := by decide +kernel
theorem d_X10_solve_70 : decode m_X10_solve.2.1 70 = .ok (.aload_n 0, 1) := by decide +kernel
theorem d_X10_solve_71 : decode m_X10_solve.2.1 71 = .ok (.iload_n 2, 1) := by decide +kernel
theorem d_X10_solve_72 : decode m_X10_solve.2.1 72 = .ok (.invokevirtual 268, 3) := by decide +kernel
theorem d_X10_solve_75 : decode m_X10_solve.2.1 75 = .ok (.aload_n 0, 1) := by decide +kernel
theorem d_X10_solve_76 : decode m_X10_solve.2.1 76 = .ok (.getfield 91, 3) := by decide +kernel
theorem d_X10_solve_79 : decode m_X10_solve.2.1 79 = .ok (.ireturn, 1) := by decide +kernel
theorem d_X10_value_0 : decode m_X10_value.2.1 0 = .ok (.iload_n 1, 1) := by decide +kernel
theorem d_X10_value_1 : decode m_X10_value.2.1 1 = .ok (.invokestatic 136, 3) := by decide +kernel
theorem d_X10_value_4 : decode m_X10_value.2.1 4 = .ok (.ifCond .eq 16, 3) := by decide +kernel
theorem d_X10_value_7 : decode m_X10_value.2.1 7 = .ok (.iload_n 2, 1) := by decide +kernel
theorem d_X10_value_8 : decode m_X10_value.2.1 8 = .ok (.sipush (-10000), 3) := by decide +kernel
theorem d_X10_value_11 : decode m_X10_value.2.1 11 = .ok (.sipush 8000, 3) := by decide +kernel
theorem d_X10_value_14 : decode m_X10_value.2.1 14 = .ok (.invokestatic 86, 3) := by decide +kernel
theorem d_X10_value_17 : decode m_X10_value.2.1 17 = .ok (.ifCond .ne 6, 3) := by decide +kernel
theorem d_X10_value_20 : decode m_X10_value.2.1 20 = .ok (.ldc 90, 2) := by decide +kernel
theorem d_X10_value_22 : decode m_X10_value.2.1 22 = .ok (.ireturn, 1) := by decide +kernel
theorem d_X10_value_23 : decode m_X10_value.2.1 23 = .ok (.iload_n 2, 1) := by decide +kernel
theorem d_X10_value_24 : decode m_X10_value.2.1 24 = .ok (.aload_n 0, 1) := by decide +kernel
theorem d_X10_value_25 : decode m_X10_value.2.1 25 = .ok (.getfield 91, 3) := by decide +kernel
theorem d_X10_value_28 : decode m_X10_value.2.1 28 = .ok (.if_icmp .le 8, 3) := by decide +kernel
theorem d_X10_value_31 : decode m_X10_value.2.1 31 = .ok (.ldc 125, 2) := by decide +kernel
theorem d_X10_value_33 : decode m_X10_value.2.1 33 = .ok (.goto 10, 3) := by decide +kernel
theorem d_X10_value_36 : decode m_X10_value.2.1 36 = .ok (.aload_n 0, 1) := by decide +kernel
theorem d_X10_value_37 : decode m_X10_value.2.1 37 = .ok (.iload_n 1, 1) := by decide +kernel
theorem d_X10_value_38 : decode m_X10_value.2.1 38 = .ok (.iload_n 2, 1) := by decide +kernel
theorem d_X10_value_39 : decode m_X10_value.2.1 39 = .ok (.invokevirtual 210, 3) := by decide +kernel
theorem d_X10_value_42 : decode m_X10_value.2.1 42 = .ok (.l2i, 1) := by decide +kernel
theorem d_X10_value_43 : decode m_X10_value.2.1 43 = .ok (.ireturn, 1) := by decide +kernel
theorem d_X10_slope_0 : decode m_X10_slope.2.1 0 = .ok (.iload_n 1, 1) := by decide +kernel
theorem d_X10_slope_1 : decode m_X10_slope.2.1 1 = .ok (.invokestatic 136, 3) := by decide +kernel
theorem d_X10_slope_4 : decode m_X10_slope.2.1 4 = .ok (.ifCond .eq 16, 3) := by decide +kernel
theorem d_X10_slope_7 : decode m_X10_slope.2.1 7 = .ok (.iload_n 2, 1) := by decide +kernel
theorem d_X10_slope_8 : decode m_X10_slope.2.1 8 = .ok (.sipush (-10000), 3) := by decide +kernel
theorem d_X10_slope_11 : decode m_X10_slope.2.1 11 = .ok (.sipush 8000, 3) := by decide +kernel
theorem d_X10_slope_14 : decode m_X10_slope.2.1 14 = .ok (.invokestatic 86, 3) := by decide +kernel
theorem d_X10_slope_17 : decode m_X10_slope.2.1 17 = .ok (.ifCond .ne 6, 3) := by decide +kernel
theorem d_X10_slope_20 : decode m_X10_slope.2.1 20 = .ok (.ldc 90, 2) := by decide +kernel
theorem d_X10_slope_22 : decode m_X10_slope.2.1 22 = .ok (.ireturn, 1) := by decide +kernel
theorem d_X10_slope_23 : decode m_X10_slope.2.1 23 = .ok (.iload_n 2, 1) := by decide +kernel
theorem d_X10_slope_24 : decode m_X10_slope.2.1 24 = .ok (.aload_n 0, 1) := by decide +kernel
theorem d_X10_slope_25 : decode m_X10_slope.2.1 25 = .ok (.getfield 91, 3) := by decide +kernel
theorem d_X10_slope_28 : decode m_X10_slope.2.1 28 = .ok (.if_icmp .le 8, 3) := by decide +kernel
theorem d_X10_slope_31 : decode m_X10_slope.2.1 31 = .ok (.ldc 125, 2) := by decide +kernel
theorem d_X10_slope_33 : decode m_X10_slope.2.1 33 = .ok (.goto 10, 3) := by decide +kernel
theorem d_X10_slope_36 : decode m_X10_slope.2.1 36 = .ok (.aload_n 0, 1) := by decide +kernel
theorem d_X10_slope_37 : decode m_X10_slope.2.1 37 = .ok (.iload_n 1, 1) := by decide +kernel
theorem d_X10_slope_38 : decode m_X10_slope.2.1 38 = .ok (.iload_n 2, 1) := by decide +kernel
theorem d_X10_slope_39 : decode m_X10_slope.2.1 39 = .ok (.invokevirtual 213, 3) := by decide +kernel
theorem d_X10_slope_42 : decode m_X10_slope.2.1 42 = .ok (.l2i, 1) := by decide +kernel
theorem d_X10_slope_43 : decode m_X10_slope.2.1 43 = .ok (.ireturn, 1) := by decide +kernel
theorem d_X10_rightAt_0 : decode m_X10_rightAt.2.1 0 = .ok (.iload_n 1, 1) := by decide +kernel
theorem d_X10_rightAt_1 : decode m_X10_rightAt.2.1 1 = .ok (.invokestatic 136, 3) := by decide +kernel
theorem d_X10_rightAt_4 : decode m_X10_rightAt.2.1 4 = .ok (.ifCond .eq 14, 3) := by decide +kernel
theorem d_X10_rightAt_7 : decode m_X10_rightAt.2.1 7 = .ok (.iload_n 2, 1) := by decide +kernel
theorem d_X10_rightAt_8 : decode m_X10_rightAt.2.1 8 = .ok (.iconst 0, 1) := by decide +kernel
theorem d_X10_rightAt_9 : decode m_X10_rightAt.2.1 9 = .ok (.sipush 8000, 3) := by decide +kernel
theorem d_X10_rightAt_12 : decode m_X10_rightAt.2.1 12 = .ok (.invokestatic 86, 3) := by decide +kernel
theorem d_X10_rightAt_15 : decode m_X10_rightAt.2.1 15 = .ok (.ifCond .ne 6, 3) := by decide +kernel
theorem d_X10_rightAt_18 : decode m_X10_rightAt.2.1 18 = .ok (.ldc 90, 2) := by decide +kernel
theorem d_X10_rightAt_20 : decode m_X10_rightAt.2.1 20 = .ok (.ireturn, 1) := by decide +kernel
theorem d_X10_rightAt_21 : decode m_X10_rightAt.2.1 21 = .ok (.iload_n 2, 1) := by decide +kernel
theorem d_X10_rightAt_22 : decode m_X10_rightAt.2.1 22 = .ok (.aload_n 0, 1) := by decide +kernel
theorem d_X10_rightAt_23 : decode m_X10_rightAt.2.1 23 = .ok (.getfield 91, 3) := by decide +kernel
theorem d_X10_rightAt_26 : decode m_X10_rightAt.2.1 26 = .ok (.if_icmp .le 8, 3) := by decide +kernel
theorem d_X10_rightAt_29 : decode m_X10_rightAt.2.1 29 = .ok (.ldc 125, 2) := by decide +kernel
theorem d_X10_rightAt_31 : decode m_X10_rightAt.2.1 31 = .ok (.goto 10, 3) := by decide +kernel
theorem d_X10_rightAt_34 : decode m_X10_rightAt.2.1 34 = .ok (.aload_n 0, 1) := by decide +kernel
theorem d_X10_rightAt_35 : decode m_X10_rightAt.2.1 35 = .ok (.iload_n 1, 1) := by decide +kernel
theorem d_X10_rightAt_36 : decode m_X10_rightAt.2.1 36 = .ok (.iload_n 2, 1) := by decide +kernel
theorem d_X10_rightAt_37 : decode m_X10_rightAt.2.1 37 = .ok (.invokevirtual 277, 3) := by decide +kernel
theorem d_X10_rightAt_40 : decode m_X10_rightAt.2.1 40 = .ok (.l2i, 1) := by decide +kernel
theorem d_X10_rightAt_41 : decode m_X10_rightAt.2.1 41 = .ok (.ireturn, 1) := by decide +kernel
theorem d_X10_step_0 : decode m_X10_step.2.1 0 = .ok (.iload_n 1, 1) := by decide +kernel
theorem d_X10_step_1 : decode m_X10_step.2.1 1 = .ok (.ifCond .lt 12, 3) := by decide +kernel
theorem d_X10_step_4 : decode m_X10_step.2.1 4 = .ok (.iload_n 2, 1) := by decide +kernel
theorem d_X10_step_5 : decode m_X10_step.2.1 5 = .ok (.iconst 0, 1) := by decide +kernel
theorem d_X10_step_6 : decode m_X10_step.2.1 6 = .ok (.iconst 5, 1) := by decide +kernel
theorem d_X10_step_7 : decode m_X10_step.2.1 7 = .ok (.invokestatic 86, 3) := by decide +kernel
theorem d_X10_step_10 : decode m_X10_step.2.1 10 = .ok (.ifCond .ne 6, 3) := by decide +kernel
theorem d_X10_step_13 : decode m_X10_step.2.1 13 = .ok (.ldc 90, 2) := by decide +kernel
theorem d_X10_step_15 : decode m_X10_step.2.1 15 = .ok (.ireturn, 1) := by decide +kernel
theorem d_X10_step_16 : decode m_X10_step.2.1 16 = .ok (.iload_n 1, 1) := by decide +kernel
theorem d_X10_step_17 : decode m_X10_step.2.1 17 = .ok (.aload_n 0, 1) := by decide +kernel
theorem d_X10_step_18 : decode m_X10_step.2.1 18 = .ok (.getfield 178, 3) := by decide +kernel
theorem d_X10_step_21 : decode m_X10_step.2.1 21 = .ok (.if_icmp .lt 6, 3) := by decide +kernel
theorem d_X10_step_24 : decode m_X10_step.2.1 24 = .ok (.ldc 125, 2) := by decide +kernel
theorem d_X10_step_26 : decode m_X10_step.2.1 26 = .ok (.ireturn, 1) := by decide +kernel
theorem d_X10_step_27 : decode m_X10_step.2.1 27 = .ok (.iload_n 2, 1) := by decide +kernel
theorem d_X10_step_28 : decode m_X10_step.2.1 28 = .ok (.ifCond .ne 12, 3) := by decide +kernel
theorem d_X10_step_31 : decode m_X10_step.2.1 31 = .ok (.aload_n 0, 1) := by decide +kernel
theorem d_X10_step_32 : decode m_X10_step.2.1 32 = .ok (.getfield 34, 3) := by decide +kernel
theorem d_X10_step_35 : decode m_X10_step.2.1 35 = .ok (.iload_n 1, 1) := by decide +kernel
theorem d_X10_step_36 : decode m_X10_step.2.1 36 = .ok (.iaload, 1) := by decide +kernel
theorem d_X10_step_37 : decode m_X10_step.2.1 37 = .ok (.goto 44, 3) := by decide +kernel
theorem d_X10_step_40 : decode m_X10_step.2.1 40 = .ok (.iload_n 2, 1) := by decide +kernel
theorem d_X10_step_41 : decode m_X10_step.2.1 41 = .ok (.iconst 1, 1) := by decide +kernel
theorem d_X10_step_42 : decode m_X10_step.2.1 42 = .ok (.if_icmp .ne 12, 3) := by decide +kernel
theorem d_X10_step_45 : decode m_X10_step.2.1 45 = .ok (.aload_n 0, 1) := by decide +kernel
theorem d_X10_step_46 : decode m_X10_step.2.1 46 = .ok (.getfield 37, 3) := by decide +kernel
theorem d_X10_step_49 : decode m_X10_step.2.1 49 = .ok (.iload_n 1, 1) := by decide +kernel
theorem d_X10_step_50 : decode m_X10_step.2.1 50 = .ok (.iaload, 1) := by decide +kernel
theorem d_X10_step_51 : decode m_X10_step.2.1 51 = .ok (.goto 30, 3) := by decide +kernel
theorem d_X10_step_54 : decode m_X10_step.2.1 54 = .ok (.iload_n 2, 1) := by decide +kernel
theorem d_X10_step_55 : decode m_X10_step.2.1 55 = .ok (.iconst 5, 1) := by decide +kernel
theorem d_X10_step_56 : decode m_X10_step.2.1 56 = .ok (.if_icmp .ne 12, 3) := by decide +kernel
theorem d_X10_step_59 : decode m_X10_step.2.1 59 = .ok (.aload_n 0, 1) := by decide +kernel
theorem d_X10_step_60 : decode m_X10_step.2.1 60 = .ok (.getfield 40, 3) := by decide +kernel
theorem d_X10_step_63 : decode m_X10_step.2.1 63 = .ok (.iload_n 1, 1) := by decide +kernel
theorem d_X10_step_64 : decode m_X10_step.2.1 64 = .ok (.iaload, 1) := by decide +kernel
theorem d_X10_step_65 : decode m_X10_step.2.1 65 = .ok (.goto 16, 3) := by decide +kernel
theorem d_X10_step_68 : decode m_X10_step.2.1 68 = .ok (.aload_n 0, 1) := by decide +kernel
theorem d_X10_step_69 : decode m_X10_step.2.1 69 = .ok (.getfield 47, 3) := by decide +kernel
theorem d_X10_step_72 : decode m_X10_step.2.1 72 = .ok (.iconst 3, 1) := by decide +kernel
theorem d_X10_step_73 : decode m_X10_step.2.1 73 = .ok (.iload_n 1, 1) := by decide +kernel
theorem d_X10_step_74 : decode m_X10_step.2.1 74 = .ok (.imul, 1) := by decide +kernel
theorem d_X10_step_75 : decode m_X10_step.2.1 75 = .ok (.iload_n 2, 1) := by decide +kernel
theorem d_X10_step_76 : decode m_X10_step.2.1 76 = .ok (.iadd, 1) := by decide +kernel
theorem d_X10_step_77 : decode m_X10_step.2.1 77 = .ok (.iconst 2, 1) := by decide +kernel
theorem d_X10_step_78 : decode m_X10_step.2.1 78 = .ok (.isub, 1) := by decide +kernel
theorem d_X10_step_79 : decode m_X10_step.2.1 79 = .ok (.laload, 1) := by decide +kernel
theorem d_X10_step_80 : decode m_X10_step.2.1 80 = .ok (.l2i, 1) := by decide +kernel
theorem d_X10_step_81 : decode m_X10_step.2.1 81 = .ok (.ireturn, 1) := by decide +kernel
theorem d_X10_crossing_0 : decode m_X10_crossing.2.1 0 = .ok (.iload_n 1, 1) := by decide +kernel
theorem d_X10_crossing_1 : decode m_X10_crossing.2.1 1 = .ok (.invokestatic 136, 3) := by decide +kernel
theorem d_X10_crossing_4 : decode m_X10_crossing.2.1 4 = .ok (.ifCond .eq 27, 3) := by decide +kernel
theorem d_X10_crossing_7 : decode m_X10_crossing.2.1 7 = .ok (.iload_n 2, 1) := by decide +kernel
theorem d_X10_crossing_8 : decode m_X10_crossing.2.1 8 = .ok (.ldc_w 288, 3) := by decide +kernel
theorem d_X10_crossing_11 : decode m_X10_crossing.2.1 11 = .ok (.ldc_w 289, 3) := by decide +kernel
theorem d_X10_crossing_14 : decode m_X10_crossing.2.1 14 = .ok (.invokestatic 86, 3) := by decide +kernel
theorem d_X10_crossing_17 : decode m_X10_crossing.2.1 17 = .ok (.ifCond .eq 14, 3) := by decide +kernel
theorem d_X10_crossing_20 : decode m_X10_crossing.2.1 20 = .ok (.iload_n 3, 1) := by decide +kernel
theorem d_X10_crossing_21 : decode m_X10_crossing.2.1 21 = .ok (.iconst 1, 1) := by decide +kernel
theorem d_X10_crossing_22 : decode m_X10_crossing.2.1 22 = .ok (.sipush 8000, 3) := by decide +kernel
theorem d_X10_crossing_25 : decode m_X10_crossing.2.1 25 = .ok (.invokestatic 86, 3) := by decide +kernel
theorem d_X10_crossing_28 : decode m_X10_crossing.2.1 28 = .ok (.ifCond .ne 6, 3) := by decide +kernel
theorem d_X10_crossing_31 : decode m_X10_crossing.2.1 31 = .ok (.ldc 90, 2) := by decide +kernel
theorem d_X10_crossing_33 : decode m_X10_crossing.2.1 33 = .ok (.ireturn, 1) := by decide +kernel
theorem d_X10_crossing_34 : decode m_X10_crossing.2.1 34 = .ok (.iload_n 3, 1) := by decide +kernel
theorem d_X10_crossing_35 : decode m_X10_crossing.2.1 35 = .ok (.istore 4, 2) := by decide +kernel
theorem d_X10_crossing_37 : decode m_X10_crossing.2.1 37 = .ok (.iload 4, 2) := by decide +kernel
theorem d_X10_crossing_39 : decode m_X10_crossing.2.1 39 = .ok (.aload_n 0, 1) := by decide +kernel
theorem d_X10_crossing_40 : decode m_X10_crossing.2.1 40 = .ok (.getfield 91, 3) := by decide +kernel
theorem d_X10_crossing_43 : decode m_X10_crossing.2.1 43 = .ok (.if_icmp .gt 40, 3) := by decide +kernel
theorem d_X10_crossing_46 : decode m_X10_crossing.2.1 46 = .ok (.aload_n 0, 1) := by decide +kernel
theorem d_X10_crossing_47 : decode m_X10_crossing.2.1 47 = .ok (.iload_n 1, 1) := by decide +kernel
theorem d_X10_crossing_48 : decode m_X10_crossing.2.1 48 = .ok (.iload 4, 2) := by decide +kernel
theorem d_X10_crossing_50 : decode m_X10_crossing.2.1 50 = .ok (.invokevirtual 210, 3) := by decide +kernel
theorem d_X10_crossing_53 : decode m_X10_crossing.2.1 53 = .ok (.iload_n 2, 1) := by decide +kernel
theorem d_X10_crossing_54 : decode m_X10_crossing.2.1 54 = .ok (.i2l, 1) := by decide +kernel
theorem d_X10_crossing_55 : decode m_X10_crossing.2.1 55 = .ok (.lcmp, 1) := by decide +kernel
theorem d_X10_crossing_56 : decode m_X10_crossing.2.1 56 = .ok (.ifCond .lt 21, 3) := by decide +kernel
theorem d_X10_crossing_59 : decode m_X10_crossing.2.1 59 = .ok (.aload_n 0, 1) := by decide +kernel
theorem d_X10_crossing_60 : decode m_X10_crossing.2.1 60 = .ok (.iload_n 1, 1) := by decide +kernel
theorem d_X10_crossing_61 : decode m_X10_crossing.2.1 61 = .ok (.iload 4, 2) := by decide +kernel
theorem d_X10_crossing_63 : decode m_X10_crossing.2.1 63 = .ok (.iconst 1, 1) := by decide +kernel
theorem d_X10_crossing_64 : decode m_X10_crossing.2.1 64 = .ok (.isub, 1) := by decide +kernel
theorem d_X10_crossing_65 : decode m_X10_crossing.2.1 65 = .ok (.invokevirtual 210, 3) := by decide +kernel
theorem d_X10_crossing_68 : decode m_X10_crossing.2.1 68 = .ok (.iload_n 2, 1) := by decide +kernel
theorem d_X10_crossing_69 : decode m_X10_crossing.2.1 69 = .ok (.i2l, 1) := by decide +kernel
theorem d_X10_crossing_70 : decode m_X10_crossing.2.1 70 = .ok (.lcmp, 1) := by decide +kernel
theorem d_X10_crossing_71 : decode m_X10_crossing.2.1 71 = .ok (.ifCond .ge 6, 3) := by decide +kernel
theorem d_X10_crossing_74 : decode m_X10_crossing.2.1 74 = .ok (.iload 4, 2) := by decide +kernel
theorem d_X10_crossing_76 : decode m_X10_crossing.2.1 76 = .ok (.ireturn, 1) := by decide +kernel
theorem d_X10_crossing_77 : decode m_X10_crossing.2.1 77 = .ok (.iinc 4 1, 3) := by decide +kernel
theorem d_X10_crossing_80 : decode m_X10_crossing.2.1 80 = .ok (.goto (-43), 3) := by decide +kernel
theorem d_X10_crossing_83 : decode m_X10_crossing.2.1 83 = .ok (.ldc 125, 2) := by decide +kernel
theorem d_X10_crossing_85 : decode m_X10_crossing.2.1 85 = .ok (.ireturn, 1) := by decide +kernel
theorem d_X10_greatest_0 : decode m_X10_greatest.2.1 0 = .ok (.iload_n 1, 1) := by decide +kernel
theorem d_X10_greatest_1 : decode m_X10_greatest.2.1 1 = .ok (.invokestatic 136, 3) := by decide +kernel
theorem d_X10_greatest_4 : decode m_X10_greatest.2.1 4 = .ok (.ifCond .eq 35, 3) := by decide +kernel
theorem d_X10_greatest_7 : decode m_X10_greatest.2.1 7 = .ok (.iload_n 2, 1) := by decide +kernel
theorem d_X10_greatest_8 : decode m_X10_greatest.2.1 8 = .ok (.iconst 0, 1) := by decide +kernel
theorem d_X10_greatest_9 : decode m_X10_greatest.2.1 9 = .ok (.sipush 8000, 3) := by decide +kernel
theorem d_X10_greatest_12 : decode m_X10_greatest.2.1 12 = .ok (.invokestatic 86, 3) := by decide +kernel
theorem d_X10_greatest_15 : decode m_X10_greatest.2.1 15 = .ok (.ifCond .eq 24, 3) := by decide +kernel
theorem d_X10_greatest_18 : decode m_X10_greatest.2.1 18 = .ok (.iload_n 3, 1) := by decide +kernel
theorem d_X10_greatest_19 : decode m_X10_greatest.2.1 19 = .ok (.iload_n 2, 1) := by decide +kernel
theorem d_X10_greatest_20 : decode m_X10_greatest.2.1 20 = .ok (.sipush 8000, 3) := by decide +kernel
theorem d_X10_greatest_23 : decode m_X10_greatest.2.1 23 = .ok (.invokestatic 86, 3) := by decide +kernel
theorem d_X10_greatest_26 : decode m_X10_greatest.2.1 26 = .ok (.ifCond .eq 13, 3) := by decide +kernel
theorem d_X10_greatest_29 : decode m_X10_greatest.2.1 29 = .ok (.iload 4, 2) := by decide +kernel
theorem d_X10_greatest_31 : decode m_X10_greatest.2.1 31 = .ok (.iconst 0, 1) := by decide +kernel
theorem d_X10_greatest_32 : decode m_X10_greatest.2.1 32 = .ok (.iconst 1, 1) := by decide +kernel
theorem d_X10_greatest_33 : decode m_X10_greatest.2.1 33 = .ok (.invokestatic 86, 3) := by decide +kernel
theorem d_X10_greatest_36 : decode m_X10_greatest.2.1 36 = .ok (.ifCond .ne 6, 3) := by decide +kernel
theorem d_X10_greatest_39 : decode m_X10_greatest.2.1 39 = .ok (.ldc 90, 2) := by decide +kernel
theorem d_X10_greatest_41 : decode m_X10_greatest.2.1 41 = .ok (.ireturn, 1) := by decide +kernel
theorem d_X10_greatest_42 : decode m_X10_greatest.2.1 42 = .ok (.iload_n 3, 1) := by decide +kernel
theorem d_X10_greatest_43 : decode m_X10_greatest.2.1 43 = .ok (.aload_n 0, 1) := by decide +kernel
theorem d_X10_greatest_44 : decode m_X10_greatest.2.1 44 = .ok (.getfield 91, 3) := by decide +kernel
theorem d_X10_greatest_47 : decode m_X10_greatest.2.1 47 = .ok (.if_icmp .le 6, 3) := by decide +kernel
theorem d_X10_greatest_50 : decode m_X10_greatest.2.1 50 = .ok (.ldc 125, 2) := by decide +kernel
theorem d_X10_greatest_52 : decode m_X10_greatest.2.1 52 = .ok (.ireturn, 1) := by decide +kernel
theorem d_X10_greatest_53 : decode m_X10_greatest.2.1 53 = .ok (.iload_n 2, 1) := by decide +kernel
theorem d_X10_greatest_54 : decode m_X10_greatest.2.1 54 = .ok (.istore 5, 2) := by decide +kernel
theorem d_X10_greatest_56 : decode m_X10_greatest.2.1 56 = .ok (.iload_n 2, 1) := by decide +kernel
theorem d_X10_greatest_57 : decode m_X10_greatest.2.1 57 = .ok (.iconst 1, 1) := by decide +kernel
theorem d_X10_greatest_58 : decode m_X10_greatest.2.1 58 = .ok (.iadd, 1) := by decide +kernel
theorem d_X10_greatest_59 : decode m_X10_greatest.2.1 59 = .ok (.istore 6, 2) := by decide +kernel
theorem d_X10_greatest_61 : decode m_X10_greatest.2.1 61 = .ok (.iload 6, 2) := by decide +kernel
theorem d_X10_greatest_63 : decode m_X10_greatest.2.1 63 = .ok (.iload_n 3, 1) := by decide +kernel
theorem d_X10_greatest_64 : decode m_X10_greatest.2.1 64 = .ok (.if_icmp .gt 36, 3) := by decide +kernel
theorem d_X10_greatest_67 : decode m_X10_greatest.2.1 67 = .ok (.aload_n 0, 1) := by decide +kernel
theorem d_X10_greatest_68 : decode m_X10_greatest.2.1 68 = .ok (.iload_n 1, 1) := by decide +kernel
theorem d_X10_greatest_69 : decode m_X10_greatest.2.1 69 = .ok (.iload 6, 2) := by decide +kernel
theorem d_X10_greatest_71 : decode m_X10_greatest.2.1 71 = .ok (.invokevirtual 210, 3) := by decide +kernel
theorem d_X10_greatest_74 : decode m_X10_greatest.2.1 74 = .ok (.aload_n 0, 1) := by decide +kernel
theorem d_X10_greatest_75 : decode m_X10_greatest.2.1 75 = .ok (.iload_n 1, 1) := by decide +kernel
theorem d_X10_greatest_76 : decode m_X10_greatest.2.1 76 = .ok (.iload 5, 2) := by decide +kernel
theorem d_X10_greatest_78 : decode m_X10_greatest.2.1 78 = .ok (.invokevirtual 210, 3) := by decide +kernel
theorem d_X10_greatest_81 : decode m_X10_greatest.2.1 81 = .ok (.lcmp, 1) := by decide +kernel
theorem d_X10_greatest_82 : decode m_X10_greatest.2.1 82 = .ok (.ifCond .le 8, 3) := by decide +kernel
theorem d_X10_greatest_85 : decode m_X10_greatest.2.1 85 = .ok (.iload 6, 2) := by decide +kernel
theorem d_X10_greatest_87 : decode m_X10_greatest.2.1 87 = .ok (.goto 5, 3) := by decide +kernel
theorem d_X10_greatest_90 : decode m_X10_greatest.2.1 90 = .ok (.iload 5, 2) := by decide +kernel
theorem d_X10_greatest_92 : decode m_X10_greatest.2.1 92 = .ok (.istore 5, 2) := by decide +kernel
theorem d_X10_greatest_94 : decode m_X10_greatest.2.1 94 = .ok (.iinc 6 1, 3) := by decide +kernel
theorem d_X10_greatest_97 : decode m_X10_greatest.2.1 97 = .ok (.goto (-36), 3) := by decide +kernel
theorem d_X10_greatest_100 : decode m_X10_greatest.2.1 100 = .ok (.iload 4, 2) := by decide +kernel
theorem d_X10_greatest_102 : decode m_X10_greatest.2.1 102 = .ok (.ifCond .ne 14, 3) := by decide +kernel
theorem d_X10_greatest_105 : decode m_X10_greatest.2.1 105 = .ok (.aload_n 0, 1) := by decide +kernel
theorem d_X10_greatest_106 : decode m_X10_greatest.2.1 106 = .ok (.iload_n 1, 1) := by decide +kernel
theorem d_X10_greatest_107 : decode m_X10_greatest.2.1 107 = .ok (.iload 5, 2) := by decide +kernel
theorem d_X10_greatest_109 : decode m_X10_greatest.2.1 109 = .ok (.invokevirtual 210, 3) := by decide +kernel
theorem d_X10_greatest_112 : decode m_X10_greatest.2.1 112 = .ok (.l2i, 1) := by decide +kernel
theorem d_X10_greatest_113 : decode m_X10_greatest.2.1 113 = .ok (.goto 5, 3) := by decide +kernel
theorem d_X10_greatest_116 : decode m_X10_greatest.2.1 116 = .ok (.iload 5, 2) := by decide +kernel
theorem d_X10_greatest_118 : decode m_X10_greatest.2.1 118 = .ok (.ireturn, 1) := by decide +kernel
theorem d_X10_differs_0 : decode m_X10_differs.2.1 0 = .ok (.iload_n 1, 1) := by decide +kernel
theorem d_X10_differs_1 : decode m_X10_differs.2.1 1 = .ok (.bipush 20, 2) := by decide +kernel
theorem d_X10_differs_3 : decode m_X10_differs.2.1 3 = .ok (.sipush 500, 3) := by decide +kernel
theorem d_X10_differs_6 : decode m_X10_differs.2.1 6 = .ok (.invokestatic 86, 3) := by decide +kernel
theorem d_X10_differs_9 : decode m_X10_differs.2.1 9 = .ok (.ifCond .ne 6, 3) := by decide +kernel
theorem d_X10_differs_12 : decode m_X10_differs.2.1 12 = .ok (.ldc 90, 2) := by decide +kernel
theorem d_X10_differs_14 : decode m_X10_differs.2.1 14 = .ok (.ireturn, 1) := by decide +kernel
theorem d_X10_differs_15 : decode m_X10_differs.2.1 15 = .ok (.aload_n 0, 1) := by decide +kernel
theorem d_X10_differs_16 : decode m_X10_differs.2.1 16 = .ok (.getfield 91, 3) := by decide +kernel
theorem d_X10_differs_19 : decode m_X10_differs.2.1 19 = .ok (.istore_n 2, 1) := by decide +kernel
theorem d_X10_differs_20 : decode m_X10_differs.2.1 20 = .ok (.aload_n 0, 1) := by decide +kernel
theorem d_X10_differs_21 : decode m_X10_differs.2.1 21 = .ok (.getfield 7, 3) := by decide +kernel
theorem d_X10_differs_24 : decode m_X10_differs.2.1 24 = .ok (.iconst 0, 1) := by decide +kernel
theorem d_X10_differs_25 : decode m_X10_differs.2.1 25 = .ok (.iaload, 1) := by decide +kernel
theorem d_X10_differs_26 : decode m_X10_differs.2.1 26 = .ok (.istore_n 3, 1) := by decide +kernel
theorem d_X10_differs_27 : decode m_X10_differs.2.1 27 = .ok (.iconst 0, 1) := by decide +kernel
theorem d_X10_differs_28 : decode m_X10_differs.2.1 28 = .ok (.istore 4, 2) := by decide +kernel
theorem d_X10_differs_30 : decode m_X10_differs.2.1 30 = .ok (.iload 4, 2) := by decide +kernel
theorem d_X10_differs_32 : decode m_X10_differs.2.1 32 = .ok (.iconst 3, 1) := by decide +kernel
theorem d_X10_differs_33 : decode m_X10_differs.2.1 33 = .ok (.if_icmp .ge 23, 3) := by decide +kernel
theorem d_X10_differs_36 : decode m_X10_differs.2.1 36 = .ok (.aload_n 0, 1) := by decide +kernel
theorem d_X10_differs_37 : decode m_X10_differs.2.1 37 = .ok (.getfield 65, 3) := by decide +kernel
theorem d_X10_differs_40 : decode m_X10_differs.2.1 40 = .ok (.iload 4, 2) := by decide +kernel
theorem d_X10_differs_42 : decode m_X10_differs.2.1 42 = .ok (.aload_n 0, 1) := by decide +kernel
theorem d_X10_differs_43 : decode m_X10_differs.2.1 43 = .ok (.iload 4, 2) := by decide +kernel
theorem d_X10_differs_45 : decode m_X10_differs.2.1 45 = .ok (.iload_n 2, 1) := by decide +kernel
theorem d_X10_differs_46 : decode m_X10_differs.2.1 46 = .ok (.invokevirtual 210, 3) := by decide +kernel
theorem d_X10_differs_49 : decode m_X10_differs.2.1 49 = .ok (.lastore, 1) := by decide +kernel
theorem d_X10_differs_50 : decode m_X10_differs.2.1 50 = .ok (.iinc 4 1, 3) := by decide +kernel
theorem d_X10_differs_53 : decode m_X10_differs.2.1 53 = .ok (.goto (-23), 3) := by decide +kernel
theorem d_X10_differs_56 : decode m_X10_differs.2.1 56 = .ok (.aload_n 0, 1) := by decide +kernel
theorem d_X10_differs_57 : decode m_X10_differs.2.1 57 = .ok (.getfield 7, 3) := by decide +kernel
theorem d_X10_differs_60 : decode m_X10_differs.2.1 60 = .ok (.iconst 0, 1) := by decide +kernel
theorem d_X10_differs_61 : decode m_X10_differs.2.1 61 = .ok (.iload_n 1, 1) := by decide +kernel
theorem d_X10_differs_62 : decode m_X10_differs.2.1 62 = .ok (.iastore, 1) := by decide +kernel
theorem d_X10_differs_63 : decode m_X10_differs.2.1 63 = .ok (.aload_n 0, 1) := by decide +kernel
theorem d_X10_differs_64 : decode m_X10_differs.2.1 64 = .ok (.iconst 0, 1) := by decide +kernel
theorem d_X10_differs_65 : decode m_X10_differs.2.1 65 = .ok (.putfield 178, 3) := by decide +kernel
theorem d_X10_differs_68 : decode m_X10_differs.2.1 68 = .ok (.aload_n 0, 1) := by decide +kernel
theorem d_X10_differs_69 : decode m_X10_differs.2.1 69 = .ok (.iconst 0, 1) := by decide +kernel
theorem d_X10_differs_70 : decode m_X10_differs.2.1 70 = .ok (.putfield 91, 3) := by decide +kernel
theorem d_X10_differs_73 : decode m_X10_differs.2.1 73 = .ok (.aload_n 0, 1) := by decide +kernel
theorem d_X10_differs_74 : decode m_X10_differs.2.1 74 = .ok (.iload_n 2, 1) := by decide +kernel
theorem d_X10_differs_75 : decode m_X10_differs.2.1 75 = .ok (.invokevirtual 268, 3) := by decide +kernel
theorem d_X10_differs_78 : decode m_X10_differs.2.1 78 = .ok (.lconst 0, 1) := by decide +kernel
theorem d_X10_differs_79 : decode m_X10_differs.2.1 79 = .ok (.lstore 4, 2) := by decide +kernel
theorem d_X10_differs_81 : decode m_X10_differs.2.1 81 = .ok (.iconst 0, 1) := by decide +kernel
theorem d_X10_differs_82 : decode m_X10_differs.2.1 82 = .ok (.istore 6, 2) := by decide +kernel
theorem d_X10_differs_84 : decode m_X10_differs.2.1 84 = .ok (.iload 6, 2) := by decide +kernel
theorem d_X10_differs_86 : decode m_X10_differs.2.1 86 = .ok (.iconst 3, 1) := by decide +kernel
theorem d_X10_differs_87 : decode m_X10_differs.2.1 87 = .ok (.if_icmp .ge 60, 3) := by decide +kernel
theorem d_X10_differs_90 : decode m_X10_differs.2.1 90 = .ok (.aload_n 0, 1) := by decide +kernel
theorem d_X10_differs_91 : decode m_X10_differs.2.1 91 = .ok (.iload 6, 2) := by decide +kernel
theorem d_X10_differs_93 : decode m_X10_differs.2.1 93 = .ok (.iload_n 2, 1) := by decide +kernel
theorem d_X10_differs_94 : decode m_X10_differs.2.1 94 = .ok (.invokevirtual 210, 3) := by decide +kernel
theorem d_X10_differs_97 : decode m_X10_differs.2.1 97 = .ok (.aload_n 0, 1) := by decide +kernel
theorem d_X10_differs_98 : decode m_X10_differs.2.1 98 = .ok (.getfield 65, 3) := by decide +kernel
theorem d_X10_differs_101 : decode m_X10_differs.2.1 101 = .ok (.iload 6, 2) := by decide +kernel
theorem d_X10_differs_103 : decode m_X10_differs.2.1 103 = .ok (.laload, 1) := by decide +kernel
theorem d_X10_differs_104 : decode m_X10_differs.2.1 104 = .ok (.lsub, 1) := by decide +kernel
theorem d_X10_differs_105 : decode m_X10_differs.2.1 105 = .ok (.lstore 7, 2) := by decide +kernel
theorem d_X10_differs_107 : decode m_X10_differs.2.1 107 = .ok (.lload 7, 2) := by decide +kernel
theorem d_X10_differs_109 : decode m_X10_differs.2.1 109 = .ok (.lconst 0, 1) := by decide +kernel
theorem d_X10_differs_110 : decode m_X10_differs.2.1 110 = .ok (.lcmp, 1) := by decide +kernel
theorem d_X10_differs_111 : decode m_X10_differs.2.1 111 = .ok (.ifCond .ge 9, 3) := by decide +kernel
theorem d_X10_differs_114 : decode m_X10_differs.2.1 114 = .ok (.lload 7, 2) := by decide +kernel
theorem d_X10_differs_116 : decode m_X10_differs.2.1 116 = .ok (.lneg, 1) := by decide +kernel
theorem d_X10_differs_117 : decode m_X10_differs.2.1 117 = .ok (.goto 5, 3) := by decide +kernel
theorem d_X10_differs_120 : decode m_X10_differs.2.1 120 = .ok (.lload 7, 2) := by decide +kernel
theorem d_X10_differs_122 : decode m_X10_differs.2.1 122 = .ok (.lstore 7, 2) := by decide +kernel
theorem d_X10_differs_124 : decode m_X10_differs.2.1 124 = .ok (.lload 7, 2) := by decide +kernel
theorem d_X10_differs_126 : decode m_X10_differs.2.1 126 = .ok (.lload 4, 2) := by decide +kernel
theorem d_X10_differs_128 : decode m_X10_differs.2.1 128 = .ok (.lcmp, 1) := by decide +kernel
theorem d_X10_differs_129 : decode m_X10_differs.2.1 129 = .ok (.ifCond .le 8, 3) := by decide +kernel
theorem d_X10_differs_132 : decode m_X10_differs.2.1 132 = .ok (.lload 7, 2) := by decide +kernel
theorem d_X10_differs_134 : decode m_X10_differs.2.1 134 = .ok (.goto 5, 3) := by decide +kernel
theorem d_X10_differs_137 : decode m_X10_differs.2.1 137 = .ok (.lload 4, 2) := by decide +kernel
theorem d_X10_differs_139 : decode m_X10_differs.2.1 139 = .ok (.lstore 4, 2) := by decide +kernel
theorem d_X10_differs_141 : decode m_X10_differs.2.1 141 = .ok (.iinc 6 1, 3) := by decide +kernel
theorem d_X10_differs_144 : decode m_X10_differs.2.1 144 = .ok (.goto (-60), 3) := by decide +kernel
theorem d_X10_differs_147 : decode m_X10_differs.2.1 147 = .ok (.aload_n 0, 1) := by decide +kernel
theorem d_X10_differs_148 : decode m_X10_differs.2.1 148 = .ok (.getfield 7, 3) := by decide +kernel
theorem d_X10_differs_151 : decode m_X10_differs.2.1 151 = .ok (.iconst 0, 1) := by decide +kernel
theorem d_X10_differs_152 : decode m_X10_differs.2.1 152 = .ok (.iload_n 3, 1) := by decide +kernel
theorem d_X10_differs_153 : decode m_X10_differs.2.1 153 = .ok (.iastore, 1) := by decide +kernel
theorem d_X10_differs_154 : decode m_X10_differs.2.1 154 = .ok (.aload_n 0, 1) := by decide +kernel
theorem d_X10_differs_155 : decode m_X10_differs.2.1 155 = .ok (.invokevirtual 74, 3) := by decide +kernel
theorem d_X10_differs_158 : decode m_X10_differs.2.1 158 = .ok (.lload 4, 2) := by decide +kernel
theorem d_X10_differs_160 : decode m_X10_differs.2.1 160 = .ok (.invokestatic 191, 3) := by decide +kernel
theorem d_X10_differs_163 : decode m_X10_differs.2.1 163 = .ok (.l2i, 1) := by decide +kernel
theorem d_X10_differs_164 : decode m_X10_differs.2.1 164 = .ok (.ireturn, 1) := by decide +kernel
theorem d_X10_count_0 : decode m_X10_count.2.1 0 = .ok (.iload_n 1, 1) := by decide +kernel
theorem d_X10_count_1 : decode m_X10_count.2.1 1 = .ok (.iconst 0, 1) := by decide +kernel
theorem d_X10_count_2 : decode m_X10_count.2.1 2 = .ok (.iconst 2, 1) := by decide +kernel
theorem d_X10_count_3 : decode m_X10_count.2.1 3 = .ok (.invokestatic 86, 3) := by decide +kernel
theorem d_X10_count_6 : decode m_X10_count.2.1 6 = .ok (.ifCond .eq 10, 3) := by decide +kernel
theorem d_X10_count_9 : decode m_X10_count.2.1 9 = .ok (.aload_n 0, 1) := by decide +kernel
theorem d_X10_count_10 : decode m_X10_count.2.1 10 = .ok (.getfield 7, 3) := by decide +kernel
theorem d_X10_count_13 : decode m_X10_count.2.1 13 = .ok (.iload_n 1, 1) := by decide +kernel
theorem d_X10_count_14 : decode m_X10_count.2.1 14 = .ok (.iaload, 1) := by decide +kernel
theorem d_X10_count_15 : decode m_X10_count.2.1 15 = .ok (.ireturn, 1) := by decide +kernel
theorem d_X10_count_16 : decode m_X10_count.2.1 16 = .ok (.iload_n 1, 1) := by decide +kernel
theorem d_X10_count_17 : decode m_X10_count.2.1 17 = .ok (.bipush 8, 2) := by decide +kernel
theorem d_X10_count_19 : decode m_X10_count.2.1 19 = .ok (.bipush 10, 2) := by decide +kernel
theorem d_X10_count_21 : decode m_X10_count.2.1 21 = .ok (.invokestatic 86, 3) := by decide +kernel
theorem d_X10_count_24 : decode m_X10_count.2.1 24 = .ok (.ifCond .eq 12, 3) := by decide +kernel
theorem d_X10_count_27 : decode m_X10_count.2.1 27 = .ok (.aload_n 0, 1) := by decide +kernel
theorem d_X10_count_28 : decode m_X10_count.2.1 28 = .ok (.iload_n 1, 1) := by decide +kernel
theorem d_X10_count_29 : decode m_X10_count.2.1 29 = .ok (.bipush 8, 2) := by decide +kernel
theorem d_X10_count_31 : decode m_X10_count.2.1 31 = .ok (.isub, 1) := by decide +kernel
theorem d_X10_count_32 : decode m_X10_count.2.1 32 = .ok (.invokevirtual 144, 3) := by decide +kernel
theorem d_X10_count_35 : decode m_X10_count.2.1 35 = .ok (.ireturn, 1) := by decide +kernel
theorem d_X10_count_36 : decode m_X10_count.2.1 36 = .ok (.iload_n 1, 1) := by decide +kernel
theorem d_X10_count_37 : decode m_X10_count.2.1 37 = .ok (.bipush 11, 2) := by decide +kernel
theorem d_X10_count_39 : decode m_X10_count.2.1 39 = .ok (.bipush 13, 2) := by decide +kernel
theorem d_X10_count_41 : decode m_X10_count.2.1 41 = .ok (.invokestatic 86, 3) := by decide +kernel
theorem d_X10_count_44 : decode m_X10_count.2.1 44 = .ok (.ifCond .eq 16, 3) := by decide +kernel
theorem d_X10_count_47 : decode m_X10_count.2.1 47 = .ok (.aload_n 0, 1) := by decide +kernel
theorem d_X10_count_48 : decode m_X10_count.2.1 48 = .ok (.getfield 7, 3) := by decide +kernel
theorem d_X10_count_51 : decode m_X10_count.2.1 51 = .ok (.bipush 6, 2) := by decide +kernel
theorem d_X10_count_53 : decode m_X10_count.2.1 53 = .ok (.iload_n 1, 1) := by decide +kernel
theorem d_X10_count_54 : decode m_X10_count.2.1 54 = .ok (.iadd, 1) := by decide +kernel
theorem d_X10_count_55 : decode m_X10_count.2.1 55 = .ok (.bipush 11, 2) := by decide +kernel
theorem d_X10_count_57 : decode m_X10_count.2.1 57 = .ok (.isub, 1) := by decide +kernel
theorem d_X10_count_58 : decode m_X10_count.2.1 58 = .ok (.iaload, 1) := by decide +kernel
theorem d_X10_count_59 : decode m_X10_count.2.1 59 = .ok (.ireturn, 1) := by decide +kernel
theorem d_X10_count_60 : decode m_X10_count.2.1 60 = .ok (.iload_n 1, 1) := by decide +kernel
theorem d_X10_count_61 : decode m_X10_count.2.1 61 = .ok (.tableswitch 93 3 14 #[63, 68, 73, 78, 83, 93, 93, 93, 93, 93, 93, 88], 63) := by decide +kernel
theorem d_X10_count_124 : decode m_X10_count.2.1 124 = .ok (.aload_n 0, 1) := by decide +kernel
theorem d_X10_count_125 : decode m_X10_count.2.1 125 = .ok (.getfield 91, 3) := by decide +kernel
theorem d_X10_count_128 : decode m_X10_count.2.1 128 = .ok (.ireturn, 1) := by decide +kernel
theorem d_X10_count_129 : decode m_X10_count.2.1 129 = .ok (.aload_n 0, 1) := by decide +kernel
theorem d_X10_count_130 : decode m_X10_count.2.1 130 = .ok (.getfield 178, 3) := by decide +kernel
theorem d_X10_count_133 : decode m_X10_count.2.1 133 = .ok (.ireturn, 1) := by decide +kernel
theorem d_X10_count_134 : decode m_X10_count.2.1 134 = .ok (.aload_n 0, 1) := by decide +kernel
theorem d_X10_count_135 : decode m_X10_count.2.1 135 = .ok (.getfield 156, 3) := by decide +kernel
theorem d_X10_count_138 : decode m_X10_count.2.1 138 = .ok (.ireturn, 1) := by decide +kernel
theorem d_X10_count_139 : decode m_X10_count.2.1 139 = .ok (.aload_n 0, 1) := by decide +kernel
theorem d_X10_count_140 : decode m_X10_count.2.1 140 = .ok (.getfield 97, 3) := by decide +kernel
theorem d_X10_count_143 : decode m_X10_count.2.1 143 = .ok (.ireturn, 1) := by decide +kernel
theorem d_X10_count_144 : decode m_X10_count.2.1 144 = .ok (.aload_n 0, 1) := by decide +kernel
theorem d_X10_count_145 : decode m_X10_count.2.1 145 = .ok (.getfield 81, 3) := by decide +kernel
theorem d_X10_count_148 : decode m_X10_count.2.1 148 = .ok (.ireturn, 1) := by decide +kernel
theorem d_X10_count_149 : decode m_X10_count.2.1 149 = .ok (.aload_n 0, 1) := by decide +kernel
theorem d_X10_count_150 : decode m_X10_count.2.1 150 = .ok (.invokevirtual 162, 3) := by decide +kernel
theorem d_X10_count_153 : decode m_X10_count.2.1 153 = .ok (.ireturn, 1) := by decide +kernel
theorem d_X10_count_154 : decode m_X10_count.2.1 154 = .ok (.ldc 90, 2) := by decide +kernel
theorem d_X10_count_156 : decode m_X10_count.2.1 156 = .ok (.ireturn, 1) := by decide +kernel
end
section
/-! regions: cells that lie together; their contents as a tuple of functions -/
abbrev RT : Type := (Nat → Nat → Int32) × (Nat → Nat → Int64) × (Nat → Int32)
def rI (s : RT) (k : Nat) (f : Nat → Int32) : RT := (fun j => if j = k then f else s.1 j, s.2.1, s.2.2)
def rL (s : RT) (k : Nat) (f : Nat → Int64) : RT := (s.1, fun j => if j = k then f else s.2.1 j, s.2.2)
def rS (s : RT) (k : Nat) (v : Int32) : RT := (s.1, s.2.1, fun j => if j = k then v else s.2.2 j)
def put (w : HW) (a n : Nat) (g : Nat → Cel) : HW := (fun q => if a ≤ q ∧ q < a + n then some (g (q - a)) else w.1 q, w.2)
theorem put_at {w : HW} {a n : Nat} {g : Nat → Cel} (k : Nat) {c : Cel} (hk : k < n) (hc : g k = c) : (put w a n g).1 (a + k) = some c := by
  have h : a ≤ a + k ∧ a + k < a + n := ⟨Nat.le_add_right _ _, by omega⟩
  simp [put, h, hc]
theorem put_at0 {w : HW} {a n : Nat} {g : Nat → Cel} {c : Cel} (hk : 0 < n) (hc : g 0 = c) : (put w a n g).1 a = some c := put_at 0 hk hc
theorem put_out {w : HW} {a n q : Nat} {g : Nat → Cel} {c : Cel} (h : q < a ∨ a + n ≤ q) (hq : w.1 q = some c) : (put w a n g).1 q = some c := by
  have h : ¬ (a ≤ q ∧ q < a + n) := by omega
  simp [put, h, hq]
theorem put_hset {w : HW} {a n : Nat} {g g' : Nat → Cel} (k : Nat) {c : Cel} (hk : k < n) (hc : g' k = c) (ho : ∀ j, j < n → j ≠ k → g' j = g j) : hset (put w a n g) (a + k) c = put w a n g' := by
  refine Prod.ext (funext fun q => ?_) rfl
  by_cases h : a ≤ q ∧ q < a + n
  · by_cases e : q = a + k
    · subst e
      simp [hset, put, h, hc]
    · have := ho (q - a) (by omega) (by omega)
      simp [hset, put, h, e, this]
  · have e : q ≠ a + k := by omega
    simp [hset, put, h, e]
theorem put_hset0 {w : HW} {a n : Nat} {g g' : Nat → Cel} {c : Cel} (hk : 0 < n) (hc : g' 0 = c) (ho : ∀ j, j < n → j ≠ 0 → g' j = g j) : hset (put w a n g) a c = put w a n g' := put_hset 0 hk hc ho
theorem hset_out {w w' : HW} {a n q : Nat} {g : Nat → Cel} {c : Cel} (h : q < a ∨ a + n ≤ q) (e : hset w q c = w') : hset (put w a n g) q c = put w' a n g := by
  subst e
  refine Prod.ext (funext fun r => ?_) rfl
  by_cases h1 : a ≤ r ∧ r < a + n
  · have e : r ≠ q := by omega
    simp [hset, put, h1, e]
  · simp [hset, put, h1]
theorem X.world {G : GX} {l : Launch} {M : MD} {d mc ms k n pc : Nat} {lv : List (Nat × Value)} {st : List Value} {w w2 : HW} {Q : Option Value → HW → Prop} (e : w = w2) (kk : X G l M d mc ms k n pc lv st w2 Q) : X G l M d mc ms k n pc lv st w Q := e ▸ kk
theorem put_put {w : HW} {a n : Nat} {g g' : Nat → Cel} : put (put w a n g) a n g' = put w a n g' := by
  refine Prod.ext (funext fun q => ?_) rfl
  by_cases h : a ≤ q ∧ q < a + n <;> simp [put, h]
theorem put_comm {w : HW} {a n b m : Nat} {g g' : Nat → Cel} (h : a + n ≤ b ∨ b + m ≤ a) : put (put w a n g) b m g' = put (put w b m g') a n g := by
  refine Prod.ext (funext fun q => ?_) rfl
  by_cases h1 : a ≤ q ∧ q < a + n
  · have h2 : ¬ (b ≤ q ∧ q < b + m) := by omega
    simp [put, h1, h2]
  · by_cases h2 : b ≤ q ∧ q < b + m <;> simp [put, h1, h2]
def shS (a : Nat) (s : RT) : Nat → Cel := fun j => match j with
  | 0 => cO 6 [.ref (a + 1), .ref (a + 5), .ref (a + 8), .ref (a + 12), .ref (a + 13), .ref (a + 17)]
  | 1 => cO 5 [.ref (a + 2), .ref (a + 3), .ref (a + 4)]
  | 2 => cI 240 (s.1 2)
  | 3 => cI 3 (s.1 3)
  | 4 => cI 3 (s.1 4)
  | 5 => cO 3 [.ref (a + 6), .ref (a + 7)]
  | 6 => cI 3 (s.1 6)
  | 7 => cI 3 (s.1 7)
  | 8 => cO 1 [.ref (a + 9), .ref (a + 10), .ref (a + 11)]
  | 9 => cI 3 (s.1 9)
  | 10 => cI 18 (s.1 10)
  | 11 => cI 18 (s.1 11)
  | 12 => cI 3 (s.1 12)
  | 13 => cO 0 [.ref (a + 14), .ref (a + 15), .ref (a + 16), .int (s.2.2 0)]
  | 14 => cI 40 (s.1 14)
  | 15 => cI 40 (s.1 15)
  | 16 => cI 40 (s.1 16)
  | 17 => cO 4 [.ref (a + 18), .int (s.2.2 1)]
  | _ => cI 7688 (s.1 18)
theorem gS_0 {w : HW} {a : Nat} {s : RT} : (put w a 19 (shS a s)).1 a = some (cO 6 [.ref (a + 1), .ref (a + 5), .ref (a + 8), .ref (a + 12), .ref (a + 13), .ref (a + 17)]) := put_at0 (by decide) rfl
theorem gS_1 {w : HW} {a : Nat} {s : RT} : (put w a 19 (shS a s)).1 (a + 1) = some (cO 5 [.ref (a + 2), .ref (a + 3), .ref (a + 4)]) := put_at 1 (by decide) rfl
theorem gS_2 {w : HW} {a : Nat} {s : RT} : (put w a 19 (shS a s)).1 (a + 2) = some (cI 240 (s.1 2)) := put_at 2 (by decide) rfl
theorem gS_3 {w : HW} {a : Nat} {s : RT} : (put w a 19 (shS a s)).1 (a + 3) = some (cI 3 (s.1 3)) := put_at 3 (by decide) rfl
theorem gS_4 {w : HW} {a : Nat} {s : RT} : (put w a 19 (shS a s)).1 (a + 4) = some (cI 3 (s.1 4)) := put_at 4 (by decide) rfl
theorem gS_5 {w : HW} {a : Nat} {s : RT} : (put w a 19 (shS a s)).1 (a + 5) = some (cO 3 [.ref (a + 6), .ref (a + 7)]) := put_at 5 (by decide) rfl
theorem gS_6 {w : HW} {a : Nat} {s : RT} : (put w a 19 (shS a s)).1 (a + 6) = some (cI 3 (s.1 6)) := put_at 6 (by decide) rfl
theorem gS_7 {w : HW} {a : Nat} {s : RT} : (put w a 19 (shS a s)).1 (a + 7) = some (cI 3 (s.1 7)) := put_at 7 (by decide) rfl
theorem gS_8 {w : HW} {a : Nat} {s : RT} : (put w a 19 (shS a s)).1 (a + 8) = some (cO 1 [.ref (a + 9), .ref (a + 10), .ref (a + 11)]) := put_at 8 (by decide) rfl
theorem gS_9 {w : HW} {a : Nat} {s : RT} : (put w a 19 (shS a s)).1 (a + 9) = some (cI 3 (s.1 9)) := put_at 9 (by decide) rfl
theorem gS_10 {w : HW} {a : Nat} {s : RT} : (put w a 19 (shS a s)).1 (a + 10) = some (cI 18 (s.1 10)) := put_at 10 (by decide) rfl
theorem gS_11 {w : HW} {a : Nat} {s : RT} : (put w a 19 (shS a s)).1 (a + 11) = some (cI 18 (s.1 11)) := put_at 11 (by decide) rfl
theorem gS_12 {w : HW} {a : Nat} {s : RT} : (put w a 19 (shS a s)).1 (a + 12) = some (cI 3 (s.1 12)) := put_at 12 (by decide) rfl
theorem gS_13 {w : HW} {a : Nat} {s : RT} : (put w a 19 (shS a s)).1 (a + 13) = some (cO 0 [.ref (a + 14), .ref (a + 15), .ref (a + 16), .int (s.2.2 0)]) := put_at 13 (by decide) rfl
theorem gS_14 {w : HW} {a : Nat} {s : RT} : (put w a 19 (shS a s)).1 (a + 14) = some (cI 40 (s.1 14)) := put_at 14 (by decide) rfl
theorem gS_15 {w : HW} {a : Nat} {s : RT} : (put w a 19 (shS a s)).1 (a + 15) = some (cI 40 (s.1 15)) := put_at 15 (by decide) rfl
theorem gS_16 {w : HW} {a : Nat} {s : RT} : (put w a 19 (shS a s)).1 (a + 16) = some (cI 40 (s.1 16)) := put_at 16 (by decide) rfl
theorem gS_17 {w : HW} {a : Nat} {s : RT} : (put w a 19 (shS a s)).1 (a + 17) = some (cO 4 [.ref (a + 18), .int (s.2.2 1)]) := put_at 17 (by decide) rfl
theorem gS_18 {w : HW} {a : Nat} {s : RT} : (put w a 19 (shS a s)).1 (a + 18) = some (cI 7688 (s.1 18)) := put_at 18 (by decide) rfl
theorem sS_2 {w : HW} {a : Nat} {s : RT} {f : Nat → Int32} : hset (put w a 19 (shS a s)) (a + 2) (cI 240 f) = put w a 19 (shS a (rI s 2 f)) := put_hset 2 (by decide) rfl (lt_s (lt_s (lt_s (lt_s (lt_s (lt_s (lt_s (lt_s (lt_s (lt_s (lt_s (lt_s (lt_s (lt_s (lt_s (lt_s (lt_s (lt_s (lt_s lt_0 (fun _ => rfl)) (fun _ => rfl)) (fun h => absurd rfl h)) (fun _ => rfl)) (fun _ => rfl)) (fun _ => rfl)) (fun _ => rfl)) (fun _ => rfl)) (fun _ => rfl)) (fun _ => rfl)) (fun _ => rfl)) (fun _ => rfl)) (fun _ => rfl)) (fun _ => rfl)) (fun _ => rfl)) (fun _ => rfl)) (fun _ => rfl)) (fun _ => rfl)) (fun _ => rfl))
theorem sS_3 {w : HW} {a : Nat} {s : RT} {f : Nat → Int32} : hset (put w a 19 (shS a s)) (a + 3) (cI 3 f) = put w a 19 (shS a (rI s 3 f)) := put_hset 3 (by decide) rfl (lt_s (lt_s (lt_s (lt_s (lt_s (lt_s (lt_s (lt_s (lt_s (lt_s (lt_s (lt_s (lt_s (lt_s (lt_s (lt_s (lt_s (lt_s (lt_s lt_0 (fun _ => rfl)) (fun _ => rfl)) (fun _ => rfl)) (fun h => absurd rfl h)) (fun _ => rfl)) (fun _ => rfl)) (fun _ => rfl)) (fun _ => rfl)) (fun _ => rfl)) (fun _ => rfl)) (fun _ => rfl)) (fun _ => rfl)) (fun _ => rfl)) (fun _ => rfl)) (fun _ => rfl)) (fun _ => rfl)) (fun _ => rfl)) (fun _ => rfl)) (fun _ => rfl))
theorem sS_4 {w : HW} {a : Nat} {s : RT} {f : Nat → Int32} : hset (put w a 19 (shS a s)) (a + 4) (cI 3 f) = put w a 19 (shS a (rI s 4 f)) := put_hset 4 (by decide) rfl (lt_s (lt_s (lt_s (lt_s (lt_s (lt_s (lt_s (lt_s (lt_s (lt_s (lt_s (lt_s (lt_s (lt_s (lt_s (lt_s (lt_s (lt_s (lt_s lt_0 (fun _ => rfl)) (fun _ => rfl)) (fun _ => rfl)) (fun _ => rfl)) (fun h => absurd rfl h)) (fun _ => rfl)) (fun _ => rfl)) (fun _ => rfl)) (fun _ => rfl)) (fun _ => rfl)) (fun _ => rfl)) (fun _ => rfl)) (fun _ => rfl)) (fun _ => rfl)) (fun _ => rfl)) (fun _ => rfl)) (fun _ => rfl)) (fun _ => rfl)) (fun _ => rfl))
theorem sS_6 {w : HW} {a : Nat} {s : RT} {f : Nat → Int32} : hset (put w a 19 (shS a s)) (a + 6) (cI 3 f) = put w a 19 (shS a (rI s 6 f)) := put_hset 6 (by decide) rfl (lt_s (lt_s (lt_s (lt_s (lt_s (lt_s (lt_s (lt_s (lt_s (lt_s (lt_s (lt_s (lt_s (lt_s (lt_s (lt_s (lt_s (lt_s (lt_s lt_0 (fun _ => rfl)) (fun _ => rfl)) (fun _ => rfl)) (fun _ => rfl)) (fun _ => rfl)) (fun _ => rfl)) (fun h => absurd rfl h)) (fun _ => rfl)) (fun _ => rfl)) (fun _ => rfl)) (fun _ => rfl)) (fun _ => rfl)) (fun _ => rfl)) (fun _ => rfl)) (fun _ => rfl)) (fun _ => rfl)) (fun _ => rfl)) (fun _ => rfl)) (fun _ => rfl))
theorem sS_7 {w : HW} {a : Nat} {s : RT} {f : Nat → Int32} : hset (put w a 19 (shS a s)) (a + 7) (cI 3 f) = put w a 19 (shS a (rI s 7 f)) := put_hset 7 (by decide) rfl (lt_s (lt_s (lt_s (lt_s (lt_s (lt_s (lt_s (lt_s (lt_s (lt_s (lt_s (lt_s (lt_s (lt_s (lt_s (lt_s (lt_s (lt_s (lt_s lt_0 (fun _ => rfl)) (fun _ => rfl)) (fun _ => rfl)) (fun _ => rfl)) (fun _ => rfl)) (fun _ => rfl)) (fun _ => rfl)) (fun h => absurd rfl h)) (fun _ => rfl)) (fun _ => rfl)) (fun _ => rfl)) (fun _ => rfl)) (fun _ => rfl)) (fun _ => rfl)) (fun _ => rfl)) (fun _ => rfl)) (fun _ => rfl)) (fun _ => rfl)) (fun _ => rfl))
theorem sS_9 {w : HW} {a : Nat} {s : RT} {f : Nat → Int32} : hset (put w a 19 (shS a s)) (a + 9) (cI 3 f) = put w a 19 (shS a (rI s 9 f)) := put_hset 9 (by decide) rfl (lt_s (lt_s (lt_s (lt_s (lt_s (lt_s (lt_s (lt_s (lt_s (lt_s (lt_s (lt_s (lt_s (lt_s (lt_s (lt_s (lt_s (lt_s (lt_s lt_0 (fun _ => rfl)) (fun _ => rfl)) (fun _ => rfl)) (fun _ => rfl)) (fun _ => rfl)) (fun _ => rfl)) (fun _ => rfl)) (fun _ => rfl)) (fun _ => rfl)) (fun h => absurd rfl h)) (fun _ => rfl)) (fun _ => rfl)) (fun _ => rfl)) (fun _ => rfl)) (fun _ => rfl)) (fun _ => rfl)) (fun _ => rfl)) (fun _ => rfl)) (fun _ => rfl))
theorem sS_10 {w : HW} {a : Nat} {s : RT} {f : Nat → Int32} : hset (put w a 19 (shS a s)) (a + 10) (cI 18 f) = put w a 19 (shS a (rI s 10 f)) := put_hset 10 (by decide) rfl (lt_s (lt_s (lt_s (lt_s (lt_s (lt_s (lt_s (lt_s (lt_s (lt_s (lt_s (lt_s (lt_s (lt_s (lt_s (lt_s (lt_s (lt_s (lt_s lt_0 (fun _ => rfl)) (fun _ => rfl)) (fun _ => rfl)) (fun _ => rfl)) (fun _ => rfl)) (fun _ => rfl)) (fun _ => rfl)) (fun _ => rfl)) (fun _ => rfl)) (fun _ => rfl)) (fun h => absurd rfl h)) (fun _ => rfl)) (fun _ => rfl)) (fun _ => rfl)) (fun _ => rfl)) (fun _ => rfl)) (fun _ => rfl)) (fun _ => rfl)) (fun _ => rfl))
theorem sS_11 {w : HW} {a : Nat} {s : RT} {f : Nat → Int32} : hset (put w a 19 (shS a s)) (a + 11) (cI 18 f) = put w a 19 (shS a (rI s 11 f)) := put_hset 11 (by decide) rfl (lt_s (lt_s (lt_s (lt_s (lt_s (lt_s (lt_s (lt_s (lt_s (lt_s (lt_s (lt_s (lt_s (lt_s (lt_s (lt_s (lt_s (lt_s (lt_s lt_0 (fun _ => rfl)) (fun _ => rfl)) (fun _ => rfl)) (fun _ => rfl)) (fun _ => rfl)) (fun _ => rfl)) (fun _ => rfl)) (fun _ => rfl)) (fun _ => rfl)) (fun _ => rfl)) (fun _ => rfl)) (fun h => absurd rfl h)) (fun _ => rfl)) (fun _ => rfl)) (fun _ => rfl)) (fun _ => rfl)) (fun _ => rfl)) (fun _ => rfl)) (fun _ => rfl))
theorem sS_12 {w : HW} {a : Nat} {s : RT} {f : Nat → Int32} : hset (put w a 19 (shS a s)) (a + 12) (cI 3 f) = put w a 19 (shS a (rI s 12 f)) := put_hset 12 (by decide) rfl (lt_s (lt_s (lt_s (lt_s (lt_s (lt_s (lt_s (lt_s (lt_s (lt_s (lt_s (lt_s (lt_s (lt_s (lt_s (lt_s (lt_s (lt_s (lt_s lt_0 (fun _ => rfl)) (fun _ => rfl)) (fun _ => rfl)) (fun _ => rfl)) (fun _ => rfl)) (fun _ => rfl)) (fun _ => rfl)) (fun _ => rfl)) (fun _ => rfl)) (fun _ => rfl)) (fun _ => rfl)) (fun _ => rfl)) (fun h => absurd rfl h)) (fun _ => rfl)) (fun _ => rfl)) (fun _ => rfl)) (fun _ => rfl)) (fun _ => rfl)) (fun _ => rfl))
theorem sS_13_0 {w : HW} {a : Nat} {s : RT} {v : Int32} : hset (put w a 19 (shS a s)) (a + 13) (cO 0 [.ref (a + 14), .ref (a + 15), .ref (a + 16), .int v]) = put w a 19 (shS a (rS s 0 v)) := put_hset 13 (by decide) rfl (lt_s (lt_s (lt_s (lt_s (lt_s (lt_s (lt_s (lt_s (lt_s (lt_s (lt_s (lt_s (lt_s (lt_s (lt_s (lt_s (lt_s (lt_s (lt_s lt_0 (fun _ => rfl)) (fun _ => rfl)) (fun _ => rfl)) (fun _ => rfl)) (fun _ => rfl)) (fun _ => rfl)) (fun _ => rfl)) (fun _ => rfl)) (fun _ => rfl)) (fun _ => rfl)) (fun _ => rfl)) (fun _ => rfl)) (fun _ => rfl)) (fun h => absurd rfl h)) (fun _ => rfl)) (fun _ => rfl)) (fun _ => rfl)) (fun _ => rfl)) (fun _ => rfl))
theorem sS_14 {w : HW} {a : Nat} {s : RT} {f : Nat → Int32} : hset (put w a 19 (shS a s)) (a + 14) (cI 40 f) = put w a 19 (shS a (rI s 14 f)) := put_hset 14 (by decide) rfl (lt_s (lt_s (lt_s (lt_s (lt_s (lt_s (lt_s (lt_s (lt_s (lt_s (lt_s (lt_s (lt_s (lt_s (lt_s (lt_s (lt_s (lt_s (lt_s lt_0 (fun _ => rfl)) (fun _ => rfl)) (fun _ => rfl)) (fun _ => rfl)) (fun _ => rfl)) (fun _ => rfl)) (fun _ => rfl)) (fun _ => rfl)) (fun _ => rfl)) (fun _ => rfl)) (fun _ => rfl)) (fun _ => rfl)) (fun _ => rfl)) (fun _ => rfl)) (fun h => absurd rfl h)) (fun _ => rfl)) (fun _ => rfl)) (fun _ => rfl)) (fun _ => rfl))
theorem sS_15 {w : HW} {a : Nat} {s : RT} {f : Nat → Int32} : hset (put w a 19 (shS a s)) (a + 15) (cI 40 f) = put w a 19 (shS a (rI s 15 f)) := put_hset 15 (by decide) rfl (lt_s (lt_s (lt_s (lt_s (lt_s (lt_s (lt_s (lt_s (lt_s (lt_s (lt_s (lt_s (lt_s (lt_s (lt_s (lt_s (lt_s (lt_s (lt_s lt_0 (fun _ => rfl)) (fun _ => rfl)) (fun _ => rfl)) (fun _ => rfl)) (fun _ => rfl)) (fun _ => rfl)) (fun _ => rfl)) (fun _ => rfl)) (fun _ => rfl)) (fun _ => rfl)) (fun _ => rfl)) (fun _ => rfl)) (fun _ => rfl)) (fun _ => rfl)) (fun _ => rfl)) (fun h => absurd rfl h)) (fun _ => rfl)) (fun _ => rfl)) (fun _ => rfl))
theorem sS_16 {w : HW} {a : Nat} {s : RT} {f : Nat → Int32} : hset (put w a 19 (shS a s)) (a + 16) (cI 40 f) = put w a 19 (shS a (rI s 16 f)) := put_hset 16 (by decide) rfl (lt_s (lt_s (lt_s (lt_s (lt_s (lt_s (lt_s (lt_s (lt_s (lt_s (lt_s (lt_s (lt_s (lt_s (lt_s (lt_s (lt_s (lt_s (lt_s lt_0 (fun _ => rfl)) (fun _ => rfl)) (fun _ => rfl)) (fun _ => rfl)) (fun _ => rfl)) (fun _ => rfl)) (fun _ => rfl)) (fun _ => rfl)) (fun _ => rfl)) (fun _ => rfl)) (fun _ => rfl)) (fun _ => rfl)) (fun _ => rfl)) (fun _ => rfl)) (fun _ => rfl)) (fun _ => rfl)) (fun h => absurd rfl h)) (fun _ => rfl)) (fun _ => rfl))
theorem sS_17_1 {w : HW} {a : Nat} {s : RT} {v : Int32} : hset (put w a 19 (shS a s)) (a + 17) (cO 4 [.ref (a + 18), .int v]) = put w a 19 (shS a (rS s 1 v)) := put_hset 17 (by decide) rfl (lt_s (lt_s (lt_s (lt_s (lt_s (lt_s (lt_s (lt_s (lt_s (lt_s (lt_s (lt_s (lt_s (lt_s (lt_s (lt_s (lt_s (lt_s (lt_s lt_0 (fun _ => rfl)) (fun _ => rfl)) (fun _ => rfl)) (fun _ => rfl)) (fun _ => rfl)) (fun _ => rfl)) (fun _ => rfl)) (fun _ => rfl)) (fun _ => rfl)) (fun _ => rfl)) (fun _ => rfl)) (fun _ => rfl)) (fun _ => rfl)) (fun _ => rfl)) (fun _ => rfl)) (fun _ => rfl)) (fun _ => rfl)) (fun h => absurd rfl h)) (fun _ => rfl))
theorem sS_18 {w : HW} {a : Nat} {s : RT} {f : Nat → Int32} : hset (put w a 19 (shS a s)) (a + 18) (cI 7688 f) = put w a 19 (shS a (rI s 18 f)) := put_hset 18 (by decide) rfl (lt_s (lt_s (lt_s (lt_s (lt_s (lt_s (lt_s (lt_s (lt_s (lt_s (lt_s (lt_s (lt_s (lt_s (lt_s (lt_s (lt_s (lt_s (lt_s lt_0 (fun _ => rfl)) (fun _ => rfl)) (fun _ => rfl)) (fun _ => rfl)) (fun _ => rfl)) (fun _ => rfl)) (fun _ => rfl)) (fun _ => rfl)) (fun _ => rfl)) (fun _ => rfl)) (fun _ => rfl)) (fun _ => rfl)) (fun _ => rfl)) (fun _ => rfl)) (fun _ => rfl)) (fun _ => rfl)) (fun _ => rfl)) (fun _ => rfl)) (fun h => absurd rfl h))
def shT (a : Nat) (s : RT) : Nat → Cel := fun j => match j with
  | 0 => cO 8 [.ref (a + 1), .int (s.2.2 1), .int (s.2.2 2), .ref (a + 2), .int (s.2.2 4), .int (s.2.2 5)]
  | 1 => cI 80 (s.1 1)
  | _ => cI 80 (s.1 2)
theorem gT_0 {w : HW} {a : Nat} {s : RT} : (put w a 3 (shT a s)).1 a = some (cO 8 [.ref (a + 1), .int (s.2.2 1), .int (s.2.2 2), .ref (a + 2), .int (s.2.2 4), .int (s.2.2 5)]) := put_at0 (by decide) rfl
theorem gT_1 {w : HW} {a : Nat} {s : RT} : (put w a 3 (shT a s)).1 (a + 1) = some (cI 80 (s.1 1)) := put_at 1 (by decide) rfl
theorem gT_2 {w : HW} {a : Nat} {s : RT} : (put w a 3 (shT a s)).1 (a + 2) = some (cI 80 (s.1 2)) := put_at 2 (by decide) rfl
theorem sT_0_1 {w : HW} {a : Nat} {s : RT} {v : Int32} : hset (put w a 3 (shT a s)) a (cO 8 [.ref (a + 1), .int v, .int (s.2.2 2), .ref (a + 2), .int (s.2.2 4), .int (s.2.2 5)]) = put w a 3 (shT a (rS s 1 v)) := put_hset0 (by decide) rfl (lt_s (lt_s (lt_s lt_0 (fun h => absurd rfl h)) (fun _ => rfl)) (fun _ => rfl))
theorem sT_0_2 {w : HW} {a : Nat} {s : RT} {v : Int32} : hset (put w a 3 (shT a s)) a (cO 8 [.ref (a + 1), .int (s.2.2 1), .int v, .ref (a + 2), .int (s.2.2 4), .int (s.2.2 5)]) = put w a 3 (shT a (rS s 2 v)) := put_hset0 (by decide) rfl (lt_s (lt_s (lt_s lt_0 (fun h => absurd rfl h)) (fun _ => rfl)) (fun _ => rfl))
theorem sT_0_4 {w : HW} {a : Nat} {s : RT} {v : Int32} : hset (put w a 3 (shT a s)) a (cO 8 [.ref (a + 1), .int (s.2.2 1), .int (s.2.2 2), .ref (a + 2), .int v, .int (s.2.2 5)]) = put w a 3 (shT a (rS s 4 v)) := put_hset0 (by decide) rfl (lt_s (lt_s (lt_s lt_0 (fun h => absurd rfl h)) (fun _ => rfl)) (fun _ => rfl))
theorem sT_0_5 {w : HW} {a : Nat} {s : RT} {v : Int32} : hset (put w a 3 (shT a s)) a (cO 8 [.ref (a + 1), .int (s.2.2 1), .int (s.2.2 2), .ref (a + 2), .int (s.2.2 4), .int v]) = put w a 3 (shT a (rS s 5 v)) := put_hset0 (by decide) rfl (lt_s (lt_s (lt_s lt_0 (fun h => absurd rfl h)) (fun _ => rfl)) (fun _ => rfl))
theorem sT_1 {w : HW} {a : Nat} {s : RT} {f : Nat → Int32} : hset (put w a 3 (shT a s)) (a + 1) (cI 80 f) = put w a 3 (shT a (rI s 1 f)) := put_hset 1 (by decide) rfl (lt_s (lt_s (lt_s lt_0 (fun _ => rfl)) (fun h => absurd rfl h)) (fun _ => rfl))
theorem sT_2 {w : HW} {a : Nat} {s : RT} {f : Nat → Int32} : hset (put w a 3 (shT a s)) (a + 2) (cI 80 f) = put w a 3 (shT a (rI s 2 f)) := put_hset 2 (by decide) rfl (lt_s (lt_s (lt_s lt_0 (fun _ => rfl)) (fun _ => rfl)) (fun h => absurd rfl h))
def shP (a : Nat) (s : RT) : Nat → Cel := fun j => match j with
  | 0 => cO 7 [.ref (a + 1), .ref (a + 2), .ref (a + 3), .ref (a + 4), .ref (a + 5), .ref (a + 6)]
  | 1 => cI 22 (s.1 1)
  | 2 => cI 80 (s.1 2)
  | 3 => cI 3 (s.1 3)
  | 4 => cI 3 (s.1 4)
  | 5 => cI 3 (s.1 5)
  | _ => cI 3 (s.1 6)
theorem gP_0 {w : HW} {a : Nat} {s : RT} : (put w a 7 (shP a s)).1 a = some (cO 7 [.ref (a + 1), .ref (a + 2), .ref (a + 3), .ref (a + 4), .ref (a + 5), .ref (a + 6)]) := put_at0 (by decide) rfl
theorem gP_1 {w : HW} {a : Nat} {s : RT} : (put w a 7 (shP a s)).1 (a + 1) = some (cI 22 (s.1 1)) := put_at 1 (by decide) rfl
theorem gP_2 {w : HW} {a : Nat} {s : RT} : (put w a 7 (shP a s)).1 (a + 2) = some (cI 80 (s.1 2)) := put_at 2 (by decide) rfl
theorem gP_3 {w : HW} {a : Nat} {s : RT} : (put w a 7 (shP a s)).1 (a + 3) = some (cI 3 (s.1 3)) := put_at 3 (by decide) rfl
theorem gP_4 {w : HW} {a : Nat} {s : RT} : (put w a 7 (shP a s)).1 (a + 4) = some (cI 3 (s.1 4)) := put_at 4 (by decide) rfl
theorem gP_5 {w : HW} {a : Nat} {s : RT} : (put w a 7 (shP a s)).1 (a + 5) = some (cI 3 (s.1 5)) := put_at 5 (by decide) rfl
theorem gP_6 {w : HW} {a : Nat} {s : RT} : (put w a 7 (shP a s)).1 (a + 6) = some (cI 3 (s.1 6)) := put_at 6 (by decide) rfl
theorem sP_1 {w : HW} {a : Nat} {s : RT} {f : Nat → Int32} : hset (put w a 7 (shP a s)) (a + 1) (cI 22 f) = put w a 7 (shP a (rI s 1 f)) := put_hset 1 (by decide) rfl (lt_s (lt_s (lt_s (lt_s (lt_s (lt_s (lt_s lt_0 (fun _ => rfl)) (fun h => absurd rfl h)) (fun _ => rfl)) (fun _ => rfl)) (fun _ => rfl)) (fun _ => rfl)) (fun _ => rfl))
theorem sP_2 {w : HW} {a : Nat} {s : RT} {f : Nat → Int32} : hset (put w a 7 (shP a s)) (a + 2) (cI 80 f) = put w a 7 (shP a (rI s 2 f)) := put_hset 2 (by decide) rfl (lt_s (lt_s (lt_s (lt_s (lt_s (lt_s (lt_s lt_0 (fun _ => rfl)) (fun _ => rfl)) (fun h => absurd rfl h)) (fun _ => rfl)) (fun _ => rfl)) (fun _ => rfl)) (fun _ => rfl))
theorem sP_3 {w : HW} {a : Nat} {s : RT} {f : Nat → Int32} : hset (put w a 7 (shP a s)) (a + 3) (cI 3 f) = put w a 7 (shP a (rI s 3 f)) := put_hset 3 (by decide) rfl (lt_s (lt_s (lt_s (lt_s (lt_s (lt_s (lt_s lt_0 (fun _ => rfl)) (fun _ => rfl)) (fun _ => rfl)) (fun h => absurd rfl h)) (fun _ => rfl)) (fun _ => rfl)) (fun _ => rfl))
theorem sP_4 {w : HW} {a : Nat} {s : RT} {f : Nat → Int32} : hset (put w a 7 (shP a s)) (a + 4) (cI 3 f) = put w a 7 (shP a (rI s 4 f)) := put_hset 4 (by decide) rfl (lt_s (lt_s (lt_s (lt_s (lt_s (lt_s (lt_s lt_0 (fun _ => rfl)) (fun _ => rfl)) (fun _ => rfl)) (fun _ => rfl)) (fun h => absurd rfl h)) (fun _ => rfl)) (fun _ => rfl))
theorem sP_5 {w : HW} {a : Nat} {s : RT} {f : Nat → Int32} : hset (put w a 7 (shP a s)) (a + 5) (cI 3 f) = put w a 7 (shP a (rI s 5 f)) := put_hset 5 (by decide) rfl (lt_s (lt_s (lt_s (lt_s (lt_s (lt_s (lt_s lt_0 (fun _ => rfl)) (fun _ => rfl)) (fun _ => rfl)) (fun _ => rfl)) (fun _ => rfl)) (fun h => absurd rfl h)) (fun _ => rfl))
theorem sP_6 {w : HW} {a : Nat} {s : RT} {f : Nat → Int32} : hset (put w a 7 (shP a s)) (a + 6) (cI 3 f) = put w a 7 (shP a (rI s 6 f)) := put_hset 6 (by decide) rfl (lt_s (lt_s (lt_s (lt_s (lt_s (lt_s (lt_s lt_0 (fun _ => rfl)) (fun _ => rfl)) (fun _ => rfl)) (fun _ => rfl)) (fun _ => rfl)) (fun _ => rfl)) (fun h => absurd rfl h))
def shM (a : Nat) (s : RT) : Nat → Cel := fun j => match j with
  | 0 => cO 10 [.ref (a + 1), .ref (a + 2), .int (s.2.2 2), .ref (a + 3), .ref (a + 4), .ref (a + 5), .int (s.2.2 6), .ref (a + 6), .ref (a + 7), .ref (a + 8), .int (s.2.2 10), .ref (a + 9), .ref (a + 10), .ref (a + 11), .ref (a + 12), .ref (a + 13), .ref (a + 14), .int (s.2.2 17), .int (s.2.2 18), .int (s.2.2 19), .int (s.2.2 20), .int (s.2.2 21), .ref (a + 15), .ref (a + 16), .ref (a + 17), .ref (a + 18), .ref (a + 19), .ref (a + 20), .ref (a + 21), .int (s.2.2 29), .int (s.2.2 30)]
  | 1 => cI 812 (s.1 1)
  | 2 => cI 3248 (s.1 2)
  | 3 => cI 1624 (s.1 3)
  | 4 => cI 2 (s.1 4)
  | 5 => cI 80 (s.1 5)
  | 6 => cI 64 (s.1 6)
  | 7 => cI 64 (s.1 7)
  | 8 => cI 64 (s.1 8)
  | 9 => cI 1100 (s.1 9)
  | 10 => cI 1100 (s.1 10)
  | 11 => cI 1100 (s.1 11)
  | 12 => cL 3300 (s.2.1 12)
  | 13 => cL 3300 (s.2.1 13)
  | 14 => cL 3300 (s.2.1 14)
  | 15 => cL 3 (s.2.1 15)
  | 16 => cL 3 (s.2.1 16)
  | 17 => cL 3 (s.2.1 17)
  | 18 => cL 3 (s.2.1 18)
  | 19 => cL 3 (s.2.1 19)
  | 20 => cL 80 (s.2.1 20)
  | _ => cI 160 (s.1 21)
theorem gM_0 {w : HW} {a : Nat} {s : RT} : (put w a 22 (shM a s)).1 a = some (cO 10 [.ref (a + 1), .ref (a + 2), .int (s.2.2 2), .ref (a + 3), .ref (a + 4), .ref (a + 5), .int (s.2.2 6), .ref (a + 6), .ref (a + 7), .ref (a + 8), .int (s.2.2 10), .ref (a + 9), .ref (a + 10), .ref (a + 11), .ref (a + 12), .ref (a + 13), .ref (a + 14), .int (s.2.2 17), .int (s.2.2 18), .int (s.2.2 19), .int (s.2.2 20), .int (s.2.2 21), .ref (a + 15), .ref (a + 16), .ref (a + 17), .ref (a + 18), .ref (a + 19), .ref (a + 20), .ref (a + 21), .int (s.2.2 29), .int (s.2.2 30)]) := put_at0 (by decide) rfl
theorem gM_1 {w : HW} {a : Nat} {s : RT} : (put w a 22 (shM a s)).1 (a + 1) = some (cI 812 (s.1 1)) := put_at 1 (by decide) rfl
theorem gM_2 {w : HW} {a : Nat} {s : RT} : (put w a 22 (shM a s)).1 (a + 2) = some (cI 3248 (s.1 2)) := put_at 2 (by decide) rfl
theorem gM_3 {w : HW} {a : Nat} {s : RT} : (put w a 22 (shM a s)).1 (a + 3) = some (cI 1624 (s.1 3)) := put_at 3 (by decide) rfl
theorem gM_4 {w : HW} {a : Nat} {s : RT} : (put w a 22 (shM a s)).1 (a + 4) = some (cI 2 (s.1 4)) := put_at 4 (by decide) rfl
theorem gM_5 {w : HW} {a : Nat} {s : RT} : (put w a 22 (shM a s)).1 (a + 5) = some (cI 80 (s.1 5)) := put_at 5 (by decide) rfl
theorem gM_6 {w : HW} {a : Nat} {s : RT} : (put w a 22 (shM a s)).1 (a + 6) = some (cI 64 (s.1 6)) := put_at 6 (by decide) rfl
theorem gM_7 {w : HW} {a : Nat} {s : RT} : (put w a 22 (shM a s)).1 (a + 7) = some (cI 64 (s.1 7)) := put_at 7 (by decide) rfl
theorem gM_8 {w : HW} {a : Nat} {s : RT} : (put w a 22 (shM a s)).1 (a + 8) = some (cI 64 (s.1 8)) := put_at 8 (by decide) rfl
theorem gM_9 {w : HW} {a : Nat} {s : RT} : (put w a 22 (shM a s)).1 (a + 9) = some (cI 1100 (s.1 9)) := put_at 9 (by decide) rfl
theorem gM_10 {w : HW} {a : Nat} {s : RT} : (put w a 22 (shM a s)).1 (a + 10) = some (cI 1100 (s.1 10)) := put_at 10 (by decide) rfl
theorem gM_11 {w : HW} {a : Nat} {s : RT} : (put w a 22 (shM a s)).1 (a + 11) = some (cI 1100 (s.1 11)) := put_at 11 (by decide) rfl
theorem gM_12 {w : HW} {a : Nat} {s : RT} : (put w a 22 (shM a s)).1 (a + 12) = some (cL 3300 (s.2.1 12)) := put_at 12 (by decide) rfl
theorem gM_13 {w : HW} {a : Nat} {s : RT} : (put w a 22 (shM a s)).1 (a + 13) = some (cL 3300 (s.2.1 13)) := put_at 13 (by decide) rfl
theorem gM_14 {w : HW} {a : Nat} {s : RT} : (put w a 22 (shM a s)).1 (a + 14) = some (cL 3300 (s.2.1 14)) := put_at 14 (by decide) rfl
theorem gM_15 {w : HW} {a : Nat} {s : RT} : (put w a 22 (shM a s)).1 (a + 15) = some (cL 3 (s.2.1 15)) := put_at 15 (by decide) rfl
theorem gM_16 {w : HW} {a : Nat} {s : RT} : (put w a 22 (shM a s)).1 (a + 16) = some (cL 3 (s.2.1 16)) := put_at 16 (by decide) rfl
theorem gM_17 {w : HW} {a : Nat} {s : RT} : (put w a 22 (shM a s)).1 (a + 17) = some (cL 3 (s.2.1 17)) := put_at 17 (by decide) rfl
theorem gM_18 {w : HW} {a : Nat} {s : RT} : (put w a 22 (shM a s)).1 (a + 18) = some (cL 3 (s.2.1 18)) := put_at 18 (by decide) rfl
theorem gM_19 {w : HW} {a : Nat} {s : RT} : (put w a 22 (shM a s)).1 (a + 19) = some (cL 3 (s.2.1 19)) := put_at 19 (by decide) rfl
theorem gM_20 {w : HW} {a : Nat} {s : RT} : (put w a 22 (shM a s)).1 (a + 20) = some (cL 80 (s.2.1 20)) := put_at 20 (by decide) rfl
theorem gM_21 {w : HW} {a : Nat} {s : RT} : (put w a 22 (shM a s)).1 (a + 21) = some (cI 160 (s.1 21)) := put_at 21 (by decide) rfl
theorem sM_0_2 {w : HW} {a : Nat} {s : RT} {v : Int32} : hset (put w a 22 (shM a s)) a (cO 10 [.ref (a + 1), .ref (a + 2), .int v, .ref (a + 3), .ref (a + 4), .ref (a + 5), .int (s.2.2 6), .ref (a + 6), .ref (a + 7), .ref (a + 8), .int (s.2.2 10), .ref (a + 9), .ref (a + 10), .ref (a + 11), .ref (a + 12), .ref (a + 13), .ref (a + 14), .int (s.2.2 17), .int (s.2.2 18), .int (s.2.2 19), .int (s.2.2 20), .int (s.2.2 21), .ref (a + 15), .ref (a + 16), .ref (a + 17), .ref (a + 18), .ref (a + 19), .ref (a + 20), .ref (a + 21), .int (s.2.2 29), .int (s.2.2 30)]) = put w a 22 (shM a (rS s 2 v)) := put_hset0 (by decide) rfl (lt_s (lt_s (lt_s (lt_s (lt_s (lt_s (lt_s (lt_s (lt_s (lt_s (lt_s (lt_s (lt_s (lt_s (lt_s (lt_s (lt_s (lt_s (lt_s (lt_s (lt_s (lt_s lt_0 (fun h => absurd rfl h)) (fun _ => rfl)) (fun _ => rfl)) (fun _ => rfl)) (fun _ => rfl)) (fun _ => rfl)) (fun _ => rfl)) (fun _ => rfl)) (fun _ => rfl)) (fun _ => rfl)) (fun _ => rfl)) (fun _ => rfl)) (fun _ => rfl)) (fun _ => rfl)) (fun _ => rfl)) (fun _ => rfl)) (fun _ => rfl)) (fun _ => rfl)) (fun _ => rfl)) (fun _ => rfl)) (fun _ => rfl)) (fun _ => rfl))
theorem sM_0_6 {w : HW} {a : Nat} {s : RT} {v : Int32} : hset (put w a 22 (shM a s)) a (cO 10 [.ref (a + 1), .ref (a + 2), .int (s.2.2 2), .ref (a + 3), .ref (a + 4), .ref (a + 5), .int v, .ref (a + 6), .ref (a + 7), .ref (a + 8), .int (s.2.2 10), .ref (a + 9), .ref (a + 10), .ref (a + 11), .ref (a + 12), .ref (a + 13), .ref (a + 14), .int (s.2.2 17), .int (s.2.2 18), .int (s.2.2 19), .int (s.2.2 20), .int (s.2.2 21), .ref (a + 15), .ref (a + 16), .ref (a + 17), .ref (a + 18), .ref (a + 19), .ref (a + 20), .ref (a + 21), .int (s.2.2 29), .int (s.2.2 30)]) = put w a 22 (shM a (rS s 6 v)) := put_hset0 (by decide) rfl (lt_s (lt_s (lt_s (lt_s (lt_s (lt_s (lt_s (lt_s (lt_s (lt_s (lt_s (lt_s (lt_s (lt_s (lt_s (lt_s (lt_s (lt_s (lt_s (lt_s (lt_s (lt_s lt_0 (fun h => absurd rfl h)) (fun _ => rfl)) (fun _ => rfl)) (fun _ => rfl)) (fun _ => rfl)) (fun _ => rfl)) (fun _ => rfl)) (fun _ => rfl)) (fun _ => rfl)) (fun _ => rfl)) (fun _ => rfl)) (fun _ => rfl)) (fun _ => rfl)) (fun _ => rfl)) (fun _ => rfl)) (fun _ => rfl)) (fun _ => rfl)) (fun _ => rfl)) (fun _ => rfl)) (fun _ => rfl)) (fun _ => rfl)) (fun _ => rfl))
theorem sM_0_10 {w : HW} {a : Nat} {s : RT} {v : Int32} : hset (put w a 22 (shM a s)) a (cO 10 [.ref (a + 1), .ref (a + 2), .int (s.2.2 2), .ref (a + 3), .ref (a + 4), .ref (a + 5), .int (s.2.2 6), .ref (a + 6), .ref (a + 7), .ref (a + 8), .int v, .ref (a + 9), .ref (a + 10), .ref (a + 11), .ref (a + 12), .ref (a + 13), .ref (a + 14), .int (s.2.2 17), .int (s.2.2 18), .int (s.2.2 19), .int (s.2.2 20), .int (s.2.2 21), .ref (a + 15), .ref (a + 16), .ref (a + 17), .ref (a + 18), .ref (a + 19), .ref (a + 20), .ref (a + 21), .int (s.2.2 29), .int (s.2.2 30)]) = put w a 22 (shM a (rS s 10 v)) := put_hset0 (by decide) rfl (lt_s (lt_s (lt_s (lt_s (lt_s (lt_s (lt_s (lt_s (lt_s (lt_s (lt_s (lt_s (lt_s (lt_s (lt_s (lt_s (lt_s (lt_s (lt_s (lt_s (lt_s (lt_s lt_0 (fun h => absurd rfl h)) (fun _ => rfl)) (fun _ => rfl)) (fun _ => rfl)) (fun _ => rfl)) (fun _ => rfl)) (fun _ => rfl)) (fun _ => rfl)) (fun _ => rfl)) (fun _ => rfl)) (fun _ => rfl)) (fun _ => rfl)) (fun _ => rfl)) (fun _ => rfl)) (fun _ => rfl)) (fun _ => rfl)) (fun _ => rfl)) (fun _ => rfl)) (fun _ => rfl)) (fun _ => rfl)) (fun _ => rfl)) (fun _ => rfl))
theorem sM_0_17 {w : HW} {a : Nat} {s : RT} {v : Int32} : hset (put w a 22 (shM a s)) a (cO 10 [.ref (a + 1), .ref (a + 2), .int (s.2.2 2), .ref (a + 3), .ref (a + 4), .ref (a + 5), .int (s.2.2 6), .ref (a + 6), .ref (a + 7), .ref (a + 8), .int (s.2.2 10), .ref (a + 9), .ref (a + 10), .ref (a + 11), .ref (a + 12), .ref (a + 13), .ref (a + 14), .int v, .int (s.2.2 18), .int (s.2.2 19), .int (s.2.2 20), .int (s.2.2 21), .ref (a + 15), .ref (a + 16), .ref (a + 17), .ref (a + 18), .ref (a + 19), .ref (a + 20), .ref (a + 21), .int (s.2.2 29), .int (s.2.2 30)]) = put w a 22 (shM a (rS s 17 v)) := put_hset0 (by decide) rfl (lt_s (lt_s (lt_s (lt_s (lt_s (lt_s (lt_s (lt_s (lt_s (lt_s (lt_s (lt_s (lt_s (lt_s (lt_s (lt_s (lt_s (lt_s (lt_s (lt_s (lt_s (lt_s lt_0 (fun h => absurd rfl h)) (fun _ => rfl)) (fun _ => rfl)) (fun _ => rfl)) (fun _ => rfl)) (fun _ => rfl)) (fun _ => rfl)) (fun _ => rfl)) (fun _ => rfl)) (fun _ => rfl)) (fun _ => rfl)) (fun _ => rfl)) (fun _ => rfl)) (fun _ => rfl)) (fun _ => rfl)) (fun _ => rfl)) (fun _ => rfl)) (fun _ => rfl)) (fun _ => rfl)) (fun _ => rfl)) (fun _ => rfl)) (fun _ => rfl))
theorem sM_0_18 {w : HW} {a : Nat} {s : RT} {v : Int32} : hset (put w a 22 (shM a s)) a (cO 10 [.ref (a + 1), .ref (a + 2), .int (s.2.2 2), .ref (a + 3), .ref (a + 4), .ref (a + 5), .int (s.2.2 6), .ref (a + 6), .ref (a + 7), .ref (a + 8), .int (s.2.2 10), .ref (a + 9), .ref (a + 10), .ref (a + 11), .ref (a + 12), .ref (a + 13), .ref (a + 14), .int (s.2.2 17), .int v, .int (s.2.2 19), .int (s.2.2 20), .int (s.2.2 21), .ref (a + 15), .ref (a + 16), .ref (a + 17), .ref (a + 18), .ref (a + 19), .ref (a + 20), .ref (a + 21), .int (s.2.2 29), .int (s.2.2 30)]) = put w a 22 (shM a (rS s 18 v)) := put_hset0 (by decide) rfl (lt_s (lt_s (lt_s (lt_s (lt_s (lt_s (lt_s (lt_s (lt_s (lt_s (lt_s (lt_s (lt_s (lt_s (lt_s (lt_s (lt_s (lt_s (lt_s (lt_s (lt_s (lt_s lt_0 (fun h => absurd rfl h)) (fun _ => rfl)) (fun _ => rfl)) (fun _ => rfl)) (fun _ => rfl)) (fun _ => rfl)) (fun _ => rfl)) (fun _ => rfl)) (fun _ => rfl)) (fun _ => rfl)) (fun _ => rfl)) (fun _ => rfl)) (fun _ => rfl)) (fun _ => rfl)) (fun _ => rfl)) (fun _ => rfl)) (fun _ => rfl)) (fun _ => rfl)) (fun _ => rfl)) (fun _ => rfl)) (fun _ => rfl)) (fun _ => rfl))
theorem sM_0_19 {w : HW} {a : Nat} {s : RT} {v : Int32} : hset (put w a 22 (shM a s)) a (cO 10 [.ref (a + 1), .ref (a + 2), .int (s.2.2 2), .ref (a + 3), .ref (a + 4), .ref (a + 5), .int (s.2.2 6), .ref (a + 6), .ref (a + 7), .ref (a + 8), .int (s.2.2 10), .ref (a + 9), .ref (a + 10), .ref (a + 11), .ref (a + 12), .ref (a + 13), .ref (a + 14), .int (s.2.2 17), .int (s.2.2 18), .int v, .int (s.2.2 20), .int (s.2.2 21), .ref (a + 15), .ref (a + 16), .ref (a + 17), .ref (a + 18), .ref (a + 19), .ref (a + 20), .ref (a + 21), .int (s.2.2 29), .int (s.2.2 30)]) = put w a 22 (shM a (rS s 19 v)) := put_hset0 (by decide) rfl (lt_s (lt_s (lt_s (lt_s (lt_s (lt_s (lt_s (lt_s (lt_s (lt_s (lt_s (lt_s (lt_s (lt_s (lt_s (lt_s (lt_s (lt_s (lt_s (lt_s (lt_s (lt_s lt_0 (fun h => absurd rfl h)) (fun _ => rfl)) (fun _ => rfl)) (fun _ => rfl)) (fun _ => rfl)) (fun _ => rfl)) (fun _ => rfl)) (fun _ => rfl)) (fun _ => rfl)) (fun _ => rfl)) (fun _ => rfl)) (fun _ => rfl)) (fun _ => rfl)) (fun _ => rfl)) (fun _ => rfl)) (fun _ => rfl)) (fun _ => rfl)) (fun _ => rfl)) (fun _ => rfl)) (fun _ => rfl)) (fun _ => rfl)) (fun _ => rfl))
theorem sM_0_20 {w : HW} {a : Nat} {s : RT} {v : Int32} : hset (put w a 22 (shM a s)) a (cO 10 [.ref (a + 1), .ref (a + 2), .int (s.2.2 2), .ref (a + 3), .ref (a + 4), .ref (a + 5), .int (s.2.2 6), .ref (a + 6), .ref (a + 7), .ref (a + 8), .int (s.2.2 10), .ref (a + 9), .ref (a + 10), .ref (a + 11), .ref (a + 12), .ref (a + 13), .ref (a + 14), .int (s.2.2 17), .int (s.2.2 18), .int (s.2.2 19), .int v, .int (s.2.2 21), .ref (a + 15), .ref (a + 16), .ref (a + 17), .ref (a + 18), .ref (a + 19), .ref (a + 20), .ref (a + 21), .int (s.2.2 29), .int (s.2.2 30)]) = put w a 22 (shM a (rS s 20 v)) := put_hset0 (by decide) rfl (lt_s (lt_s (lt_s (lt_s (lt_s (lt_s (lt_s (lt_s (lt_s (lt_s (lt_s (lt_s (lt_s (lt_s (lt_s (lt_s (lt_s (lt_s (lt_s (lt_s (lt_s (lt_s lt_0 (fun h => absurd rfl h)) (fun _ => rfl)) (fun _ => rfl)) (fun _ => rfl)) (fun _ => rfl)) (fun _ => rfl)) (fun _ => rfl)) (fun _ => rfl)) (fun _ => rfl)) (fun _ => rfl)) (fun _ => rfl)) (fun _ => rfl)) (fun _ => rfl)) (fun _ => rfl)) (fun _ => rfl)) (fun _ => rfl)) (fun _ => rfl)) (fun _ => rfl)) (fun _ => rfl)) (fun _ => rfl)) (fun _ => rfl)) (fun _ => rfl))
theorem sM_0_21 {w : HW} {a : Nat} {s : RT} {v : Int32} : hset (put w a 22 (shM a s)) a (cO 10 [.ref (a + 1), .ref (a + 2), .int (s.2.2 2), .ref (a + 3), .ref (a + 4), .ref (a + 5), .int (s.2.2 6), .ref (a + 6), .ref (a + 7), .ref (a + 8), .int (s.2.2 10), .ref (a + 9), .ref (a + 10), .ref (a + 11), .ref (a + 12), .ref (a + 13), .ref (a + 14), .int (s.2.2 17), .int (s.2.2 18), .int (s.2.2 19), .int (s.2.2 20), .int v, .ref (a + 15), .ref (a + 16), .ref (a + 17), .ref (a + 18), .ref (a + 19), .ref (a + 20), .ref (a + 21), .int (s.2.2 29), .int (s.2.2 30)]) = put w a 22 (shM a (rS s 21 v)) := put_hset0 (by decide) rfl (lt_s (lt_s (lt_s (lt_s (lt_s (lt_s (lt_s (lt_s (lt_s (lt_s (lt_s (lt_s (lt_s (lt_s (lt_s (lt_s (lt_s (lt_s (lt_s (lt_s (lt_s (lt_s lt_0 (fun h => absurd rfl h)) (fun _ => rfl)) (fun _ => rfl)) (fun _ => rfl)) (fun _ => rfl)) (fun _ => rfl)) (fun _ => rfl)) (fun _ => rfl)) (fun _ => rfl)) (fun _ => rfl)) (fun _ => rfl)) (fun _ => rfl)) (fun _ => rfl)) (fun _ => rfl)) (fun _ => rfl)) (fun _ => rfl)) (fun _ => rfl)) (fun _ => rfl)) (fun _ => rfl)) (fun _ => rfl)) (fun _ => rfl)) (fun _ => rfl))
theorem sM_0_29 {w : HW} {a : Nat} {s : RT} {v : Int32} : hset (put w a 22 (shM a s)) a (cO 10 [.ref (a + 1), .ref (a + 2), .int (s.2.2 2), .ref (a + 3), .ref (a + 4), .ref (a + 5), .int (s.2.2 6), .ref (a + 6), .ref (a + 7), .ref (a + 8), .int (s.2.2 10), .ref (a + 9), .ref (a + 10), .ref (a + 11), .ref (a + 12), .ref (a + 13), .ref (a + 14), .int (s.2.2 17), .int (s.2.2 18), .int (s.2.2 19), .int (s.2.2 20), .int (s.2.2 21), .ref (a + 15), .ref (a + 16), .ref (a + 17), .ref (a + 18), .ref (a + 19), .ref (a + 20), .ref (a + 21), .int v, .int (s.2.2 30)]) = put w a 22 (shM a (rS s 29 v)) := put_hset0 (by decide) rfl (lt_s (lt_s (lt_s (lt_s (lt_s (lt_s (lt_s (lt_s (lt_s (lt_s (lt_s (lt_s (lt_s (lt_s (lt_s (lt_s (lt_s (lt_s (lt_s (lt_s (lt_s (lt_s lt_0 (fun h => absurd rfl h)) (fun _ => rfl)) (fun _ => rfl)) (fun _ => rfl)) (fun _ => rfl)) (fun _ => rfl)) (fun _ => rfl)) (fun _ => rfl)) (fun _ => rfl)) (fun _ => rfl)) (fun _ => rfl)) (fun _ => rfl)) (fun _ => rfl)) (fun _ => rfl)) (fun _ => rfl)) (fun _ => rfl)) (fun _ => rfl)) (fun _ => rfl)) (fun _ => rfl)) (fun _ => rfl)) (fun _ => rfl)) (fun _ => rfl))
theorem sM_0_30 {w : HW} {a : Nat} {s : RT} {v : Int32} : hset (put w a 22 (shM a s)) a (cO 10 [.ref (a + 1), .ref (a + 2), .int (s.2.2 2), .ref (a + 3), .ref (a + 4), .ref (a + 5), .int (s.2.2 6), .ref (a + 6), .ref (a + 7), .ref (a + 8), .int (s.2.2 10), .ref (a + 9), .ref (a + 10), .ref (a + 11), .ref (a + 12), .ref (a + 13), .ref (a + 14), .int (s.2.2 17), .int (s.2.2 18), .int (s.2.2 19), .int (s.2.2 20), .int (s.2.2 21), .ref (a + 15), .ref (a + 16), .ref (a + 17), .ref (a + 18), .ref (a + 19), .ref (a + 20), .ref (a + 21), .int (s.2.2 29), .int v]) = put w a 22 (shM a (rS s 30 v)) := put_hset0 (by decide) rfl (lt_s (lt_s (lt_s (lt_s (lt_s (lt_s (lt_s (lt_s (lt_s (lt_s (lt_s (lt_s (lt_s (lt_s (lt_s (lt_s (lt_s (lt_s (lt_s (lt_s (lt_s (lt_s lt_0 (fun h => absurd rfl h)) (fun _ => rfl)) (fun _ => rfl)) (fun _ => rfl)) (fun _ => rfl)) (fun _ => rfl)) (fun _ => rfl)) (fun _ => rfl)) (fun _ => rfl)) (fun _ => rfl)) (fun _ => rfl)) (fun _ => rfl)) (fun _ => rfl)) (fun _ => rfl)) (fun _ => rfl)) (fun _ => rfl)) (fun _ => rfl)) (fun _ => rfl)) (fun _ => rfl)) (fun _ => rfl)) (fun _ => rfl)) (fun _ => rfl))
theorem sM_1 {w : HW} {a : Nat} {s : RT} {f : Nat → Int32} : hset (put w a 22 (shM a s)) (a + 1) (cI 812 f) = put w a 22 (shM a (rI s 1 f)) := put_hset 1 (by decide) rfl (lt_s (lt_s (lt_s (lt_s (lt_s (lt_s (lt_s (lt_s (lt_s (lt_s (lt_s (lt_s (lt_s (lt_s (lt_s (lt_s (lt_s (lt_s (lt_s (lt_s (lt_s (lt_s lt_0 (fun _ => rfl)) (fun h => absurd rfl h)) (fun _ => rfl)) (fun _ => rfl)) (fun _ => rfl)) (fun _ => rfl)) (fun _ => rfl)) (fun _ => rfl)) (fun _ => rfl)) (fun _ => rfl)) (fun _ => rfl)) (fun _ => rfl)) (fun _ => rfl)) (fun _ => rfl)) (fun _ => rfl)) (fun _ => rfl)) (fun _ => rfl)) (fun _ => rfl)) (fun _ => rfl)) (fun _ => rfl)) (fun _ => rfl)) (fun _ => rfl))
theorem sM_2 {w : HW} {a : Nat} {s : RT} {f : Nat → Int32} : hset (put w a 22 (shM a s)) (a + 2) (cI 3248 f) = put w a 22 (shM a (rI s 2 f)) := put_hset 2 (by decide) rfl (lt_s (lt_s (lt_s (lt_s (lt_s (lt_s (lt_s (lt_s (lt_s (lt_s (lt_s (lt_s (lt_s (lt_s (lt_s (lt_s (lt_s (lt_s (lt_s (lt_s (lt_s (lt_s lt_0 (fun _ => rfl)) (fun _ => rfl)) (fun h => absurd rfl h)) (fun _ => rfl)) (fun _ => rfl)) (fun _ => rfl)) (fun _ => rfl)) (fun _ => rfl)) (fun _ => rfl)) (fun _ => rfl)) (fun _ => rfl)) (fun _ => rfl)) (fun _ => rfl)) (fun _ => rfl)) (fun _ => rfl)) (fun _ => rfl)) (fun _ => rfl)) (fun _ => rfl)) (fun _ => rfl)) (fun _ => rfl)) (fun _ => rfl)) (fun _ => rfl))
theorem sM_3 {w : HW} {a : Nat} {s : RT} {f : Nat → Int32} : hset (put w a 22 (shM a s)) (a + 3) (cI 1624 f) = put w a 22 (shM a (rI s 3 f)) := put_hset 3 (by decide) rfl (lt_s (lt_s (lt_s (lt_s (lt_s (lt_s (lt_s (lt_s (lt_s (lt_s (lt_s (lt_s (lt_s (lt_s (lt_s (lt_s (lt_s (lt_s (lt_s (lt_s (lt_s (lt_s lt_0 (fun _ => rfl)) (fun _ => rfl)) (fun _ => rfl)) (fun h => absurd rfl h)) (fun _ => rfl)) (fun _ => rfl)) (fun _ => rfl)) (fun _ => rfl)) (fun _ => rfl)) (fun _ => rfl)) (fun _ => rfl)) (fun _ => rfl)) (fun _ => rfl)) (fun _ => rfl)) (fun _ => rfl)) (fun _ => rfl)) (fun _ => rfl)) (fun _ => rfl)) (fun _ => rfl)) (fun _ => rfl)) (fun _ => rfl)) (fun _ => rfl))
theorem sM_4 {w : HW} {a : Nat} {s : RT} {f : Nat → Int32} : hset (put w a 22 (shM a s)) (a + 4) (cI 2 f) = put w a 22 (shM a (rI s 4 f)) := put_hset 4 (by decide) rfl (lt_s (lt_s (lt_s (lt_s (lt_s (lt_s (lt_s (lt_s (lt_s (lt_s (lt_s (lt_s (lt_s (lt_s (lt_s (lt_s (lt_s (lt_s (lt_s (lt_s (lt_s (lt_s lt_0 (fun _ => rfl)) (fun _ => rfl)) (fun _ => rfl)) (fun _ => rfl)) (fun h => absurd rfl h)) (fun _ => rfl)) (fun _ => rfl)) (fun _ => rfl)) (fun _ => rfl)) (fun _ => rfl)) (fun _ => rfl)) (fun _ => rfl)) (fun _ => rfl)) (fun _ => rfl)) (fun _ => rfl)) (fun _ => rfl)) (fun _ => rfl)) (fun _ => rfl)) (fun _ => rfl)) (fun _ => rfl)) (fun _ => rfl)) (fun _ => rfl))
theorem sM_5 {w : HW} {a : Nat} {s : RT} {f : Nat → Int32} : hset (put w a 22 (shM a s)) (a + 5) (cI 80 f) = put w a 22 (shM a (rI s 5 f)) := put_hset 5 (by decide) rfl (lt_s (lt_s (lt_s (lt_s (lt_s (lt_s (lt_s (lt_s (lt_s (lt_s (lt_s (lt_s (lt_s (lt_s (lt_s (lt_s (lt_s (lt_s (lt_s (lt_s (lt_s (lt_s lt_0 (fun _ => rfl)) (fun _ => rfl)) (fun _ => rfl)) (fun _ => rfl)) (fun _ => rfl)) (fun h => absurd rfl h)) (fun _ => rfl)) (fun _ => rfl)) (fun _ => rfl)) (fun _ => rfl)) (fun _ => rfl)) (fun _ => rfl)) (fun _ => rfl)) (fun _ => rfl)) (fun _ => rfl)) (fun _ => rfl)) (fun _ => rfl)) (fun _ => rfl)) (fun _ => rfl)) (fun _ => rfl)) (fun _ => rfl)) (fun _ => rfl))
theorem sM_6 {w : HW} {a : Nat} {s : RT} {f : Nat → Int32} : hset (put w a 22 (shM a s)) (a + 6) (cI 64 f) = put w a 22 (shM a (rI s 6 f)) := put_hset 6 (by decide) rfl (lt_s (lt_s (lt_s (lt_s (lt_s (lt_s (lt_s (lt_s (lt_s (lt_s (lt_s (lt_s (lt_s (lt_s (lt_s (lt_s (lt_s (lt_s (lt_s (lt_s (lt_s (lt_s lt_0 (fun _ => rfl)) (fun _ => rfl)) (fun _ => rfl)) (fun _ => rfl)) (fun _ => rfl)) (fun _ => rfl)) (fun h => absurd rfl h)) (fun _ => rfl)) (fun _ => rfl)) (fun _ => rfl)) (fun _ => rfl)) (fun _ => rfl)) (fun _ => rfl)) (fun _ => rfl)) (fun _ => rfl)) (fun _ => rfl)) (fun _ => rfl)) (fun _ => rfl)) (fun _ => rfl)) (fun _ => rfl)) (fun _ => rfl)) (fun _ => rfl))
theorem sM_7 {w : HW} {a : Nat} {s : RT} {f : Nat → Int32} : hset (put w a 22 (shM a s)) (a + 7) (cI 64 f) = put w a 22 (shM a (rI s 7 f)) := put_hset 7 (by decide) rfl (lt_s (lt_s (lt_s (lt_s (lt_s (lt_s (lt_s (lt_s (lt_s (lt_s (lt_s (lt_s (lt_s (lt_s (lt_s (lt_s (lt_s (lt_s (lt_s (lt_s (lt_s (lt_s lt_0 (fun _ => rfl)) (fun _ => rfl)) (fun _ => rfl)) (fun _ => rfl)) (fun _ => rfl)) (fun _ => rfl)) (fun _ => rfl)) (fun h => absurd rfl h)) (fun _ => rfl)) (fun _ => rfl)) (fun _ => rfl)) (fun _ => rfl)) (fun _ => rfl)) (fun _ => rfl)) (fun _ => rfl)) (fun _ => rfl)) (fun _ => rfl)) (fun _ => rfl)) (fun _ => rfl)) (fun _ => rfl)) (fun _ => rfl)) (fun _ => rfl))
theorem sM_8 {w : HW} {a : Nat} {s : RT} {f : Nat → Int32} : hset (put w a 22 (shM a s)) (a + 8) (cI 64 f) = put w a 22 (shM a (rI s 8 f)) := put_hset 8 (by decide) rfl (lt_s (lt_s (lt_s (lt_s (lt_s (lt_s (lt_s (lt_s (lt_s (lt_s (lt_s (lt_s (lt_s (lt_s (lt_s (lt_s (lt_s (lt_s (lt_s (lt_s (lt_s (lt_s lt_0 (fun _ => rfl)) (fun _ => rfl)) (fun _ => rfl)) (fun _ => rfl)) (fun _ => rfl)) (fun _ => rfl)) (fun _ => rfl)) (fun _ => rfl)) (fun h => absurd rfl h)) (fun _ => rfl)) (fun _ => rfl)) (fun _ => rfl)) (fun _ => rfl)) (fun _ => rfl)) (fun _ => rfl)) (fun _ => rfl)) (fun _ => rfl)) (fun _ => rfl)) (fun _ => rfl)) (fun _ => rfl)) (fun _ => rfl)) (fun _ => rfl))
theorem sM_9 {w : HW} {a : Nat} {s : RT} {f : Nat → Int32} : hset (put w a 22 (shM a s)) (a + 9) (cI 1100 f) = put w a 22 (shM a (rI s 9 f)) := put_hset 9 (by decide) rfl (lt_s (lt_s (lt_s (lt_s (lt_s (lt_s (lt_s (lt_s (lt_s (lt_s (lt_s (lt_s (lt_s (lt_s (lt_s (lt_s (lt_s (lt_s (lt_s (lt_s (lt_s (lt_s lt_0 (fun _ => rfl)) (fun _ => rfl)) (fun _ => rfl)) (fun _ => rfl)) (fun _ => rfl)) (fun _ => rfl)) (fun _ => rfl)) (fun _ => rfl)) (fun _ => rfl)) (fun h => absurd rfl h)) (fun _ => rfl)) (fun _ => rfl)) (fun _ => rfl)) (fun _ => rfl)) (fun _ => rfl)) (fun _ => rfl)) (fun _ => rfl)) (fun _ => rfl)) (fun _ => rfl)) (fun _ => rfl)) (fun _ => rfl)) (fun _ => rfl))
theorem sM_10 {w : HW} {a : Nat} {s : RT} {f : Nat → Int32} : hset (put w a 22 (shM a s)) (a + 10) (cI 1100 f) = put w a 22 (shM a (rI s 10 f)) := put_hset 10 (by decide) rfl (lt_s (lt_s (lt_s (lt_s (lt_s (lt_s (lt_s (lt_s (lt_s (lt_s (lt_s (lt_s (lt_s (lt_s (lt_s (lt_s (lt_s (lt_s (lt_s (lt_s (lt_s (lt_s lt_0 (fun _ => rfl)) (fun _ => rfl)) (fun _ => rfl)) (fun _ => rfl)) (fun _ => rfl)) (fun _ => rfl)) (fun _ => rfl)) (fun _ => rfl)) (fun _ => rfl)) (fun _ => rfl)) (fun h => absurd rfl h)) (fun _ => rfl)) (fun _ => rfl)) (fun _ => rfl)) (fun _ => rfl)) (fun _ => rfl)) (fun _ => rfl)) (fun _ => rfl)) (fun _ => rfl)) (fun _ => rfl)) (fun _ => rfl)) (fun _ => rfl))
theorem sM_11 {w : HW} {a : Nat} {s : RT} {f : Nat → Int32} : hset (put w a 22 (shM a s)) (a + 11) (cI 1100 f) = put w a 22 (shM a (rI s 11 f)) := put_hset 11 (by decide) rfl (lt_s (lt_s (lt_s (lt_s (lt_s (lt_s (lt_s (lt_s (lt_s (lt_s (lt_s (lt_s (lt_s (lt_s (lt_s (lt_s (lt_s (lt_s (lt_s (lt_s (lt_s (lt_s lt_0 (fun _ => rfl)) (fun _ => rfl)) (fun _ => rfl)) (fun _ => rfl)) (fun _ => rfl)) (fun _ => rfl)) (fun _ => rfl)) (fun _ => rfl)) (fun _ => rfl)) (fun _ => rfl)) (fun _ => rfl)) (fun h => absurd rfl h)) (fun _ => rfl)) (fun _ => rfl)) (fun _ => rfl)) (fun _ => rfl)) (fun _ => rfl)) (fun _ => rfl)) (fun _ => rfl)) (fun _ => rfl)) (fun _ => rfl)) (fun _ => rfl))
theorem sM_12 {w : HW} {a : Nat} {s : RT} {f : Nat → Int64} : hset (put w a 22 (shM a s)) (a + 12) (cL 3300 f) = put w a 22 (shM a (rL s 12 f)) := put_hset 12 (by decide) rfl (lt_s (lt_s (lt_s (lt_s (lt_s (lt_s (lt_s (lt_s (lt_s (lt_s (lt_s (lt_s (lt_s (lt_s (lt_s (lt_s (lt_s (lt_s (lt_s (lt_s (lt_s (lt_s lt_0 (fun _ => rfl)) (fun _ => rfl)) (fun _ => rfl)) (fun _ => rfl)) (fun _ => rfl)) (fun _ => rfl)) (fun _ => rfl)) (fun _ => rfl)) (fun _ => rfl)) (fun _ => rfl)) (fun _ => rfl)) (fun _ => rfl)) (fun h => absurd rfl h)) (fun _ => rfl)) (fun _ => rfl)) (fun _ => rfl)) (fun _ => rfl)) (fun _ => rfl)) (fun _ => rfl)) (fun _ => rfl)) (fun _ => rfl)) (fun _ => rfl))
theorem sM_13 {w : HW} {a : Nat} {s : RT} {f : Nat → Int64} : hset (put w a 22 (shM a s)) (a + 13) (cL 3300 f) = put w a 22 (shM a (rL s 13 f)) := put_hset 13 (by decide) rfl (lt_s (lt_s (lt_s (lt_s (lt_s (lt_s (lt_s (lt_s (lt_s (lt_s (lt_s (lt_s (lt_s (lt_s (lt_s (lt_s (lt_s (lt_s (lt_s (lt_s (lt_s (lt_s lt_0 (fun _ => rfl)) (fun _ => rfl)) (fun _ => rfl)) (fun _ => rfl)) (fun _ => rfl)) (fun _ => rfl)) (fun _ => rfl)) (fun _ => rfl)) (fun _ => rfl)) (fun _ => rfl)) (fun _ => rfl)) (fun _ => rfl)) (fun _ => rfl)) (fun h => absurd rfl h)) (fun _ => rfl)) (fun _ => rfl)) (fun _ => rfl)) (fun _ => rfl)) (fun _ => rfl)) (fun _ => rfl)) (fun _ => rfl)) (fun _ => rfl))
theorem sM_14 {w : HW} {a : Nat} {s : RT} {f : Nat → Int64} : hset (put w a 22 (shM a s)) (a + 14) (cL 3300 f) = put w a 22 (shM a (rL s 14 f)) := put_hset 14 (by decide) rfl (lt_s (lt_s (lt_s (lt_s (lt_s (lt_s (lt_s (lt_s (lt_s (lt_s (lt_s (lt_s (lt_s (lt_s (lt_s (lt_s (lt_s (lt_s (lt_s (lt_s (lt_s (lt_s lt_0 (fun _ => rfl)) (fun _ => rfl)) (fun _ => rfl)) (fun _ => rfl)) (fun _ => rfl)) (fun _ => rfl)) (fun _ => rfl)) (fun _ => rfl)) (fun _ => rfl)) (fun _ => rfl)) (fun _ => rfl)) (fun _ => rfl)) (fun _ => rfl)) (fun _ => rfl)) (fun h => absurd rfl h)) (fun _ => rfl)) (fun _ => rfl)) (fun _ => rfl)) (fun _ => rfl)) (fun _ => rfl)) (fun _ => rfl)) (fun _ => rfl))
theorem sM_15 {w : HW} {a : Nat} {s : RT} {f : Nat → Int64} : hset (put w a 22 (shM a s)) (a + 15) (cL 3 f) = put w a 22 (shM a (rL s 15 f)) := put_hset 15 (by decide) rfl (lt_s (lt_s (lt_s (lt_s (lt_s (lt_s (lt_s (lt_s (lt_s (lt_s (lt_s (lt_s (lt_s (lt_s (lt_s (lt_s (lt_s (lt_s (lt_s (lt_s (lt_s (lt_s lt_0 (fun _ => rfl)) (fun _ => rfl)) (fun _ => rfl)) (fun _ => rfl)) (fun _ => rfl)) (fun _ => rfl)) (fun _ => rfl)) (fun _ => rfl)) (fun _ => rfl)) (fun _ => rfl)) (fun _ => rfl)) (fun _ => rfl)) (fun _ => rfl)) (fun _ => rfl)) (fun _ => rfl)) (fun h => absurd rfl h)) (fun _ => rfl)) (fun _ => rfl)) (fun _ => rfl)) (fun _ => rfl)) (fun _ => rfl)) (fun _ => rfl))
theorem sM_16 {w : HW} {a : Nat} {s : RT} {f : Nat → Int64} : hset (put w a 22 (shM a s)) (a + 16) (cL 3 f) = put w a 22 (shM a (rL s 16 f)) := put_hset 16 (by decide) rfl (lt_s (lt_s (lt_s (lt_s (lt_s (lt_s (lt_s (lt_s (lt_s (lt_s (lt_s (lt_s (lt_s (lt_s (lt_s (lt_s (lt_s (lt_s (lt_s (lt_s (lt_s (lt_s lt_0 (fun _ => rfl)) (fun _ => rfl)) (fun _ => rfl)) (fun _ => rfl)) (fun _ => rfl)) (fun _ => rfl)) (fun _ => rfl)) (fun _ => rfl)) (fun _ => rfl)) (fun _ => rfl)) (fun _ => rfl)) (fun _ => rfl)) (fun _ => rfl)) (fun _ => rfl)) (fun _ => rfl)) (fun _ => rfl)) (fun h => absurd rfl h)) (fun _ => rfl)) (fun _ => rfl)) (fun _ => rfl)) (fun _ => rfl)) (fun _ => rfl))
theorem sM_17 {w : HW} {a : Nat} {s : RT} {f : Nat → Int64} : hset (put w a 22 (shM a s)) (a + 17) (cL 3 f) = put w a 22 (shM a (rL s 17 f)) := put_hset 17 (by decide) rfl (lt_s (lt_s (lt_s (lt_s (lt_s (lt_s (lt_s (lt_s (lt_s (lt_s (lt_s (lt_s (lt_s (lt_s (lt_s (lt_s (lt_s (lt_s (lt_s (lt_s (lt_s (lt_s lt_0 (fun _ => rfl)) (fun _ => rfl)) (fun _ => rfl)) (fun _ => rfl)) (fun _ => rfl)) (fun _ => rfl)) (fun _ => rfl)) (fun _ => rfl)) (fun _ => rfl)) (fun _ => rfl)) (fun _ => rfl)) (fun _ => rfl)) (fun _ => rfl)) (fun _ => rfl)) (fun _ => rfl)) (fun _ => rfl)) (fun _ => rfl)) (fun h => absurd rfl h)) (fun _ => rfl)) (fun _ => rfl)) (fun _ => rfl)) (fun _ => rfl))
theorem sM_18 {w : HW} {a : Nat} {s : RT} {f : Nat → Int64} : hset (put w a 22 (shM a s)) (a + 18) (cL 3 f) = put w a 22 (shM a (rL s 18 f)) := put_hset 18 (by decide) rfl (lt_s (lt_s (lt_s (lt_s (lt_s (lt_s (lt_s (lt_s (lt_s (lt_s (lt_s (lt_s (lt_s (lt_s (lt_s (lt_s (lt_s (lt_s (lt_s (lt_s (lt_s (lt_s lt_0 (fun _ => rfl)) (fun _ => rfl)) (fun _ => rfl)) (fun _ => rfl)) (fun _ => rfl)) (fun _ => rfl)) (fun _ => rfl)) (fun _ => rfl)) (fun _ => rfl)) (fun _ => rfl)) (fun _ => rfl)) (fun _ => rfl)) (fun _ => rfl)) (fun _ => rfl)) (fun _ => rfl)) (fun _ => rfl)) (fun _ => rfl)) (fun _ => rfl)) (fun h => absurd rfl h)) (fun _ => rfl)) (fun _ => rfl)) (fun _ => rfl))
theorem sM_19 {w : HW} {a : Nat} {s : RT} {f : Nat → Int64} : hset (put w a 22 (shM a s)) (a + 19) (cL 3 f) = put w a 22 (shM a (rL s 19 f)) := put_hset 19 (by decide) rfl (lt_s (lt_s (lt_s (lt_s (lt_s (lt_s (lt_s (lt_s (lt_s (lt_s (lt_s (lt_s (lt_s (lt_s (lt_s (lt_s (lt_s (lt_s (lt_s (lt_s (lt_s (lt_s lt_0 (fun _ => rfl)) (fun _ => rfl)) (fun _ => rfl)) (fun _ => rfl)) (fun _ => rfl)) (fun _ => rfl)) (fun _ => rfl)) (fun _ => rfl)) (fun _ => rfl)) (fun _ => rfl)) (fun _ => rfl)) (fun _ => rfl)) (fun _ => rfl)) (fun _ => rfl)) (fun _ => rfl)) (fun _ => rfl)) (fun _ => rfl)) (fun _ => rfl)) (fun _ => rfl)) (fun h => absurd rfl h)) (fun _ => rfl)) (fun _ => rfl))
theorem sM_20 {w : HW} {a : Nat} {s : RT} {f : Nat → Int64} : hset (put w a 22 (shM a s)) (a + 20) (cL 80 f) = put w a 22 (shM a (rL s 20 f)) := put_hset 20 (by decide) rfl (lt_s (lt_s (lt_s (lt_s (lt_s (lt_s (lt_s (lt_s (lt_s (lt_s (lt_s (lt_s (lt_s (lt_s (lt_s (lt_s (lt_s (lt_s (lt_s (lt_s (lt_s (lt_s lt_0 (fun _ => rfl)) (fun _ => rfl)) (fun _ => rfl)) (fun _ => rfl)) (fun _ => rfl)) (fun _ => rfl)) (fun _ => rfl)) (fun _ => rfl)) (fun _ => rfl)) (fun _ => rfl)) (fun _ => rfl)) (fun _ => rfl)) (fun _ => rfl)) (fun _ => rfl)) (fun _ => rfl)) (fun _ => rfl)) (fun _ => rfl)) (fun _ => rfl)) (fun _ => rfl)) (fun _ => rfl)) (fun h => absurd rfl h)) (fun _ => rfl))
theorem sM_21 {w : HW} {a : Nat} {s : RT} {f : Nat → Int32} : hset (put w a 22 (shM a s)) (a + 21) (cI 160 f) = put w a 22 (shM a (rI s 21 f)) := put_hset 21 (by decide) rfl (lt_s (lt_s (lt_s (lt_s (lt_s (lt_s (lt_s (lt_s (lt_s (lt_s (lt_s (lt_s (lt_s (lt_s (lt_s (lt_s (lt_s (lt_s (lt_s (lt_s (lt_s (lt_s lt_0 (fun _ => rfl)) (fun _ => rfl)) (fun _ => rfl)) (fun _ => rfl)) (fun _ => rfl)) (fun _ => rfl)) (fun _ => rfl)) (fun _ => rfl)) (fun _ => rfl)) (fun _ => rfl)) (fun _ => rfl)) (fun _ => rfl)) (fun _ => rfl)) (fun _ => rfl)) (fun _ => rfl)) (fun _ => rfl)) (fun _ => rfl)) (fun _ => rfl)) (fun _ => rfl)) (fun _ => rfl)) (fun _ => rfl)) (fun h => absurd rfl h))
end
section
theorem X.lv {G : GX} {l : Launch} {M : MD} {d mc ms k n pc : Nat} {lv lv2 : List (Nat × Value)} {st : List Value} {w : HW} {Q : Option Value → HW → Prop} (e : lv = lv2) (kk : X G l M d mc ms k n pc lv2 st w Q) : X G l M d mc ms k n pc lv st w Q := e ▸ kk
theorem retI {M : MD} {pc : Nat} {v : Int32} (h1 : decode M.2.1 pc = .ok (.ireturn, 1)) (h2 : M.2.2.2 = some .int) : RetAt M pc (some (.int v)) := And.intro h1 (Or.inl h2)
theorem retB {M : MD} {pc : Nat} {v : Int32} (h1 : decode M.2.1 pc = .ok (.ireturn, 1)) (h2 : M.2.2.2 = some .boolean) (h3 : narrow .boolean (.int v) = .int v) : RetAt M pc (some (.int v)) := And.intro h1 (Or.inr ⟨h2, h3⟩)
theorem retL {M : MD} {pc : Nat} {v : Int64} (h1 : decode M.2.1 pc = .ok (.lreturn, 1)) (h2 : M.2.2.2 = some .long) : RetAt M pc (some (.long v)) := And.intro h1 h2
theorem retV {M : MD} {pc : Nat} (h1 : decode M.2.1 pc = .ok (.return_, 1)) (h2 : M.2.2.2 = none) : RetAt M pc none := And.intro h1 h2
theorem hset_at {w : HW} {a : Nat} {c : Cel} : (hset w a c).1 a = some c := by simp [hset]
theorem hset_ne {w : HW} {a q : Nat} {c c2 : Cel} (h : q ≠ a) (hq : w.1 q = some c2) : (hset w a c).1 q = some c2 := by simp [hset, h, hq]
theorem hset_hset {w : HW} {a : Nat} {c c2 : Cel} : hset (hset w a c) a c2 = hset w a c2 := by
  refine Prod.ext (funext fun q => ?_) rfl
  by_cases h : q = a <;> simp [hset, h]
theorem hset_same {w : HW} {a : Nat} {c : Cel} (h : w.1 a = some c) : hset w a c = w := by
  refine Prod.ext (funext fun q => ?_) rfl
  by_cases e : q = a
  · subst e; simp [hset, h]
  · simp [hset, e]
theorem sw_out (lo hi : Int) (x : Int32) (h : ∀ v : Int, lo ≤ v → v ≤ hi → ¬ x.toInt = v) : x.toInt < lo ∨ hi < x.toInt := by
  rcases Int.lt_or_le x.toInt lo with h1 | h1
  · exact Or.inl h1
  · rcases Int.lt_or_le hi x.toInt with h2 | h2
    · exact Or.inr h2
    · exact absurd rfl (h _ h1 h2)
theorem sw_ne {x v : Int32} {z : Int} (h : ¬ x = v) (hv : v.toInt = z) : ¬ x.toInt = z := fun e => h (Int32.toInt_inj.mp (e.trans hv.symm))
/-- a call that writes one array, seen from any heap that holds it -/
theorem Sp.arr {G : GX} {l : Launch} {M : MD} {d : Nat} {av : List Value} {w : HW} {a z : Nat} {f : Nat → Int32} {P : Option Value → (Nat → Int32) → Prop} (ha : w.1 a = some (cI z f)) (h : Sp G l M d 0 0 av (hset w a (cI z f)) (fun r w2 => ∃ g : Nat → Int32, r = none ∧ w2 = hset w a (cI z g) ∧ P none g)) : Sp G l M d 0 0 av w (fun r w2 => ∃ g : Nat → Int32, r = none ∧ w2 = hset w a (cI z g) ∧ P none g) := by
  rw [hset_same ha] at h
  exact h
end
section
def wp_X9_pick (z : Nat) (f : Nat → Int32) (i : Int32) (K : Int32 → Prop) : Prop := ((i < (0 : Int32) → K (0 : Int32)) ∧ (¬ i < (0 : Int32) → (((nI z) ≤ i → K (0 : Int32)) ∧ (¬ (nI z) ≤ i → vp_in i z ∧ K (f i.toNatClampNeg)))))
set_option maxHeartbeats 4000000 in
theorem sp_X9_pick {G : GX} {l : Launch} {d : Nat} {w : HW} {a : Nat} {z : Nat} {f : Nat → Int32} {i : Int32} {K : Int32 → Prop} (hd : 0 ≤ d) (ha_a : w.1 a = some (cI z f)) (hQ : wp_X9_pick z f i K) : Sp G l m_X9_pick d 0 0 [.ref a, .int i] (w) (fun r w2 => ∃ (r1 : Int32), r = some (.int r1) ∧ w2 = w ∧ K r1) := by
  refine Sp.ofX k_X9_pick.1.1 (Nat.le_of_ble_eq_true rfl) ?_
  refine X.lv (lv2 := [(0, .ref a), (1, .int i)]) rfl ?_
  refine x_aload_n 0 d_X9_pick_0 rfl rfl ?_
  refine x_ifnull d_X9_pick_1 ?_
  refine x_iload_n 1 d_X9_pick_4 rfl rfl ?_
  refine x_if_lt (tgt := 20) d_X9_pick_5 (by decide) (fun c_5_1 => ?_) (fun c_5_1 => ?_)
  · have hQ := hQ.1 c_5_1
    refine x_iconst (v := (0 : Int32)) d_X9_pick_20 (by decide) ?_
    exact x_iret (retI d_X9_pick_21 rfl) ⟨_, rfl, rfl, hQ⟩
  · have hQ := hQ.2 c_5_1
    refine x_iload_n 1 d_X9_pick_8 rfl rfl ?_
    refine x_aload_n 0 d_X9_pick_9 rfl rfl ?_
    refine x_alenI ha_a d_X9_pick_10 ?_
    refine x_icmp_ge (tgt := 20) d_X9_pick_11 (by decide) (fun c_11_2 => ?_) (fun c_11_2 => ?_)
    · have hQ := hQ.1 c_11_2
      refine x_iconst (v := (0 : Int32)) d_X9_pick_20 (by decide) ?_
      exact x_iret (retI d_X9_pick_21 rfl) ⟨_, rfl, rfl, hQ⟩
    · have hQ := hQ.2 c_11_2
      refine x_aload_n 0 d_X9_pick_14 rfl rfl ?_
      refine x_iload_n 1 d_X9_pick_15 rfl rfl ?_
      have hN := hQ.1
      have hQ := hQ.2
      refine x_iald ha_a hN d_X9_pick_16 ?_
      refine x_goto (tgt := 21) d_X9_pick_17 (by decide) ?_
      exact x_iret (retI d_X9_pick_21 rfl) ⟨_, rfl, rfl, hQ⟩
def wp_X9_isWithin (x : Int32) (lo : Int32) (hi : Int32) (K : Int32 → Prop) : Prop := ((x < lo → K (0 : Int32)) ∧ (¬ x < lo → ((hi < x → K (0 : Int32)) ∧ (¬ hi < x → K (1 : Int32)))))
set_option maxHeartbeats 4000000 in
theorem sp_X9_isWithin {G : GX} {l : Launch} {d : Nat} {w : HW} {x : Int32} {lo : Int32} {hi : Int32} {K : Int32 → Prop} (hd : 0 ≤ d) (hQ : wp_X9_isWithin x lo hi K) : Sp G l m_X9_isWithin d 0 0 [.int x, .int lo, .int hi] (w) (fun r w2 => ∃ (r1 : Int32), r = some (.int r1) ∧ w2 = w ∧ K r1) := by
  refine Sp.ofX k_X9_isWithin.1.1 (Nat.le_of_ble_eq_true rfl) ?_
  refine X.lv (lv2 := [(0, .int x), (1, .int lo), (2, .int hi)]) rfl ?_
  refine x_iload_n 0 d_X9_isWithin_0 rfl rfl ?_
  refine x_iload_n 1 d_X9_isWithin_1 rfl rfl ?_
  refine x_icmp_lt (tgt := 14) d_X9_isWithin_2 (by decide) (fun c_2_1 => ?_) (fun c_2_1 => ?_)
  · have hQ := hQ.1 c_2_1
    refine x_iconst (v := (0 : Int32)) d_X9_isWithin_14 (by decide) ?_
    exact x_iret (retB d_X9_isWithin_15 rfl rfl) ⟨_, rfl, rfl, hQ⟩
  · have hQ := hQ.2 c_2_1
    refine x_iload_n 0 d_X9_isWithin_5 rfl rfl ?_
    refine x_iload_n 2 d_X9_isWithin_6 rfl rfl ?_
    refine x_icmp_gt (tgt := 14) d_X9_isWithin_7 (by decide) (fun c_7_2 => ?_) (fun c_7_2 => ?_)
    · have hQ := hQ.1 c_7_2
      refine x_iconst (v := (0 : Int32)) d_X9_isWithin_14 (by decide) ?_
      exact x_iret (retB d_X9_isWithin_15 rfl rfl) ⟨_, rfl, rfl, hQ⟩
    · have hQ := hQ.2 c_7_2
      refine x_iconst (v := (1 : Int32)) d_X9_isWithin_10 (by decide) ?_
      refine x_goto (tgt := 15) d_X9_isWithin_11 (by decide) ?_
      exact x_iret (retB d_X9_isWithin_15 rfl rfl) ⟨_, rfl, rfl, hQ⟩
def wp_X9_isVariable (x : Int32) (K : Int32 → Prop) : Prop := wp_X9_isWithin x (0 : Int32) (2 : Int32) (fun (r1 : Int32) => (narrow .boolean (.int r1) = .int r1) ∧ K r1)
set_option maxHeartbeats 4000000 in
theorem sp_X9_isVariable {G : GX} {l : Launch} {d : Nat} {w : HW} {x : Int32} {K : Int32 → Prop} (hd : 1 ≤ d) (hQ : wp_X9_isVariable x K) : Sp G l m_X9_isVariable d 0 0 [.int x] (w) (fun r w2 => ∃ (r1 : Int32), r = some (.int r1) ∧ w2 = w ∧ K r1) := by
  refine Sp.ofX k_X9_isVariable.1.1 (Nat.le_of_ble_eq_true rfl) ?_
  refine X.lv (lv2 := [(0, .int x)]) rfl ?_
  refine x_iload_n 0 d_X9_isVariable_0 rfl rfl ?_
  refine x_iconst (v := (0 : Int32)) d_X9_isVariable_1 (by decide) ?_
  refine x_iconst (v := (2 : Int32)) d_X9_isVariable_2 (by decide) ?_
  refine x_invS (rest := []) (d' := d - 1) (mc' := 0) (ms' := 0) [.int x, .int (0 : Int32), .int (2 : Int32)] k_X9_isWithin lk_X9_44 rfl rfl (Nat.le_of_ble_eq_true rfl) (by omega) (Nat.le_refl _) (Nat.le_refl _) d_X9_isVariable_3 ((sp_X9_isWithin (d := d - 1) (by omega) hQ).mono (fun r w2 hr => ?_))
  obtain ⟨r1, rfl, rfl, hQ⟩ := hr
  exact x_iret (retB d_X9_isVariable_6 rfl hQ.1) ⟨_, rfl, rfl, hQ.2⟩
def wp_X9_isDelay (x : Int32) (K : Int32 → Prop) : Prop := wp_X9_isWithin x (0 : Int32) (2 : Int32) (fun (r1 : Int32) => (narrow .boolean (.int r1) = .int r1) ∧ K r1)
set_option maxHeartbeats 4000000 in
theorem sp_X9_isDelay {G : GX} {l : Launch} {d : Nat} {w : HW} {x : Int32} {K : Int32 → Prop} (hd : 1 ≤ d) (hQ : wp_X9_isDelay x K) : Sp G l m_X9_isDelay d 0 0 [.int x] (w) (fun r w2 => ∃ (r1 : Int32), r = some (.int r1) ∧ w2 = w ∧ K r1) := by
  refine Sp.ofX k_X9_isDelay.1.1 (Nat.le_of_ble_eq_true rfl) ?_
  refine X.lv (lv2 := [(0, .int x)]) rfl ?_
  refine x_iload_n 0 d_X9_isDelay_0 rfl rfl ?_
  refine x_iconst (v := (0 : Int32)) d_X9_isDelay_1 (by decide) ?_
  refine x_iconst (v := (2 : Int32)) d_X9_isDelay_2 (by decide) ?_
  refine x_invS (rest := []) (d' := d - 1) (mc' := 0) (ms' := 0) [.int x, .int (0 : Int32), .int (2 : Int32)] k_X9_isWithin lk_X9_44 rfl rfl (Nat.le_of_ble_eq_true rfl) (by omega) (Nat.le_refl _) (Nat.le_refl _) d_X9_isDelay_3 ((sp_X9_isWithin (d := d - 1) (by omega) hQ).mono (fun r w2 hr => ?_))
  obtain ⟨r1, rfl, rfl, hQ⟩ := hr
  exact x_iret (retB d_X9_isDelay_6 rfl hQ.1) ⟨_, rfl, rfl, hQ.2⟩
def wp_X9_hold (x : Int64) (K : Int32 → Prop) : Prop := (((0 : Int32) ≤ (lg_cmp x (-1000000000 : Int64)) → (((lg_cmp x (1000000000 : Int64)) ≤ (0 : Int32) → K (x.toInt32)) ∧ (¬ (lg_cmp x (1000000000 : Int64)) ≤ (0 : Int32) → K (1000000000 : Int32)))) ∧ (¬ (0 : Int32) ≤ (lg_cmp x (-1000000000 : Int64)) → K (-1000000000 : Int32)))
set_option maxHeartbeats 4000000 in
theorem sp_X9_hold {G : GX} {l : Launch} {d : Nat} {w : HW} {x : Int64} {K : Int32 → Prop} (hd : 0 ≤ d) (hQ : wp_X9_hold x K) : Sp G l m_X9_hold d 0 0 [.long x] (w) (fun r w2 => ∃ (r1 : Int32), r = some (.int r1) ∧ w2 = w ∧ K r1) := by
  refine Sp.ofX k_X9_hold.1.1 (Nat.le_of_ble_eq_true rfl) ?_
  refine X.lv (lv2 := [(0, .long x)]) rfl ?_
  refine x_lload_n 0 d_X9_hold_0 rfl rfl ?_
  refine x_ldc2 (v := (-1000000000 : Int64)) kc_X9_244 d_X9_hold_1 ?_
  refine x_lcmp d_X9_hold_4 ?_
  refine x_if_ge (tgt := 13) d_X9_hold_5 (by decide) (fun c_5_1 => ?_) (fun c_5_1 => ?_)
  · have hQ := hQ.1 c_5_1
    refine x_lload_n 0 d_X9_hold_13 rfl rfl ?_
    refine x_ldc2 (v := (1000000000 : Int64)) kc_X9_246 d_X9_hold_14 ?_
    refine x_lcmp d_X9_hold_17 ?_
    refine x_if_le (tgt := 26) d_X9_hold_18 (by decide) (fun c_18_2 => ?_) (fun c_18_2 => ?_)
    · have hQ := hQ.1 c_18_2
      refine x_lload_n 0 d_X9_hold_26 rfl rfl ?_
      refine x_l2i d_X9_hold_27 rfl ?_
      exact x_iret (retI d_X9_hold_28 rfl) ⟨_, rfl, rfl, hQ⟩
    · have hQ := hQ.2 c_18_2
      refine x_ldc (v := (1000000000 : Int32)) kc_X9_211 d_X9_hold_21 ?_
      refine x_goto (tgt := 28) d_X9_hold_23 (by decide) ?_
      exact x_iret (retI d_X9_hold_28 rfl) ⟨_, rfl, rfl, hQ⟩
  · have hQ := hQ.2 c_5_1
    refine x_ldc (v := (-1000000000 : Int32)) kc_X9_210 d_X9_hold_8 ?_
    refine x_goto (tgt := 28) d_X9_hold_10 (by decide) ?_
    exact x_iret (retI d_X9_hold_28 rfl) ⟨_, rfl, rfl, hQ⟩
def wp_X9_quotient (x : Int64) (y : Int64) (K : Int64 → Prop) : Prop := ((¬ (lg_cmp y (0 : Int64)) = (0 : Int32) → ¬ y = 0 ∧ K (x / y)) ∧ ((lg_cmp y (0 : Int64)) = (0 : Int32) → K (0 : Int64)))
set_option maxHeartbeats 4000000 in
theorem sp_X9_quotient {G : GX} {l : Launch} {d : Nat} {w : HW} {x : Int64} {y : Int64} {K : Int64 → Prop} (hd : 0 ≤ d) (hQ : wp_X9_quotient x y K) : Sp G l m_X9_quotient d 0 0 [.long x, .long y] (w) (fun r w2 => ∃ (r1 : Int64), r = some (.long r1) ∧ w2 = w ∧ K r1) := by
  refine Sp.ofX k_X9_quotient.1.1 (Nat.le_of_ble_eq_true rfl) ?_
  refine X.lv (lv2 := [(0, .long x), (2, .long y)]) rfl ?_
  refine x_lload_n 1 d_X9_quotient_0 rfl rfl ?_
  refine x_lconst (v := (0 : Int64)) d_X9_quotient_1 (by decide) ?_
  refine x_lcmp d_X9_quotient_2 ?_
  refine x_if_ne (tgt := 10) d_X9_quotient_3 (by decide) (fun c_3_1 => ?_) (fun c_3_1 => ?_)
  · have hQ := hQ.1 c_3_1
    refine x_lload_n 0 d_X9_quotient_10 rfl rfl ?_
    refine x_lload_n 1 d_X9_quotient_11 rfl rfl ?_
    have hN := hQ.1
    have hQ := hQ.2
    refine x_ldiv d_X9_quotient_12 hN ?_
    exact x_lret (retL d_X9_quotient_13 rfl) ⟨_, rfl, rfl, hQ⟩
  · have hQ := hQ.2 c_3_1
    refine x_lconst (v := (0 : Int64)) d_X9_quotient_6 (by decide) ?_
    refine x_goto (tgt := 13) d_X9_quotient_7 (by decide) ?_
    exact x_lret (retL d_X9_quotient_13 rfl) ⟨_, rfl, rfl, hQ⟩
def wp_X9_hasBit (x : Int32) (i : Int32) (K : Int32 → Prop) : Prop := ((((x >>> (i &&& 31)) &&& (1 : Int32)) = (0 : Int32) → K (0 : Int32)) ∧ (¬ ((x >>> (i &&& 31)) &&& (1 : Int32)) = (0 : Int32) → K (1 : Int32)))
set_option maxHeartbeats 4000000 in
theorem sp_X9_hasBit {G : GX} {l : Launch} {d : Nat} {w : HW} {x : Int32} {i : Int32} {K : Int32 → Prop} (hd : 0 ≤ d) (hQ : wp_X9_hasBit x i K) : Sp G l m_X9_hasBit d 0 0 [.int x, .int i] (w) (fun r w2 => ∃ (r1 : Int32), r = some (.int r1) ∧ w2 = w ∧ K r1) := by
  refine Sp.ofX k_X9_hasBit.1.1 (Nat.le_of_ble_eq_true rfl) ?_
  refine X.lv (lv2 := [(0, .int x), (1, .int i)]) rfl ?_
  refine x_iload_n 0 d_X9_hasBit_0 rfl rfl ?_
  refine x_iload_n 1 d_X9_hasBit_1 rfl rfl ?_
  refine x_ishr d_X9_hasBit_2 ?_
  refine x_iconst (v := (1 : Int32)) d_X9_hasBit_3 (by decide) ?_
  refine x_iand d_X9_hasBit_4 ?_
  refine x_if_eq (tgt := 12) d_X9_hasBit_5 (by decide) (fun c_5_1 => ?_) (fun c_5_1 => ?_)
  · have hQ := hQ.1 c_5_1
    refine x_iconst (v := (0 : Int32)) d_X9_hasBit_12 (by decide) ?_
    exact x_iret (retB d_X9_hasBit_13 rfl rfl) ⟨_, rfl, rfl, hQ⟩
  · have hQ := hQ.2 c_5_1
    refine x_iconst (v := (1 : Int32)) d_X9_hasBit_8 (by decide) ?_
    refine x_goto (tgt := 13) d_X9_hasBit_9 (by decide) ?_
    exact x_iret (retB d_X9_hasBit_13 rfl rfl) ⟨_, rfl, rfl, hQ⟩
def wp_X9_pastOperand (i : Int32) (j : Int32) (K : Int32 → Prop) : Prop := K (((4 : Int32) + (i * (3 : Int32))) + j)
set_option maxHeartbeats 4000000 in
theorem sp_X9_pastOperand {G : GX} {l : Launch} {d : Nat} {w : HW} {i : Int32} {j : Int32} {K : Int32 → Prop} (hd : 0 ≤ d) (hQ : wp_X9_pastOperand i j K) : Sp G l m_X9_pastOperand d 0 0 [.int i, .int j] (w) (fun r w2 => ∃ (r1 : Int32), r = some (.int r1) ∧ w2 = w ∧ K r1) := by
  refine Sp.ofX k_X9_pastOperand.1.1 (Nat.le_of_ble_eq_true rfl) ?_
  refine X.lv (lv2 := [(0, .int i), (1, .int j)]) rfl ?_
  refine x_iconst (v := (4 : Int32)) d_X9_pastOperand_0 (by decide) ?_
  refine x_iload_n 0 d_X9_pastOperand_1 rfl rfl ?_
  refine x_iconst (v := (3 : Int32)) d_X9_pastOperand_2 (by decide) ?_
  refine x_imul d_X9_pastOperand_3 ?_
  refine x_iadd d_X9_pastOperand_4 ?_
  refine x_iload_n 1 d_X9_pastOperand_5 rfl rfl ?_
  refine x_iadd d_X9_pastOperand_6 ?_
  exact x_iret (retI d_X9_pastOperand_7 rfl) ⟨_, rfl, rfl, hQ⟩
def wp_X9_slopeOperand (i : Int32) (j : Int32) (K : Int32 → Prop) : Prop := K (((13 : Int32) + (i * (3 : Int32))) + j)
set_option maxHeartbeats 4000000 in
theorem sp_X9_slopeOperand {G : GX} {l : Launch} {d : Nat} {w : HW} {i : Int32} {j : Int32} {K : Int32 → Prop} (hd : 0 ≤ d) (hQ : wp_X9_slopeOperand i j K) : Sp G l m_X9_slopeOperand d 0 0 [.int i, .int j] (w) (fun r w2 => ∃ (r1 : Int32), r = some (.int r1) ∧ w2 = w ∧ K r1) := by
  refine Sp.ofX k_X9_slopeOperand.1.1 (Nat.le_of_ble_eq_true rfl) ?_
  refine X.lv (lv2 := [(0, .int i), (1, .int j)]) rfl ?_
  refine x_bipush (v := (13 : Int32)) d_X9_slopeOperand_0 (by decide) ?_
  refine x_iload_n 0 d_X9_slopeOperand_2 rfl rfl ?_
  refine x_iconst (v := (3 : Int32)) d_X9_slopeOperand_3 (by decide) ?_
  refine x_imul d_X9_slopeOperand_4 ?_
  refine x_iadd d_X9_slopeOperand_5 ?_
  refine x_iload_n 1 d_X9_slopeOperand_6 rfl rfl ?_
  refine x_iadd d_X9_slopeOperand_7 ?_
  exact x_iret (retI d_X9_slopeOperand_8 rfl) ⟨_, rfl, rfl, hQ⟩
def wp_X9_needsDelay (x : Int32) (i : Int32) (K : Int32 → Prop) : Prop := wp_X9_pastOperand i (0 : Int32) (fun (r1 : Int32) => wp_X9_slopeOperand i (0 : Int32) (fun (r2 : Int32) => ∀ x3 : Int32, x3 = ((7 : Int32) <<< (r1 &&& 31)) ||| ((7 : Int32) <<< (r2 &&& 31)) → (((x &&& x3) = (0 : Int32) → K (0 : Int32)) ∧ (¬ (x &&& x3) = (0 : Int32) → K (1 : Int32)))))
set_option maxHeartbeats 4000000 in
theorem sp_X9_needsDelay {G : GX} {l : Launch} {d : Nat} {w : HW} {x : Int32} {i : Int32} {K : Int32 → Prop} (hd : 1 ≤ d) (hQ : wp_X9_needsDelay x i K) : Sp G l m_X9_needsDelay d 0 0 [.int x, .int i] (w) (fun r w2 => ∃ (r1 : Int32), r = some (.int r1) ∧ w2 = w ∧ K r1) := by
  refine Sp.ofX k_X9_needsDelay.1.1 (Nat.le_of_ble_eq_true rfl) ?_
  refine X.lv (lv2 := [(0, .int x), (1, .int i)]) rfl ?_
  refine x_bipush (v := (7 : Int32)) d_X9_needsDelay_0 (by decide) ?_
  refine x_iload_n 1 d_X9_needsDelay_2 rfl rfl ?_
  refine x_iconst (v := (0 : Int32)) d_X9_needsDelay_3 (by decide) ?_
  refine x_invS (rest := [.int (7 : Int32)]) (d' := d - 1) (mc' := 0) (ms' := 0) [.int i, .int (0 : Int32)] k_X9_pastOperand lk_X9_257 rfl rfl (Nat.le_of_ble_eq_true rfl) (by omega) (Nat.le_refl _) (Nat.le_refl _) d_X9_needsDelay_4 ((sp_X9_pastOperand (d := d - 1) (by omega) hQ).mono (fun r w2 hr => ?_))
  obtain ⟨r1, rfl, rfl, hQ⟩ := hr
  refine x_ishl d_X9_needsDelay_7 ?_
  refine x_bipush (v := (7 : Int32)) d_X9_needsDelay_8 (by decide) ?_
  refine x_iload_n 1 d_X9_needsDelay_10 rfl rfl ?_
  refine x_iconst (v := (0 : Int32)) d_X9_needsDelay_11 (by decide) ?_
  refine x_invS (rest := [.int (7 : Int32), .int ((7 : Int32) <<< (r1 &&& 31))]) (d' := d - 1) (mc' := 0) (ms' := 0) [.int i, .int (0 : Int32)] k_X9_slopeOperand lk_X9_260 rfl rfl (Nat.le_of_ble_eq_true rfl) (by omega) (Nat.le_refl _) (Nat.le_refl _) d_X9_needsDelay_12 ((sp_X9_slopeOperand (d := d - 1) (by omega) hQ).mono (fun r w2 hr => ?_))
  obtain ⟨r2, rfl, rfl, hQ⟩ := hr
  refine x_ishl d_X9_needsDelay_15 ?_
  refine x_ior d_X9_needsDelay_16 ?_
  refine x_topi (fun x3 e_x3 => ?_)
  have hQ := hQ x3 e_x3
  refine x_istore_n (lv2 := [(2, .int x3), (0, .int x), (1, .int i)]) d_X9_needsDelay_17 rfl (by decide) rfl ?_
  refine x_iload_n 1 d_X9_needsDelay_18 rfl rfl ?_
  refine x_iload_n 0 d_X9_needsDelay_19 rfl rfl ?_
  refine x_iand d_X9_needsDelay_20 ?_
  refine x_if_eq (tgt := 28) d_X9_needsDelay_21 (by decide) (fun c_21_4 => ?_) (fun c_21_4 => ?_)
  · have hQ := hQ.1 c_21_4
    refine x_iconst (v := (0 : Int32)) d_X9_needsDelay_28 (by decide) ?_
    exact x_iret (retB d_X9_needsDelay_29 rfl rfl) ⟨_, rfl, rfl, hQ⟩
  · have hQ := hQ.2 c_21_4
    refine x_iconst (v := (1 : Int32)) d_X9_needsDelay_24 (by decide) ?_
    refine x_goto (tgt := 29) d_X9_needsDelay_25 (by decide) ?_
    exact x_iret (retB d_X9_needsDelay_29 rfl rfl) ⟨_, rfl, rfl, hQ⟩
def lp_X9_delaysIn_4 (x : Int32) (K : Int32 → Prop) : Nat → Int32 → Int32 → Prop
  | 0, _, _ => False
  | n + 1, x_1, x_2 => (((3 : Int32) ≤ x_2 → K x_1) ∧ (¬ (3 : Int32) ≤ x_2 → wp_X9_needsDelay x x_2 (fun (r2 : Int32) => ((r2 = (0 : Int32) → ∀ x4 : Int32, x4 = x_2 + (1 : Int32) → lp_X9_delaysIn_4 x K n x_1 x4) ∧ (¬ r2 = (0 : Int32) → ∀ x5 : Int32, x5 = x_1 ||| ((1 : Int32) <<< (x_2 &&& 31)) → ∀ x6 : Int32, x6 = x_2 + (1 : Int32) → lp_X9_delaysIn_4 x K n x5 x6)))))
set_option maxHeartbeats 4000000 in
theorem jt_X9_delaysIn_4 {G : GX} {l : Launch} {d : Nat} {w : HW} {x : Int32} {K : Int32 → Prop} (hd : 2 ≤ d) : ∀ (n : Nat) (x_1 : Int32) (x_2 : Int32), lp_X9_delaysIn_4 x K n x_1 x_2 → X G l m_X9_delaysIn d 0 0 0 0 4 [(0, .int x), (1, .int x_1), (2, .int x_2)] [] (w) (fun r w2 => ∃ (r1 : Int32), r = some (.int r1) ∧ w2 = w ∧ K r1) := by
  intro n
  induction n with
  | zero =>
    intro x_1 x_2 hQ
    exact hQ.elim
  | succ n ih =>
    intro x_1 x_2 hQ
    refine x_iload_n 2 d_X9_delaysIn_4 rfl rfl ?_
    refine x_iconst (v := (3 : Int32)) d_X9_delaysIn_5 (by decide) ?_
    refine x_icmp_ge (tgt := 29) d_X9_delaysIn_6 (by decide) (fun c_6_1 => ?_) (fun c_6_1 => ?_)
    · have hQ := hQ.1 c_6_1
      refine x_iload_n 1 d_X9_delaysIn_29 rfl rfl ?_
      exact x_iret (retI d_X9_delaysIn_30 rfl) ⟨_, rfl, rfl, hQ⟩
    · have hQ := hQ.2 c_6_1
      refine x_iload_n 0 d_X9_delaysIn_9 rfl rfl ?_
      refine x_iload_n 2 d_X9_delaysIn_10 rfl rfl ?_
      refine x_invS (rest := []) (d' := d - 1) (mc' := 0) (ms' := 0) [.int x, .int x_2] k_X9_needsDelay lk_X9_263 rfl rfl (Nat.le_of_ble_eq_true rfl) (by omega) (Nat.le_refl _) (Nat.le_refl _) d_X9_delaysIn_11 ((sp_X9_needsDelay (d := d - 1) (by omega) hQ).mono (fun r w2 hr => ?_))
      obtain ⟨r2, rfl, rfl, hQ⟩ := hr
      refine x_if_eq (tgt := 23) d_X9_delaysIn_14 (by decide) (fun c_14_3 => ?_) (fun c_14_3 => ?_)
      · have hQ := hQ.1 c_14_3
        obtain ⟨x4, e_x4⟩ : ∃ z : Int32, z = x_2 + (1 : Int32) := ⟨_, rfl⟩
        have hQ := hQ x4 e_x4
        refine x_iinc (v := x4) (lv2 := [(2, .int x4), (0, .int x), (1, .int x_1)]) 2 d_X9_delaysIn_23 rfl (by rw [e_x4]; rfl) (by decide) rfl ?_
        refine x_goto (tgt := 4) d_X9_delaysIn_26 (by decide) ?_
        refine x_sub [1, 2, 0] (lv2 := [(0, .int x), (1, .int x_1), (2, .int x4)]) rfl ?_
        exact ih x_1 x4 hQ
      · have hQ := hQ.2 c_14_3
        refine x_iload_n 1 d_X9_delaysIn_17 rfl rfl ?_
        refine x_iconst (v := (1 : Int32)) d_X9_delaysIn_18 (by decide) ?_
        refine x_iload_n 2 d_X9_delaysIn_19 rfl rfl ?_
        refine x_ishl d_X9_delaysIn_20 ?_
        refine x_ior d_X9_delaysIn_21 ?_
        refine x_topi (fun x5 e_x5 => ?_)
        have hQ := hQ x5 e_x5
        refine x_istore_n (lv2 := [(1, .int x5), (0, .int x), (2, .int x_2)]) d_X9_delaysIn_22 rfl (by decide) rfl ?_
        obtain ⟨x6, e_x6⟩ : ∃ z : Int32, z = x_2 + (1 : Int32) := ⟨_, rfl⟩
        have hQ := hQ x6 e_x6
        refine x_iinc (v := x6) (lv2 := [(2, .int x6), (1, .int x5), (0, .int x)]) 2 d_X9_delaysIn_23 rfl (by rw [e_x6]; rfl) (by decide) rfl ?_
        refine x_goto (tgt := 4) d_X9_delaysIn_26 (by decide) ?_
        refine x_sub [2, 1, 0] (lv2 := [(0, .int x), (1, .int x5), (2, .int x6)]) rfl ?_
        exact ih x5 x6 hQ
def wp_X9_delaysIn (x : Int32) (K : Int32 → Prop) : Prop := ∃ n : Nat, lp_X9_delaysIn_4 x K n (0 : Int32) (0 : Int32)
set_option maxHeartbeats 4000000 in
theorem sp_X9_delaysIn {G : GX} {l : Launch} {d : Nat} {w : HW} {x : Int32} {K : Int32 → Prop} (hd : 2 ≤ d) (hQ : wp_X9_delaysIn x K) : Sp G l m_X9_delaysIn d 0 0 [.int x] (w) (fun r w2 => ∃ (r1 : Int32), r = some (.int r1) ∧ w2 = w ∧ K r1) := by
  refine Sp.ofX k_X9_delaysIn.1.1 (Nat.le_of_ble_eq_true rfl) ?_
  refine X.lv (lv2 := [(0, .int x)]) rfl ?_
  refine x_iconst (v := (0 : Int32)) d_X9_delaysIn_0 (by decide) ?_
  refine x_istore_n (lv2 := [(1, .int (0 : Int32)), (0, .int x)]) d_X9_delaysIn_1 rfl (by decide) rfl ?_
  refine x_iconst (v := (0 : Int32)) d_X9_delaysIn_2 (by decide) ?_
  refine x_istore_n (lv2 := [(2, .int (0 : Int32)), (1, .int (0 : Int32)), (0, .int x)]) d_X9_delaysIn_3 rfl (by decide) rfl ?_
  refine x_sub [2, 1, 0] (lv2 := [(0, .int x), (1, .int (0 : Int32)), (2, .int (0 : Int32))]) rfl ?_
  obtain ⟨n, hQ⟩ := hQ
  exact jt_X9_delaysIn_4 hd n (0 : Int32) (0 : Int32) hQ
def wp_X3_lagAt (s : RT) (i : Int32) (t : Int32) (K : Int32 → Prop) : Prop := wp_X9_pick 3 (s.1 6) i (fun (r1 : Int32) => wp_X9_pick 3 (s.1 7) i (fun (r2 : Int32) => K (if (0 : Int32) < (r1 + ((r2 * t) / (1000 : Int32))) then (r1 + ((r2 * t) / (1000 : Int32))) else (0 : Int32))))
set_option maxHeartbeats 4000000 in
theorem sp_X3_lagAt {G : GX} {l : Launch} {d : Nat} {w : HW} {a : Nat} {s : RT} {i : Int32} {t : Int32} {K : Int32 → Prop} (hd : 1 ≤ d) (hQ : wp_X3_lagAt s i t K) : Sp G l m_X3_lagAt d 0 0 [.ref (a + 5), .int i, .int t] (put w a 19 (shS a s)) (fun r w2 => ∃ (r1 : Int32), r = some (.int r1) ∧ w2 = put w a 19 (shS a s) ∧ K r1) := by
  refine Sp.ofX k_X3_lagAt.1.1 (Nat.le_of_ble_eq_true rfl) ?_
  refine X.lv (lv2 := [(0, .ref (a + 5)), (1, .int i), (2, .int t)]) rfl ?_
  refine x_iconst (v := (0 : Int32)) d_X3_lagAt_0 (by decide) ?_
  refine x_aload_n 0 d_X3_lagAt_1 rfl rfl ?_
  refine x_getf 0 gf_X3_9 gS_5 rfl d_X3_lagAt_2 ?_
  refine x_iload_n 1 d_X3_lagAt_5 rfl rfl ?_
  refine x_invSN (rest := [.int (0 : Int32)]) (d' := d - 1) (mc' := 0) (ms' := 0) [.ref (a + 6), .int i] "LagSolver" k_X9_pick lk_X3_18 rfl rfl (Nat.le_of_ble_eq_true rfl) (by omega) (Nat.le_refl _) (Nat.le_refl _) d_X3_lagAt_6 ((sp_X9_pick (d := d - 1) (by omega) gS_6 hQ).mono (fun r w2 hr => ?_))
  obtain ⟨r1, rfl, rfl, hQ⟩ := hr
  refine x_aload_n 0 d_X3_lagAt_9 rfl rfl ?_
  refine x_getf 1 gf_X3_15 gS_5 rfl d_X3_lagAt_10 ?_
  refine x_iload_n 1 d_X3_lagAt_13 rfl rfl ?_
  refine x_invSN (rest := [.int r1, .int (0 : Int32)]) (d' := d - 1) (mc' := 0) (ms' := 0) [.ref (a + 7), .int i] "LagSolver" k_X9_pick lk_X3_18 rfl rfl (Nat.le_of_ble_eq_true rfl) (by omega) (Nat.le_refl _) (Nat.le_refl _) d_X3_lagAt_14 ((sp_X9_pick (d := d - 1) (by omega) gS_7 hQ).mono (fun r w2 hr => ?_))
  obtain ⟨r2, rfl, rfl, hQ⟩ := hr
  refine x_iload_n 2 d_X3_lagAt_17 rfl rfl ?_
  refine x_imul d_X3_lagAt_18 ?_
  refine x_sipush (v := (1000 : Int32)) d_X3_lagAt_19 (by decide) ?_
  refine x_idiv d_X3_lagAt_22 (by decide) ?_
  refine x_iadd d_X3_lagAt_23 ?_
  refine x_mmax lk_X3_22 jw_max_s iw_Math jw_max_c (Nat.le_of_ble_eq_true rfl) (by omega) d_X3_lagAt_24 ?_
  exact x_iret (retI d_X3_lagAt_27 rfl) ⟨_, rfl, rfl, hQ⟩
def jp_X3_reach_68 (s : RT) (i : Int32) (u : Int32) (K : Int32 → Prop) (x_3 : Int32) : Prop := (((8000 : Int32) < x_3 → K (0 : Int32)) ∧ (¬ (8000 : Int32) < x_3 → wp_X3_lagAt s i x_3 (fun (r4 : Int32) => ((¬ r4 = (0 : Int32) → K x_3) ∧ (r4 = (0 : Int32) → K (0 : Int32))))))
set_option maxHeartbeats 4000000 in
theorem jt_X3_reach_68 {G : GX} {l : Launch} {d : Nat} {w : HW} {a : Nat} {s : RT} {i : Int32} {u : Int32} {K : Int32 → Prop} (hd : 2 ≤ d) (x_3 : Int32) (hQ : jp_X3_reach_68 s i u K x_3) : X G l m_X3_reach d 0 0 0 0 68 [(0, .ref (a + 5)), (1, .int i), (3, .int x_3)] [] (put w a 19 (shS a s)) (fun r w2 => ∃ (r1 : Int32), r = some (.int r1) ∧ w2 = put w a 19 (shS a s) ∧ K r1) := by
  refine x_iload_n 2 d_X3_reach_68 rfl rfl ?_
  refine x_sipush (v := (8000 : Int32)) d_X3_reach_69 (by decide) ?_
  refine x_icmp_gt (tgt := 84) d_X3_reach_72 (by decide) (fun c_72_3 => ?_) (fun c_72_3 => ?_)
  · have hQ := hQ.1 c_72_3
    refine x_iconst (v := (0 : Int32)) d_X3_reach_84 (by decide) ?_
    refine x_goto (tgt := 89) d_X3_reach_85 (by decide) ?_
    exact x_iret (retI d_X3_reach_89 rfl) ⟨_, rfl, rfl, hQ⟩
  · have hQ := hQ.2 c_72_3
    refine x_aload_n 0 d_X3_reach_75 rfl rfl ?_
    refine x_iload_n 1 d_X3_reach_76 rfl rfl ?_
    refine x_iload_n 2 d_X3_reach_77 rfl rfl ?_
    refine x_invV (rest := []) (d' := d - 1) (mc' := 0) (ms' := 0) [.int i, .int x_3] k_X3_lagAt lk_X3_28 gS_5 rfl rfl rfl (Nat.le_of_ble_eq_true rfl) (by omega) (Nat.le_refl _) (Nat.le_refl _) d_X3_reach_78 ((sp_X3_lagAt (d := d - 1) (by omega) hQ).mono (fun r w2 hr => ?_))
    obtain ⟨r4, rfl, rfl, hQ⟩ := hr
    refine x_if_ne (tgt := 88) d_X3_reach_81 (by decide) (fun c_81_5 => ?_) (fun c_81_5 => ?_)
    · have hQ := hQ.1 c_81_5
      refine x_iload_n 2 d_X3_reach_88 rfl rfl ?_
      exact x_iret (retI d_X3_reach_89 rfl) ⟨_, rfl, rfl, hQ⟩
    · have hQ := hQ.2 c_81_5
      refine x_iconst (v := (0 : Int32)) d_X3_reach_84 (by decide) ?_
      refine x_goto (tgt := 89) d_X3_reach_85 (by decide) ?_
      exact x_iret (retI d_X3_reach_89 rfl) ⟨_, rfl, rfl, hQ⟩
def lp_X3_reach_12 (s : RT) (i : Int32) (u : Int32) (K : Int32 → Prop) : Nat → Int32 → Int32 → Int32 → Prop
  | 0, _, _, _ => False
  | n + 1, x_3, x_4, x_5 => (((8000 : Int32) ≤ x_5 → jp_X3_reach_68 s i u K x_3) ∧ (¬ (8000 : Int32) ≤ x_5 → ((x_4 ≤ x_3 → jp_X3_reach_68 s i u K x_3) ∧ (¬ x_4 ≤ x_3 → ∀ x7 : Int32, x7 = x_3 + ((x_4 - x_3) / (2 : Int32)) → wp_X3_lagAt s i x7 (fun (r8 : Int32) => (((x7 - r8) < u → ∀ x10 : Int32, x10 = x7 + (1 : Int32) → ∀ x11 : Int32, x11 = x_5 + (1 : Int32) → lp_X3_reach_12 s i u K n x10 x_4 x11) ∧ (¬ (x7 - r8) < u → ∀ x12 : Int32, x12 = x_5 + (1 : Int32) → lp_X3_reach_12 s i u K n x_3 x7 x12)))))))
set_option maxHeartbeats 4000000 in
theorem jt_X3_reach_12 {G : GX} {l : Launch} {d : Nat} {w : HW} {a : Nat} {s : RT} {i : Int32} {u : Int32} {K : Int32 → Prop} (hd : 2 ≤ d) : ∀ (n : Nat) (x_3 : Int32) (x_4 : Int32) (x_5 : Int32), lp_X3_reach_12 s i u K n x_3 x_4 x_5 → X G l m_X3_reach d 0 0 0 0 12 [(0, .ref (a + 5)), (1, .int i), (2, .int u), (3, .int x_3), (4, .int x_4), (5, .int x_5)] [] (put w a 19 (shS a s)) (fun r w2 => ∃ (r1 : Int32), r = some (.int r1) ∧ w2 = put w a 19 (shS a s) ∧ K r1) := by
  intro n
  induction n with
  | zero =>
    intro x_3 x_4 x_5 hQ
    exact hQ.elim
  | succ n ih =>
    intro x_3 x_4 x_5 hQ
    refine x_iload 5 d_X3_reach_12 rfl ?_
    refine x_sipush (v := (8000 : Int32)) d_X3_reach_14 (by decide) ?_
    refine x_icmp_ge (tgt := 68) d_X3_reach_17 (by decide) (fun c_17_2 => ?_) (fun c_17_2 => ?_)
    · have hQ := hQ.1 c_17_2
      refine x_sub [0, 1, 3] (lv2 := [(0, .ref (a + 5)), (1, .int i), (3, .int x_3)]) rfl ?_
      exact jt_X3_reach_68 hd x_3 hQ
    · have hQ := hQ.2 c_17_2
      refine x_iload_n 3 d_X3_reach_20 rfl rfl ?_
      refine x_iload 4 d_X3_reach_21 rfl ?_
      refine x_icmp_ge (tgt := 68) d_X3_reach_23 (by decide) (fun c_23_6 => ?_) (fun c_23_6 => ?_)
      · have hQ := hQ.1 c_23_6
        refine x_sub [0, 1, 3] (lv2 := [(0, .ref (a + 5)), (1, .int i), (3, .int x_3)]) rfl ?_
        exact jt_X3_reach_68 hd x_3 hQ
      · have hQ := hQ.2 c_23_6
        refine x_iload_n 3 d_X3_reach_26 rfl rfl ?_
        refine x_iload 4 d_X3_reach_27 rfl ?_
        refine x_iload_n 3 d_X3_reach_29 rfl rfl ?_
        refine x_isub d_X3_reach_30 ?_
        refine x_iconst (v := (2 : Int32)) d_X3_reach_31 (by decide) ?_
        refine x_idiv d_X3_reach_32 (by decide) ?_
        refine x_iadd d_X3_reach_33 ?_
        refine x_topi (fun x7 e_x7 => ?_)
        have hQ := hQ x7 e_x7
        refine x_istore (lv2 := [(6, .int x7), (0, .ref (a + 5)), (1, .int i), (2, .int u), (3, .int x_3), (4, .int x_4), (5, .int x_5)]) d_X3_reach_34 (by decide) rfl ?_
        refine x_iload 0 d_X3_reach_36 rfl ?_
        refine x_aload_n 1 d_X3_reach_38 rfl rfl ?_
        refine x_iload_n 2 d_X3_reach_39 rfl rfl ?_
        refine x_iload 0 d_X3_reach_40 rfl ?_
        refine x_invV (rest := [.int x7]) (d' := d - 1) (mc' := 0) (ms' := 0) [.int i, .int x7] k_X3_lagAt lk_X3_28 gS_5 rfl rfl rfl (Nat.le_of_ble_eq_true rfl) (by omega) (Nat.le_refl _) (Nat.le_refl _) d_X3_reach_42 ((sp_X3_lagAt (d := d - 1) (by omega) hQ).mono (fun r w2 hr => ?_))
        obtain ⟨r8, rfl, rfl, hQ⟩ := hr
        refine x_isub d_X3_reach_45 ?_
        refine x_iload_n 3 d_X3_reach_46 rfl rfl ?_
        refine x_icmp_lt (tgt := 57) d_X3_reach_47 (by decide) (fun c_47_9 => ?_) (fun c_47_9 => ?_)
        · have hQ := hQ.1 c_47_9
          refine x_iload 0 d_X3_reach_57 rfl ?_
          refine x_iconst (v := (1 : Int32)) d_X3_reach_59 (by decide) ?_
          refine x_iadd d_X3_reach_60 ?_
          refine x_topi (fun x10 e_x10 => ?_)
          have hQ := hQ x10 e_x10
          refine x_istore_n (lv2 := [(3, .int x10), (6, .int x7), (0, .ref (a + 5)), (1, .int i), (2, .int u), (4, .int x_4), (5, .int x_5)]) d_X3_reach_61 rfl (by decide) rfl ?_
          obtain ⟨x11, e_x11⟩ : ∃ z : Int32, z = x_5 + (1 : Int32) := ⟨_, rfl⟩
          have hQ := hQ x11 e_x11
          refine x_iinc (v := x11) (lv2 := [(5, .int x11), (3, .int x10), (6, .int x7), (0, .ref (a + 5)), (1, .int i), (2, .int u), (4, .int x_4)]) 6 d_X3_reach_62 rfl (by rw [e_x11]; rfl) (by decide) rfl ?_
          refine x_goto (tgt := 12) d_X3_reach_65 (by decide) ?_
          refine x_sub [3, 4, 5, 1, 6, 0] (lv2 := [(0, .ref (a + 5)), (1, .int i), (2, .int u), (3, .int x10), (4, .int x_4), (5, .int x11)]) rfl ?_
          exact ih x10 x_4 x11 hQ
        · have hQ := hQ.2 c_47_9
          refine x_iload 0 d_X3_reach_50 rfl ?_
          refine x_istore (lv2 := [(4, .int x7), (6, .int x7), (0, .ref (a + 5)), (1, .int i), (2, .int u), (3, .int x_3), (5, .int x_5)]) d_X3_reach_52 (by decide) rfl ?_
          refine x_goto (tgt := 62) d_X3_reach_54 (by decide) ?_
          obtain ⟨x12, e_x12⟩ : ∃ z : Int32, z = x_5 + (1 : Int32) := ⟨_, rfl⟩
          have hQ := hQ x12 e_x12
          refine x_iinc (v := x12) (lv2 := [(5, .int x12), (4, .int x7), (6, .int x7), (0, .ref (a + 5)), (1, .int i), (2, .int u), (3, .int x_3)]) 6 d_X3_reach_62 rfl (by rw [e_x12]; rfl) (by decide) rfl ?_
          refine x_goto (tgt := 12) d_X3_reach_65 (by decide) ?_
          refine x_sub [3, 4, 5, 6, 1, 0] (lv2 := [(0, .ref (a + 5)), (1, .int i), (2, .int u), (3, .int x_3), (4, .int x7), (5, .int x12)]) rfl ?_
          exact ih x_3 x7 x12 hQ
def wp_X3_reach (s : RT) (i : Int32) (u : Int32) (K : Int32 → Prop) : Prop := ∀ x1 : Int32, x1 = u + (1 : Int32) → ∃ n : Nat, lp_X3_reach_12 s i u K n x1 (8001 : Int32) (0 : Int32)
set_option maxHeartbeats 4000000 in
theorem sp_X3_reach {G : GX} {l : Launch} {d : Nat} {w : HW} {a : Nat} {s : RT} {i : Int32} {u : Int32} {K : Int32 → Prop} (hd : 2 ≤ d) (hQ : wp_X3_reach s i u K) : Sp G l m_X3_reach d 0 0 [.ref (a + 5), .int i, .int u] (put w a 19 (shS a s)) (fun r w2 => ∃ (r1 : Int32), r = some (.int r1) ∧ w2 = put w a 19 (shS a s) ∧ K r1) := by
  refine Sp.ofX k_X3_reach.1.1 (Nat.le_of_ble_eq_true rfl) ?_
  refine X.lv (lv2 := [(0, .ref (a + 5)), (1, .int i), (2, .int u)]) rfl ?_
  refine x_iload_n 2 d_X3_reach_0 rfl rfl ?_
  refine x_iconst (v := (1 : Int32)) d_X3_reach_1 (by decide) ?_
  refine x_iadd d_X3_reach_2 ?_
  refine x_topi (fun x1 e_x1 => ?_)
  have hQ := hQ x1 e_x1
  refine x_istore_n (lv2 := [(3, .int x1), (0, .ref (a + 5)), (1, .int i), (2, .int u)]) d_X3_reach_3 rfl (by decide) rfl ?_
  refine x_sipush (v := (8001 : Int32)) d_X3_reach_4 (by decide) ?_
  refine x_istore (lv2 := [(4, .int (8001 : Int32)), (3, .int x1), (0, .ref (a + 5)), (1, .int i), (2, .int u)]) d_X3_reach_7 (by decide) rfl ?_
  refine x_iconst (v := (0 : Int32)) d_X3_reach_9 (by decide) ?_
  refine x_istore (lv2 := [(5, .int (0 : Int32)), (4, .int (8001 : Int32)), (3, .int x1), (0, .ref (a + 5)), (1, .int i), (2, .int u)]) d_X3_reach_10 (by decide) rfl ?_
  refine x_sub [3, 4, 5, 2, 1, 0] (lv2 := [(0, .ref (a + 5)), (1, .int i), (2, .int u), (3, .int x1), (4, .int (8001 : Int32)), (5, .int (0 : Int32))]) rfl ?_
  obtain ⟨n, hQ⟩ := hQ
  exact jt_X3_reach_12 hd n x1 (8001 : Int32) (0 : Int32) hQ
end
