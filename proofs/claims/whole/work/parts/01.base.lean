-- ===== PART A: goes FIRST, ahead of the names: the tables' words, and 'selects' of the private methods out of them =====
/-- a private method of a class that the tables say can be made, by its rows of tables_1 -/
def lw_okq (q : MethodName × Nat) : Prop := (q.1.cls ≠ "java/lang/invoke/MethodHandle" ∧ q.1.cls ≠ "java/lang/invoke/VarHandle") ∧ Cond.instantiable q.1.cls q.2 ∈ tables_1 ∧ Cond.privateMethod q.1 ∈ tables_1 ∧ Cond.instanceMethod q.1 ∈ tables_1
theorem lw_p0 : lw_okq (⟨"LagSolver$Text", "readSum", "(I)Z"⟩, 6) := ⟨⟨by decide +kernel, by decide +kernel⟩, List.mem_of_getElem? (i := 23) (by decide +kernel), List.mem_of_getElem? (i := 267) (by decide +kernel), List.mem_of_getElem? (i := 268) (by decide +kernel)⟩
theorem lw_p1 : lw_okq (⟨"LagSolver$Text", "readTerm", "(I)Z"⟩, 6) := ⟨⟨by decide +kernel, by decide +kernel⟩, List.mem_of_getElem? (i := 23) (by decide +kernel), List.mem_of_getElem? (i := 271) (by decide +kernel), List.mem_of_getElem? (i := 272) (by decide +kernel)⟩
theorem lw_p2 : lw_okq (⟨"LagSolver$Text", "readUnit", "(I)Z"⟩, 6) := ⟨⟨by decide +kernel, by decide +kernel⟩, List.mem_of_getElem? (i := 23) (by decide +kernel), List.mem_of_getElem? (i := 275) (by decide +kernel), List.mem_of_getElem? (i := 276) (by decide +kernel)⟩
theorem lw_p3 : lw_okq (⟨"LagSolver$Text", "accept", "(I)Z"⟩, 6) := ⟨⟨by decide +kernel, by decide +kernel⟩, List.mem_of_getElem? (i := 23) (by decide +kernel), List.mem_of_getElem? (i := 279) (by decide +kernel), List.mem_of_getElem? (i := 280) (by decide +kernel)⟩
theorem lw_p4 : lw_okq (⟨"LagSolver$Text", "sign", "()I"⟩, 6) := ⟨⟨by decide +kernel, by decide +kernel⟩, List.mem_of_getElem? (i := 23) (by decide +kernel), List.mem_of_getElem? (i := 283) (by decide +kernel), List.mem_of_getElem? (i := 284) (by decide +kernel)⟩
theorem lw_p5 : lw_okq (⟨"LagSolver$Text", "readBareUnit", "(I)Z"⟩, 6) := ⟨⟨by decide +kernel, by decide +kernel⟩, List.mem_of_getElem? (i := 23) (by decide +kernel), List.mem_of_getElem? (i := 290) (by decide +kernel), List.mem_of_getElem? (i := 291) (by decide +kernel)⟩
theorem lw_p6 : lw_okq (⟨"LagSolver$Text", "readNumber", "()Z"⟩, 6) := ⟨⟨by decide +kernel, by decide +kernel⟩, List.mem_of_getElem? (i := 23) (by decide +kernel), List.mem_of_getElem? (i := 298) (by decide +kernel), List.mem_of_getElem? (i := 299) (by decide +kernel)⟩
theorem lw_p7 : lw_okq (⟨"LagSolver$Text", "emit", "(II)V"⟩, 6) := ⟨⟨by decide +kernel, by decide +kernel⟩, List.mem_of_getElem? (i := 23) (by decide +kernel), List.mem_of_getElem? (i := 302) (by decide +kernel), List.mem_of_getElem? (i := 303) (by decide +kernel)⟩
theorem lw_p8 : lw_okq (⟨"LagSolver$Text", "readName", "()Z"⟩, 6) := ⟨⟨by decide +kernel, by decide +kernel⟩, List.mem_of_getElem? (i := 23) (by decide +kernel), List.mem_of_getElem? (i := 306) (by decide +kernel), List.mem_of_getElem? (i := 307) (by decide +kernel)⟩
theorem lw_p9 : lw_okq (⟨"LagSolver$Text", "emitOperand", "(I)V"⟩, 6) := ⟨⟨by decide +kernel, by decide +kernel⟩, List.mem_of_getElem? (i := 23) (by decide +kernel), List.mem_of_getElem? (i := 310) (by decide +kernel), List.mem_of_getElem? (i := 311) (by decide +kernel)⟩
theorem lw_p10 : lw_okq (⟨"LagSolver$Text", "readLeastOrMost", "(I)Z"⟩, 6) := ⟨⟨by decide +kernel, by decide +kernel⟩, List.mem_of_getElem? (i := 23) (by decide +kernel), List.mem_of_getElem? (i := 323) (by decide +kernel), List.mem_of_getElem? (i := 324) (by decide +kernel)⟩
theorem lw_p11 : lw_okq (⟨"LagSolver$Text", "readOpen", "(I)Z"⟩, 6) := ⟨⟨by decide +kernel, by decide +kernel⟩, List.mem_of_getElem? (i := 23) (by decide +kernel), List.mem_of_getElem? (i := 327) (by decide +kernel), List.mem_of_getElem? (i := 328) (by decide +kernel)⟩
theorem lw_p12 : lw_okq (⟨"LagSolver$Kept", "dropOldest", "()V"⟩, 2) := ⟨⟨by decide +kernel, by decide +kernel⟩, List.mem_of_getElem? (i := 175) (by decide +kernel), List.mem_of_getElem? (i := 344) (by decide +kernel), List.mem_of_getElem? (i := 345) (by decide +kernel)⟩
theorem lw_p13 : lw_okq (⟨"LagSolver$Breaks", "addNext", "(LLagSolver$Lags;II)V"⟩, 4) := ⟨⟨by decide +kernel, by decide +kernel⟩, List.mem_of_getElem? (i := 108) (by decide +kernel), List.mem_of_getElem? (i := 418) (by decide +kernel), List.mem_of_getElem? (i := 419) (by decide +kernel)⟩
theorem lw_p14 : lw_okq (⟨"LagSolver$Breaks", "add", "(III)V"⟩, 4) := ⟨⟨by decide +kernel, by decide +kernel⟩, List.mem_of_getElem? (i := 108) (by decide +kernel), List.mem_of_getElem? (i := 438) (by decide +kernel), List.mem_of_getElem? (i := 439) (by decide +kernel)⟩
theorem lw_p15 : lw_okq (⟨"LagSolver$Breaks", "pointsBefore", "(I)I"⟩, 4) := ⟨⟨by decide +kernel, by decide +kernel⟩, List.mem_of_getElem? (i := 108) (by decide +kernel), List.mem_of_getElem? (i := 442) (by decide +kernel), List.mem_of_getElem? (i := 443) (by decide +kernel)⟩
def lw_privs_1 : List (MethodName × Nat) := [(⟨"LagSolver$Text", "readSum", "(I)Z"⟩, 6), (⟨"LagSolver$Text", "readTerm", "(I)Z"⟩, 6), (⟨"LagSolver$Text", "readUnit", "(I)Z"⟩, 6), (⟨"LagSolver$Text", "accept", "(I)Z"⟩, 6), (⟨"LagSolver$Text", "sign", "()I"⟩, 6), (⟨"LagSolver$Text", "readBareUnit", "(I)Z"⟩, 6), (⟨"LagSolver$Text", "readNumber", "()Z"⟩, 6), (⟨"LagSolver$Text", "emit", "(II)V"⟩, 6), (⟨"LagSolver$Text", "readName", "()Z"⟩, 6), (⟨"LagSolver$Text", "emitOperand", "(I)V"⟩, 6), (⟨"LagSolver$Text", "readLeastOrMost", "(I)Z"⟩, 6), (⟨"LagSolver$Text", "readOpen", "(I)Z"⟩, 6), (⟨"LagSolver$Kept", "dropOldest", "()V"⟩, 2), (⟨"LagSolver$Breaks", "addNext", "(LLagSolver$Lags;II)V"⟩, 4), (⟨"LagSolver$Breaks", "add", "(III)V"⟩, 4), (⟨"LagSolver$Breaks", "pointsBefore", "(I)I"⟩, 4)]
theorem lw_r1 : ∀ q ∈ lw_privs_1, lw_okq q := List.forall_mem_cons.mpr ⟨lw_p0, List.forall_mem_cons.mpr ⟨lw_p1, List.forall_mem_cons.mpr ⟨lw_p2, List.forall_mem_cons.mpr ⟨lw_p3, List.forall_mem_cons.mpr ⟨lw_p4, List.forall_mem_cons.mpr ⟨lw_p5, List.forall_mem_cons.mpr ⟨lw_p6, List.forall_mem_cons.mpr ⟨lw_p7, List.forall_mem_cons.mpr ⟨lw_p8, List.forall_mem_cons.mpr ⟨lw_p9, List.forall_mem_cons.mpr ⟨lw_p10, List.forall_mem_cons.mpr ⟨lw_p11, List.forall_mem_cons.mpr ⟨lw_p12, List.forall_mem_cons.mpr ⟨lw_p13, List.forall_mem_cons.mpr ⟨lw_p14, List.forall_mem_cons.mpr ⟨lw_p15, fun _ h => absurd h List.not_mem_nil⟩⟩⟩⟩⟩⟩⟩⟩⟩⟩⟩⟩⟩⟩⟩⟩
theorem lw_p16 : lw_okq (⟨"LagSolver$Histories", "pointsUpTo", "(II)I"⟩, 3) := ⟨⟨by decide +kernel, by decide +kernel⟩, List.mem_of_getElem? (i := 91) (by decide +kernel), List.mem_of_getElem? (i := 462) (by decide +kernel), List.mem_of_getElem? (i := 463) (by decide +kernel)⟩
theorem lw_p17 : lw_okq (⟨"LagSolver$Stepper", "takeStep", "(LLagSolver$State;II)V"⟩, 6) := ⟨⟨by decide +kernel, by decide +kernel⟩, List.mem_of_getElem? (i := 191) (by decide +kernel), List.mem_of_getElem? (i := 538) (by decide +kernel), List.mem_of_getElem? (i := 539) (by decide +kernel)⟩
theorem lw_p18 : lw_okq (⟨"LagSolver$Stepper", "gather", "(LLagSolver$State;II)V"⟩, 6) := ⟨⟨by decide +kernel, by decide +kernel⟩, List.mem_of_getElem? (i := 191) (by decide +kernel), List.mem_of_getElem? (i := 547) (by decide +kernel), List.mem_of_getElem? (i := 548) (by decide +kernel)⟩
theorem lw_p19 : lw_okq (⟨"LagSolver$Stepper", "guessedValue", "(III)I"⟩, 6) := ⟨⟨by decide +kernel, by decide +kernel⟩, List.mem_of_getElem? (i := 191) (by decide +kernel), List.mem_of_getElem? (i := 560) (by decide +kernel), List.mem_of_getElem? (i := 561) (by decide +kernel)⟩
theorem lw_p20 : lw_okq (⟨"LagSolver$Path", "bendOf", "(IIJ)J"⟩, 2) := ⟨⟨by decide +kernel, by decide +kernel⟩, List.mem_of_getElem? (i := 131) (by decide +kernel), List.mem_of_getElem? (i := 582) (by decide +kernel), List.mem_of_getElem? (i := 583) (by decide +kernel)⟩
theorem lw_p21 : lw_okq (⟨"LagSolver$Stepper", "guessedSlope", "(II)I"⟩, 6) := ⟨⟨by decide +kernel, by decide +kernel⟩, List.mem_of_getElem? (i := 191) (by decide +kernel), List.mem_of_getElem? (i := 589) (by decide +kernel), List.mem_of_getElem? (i := 590) (by decide +kernel)⟩
theorem lw_p22 : lw_okq (⟨"LagSolver$Stepper", "workOutSlopes", "(LLagSolver$State;[I)V"⟩, 6) := ⟨⟨by decide +kernel, by decide +kernel⟩, List.mem_of_getElem? (i := 191) (by decide +kernel), List.mem_of_getElem? (i := 608) (by decide +kernel), List.mem_of_getElem? (i := 609) (by decide +kernel)⟩
theorem lw_p23 : lw_okq (⟨"LagSolverModel", "solvesAll", "()V"⟩, 31) := ⟨⟨by decide +kernel, by decide +kernel⟩, List.mem_of_getElem? (i := 715) (by decide +kernel), List.mem_of_getElem? (i := 721) (by decide +kernel), List.mem_of_getElem? (i := 722) (by decide +kernel)⟩
theorem lw_p24 : lw_okq (⟨"LagSolverModel", "findsBreaks", "()V"⟩, 31) := ⟨⟨by decide +kernel, by decide +kernel⟩, List.mem_of_getElem? (i := 715) (by decide +kernel), List.mem_of_getElem? (i := 725) (by decide +kernel), List.mem_of_getElem? (i := 726) (by decide +kernel)⟩
theorem lw_p25 : lw_okq (⟨"LagSolverModel", "used", "()I"⟩, 31) := ⟨⟨by decide +kernel, by decide +kernel⟩, List.mem_of_getElem? (i := 715) (by decide +kernel), List.mem_of_getElem? (i := 730) (by decide +kernel), List.mem_of_getElem? (i := 731) (by decide +kernel)⟩
theorem lw_p26 : lw_okq (⟨"LagSolverModel", "usedBy", "(I)I"⟩, 31) := ⟨⟨by decide +kernel, by decide +kernel⟩, List.mem_of_getElem? (i := 715) (by decide +kernel), List.mem_of_getElem? (i := 734) (by decide +kernel), List.mem_of_getElem? (i := 735) (by decide +kernel)⟩
theorem lw_p27 : lw_okq (⟨"LagSolverModel", "rightLetter", "(II)I"⟩, 31) := ⟨⟨by decide +kernel, by decide +kernel⟩, List.mem_of_getElem? (i := 715) (by decide +kernel), List.mem_of_getElem? (i := 738) (by decide +kernel), List.mem_of_getElem? (i := 739) (by decide +kernel)⟩
theorem lw_p28 : lw_okq (⟨"LagSolverModel", "madeFrom", "(II)I"⟩, 31) := ⟨⟨by decide +kernel, by decide +kernel⟩, List.mem_of_getElem? (i := 715) (by decide +kernel), List.mem_of_getElem? (i := 742) (by decide +kernel), List.mem_of_getElem? (i := 743) (by decide +kernel)⟩
theorem lw_p29 : lw_okq (⟨"LagSolverModel", "lagAt", "(II)I"⟩, 31) := ⟨⟨by decide +kernel, by decide +kernel⟩, List.mem_of_getElem? (i := 715) (by decide +kernel), List.mem_of_getElem? (i := 746) (by decide +kernel), List.mem_of_getElem? (i := 747) (by decide +kernel)⟩
theorem lw_p30 : lw_okq (⟨"LagSolverModel", "makes", "(III)V"⟩, 31) := ⟨⟨by decide +kernel, by decide +kernel⟩, List.mem_of_getElem? (i := 715) (by decide +kernel), List.mem_of_getElem? (i := 750) (by decide +kernel), List.mem_of_getElem? (i := 751) (by decide +kernel)⟩
theorem lw_p31 : lw_okq (⟨"LagSolverModel", "breakWith", "(I)I"⟩, 31) := ⟨⟨by decide +kernel, by decide +kernel⟩, List.mem_of_getElem? (i := 715) (by decide +kernel), List.mem_of_getElem? (i := 754) (by decide +kernel), List.mem_of_getElem? (i := 755) (by decide +kernel)⟩
def lw_privs_2 : List (MethodName × Nat) := [(⟨"LagSolver$Histories", "pointsUpTo", "(II)I"⟩, 3), (⟨"LagSolver$Stepper", "takeStep", "(LLagSolver$State;II)V"⟩, 6), (⟨"LagSolver$Stepper", "gather", "(LLagSolver$State;II)V"⟩, 6), (⟨"LagSolver$Stepper", "guessedValue", "(III)I"⟩, 6), (⟨"LagSolver$Path", "bendOf", "(IIJ)J"⟩, 2), (⟨"LagSolver$Stepper", "guessedSlope", "(II)I"⟩, 6), (⟨"LagSolver$Stepper", "workOutSlopes", "(LLagSolver$State;[I)V"⟩, 6), (⟨"LagSolverModel", "solvesAll", "()V"⟩, 31), (⟨"LagSolverModel", "findsBreaks", "()V"⟩, 31), (⟨"LagSolverModel", "used", "()I"⟩, 31), (⟨"LagSolverModel", "usedBy", "(I)I"⟩, 31), (⟨"LagSolverModel", "rightLetter", "(II)I"⟩, 31), (⟨"LagSolverModel", "madeFrom", "(II)I"⟩, 31), (⟨"LagSolverModel", "lagAt", "(II)I"⟩, 31), (⟨"LagSolverModel", "makes", "(III)V"⟩, 31), (⟨"LagSolverModel", "breakWith", "(I)I"⟩, 31)]
theorem lw_r2 : ∀ q ∈ lw_privs_2, lw_okq q := List.forall_mem_cons.mpr ⟨lw_p16, List.forall_mem_cons.mpr ⟨lw_p17, List.forall_mem_cons.mpr ⟨lw_p18, List.forall_mem_cons.mpr ⟨lw_p19, List.forall_mem_cons.mpr ⟨lw_p20, List.forall_mem_cons.mpr ⟨lw_p21, List.forall_mem_cons.mpr ⟨lw_p22, List.forall_mem_cons.mpr ⟨lw_p23, List.forall_mem_cons.mpr ⟨lw_p24, List.forall_mem_cons.mpr ⟨lw_p25, List.forall_mem_cons.mpr ⟨lw_p26, List.forall_mem_cons.mpr ⟨lw_p27, List.forall_mem_cons.mpr ⟨lw_p28, List.forall_mem_cons.mpr ⟨lw_p29, List.forall_mem_cons.mpr ⟨lw_p30, List.forall_mem_cons.mpr ⟨lw_p31, fun _ h => absurd h List.not_mem_nil⟩⟩⟩⟩⟩⟩⟩⟩⟩⟩⟩⟩⟩⟩⟩⟩
theorem lw_p32 : lw_okq (⟨"LagSolverModel", "goesTo", "(I)V"⟩, 31) := ⟨⟨by decide +kernel, by decide +kernel⟩, List.mem_of_getElem? (i := 715) (by decide +kernel), List.mem_of_getElem? (i := 761) (by decide +kernel), List.mem_of_getElem? (i := 762) (by decide +kernel)⟩
theorem lw_p33 : lw_okq (⟨"LagSolverModel", "nextBreak", "(I)I"⟩, 31) := ⟨⟨by decide +kernel, by decide +kernel⟩, List.mem_of_getElem? (i := 715) (by decide +kernel), List.mem_of_getElem? (i := 765) (by decide +kernel), List.mem_of_getElem? (i := 766) (by decide +kernel)⟩
theorem lw_p34 : lw_okq (⟨"LagSolverModel", "stepBy", "(I)V"⟩, 31) := ⟨⟨by decide +kernel, by decide +kernel⟩, List.mem_of_getElem? (i := 715) (by decide +kernel), List.mem_of_getElem? (i := 769) (by decide +kernel), List.mem_of_getElem? (i := 770) (by decide +kernel)⟩
theorem lw_p35 : lw_okq (⟨"LagSolverModel", "toldValue", "(II)J"⟩, 31) := ⟨⟨by decide +kernel, by decide +kernel⟩, List.mem_of_getElem? (i := 715) (by decide +kernel), List.mem_of_getElem? (i := 773) (by decide +kernel), List.mem_of_getElem? (i := 774) (by decide +kernel)⟩
theorem lw_p36 : lw_okq (⟨"LagSolverModel", "historyValue", "(II)J"⟩, 31) := ⟨⟨by decide +kernel, by decide +kernel⟩, List.mem_of_getElem? (i := 715) (by decide +kernel), List.mem_of_getElem? (i := 777) (by decide +kernel), List.mem_of_getElem? (i := 778) (by decide +kernel)⟩
theorem lw_p37 : lw_okq (⟨"LagSolverModel", "points", "(I)I"⟩, 31) := ⟨⟨by decide +kernel, by decide +kernel⟩, List.mem_of_getElem? (i := 715) (by decide +kernel), List.mem_of_getElem? (i := 781) (by decide +kernel), List.mem_of_getElem? (i := 782) (by decide +kernel)⟩
theorem lw_p38 : lw_okq (⟨"LagSolverModel", "pointTime", "(II)I"⟩, 31) := ⟨⟨by decide +kernel, by decide +kernel⟩, List.mem_of_getElem? (i := 715) (by decide +kernel), List.mem_of_getElem? (i := 785) (by decide +kernel), List.mem_of_getElem? (i := 786) (by decide +kernel)⟩
theorem lw_p39 : lw_okq (⟨"LagSolverModel", "pointValue", "(II)I"⟩, 31) := ⟨⟨by decide +kernel, by decide +kernel⟩, List.mem_of_getElem? (i := 715) (by decide +kernel), List.mem_of_getElem? (i := 789) (by decide +kernel), List.mem_of_getElem? (i := 790) (by decide +kernel)⟩
theorem lw_p40 : lw_okq (⟨"LagSolverModel", "stepOf", "(I)I"⟩, 31) := ⟨⟨by decide +kernel, by decide +kernel⟩, List.mem_of_getElem? (i := 715) (by decide +kernel), List.mem_of_getElem? (i := 793) (by decide +kernel), List.mem_of_getElem? (i := 794) (by decide +kernel)⟩
theorem lw_p41 : lw_okq (⟨"LagSolverModel", "bend", "(II)J"⟩, 31) := ⟨⟨by decide +kernel, by decide +kernel⟩, List.mem_of_getElem? (i := 715) (by decide +kernel), List.mem_of_getElem? (i := 798) (by decide +kernel), List.mem_of_getElem? (i := 799) (by decide +kernel)⟩
theorem lw_p42 : lw_okq (⟨"LagSolverModel", "worksOut", "(II)J"⟩, 31) := ⟨⟨by decide +kernel, by decide +kernel⟩, List.mem_of_getElem? (i := 715) (by decide +kernel), List.mem_of_getElem? (i := 807) (by decide +kernel), List.mem_of_getElem? (i := 808) (by decide +kernel)⟩
theorem lw_p43 : lw_okq (⟨"LagSolverModel", "numberAt", "(II)J"⟩, 31) := ⟨⟨by decide +kernel, by decide +kernel⟩, List.mem_of_getElem? (i := 715) (by decide +kernel), List.mem_of_getElem? (i := 817) (by decide +kernel), List.mem_of_getElem? (i := 818) (by decide +kernel)⟩
theorem lw_p44 : lw_okq (⟨"LagSolverModel", "puts", "(J)V"⟩, 31) := ⟨⟨by decide +kernel, by decide +kernel⟩, List.mem_of_getElem? (i := 715) (by decide +kernel), List.mem_of_getElem? (i := 823) (by decide +kernel), List.mem_of_getElem? (i := 824) (by decide +kernel)⟩
theorem lw_p45 : lw_okq (⟨"LagSolverModel", "negates", "()V"⟩, 31) := ⟨⟨by decide +kernel, by decide +kernel⟩, List.mem_of_getElem? (i := 715) (by decide +kernel), List.mem_of_getElem? (i := 827) (by decide +kernel), List.mem_of_getElem? (i := 828) (by decide +kernel)⟩
theorem lw_p46 : lw_okq (⟨"LagSolverModel", "behindNumber", "(II)I"⟩, 31) := ⟨⟨by decide +kernel, by decide +kernel⟩, List.mem_of_getElem? (i := 715) (by decide +kernel), List.mem_of_getElem? (i := 831) (by decide +kernel), List.mem_of_getElem? (i := 832) (by decide +kernel)⟩
theorem lw_p47 : lw_okq (⟨"LagSolverModel", "slopeAt", "(II)J"⟩, 31) := ⟨⟨by decide +kernel, by decide +kernel⟩, List.mem_of_getElem? (i := 715) (by decide +kernel), List.mem_of_getElem? (i := 838) (by decide +kernel), List.mem_of_getElem? (i := 839) (by decide +kernel)⟩
def lw_privs_3 : List (MethodName × Nat) := [(⟨"LagSolverModel", "goesTo", "(I)V"⟩, 31), (⟨"LagSolverModel", "nextBreak", "(I)I"⟩, 31), (⟨"LagSolverModel", "stepBy", "(I)V"⟩, 31), (⟨"LagSolverModel", "toldValue", "(II)J"⟩, 31), (⟨"LagSolverModel", "historyValue", "(II)J"⟩, 31), (⟨"LagSolverModel", "points", "(I)I"⟩, 31), (⟨"LagSolverModel", "pointTime", "(II)I"⟩, 31), (⟨"LagSolverModel", "pointValue", "(II)I"⟩, 31), (⟨"LagSolverModel", "stepOf", "(I)I"⟩, 31), (⟨"LagSolverModel", "bend", "(II)J"⟩, 31), (⟨"LagSolverModel", "worksOut", "(II)J"⟩, 31), (⟨"LagSolverModel", "numberAt", "(II)J"⟩, 31), (⟨"LagSolverModel", "puts", "(J)V"⟩, 31), (⟨"LagSolverModel", "negates", "()V"⟩, 31), (⟨"LagSolverModel", "behindNumber", "(II)I"⟩, 31), (⟨"LagSolverModel", "slopeAt", "(II)J"⟩, 31)]
theorem lw_r3 : ∀ q ∈ lw_privs_3, lw_okq q := List.forall_mem_cons.mpr ⟨lw_p32, List.forall_mem_cons.mpr ⟨lw_p33, List.forall_mem_cons.mpr ⟨lw_p34, List.forall_mem_cons.mpr ⟨lw_p35, List.forall_mem_cons.mpr ⟨lw_p36, List.forall_mem_cons.mpr ⟨lw_p37, List.forall_mem_cons.mpr ⟨lw_p38, List.forall_mem_cons.mpr ⟨lw_p39, List.forall_mem_cons.mpr ⟨lw_p40, List.forall_mem_cons.mpr ⟨lw_p41, List.forall_mem_cons.mpr ⟨lw_p42, List.forall_mem_cons.mpr ⟨lw_p43, List.forall_mem_cons.mpr ⟨lw_p44, List.forall_mem_cons.mpr ⟨lw_p45, List.forall_mem_cons.mpr ⟨lw_p46, List.forall_mem_cons.mpr ⟨lw_p47, fun _ h => absurd h List.not_mem_nil⟩⟩⟩⟩⟩⟩⟩⟩⟩⟩⟩⟩⟩⟩⟩⟩
theorem lw_p48 : lw_okq (⟨"LagSolverModel", "toldSlope", "(II)J"⟩, 31) := ⟨⟨by decide +kernel, by decide +kernel⟩, List.mem_of_getElem? (i := 715) (by decide +kernel), List.mem_of_getElem? (i := 842) (by decide +kernel), List.mem_of_getElem? (i := 843) (by decide +kernel)⟩
theorem lw_p49 : lw_okq (⟨"LagSolverModel", "historySlope", "(II)J"⟩, 31) := ⟨⟨by decide +kernel, by decide +kernel⟩, List.mem_of_getElem? (i := 715) (by decide +kernel), List.mem_of_getElem? (i := 846) (by decide +kernel), List.mem_of_getElem? (i := 847) (by decide +kernel)⟩
theorem lw_p50 : lw_okq (⟨"LagSolverModel", "valueAt", "(II)J"⟩, 31) := ⟨⟨by decide +kernel, by decide +kernel⟩, List.mem_of_getElem? (i := 715) (by decide +kernel), List.mem_of_getElem? (i := 851) (by decide +kernel), List.mem_of_getElem? (i := 852) (by decide +kernel)⟩
theorem lw_p51 : lw_okq (⟨"LagSolverModel", "shuts", "()V"⟩, 31) := ⟨⟨by decide +kernel, by decide +kernel⟩, List.mem_of_getElem? (i := 715) (by decide +kernel), List.mem_of_getElem? (i := 855) (by decide +kernel), List.mem_of_getElem? (i := 856) (by decide +kernel)⟩
theorem lw_p52 : lw_okq (⟨"LagSolverModel", "carriesAll", "(I)V"⟩, 31) := ⟨⟨by decide +kernel, by decide +kernel⟩, List.mem_of_getElem? (i := 715) (by decide +kernel), List.mem_of_getElem? (i := 859) (by decide +kernel), List.mem_of_getElem? (i := 860) (by decide +kernel)⟩
theorem lw_p53 : lw_okq (⟨"LagSolverModel", "carriesOut", "()V"⟩, 31) := ⟨⟨by decide +kernel, by decide +kernel⟩, List.mem_of_getElem? (i := 715) (by decide +kernel), List.mem_of_getElem? (i := 866) (by decide +kernel), List.mem_of_getElem? (i := 867) (by decide +kernel)⟩
theorem lw_p54 : lw_okq (⟨"LagSolverModel", "opens", "(IZ)V"⟩, 31) := ⟨⟨by decide +kernel, by decide +kernel⟩, List.mem_of_getElem? (i := 715) (by decide +kernel), List.mem_of_getElem? (i := 870) (by decide +kernel), List.mem_of_getElem? (i := 871) (by decide +kernel)⟩
theorem lw_p55 : lw_okq (⟨"LagSolverModel", "putsSign", "(I)V"⟩, 31) := ⟨⟨by decide +kernel, by decide +kernel⟩, List.mem_of_getElem? (i := 715) (by decide +kernel), List.mem_of_getElem? (i := 874) (by decide +kernel), List.mem_of_getElem? (i := 875) (by decide +kernel)⟩
theorem lw_p56 : lw_okq (⟨"LagSolverModel", "guesses", "(II)V"⟩, 31) := ⟨⟨by decide +kernel, by decide +kernel⟩, List.mem_of_getElem? (i := 715) (by decide +kernel), List.mem_of_getElem? (i := 878) (by decide +kernel), List.mem_of_getElem? (i := 879) (by decide +kernel)⟩
theorem lw_p57 : lw_okq (⟨"LagSolverModel", "needsRounds", "(II)Z"⟩, 31) := ⟨⟨by decide +kernel, by decide +kernel⟩, List.mem_of_getElem? (i := 715) (by decide +kernel), List.mem_of_getElem? (i := 882) (by decide +kernel), List.mem_of_getElem? (i := 883) (by decide +kernel)⟩
theorem lw_p58 : lw_okq (⟨"LagSolverModel", "saves", "()V"⟩, 31) := ⟨⟨by decide +kernel, by decide +kernel⟩, List.mem_of_getElem? (i := 715) (by decide +kernel), List.mem_of_getElem? (i := 995) (by decide +kernel), List.mem_of_getElem? (i := 996) (by decide +kernel)⟩
theorem lw_p59 : lw_okq (⟨"LagSolverModel", "faultOf", "()I"⟩, 31) := ⟨⟨by decide +kernel, by decide +kernel⟩, List.mem_of_getElem? (i := 715) (by decide +kernel), List.mem_of_getElem? (i := 1012) (by decide +kernel), List.mem_of_getElem? (i := 1013) (by decide +kernel)⟩
theorem lw_p60 : lw_okq (⟨"LagSolverModel", "numberEnd", "(I)I"⟩, 31) := ⟨⟨by decide +kernel, by decide +kernel⟩, List.mem_of_getElem? (i := 715) (by decide +kernel), List.mem_of_getElem? (i := 1016) (by decide +kernel), List.mem_of_getElem? (i := 1017) (by decide +kernel)⟩
theorem lw_p61 : lw_okq (⟨"LagSolverModel", "digits", "(II)I"⟩, 31) := ⟨⟨by decide +kernel, by decide +kernel⟩, List.mem_of_getElem? (i := 715) (by decide +kernel), List.mem_of_getElem? (i := 1020) (by decide +kernel), List.mem_of_getElem? (i := 1021) (by decide +kernel)⟩
theorem lw_p62 : lw_okq (⟨"LagSolverModel", "letter", "(I)I"⟩, 31) := ⟨⟨by decide +kernel, by decide +kernel⟩, List.mem_of_getElem? (i := 715) (by decide +kernel), List.mem_of_getElem? (i := 1024) (by decide +kernel), List.mem_of_getElem? (i := 1025) (by decide +kernel)⟩
theorem lw_p63 : lw_okq (⟨"LagSolverModel", "nameEnd", "(I)I"⟩, 31) := ⟨⟨by decide +kernel, by decide +kernel⟩, List.mem_of_getElem? (i := 715) (by decide +kernel), List.mem_of_getElem? (i := 1028) (by decide +kernel), List.mem_of_getElem? (i := 1029) (by decide +kernel)⟩
def lw_privs_4 : List (MethodName × Nat) := [(⟨"LagSolverModel", "toldSlope", "(II)J"⟩, 31), (⟨"LagSolverModel", "historySlope", "(II)J"⟩, 31), (⟨"LagSolverModel", "valueAt", "(II)J"⟩, 31), (⟨"LagSolverModel", "shuts", "()V"⟩, 31), (⟨"LagSolverModel", "carriesAll", "(I)V"⟩, 31), (⟨"LagSolverModel", "carriesOut", "()V"⟩, 31), (⟨"LagSolverModel", "opens", "(IZ)V"⟩, 31), (⟨"LagSolverModel", "putsSign", "(I)V"⟩, 31), (⟨"LagSolverModel", "guesses", "(II)V"⟩, 31), (⟨"LagSolverModel", "needsRounds", "(II)Z"⟩, 31), (⟨"LagSolverModel", "saves", "()V"⟩, 31), (⟨"LagSolverModel", "faultOf", "()I"⟩, 31), (⟨"LagSolverModel", "numberEnd", "(I)I"⟩, 31), (⟨"LagSolverModel", "digits", "(II)I"⟩, 31), (⟨"LagSolverModel", "letter", "(I)I"⟩, 31), (⟨"LagSolverModel", "nameEnd", "(I)I"⟩, 31)]
theorem lw_r4 : ∀ q ∈ lw_privs_4, lw_okq q := List.forall_mem_cons.mpr ⟨lw_p48, List.forall_mem_cons.mpr ⟨lw_p49, List.forall_mem_cons.mpr ⟨lw_p50, List.forall_mem_cons.mpr ⟨lw_p51, List.forall_mem_cons.mpr ⟨lw_p52, List.forall_mem_cons.mpr ⟨lw_p53, List.forall_mem_cons.mpr ⟨lw_p54, List.forall_mem_cons.mpr ⟨lw_p55, List.forall_mem_cons.mpr ⟨lw_p56, List.forall_mem_cons.mpr ⟨lw_p57, List.forall_mem_cons.mpr ⟨lw_p58, List.forall_mem_cons.mpr ⟨lw_p59, List.forall_mem_cons.mpr ⟨lw_p60, List.forall_mem_cons.mpr ⟨lw_p61, List.forall_mem_cons.mpr ⟨lw_p62, List.forall_mem_cons.mpr ⟨lw_p63, fun _ h => absurd h List.not_mem_nil⟩⟩⟩⟩⟩⟩⟩⟩⟩⟩⟩⟩⟩⟩⟩⟩
theorem lw_p64 : lw_okq (⟨"LagSolverModel", "wordEnd", "(I)I"⟩, 31) := ⟨⟨by decide +kernel, by decide +kernel⟩, List.mem_of_getElem? (i := 715) (by decide +kernel), List.mem_of_getElem? (i := 1032) (by decide +kernel), List.mem_of_getElem? (i := 1033) (by decide +kernel)⟩
theorem lw_p65 : lw_okq (⟨"LagSolverModel", "anew", "()V"⟩, 31) := ⟨⟨by decide +kernel, by decide +kernel⟩, List.mem_of_getElem? (i := 715) (by decide +kernel), List.mem_of_getElem? (i := 1043) (by decide +kernel), List.mem_of_getElem? (i := 1044) (by decide +kernel)⟩
def lw_privs_5 : List (MethodName × Nat) := [(⟨"LagSolverModel", "wordEnd", "(I)I"⟩, 31), (⟨"LagSolverModel", "anew", "()V"⟩, 31)]
theorem lw_r5 : ∀ q ∈ lw_privs_5, lw_okq q := List.forall_mem_cons.mpr ⟨lw_p64, List.forall_mem_cons.mpr ⟨lw_p65, fun _ h => absurd h List.not_mem_nil⟩⟩
def lw_privs : List (MethodName × Nat) := lw_privs_1 ++ (lw_privs_2 ++ (lw_privs_3 ++ (lw_privs_4 ++ (lw_privs_5))))
def lw_tbl : List Cond := k2_sels lw_privs ++ tables_1
theorem lw_privs_ok : ∀ q ∈ lw_privs, lw_okq q := by
  show ∀ q ∈ lw_privs_1 ++ (lw_privs_2 ++ (lw_privs_3 ++ (lw_privs_4 ++ (lw_privs_5)))), lw_okq q
  exact List.forall_mem_append.mpr ⟨lw_r1, List.forall_mem_append.mpr ⟨lw_r2, List.forall_mem_append.mpr ⟨lw_r3, List.forall_mem_append.mpr ⟨lw_r4, lw_r5⟩⟩⟩⟩
def RX0 : String := "LagSolver$Breaks"
def TX0 : u_T := fun k => match k with
  | 0 => ("LagSolver$Breaks", "times", "[I", true)
  | 1 => ("LagSolver$Breaks", "orders", "[I", true)
  | 2 => ("LagSolver$Breaks", "delays", "[I", true)
  | _ => ("LagSolver$Breaks", "count", "I", false)
def tyX0 : Nat → FieldType := fun k => match k with
  | 0 => .array .int
  | 1 => .array .int
  | 2 => .array .int
  | _ => .int
abbrev wsX00 : List Cond := u_ws RX0 TX0 4
theorem nmX0 : ∀ a, a < 4 → ∀ b, b < 4 → a ≠ b → (TX0 a).2.1 ≠ (TX0 b).2.1 := by decide +kernel
theorem tyX0_ok : ∀ k, k < 4 → parseFieldDescriptor (TX0 k).2.2.1 = some (tyX0 k) := by decide +kernel
abbrev cX0_init : ByteArray := prog_2_method_1_code
def yX0_init : MethodName := ⟨RX0, "<init>", "()V"⟩
abbrev cX0_find : ByteArray := prog_2_method_2_code
def yX0_find : MethodName := ⟨RX0, "find", "(LLagSolver$Lags;II)V"⟩
abbrev cX0_addNext : ByteArray := prog_2_method_3_code
def yX0_addNext : MethodName := ⟨RX0, "addNext", "(LLagSolver$Lags;II)V"⟩
abbrev cX0_add : ByteArray := prog_2_method_4_code
def yX0_add : MethodName := ⟨RX0, "add", "(III)V"⟩
abbrev cX0_next : ByteArray := prog_2_method_5_code
def yX0_next : MethodName := ⟨RX0, "next", "(I)I"⟩
abbrev cX0_pointsBefore : ByteArray := prog_2_method_6_code
def yX0_pointsBefore : MethodName := ⟨RX0, "pointsBefore", "(I)I"⟩
abbrev cX0_copyFrom : ByteArray := prog_2_method_7_code
def yX0_copyFrom : MethodName := ⟨RX0, "copyFrom", "(LLagSolver$Breaks;)V"⟩
def RX1 : String := "LagSolver$Histories"
def TX1 : u_T := fun k => match k with
  | 0 => ("LagSolver$Histories", "counts", "[I", true)
  | 1 => ("LagSolver$Histories", "times", "[I", true)
  | _ => ("LagSolver$Histories", "values", "[I", true)
def tyX1 : Nat → FieldType := fun k => match k with
  | 0 => .array .int
  | 1 => .array .int
  | _ => .array .int
abbrev wsX10 : List Cond := u_ws RX1 TX1 3
theorem nmX1 : ∀ a, a < 3 → ∀ b, b < 3 → a ≠ b → (TX1 a).2.1 ≠ (TX1 b).2.1 := by decide +kernel
theorem tyX1_ok : ∀ k, k < 3 → parseFieldDescriptor (TX1 k).2.2.1 = some (tyX1 k) := by decide +kernel
abbrev cX1_init : ByteArray := prog_3_method_1_code
def yX1_init : MethodName := ⟨RX1, "<init>", "()V"⟩
abbrev cX1_hasPointAt : ByteArray := prog_3_method_2_code
def yX1_hasPointAt : MethodName := ⟨RX1, "hasPointAt", "(II)Z"⟩
abbrev cX1_add : ByteArray := prog_3_method_3_code
def yX1_add : MethodName := ⟨RX1, "add", "(III)V"⟩
abbrev cX1_valueAt : ByteArray := prog_3_method_4_code
def yX1_valueAt : MethodName := ⟨RX1, "valueAt", "(II)I"⟩
abbrev cX1_slopeAt : ByteArray := prog_3_method_5_code
def yX1_slopeAt : MethodName := ⟨RX1, "slopeAt", "(II)I"⟩
abbrev cX1_pointsUpTo : ByteArray := prog_3_method_6_code
def yX1_pointsUpTo : MethodName := ⟨RX1, "pointsUpTo", "(II)I"⟩
abbrev cX1_copyFrom : ByteArray := prog_3_method_7_code
def yX1_copyFrom : MethodName := ⟨RX1, "copyFrom", "(LLagSolver$Histories;)V"⟩
def RX2 : String := "LagSolver$Kept"
def TX2 : u_T := fun k => match k with
  | 0 => ("LagSolver$Kept", "states", "[LLagSolver$State;", true)
  | _ => ("LagSolver$Kept", "count", "I", false)
def tyX2 : Nat → FieldType := fun k => match k with
  | 0 => .array (.object "LagSolver$State")
  | _ => .int
abbrev wsX20 : List Cond := u_ws RX2 TX2 2
theorem nmX2 : ∀ a, a < 2 → ∀ b, b < 2 → a ≠ b → (TX2 a).2.1 ≠ (TX2 b).2.1 := by decide +kernel
theorem tyX2_ok : ∀ k, k < 2 → parseFieldDescriptor (TX2 k).2.2.1 = some (tyX2 k) := by decide +kernel
abbrev cX2_init : ByteArray := prog_4_method_1_code
def yX2_init : MethodName := ⟨RX2, "<init>", "()V"⟩
abbrev cX2_record : ByteArray := prog_4_method_2_code
def yX2_record : MethodName := ⟨RX2, "record", "(LLagSolver$State;)V"⟩
abbrev cX2_dropOldest : ByteArray := prog_4_method_3_code
def yX2_dropOldest : MethodName := ⟨RX2, "dropOldest", "()V"⟩
abbrev cX2_giveBack : ByteArray := prog_4_method_4_code
def yX2_giveBack : MethodName := ⟨RX2, "giveBack", "(LLagSolver$State;)Z"⟩
def RX3 : String := "LagSolver$Lags"
def TX3 : u_T := fun k => match k with
  | 0 => ("LagSolver$Lags", "constants", "[I", true)
  | _ => ("LagSolver$Lags", "parts", "[I", true)
def tyX3 : Nat → FieldType := fun k => match k with
  | 0 => .array .int
  | _ => .array .int
abbrev wsX30 : List Cond := u_ws RX3 TX3 2
theorem nmX3 : ∀ a, a < 2 → ∀ b, b < 2 → a ≠ b → (TX3 a).2.1 ≠ (TX3 b).2.1 := by decide +kernel
theorem tyX3_ok : ∀ k, k < 2 → parseFieldDescriptor (TX3 k).2.2.1 = some (tyX3 k) := by decide +kernel
abbrev cX3_init : ByteArray := prog_5_method_1_code
def yX3_init : MethodName := ⟨RX3, "<init>", "()V"⟩
abbrev cX3_lagAt : ByteArray := prog_5_method_2_code
def yX3_lagAt : MethodName := ⟨RX3, "lagAt", "(II)I"⟩
abbrev cX3_reach : ByteArray := prog_5_method_3_code
def yX3_reach : MethodName := ⟨RX3, "reach", "(II)I"⟩
abbrev cX3_copyFrom : ByteArray := prog_5_method_4_code
def yX3_copyFrom : MethodName := ⟨RX3, "copyFrom", "(LLagSolver$Lags;)V"⟩
def RX4 : String := "LagSolver$Path"
def TX4 : u_T := fun k => match k with
  | 0 => ("LagSolver$Path", "rows", "[I", true)
  | _ => ("LagSolver$Path", "steps", "I", false)
def tyX4 : Nat → FieldType := fun k => match k with
  | 0 => .array .int
  | _ => .int
abbrev wsX40 : List Cond := u_ws RX4 TX4 2
theorem nmX4 : ∀ a, a < 2 → ∀ b, b < 2 → a ≠ b → (TX4 a).2.1 ≠ (TX4 b).2.1 := by decide +kernel
theorem tyX4_ok : ∀ k, k < 2 → parseFieldDescriptor (TX4 k).2.2.1 = some (tyX4 k) := by decide +kernel
abbrev cX4_init : ByteArray := prog_6_method_1_code
def yX4_init : MethodName := ⟨RX4, "<init>", "()V"⟩
abbrev cX4_restart : ByteArray := prog_6_method_2_code
def yX4_restart : MethodName := ⟨RX4, "restart", "(LLagSolver$Histories;)V"⟩
abbrev cX4_append : ByteArray := prog_6_method_3_code
def yX4_append : MethodName := ⟨RX4, "append", "(I[II[I)V"⟩
abbrev cX4_endTime : ByteArray := prog_6_method_4_code
def yX4_endTime : MethodName := ⟨RX4, "endTime", "()I"⟩
abbrev cX4_endValue : ByteArray := prog_6_method_5_code
def yX4_endValue : MethodName := ⟨RX4, "endValue", "(I)I"⟩
abbrev cX4_beginOf : ByteArray := prog_6_method_6_code
def yX4_beginOf : MethodName := ⟨RX4, "beginOf", "(I)I"⟩
abbrev cX4_endOf : ByteArray := prog_6_method_7_code
def yX4_endOf : MethodName := ⟨RX4, "endOf", "(I)I"⟩
abbrev cX4_firstSlope : ByteArray := prog_6_method_8_code
def yX4_firstSlope : MethodName := ⟨RX4, "firstSlope", "(II)I"⟩
abbrev cX4_roundsOf : ByteArray := prog_6_method_9_code
def yX4_roundsOf : MethodName := ⟨RX4, "roundsOf", "(I)I"⟩
abbrev cX4_stepTo : ByteArray := prog_6_method_10_code
def yX4_stepTo : MethodName := ⟨RX4, "stepTo", "(I)I"⟩
abbrev cX4_valueIn : ByteArray := prog_6_method_11_code
def yX4_valueIn : MethodName := ⟨RX4, "valueIn", "(III)I"⟩
abbrev cX4_slopeIn : ByteArray := prog_6_method_12_code
def yX4_slopeIn : MethodName := ⟨RX4, "slopeIn", "(III)I"⟩
abbrev cX4_bendOf : ByteArray := prog_6_method_13_code
def yX4_bendOf : MethodName := ⟨RX4, "bendOf", "(IIJ)J"⟩
abbrev cX4_copyFrom : ByteArray := prog_6_method_14_code
def yX4_copyFrom : MethodName := ⟨RX4, "copyFrom", "(LLagSolver$Path;)V"⟩
def RX5 : String := "LagSolver$Rights"
def TX5 : u_T := fun k => match k with
  | 0 => ("LagSolver$Rights", "codes", "[I", true)
  | 1 => ("LagSolver$Rights", "lengths", "[I", true)
  | _ => ("LagSolver$Rights", "operands", "[I", true)
def tyX5 : Nat → FieldType := fun k => match k with
  | 0 => .array .int
  | 1 => .array .int
  | _ => .array .int
abbrev wsX50 : List Cond := u_ws RX5 TX5 3
theorem nmX5 : ∀ a, a < 3 → ∀ b, b < 3 → a ≠ b → (TX5 a).2.1 ≠ (TX5 b).2.1 := by decide +kernel
theorem tyX5_ok : ∀ k, k < 3 → parseFieldDescriptor (TX5 k).2.2.1 = some (tyX5 k) := by decide +kernel
abbrev cX5_init : ByteArray := prog_7_method_1_code
def yX5_init : MethodName := ⟨RX5, "<init>", "()V"⟩
abbrev cX5_take : ByteArray := prog_7_method_2_code
def yX5_take : MethodName := ⟨RX5, "take", "(ILLagSolver$Text;)V"⟩
abbrev cX5_allOperands : ByteArray := prog_7_method_3_code
def yX5_allOperands : MethodName := ⟨RX5, "allOperands", "()I"⟩
abbrev cX5_workOut : ByteArray := prog_7_method_4_code
def yX5_workOut : MethodName := ⟨RX5, "workOut", "(I[I[I)I"⟩
abbrev cX5_join : ByteArray := prog_7_method_5_code
def yX5_join : MethodName := ⟨RX5, "join", "(IJJ)I"⟩
abbrev cX5_copyFrom : ByteArray := prog_7_method_6_code
def yX5_copyFrom : MethodName := ⟨RX5, "copyFrom", "(LLagSolver$Rights;)V"⟩
def RX6 : String := "LagSolver$State"
def TX6 : u_T := fun k => match k with
  | 0 => ("LagSolver$State", "rights", "LLagSolver$Rights;", true)
  | 1 => ("LagSolver$State", "lags", "LLagSolver$Lags;", true)
  | 2 => ("LagSolver$State", "histories", "LLagSolver$Histories;", true)
  | 3 => ("LagSolver$State", "settings", "[I", true)
  | 4 => ("LagSolver$State", "breaks", "LLagSolver$Breaks;", true)
  | _ => ("LagSolver$State", "path", "LLagSolver$Path;", true)
def tyX6 : Nat → FieldType := fun k => match k with
  | 0 => .object "LagSolver$Rights"
  | 1 => .object "LagSolver$Lags"
  | 2 => .object "LagSolver$Histories"
  | 3 => .array .int
  | 4 => .object "LagSolver$Breaks"
  | _ => .object "LagSolver$Path"
abbrev wsX60 : List Cond := u_ws RX6 TX6 6
theorem nmX6 : ∀ a, a < 6 → ∀ b, b < 6 → a ≠ b → (TX6 a).2.1 ≠ (TX6 b).2.1 := by decide +kernel
theorem tyX6_ok : ∀ k, k < 6 → parseFieldDescriptor (TX6 k).2.2.1 = some (tyX6 k) := by decide +kernel
abbrev cX6_init : ByteArray := prog_8_method_1_code
def yX6_init : MethodName := ⟨RX6, "<init>", "()V"⟩
abbrev cX6_restart : ByteArray := prog_8_method_2_code
def yX6_restart : MethodName := ⟨RX6, "restart", "()V"⟩
abbrev cX6_valueIn : ByteArray := prog_8_method_3_code
def yX6_valueIn : MethodName := ⟨RX6, "valueIn", "(III)I"⟩
abbrev cX6_slopeIn : ByteArray := prog_8_method_4_code
def yX6_slopeIn : MethodName := ⟨RX6, "slopeIn", "(III)I"⟩
abbrev cX6_copyProblem : ByteArray := prog_8_method_5_code
def yX6_copyProblem : MethodName := ⟨RX6, "copyProblem", "(LLagSolver$State;)V"⟩
abbrev cX6_copyFrom : ByteArray := prog_8_method_6_code
def yX6_copyFrom : MethodName := ⟨RX6, "copyFrom", "(LLagSolver$State;)V"⟩
def RX7 : String := "LagSolver$Stepper"
def TX7 : u_T := fun k => match k with
  | 0 => ("LagSolver$Stepper", "known", "[I", true)
  | 1 => ("LagSolver$Stepper", "stack", "[I", true)
  | 2 => ("LagSolver$Stepper", "begin", "[I", true)
  | 3 => ("LagSolver$Stepper", "guess", "[I", true)
  | 4 => ("LagSolver$Stepper", "firstSlopes", "[I", true)
  | _ => ("LagSolver$Stepper", "secondSlopes", "[I", true)
def tyX7 : Nat → FieldType := fun k => match k with
  | 0 => .array .int
  | 1 => .array .int
  | 2 => .array .int
  | 3 => .array .int
  | 4 => .array .int
  | _ => .array .int
abbrev wsX70 : List Cond := u_ws RX7 TX7 6
theorem nmX7 : ∀ a, a < 6 → ∀ b, b < 6 → a ≠ b → (TX7 a).2.1 ≠ (TX7 b).2.1 := by decide +kernel
theorem tyX7_ok : ∀ k, k < 6 → parseFieldDescriptor (TX7 k).2.2.1 = some (tyX7 k) := by decide +kernel
abbrev cX7_init : ByteArray := prog_9_method_1_code
def yX7_init : MethodName := ⟨RX7, "<init>", "()V"⟩
abbrev cX7_advance : ByteArray := prog_9_method_2_code
def yX7_advance : MethodName := ⟨RX7, "advance", "(LLagSolver$State;I)V"⟩
abbrev cX7_takeStep : ByteArray := prog_9_method_3_code
def yX7_takeStep : MethodName := ⟨RX7, "takeStep", "(LLagSolver$State;II)V"⟩
abbrev cX7_hasShortLag : ByteArray := prog_9_method_4_code
def yX7_hasShortLag : MethodName := ⟨RX7, "hasShortLag", "(LLagSolver$State;II)Z"⟩
abbrev cX7_workOutSlopes : ByteArray := prog_9_method_5_code
def yX7_workOutSlopes : MethodName := ⟨RX7, "workOutSlopes", "(LLagSolver$State;[I)V"⟩
abbrev cX7_rightSide : ByteArray := prog_9_method_6_code
def yX7_rightSide : MethodName := ⟨RX7, "rightSide", "(LLagSolver$State;II)I"⟩
abbrev cX7_gather : ByteArray := prog_9_method_7_code
def yX7_gather : MethodName := ⟨RX7, "gather", "(LLagSolver$State;II)V"⟩
abbrev cX7_guessedValue : ByteArray := prog_9_method_8_code
def yX7_guessedValue : MethodName := ⟨RX7, "guessedValue", "(III)I"⟩
abbrev cX7_guessedSlope : ByteArray := prog_9_method_9_code
def yX7_guessedSlope : MethodName := ⟨RX7, "guessedSlope", "(II)I"⟩
def RX8 : String := "LagSolver$Text"
def TX8 : u_T := fun k => match k with
  | 0 => ("LagSolver$Text", "signs", "[I", true)
  | 1 => ("LagSolver$Text", "length", "I", false)
  | 2 => ("LagSolver$Text", "at", "I", false)
  | 3 => ("LagSolver$Text", "code", "[I", true)
  | 4 => ("LagSolver$Text", "codeLength", "I", false)
  | _ => ("LagSolver$Text", "operandBits", "I", false)
def tyX8 : Nat → FieldType := fun k => match k with
  | 0 => .array .int
  | 1 => .int
  | 2 => .int
  | 3 => .array .int
  | 4 => .int
  | _ => .int
abbrev wsX80 : List Cond := u_ws RX8 TX8 6
theorem nmX8 : ∀ a, a < 6 → ∀ b, b < 6 → a ≠ b → (TX8 a).2.1 ≠ (TX8 b).2.1 := by decide +kernel
theorem tyX8_ok : ∀ k, k < 6 → parseFieldDescriptor (TX8 k).2.2.1 = some (tyX8 k) := by decide +kernel
abbrev cX8_init : ByteArray := prog_10_method_1_code
def yX8_init : MethodName := ⟨RX8, "<init>", "()V"⟩
abbrev cX8_append : ByteArray := prog_10_method_2_code
def yX8_append : MethodName := ⟨RX8, "append", "(I)Z"⟩
abbrev cX8_empty : ByteArray := prog_10_method_3_code
def yX8_empty : MethodName := ⟨RX8, "empty", "()V"⟩
abbrev cX8_read : ByteArray := prog_10_method_4_code
def yX8_read : MethodName := ⟨RX8, "read", "()I"⟩
abbrev cX8_readSum : ByteArray := prog_10_method_5_code
def yX8_readSum : MethodName := ⟨RX8, "readSum", "(I)Z"⟩
abbrev cX8_readTerm : ByteArray := prog_10_method_6_code
def yX8_readTerm : MethodName := ⟨RX8, "readTerm", "(I)Z"⟩
abbrev cX8_readUnit : ByteArray := prog_10_method_7_code
def yX8_readUnit : MethodName := ⟨RX8, "readUnit", "(I)Z"⟩
abbrev cX8_readBareUnit : ByteArray := prog_10_method_8_code
def yX8_readBareUnit : MethodName := ⟨RX8, "readBareUnit", "(I)Z"⟩
abbrev cX8_readNumber : ByteArray := prog_10_method_9_code
def yX8_readNumber : MethodName := ⟨RX8, "readNumber", "()Z"⟩
abbrev cX8_readName : ByteArray := prog_10_method_10_code
def yX8_readName : MethodName := ⟨RX8, "readName", "()Z"⟩
abbrev cX8_readLeastOrMost : ByteArray := prog_10_method_11_code
def yX8_readLeastOrMost : MethodName := ⟨RX8, "readLeastOrMost", "(I)Z"⟩
abbrev cX8_readOpen : ByteArray := prog_10_method_12_code
def yX8_readOpen : MethodName := ⟨RX8, "readOpen", "(I)Z"⟩
abbrev cX8_sign : ByteArray := prog_10_method_13_code
def yX8_sign : MethodName := ⟨RX8, "sign", "()I"⟩
abbrev cX8_accept : ByteArray := prog_10_method_14_code
def yX8_accept : MethodName := ⟨RX8, "accept", "(I)Z"⟩
abbrev cX8_isDigit : ByteArray := prog_10_method_15_code
def yX8_isDigit : MethodName := ⟨RX8, "isDigit", "(I)Z"⟩
abbrev cX8_emit : ByteArray := prog_10_method_16_code
def yX8_emit : MethodName := ⟨RX8, "emit", "(II)V"⟩
abbrev cX8_emitOperand : ByteArray := prog_10_method_17_code
def yX8_emitOperand : MethodName := ⟨RX8, "emitOperand", "(I)V"⟩
def RX9 : String := "LagSolver"
def TX9 : u_T := fun k => match k with
  | 0 => ("LagSolver", "text", "LLagSolver$Text;", true)
  | 1 => ("LagSolver", "current", "LLagSolver$State;", true)
  | 2 => ("LagSolver", "kept", "LLagSolver$Kept;", true)
  | 3 => ("LagSolver", "slots", "[LLagSolver$State;", true)
  | 4 => ("LagSolver", "trial", "LLagSolver$State;", false)
  | _ => ("LagSolver", "stepper", "LLagSolver$Stepper;", true)
def tyX9 : Nat → FieldType := fun k => match k with
  | 0 => .object "LagSolver$Text"
  | 1 => .object "LagSolver$State"
  | 2 => .object "LagSolver$Kept"
  | 3 => .array (.object "LagSolver$State")
  | 4 => .object "LagSolver$State"
  | _ => .object "LagSolver$Stepper"
abbrev wsX90 : List Cond := u_ws RX9 TX9 6
theorem nmX9 : ∀ a, a < 6 → ∀ b, b < 6 → a ≠ b → (TX9 a).2.1 ≠ (TX9 b).2.1 := by decide +kernel
theorem tyX9_ok : ∀ k, k < 6 → parseFieldDescriptor (TX9 k).2.2.1 = some (tyX9 k) := by decide +kernel
abbrev cX9_init : ByteArray := prog_1_method_1_code
def yX9_init : MethodName := ⟨RX9, "<init>", "()V"⟩
abbrev cX9_type : ByteArray := prog_1_method_2_code
def yX9_type : MethodName := ⟨RX9, "type", "(I)I"⟩
abbrev cX9_wipe : ByteArray := prog_1_method_3_code
def yX9_wipe : MethodName := ⟨RX9, "wipe", "()I"⟩
abbrev cX9_fault : ByteArray := prog_1_method_4_code
def yX9_fault : MethodName := ⟨RX9, "fault", "()I"⟩
abbrev cX9_right : ByteArray := prog_1_method_5_code
def yX9_right : MethodName := ⟨RX9, "right", "(I)I"⟩
abbrev cX9_delay : ByteArray := prog_1_method_6_code
def yX9_delay : MethodName := ⟨RX9, "delay", "(III)I"⟩
abbrev cX9_point : ByteArray := prog_1_method_7_code
def yX9_point : MethodName := ⟨RX9, "point", "(III)I"⟩
abbrev cX9_clear : ByteArray := prog_1_method_8_code
def yX9_clear : MethodName := ⟨RX9, "clear", "(I)I"⟩
abbrev cX9_set : ByteArray := prog_1_method_9_code
def yX9_set : MethodName := ⟨RX9, "set", "(II)I"⟩
abbrev cX9_lag : ByteArray := prog_1_method_10_code
def yX9_lag : MethodName := ⟨RX9, "lag", "(II)I"⟩
abbrev cX9_breakAt : ByteArray := prog_1_method_11_code
def yX9_breakAt : MethodName := ⟨RX9, "breakAt", "(II)I"⟩
abbrev cX9_solve : ByteArray := prog_1_method_12_code
def yX9_solve : MethodName := ⟨RX9, "solve", "(I)I"⟩
abbrev cX9_value : ByteArray := prog_1_method_13_code
def yX9_value : MethodName := ⟨RX9, "value", "(II)I"⟩
abbrev cX9_slope : ByteArray := prog_1_method_14_code
def yX9_slope : MethodName := ⟨RX9, "slope", "(II)I"⟩
abbrev cX9_rightAt : ByteArray := prog_1_method_15_code
def yX9_rightAt : MethodName := ⟨RX9, "rightAt", "(II)I"⟩
abbrev cX9_step : ByteArray := prog_1_method_16_code
def yX9_step : MethodName := ⟨RX9, "step", "(II)I"⟩
abbrev cX9_crossing : ByteArray := prog_1_method_17_code
def yX9_crossing : MethodName := ⟨RX9, "crossing", "(III)I"⟩
abbrev cX9_greatest : ByteArray := prog_1_method_18_code
def yX9_greatest : MethodName := ⟨RX9, "greatest", "(IIII)I"⟩
abbrev cX9_differs : ByteArray := prog_1_method_19_code
def yX9_differs : MethodName := ⟨RX9, "differs", "(I)I"⟩
abbrev cX9_count : ByteArray := prog_1_method_20_code
def yX9_count : MethodName := ⟨RX9, "count", "(I)I"⟩
abbrev cX9_undo : ByteArray := prog_1_method_21_code
def yX9_undo : MethodName := ⟨RX9, "undo", "()I"⟩
abbrev cX9_save : ByteArray := prog_1_method_22_code
def yX9_save : MethodName := ⟨RX9, "save", "(I)I"⟩
abbrev cX9_restore : ByteArray := prog_1_method_23_code
def yX9_restore : MethodName := ⟨RX9, "restore", "(I)I"⟩
abbrev cX9_isWithin : ByteArray := prog_1_method_24_code
def yX9_isWithin : MethodName := ⟨RX9, "isWithin", "(III)Z"⟩
abbrev cX9_isVariable : ByteArray := prog_1_method_25_code
def yX9_isVariable : MethodName := ⟨RX9, "isVariable", "(I)Z"⟩
abbrev cX9_isDelay : ByteArray := prog_1_method_26_code
def yX9_isDelay : MethodName := ⟨RX9, "isDelay", "(I)Z"⟩
abbrev cX9_hold : ByteArray := prog_1_method_27_code
def yX9_hold : MethodName := ⟨RX9, "hold", "(J)I"⟩
abbrev cX9_quotient : ByteArray := prog_1_method_28_code
def yX9_quotient : MethodName := ⟨RX9, "quotient", "(JJ)J"⟩
abbrev cX9_pick : ByteArray := prog_1_method_29_code
def yX9_pick : MethodName := ⟨RX9, "pick", "([II)I"⟩
abbrev cX9_put : ByteArray := prog_1_method_30_code
def yX9_put : MethodName := ⟨RX9, "put", "([III)V"⟩
abbrev cX9_copyRow : ByteArray := prog_1_method_31_code
def yX9_copyRow : MethodName := ⟨RX9, "copyRow", "([I[II)V"⟩
abbrev cX9_makeRoom : ByteArray := prog_1_method_32_code
def yX9_makeRoom : MethodName := ⟨RX9, "makeRoom", "([III)V"⟩
abbrev cX9_hasBit : ByteArray := prog_1_method_33_code
def yX9_hasBit : MethodName := ⟨RX9, "hasBit", "(II)Z"⟩
abbrev cX9_pastOperand : ByteArray := prog_1_method_34_code
def yX9_pastOperand : MethodName := ⟨RX9, "pastOperand", "(II)I"⟩
abbrev cX9_slopeOperand : ByteArray := prog_1_method_35_code
def yX9_slopeOperand : MethodName := ⟨RX9, "slopeOperand", "(II)I"⟩
abbrev cX9_needsDelay : ByteArray := prog_1_method_36_code
def yX9_needsDelay : MethodName := ⟨RX9, "needsDelay", "(II)Z"⟩
abbrev cX9_delaysIn : ByteArray := prog_1_method_37_code
def yX9_delaysIn : MethodName := ⟨RX9, "delaysIn", "(I)I"⟩
def RX10 : String := "LagSolverModel"
def TX10 : u_T := fun k => match k with
  | 0 => ("LagSolverModel", "now", "[I", true)
  | 1 => ("LagSolverModel", "past", "[I", true)
  | 2 => ("LagSolverModel", "saved", "I", false)
  | 3 => ("LagSolverModel", "slots", "[I", true)
  | 4 => ("LagSolverModel", "inSlot", "[I", true)
  | 5 => ("LagSolverModel", "text", "[I", true)
  | 6 => ("LagSolverModel", "length", "I", false)
  | 7 => ("LagSolverModel", "breaks", "[I", true)
  | 8 => ("LagSolverModel", "orders", "[I", true)
  | 9 => ("LagSolverModel", "by", "[I", true)
  | 10 => ("LagSolverModel", "breakMany", "I", false)
  | 11 => ("LagSolverModel", "begins", "[I", true)
  | 12 => ("LagSolverModel", "lengths", "[I", true)
  | 13 => ("LagSolverModel", "rounds", "[I", true)
  | 14 => ("LagSolverModel", "from", "[J", true)
  | 15 => ("LagSolverModel", "slopes", "[J", true)
  | 16 => ("LagSolverModel", "to", "[J", true)
  | 17 => ("LagSolverModel", "steps", "I", false)
  | 18 => ("LagSolverModel", "solved", "I", false)
  | 19 => ("LagSolverModel", "isGuess", "Z", false)
  | 20 => ("LagSolverModel", "guessAt", "I", false)
  | 21 => ("LagSolverModel", "guessFor", "I", false)
  | 22 => ("LagSolverModel", "start", "[J", true)
  | 23 => ("LagSolverModel", "guess", "[J", true)
  | 24 => ("LagSolverModel", "first", "[J", true)
  | 25 => ("LagSolverModel", "second", "[J", true)
  | 26 => ("LagSolverModel", "other", "[J", true)
  | 27 => ("LagSolverModel", "values", "[J", true)
  | 28 => ("LagSolverModel", "signs", "[I", true)
  | 29 => ("LagSolverModel", "valueMany", "I", false)
  | _ => ("LagSolverModel", "signMany", "I", false)
def tyX10 : Nat → FieldType := fun k => match k with
  | 0 => .array .int
  | 1 => .array .int
  | 2 => .int
  | 3 => .array .int
  | 4 => .array .int
  | 5 => .array .int
  | 6 => .int
  | 7 => .array .int
  | 8 => .array .int
  | 9 => .array .int
  | 10 => .int
  | 11 => .array .int
  | 12 => .array .int
  | 13 => .array .int
  | 14 => .array .long
  | 15 => .array .long
  | 16 => .array .long
  | 17 => .int
  | 18 => .int
  | 19 => .boolean
  | 20 => .int
  | 21 => .int
  | 22 => .array .long
  | 23 => .array .long
  | 24 => .array .long
  | 25 => .array .long
  | 26 => .array .long
  | 27 => .array .long
  | 28 => .array .int
  | 29 => .int
  | _ => .int
abbrev wsX100 : List Cond := u_ws RX10 TX10 31
theorem nmX10 : ∀ a, a < 31 → ∀ b, b < 31 → a ≠ b → (TX10 a).2.1 ≠ (TX10 b).2.1 := by decide +kernel
theorem tyX10_ok : ∀ k, k < 31 → parseFieldDescriptor (TX10 k).2.2.1 = some (tyX10 k) := by decide +kernel
abbrev cX10_init : ByteArray := prog_12_method_1_code
def yX10_init : MethodName := ⟨RX10, "<init>", "()V"⟩
abbrev cX10_within : ByteArray := prog_12_method_2_code
def yX10_within : MethodName := ⟨RX10, "within", "(III)Z"⟩
abbrev cX10_held : ByteArray := prog_12_method_3_code
def yX10_held : MethodName := ⟨RX10, "held", "(J)J"⟩
abbrev cX10_saves : ByteArray := prog_12_method_4_code
def yX10_saves : MethodName := ⟨RX10, "saves", "()V"⟩
abbrev cX10_undo : ByteArray := prog_12_method_5_code
def yX10_undo : MethodName := ⟨RX10, "undo", "()I"⟩
abbrev cX10_save : ByteArray := prog_12_method_6_code
def yX10_save : MethodName := ⟨RX10, "save", "(I)I"⟩
abbrev cX10_restore : ByteArray := prog_12_method_7_code
def yX10_restore : MethodName := ⟨RX10, "restore", "(I)I"⟩
abbrev cX10_anew : ByteArray := prog_12_method_8_code
def yX10_anew : MethodName := ⟨RX10, "anew", "()V"⟩
abbrev cX10_type : ByteArray := prog_12_method_9_code
def yX10_type : MethodName := ⟨RX10, "type", "(I)I"⟩
abbrev cX10_wipe : ByteArray := prog_12_method_10_code
def yX10_wipe : MethodName := ⟨RX10, "wipe", "()I"⟩
abbrev cX10_letter : ByteArray := prog_12_method_11_code
def yX10_letter : MethodName := ⟨RX10, "letter", "(I)I"⟩
abbrev cX10_isDigit : ByteArray := prog_12_method_12_code
def yX10_isDigit : MethodName := ⟨RX10, "isDigit", "(I)Z"⟩
abbrev cX10_isName : ByteArray := prog_12_method_13_code
def yX10_isName : MethodName := ⟨RX10, "isName", "(I)Z"⟩
abbrev cX10_digits : ByteArray := prog_12_method_14_code
def yX10_digits : MethodName := ⟨RX10, "digits", "(II)I"⟩
abbrev cX10_numberEnd : ByteArray := prog_12_method_15_code
def yX10_numberEnd : MethodName := ⟨RX10, "numberEnd", "(I)I"⟩
abbrev cX10_nameEnd : ByteArray := prog_12_method_16_code
def yX10_nameEnd : MethodName := ⟨RX10, "nameEnd", "(I)I"⟩
abbrev cX10_wordEnd : ByteArray := prog_12_method_17_code
def yX10_wordEnd : MethodName := ⟨RX10, "wordEnd", "(I)I"⟩
abbrev cX10_faultOf : ByteArray := prog_12_method_18_code
def yX10_faultOf : MethodName := ⟨RX10, "faultOf", "()I"⟩
abbrev cX10_fault : ByteArray := prog_12_method_19_code
def yX10_fault : MethodName := ⟨RX10, "fault", "()I"⟩
abbrev cX10_isThree : ByteArray := prog_12_method_20_code
def yX10_isThree : MethodName := ⟨RX10, "isThree", "(I)Z"⟩
abbrev cX10_rightLetter : ByteArray := prog_12_method_21_code
def yX10_rightLetter : MethodName := ⟨RX10, "rightLetter", "(II)I"⟩
abbrev cX10_usedBy : ByteArray := prog_12_method_22_code
def yX10_usedBy : MethodName := ⟨RX10, "usedBy", "(I)I"⟩
abbrev cX10_used : ByteArray := prog_12_method_23_code
def yX10_used : MethodName := ⟨RX10, "used", "()I"⟩
abbrev cX10_right : ByteArray := prog_12_method_24_code
def yX10_right : MethodName := ⟨RX10, "right", "(I)I"⟩
abbrev cX10_delay : ByteArray := prog_12_method_25_code
def yX10_delay : MethodName := ⟨RX10, "delay", "(III)I"⟩
abbrev cX10_pointTime : ByteArray := prog_12_method_26_code
def yX10_pointTime : MethodName := ⟨RX10, "pointTime", "(II)I"⟩
abbrev cX10_pointValue : ByteArray := prog_12_method_27_code
def yX10_pointValue : MethodName := ⟨RX10, "pointValue", "(II)I"⟩
abbrev cX10_points : ByteArray := prog_12_method_28_code
def yX10_points : MethodName := ⟨RX10, "points", "(I)I"⟩
abbrev cX10_point : ByteArray := prog_12_method_29_code
def yX10_point : MethodName := ⟨RX10, "point", "(III)I"⟩
abbrev cX10_clear : ByteArray := prog_12_method_30_code
def yX10_clear : MethodName := ⟨RX10, "clear", "(I)I"⟩
abbrev cX10_set : ByteArray := prog_12_method_31_code
def yX10_set : MethodName := ⟨RX10, "set", "(II)I"⟩
abbrev cX10_lagAt : ByteArray := prog_12_method_32_code
def yX10_lagAt : MethodName := ⟨RX10, "lagAt", "(II)I"⟩
abbrev cX10_lag : ByteArray := prog_12_method_33_code
def yX10_lag : MethodName := ⟨RX10, "lag", "(II)I"⟩
abbrev cX10_madeFrom : ByteArray := prog_12_method_34_code
def yX10_madeFrom : MethodName := ⟨RX10, "madeFrom", "(II)I"⟩
abbrev cX10_breakWith : ByteArray := prog_12_method_35_code
def yX10_breakWith : MethodName := ⟨RX10, "breakWith", "(I)I"⟩
abbrev cX10_makes : ByteArray := prog_12_method_36_code
def yX10_makes : MethodName := ⟨RX10, "makes", "(III)V"⟩
abbrev cX10_findsBreaks : ByteArray := prog_12_method_37_code
def yX10_findsBreaks : MethodName := ⟨RX10, "findsBreaks", "()V"⟩
abbrev cX10_swaps : ByteArray := prog_12_method_38_code
def yX10_swaps : MethodName := ⟨RX10, "swaps", "([II)V"⟩
abbrev cX10_breakAt : ByteArray := prog_12_method_39_code
def yX10_breakAt : MethodName := ⟨RX10, "breakAt", "(II)I"⟩
abbrev cX10_nextBreak : ByteArray := prog_12_method_40_code
def yX10_nextBreak : MethodName := ⟨RX10, "nextBreak", "(I)I"⟩
abbrev cX10_historyValue : ByteArray := prog_12_method_41_code
def yX10_historyValue : MethodName := ⟨RX10, "historyValue", "(II)J"⟩
abbrev cX10_historySlope : ByteArray := prog_12_method_42_code
def yX10_historySlope : MethodName := ⟨RX10, "historySlope", "(II)J"⟩
abbrev cX10_stepOf : ByteArray := prog_12_method_43_code
def yX10_stepOf : MethodName := ⟨RX10, "stepOf", "(I)I"⟩
abbrev cX10_bend : ByteArray := prog_12_method_44_code
def yX10_bend : MethodName := ⟨RX10, "bend", "(II)J"⟩
abbrev cX10_toldValue : ByteArray := prog_12_method_45_code
def yX10_toldValue : MethodName := ⟨RX10, "toldValue", "(II)J"⟩
abbrev cX10_toldSlope : ByteArray := prog_12_method_46_code
def yX10_toldSlope : MethodName := ⟨RX10, "toldSlope", "(II)J"⟩
abbrev cX10_valueAt : ByteArray := prog_12_method_47_code
def yX10_valueAt : MethodName := ⟨RX10, "valueAt", "(II)J"⟩
abbrev cX10_slopeAt : ByteArray := prog_12_method_48_code
def yX10_slopeAt : MethodName := ⟨RX10, "slopeAt", "(II)J"⟩
abbrev cX10_rank : ByteArray := prog_12_method_49_code
def yX10_rank : MethodName := ⟨RX10, "rank", "(I)I"⟩
abbrev cX10_carriesOut : ByteArray := prog_12_method_50_code
def yX10_carriesOut : MethodName := ⟨RX10, "carriesOut", "()V"⟩
abbrev cX10_carriesAll : ByteArray := prog_12_method_51_code
def yX10_carriesAll : MethodName := ⟨RX10, "carriesAll", "(I)V"⟩
abbrev cX10_negates : ByteArray := prog_12_method_52_code
def yX10_negates : MethodName := ⟨RX10, "negates", "()V"⟩
abbrev cX10_puts : ByteArray := prog_12_method_53_code
def yX10_puts : MethodName := ⟨RX10, "puts", "(J)V"⟩
abbrev cX10_putsSign : ByteArray := prog_12_method_54_code
def yX10_putsSign : MethodName := ⟨RX10, "putsSign", "(I)V"⟩
abbrev cX10_shuts : ByteArray := prog_12_method_55_code
def yX10_shuts : MethodName := ⟨RX10, "shuts", "()V"⟩
abbrev cX10_numberAt : ByteArray := prog_12_method_56_code
def yX10_numberAt : MethodName := ⟨RX10, "numberAt", "(II)J"⟩
abbrev cX10_behindNumber : ByteArray := prog_12_method_57_code
def yX10_behindNumber : MethodName := ⟨RX10, "behindNumber", "(II)I"⟩
abbrev cX10_worksOut : ByteArray := prog_12_method_58_code
def yX10_worksOut : MethodName := ⟨RX10, "worksOut", "(II)J"⟩
abbrev cX10_opens : ByteArray := prog_12_method_59_code
def yX10_opens : MethodName := ⟨RX10, "opens", "(IZ)V"⟩
abbrev cX10_solvesAll : ByteArray := prog_12_method_60_code
def yX10_solvesAll : MethodName := ⟨RX10, "solvesAll", "()V"⟩
abbrev cX10_goesTo : ByteArray := prog_12_method_61_code
def yX10_goesTo : MethodName := ⟨RX10, "goesTo", "(I)V"⟩
abbrev cX10_needsRounds : ByteArray := prog_12_method_62_code
def yX10_needsRounds : MethodName := ⟨RX10, "needsRounds", "(II)Z"⟩
abbrev cX10_guesses : ByteArray := prog_12_method_63_code
def yX10_guesses : MethodName := ⟨RX10, "guesses", "(II)V"⟩
abbrev cX10_stepBy : ByteArray := prog_12_method_64_code
def yX10_stepBy : MethodName := ⟨RX10, "stepBy", "(I)V"⟩
abbrev cX10_solve : ByteArray := prog_12_method_65_code
def yX10_solve : MethodName := ⟨RX10, "solve", "(I)I"⟩
abbrev cX10_value : ByteArray := prog_12_method_66_code
def yX10_value : MethodName := ⟨RX10, "value", "(II)I"⟩
abbrev cX10_slope : ByteArray := prog_12_method_67_code
def yX10_slope : MethodName := ⟨RX10, "slope", "(II)I"⟩
abbrev cX10_rightAt : ByteArray := prog_12_method_68_code
def yX10_rightAt : MethodName := ⟨RX10, "rightAt", "(II)I"⟩
abbrev cX10_step : ByteArray := prog_12_method_69_code
def yX10_step : MethodName := ⟨RX10, "step", "(II)I"⟩
abbrev cX10_crossing : ByteArray := prog_12_method_70_code
def yX10_crossing : MethodName := ⟨RX10, "crossing", "(III)I"⟩
abbrev cX10_greatest : ByteArray := prog_12_method_71_code
def yX10_greatest : MethodName := ⟨RX10, "greatest", "(IIII)I"⟩
abbrev cX10_differs : ByteArray := prog_12_method_72_code
def yX10_differs : MethodName := ⟨RX10, "differs", "(I)I"⟩
abbrev cX10_count : ByteArray := prog_12_method_73_code
def yX10_count : MethodName := ⟨RX10, "count", "(I)I"⟩
def RL : String := "LagSolverLaw"
def yL_law : MethodName := ⟨RL, "law", "([I)Z"⟩
abbrev clX : List vw_C := [(RX0, TX0, 4), (RX1, TX1, 3), (RX2, TX2, 2), (RX3, TX3, 2), (RX4, TX4, 2), (RX5, TX5, 3), (RX6, TX6, 6), (RX7, TX7, 6), (RX8, TX8, 6), (RX9, TX9, 6), (RX10, TX10, 31)]
/-- the words that move with a warmed machine, and the links of nest mates -/
def isNest : Cond → Bool
  | .methodLinkNest _ _ _ _ => true
  | .fieldLinkNest _ _ _ _ _ _ => true
  | _ => false
def tG : List Cond := lw_tbl.filter goodWord
def nG : List Cond := lw_tbl.filter isNest
theorem mem_tG {c : Cond} (i : Nat) (h : lw_tbl[i]? = some c) (g : goodWord c = true) : c ∈ tG := List.mem_filter.mpr ⟨List.mem_of_getElem? h, g⟩
theorem mem_nG {c : Cond} (i : Nat) (h : lw_tbl[i]? = some c) (g : isNest c = true) : c ∈ nG := List.mem_filter.mpr ⟨List.mem_of_getElem? h, g⟩
theorem tG_good {w : Cond} (h : w ∈ tG) : (w.onTables && w.keeps) = true ∨ ∃ ty, w = .arrayClass ty := good_of_word (List.mem_filter.mp h).2
