section
-- ===== PART A: goes FIRST, ahead of the names: the tables' words, and 'selects' of the private methods out of them =====
/-- a private method of a class that the tables say can be made, by its rows of tables_1 -/
def lw_okq (q : MethodName × Nat) : Prop := (q.1.cls ≠ "java/lang/invoke/MethodHandle" ∧ q.1.cls ≠ "java/lang/invoke/VarHandle") ∧ Cond.instantiable q.1.cls q.2 ∈ tables_1 ∧ Cond.privateMethod q.1 ∈ tables_1 ∧ Cond.instanceMethod q.1 ∈ tables_1
theorem lw_p0 : lw_okq (⟨"NullGuard$Program", "charAt", "(I)C"⟩, 16) := ⟨⟨by decide +kernel, by decide +kernel⟩, List.mem_of_getElem? (i := 17) (by decide +kernel), List.mem_of_getElem? (i := 30) (by decide +kernel), List.mem_of_getElem? (i := 31) (by decide +kernel)⟩
theorem lw_p1 : lw_okq (⟨"NullGuard$Program", "closeBlock", "(I)I"⟩, 16) := ⟨⟨by decide +kernel, by decide +kernel⟩, List.mem_of_getElem? (i := 17) (by decide +kernel), List.mem_of_getElem? (i := 34) (by decide +kernel), List.mem_of_getElem? (i := 35) (by decide +kernel)⟩
theorem lw_p2 : lw_okq (⟨"NullGuard$Program", "linkAtoms", "(III)V"⟩, 16) := ⟨⟨by decide +kernel, by decide +kernel⟩, List.mem_of_getElem? (i := 17) (by decide +kernel), List.mem_of_getElem? (i := 38) (by decide +kernel), List.mem_of_getElem? (i := 39) (by decide +kernel)⟩
theorem lw_p3 : lw_okq (⟨"NullGuard$Program", "readStatement", "(I)I"⟩, 16) := ⟨⟨by decide +kernel, by decide +kernel⟩, List.mem_of_getElem? (i := 17) (by decide +kernel), List.mem_of_getElem? (i := 42) (by decide +kernel), List.mem_of_getElem? (i := 43) (by decide +kernel)⟩
theorem lw_p4 : lw_okq (⟨"NullGuard$Program", "readCondition", "(I)I"⟩, 16) := ⟨⟨by decide +kernel, by decide +kernel⟩, List.mem_of_getElem? (i := 17) (by decide +kernel), List.mem_of_getElem? (i := 46) (by decide +kernel), List.mem_of_getElem? (i := 47) (by decide +kernel)⟩
theorem lw_p5 : lw_okq (⟨"NullGuard$Program", "readAtom", "(I)I"⟩, 16) := ⟨⟨by decide +kernel, by decide +kernel⟩, List.mem_of_getElem? (i := 17) (by decide +kernel), List.mem_of_getElem? (i := 50) (by decide +kernel), List.mem_of_getElem? (i := 51) (by decide +kernel)⟩
theorem lw_p6 : lw_okq (⟨"NullGuard$Program", "partAt", "(I)I"⟩, 16) := ⟨⟨by decide +kernel, by decide +kernel⟩, List.mem_of_getElem? (i := 17) (by decide +kernel), List.mem_of_getElem? (i := 54) (by decide +kernel), List.mem_of_getElem? (i := 55) (by decide +kernel)⟩
theorem lw_p7 : lw_okq (⟨"NullGuard$Program", "openBlock", "(II)I"⟩, 16) := ⟨⟨by decide +kernel, by decide +kernel⟩, List.mem_of_getElem? (i := 17) (by decide +kernel), List.mem_of_getElem? (i := 64) (by decide +kernel), List.mem_of_getElem? (i := 65) (by decide +kernel)⟩
theorem lw_p8 : lw_okq (⟨"NullGuard$Program", "readSign", "(II)I"⟩, 16) := ⟨⟨by decide +kernel, by decide +kernel⟩, List.mem_of_getElem? (i := 17) (by decide +kernel), List.mem_of_getElem? (i := 68) (by decide +kernel), List.mem_of_getElem? (i := 69) (by decide +kernel)⟩
theorem lw_p9 : lw_okq (⟨"NullGuard$Program", "readWrite", "(I)I"⟩, 16) := ⟨⟨by decide +kernel, by decide +kernel⟩, List.mem_of_getElem? (i := 17) (by decide +kernel), List.mem_of_getElem? (i := 72) (by decide +kernel), List.mem_of_getElem? (i := 73) (by decide +kernel)⟩
theorem lw_p10 : lw_okq (⟨"NullGuard$Program", "valueAt", "(I)I"⟩, 16) := ⟨⟨by decide +kernel, by decide +kernel⟩, List.mem_of_getElem? (i := 17) (by decide +kernel), List.mem_of_getElem? (i := 76) (by decide +kernel), List.mem_of_getElem? (i := 77) (by decide +kernel)⟩
theorem lw_p11 : lw_okq (⟨"NullGuard$Program", "leadWaysOutOfBlocks", "()V"⟩, 16) := ⟨⟨by decide +kernel, by decide +kernel⟩, List.mem_of_getElem? (i := 17) (by decide +kernel), List.mem_of_getElem? (i := 80) (by decide +kernel), List.mem_of_getElem? (i := 81) (by decide +kernel)⟩
theorem lw_p12 : lw_okq (⟨"NullGuard$Program", "outOfBlocks", "(I)I"⟩, 16) := ⟨⟨by decide +kernel, by decide +kernel⟩, List.mem_of_getElem? (i := 17) (by decide +kernel), List.mem_of_getElem? (i := 84) (by decide +kernel), List.mem_of_getElem? (i := 85) (by decide +kernel)⟩
theorem lw_p13 : lw_okq (⟨"NullGuard", "knowledge", "()LNullGuard$Checker;"⟩, 5) := ⟨⟨by decide +kernel, by decide +kernel⟩, List.mem_of_getElem? (i := 9) (by decide +kernel), List.mem_of_getElem? (i := 272) (by decide +kernel), List.mem_of_getElem? (i := 273) (by decide +kernel)⟩
theorem lw_p14 : lw_okq (⟨"NullGuard$Checker", "flowFrom", "(LNullGuard$Program;II)V"⟩, 5) := ⟨⟨by decide +kernel, by decide +kernel⟩, List.mem_of_getElem? (i := 157) (by decide +kernel), List.mem_of_getElem? (i := 285) (by decide +kernel), List.mem_of_getElem? (i := 286) (by decide +kernel)⟩
theorem lw_p15 : lw_okq (⟨"NullGuard$Checker", "write", "(LNullGuard$Program;II)V"⟩, 5) := ⟨⟨by decide +kernel, by decide +kernel⟩, List.mem_of_getElem? (i := 157) (by decide +kernel), List.mem_of_getElem? (i := 289) (by decide +kernel), List.mem_of_getElem? (i := 290) (by decide +kernel)⟩
def lw_privs_1 : List (MethodName × Nat) := [(⟨"NullGuard$Program", "charAt", "(I)C"⟩, 16), (⟨"NullGuard$Program", "closeBlock", "(I)I"⟩, 16), (⟨"NullGuard$Program", "linkAtoms", "(III)V"⟩, 16), (⟨"NullGuard$Program", "readStatement", "(I)I"⟩, 16), (⟨"NullGuard$Program", "readCondition", "(I)I"⟩, 16), (⟨"NullGuard$Program", "readAtom", "(I)I"⟩, 16), (⟨"NullGuard$Program", "partAt", "(I)I"⟩, 16), (⟨"NullGuard$Program", "openBlock", "(II)I"⟩, 16), (⟨"NullGuard$Program", "readSign", "(II)I"⟩, 16), (⟨"NullGuard$Program", "readWrite", "(I)I"⟩, 16), (⟨"NullGuard$Program", "valueAt", "(I)I"⟩, 16), (⟨"NullGuard$Program", "leadWaysOutOfBlocks", "()V"⟩, 16), (⟨"NullGuard$Program", "outOfBlocks", "(I)I"⟩, 16), (⟨"NullGuard", "knowledge", "()LNullGuard$Checker;"⟩, 5), (⟨"NullGuard$Checker", "flowFrom", "(LNullGuard$Program;II)V"⟩, 5), (⟨"NullGuard$Checker", "write", "(LNullGuard$Program;II)V"⟩, 5)]
theorem lw_r1 : ∀ q ∈ lw_privs_1, lw_okq q := List.forall_mem_cons.mpr ⟨lw_p0, List.forall_mem_cons.mpr ⟨lw_p1, List.forall_mem_cons.mpr ⟨lw_p2, List.forall_mem_cons.mpr ⟨lw_p3, List.forall_mem_cons.mpr ⟨lw_p4, List.forall_mem_cons.mpr ⟨lw_p5, List.forall_mem_cons.mpr ⟨lw_p6, List.forall_mem_cons.mpr ⟨lw_p7, List.forall_mem_cons.mpr ⟨lw_p8, List.forall_mem_cons.mpr ⟨lw_p9, List.forall_mem_cons.mpr ⟨lw_p10, List.forall_mem_cons.mpr ⟨lw_p11, List.forall_mem_cons.mpr ⟨lw_p12, List.forall_mem_cons.mpr ⟨lw_p13, List.forall_mem_cons.mpr ⟨lw_p14, List.forall_mem_cons.mpr ⟨lw_p15, fun _ h => absurd h List.not_mem_nil⟩⟩⟩⟩⟩⟩⟩⟩⟩⟩⟩⟩⟩⟩⟩⟩
theorem lw_p16 : lw_okq (⟨"NullGuard$Checker", "takeValue", "(II)Z"⟩, 5) := ⟨⟨by decide +kernel, by decide +kernel⟩, List.mem_of_getElem? (i := 157) (by decide +kernel), List.mem_of_getElem? (i := 293) (by decide +kernel), List.mem_of_getElem? (i := 294) (by decide +kernel)⟩
theorem lw_p17 : lw_okq (⟨"NullGuard$Checker", "unlinkAll", "()V"⟩, 5) := ⟨⟨by decide +kernel, by decide +kernel⟩, List.mem_of_getElem? (i := 157) (by decide +kernel), List.mem_of_getElem? (i := 297) (by decide +kernel), List.mem_of_getElem? (i := 298) (by decide +kernel)⟩
theorem lw_p18 : lw_okq (⟨"NullGuard$Checker", "has", "(I)Z"⟩, 5) := ⟨⟨by decide +kernel, by decide +kernel⟩, List.mem_of_getElem? (i := 157) (by decide +kernel), List.mem_of_getElem? (i := 304) (by decide +kernel), List.mem_of_getElem? (i := 305) (by decide +kernel)⟩
theorem lw_p19 : lw_okq (⟨"NullGuard$Checker", "use", "(I)V"⟩, 5) := ⟨⟨by decide +kernel, by decide +kernel⟩, List.mem_of_getElem? (i := 157) (by decide +kernel), List.mem_of_getElem? (i := 308) (by decide +kernel), List.mem_of_getElem? (i := 309) (by decide +kernel)⟩
theorem lw_p20 : lw_okq (⟨"NullGuard$Checker", "writeLocal", "(IZZZ)V"⟩, 5) := ⟨⟨by decide +kernel, by decide +kernel⟩, List.mem_of_getElem? (i := 157) (by decide +kernel), List.mem_of_getElem? (i := 315) (by decide +kernel), List.mem_of_getElem? (i := 316) (by decide +kernel)⟩
theorem lw_p21 : lw_okq (⟨"NullGuard$Checker", "set", "(IZ)V"⟩, 5) := ⟨⟨by decide +kernel, by decide +kernel⟩, List.mem_of_getElem? (i := 157) (by decide +kernel), List.mem_of_getElem? (i := 319) (by decide +kernel), List.mem_of_getElem? (i := 320) (by decide +kernel)⟩
theorem lw_p22 : lw_okq (⟨"NullGuard$Checker", "writeFieldH", "(IZ)V"⟩, 5) := ⟨⟨by decide +kernel, by decide +kernel⟩, List.mem_of_getElem? (i := 157) (by decide +kernel), List.mem_of_getElem? (i := 323) (by decide +kernel), List.mem_of_getElem? (i := 324) (by decide +kernel)⟩
theorem lw_p23 : lw_okq (⟨"NullGuard$Checker", "flowTo", "(II)V"⟩, 5) := ⟨⟨by decide +kernel, by decide +kernel⟩, List.mem_of_getElem? (i := 157) (by decide +kernel), List.mem_of_getElem? (i := 327) (by decide +kernel), List.mem_of_getElem? (i := 328) (by decide +kernel)⟩
theorem lw_p24 : lw_okq (⟨"NullGuard$Checker", "flowFromAtom", "(LNullGuard$Program;I)V"⟩, 5) := ⟨⟨by decide +kernel, by decide +kernel⟩, List.mem_of_getElem? (i := 157) (by decide +kernel), List.mem_of_getElem? (i := 331) (by decide +kernel), List.mem_of_getElem? (i := 332) (by decide +kernel)⟩
theorem lw_p25 : lw_okq (⟨"NullGuard$Machine", "prepare", "(IJ)V"⟩, 7) := ⟨⟨by decide +kernel, by decide +kernel⟩, List.mem_of_getElem? (i := 180) (by decide +kernel), List.mem_of_getElem? (i := 372) (by decide +kernel), List.mem_of_getElem? (i := 373) (by decide +kernel)⟩
theorem lw_p26 : lw_okq (⟨"NullGuard$Machine", "makeObject", "()I"⟩, 7) := ⟨⟨by decide +kernel, by decide +kernel⟩, List.mem_of_getElem? (i := 180) (by decide +kernel), List.mem_of_getElem? (i := 376) (by decide +kernel), List.mem_of_getElem? (i := 377) (by decide +kernel)⟩
theorem lw_p27 : lw_okq (⟨"NullGuard$Machine", "visit", "(LNullGuard$Program;II)I"⟩, 7) := ⟨⟨by decide +kernel, by decide +kernel⟩, List.mem_of_getElem? (i := 180) (by decide +kernel), List.mem_of_getElem? (i := 380) (by decide +kernel), List.mem_of_getElem? (i := 381) (by decide +kernel)⟩
theorem lw_p28 : lw_okq (⟨"NullGuard$Machine", "write", "(LNullGuard$Program;II)V"⟩, 7) := ⟨⟨by decide +kernel, by decide +kernel⟩, List.mem_of_getElem? (i := 180) (by decide +kernel), List.mem_of_getElem? (i := 384) (by decide +kernel), List.mem_of_getElem? (i := 385) (by decide +kernel)⟩
theorem lw_p29 : lw_okq (⟨"NullGuard$Machine", "findValue", "(II)I"⟩, 7) := ⟨⟨by decide +kernel, by decide +kernel⟩, List.mem_of_getElem? (i := 180) (by decide +kernel), List.mem_of_getElem? (i := 388) (by decide +kernel), List.mem_of_getElem? (i := 389) (by decide +kernel)⟩
theorem lw_p30 : lw_okq (⟨"NullGuard$Machine", "askOracle", "()I"⟩, 7) := ⟨⟨by decide +kernel, by decide +kernel⟩, List.mem_of_getElem? (i := 180) (by decide +kernel), List.mem_of_getElem? (i := 392) (by decide +kernel), List.mem_of_getElem? (i := 393) (by decide +kernel)⟩
theorem lw_p31 : lw_okq (⟨"NullGuard$Machine", "takeBits", "(I)I"⟩, 7) := ⟨⟨by decide +kernel, by decide +kernel⟩, List.mem_of_getElem? (i := 180) (by decide +kernel), List.mem_of_getElem? (i := 396) (by decide +kernel), List.mem_of_getElem? (i := 397) (by decide +kernel)⟩
def lw_privs_2 : List (MethodName × Nat) := [(⟨"NullGuard$Checker", "takeValue", "(II)Z"⟩, 5), (⟨"NullGuard$Checker", "unlinkAll", "()V"⟩, 5), (⟨"NullGuard$Checker", "has", "(I)Z"⟩, 5), (⟨"NullGuard$Checker", "use", "(I)V"⟩, 5), (⟨"NullGuard$Checker", "writeLocal", "(IZZZ)V"⟩, 5), (⟨"NullGuard$Checker", "set", "(IZ)V"⟩, 5), (⟨"NullGuard$Checker", "writeFieldH", "(IZ)V"⟩, 5), (⟨"NullGuard$Checker", "flowTo", "(II)V"⟩, 5), (⟨"NullGuard$Checker", "flowFromAtom", "(LNullGuard$Program;I)V"⟩, 5), (⟨"NullGuard$Machine", "prepare", "(IJ)V"⟩, 7), (⟨"NullGuard$Machine", "makeObject", "()I"⟩, 7), (⟨"NullGuard$Machine", "visit", "(LNullGuard$Program;II)I"⟩, 7), (⟨"NullGuard$Machine", "write", "(LNullGuard$Program;II)V"⟩, 7), (⟨"NullGuard$Machine", "findValue", "(II)I"⟩, 7), (⟨"NullGuard$Machine", "askOracle", "()I"⟩, 7), (⟨"NullGuard$Machine", "takeBits", "(I)I"⟩, 7)]
theorem lw_r2 : ∀ q ∈ lw_privs_2, lw_okq q := List.forall_mem_cons.mpr ⟨lw_p16, List.forall_mem_cons.mpr ⟨lw_p17, List.forall_mem_cons.mpr ⟨lw_p18, List.forall_mem_cons.mpr ⟨lw_p19, List.forall_mem_cons.mpr ⟨lw_p20, List.forall_mem_cons.mpr ⟨lw_p21, List.forall_mem_cons.mpr ⟨lw_p22, List.forall_mem_cons.mpr ⟨lw_p23, List.forall_mem_cons.mpr ⟨lw_p24, List.forall_mem_cons.mpr ⟨lw_p25, List.forall_mem_cons.mpr ⟨lw_p26, List.forall_mem_cons.mpr ⟨lw_p27, List.forall_mem_cons.mpr ⟨lw_p28, List.forall_mem_cons.mpr ⟨lw_p29, List.forall_mem_cons.mpr ⟨lw_p30, List.forall_mem_cons.mpr ⟨lw_p31, fun _ h => absurd h List.not_mem_nil⟩⟩⟩⟩⟩⟩⟩⟩⟩⟩⟩⟩⟩⟩⟩⟩
theorem lw_p32 : lw_okq (⟨"NullGuard$Machine", "existing", "(I)I"⟩, 7) := ⟨⟨by decide +kernel, by decide +kernel⟩, List.mem_of_getElem? (i := 180) (by decide +kernel), List.mem_of_getElem? (i := 400) (by decide +kernel), List.mem_of_getElem? (i := 401) (by decide +kernel)⟩
theorem lw_p33 : lw_okq (⟨"NullGuard$Machine", "read", "(II)I"⟩, 7) := ⟨⟨by decide +kernel, by decide +kernel⟩, List.mem_of_getElem? (i := 180) (by decide +kernel), List.mem_of_getElem? (i := 407) (by decide +kernel), List.mem_of_getElem? (i := 408) (by decide +kernel)⟩
theorem lw_p34 : lw_okq (⟨"NullGuard$Machine", "writeLocal", "(IIZ)V"⟩, 7) := ⟨⟨by decide +kernel, by decide +kernel⟩, List.mem_of_getElem? (i := 180) (by decide +kernel), List.mem_of_getElem? (i := 411) (by decide +kernel), List.mem_of_getElem? (i := 412) (by decide +kernel)⟩
theorem lw_p35 : lw_okq (⟨"NullGuard$Machine", "isTrue", "(II)Z"⟩, 7) := ⟨⟨by decide +kernel, by decide +kernel⟩, List.mem_of_getElem? (i := 180) (by decide +kernel), List.mem_of_getElem? (i := 415) (by decide +kernel), List.mem_of_getElem? (i := 416) (by decide +kernel)⟩
theorem lw_p36 : lw_okq (⟨"NullGuardModel", "program", "()Z"⟩, 27) := ⟨⟨by decide +kernel, by decide +kernel⟩, List.mem_of_getElem? (i := 435) (by decide +kernel), List.mem_of_getElem? (i := 543) (by decide +kernel), List.mem_of_getElem? (i := 544) (by decide +kernel)⟩
theorem lw_p37 : lw_okq (⟨"NullGuardModel", "part", "(I)I"⟩, 27) := ⟨⟨by decide +kernel, by decide +kernel⟩, List.mem_of_getElem? (i := 435) (by decide +kernel), List.mem_of_getElem? (i := 547) (by decide +kernel), List.mem_of_getElem? (i := 548) (by decide +kernel)⟩
theorem lw_p38 : lw_okq (⟨"NullGuardModel", "at", "(I)I"⟩, 27) := ⟨⟨by decide +kernel, by decide +kernel⟩, List.mem_of_getElem? (i := 435) (by decide +kernel), List.mem_of_getElem? (i := 551) (by decide +kernel), List.mem_of_getElem? (i := 552) (by decide +kernel)⟩
theorem lw_p39 : lw_okq (⟨"NullGuardModel", "close", "(I)I"⟩, 27) := ⟨⟨by decide +kernel, by decide +kernel⟩, List.mem_of_getElem? (i := 435) (by decide +kernel), List.mem_of_getElem? (i := 555) (by decide +kernel), List.mem_of_getElem? (i := 556) (by decide +kernel)⟩
theorem lw_p40 : lw_okq (⟨"NullGuardModel", "open", "(I)Z"⟩, 27) := ⟨⟨by decide +kernel, by decide +kernel⟩, List.mem_of_getElem? (i := 435) (by decide +kernel), List.mem_of_getElem? (i := 559) (by decide +kernel), List.mem_of_getElem? (i := 560) (by decide +kernel)⟩
theorem lw_p41 : lw_okq (⟨"NullGuardModel", "condition", "(I)I"⟩, 27) := ⟨⟨by decide +kernel, by decide +kernel⟩, List.mem_of_getElem? (i := 435) (by decide +kernel), List.mem_of_getElem? (i := 563) (by decide +kernel), List.mem_of_getElem? (i := 564) (by decide +kernel)⟩
theorem lw_p42 : lw_okq (⟨"NullGuardModel", "atom", "(I)I"⟩, 27) := ⟨⟨by decide +kernel, by decide +kernel⟩, List.mem_of_getElem? (i := 435) (by decide +kernel), List.mem_of_getElem? (i := 567) (by decide +kernel), List.mem_of_getElem? (i := 568) (by decide +kernel)⟩
theorem lw_p43 : lw_okq (⟨"NullGuardModel", "isLocal", "(I)Z"⟩, 27) := ⟨⟨by decide +kernel, by decide +kernel⟩, List.mem_of_getElem? (i := 435) (by decide +kernel), List.mem_of_getElem? (i := 571) (by decide +kernel), List.mem_of_getElem? (i := 572) (by decide +kernel)⟩
theorem lw_p44 : lw_okq (⟨"NullGuardModel", "isField", "(I)Z"⟩, 27) := ⟨⟨by decide +kernel, by decide +kernel⟩, List.mem_of_getElem? (i := 435) (by decide +kernel), List.mem_of_getElem? (i := 575) (by decide +kernel), List.mem_of_getElem? (i := 576) (by decide +kernel)⟩
theorem lw_p45 : lw_okq (⟨"NullGuardModel", "value", "(I)I"⟩, 27) := ⟨⟨by decide +kernel, by decide +kernel⟩, List.mem_of_getElem? (i := 435) (by decide +kernel), List.mem_of_getElem? (i := 579) (by decide +kernel), List.mem_of_getElem? (i := 580) (by decide +kernel)⟩
theorem lw_p46 : lw_okq (⟨"NullGuardModel", "study", "()V"⟩, 27) := ⟨⟨by decide +kernel, by decide +kernel⟩, List.mem_of_getElem? (i := 435) (by decide +kernel), List.mem_of_getElem? (i := 587) (by decide +kernel), List.mem_of_getElem? (i := 588) (by decide +kernel)⟩
theorem lw_p47 : lw_okq (⟨"NullGuardModel", "join", "(I)V"⟩, 27) := ⟨⟨by decide +kernel, by decide +kernel⟩, List.mem_of_getElem? (i := 435) (by decide +kernel), List.mem_of_getElem? (i := 591) (by decide +kernel), List.mem_of_getElem? (i := 592) (by decide +kernel)⟩
def lw_privs_3 : List (MethodName × Nat) := [(⟨"NullGuard$Machine", "existing", "(I)I"⟩, 7), (⟨"NullGuard$Machine", "read", "(II)I"⟩, 7), (⟨"NullGuard$Machine", "writeLocal", "(IIZ)V"⟩, 7), (⟨"NullGuard$Machine", "isTrue", "(II)Z"⟩, 7), (⟨"NullGuardModel", "program", "()Z"⟩, 27), (⟨"NullGuardModel", "part", "(I)I"⟩, 27), (⟨"NullGuardModel", "at", "(I)I"⟩, 27), (⟨"NullGuardModel", "close", "(I)I"⟩, 27), (⟨"NullGuardModel", "open", "(I)Z"⟩, 27), (⟨"NullGuardModel", "condition", "(I)I"⟩, 27), (⟨"NullGuardModel", "atom", "(I)I"⟩, 27), (⟨"NullGuardModel", "isLocal", "(I)Z"⟩, 27), (⟨"NullGuardModel", "isField", "(I)Z"⟩, 27), (⟨"NullGuardModel", "value", "(I)I"⟩, 27), (⟨"NullGuardModel", "study", "()V"⟩, 27), (⟨"NullGuardModel", "join", "(I)V"⟩, 27)]
theorem lw_r3 : ∀ q ∈ lw_privs_3, lw_okq q := List.forall_mem_cons.mpr ⟨lw_p32, List.forall_mem_cons.mpr ⟨lw_p33, List.forall_mem_cons.mpr ⟨lw_p34, List.forall_mem_cons.mpr ⟨lw_p35, List.forall_mem_cons.mpr ⟨lw_p36, List.forall_mem_cons.mpr ⟨lw_p37, List.forall_mem_cons.mpr ⟨lw_p38, List.forall_mem_cons.mpr ⟨lw_p39, List.forall_mem_cons.mpr ⟨lw_p40, List.forall_mem_cons.mpr ⟨lw_p41, List.forall_mem_cons.mpr ⟨lw_p42, List.forall_mem_cons.mpr ⟨lw_p43, List.forall_mem_cons.mpr ⟨lw_p44, List.forall_mem_cons.mpr ⟨lw_p45, List.forall_mem_cons.mpr ⟨lw_p46, List.forall_mem_cons.mpr ⟨lw_p47, fun _ h => absurd h List.not_mem_nil⟩⟩⟩⟩⟩⟩⟩⟩⟩⟩⟩⟩⟩⟩⟩⟩
theorem lw_p48 : lw_okq (⟨"NullGuardModel", "flow", "(I)V"⟩, 27) := ⟨⟨by decide +kernel, by decide +kernel⟩, List.mem_of_getElem? (i := 435) (by decide +kernel), List.mem_of_getElem? (i := 595) (by decide +kernel), List.mem_of_getElem? (i := 596) (by decide +kernel)⟩
theorem lw_p49 : lw_okq (⟨"NullGuardModel", "branch", "(I)V"⟩, 27) := ⟨⟨by decide +kernel, by decide +kernel⟩, List.mem_of_getElem? (i := 435) (by decide +kernel), List.mem_of_getElem? (i := 599) (by decide +kernel), List.mem_of_getElem? (i := 600) (by decide +kernel)⟩
theorem lw_p50 : lw_okq (⟨"NullGuardModel", "use", "(I)V"⟩, 27) := ⟨⟨by decide +kernel, by decide +kernel⟩, List.mem_of_getElem? (i := 435) (by decide +kernel), List.mem_of_getElem? (i := 603) (by decide +kernel), List.mem_of_getElem? (i := 604) (by decide +kernel)⟩
theorem lw_p51 : lw_okq (⟨"NullGuardModel", "turn", "(IZ)I"⟩, 27) := ⟨⟨by decide +kernel, by decide +kernel⟩, List.mem_of_getElem? (i := 435) (by decide +kernel), List.mem_of_getElem? (i := 610) (by decide +kernel), List.mem_of_getElem? (i := 611) (by decide +kernel)⟩
theorem lw_p52 : lw_okq (⟨"NullGuardModel", "goes", "(I)I"⟩, 27) := ⟨⟨by decide +kernel, by decide +kernel⟩, List.mem_of_getElem? (i := 435) (by decide +kernel), List.mem_of_getElem? (i := 614) (by decide +kernel), List.mem_of_getElem? (i := 615) (by decide +kernel)⟩
theorem lw_p53 : lw_okq (⟨"NullGuardModel", "assign", "(I)V"⟩, 27) := ⟨⟨by decide +kernel, by decide +kernel⟩, List.mem_of_getElem? (i := 435) (by decide +kernel), List.mem_of_getElem? (i := 618) (by decide +kernel), List.mem_of_getElem? (i := 619) (by decide +kernel)⟩
theorem lw_p54 : lw_okq (⟨"NullGuardModel", "sureValue", "(I)Z"⟩, 27) := ⟨⟨by decide +kernel, by decide +kernel⟩, List.mem_of_getElem? (i := 435) (by decide +kernel), List.mem_of_getElem? (i := 622) (by decide +kernel), List.mem_of_getElem? (i := 623) (by decide +kernel)⟩
theorem lw_p55 : lw_okq (⟨"NullGuardModel", "store", "(I)V"⟩, 27) := ⟨⟨by decide +kernel, by decide +kernel⟩, List.mem_of_getElem? (i := 435) (by decide +kernel), List.mem_of_getElem? (i := 626) (by decide +kernel), List.mem_of_getElem? (i := 627) (by decide +kernel)⟩
theorem lw_p56 : lw_okq (⟨"NullGuardModel", "counts", "(I)Z"⟩, 27) := ⟨⟨by decide +kernel, by decide +kernel⟩, List.mem_of_getElem? (i := 435) (by decide +kernel), List.mem_of_getElem? (i := 634) (by decide +kernel), List.mem_of_getElem? (i := 635) (by decide +kernel)⟩
theorem lw_p57 : lw_okq (⟨"NullGuardModel", "create", "()I"⟩, 27) := ⟨⟨by decide +kernel, by decide +kernel⟩, List.mem_of_getElem? (i := 435) (by decide +kernel), List.mem_of_getElem? (i := 650) (by decide +kernel), List.mem_of_getElem? (i := 651) (by decide +kernel)⟩
theorem lw_p58 : lw_okq (⟨"NullGuardModel", "visit", "(I)I"⟩, 27) := ⟨⟨by decide +kernel, by decide +kernel⟩, List.mem_of_getElem? (i := 435) (by decide +kernel), List.mem_of_getElem? (i := 654) (by decide +kernel), List.mem_of_getElem? (i := 655) (by decide +kernel)⟩
theorem lw_p59 : lw_okq (⟨"NullGuardModel", "choose", "(I)I"⟩, 27) := ⟨⟨by decide +kernel, by decide +kernel⟩, List.mem_of_getElem? (i := 435) (by decide +kernel), List.mem_of_getElem? (i := 658) (by decide +kernel), List.mem_of_getElem? (i := 659) (by decide +kernel)⟩
theorem lw_p60 : lw_okq (⟨"NullGuardModel", "take", "(I)I"⟩, 27) := ⟨⟨by decide +kernel, by decide +kernel⟩, List.mem_of_getElem? (i := 435) (by decide +kernel), List.mem_of_getElem? (i := 662) (by decide +kernel), List.mem_of_getElem? (i := 663) (by decide +kernel)⟩
theorem lw_p61 : lw_okq (⟨"NullGuardModel", "found", "(I)I"⟩, 27) := ⟨⟨by decide +kernel, by decide +kernel⟩, List.mem_of_getElem? (i := 435) (by decide +kernel), List.mem_of_getElem? (i := 666) (by decide +kernel), List.mem_of_getElem? (i := 667) (by decide +kernel)⟩
theorem lw_p62 : lw_okq (⟨"NullGuardModel", "put", "(I)I"⟩, 27) := ⟨⟨by decide +kernel, by decide +kernel⟩, List.mem_of_getElem? (i := 435) (by decide +kernel), List.mem_of_getElem? (i := 670) (by decide +kernel), List.mem_of_getElem? (i := 671) (by decide +kernel)⟩
theorem lw_p63 : lw_okq (⟨"NullGuardModel", "keep", "(I)I"⟩, 27) := ⟨⟨by decide +kernel, by decide +kernel⟩, List.mem_of_getElem? (i := 435) (by decide +kernel), List.mem_of_getElem? (i := 674) (by decide +kernel), List.mem_of_getElem? (i := 675) (by decide +kernel)⟩
def lw_privs_4 : List (MethodName × Nat) := [(⟨"NullGuardModel", "flow", "(I)V"⟩, 27), (⟨"NullGuardModel", "branch", "(I)V"⟩, 27), (⟨"NullGuardModel", "use", "(I)V"⟩, 27), (⟨"NullGuardModel", "turn", "(IZ)I"⟩, 27), (⟨"NullGuardModel", "goes", "(I)I"⟩, 27), (⟨"NullGuardModel", "assign", "(I)V"⟩, 27), (⟨"NullGuardModel", "sureValue", "(I)Z"⟩, 27), (⟨"NullGuardModel", "store", "(I)V"⟩, 27), (⟨"NullGuardModel", "counts", "(I)Z"⟩, 27), (⟨"NullGuardModel", "create", "()I"⟩, 27), (⟨"NullGuardModel", "visit", "(I)I"⟩, 27), (⟨"NullGuardModel", "choose", "(I)I"⟩, 27), (⟨"NullGuardModel", "take", "(I)I"⟩, 27), (⟨"NullGuardModel", "found", "(I)I"⟩, 27), (⟨"NullGuardModel", "put", "(I)I"⟩, 27), (⟨"NullGuardModel", "keep", "(I)I"⟩, 27)]
theorem lw_r4 : ∀ q ∈ lw_privs_4, lw_okq q := List.forall_mem_cons.mpr ⟨lw_p48, List.forall_mem_cons.mpr ⟨lw_p49, List.forall_mem_cons.mpr ⟨lw_p50, List.forall_mem_cons.mpr ⟨lw_p51, List.forall_mem_cons.mpr ⟨lw_p52, List.forall_mem_cons.mpr ⟨lw_p53, List.forall_mem_cons.mpr ⟨lw_p54, List.forall_mem_cons.mpr ⟨lw_p55, List.forall_mem_cons.mpr ⟨lw_p56, List.forall_mem_cons.mpr ⟨lw_p57, List.forall_mem_cons.mpr ⟨lw_p58, List.forall_mem_cons.mpr ⟨lw_p59, List.forall_mem_cons.mpr ⟨lw_p60, List.forall_mem_cons.mpr ⟨lw_p61, List.forall_mem_cons.mpr ⟨lw_p62, List.forall_mem_cons.mpr ⟨lw_p63, fun _ h => absurd h List.not_mem_nil⟩⟩⟩⟩⟩⟩⟩⟩⟩⟩⟩⟩⟩⟩⟩⟩
def lw_privs : List (MethodName × Nat) := lw_privs_1 ++ (lw_privs_2 ++ (lw_privs_3 ++ (lw_privs_4)))
def lw_tbl : List Cond := k2_sels lw_privs ++ tables_1
theorem lw_privs_ok : ∀ q ∈ lw_privs, lw_okq q := by
  show ∀ q ∈ lw_privs_1 ++ (lw_privs_2 ++ (lw_privs_3 ++ (lw_privs_4))), lw_okq q
  exact List.forall_mem_append.mpr ⟨lw_r1, List.forall_mem_append.mpr ⟨lw_r2, List.forall_mem_append.mpr ⟨lw_r3, lw_r4⟩⟩⟩
end
section
/-! names, by program (wip/whole/gen.py) out of the listing: classes, fields, methods -/
def R_P : String := "NullGuard$Program"
def F_P : u_T := fun k => match k with
  | 0 => ("NullGuard$Program", "text", "[C", true)
  | 1 => ("NullGuard$Program", "size", "I", false)
  | 2 => ("NullGuard$Program", "valid", "Z", false)
  | 3 => ("NullGuard$Program", "statementCount", "I", false)
  | 4 => ("NullGuard$Program", "kind", "[I", true)
  | 5 => ("NullGuard$Program", "local", "[I", true)
  | 6 => ("NullGuard$Program", "part", "[I", true)
  | 7 => ("NullGuard$Program", "value", "[I", true)
  | 8 => ("NullGuard$Program", "source", "[I", true)
  | 9 => ("NullGuard$Program", "way", "[I", true)
  | 10 => ("NullGuard$Program", "otherWay", "[I", true)
  | 11 => ("NullGuard$Program", "exit", "[I", true)
  | 12 => ("NullGuard$Program", "heads", "[I", true)
  | 13 => ("NullGuard$Program", "opens", "[I", true)
  | 14 => ("NullGuard$Program", "firstCloses", "[I", true)
  | _ => ("NullGuard$Program", "depth", "I", false)
def t_P : Nat → FieldType := fun k => match k with
  | 0 => .array .char
  | 1 => .int
  | 2 => .boolean
  | 3 => .int
  | 4 => .array .int
  | 5 => .array .int
  | 6 => .array .int
  | 7 => .array .int
  | 8 => .array .int
  | 9 => .array .int
  | 10 => .array .int
  | 11 => .array .int
  | 12 => .array .int
  | 13 => .array .int
  | 14 => .array .int
  | _ => .int
theorem n_P : ∀ a, a < 16 → ∀ b, b < 16 → a ≠ b → (F_P a).2.1 ≠ (F_P b).2.1 := by decide +kernel
theorem t_P_ok : ∀ k, k < 16 → parseFieldDescriptor (F_P k).2.2.1 = some (t_P k) := by decide +kernel
def R_K : String := "NullGuard$Checker"
def F_K : u_T := fun k => match k with
  | 0 => ("NullGuard$Checker", "states", "[I", true)
  | 1 => ("NullGuard$Checker", "alarmsAt", "[I", true)
  | 2 => ("NullGuard$Checker", "changed", "Z", false)
  | 3 => ("NullGuard$Checker", "known", "I", false)
  | _ => ("NullGuard$Checker", "found", "I", false)
def t_K : Nat → FieldType := fun k => match k with
  | 0 => .array .int
  | 1 => .array .int
  | 2 => .boolean
  | 3 => .int
  | _ => .int
theorem n_K : ∀ a, a < 5 → ∀ b, b < 5 → a ≠ b → (F_K a).2.1 ≠ (F_K b).2.1 := by decide +kernel
theorem t_K_ok : ∀ k, k < 5 → parseFieldDescriptor (F_K k).2.2.1 = some (t_K k) := by decide +kernel
def R_H : String := "NullGuard$Machine"
def F_H : u_T := fun k => match k with
  | 0 => ("NullGuard$Machine", "holds", "[I", true)
  | 1 => ("NullGuard$Machine", "fieldG", "[I", true)
  | 2 => ("NullGuard$Machine", "fieldH", "[I", true)
  | 3 => ("NullGuard$Machine", "objectCount", "I", false)
  | 4 => ("NullGuard$Machine", "stepCount", "I", false)
  | 5 => ("NullGuard$Machine", "oracle", "J", false)
  | _ => ("NullGuard$Machine", "ending", "I", false)
def t_H : Nat → FieldType := fun k => match k with
  | 0 => .array .int
  | 1 => .array .int
  | 2 => .array .int
  | 3 => .int
  | 4 => .int
  | 5 => .long
  | _ => .int
theorem n_H : ∀ a, a < 7 → ∀ b, b < 7 → a ≠ b → (F_H a).2.1 ≠ (F_H b).2.1 := by decide +kernel
theorem t_H_ok : ∀ k, k < 7 → parseFieldDescriptor (F_H k).2.2.1 = some (t_H k) := by decide +kernel
def R_N : String := "NullGuard"
def F_N : u_T := fun k => match k with
  | 0 => ("NullGuard", "program", "LNullGuard$Program;", true)
  | 1 => ("NullGuard", "checker", "LNullGuard$Checker;", true)
  | 2 => ("NullGuard", "machine", "LNullGuard$Machine;", true)
  | 3 => ("NullGuard", "solidLocals", "I", false)
  | _ => ("NullGuard", "checked", "Z", false)
def t_N : Nat → FieldType := fun k => match k with
  | 0 => .object "NullGuard$Program"
  | 1 => .object "NullGuard$Checker"
  | 2 => .object "NullGuard$Machine"
  | 3 => .int
  | _ => .boolean
theorem n_N : ∀ a, a < 5 → ∀ b, b < 5 → a ≠ b → (F_N a).2.1 ≠ (F_N b).2.1 := by decide +kernel
theorem t_N_ok : ∀ k, k < 5 → parseFieldDescriptor (F_N k).2.2.1 = some (t_N k) := by decide +kernel
def R_M : String := "NullGuardModel"
def F_M : u_T := fun k => match k with
  | 0 => ("NullGuardModel", "text", "[I", true)
  | 1 => ("NullGuardModel", "length", "I", false)
  | 2 => ("NullGuardModel", "solid", "[Z", true)
  | 3 => ("NullGuardModel", "role", "[I", true)
  | 4 => ("NullGuardModel", "owner", "[I", true)
  | 5 => ("NullGuardModel", "body", "[I", true)
  | 6 => ("NullGuardModel", "other", "[I", true)
  | 7 => ("NullGuardModel", "behind", "[I", true)
  | 8 => ("NullGuardModel", "count", "I", false)
  | 9 => ("NullGuardModel", "depth", "I", false)
  | 10 => ("NullGuardModel", "blocks", "[I", true)
  | 11 => ("NullGuardModel", "reached", "[Z", true)
  | 12 => ("NullGuardModel", "sures", "[I", true)
  | 13 => ("NullGuardModel", "links", "[I", true)
  | 14 => ("NullGuardModel", "alarmed", "[I", true)
  | 15 => ("NullGuardModel", "s", "I", false)
  | 16 => ("NullGuardModel", "l", "I", false)
  | 17 => ("NullGuardModel", "alarm", "I", false)
  | 18 => ("NullGuardModel", "changed", "Z", false)
  | 19 => ("NullGuardModel", "ran", "Z", false)
  | 20 => ("NullGuardModel", "local", "[I", true)
  | 21 => ("NullGuardModel", "made", "I", false)
  | 22 => ("NullGuardModel", "g", "[I", true)
  | 23 => ("NullGuardModel", "h", "[I", true)
  | 24 => ("NullGuardModel", "visits", "I", false)
  | 25 => ("NullGuardModel", "bits", "J", false)
  | _ => ("NullGuardModel", "result", "I", false)
def t_M : Nat → FieldType := fun k => match k with
  | 0 => .array .int
  | 1 => .int
  | 2 => .array .boolean
  | 3 => .array .int
  | 4 => .array .int
  | 5 => .array .int
  | 6 => .array .int
  | 7 => .array .int
  | 8 => .int
  | 9 => .int
  | 10 => .array .int
  | 11 => .array .boolean
  | 12 => .array .int
  | 13 => .array .int
  | 14 => .array .int
  | 15 => .int
  | 16 => .int
  | 17 => .int
  | 18 => .boolean
  | 19 => .boolean
  | 20 => .array .int
  | 21 => .int
  | 22 => .array .int
  | 23 => .array .int
  | 24 => .int
  | 25 => .long
  | _ => .int
theorem n_M : ∀ a, a < 27 → ∀ b, b < 27 → a ≠ b → (F_M a).2.1 ≠ (F_M b).2.1 := by decide +kernel
theorem t_M_ok : ∀ k, k < 27 → parseFieldDescriptor (F_M k).2.2.1 = some (t_M k) := by decide +kernel
abbrev vwCl : List vw_C := [(R_P, F_P, 16), (R_K, F_K, 5), (R_H, F_H, 7), (R_N, F_N, 5), (R_M, F_M, 27)]
end
section
/-! The engine: a picture of the machine whose cells are numbered, a step of it as a formula, and its soundness. -/
def wsG : List Cond := lw_tbl.filter goodWord
theorem wsG_in {w : Cond} (h : w ∈ lw_tbl) (g : goodWord w = true) : w ∈ wsG := List.mem_filter.mpr ⟨h, g⟩
theorem wsG_good {w : Cond} (h : w ∈ wsG) : (w.onTables && w.keeps) = true ∨ ∃ ty, w = .arrayClass ty := good_of_word (List.mem_filter.mp h).2
abbrev XI : Type := MethodName × ByteArray × Nat × Option FieldType
def xW (q : XI) : List Cond := .code q.1 q.2.1 q.2.2.1 q.2.2.2 :: wsG
def xR (d : Nat) : Room := { frames := d, cells := 0, slots := 0, locals := 40 * d }
-- values, cells, worlds: .ref i is the cell of number i
def xv (ad : Nat → Nat) : Value → Value
  | .ref i => .ref (ad i)
  | v => v
theorem xv_cat (ad : Nat → Nat) (v : Value) : (xv ad v).category = v.category := by cases v <;> rfl
def xa (ad : Nat → Nat) (a : vp_A) : vp_A := (a.1, match a.2 with
  | .inr (.inr (.inr (.inr g))) => .inr (.inr (.inr (.inr (fun j => (g j).map ad))))
  | f => f)
def xe (tc : Nat → ClassId) (ad : Nat → Nat) : va_E → va_E
  | .inl (t, a) => .inl (tc t, xa ad a)
  | .inr (c, fs) => .inr (c, fs.map (xv ad))
def xz (tc : Nat → ClassId) (ad : Nat → Nat) : Nat → List va_E → va_W
  | _, [] => []
  | i, e :: r => (ad i, xe tc ad e) :: xz tc ad (i + 1) r
theorem xz_get (tc : Nat → ClassId) (ad : Nat → Nat) : ∀ (w : List va_E) (i k : Nat), (xz tc ad i w)[k]? = (w[k]?).map (fun e => (ad (i + k), xe tc ad e))
  | [], i, k => by simp [xz]
  | e :: r, i, 0 => by simp [xz]
  | e :: r, i, k + 1 => by
    show (xz tc ad (i + 1) r)[k]? = _
    rw [xz_get tc ad r (i + 1) k, List.getElem?_cons_succ, show i + 1 + k = i + (k + 1) by omega]
theorem xz_set (tc : Nat → ClassId) (ad : Nat → Nat) : ∀ (w : List va_E) (i k : Nat) (e : va_E), (xz tc ad i w).set k (ad (i + k), xe tc ad e) = xz tc ad i (w.set k e)
  | [], i, k, e => by simp [xz]
  | a :: r, i, 0, e => by simp [xz]
  | a :: r, i, k + 1, e => by
    show (ad i, xe tc ad a) :: (xz tc ad (i + 1) r).set k (ad (i + (k + 1)), xe tc ad e) = (ad i, xe tc ad a) :: xz tc ad (i + 1) (r.set k e)
    rw [← xz_set tc ad r (i + 1) k e, show i + 1 + k = i + (k + 1) by omega]
def xt (tc : Nat → ClassId) : List (ClassId × FieldType) := [(tc 0, .int), (tc 1, .char), (tc 2, .boolean)]
def xlm (ad : Nat → Nat) (ls : List (Nat × Value)) : List (Nat × Value) := ls.map (fun q => (q.1, xv ad q.2))
-- small lists that reduce well
def xn {α : Type} : List α → Nat → Option α
  | [], _ => none
  | a :: _, 0 => some a
  | _ :: r, i + 1 => xn r i
theorem xn_eq {α : Type} : ∀ (l : List α) (i : Nat), xn l i = l[i]?
  | [], i => by simp [xn]
  | a :: r, 0 => by simp [xn]
  | a :: r, i + 1 => by rw [xn, xn_eq r i, List.getElem?_cons_succ]
def xu {α : Type} : List α → Nat → α → List α
  | [], _, _ => []
  | _ :: r, 0, b => b :: r
  | a :: r, i + 1, b => a :: xu r i b
theorem xu_eq {α : Type} : ∀ (l : List α) (i : Nat) (b : α), xu l i b = l.set i b
  | [], i, b => by simp [xu]
  | a :: r, 0, b => by simp [xu]
  | a :: r, i + 1, b => by rw [xu, xu_eq r i b, List.set_cons_succ]
-- locals
def xg : List (Nat × Value) → Nat → Option Value
  | [], _ => none
  | (j, v) :: r, i => bif Nat.beq j i then some v else xg r i
theorem xg_mem : ∀ (ls : List (Nat × Value)) (i : Nat) (v : Value), xg ls i = some v → (i, v) ∈ ls
  | [], i, v, h => by cases h
  | (j, u) :: r, i, v, h => by
    rw [xg] at h
    cases hb : Nat.beq j i with
    | true =>
      rw [hb] at h
      have h1 : u = v := Option.some.inj h
      have h2 : j = i := Nat.eq_of_beq_eq_true hb
      subst h1; subst h2
      exact List.mem_cons_self
    | false =>
      rw [hb] at h
      exact List.mem_cons_of_mem _ (xg_mem r i v h)
def xc2 : Value → Bool
  | .long _ => true
  | .double _ => true
  | _ => false
theorem xc2_cat (v : Value) : xc2 v = (v.category == 2) := by cases v <;> rfl
def xr (i : Nat) (two : Bool) : List (Nat × Value) → List (Nat × Value)
  | [] => []
  | (j, u) :: r => bif Nat.beq j i || (two && Nat.beq j (i + 1)) || (xc2 u && Nat.beq (j + 1) i) then xr i two r else (j, u) :: xr i two r
theorem xr_mem (i : Nat) (two : Bool) : ∀ (ls : List (Nat × Value)) (q : Nat × Value), q ∈ xr i two ls → q ∈ ls ∧ ¬ q.1 = i ∧ (two = true → ¬ q.1 = i + 1) ∧ ¬ (q.1 + 1 = i ∧ q.2.category = 2)
  | [], q, h => by cases h
  | (j, u) :: r, q, h => by
    rw [xr] at h
    cases hb : (Nat.beq j i || (two && Nat.beq j (i + 1)) || (xc2 u && Nat.beq (j + 1) i)) with
    | true =>
      rw [hb] at h
      obtain ⟨h1, h2⟩ := xr_mem i two r q h
      exact ⟨List.mem_cons_of_mem _ h1, h2⟩
    | false =>
      rw [hb] at h
      rcases List.mem_cons.mp h with h | h
      · subst h
        simp only [Bool.or_eq_false_iff, Bool.and_eq_false_iff] at hb
        obtain ⟨⟨h1, h2⟩, h3⟩ := hb
        refine ⟨List.mem_cons_self, fun e => ?_, fun t e => ?_, fun e => ?_⟩
        · rw [show j = i from e, Nat.beq_refl] at h1; cases h1
        · rcases h2 with h2 | h2
          · rw [t] at h2; cases h2
          · rw [show j = i + 1 from e, Nat.beq_refl] at h2; cases h2
        · rcases h3 with h3 | h3
          · rw [xc2_cat, show u.category = 2 from e.2] at h3; cases h3
          · rw [show j + 1 = i from e.1, Nat.beq_refl] at h3; cases h3
      · obtain ⟨h1, h2⟩ := xr_mem i two r q h
        exact ⟨List.mem_cons_of_mem _ h1, h2⟩
def xk (ls : List (Nat × Value)) : List Nat → List (Nat × Value)
  | [] => []
  | i :: is => match xg ls i with
    | some v => (i, v) :: xk ls is
    | none => xk ls is
theorem xk_mem (ls : List (Nat × Value)) : ∀ (is : List Nat) (q : Nat × Value), q ∈ xk ls is → q ∈ ls
  | [], q, h => by cases h
  | i :: is, q, h => by
    rw [xk] at h
    cases hg : xg ls i with
    | some v =>
      rw [hg] at h
      rcases List.mem_cons.mp h with h | h
      · subst h; exact xg_mem ls i v hg
      · exact xk_mem ls is q h
    | none =>
      rw [hg] at h
      exact xk_mem ls is q h
-- shapes of the stack
def x1i (st : List Value) (f : Int32 → List Value → Prop) : Prop := match st with
  | .int x :: r => f x r
  | _ => False
theorem x1i_of {st : List Value} {f : Int32 → List Value → Prop} (h : x1i st f) : ∃ x r, st = .int x :: r ∧ f x r := by
  unfold x1i at h; split at h
  · exact ⟨_, _, rfl, h⟩
  · exact h.elim
def x1l (st : List Value) (f : Int64 → List Value → Prop) : Prop := match st with
  | .long x :: r => f x r
  | _ => False
theorem x1l_of {st : List Value} {f : Int64 → List Value → Prop} (h : x1l st f) : ∃ x r, st = .long x :: r ∧ f x r := by
  unfold x1l at h; split at h
  · exact ⟨_, _, rfl, h⟩
  · exact h.elim
def x1r (st : List Value) (f : Nat → List Value → Prop) : Prop := match st with
  | .ref x :: r => f x r
  | _ => False
theorem x1r_of {st : List Value} {f : Nat → List Value → Prop} (h : x1r st f) : ∃ x r, st = .ref x :: r ∧ f x r := by
  unfold x1r at h; split at h
  · exact ⟨_, _, rfl, h⟩
  · exact h.elim
def x1v (st : List Value) (f : Value → List Value → Prop) : Prop := match st with
  | v :: r => f v r
  | _ => False
theorem x1v_of {st : List Value} {f : Value → List Value → Prop} (h : x1v st f) : ∃ x r, st = x :: r ∧ f x r := by
  unfold x1v at h; split at h
  · exact ⟨_, _, rfl, h⟩
  · exact h.elim
def xli (ls : List (Nat × Value)) (i : Nat) (f : Int32 → Prop) : Prop := match xg ls i with
  | some (.int x) => f x
  | _ => False
theorem xli_of {ls : List (Nat × Value)} {i : Nat} {f : Int32 → Prop} (h : xli ls i f) : ∃ x, xg ls i = some (.int x) ∧ f x := by
  unfold xli at h; split at h
  · exact ⟨_, by assumption, h⟩
  · exact h.elim
def xll (ls : List (Nat × Value)) (i : Nat) (f : Int64 → Prop) : Prop := match xg ls i with
  | some (.long x) => f x
  | _ => False
theorem xll_of {ls : List (Nat × Value)} {i : Nat} {f : Int64 → Prop} (h : xll ls i f) : ∃ x, xg ls i = some (.long x) ∧ f x := by
  unfold xll at h; split at h
  · exact ⟨_, by assumption, h⟩
  · exact h.elim
def xlr (ls : List (Nat × Value)) (i : Nat) (f : Nat → Prop) : Prop := match xg ls i with
  | some (.ref x) => f x
  | _ => False
theorem xlr_of {ls : List (Nat × Value)} {i : Nat} {f : Nat → Prop} (h : xlr ls i f) : ∃ x, xg ls i = some (.ref x) ∧ f x := by
  unfold xlr at h; split at h
  · exact ⟨_, by assumption, h⟩
  · exact h.elim
/-- an object of the class of number ci: its fields -/
def xob (w : List va_E) (i ci : Nat) (f : List Value → Prop) : Prop := match xn w i with
  | some (.inr (c, fs)) => bif Nat.beq c ci then f fs else False
  | _ => False
theorem xob_of {w : List va_E} {i ci : Nat} {f : List Value → Prop} (h : xob w i ci f) : ∃ fs, w[i]? = some (.inr (ci, fs)) ∧ f fs := by
  unfold xob at h; split at h
  · rename_i c fs hw
    cases hb : Nat.beq c ci with
    | true =>
      rw [hb] at h
      have e := Nat.eq_of_beq_eq_true hb
      subst e
      exact ⟨fs, by rw [← xn_eq]; exact hw, h⟩
    | false => rw [hb] at h; exact h.elim
  · exact h.elim
/-- an array of ints (chars, booleans) of the kind t -/
def xar (w : List va_E) (i t : Nat) (f : Nat → (Nat → Int32) → Prop) : Prop := match xn w i with
  | some (.inl (c, n, .inl a)) => bif Nat.beq c t then f n a else False
  | _ => False
theorem xar_of {w : List va_E} {i t : Nat} {f : Nat → (Nat → Int32) → Prop} (h : xar w i t f) : ∃ n a, w[i]? = some (.inl (t, n, .inl a)) ∧ f n a := by
  unfold xar at h; split at h
  · rename_i c n a hw
    cases hb : Nat.beq c t with
    | true =>
      rw [hb] at h
      have e := Nat.eq_of_beq_eq_true hb
      subst e
      exact ⟨n, a, by rw [← xn_eq]; exact hw, h⟩
    | false => rw [hb] at h; exact h.elim
  · exact h.elim
def xop (l : List Value) (k : Nat) (f : Value → Prop) : Prop := match xn l k with
  | some v => f v
  | none => False
theorem xop_of {l : List Value} {k : Nat} {f : Value → Prop} (h : xop l k f) : ∃ v, l[k]? = some v ∧ f v := by
  unfold xop at h; split at h
  · rename_i v hv
    exact ⟨v, by rw [← xn_eq]; exact hv, h⟩
  · exact h.elim
-- calls: the arguments off the stack
def xtk : Nat → List Value → List Value → (List Value → List Value → Prop) → Prop
  | 0, acc, st, f => f acc st
  | n + 1, acc, st, f => match st with
    | v :: r => xtk n (v :: acc) r f
    | [] => False
theorem xtk_of : ∀ (n : Nat) (acc st : List Value) (f : List Value → List Value → Prop), xtk n acc st f → ∃ as r, st = as.reverse ++ r ∧ as.length = n ∧ f (as ++ acc) r
  | 0, acc, st, f, h => ⟨[], st, rfl, rfl, h⟩
  | n + 1, acc, [], f, h => h.elim
  | n + 1, acc, v :: r, f, h => by
    obtain ⟨as, r', e1, e2, h'⟩ := xtk_of n (v :: acc) r f h
    refine ⟨as ++ [v], r', by rw [e1]; simp, by simp [e2], by simpa using h'⟩
def xct : List Value → Nat
  | [] => 0
  | v :: r => (bif xc2 v then 2 else 1) + xct r
theorem xct_eq (ad : Nat → Nat) : ∀ st : List Value, ((st.map (xv ad)).map fun v => v.category).sum = xct st
  | [] => rfl
  | v :: r => by
    have h := xct_eq ad r
    simp only [List.map_cons, List.sum_cons, xct, h, xv_cat]
    cases v <;> rfl
def xfit (ty : FieldType) (v : Value) : Prop := match ty with
  | .int => (match v with | .int _ => True | _ => False)
  | .long => (match v with | .long _ => True | _ => False)
  | .boolean => (match v with | .int x => x = 0 ∨ x = 1 | _ => False)
  | .char => (match v with | .int x => narrow .char (.int x) = .int x ∧ fits .char (.int x) = true | _ => False)
  | .object _ => (match v with | .ref _ => True | _ => False)
  | .array _ => (match v with | .ref _ => True | _ => False)
  | _ => False
theorem xfit_of {ty : FieldType} {v : Value} (ad : Nat → Nat) (h : xfit ty v) : narrow ty (xv ad v) = xv ad v ∧ fits ty (xv ad v) = true := by
  unfold xfit at h
  split at h
  · split at h
    · exact ⟨rfl, rfl⟩
    · exact h.elim
  · split at h
    · exact ⟨rfl, rfl⟩
    · exact h.elim
  · split at h
    · rcases h with rfl | rfl <;> exact ⟨rfl, rfl⟩
    · exact h.elim
  · split at h
    · exact h
    · exact h.elim
  · split at h
    · exact ⟨rfl, rfl⟩
    · exact h.elim
  · split at h
    · exact ⟨rfl, rfl⟩
    · exact h.elim
  · exact h.elim
def xret (ret : Option FieldType) (v : Value) : Prop := match ret with
  | some ty => xfit ty v
  | none => False
theorem xret_of {ret : Option FieldType} {v : Value} (h : xret ret v) : ∃ ty, ret = some ty ∧ xfit ty v := by
  unfold xret at h; split at h
  · exact ⟨_, rfl, h⟩
  · exact h.elim
-- an instruction of the table: what it is, where the next one stands, where it jumps to, its constant, its cases
abbrev XE : Type := Instr × Nat × Nat × Int32 × List (Int32 × Nat)
abbrev XF : Type := Nat × Nat × FieldType × Bool
abbrev XK : Type := XI × Bool × Nat × Nat
def xfind : List (Nat × XE) → Nat → XE
  | [], _ => (.nop, 0, 0, 0, [])
  | (j, e) :: r, i => bif Nat.beq j i then e else xfind r i
theorem xfind_in : ∀ (T : List (Nat × XE)) (i : Nat), xfind T i = (.nop, 0, 0, 0, []) ∨ (i, xfind T i) ∈ T
  | [], i => Or.inl rfl
  | (j, e) :: r, i => by
    rw [xfind]
    cases hb : Nat.beq j i with
    | true =>
      have h2 : j = i := Nat.eq_of_beq_eq_true hb
      subst h2
      exact Or.inr List.mem_cons_self
    | false =>
      rcases xfind_in r i with h | h
      · exact Or.inl h
      · exact Or.inr (List.mem_cons_of_mem _ h)
def xlook {α : Type} : List (Nat × α) → Nat → Option α
  | [], _ => none
  | (j, e) :: r, i => bif Nat.beq j i then some e else xlook r i
theorem xlook_in {α : Type} : ∀ (T : List (Nat × α)) (i : Nat) (a : α), xlook T i = some a → (i, a) ∈ T
  | [], i, a, h => by cases h
  | (j, e) :: r, i, a, h => by
    rw [xlook] at h
    cases hb : Nat.beq j i with
    | true =>
      rw [hb] at h
      have h2 : j = i := Nat.eq_of_beq_eq_true hb
      have h1 : e = a := Option.some.inj h
      subst h2; subst h1
      exact List.mem_cons_self
    | false =>
      rw [hb] at h
      exact List.mem_cons_of_mem _ (xlook_in r i a h)
def xlk {α : Type} (T : List (Nat × α)) (i : Nat) (f : α → Prop) : Prop := match xlook T i with
  | some a => f a
  | none => False
theorem xlk_of {α : Type} {T : List (Nat × α)} {i : Nat} {f : α → Prop} (h : xlk T i f) : ∃ a, (i, a) ∈ T ∧ f a := by
  unfold xlk at h; split at h
  · rename_i a ha
    exact ⟨a, xlook_in T i a ha, h⟩
  · exact h.elim
def xsw (x : Int32) (k : Nat → Prop) : List (Int32 × Nat) → Nat → Prop
  | [], d => k d
  | (a, t) :: r, d => (x = a → k t) ∧ (¬ x = a → xsw x k r d)
def xswT (pc : Nat) : Int → List Int → List (Int32 × Nat) → Bool
  | _, [], [] => true
  | a, o :: os, (v, t) :: r => decide (v.toInt = a) && decide ((pc : Int) + o = (t : Int)) && xswT pc (a + 1) os r
  | _, _, _ => false
theorem xswT_of {x : Int32} {k : Nat → Prop} {d pc : Nat} : ∀ (os : List Int) (a : Int) (sw : List (Int32 × Nat)), xswT pc a os sw = true → xsw x k sw d →
    (∀ (j : Nat) (o : Int), os[j]? = some o → x.toInt = a + j → ∃ t : Nat, (pc : Int) + o = (t : Int) ∧ k t) ∧ ((∀ j : Nat, j < os.length → ¬ x.toInt = a + j) → k d)
  | [], a, [], _, h => ⟨fun j o hj => by simp at hj, fun _ => h⟩
  | [], a, _ :: _, hc, _ => by simp [xswT] at hc
  | o :: os, a, [], hc, _ => by simp [xswT] at hc
  | o :: os, a, (v, t) :: r, hc, h => by
    simp only [xswT, Bool.and_eq_true, decide_eq_true_eq] at hc
    obtain ⟨⟨h1, h2⟩, h3⟩ := hc
    by_cases hx : x = v
    · refine ⟨fun j o' hj hxa => ?_, fun hn => ?_⟩
      · have : j = 0 := by rw [hx, h1] at hxa; omega
        subst this
        simp at hj
        subst hj
        exact ⟨t, h2, h.1 hx⟩
      · exact absurd (by rw [hx, h1]; simp) (hn 0 (by simp))
    · obtain ⟨q1, q2⟩ := xswT_of os (a + 1) r h3 (h.2 hx)
      refine ⟨fun j o' hj hxa => ?_, fun hn => q2 (fun j hj => ?_)⟩
      · cases j with
        | zero =>
          exact absurd (Int32.toInt_inj.mp (by rw [h1, hxa]; simp)) hx
        | succ j =>
          exact q1 j o' (by simpa using hj) (by rw [hxa]; omega)
      · have := hn (j + 1) (by simp; omega)
        omega
def xcmp (c : ClassFile.Cond) (x y : Int32) (a b : Prop) : Prop := match c with
  | .eq => (x = y → a) ∧ (¬ x = y → b)
  | .ne => (¬ x = y → a) ∧ (x = y → b)
  | .lt => (x < y → a) ∧ (¬ x < y → b)
  | .ge => (y ≤ x → a) ∧ (¬ y ≤ x → b)
  | .gt => (y < x → a) ∧ (¬ y < x → b)
  | .le => (x ≤ y → a) ∧ (¬ x ≤ y → b)
def xlen : Instr → Nat
  | .bipush _ | .iload _ | .istore _ | .lload _ | .lstore _ | .aload _ | .astore _ | .ldc _ => 2
  | .sipush _ | .iinc _ _ | .ifCond _ _ | .if_icmp _ _ | .goto _ | .getfield _ | .putfield _ | .invokevirtual _ | .invokestatic _ | .invokespecial _ | .ldc2_w _ => 3
  | _ => 1
def xgood (cc : ByteArray) (pc : Nat) (e : XE) : Bool := match e.1 with
  | .nop => true
  | .tableswitch dflt lo hi offs => decide (decode cc pc = .ok (.tableswitch dflt lo hi offs, e.2.1)) && (decide ((pc : Int) + dflt = (e.2.2.1 : Int)) && (decide (hi + 1 = lo + (offs.size : Int)) && xswT pc lo offs.toList e.2.2.2.2))
  | ins => decide (decode cc pc = .ok (ins, xlen ins)) && (decide (e.2.1 = pc + xlen ins) && (match ins with
    | .iconst n => decide (Int32.ofInt n = e.2.2.2.1)
    | .bipush n => decide ((Int8.ofInt n).toInt32 = e.2.2.2.1)
    | .sipush n => decide ((Int16.ofInt n).toInt32 = e.2.2.2.1)
    | .iinc _ n => decide (Int32.ofInt n = e.2.2.2.1)
    | .ifCond _ off => decide ((pc : Int) + off = (e.2.2.1 : Int))
    | .if_icmp _ off => decide ((pc : Int) + off = (e.2.2.1 : Int))
    | .goto off => decide ((pc : Int) + off = (e.2.2.1 : Int))
    | _ => true))
end
section
/-- one step, as a formula: k is what must hold behind it, Rt what must hold of an answer and its world, M what a call needs -/
def xs (nL : Nat) (T : List (Nat × XE)) (F : List (Nat × XF)) (C : List (Nat × XK)) (M : XI → List Value → List va_E → (Option Value → List va_E → Prop) → Prop) (ret : Option FieldType) (Rt : Option Value → List va_E → Prop)
    (k : Nat → List (Nat × Value) → List Value → List va_E → Prop) (pc : Nat) (ls : List (Nat × Value)) (st : List Value) (w : List va_E) : Prop :=
  match xfind T pc with
  | (ins, nxt, tgt, cst, sw) => match ins with
    | .iconst _ => k nxt ls (.int cst :: st) w
    | .bipush _ => k nxt ls (.int cst :: st) w
    | .sipush _ => k nxt ls (.int cst :: st) w
    | .iload_n i => xli ls i (fun x => k nxt ls (.int x :: st) w)
    | .iload i => xli ls i (fun x => k nxt ls (.int x :: st) w)
    | .lload_n i => xll ls i (fun x => k nxt ls (.long x :: st) w)
    | .lload i => xll ls i (fun x => k nxt ls (.long x :: st) w)
    | .aload_n i => xlr ls i (fun x => k nxt ls (.ref x :: st) w)
    | .aload i => xlr ls i (fun x => k nxt ls (.ref x :: st) w)
    | .istore_n i => x1i st (fun x r => bif Nat.blt i nL then k nxt ((i.val, .int x) :: xr i false ls) r w else False)
    | .istore i => x1i st (fun x r => bif Nat.blt i nL then k nxt ((i, .int x) :: xr i false ls) r w else False)
    | .lstore_n i => x1l st (fun x r => bif Nat.blt (i + 1) nL then k nxt ((i.val, .long x) :: xr i true ls) r w else False)
    | .lstore i => x1l st (fun x r => bif Nat.blt (i + 1) nL then k nxt ((i, .long x) :: xr i true ls) r w else False)
    | .astore_n i => x1r st (fun x r => bif Nat.blt i nL then k nxt ((i.val, .ref x) :: xr i false ls) r w else False)
    | .astore i => x1r st (fun x r => bif Nat.blt i nL then k nxt ((i, .ref x) :: xr i false ls) r w else False)
    | .iinc i _ => xli ls i (fun x => bif Nat.blt i nL then k nxt ((i, .int (x + cst)) :: xr i false ls) st w else False)
    | .iadd => x1i st (fun y r => x1i r (fun x r => k nxt ls (.int (x + y) :: r) w))
    | .isub => x1i st (fun y r => x1i r (fun x r => k nxt ls (.int (x - y) :: r) w))
    | .imul => x1i st (fun y r => x1i r (fun x r => k nxt ls (.int (x * y) :: r) w))
    | .iand => x1i st (fun y r => x1i r (fun x r => k nxt ls (.int (x &&& y) :: r) w))
    | .ior => x1i st (fun y r => x1i r (fun x r => k nxt ls (.int (x ||| y) :: r) w))
    | .ixor => x1i st (fun y r => x1i r (fun x r => k nxt ls (.int (x ^^^ y) :: r) w))
    | .ishl => x1i st (fun y r => x1i r (fun x r => k nxt ls (.int (x <<< (y &&& 31)) :: r) w))
    | .ishr => x1i st (fun y r => x1i r (fun x r => k nxt ls (.int (x >>> (y &&& 31)) :: r) w))
    | .iushr => x1i st (fun y r => x1i r (fun x r => k nxt ls (.int (x.toUInt32 >>> (y.toUInt32 &&& Int32.toUInt32 31)).toInt32 :: r) w))
    | .ineg => x1i st (fun x r => k nxt ls (.int (-x) :: r) w)
    | .land => x1l st (fun y r => x1l r (fun x r => k nxt ls (.long (x &&& y) :: r) w))
    | .lor => x1l st (fun y r => x1l r (fun x r => k nxt ls (.long (x ||| y) :: r) w))
    | .lushr => x1i st (fun y r => x1l r (fun x r => k nxt ls (.long (x.toUInt64 >>> (y.toInt64.toUInt64 &&& Int64.toUInt64 63)).toInt64 :: r) w))
    | .lshl => x1i st (fun y r => x1l r (fun x r => k nxt ls (.long (x <<< (y.toInt64 &&& 63)) :: r) w))
    | .lshr => x1i st (fun y r => x1l r (fun x r => k nxt ls (.long (x >>> (y.toInt64 &&& 63)) :: r) w))
    | .i2l => x1i st (fun x r => k nxt ls (.long x.toInt64 :: r) w)
    | .l2i => x1l st (fun x r => k nxt ls (.int x.toInt32 :: r) w)
    | .i2c => x1i st (fun x r => k nxt ls (.int (x.toUInt32 % 65536).toInt32 :: r) w)
    | .dup => x1v st (fun v r => bif xc2 v then False else k nxt ls (v :: v :: r) w)
    | .pop => x1v st (fun v r => bif xc2 v then False else k nxt ls r w)
    | .dup_x1 => x1v st (fun v r => x1v r (fun u r => bif xc2 v || xc2 u then False else k nxt ls (v :: u :: v :: r) w))
    | .dup2 => x1v st (fun v r => x1v r (fun u r => bif xc2 v || xc2 u then False else k nxt ls (v :: u :: v :: u :: r) w))
    | .ifCond c _ => x1i st (fun x r => xcmp c x 0 (k tgt ls r w) (k nxt ls r w))
    | .if_icmp c _ => x1i st (fun y r => x1i r (fun x r => xcmp c x y (k tgt ls r w) (k nxt ls r w)))
    | .goto _ => k tgt ls st w
    | .tableswitch _ _ _ _ => x1i st (fun x r => xsw x (fun t => k t ls r w) sw tgt)
    | .getfield idx => x1r st (fun i r => xlk F idx (fun f => xob w i f.1 (fun fs => xop fs f.2.1 (fun v => k nxt ls (v :: r) w))))
    | .putfield idx => x1v st (fun v r => x1r r (fun i r => xlk F idx (fun f => xob w i f.1 (fun fs => xfit f.2.2.1 v ∧ (bif f.2.2.2 && Nat.blt f.2.1 fs.length then k nxt ls r (xu w i (.inr (f.1, xu fs f.2.1 v))) else False)))))
    | .iaload => x1i st (fun j r => x1r r (fun i r => xar w i 0 (fun n a => vp_in j n ∧ k nxt ls (.int (a j.toNatClampNeg) :: r) w)))
    | .caload => x1i st (fun j r => x1r r (fun i r => xar w i 1 (fun n a => vp_in j n ∧ k nxt ls (.int (a j.toNatClampNeg) :: r) w)))
    | .baload => x1i st (fun j r => x1r r (fun i r => xar w i 2 (fun n a => vp_in j n ∧ k nxt ls (.int (a j.toNatClampNeg) :: r) w)))
    | .iastore => x1i st (fun x r => x1i r (fun j r => x1r r (fun i r => xar w i 0 (fun n a => vp_in j n ∧ k nxt ls r (xu w i (.inl (0, n, .inl (upd a j.toNatClampNeg x))))))))
    | .castore => x1i st (fun x r => x1i r (fun j r => x1r r (fun i r => xar w i 1 (fun n a => vp_in j n ∧ k nxt ls r (xu w i (.inl (1, n, .inl (upd a j.toNatClampNeg (vp_nar .char x)))))))))
    | .bastore => x1i st (fun x r => x1i r (fun j r => x1r r (fun i r => xar w i 2 (fun n a => vp_in j n ∧ k nxt ls r (xu w i (.inl (2, n, .inl (upd a j.toNatClampNeg (vp_nar .boolean x)))))))))
    | .arraylength => x1r st (fun i r => xar w i 0 (fun n _ => k nxt ls (.int (Int32.ofNat n) :: r) w))
    | .invokestatic idx => xlk C idx (fun q => bif q.2.1 then False else xtk q.2.2.1 [] st (fun as r => bif Nat.ble (xct r) 8 then M q.1 as w (fun v w' => k nxt ls (v.toList ++ r) w') else False))
    | .invokevirtual idx => xlk C idx (fun q => bif q.2.1 then xtk q.2.2.1 [] st (fun as r => x1r r (fun i r => bif Nat.ble (xct r) 8 then xob w i q.2.2.2 (fun _ => M q.1 (.ref i :: as) w (fun v w' => k nxt ls (v.toList ++ r) w')) else False)) else False)
    | .ireturn => x1i st (fun x r => match r with | [] => xret ret (.int x) ∧ Rt (some (.int x)) w | _ => False)
    | .areturn => x1r st (fun x r => match r with | [] => xret ret (.ref x) ∧ Rt (some (.ref x)) w | _ => False)
    | .return_ => (match st with | [] => ret = none ∧ Rt none w | _ => False)
    | _ => False
def xb (nL : Nat) (T : List (Nat × XE)) (F : List (Nat × XF)) (C : List (Nat × XK)) (M : XI → List Value → List va_E → (Option Value → List va_E → Prop) → Prop) (ret : Option FieldType) (Rt : Option Value → List va_E → Prop) (stop : List (Nat × List Nat))
    (K : Nat → List (Nat × Value) → List Value → List va_E → Prop) : Nat → Nat → List (Nat × Value) → List Value → List va_E → Prop
  | 0, pc, ls, st, w => K pc ls st w
  | n + 1, pc, ls, st, w => match xlook stop pc with
    | some keys => K pc (xk ls keys) st w
    | none => xs nL T F C M ret Rt (xb nL T F C M ret Rt stop K n) pc ls st w
-- what it means over the machine
def XQ (D : va_G) (tc : Nat → ClassId) (ad : Nat → Nat) (A : Nat → Prop) (Rt : Option Value → List va_E → Prop) : Array Value → State → Outcome → State → Prop := fun _ st oc t =>
  ∃ (r : Option Value) (w : List va_E), Rt r w ∧ oc = .returned (r.map (xv ad)) ∧ va_P D vwCl (xz tc ad 0 w) t.heap ∧ va_D A (xz tc ad 0 w) ∧ va_K D vwCl (xt tc) t ∧ va_F A st t
/-- the method q, called with 'as' in the world w, answers r and leaves the world w' -/
def XMet (l : Launch) (d : Nat) (q : XI) (as : List Value) (w : List va_E) (r : Option Value) (w' : List va_E) : Prop :=
  ∀ (D : va_G) (tc : Nat → ClassId) (ad : Nat → Nat) (sz : Nat), Met l q.1 (xW q) (xR d)
    (va_Pc (as.map (xv ad)) (fun U => U.heap.size = sz ∧ va_P D vwCl (xz tc ad 0 w) U.heap ∧ va_K D vwCl (xt tc) U ∧ va_D (fun _ => True) (xz tc ad 0 w)))
    (XQ D tc ad (va_A (xz tc ad 0 w) sz) (fun a b => a = r ∧ b = w')) 0 0 (va_A (xz tc ad 0 w) sz)
def xM (l : Launch) (d : Nat) : XI → List Value → List va_E → (Option Value → List va_E → Prop) → Prop := fun q as w post => ∃ (d' : Nat) (r : Option Value) (w' : List va_E), d' < d ∧ XMet l d' q as w r w' ∧ post r w'
def XC (q : XI) (p : Program) (s : State) (m : MethodId) (args : Array Value) (meth : Method) (c : Code) : Prop :=
  p.tables.exec = Jvm.exec ∧ c.code = q.2.1 ∧ c.maxLocals = q.2.2.1 ∧ s.vm.findClass q.1.cls = some m.cls ∧ (∀ w ∈ wsG, w.before args s = true) ∧ meth.sig.returnType = q.2.2.2 ∧ meth.locks = false
/-- from here on, the method q returns, its answer and its world as Rt says -/
def XW (l : Launch) (d : Nat) (q : XI) (Rt : Option Value → List va_E → Prop) (pc : Nat) (ls : List (Nat × Value)) (st : List Value) (w : List va_E) : Prop :=
  ∀ (p : Program) (e : Env) (s : State) (m : MethodId) (args : Array Value) (below : List Frame) (meth : Method) (c : Code) (D : va_G) (tc : Nat → ClassId) (ad : Nat → Nat) (A : Nat → Prop) (H : Heap) (locs : List Loc) (la : Array Slot),
    XC q p s m args meth c → va_K D vwCl (xt tc) s → (∀ z, s.heap.size ≤ z → A z) → va_P D vwCl (xz tc ad 0 w) H → va_D A (xz tc ad 0 w) → va_S A s.heap H locs → lv_has la q.2.2.1 (xlm ad ls) →
    W p l e (xR d) s m args below meth c H locs 0 0 (MQ below (XQ D tc ad A Rt) args s 0 0 A) (F0 m pc la (st.map (xv ad)))
def xfok (own : String) (idx : Nat) (f : XF) : Prop := ∃ (C : String) (U : u_T) (N : Nat), vwCl[f.1]? = some (C, U, N) ∧ f.2.1 < N ∧ parseFieldDescriptor (U f.2.1).2.2.1 = some f.2.2.1 ∧ (f.2.2.2 = true → (U f.2.1).2.2.2 = false) ∧ Cond.fieldLink own idx (U f.2.1).1 (U f.2.1).2.1 (U f.2.1).2.2.1 ∈ wsG
def xcok (own : String) (idx : Nat) (q : XK) : Prop := Cond.code q.1.1 q.1.2.1 q.1.2.2.1 q.1.2.2.2 ∈ wsG ∧ Cond.initialized q.1.1.cls ∈ wsG ∧ (q.1.1.cls ≠ "java/lang/invoke/MethodHandle" ∧ q.1.1.cls ≠ "java/lang/invoke/VarHandle" ∧ (parseMethodDescriptor q.1.1.desc).map (fun d => d.parameters.length) = some q.2.2.1) ∧ q.1.2.2.1 ≤ 21 ∧ Cond.methodLink own idx q.1.1 ∈ wsG ∧
  (match q.2.1 with
    | false => Cond.static q.1.1 ∈ wsG
    | true => Cond.instanceMethod q.1.1 ∈ wsG ∧ Cond.selects q.1.1.cls q.1.1 q.1.1 ∈ wsG ∧ ∃ (U : u_T) (N : Nat), vwCl[q.2.2.2]? = some (q.1.1.cls, U, N))
def XOk (q : XI) (T : List (Nat × XE)) (F : List (Nat × XF)) (C : List (Nat × XK)) : Prop :=
  T.all (fun e => xgood q.2.1 e.1 e.2) = true ∧ (∀ e ∈ F, xfok q.1.cls e.1 e.2) ∧ (∀ e ∈ C, xcok q.1.cls e.1 e.2)
/-- what is known of every class of the worlds -/
def XCls : Prop := ∀ (ci : Nat) (C : String) (U : u_T) (N : Nat), vwCl[ci]? = some (C, U, N) → (∀ w ∈ u_ws C U N, w ∈ wsG) ∧ (∀ a, a < N → ∀ b, b < N → a ≠ b → (U a).2.1 ≠ (U b).2.1) ∧ ∃ ty0 : Nat → FieldType, ∀ k, k < N → parseFieldDescriptor (U k).2.2.1 = some (ty0 k)
end
section
theorem xlm_get {ad : Nat → Nat} {la : Array Slot} {nL : Nat} {ls : List (Nat × Value)} (hl : lv_has la nL (xlm ad ls)) {i : Nat} {v : Value} (h : xg ls i = some v) : la[i]? = some (.val (xv ad v)) :=
  hl.2.2 (i, xv ad v) (List.mem_map.mpr ⟨(i, v), xg_mem ls i v h, rfl⟩)
theorem xlm_mem {ad : Nat → Nat} {la : Array Slot} {nL : Nat} {ls ls' : List (Nat × Value)} (hl : lv_has la nL (xlm ad ls)) (h : ∀ q ∈ ls', q ∈ ls) : lv_has la nL (xlm ad ls') := by
  refine ⟨hl.1, hl.2.1, fun q hq => ?_⟩
  obtain ⟨q0, h1, rfl⟩ := List.mem_map.mp hq
  exact hl.2.2 _ (List.mem_map.mpr ⟨q0, h q0 h1, rfl⟩)
theorem xlm_sub {la : Array Slot} {nL : Nat} {l l' : List (Nat × Value)} (hl : lv_has la nL l) (h : ∀ q ∈ l', q ∈ l) : lv_has la nL l' := ⟨hl.1, hl.2.1, fun q hq => hl.2.2 q (h q hq)⟩
theorem xlm_st1 {ad : Nat → Nat} {la : Array Slot} {nL i : Nat} {v : Value} {ls : List (Nat × Value)} (hl : lv_has la nL ((i, xv ad v) :: (xlm ad ls).filter (fun q => !(q.1 == i) && !(q.1 + 1 == i && q.2.category == 2)))) : lv_has la nL (xlm ad ((i, v) :: xr i false ls)) := by
  refine xlm_sub hl (fun q hq => ?_)
  rcases List.mem_cons.mp hq with h | h
  · rw [h]; exact List.mem_cons_self
  · obtain ⟨q0, h1, rfl⟩ := List.mem_map.mp h
    obtain ⟨g1, g2, -, g4⟩ := xr_mem i false ls q0 h1
    refine List.mem_cons_of_mem _ (List.mem_filter.mpr ⟨List.mem_map.mpr ⟨q0, g1, rfl⟩, ?_⟩)
    simp only [xv_cat]
    by_cases e : q0.1 + 1 = i
    · have : ¬ q0.2.category = 2 := fun z => g4 ⟨e, z⟩
      simp [g2, this]
    · simp [g2, e]
theorem xlm_st2 {ad : Nat → Nat} {la : Array Slot} {nL i : Nat} {v : Value} {ls : List (Nat × Value)} (hl : lv_has la nL ((i, xv ad v) :: (xlm ad ls).filter (fun q => !(q.1 == i) && (!(q.1 == i + 1) && !(q.1 + 1 == i && q.2.category == 2))))) : lv_has la nL (xlm ad ((i, v) :: xr i true ls)) := by
  refine xlm_sub hl (fun q hq => ?_)
  rcases List.mem_cons.mp hq with h | h
  · rw [h]; exact List.mem_cons_self
  · obtain ⟨q0, h1, rfl⟩ := List.mem_map.mp h
    obtain ⟨g1, g2, g3, g4⟩ := xr_mem i true ls q0 h1
    have g3 := g3 rfl
    refine List.mem_cons_of_mem _ (List.mem_filter.mpr ⟨List.mem_map.mpr ⟨q0, g1, rfl⟩, ?_⟩)
    simp only [xv_cat]
    by_cases e : q0.1 + 1 = i
    · have : ¬ q0.2.category = 2 := fun z => g4 ⟨e, z⟩
      simp [g2, g3, this]
    · simp [g2, g3, e]
theorem xv_sl (ad : Nat → Nat) : ∀ as : List Value, (lg_sl (as.map (xv ad))).length = (lg_sl as).length
  | [] => rfl
  | v :: r => by
    have h := xv_sl ad r
    simp only [lg_sl, List.map_cons, List.flatMap_cons, List.length_append] at h ⊢
    rw [h, xv_cat]
    congr 1
    split <;> rfl
theorem xv_args (ad : Nat → Nat) : ∀ (as : List Value) (i : Nat), lv_args i (as.map (xv ad)) = xlm ad (lv_args i as)
  | [], i => rfl
  | v :: r, i => by
    simp only [List.map_cons, lv_args, xlm, xv_cat]
    rw [xv_args ad r]
    rfl
set_option maxHeartbeats 1000000 in
theorem xm_intro {l : Launch} {d : Nat} {q : XI} {as : List Value} {w : List va_E} {r : Option Value} {w' : List va_E} (hp : plainName q.1.cls = true) (hn : (lg_sl as).length ≤ q.2.2.1) (h : XW l d q (fun a b => a = r ∧ b = w') 0 (lv_args 0 as) [] w) : XMet l d q as w r w' := by
  intro D tc ad sz
  refine Met.ofW (cc := q.2.1) (maxL := q.2.2.1) (ret := q.2.2.2) hp rfl ?_
  intro p e s m args below meth c s₁ B hml hv
  obtain ⟨rfl, hsz, hP, hK, hD0⟩ := hv
  have hts := atoms_spec (ws := xW q) B.pre
  have hown : s.vm.findClass q.1.cls = some m.cls := findClass_of_methodNamed B.named
  subst hsz
  have hD := hD0.self (sz := s.heap.size)
  have hl := lv_entry (as.map (xv ad)) (n := q.2.2.1) (by rw [xv_sl]; exact hn)
  rw [xv_args] at hl
  rw [lg_entry_eq]
  exact h p e s m _ below meth c D tc ad _ s.heap [] _ ⟨B.exec, B.bytes, hml, hown, fun w hw => hts w (List.mem_cons_of_mem _ hw), B.returns, B.notSynchronized⟩ hK (fun z hz => Or.inr hz) hP hD va_S.rf hl
theorem xw_sub {l : Launch} {d : Nat} {q : XI} {Rt : Option Value → List va_E → Prop} {pc : Nat} {ls ls' : List (Nat × Value)} {st : List Value} {w : List va_E} (h : ∀ q ∈ ls', q ∈ ls) (k : XW l d q Rt pc ls' st w) : XW l d q Rt pc ls st w := by
  intro p e s m args below meth c D tc ad A H locs la X hK hA hP hD hS hl
  exact k p e s m args below meth c D tc ad A H locs la X hK hA hP hD hS (xlm_mem hl h)
section Sound
variable {p : Program} {l : Launch} {e : Env} {R : Room} {s : State} {m : MethodId} {args : Array Value} {below : List Frame} {meth : Method} {c : Code} {H : Heap} {locs : List Loc} {Q : State → Prop} {D : va_G} {tc : Nat → ClassId} {ad : Nat → Nat} {A A1 : Nat → Prop} {w : List va_E}
theorem xw_at {i : Nat} {x : va_E} (h : w[i]? = some x) : (xz tc ad 0 w)[i]? = some (ad i, xe tc ad x) := by
  rw [xz_get, h, Option.map_some, Nat.zero_add]
theorem xw_setP {i : Nat} {x : va_E} (h : va_P D vwCl ((xz tc ad 0 w).set i (ad i, xe tc ad x)) H) : va_P D vwCl (xz tc ad 0 (xu w i x)) H := by
  have e := xz_set tc ad w 0 i x
  rw [Nat.zero_add] at e
  rw [xu_eq, ← e]; exact h
theorem xw_setD {i : Nat} {x : va_E} (h : va_D A ((xz tc ad 0 w).set i (ad i, xe tc ad x))) : va_D A (xz tc ad 0 (xu w i x)) := by
  have e := xz_set tc ad w 0 i x
  rw [Nat.zero_add] at e
  rw [xu_eq, ← e]; exact h
/-- behind a call -/
theorem xcall {pc : Nat} {la : Array Slot} {rest st0 : List Value} {a : Array Value} {Rt : Option Value → List va_E → Prop} {cells slots : Nat}
    (hr : va_Run p l e R s m args below meth c H locs cells slots 0 0 (F0 m pc la st0) rest (XQ D tc ad A1 Rt a) A1) (hS : va_S A s.heap H locs) (hA : ∀ q, A1 q → A q)
    (kk : ∀ (v : Option Value) (w' : List va_E) (H1 : Heap) (locs1 : List Loc), Rt v w' → va_P D vwCl (xz tc ad 0 w') H1 → va_D A (xz tc ad 0 w') → va_S A s.heap H1 locs1 → W p l e R s m args below meth c H1 locs1 cells slots Q (F0 m (pc + 3) la ((v.map (xv ad)).toList ++ rest))) : W p l e R s m args below meth c H locs cells slots Q (F0 m pc la st0) := by
  intro T hT X
  obtain ⟨v, st₀, t, T', L, h0, X', hL, e1, e2, ⟨r, w', hq, hv, hP', hD', -, hz, hk⟩, st⟩ := hr T hT X
  have hv : v = r.map (xv ad) := Outcome.returned.inj hv
  subst hv
  rw [h0] at hz hk
  rw [← e1] at hP'
  obtain ⟨t2, a1, b1⟩ := kk r w' T'.heap (locs ++ L) hq hP' (hD'.weaken (fun _ q _ h => hA q.1 h))
    ⟨Nat.le_trans hS.1 (by rw [e1]; exact hz), fun q h1 h2 => by rw [e1, hk q (Nat.lt_of_lt_of_le h1 hS.1) (fun z => h2 (hA q z))]; exact hS.2.1 q h1 h2, fun q hq => by
      rcases List.mem_append.mp hq with h | h
      · exact hS.2.2 q h
      · exact hA _ (hL q h)⟩ T' rfl X'
  exact ⟨t2, st t2 a1, b1⟩
theorem xfree (hD : va_D A (xz tc ad 0 w)) (hS : va_S A s.heap H locs) (hA : ∀ z, s.heap.size ≤ z → A z) : ∀ q, va_A (xz tc ad 0 w) H.size q → A q := by
  intro q h
  rcases h with ⟨k, e, h⟩ | h
  · exact hD.2 k (q, e) h
  · exact hA q (Nat.le_trans hS.1 h)
theorem xblind {as : List Value} {sz : Nat} : FrameBlind (va_Pc (as.map (xv ad)) (fun U => U.heap.size = sz ∧ va_P D vwCl (xz tc ad 0 w) U.heap ∧ va_K D vwCl (xt tc) U ∧ va_D (fun _ => True) (xz tc ad 0 w))) :=
  fun a U g mk q => by obtain ⟨q0, q1, qP, qK, qD⟩ := q; exact ⟨q0, q1, qP, va_K.moved (u := U) (U := U.calling g mk a) (Vm.Alike.refl U.vm) qK, qD⟩
theorem xpre {as : List Value} (hK : va_K D vwCl (xt tc) s) (hP : va_P D vwCl (xz tc ad 0 w) H) (hD : va_D A (xz tc ad 0 w)) : ∀ U : State, U.heap = H → s.WarmedH U.vm → va_Pc (as.map (xv ad)) (fun U => U.heap.size = H.size ∧ va_P D vwCl (xz tc ad 0 w) U.heap ∧ va_K D vwCl (xt tc) U ∧ va_D (fun _ => True) (xz tc ad 0 w)) (as.map (xv ad)).toArray U :=
  fun U hU hW => ⟨rfl, by rw [hU], by rw [hU]; exact hP, va_K.moved hW.alike hK, hD.weaken (fun _ _ _ _ => trivial)⟩
theorem xcb {own : String} {index d' d : Nat} {q : XK} (hts : ∀ w ∈ wsG, w.before args s = true) (hc : xcok own index q) (hd : d' < d) : CallB (xR d) s args own index q.1.1 q.1.2.1 q.1.2.2.1 q.1.2.2.2 (xW q.1) (xR d') 0 0 q.2.2.1 := by
  obtain ⟨h1, h2, h3, h4, h5, -⟩ := hc
  refine callB_of (ws' := wsG) q.2.2.1 hts ?_ rfl rfl rfl (hts _ h2) (hts _ h5) h3 ⟨?_, ?_⟩
  · intro w hw
    rcases List.mem_cons.mp hw with h | h
    · rw [h]; exact ⟨h1, wsG_good h1⟩
    · exact ⟨h, wsG_good h⟩
  · show d' + 1 ≤ d; omega
  · show 8 + (q.1.2.2.1 + 11) + 40 * d' ≤ 40 * d; omega
end Sound
end
section
theorem xcat1 {v : Value} (ad : Nat → Nat) (h : xc2 v = false) : (xv ad v).category = 1 := by
  rw [xv_cat]; cases v <;> first | rfl | cases h
theorem bif_t {b : Bool} {P : Prop} (h : bif b then P else False) : b = true ∧ P := by
  cases b
  · exact h.elim
  · exact ⟨rfl, h⟩
theorem bif_f {b : Bool} {P : Prop} (h : bif b then False else P) : b = false ∧ P := by
  cases b
  · exact ⟨rfl, h⟩
  · exact h.elim
theorem xblt {a b : Nat} (h : Nat.blt a b = true) : a < b := Nat.le_of_ble_eq_true h
set_option maxHeartbeats 4000000 in
set_option maxRecDepth 100000 in
theorem xs_sound {l : Launch} {d : Nat} {q : XI} {T : List (Nat × XE)} {F : List (Nat × XF)} {C : List (Nat × XK)} {Rt : Option Value → List va_E → Prop} {k : Nat → List (Nat × Value) → List Value → List va_E → Prop} {pc : Nat} {ls : List (Nat × Value)} {st : List Value} {w : List va_E}
    (cls : XCls) (ok : XOk q T F C) (hk : ∀ pc ls st w, k pc ls st w → XW l d q Rt pc ls st w) (h : xs q.2.2.1 T F C (xM l d) q.2.2.2 Rt k pc ls st w) : XW l d q Rt pc ls st w := by
  intro p e s m args below meth c D tc ad A H locs la X hK hA hP hD hS hl
  obtain ⟨hx, hb, hml, hown, hts, hr, hlk⟩ := id X
  obtain ⟨okT, okF, okC⟩ := ok
  have go : ∀ {pc ls st w H locs la}, k pc ls st w → va_P D vwCl (xz tc ad 0 w) H → va_D A (xz tc ad 0 w) → va_S A s.heap H locs → lv_has la q.2.2.1 (xlm ad ls) → W p l e (xR d) s m args below meth c H locs 0 0 (MQ below (XQ D tc ad A Rt) args s 0 0 A) (F0 m pc la (st.map (xv ad))) :=
    fun hq hP hD hS hl => hk _ _ _ _ hq p e s m args below meth c D tc ad A _ _ _ X hK hA hP hD hS hl
  unfold xs at h
  have hg : xgood q.2.1 pc (xfind T pc) = true := by
    rcases xfind_in T pc with h1 | h1
    · rw [h1]; rfl
    · exact List.all_eq_true.mp okT _ h1
  generalize xfind T pc = e0 at h hg
  obtain ⟨ins, nxt, tgt, cst, sw⟩ := e0
  cases ins with
  | iconst n =>
    simp only [xgood, Bool.and_eq_true, decide_eq_true_eq] at hg
    obtain ⟨hd, hn, hs⟩ := hg
    subst hn
    exact lv_iconst hx hb hd hs (go h hP hD hS hl)
  | bipush n =>
    simp only [xgood, Bool.and_eq_true, decide_eq_true_eq] at hg
    obtain ⟨hd, hn, hs⟩ := hg
    subst hn
    exact lv_bipush hx hb hd hs (go h hP hD hS hl)
  | sipush n =>
    simp only [xgood, Bool.and_eq_true, decide_eq_true_eq] at hg
    obtain ⟨hd, hn, hs⟩ := hg
    subst hn
    exact lv_sipush hx hb hd hs (go h hP hD hS hl)
  | iload_n i =>
    simp only [xgood, Bool.and_eq_true, decide_eq_true_eq] at hg
    obtain ⟨hd, hn, -⟩ := hg
    subst hn
    replace h := xli_of h
    obtain ⟨x, h1, h⟩ := h
    exact lv_iload_n hx hb hd rfl (xlm_get hl h1) (go h hP hD hS hl)
  | iload i =>
    simp only [xgood, Bool.and_eq_true, decide_eq_true_eq] at hg
    obtain ⟨hd, hn, -⟩ := hg
    subst hn
    replace h := xli_of h
    obtain ⟨x, h1, h⟩ := h
    exact lv_iload hx hb hd (xlm_get hl h1) (go h hP hD hS hl)
  | lload_n i =>
    simp only [xgood, Bool.and_eq_true, decide_eq_true_eq] at hg
    obtain ⟨hd, hn, -⟩ := hg
    subst hn
    replace h := xll_of h
    obtain ⟨x, h1, h⟩ := h
    exact lv_lload_n hx hb hd rfl (xlm_get hl h1) (go h hP hD hS hl)
  | lload i =>
    simp only [xgood, Bool.and_eq_true, decide_eq_true_eq] at hg
    obtain ⟨hd, hn, -⟩ := hg
    subst hn
    replace h := xll_of h
    obtain ⟨x, h1, h⟩ := h
    exact lv_lload hx hb hd (xlm_get hl h1) (go h hP hD hS hl)
  | aload_n i =>
    simp only [xgood, Bool.and_eq_true, decide_eq_true_eq] at hg
    obtain ⟨hd, hn, -⟩ := hg
    subst hn
    replace h := xlr_of h
    obtain ⟨x, h1, h⟩ := h
    exact lv_aload_n hx hb hd rfl (xlm_get hl h1) (go h hP hD hS hl)
  | aload i =>
    simp only [xgood, Bool.and_eq_true, decide_eq_true_eq] at hg
    obtain ⟨hd, hn, -⟩ := hg
    subst hn
    replace h := xlr_of h
    obtain ⟨x, h1, h⟩ := h
    exact lv_aload hx hb hd (xlm_get hl h1) (go h hP hD hS hl)
  | istore_n i =>
    simp only [xgood, Bool.and_eq_true, decide_eq_true_eq] at hg
    obtain ⟨hd, hn, -⟩ := hg
    subst hn
    replace h := x1i_of h
    obtain ⟨x, r, rfl, h⟩ := h
    replace h := bif_t h
    obtain ⟨h1, h⟩ := h
    exact lv_istore_n hx hb hd rfl hl (xblt h1) rfl (fun la' hl' => go h hP hD hS (xlm_st1 (v := .int x) hl'))
  | istore i =>
    simp only [xgood, Bool.and_eq_true, decide_eq_true_eq] at hg
    obtain ⟨hd, hn, -⟩ := hg
    subst hn
    replace h := x1i_of h
    obtain ⟨x, r, rfl, h⟩ := h
    replace h := bif_t h
    obtain ⟨h1, h⟩ := h
    exact lv_istore hx hb hd hl (xblt h1) rfl (fun la' hl' => go h hP hD hS (xlm_st1 (v := .int x) hl'))
  | lstore_n i =>
    simp only [xgood, Bool.and_eq_true, decide_eq_true_eq] at hg
    obtain ⟨hd, hn, -⟩ := hg
    subst hn
    replace h := x1l_of h
    obtain ⟨x, r, rfl, h⟩ := h
    replace h := bif_t h
    obtain ⟨h1, h⟩ := h
    exact lv_lstore_n hx hb hd rfl hl (xblt h1) rfl (fun la' hl' => go h hP hD hS (xlm_st2 (v := .long x) hl'))
  | lstore i =>
    simp only [xgood, Bool.and_eq_true, decide_eq_true_eq] at hg
    obtain ⟨hd, hn, -⟩ := hg
    subst hn
    replace h := x1l_of h
    obtain ⟨x, r, rfl, h⟩ := h
    replace h := bif_t h
    obtain ⟨h1, h⟩ := h
    exact lv_lstore hx hb hd hl (xblt h1) rfl (fun la' hl' => go h hP hD hS (xlm_st2 (v := .long x) hl'))
  | astore_n i =>
    simp only [xgood, Bool.and_eq_true, decide_eq_true_eq] at hg
    obtain ⟨hd, hn, -⟩ := hg
    subst hn
    replace h := x1r_of h
    obtain ⟨x, r, rfl, h⟩ := h
    replace h := bif_t h
    obtain ⟨h1, h⟩ := h
    exact lv_astore_n hx hb hd rfl hl (xblt h1) rfl (fun la' hl' => go h hP hD hS (xlm_st1 (v := .ref x) hl'))
  | astore i =>
    simp only [xgood, Bool.and_eq_true, decide_eq_true_eq] at hg
    obtain ⟨hd, hn, -⟩ := hg
    subst hn
    replace h := x1r_of h
    obtain ⟨x, r, rfl, h⟩ := h
    replace h := bif_t h
    obtain ⟨h1, h⟩ := h
    exact lv_astore hx hb hd hl (xblt h1) rfl (fun la' hl' => go h hP hD hS (xlm_st1 (v := .ref x) hl'))
  | iinc i n =>
    simp only [xgood, Bool.and_eq_true, decide_eq_true_eq] at hg
    obtain ⟨hd, hn, hs⟩ := hg
    subst hn; subst hs
    replace h := xli_of h
    obtain ⟨x, h0, h⟩ := h
    replace h := bif_t h
    obtain ⟨h1, h⟩ := h
    obtain ⟨k0, hk0⟩ := List.getElem?_of_mem (List.mem_map.mpr ⟨(i, Value.int x), xg_mem ls i _ h0, rfl⟩ : ((i, xv ad (Value.int x)) : Nat × Value) ∈ xlm ad ls)
    exact lv_iinc hx hb hd hl hk0 rfl (xblt h1) rfl (fun la' hl' => go h hP hD hS (xlm_st1 (v := .int (x + Int32.ofInt n)) hl'))
  | iadd =>
    simp only [xgood, Bool.and_eq_true, decide_eq_true_eq] at hg
    obtain ⟨hd, hn, -⟩ := hg
    subst hn
    replace h := x1i_of h
    obtain ⟨y, r, rfl, h⟩ := h
    replace h := x1i_of h
    obtain ⟨x, r, rfl, h⟩ := h
    exact lv_iadd hx hb hd (go h hP hD hS hl)
  | isub =>
    simp only [xgood, Bool.and_eq_true, decide_eq_true_eq] at hg
    obtain ⟨hd, hn, -⟩ := hg
    subst hn
    replace h := x1i_of h
    obtain ⟨y, r, rfl, h⟩ := h
    replace h := x1i_of h
    obtain ⟨x, r, rfl, h⟩ := h
    exact lv_isub hx hb hd (go h hP hD hS hl)
  | imul =>
    simp only [xgood, Bool.and_eq_true, decide_eq_true_eq] at hg
    obtain ⟨hd, hn, -⟩ := hg
    subst hn
    replace h := x1i_of h
    obtain ⟨y, r, rfl, h⟩ := h
    replace h := x1i_of h
    obtain ⟨x, r, rfl, h⟩ := h
    exact lv_imul hx hb hd (go h hP hD hS hl)
  | iand =>
    simp only [xgood, Bool.and_eq_true, decide_eq_true_eq] at hg
    obtain ⟨hd, hn, -⟩ := hg
    subst hn
    replace h := x1i_of h
    obtain ⟨y, r, rfl, h⟩ := h
    replace h := x1i_of h
    obtain ⟨x, r, rfl, h⟩ := h
    exact lv_iand hx hb hd (go h hP hD hS hl)
  | ior =>
    simp only [xgood, Bool.and_eq_true, decide_eq_true_eq] at hg
    obtain ⟨hd, hn, -⟩ := hg
    subst hn
    replace h := x1i_of h
    obtain ⟨y, r, rfl, h⟩ := h
    replace h := x1i_of h
    obtain ⟨x, r, rfl, h⟩ := h
    exact lv_ior hx hb hd (go h hP hD hS hl)
  | ixor =>
    simp only [xgood, Bool.and_eq_true, decide_eq_true_eq] at hg
    obtain ⟨hd, hn, -⟩ := hg
    subst hn
    replace h := x1i_of h
    obtain ⟨y, r, rfl, h⟩ := h
    replace h := x1i_of h
    obtain ⟨x, r, rfl, h⟩ := h
    exact lv_ixor hx hb hd (go h hP hD hS hl)
  | ishl =>
    simp only [xgood, Bool.and_eq_true, decide_eq_true_eq] at hg
    obtain ⟨hd, hn, -⟩ := hg
    subst hn
    replace h := x1i_of h
    obtain ⟨y, r, rfl, h⟩ := h
    replace h := x1i_of h
    obtain ⟨x, r, rfl, h⟩ := h
    exact lv_ishl hx hb hd (go h hP hD hS hl)
  | ishr =>
    simp only [xgood, Bool.and_eq_true, decide_eq_true_eq] at hg
    obtain ⟨hd, hn, -⟩ := hg
    subst hn
    replace h := x1i_of h
    obtain ⟨y, r, rfl, h⟩ := h
    replace h := x1i_of h
    obtain ⟨x, r, rfl, h⟩ := h
    exact lv_ishr hx hb hd (go h hP hD hS hl)
  | iushr =>
    simp only [xgood, Bool.and_eq_true, decide_eq_true_eq] at hg
    obtain ⟨hd, hn, -⟩ := hg
    subst hn
    replace h := x1i_of h
    obtain ⟨y, r, rfl, h⟩ := h
    replace h := x1i_of h
    obtain ⟨x, r, rfl, h⟩ := h
    exact lv_iushr hx hb hd rfl (go h hP hD hS hl)
  | ineg =>
    simp only [xgood, Bool.and_eq_true, decide_eq_true_eq] at hg
    obtain ⟨hd, hn, -⟩ := hg
    subst hn
    replace h := x1i_of h
    obtain ⟨x, r, rfl, h⟩ := h
    exact lv_ineg hx hb hd (go h hP hD hS hl)
  | land =>
    simp only [xgood, Bool.and_eq_true, decide_eq_true_eq] at hg
    obtain ⟨hd, hn, -⟩ := hg
    subst hn
    replace h := x1l_of h
    obtain ⟨y, r, rfl, h⟩ := h
    replace h := x1l_of h
    obtain ⟨x, r, rfl, h⟩ := h
    exact lv_land hx hb hd (go h hP hD hS hl)
  | lor =>
    simp only [xgood, Bool.and_eq_true, decide_eq_true_eq] at hg
    obtain ⟨hd, hn, -⟩ := hg
    subst hn
    replace h := x1l_of h
    obtain ⟨y, r, rfl, h⟩ := h
    replace h := x1l_of h
    obtain ⟨x, r, rfl, h⟩ := h
    exact lv_lor hx hb hd (go h hP hD hS hl)
  | lushr =>
    simp only [xgood, Bool.and_eq_true, decide_eq_true_eq] at hg
    obtain ⟨hd, hn, -⟩ := hg
    subst hn
    replace h := x1i_of h
    obtain ⟨y, r, rfl, h⟩ := h
    replace h := x1l_of h
    obtain ⟨x, r, rfl, h⟩ := h
    exact lv_lushr hx hb hd rfl (go h hP hD hS hl)
  | lshl =>
    simp only [xgood, Bool.and_eq_true, decide_eq_true_eq] at hg
    obtain ⟨hd, hn, -⟩ := hg
    subst hn
    replace h := x1i_of h
    obtain ⟨y, r, rfl, h⟩ := h
    replace h := x1l_of h
    obtain ⟨x, r, rfl, h⟩ := h
    exact lv_lshl hx hb hd rfl (go h hP hD hS hl)
  | lshr =>
    simp only [xgood, Bool.and_eq_true, decide_eq_true_eq] at hg
    obtain ⟨hd, hn, -⟩ := hg
    subst hn
    replace h := x1i_of h
    obtain ⟨y, r, rfl, h⟩ := h
    replace h := x1l_of h
    obtain ⟨x, r, rfl, h⟩ := h
    exact lv_lshr hx hb hd rfl (go h hP hD hS hl)
  | i2l =>
    simp only [xgood, Bool.and_eq_true, decide_eq_true_eq] at hg
    obtain ⟨hd, hn, -⟩ := hg
    subst hn
    replace h := x1i_of h
    obtain ⟨x, r, rfl, h⟩ := h
    exact lv_i2l hx hb hd rfl (go h hP hD hS hl)
  | l2i =>
    simp only [xgood, Bool.and_eq_true, decide_eq_true_eq] at hg
    obtain ⟨hd, hn, -⟩ := hg
    subst hn
    replace h := x1l_of h
    obtain ⟨x, r, rfl, h⟩ := h
    exact lv_l2i hx hb hd rfl (go h hP hD hS hl)
  | i2c =>
    simp only [xgood, Bool.and_eq_true, decide_eq_true_eq] at hg
    obtain ⟨hd, hn, -⟩ := hg
    subst hn
    replace h := x1i_of h
    obtain ⟨x, r, rfl, h⟩ := h
    exact lv_i2c hx hb hd rfl (go h hP hD hS hl)
  | dup =>
    simp only [xgood, Bool.and_eq_true, decide_eq_true_eq] at hg
    obtain ⟨hd, hn, -⟩ := hg
    subst hn
    replace h := x1v_of h
    obtain ⟨v, r, rfl, h⟩ := h
    replace h := bif_f h
    obtain ⟨h1, h⟩ := h
    exact lv_dup hx hb hd (xcat1 ad h1) (go h hP hD hS hl)
  | pop =>
    simp only [xgood, Bool.and_eq_true, decide_eq_true_eq] at hg
    obtain ⟨hd, hn, -⟩ := hg
    subst hn
    replace h := x1v_of h
    obtain ⟨v, r, rfl, h⟩ := h
    replace h := bif_f h
    obtain ⟨h1, h⟩ := h
    exact lv_pop hx hb hd (xcat1 ad h1) (go h hP hD hS hl)
  | dup_x1 =>
    simp only [xgood, Bool.and_eq_true, decide_eq_true_eq] at hg
    obtain ⟨hd, hn, -⟩ := hg
    subst hn
    replace h := x1v_of h
    obtain ⟨v, r, rfl, h⟩ := h
    replace h := x1v_of h
    obtain ⟨u, r, rfl, h⟩ := h
    replace h := bif_f h
    obtain ⟨h1, h⟩ := h
    have h1 := Bool.or_eq_false_iff.mp h1
    exact lv_dup_x1 hx hb hd (xcat1 ad h1.1) (xcat1 ad h1.2) (go h hP hD hS hl)
  | dup2 =>
    simp only [xgood, Bool.and_eq_true, decide_eq_true_eq] at hg
    obtain ⟨hd, hn, -⟩ := hg
    subst hn
    replace h := x1v_of h
    obtain ⟨v, r, rfl, h⟩ := h
    replace h := x1v_of h
    obtain ⟨u, r, rfl, h⟩ := h
    replace h := bif_f h
    obtain ⟨h1, h⟩ := h
    have h1 := Bool.or_eq_false_iff.mp h1
    exact lv_dup2_11 hx hb hd (xcat1 ad h1.1) (xcat1 ad h1.2) (go h hP hD hS hl)
  | ifCond cnd off =>
    simp only [xgood, Bool.and_eq_true, decide_eq_true_eq] at hg
    obtain ⟨hd, hn, hs⟩ := hg
    subst hn
    replace h := x1i_of h
    obtain ⟨x, r, rfl, h⟩ := h
    cases cnd with
    | eq => exact lv_if_eq hx hb hd hs (fun q => go (h.1 q) hP hD hS hl) (fun q => go (h.2 q) hP hD hS hl)
    | ne => exact lv_if_ne hx hb hd hs (fun q => go (h.1 q) hP hD hS hl) (fun q => go (h.2 q) hP hD hS hl)
    | lt => exact lv_if_lt hx hb hd hs (fun q => go (h.1 q) hP hD hS hl) (fun q => go (h.2 q) hP hD hS hl)
    | ge => exact lv_if_ge hx hb hd hs (fun q => go (h.1 q) hP hD hS hl) (fun q => go (h.2 q) hP hD hS hl)
    | gt => exact lv_if_gt hx hb hd hs (fun q => go (h.1 q) hP hD hS hl) (fun q => go (h.2 q) hP hD hS hl)
    | le => exact lv_if_le hx hb hd hs (fun q => go (h.1 q) hP hD hS hl) (fun q => go (h.2 q) hP hD hS hl)
  | if_icmp cnd off =>
    simp only [xgood, Bool.and_eq_true, decide_eq_true_eq] at hg
    obtain ⟨hd, hn, hs⟩ := hg
    subst hn
    replace h := x1i_of h
    obtain ⟨y, r, rfl, h⟩ := h
    replace h := x1i_of h
    obtain ⟨x, r, rfl, h⟩ := h
    cases cnd with
    | eq => exact lv_icmp_eq hx hb hd hs (fun q => go (h.1 q) hP hD hS hl) (fun q => go (h.2 q) hP hD hS hl)
    | ne => exact lv_icmp_ne hx hb hd hs (fun q => go (h.1 q) hP hD hS hl) (fun q => go (h.2 q) hP hD hS hl)
    | lt => exact lv_icmp_lt hx hb hd hs (fun q => go (h.1 q) hP hD hS hl) (fun q => go (h.2 q) hP hD hS hl)
    | ge => exact lv_icmp_ge hx hb hd hs (fun q => go (h.1 q) hP hD hS hl) (fun q => go (h.2 q) hP hD hS hl)
    | gt => exact lv_icmp_gt hx hb hd hs (fun q => go (h.1 q) hP hD hS hl) (fun q => go (h.2 q) hP hD hS hl)
    | le => exact lv_icmp_le hx hb hd hs (fun q => go (h.1 q) hP hD hS hl) (fun q => go (h.2 q) hP hD hS hl)
  | goto off =>
    simp only [xgood, Bool.and_eq_true, decide_eq_true_eq] at hg
    obtain ⟨hd, hn, hs⟩ := hg
    exact lv_goto hx hb hd hs (go h hP hD hS hl)
  | tableswitch dflt lo hi offs =>
    simp only [xgood, Bool.and_eq_true, decide_eq_true_eq] at hg
    obtain ⟨hd, hs, hh, ht⟩ := hg
    replace h := x1i_of h
    obtain ⟨x, r, rfl, h⟩ := h
    obtain ⟨q1, q2⟩ := xswT_of offs.toList lo sw ht h
    by_cases hc : x.toInt < lo ∨ hi < x.toInt
    · refine lv_tableOut hx hb hd hc hs (go (q2 (fun j hj => ?_)) hP hD hS hl)
      have hj : j < offs.size := by simpa using hj
      omega
    · have hc1 : ¬ x.toInt < lo := fun z => hc (Or.inl z)
      have hc2 : ¬ hi < x.toInt := fun z => hc (Or.inr z)
      have hlt : (x.toInt - lo).toNat < offs.size := by omega
      obtain ⟨t, e1, e2⟩ := q1 (x.toInt - lo).toNat offs[(x.toInt - lo).toNat] (by rw [Array.getElem?_toList]; exact Array.getElem?_eq_getElem hlt) (by omega)
      exact lv_tableIn hx hb hd hc1 hc2 (Array.getElem?_eq_getElem hlt) e1 (go e2 hP hD hS hl)
  | getfield idx =>
    simp only [xgood, Bool.and_eq_true, decide_eq_true_eq] at hg
    obtain ⟨hd, hn, -⟩ := hg
    subst hn
    replace h := x1r_of h
    obtain ⟨i, r, rfl, h⟩ := h
    replace h := xlk_of h
    obtain ⟨f, hf, h⟩ := h
    replace h := xob_of h
    obtain ⟨fs, hw, h⟩ := h
    replace h := xop_of h
    obtain ⟨v, hv, h⟩ := h
    obtain ⟨Cn, U, N, hc, hkN, -, -, hlink⟩ := okF _ hf
    exact va_get hx hb hts (cls _ _ _ _ hc).1 hown hK hP i (xw_at hw) hc f.2.1 hkN (hts _ hlink) (fun _ h9 => h9) (by rw [List.getElem?_map, hv]; rfl) hd (go h hP hD hS hl)
  | putfield idx =>
    simp only [xgood, Bool.and_eq_true, decide_eq_true_eq] at hg
    obtain ⟨hd, hn, -⟩ := hg
    subst hn
    replace h := x1v_of h
    obtain ⟨v, r, rfl, h⟩ := h
    replace h := x1r_of h
    obtain ⟨i, r, rfl, h⟩ := h
    replace h := xlk_of h
    obtain ⟨f, hf, h⟩ := h
    replace h := xob_of h
    obtain ⟨fs, hw, hfit, h⟩ := h
    replace h := bif_t h
    obtain ⟨h1, h⟩ := h
    have h1 := Bool.and_eq_true_iff.mp h1
    obtain ⟨Cn, U, N, hc, hkN, hty, hfin, hlink⟩ := okF _ hf
    obtain ⟨cl1, cl2, ty0, cl3⟩ := cls _ _ _ _ hc
    have hft := xfit_of ad hfit
    refine va_put hx hb hts cl1 ty0 cl3 cl2 hown hK hP hD hS i (xw_at hw) hc f.2.1 hkN (hts _ hlink) (fun _ h9 => h9) (hfin h1.1) hty hft.1 hft.2 (by rw [List.length_map]; exact xblt h1.2) hd (fun H1 locs1 hP1 hD1 hS1 => ?_)
    have e0 : (ad i, (.inr (f.1, (fs.map (xv ad)).set f.2.1 (xv ad v)) : va_E)) = (ad i, xe tc ad (.inr (f.1, xu fs f.2.1 v))) := by
      rw [xu_eq]; simp [xe, List.map_set]
    rw [e0] at hP1 hD1
    exact go h (xw_setP hP1) (xw_setD hD1) hS1 hl
  | iaload =>
    simp only [xgood, Bool.and_eq_true, decide_eq_true_eq] at hg
    obtain ⟨hd, hn, -⟩ := hg
    subst hn
    replace h := x1i_of h
    obtain ⟨j, r, rfl, h⟩ := h
    replace h := x1r_of h
    obtain ⟨i, r, rfl, h⟩ := h
    replace h := xar_of h
    obtain ⟨n, a, hw, hin, h⟩ := h
    exact va_iald hx hb hK hP i 0 (xw_at hw) rfl hin hd (go h hP hD hS hl)
  | caload =>
    simp only [xgood, Bool.and_eq_true, decide_eq_true_eq] at hg
    obtain ⟨hd, hn, -⟩ := hg
    subst hn
    replace h := x1i_of h
    obtain ⟨j, r, rfl, h⟩ := h
    replace h := x1r_of h
    obtain ⟨i, r, rfl, h⟩ := h
    replace h := xar_of h
    obtain ⟨n, a, hw, hin, h⟩ := h
    exact va_cald hx hb hK hP i 1 (xw_at hw) rfl hin hd (go h hP hD hS hl)
  | baload =>
    simp only [xgood, Bool.and_eq_true, decide_eq_true_eq] at hg
    obtain ⟨hd, hn, -⟩ := hg
    subst hn
    replace h := x1i_of h
    obtain ⟨j, r, rfl, h⟩ := h
    replace h := x1r_of h
    obtain ⟨i, r, rfl, h⟩ := h
    replace h := xar_of h
    obtain ⟨n, a, hw, hin, h⟩ := h
    exact va_zald hx hb hK hP i 2 (xw_at hw) rfl hin hd (go h hP hD hS hl)
  | iastore =>
    simp only [xgood, Bool.and_eq_true, decide_eq_true_eq] at hg
    obtain ⟨hd, hn, -⟩ := hg
    subst hn
    replace h := x1i_of h
    obtain ⟨x, r, rfl, h⟩ := h
    replace h := x1i_of h
    obtain ⟨j, r, rfl, h⟩ := h
    replace h := x1r_of h
    obtain ⟨i, r, rfl, h⟩ := h
    replace h := xar_of h
    obtain ⟨n, a, hw, hin, h⟩ := h
    exact va_iast hx hb hK hP hD hS i 0 (xw_at hw) rfl hin hd (fun H1 locs1 hP1 hD1 hS1 => go h (xw_setP hP1) (xw_setD hD1) hS1 hl)
  | castore =>
    simp only [xgood, Bool.and_eq_true, decide_eq_true_eq] at hg
    obtain ⟨hd, hn, -⟩ := hg
    subst hn
    replace h := x1i_of h
    obtain ⟨x, r, rfl, h⟩ := h
    replace h := x1i_of h
    obtain ⟨j, r, rfl, h⟩ := h
    replace h := x1r_of h
    obtain ⟨i, r, rfl, h⟩ := h
    replace h := xar_of h
    obtain ⟨n, a, hw, hin, h⟩ := h
    exact va_cast hx hb hK hP hD hS i 1 (xw_at hw) rfl hin hd (fun H1 locs1 hP1 hD1 hS1 => go h (xw_setP hP1) (xw_setD hD1) hS1 hl)
  | bastore =>
    simp only [xgood, Bool.and_eq_true, decide_eq_true_eq] at hg
    obtain ⟨hd, hn, -⟩ := hg
    subst hn
    replace h := x1i_of h
    obtain ⟨x, r, rfl, h⟩ := h
    replace h := x1i_of h
    obtain ⟨j, r, rfl, h⟩ := h
    replace h := x1r_of h
    obtain ⟨i, r, rfl, h⟩ := h
    replace h := xar_of h
    obtain ⟨n, a, hw, hin, h⟩ := h
    exact va_zast hx hb hK hP hD hS i 2 (xw_at hw) rfl hin hd (fun H1 locs1 hP1 hD1 hS1 => go h (xw_setP hP1) (xw_setD hD1) hS1 hl)
  | arraylength =>
    simp only [xgood, Bool.and_eq_true, decide_eq_true_eq] at hg
    obtain ⟨hd, hn, -⟩ := hg
    subst hn
    replace h := x1r_of h
    obtain ⟨i, r, rfl, h⟩ := h
    replace h := xar_of h
    obtain ⟨n, a, hw, h⟩ := h
    exact va_alen hx hb hK hP i 0 (xw_at hw) (ty := .int) rfl rfl hd (go h hP hD hS hl)
  | invokestatic idx =>
    simp only [xgood, Bool.and_eq_true, decide_eq_true_eq] at hg
    obtain ⟨hd, hn, -⟩ := hg
    subst hn
    replace h := xlk_of h
    obtain ⟨qk, hq, h⟩ := h
    replace h := bif_f h
    obtain ⟨hst, h⟩ := h
    replace h := xtk_of _ _ _ _ h
    obtain ⟨as, r, rfl, hlen, h⟩ := h
    replace h := bif_t h
    obtain ⟨h8, h⟩ := h
    obtain ⟨d', v0, w', hd', hM, h⟩ := h
    rw [List.append_nil] at hM
    have hc := okC _ hq
    have hc6 := hc.2.2.2.2.2
    rw [hst] at hc6
    have hsum := xct_eq ad r
    refine xcall (A := A) (va_runS (As := as.map (xv ad)) (rest := r.map (xv ad)) ⟨hx, hb, hml, hown, hts⟩ (hM D tc ad H.size) ⟨xcb hts hc hd', hts _ hc6⟩ ⟨xblind, xpre hK hP hD⟩ rfl (by rw [List.length_map]; exact hlen) hl.1 (by simp) (lv_room (by rw [hsum]; exact Nat.le_of_ble_eq_true h8)) hd ⟨Nat.zero_le _, Nat.zero_le _⟩) hS (xfree hD hS hA) (fun v1 w1 H1 locs1 hR hP1 hD1 hS1 => ?_)
    obtain ⟨rfl, rfl⟩ := hR
    have e0 : (v1.map (xv ad)).toList ++ r.map (xv ad) = (v1.toList ++ r).map (xv ad) := by cases v1 <;> simp
    rw [e0]
    exact go h hP1 hD1 hS1 hl
  | invokevirtual idx =>
    simp only [xgood, Bool.and_eq_true, decide_eq_true_eq] at hg
    obtain ⟨hd, hn, -⟩ := hg
    subst hn
    replace h := xlk_of h
    obtain ⟨qk, hq, h⟩ := h
    replace h := bif_t h
    obtain ⟨hst, h⟩ := h
    replace h := xtk_of _ _ _ _ h
    obtain ⟨as, r, rfl, hlen, h⟩ := h
    replace h := x1r_of h
    obtain ⟨i, r, rfl, h⟩ := h
    replace h := bif_t h
    obtain ⟨h8, h⟩ := h
    replace h := xob_of h
    obtain ⟨fs, hw, h⟩ := h
    obtain ⟨d', v0, w', hd', hM, h⟩ := h
    rw [List.append_nil] at hM
    have hc := okC _ hq
    have hc6 := hc.2.2.2.2.2
    rw [hst] at hc6
    obtain ⟨hc7, hc8, U, N, hc9⟩ := hc6
    have hsum := xct_eq ad r
    refine xcall (A := A) (va_runV (As := as.map (xv ad)) (rest := r.map (xv ad)) (b := ad i) ⟨hx, hb, hml, hown, hts⟩ (hM D tc ad H.size) ⟨xcb hts hc hd', hts _ hc7, hts _ hc8⟩ ⟨xblind, va_recv hK hP hc9 (xw_at hw), xpre (as := .ref i :: as) hK hP hD⟩ rfl (by rw [List.length_map]; exact hlen) hl.1 (by simp [xv]) (lv_room (by rw [hsum]; exact Nat.le_of_ble_eq_true h8)) hd ⟨Nat.zero_le _, Nat.zero_le _⟩) hS (xfree hD hS hA) (fun v1 w1 H1 locs1 hR hP1 hD1 hS1 => ?_)
    obtain ⟨rfl, rfl⟩ := hR
    have e0 : (v1.map (xv ad)).toList ++ r.map (xv ad) = (v1.toList ++ r).map (xv ad) := by cases v1 <;> simp
    rw [e0]
    exact go h hP1 hD1 hS1 hl
  | ireturn =>
    simp only [xgood, Bool.and_eq_true, decide_eq_true_eq] at hg
    obtain ⟨hd, hn, -⟩ := hg
    replace h := x1i_of h
    obtain ⟨x, r, rfl, h⟩ := h
    cases r with
    | cons a r => exact h.elim
    | nil =>
      obtain ⟨h1, h⟩ := h
      obtain ⟨ty, e1, e2⟩ := xret_of h1
      exact W.zret hx hb (hr.trans e1) (xfit_of ad e2).1 (fun t ht hW => ⟨some (.int x), w, h, rfl, by rw [ht]; exact hP, hD, va_K.moved hW.alike hK, hS.F ht⟩) hS.2.2 hd hlk
  | areturn =>
    simp only [xgood, Bool.and_eq_true, decide_eq_true_eq] at hg
    obtain ⟨hd, hn, -⟩ := hg
    replace h := x1r_of h
    obtain ⟨x, r, rfl, h⟩ := h
    cases r with
    | cons a r => exact h.elim
    | nil =>
      obtain ⟨h1, h⟩ := h
      obtain ⟨ty, e1, e2⟩ := xret_of h1
      refine W.aret (v := .ref (ad x)) hx hb (hr.trans e1) ?_ (Or.inr ⟨_, rfl⟩) (fun t ht hW => ⟨some (.ref x), w, h, rfl, by rw [ht]; exact hP, hD, va_K.moved hW.alike hK, hS.F ht⟩) hS.2.2 hd hlk
      cases ty <;> first | exact Or.inl ⟨_, rfl⟩ | exact Or.inr ⟨_, rfl⟩ | exact e2.elim
  | return_ =>
    simp only [xgood, Bool.and_eq_true, decide_eq_true_eq] at hg
    obtain ⟨hd, hn, -⟩ := hg
    cases st with
    | cons a r => exact h.elim
    | nil =>
      obtain ⟨h1, h⟩ := h
      exact W.vret hx hb (hr.trans h1) (fun t ht hW => ⟨none, w, h, rfl, by rw [ht]; exact hP, hD, va_K.moved hW.alike hK, hS.F ht⟩) hS.2.2 hd hlk
  | _ => exact h.elim
theorem xb_sound {l : Launch} {d : Nat} {q : XI} {T : List (Nat × XE)} {F : List (Nat × XF)} {C : List (Nat × XK)} {Rt : Option Value → List va_E → Prop} {stop : List (Nat × List Nat)}
    (cls : XCls) (ok : XOk q T F C) : ∀ (n pc : Nat) (ls : List (Nat × Value)) (st : List Value) (w : List va_E), xb q.2.2.1 T F C (xM l d) q.2.2.2 Rt stop (XW l d q Rt) n pc ls st w → XW l d q Rt pc ls st w
  | 0, pc, ls, st, w, h => h
  | n + 1, pc, ls, st, w, h => by
    rw [xb] at h
    split at h
    · exact xw_sub (fun q hq => xk_mem _ _ q hq) h
    · exact xs_sound cls ok (fun pc ls st w h => xb_sound cls ok n pc ls st w h) h
/-- go on from here, at least a step, up to the places of stop (with the locals that it names) -/
theorem xw_go {l : Launch} {d : Nat} {q : XI} {T : List (Nat × XE)} {F : List (Nat × XF)} {C : List (Nat × XK)} {Rt : Option Value → List va_E → Prop} {pc : Nat} {ls : List (Nat × Value)} {st : List Value} {w : List va_E}
    (cls : XCls) (ok : XOk q T F C) (n : Nat) (stop : List (Nat × List Nat)) (h : xs q.2.2.1 T F C (xM l d) q.2.2.2 Rt (xb q.2.2.1 T F C (xM l d) q.2.2.2 Rt stop (XW l d q Rt) n) pc ls st w) : XW l d q Rt pc ls st w :=
  xs_sound cls ok (fun pc ls st w h => xb_sound cls ok n pc ls st w h) h
end
