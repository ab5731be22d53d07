section
-- ===== PART A: goes FIRST, ahead of the names: the tables' words, and 'selects' of the private methods out of them =====
/-- a private method of a class that the tables say can be made, by its rows of tables_1 -/
def lw_okq (q : MethodName × Nat) : Prop := (q.1.cls ≠ "java/lang/invoke/MethodHandle" ∧ q.1.cls ≠ "java/lang/invoke/VarHandle") ∧ Cond.instantiable q.1.cls q.2 ∈ tables_1 ∧ Cond.privateMethod q.1 ∈ tables_1 ∧ Cond.instanceMethod q.1 ∈ tables_1
theorem lw_p0 : lw_okq (⟨"NullGuard$Program", "charAt", "(I)C"⟩, 16) := ⟨⟨by decide +kernel, by decide +kernel⟩, List.mem_of_getElem? (i := 17) (by decide +kernel), List.mem_of_getElem? (i := 30) (by decide +kernel), List.mem_of_getElem? (i := 31) (by decide +kernel)⟩
theorem lw_p1 : lw_okq (⟨"NullGuard$Program", "closeBlock", "(I)I"⟩, 16) := ⟨⟨by decide +kernel, by decide +kernel⟩, List.mem_of_getElem? (i := 17) (by decide +kernel), List.mem_of_getElem? (i := 34) (by decide +kernel), List.mem_of_getElem? (i := 35) (by decide +kernel)⟩
theorem lw_p2 : lw_okq (⟨"NullGuard$Program", "linkAtoms", "(III)V"⟩, 16) := ⟨⟨by decide +kernel, by decide +kernel⟩, List.mem_of_getElem? (i := 17) (by decide +kernel), List.mem_of_getElem? (i := 38) (by decide +kernel), List.mem_of_getElem? (i := 39) (by decide +kernel)⟩
theorem lw_p3 : lw_okq (⟨"NullGuard$Program", "readStatement", "(I)I"⟩, 16) := ⟨⟨by decide +kernel, by decide +kernel⟩, List.mem_of_getElem? (i := 17) (by decide +kernel), List.mem_of_getElem? (i := 42) (by decide +kernel), List.mem_of_getElem? (i := 43) (by decide +kernel)⟩
theorem lw_p4 : lw_okq (⟨"NullGuard$Program", "readCondition", "(I)I"⟩, 16) := ⟨⟨by decide +kernel, by decide +kernel⟩, List.mem_of_getElem? (i := 17) (by decide +kernel), List.mem_of_getElem? (i := 46) (by decide +kernel), List.mem_of_getElem? (i := 47) (by decide +kernel)⟩
theorem lw_p5 : lw_okq (⟨"NullGuard$Program", "readAtom", "(I)I"⟩, 16) := ⟨⟨by decide +kernel, by decide +kernel⟩, List.mem_of_getElem? (i := 17) (by decide +kernel), List.mem_of_getElem? (i := 50) (by decide +kernel), List.mem_of_getElem? (i := 51) (by decide +kernel)⟩
theorem lw_p6 : lw_okq (⟨"NullGuard$Program", "partAt", "(I)I"⟩, 16) := ⟨⟨by decide +kernel, by decide +kernel⟩, List.mem_of_getElem? (i := 17) (by decide +kernel), List.mem_of_getElem? (i := 54) (by decide +kernel), List.mem_of_getElem? (i := 55) (by decide +kernel)⟩
theorem lw_p7 : lw_okq (⟨"NullGuard$Program", "openBlock", "(II)I"⟩, 16) := ⟨⟨by decide +kernel, by decide +kernel⟩, List.mem_of_getElem? (i := 17) (by decide +kernel), List.mem_of_getElem? (i := 64) (by decide +kernel), List.mem_of_getElem? (i := 65) (by decide +kernel)⟩
theorem lw_p8 : lw_okq (⟨"NullGuard$Program", "readSign", "(II)I"⟩, 16) := ⟨⟨by decide +kernel, by decide +kernel⟩, List.mem_of_getElem? (i := 17) (by decide +kernel), List.mem_of_getElem? (i := 68) (by decide +kernel), List.mem_of_getElem? (i := 69) (by decide +kernel)⟩
theorem lw_p9 : lw_okq (⟨"NullGuard$Program", "readWrite", "(I)I"⟩, 16) := ⟨⟨by decide +kernel, by decide +kernel⟩, List.mem_of_getElem? (i := 17) (by decide +kernel), List.mem_of_getElem? (i := 72) (by decide +kernel), List.mem_of_getElem? (i := 73) (by decide +kernel)⟩
theorem lw_p10 : lw_okq (⟨"NullGuard$Program", "valueAt", "(I)I"⟩, 16) := ⟨⟨by decide +kernel, by decide +kernel⟩, List.mem_of_getElem? (i := 17) (by decide +kernel), List.mem_of_getElem? (i := 76) (by decide +kernel), List.mem_of_getElem? (i := 77) (by decide +kernel)⟩
theorem lw_p11 : lw_okq (⟨"NullGuard$Program", "leadWaysOutOfBlocks", "()V"⟩, 16) := ⟨⟨by decide +kernel, by decide +kernel⟩, List.mem_of_getElem? (i := 17) (by decide +kernel), List.mem_of_getElem? (i := 80) (by decide +kernel), List.mem_of_getElem? (i := 81) (by decide +kernel)⟩
theorem lw_p12 : lw_okq (⟨"NullGuard$Program", "outOfBlocks", "(I)I"⟩, 16) := ⟨⟨by decide +kernel, by decide +kernel⟩, List.mem_of_getElem? (i := 17) (by decide +kernel), List.mem_of_getElem? (i := 84) (by decide +kernel), List.mem_of_getElem? (i := 85) (by decide +kernel)⟩
theorem lw_p13 : lw_okq (⟨"NullGuard", "knowledge", "()LNullGuard$Checker;"⟩, 5) := ⟨⟨by decide +kernel, by decide +kernel⟩, List.mem_of_getElem? (i := 9) (by decide +kernel), List.mem_of_getElem? (i := 272) (by decide +kernel), List.mem_of_getElem? (i := 273) (by decide +kernel)⟩
theorem lw_p14 : lw_okq (⟨"NullGuard$Checker", "flowFrom", "(LNullGuard$Program;II)V"⟩, 5) := ⟨⟨by decide +kernel, by decide +kernel⟩, List.mem_of_getElem? (i := 157) (by decide +kernel), List.mem_of_getElem? (i := 285) (by decide +kernel), List.mem_of_getElem? (i := 286) (by decide +kernel)⟩
theorem lw_p15 : lw_okq (⟨"NullGuard$Checker", "write", "(LNullGuard$Program;II)V"⟩, 5) := ⟨⟨by decide +kernel, by decide +kernel⟩, List.mem_of_getElem? (i := 157) (by decide +kernel), List.mem_of_getElem? (i := 289) (by decide +kernel), List.mem_of_getElem? (i := 290) (by decide +kernel)⟩
def lw_privs_1 : List (MethodName × Nat) := [(⟨"NullGuard$Program", "charAt", "(I)C"⟩, 16), (⟨"NullGuard$Program", "closeBlock", "(I)I"⟩, 16), (⟨"NullGuard$Program", "linkAtoms", "(III)V"⟩, 16), (⟨"NullGuard$Program", "readStatement", "(I)I"⟩, 16), (⟨"NullGuard$Program", "readCondition", "(I)I"⟩, 16), (⟨"NullGuard$Program", "readAtom", "(I)I"⟩, 16), (⟨"NullGuard$Program", "partAt", "(I)I"⟩, 16), (⟨"NullGuard$Program", "openBlock", "(II)I"⟩, 16), (⟨"NullGuard$Program", "readSign", "(II)I"⟩, 16), (⟨"NullGuard$Program", "readWrite", "(I)I"⟩, 16), (⟨"NullGuard$Program", "valueAt", "(I)I"⟩, 16), (⟨"NullGuard$Program", "leadWaysOutOfBlocks", "()V"⟩, 16), (⟨"NullGuard$Program", "outOfBlocks", "(I)I"⟩, 16), (⟨"NullGuard", "knowledge", "()LNullGuard$Checker;"⟩, 5), (⟨"NullGuard$Checker", "flowFrom", "(LNullGuard$Program;II)V"⟩, 5), (⟨"NullGuard$Checker", "write", "(LNullGuard$Program;II)V"⟩, 5)]
theorem lw_r1 : ∀ q ∈ lw_privs_1, lw_okq q := List.forall_mem_cons.mpr ⟨lw_p0, List.forall_mem_cons.mpr ⟨lw_p1, List.forall_mem_cons.mpr ⟨lw_p2, List.forall_mem_cons.mpr ⟨lw_p3, List.forall_mem_cons.mpr ⟨lw_p4, List.forall_mem_cons.mpr ⟨lw_p5, List.forall_mem_cons.mpr ⟨lw_p6, List.forall_mem_cons.mpr ⟨lw_p7, List.forall_mem_cons.mpr ⟨lw_p8, List.forall_mem_cons.mpr ⟨lw_p9, List.forall_mem_cons.mpr ⟨lw_p10, List.forall_mem_cons.mpr ⟨lw_p11, List.forall_mem_cons.mpr ⟨lw_p12, List.forall_mem_cons.mpr ⟨lw_p13, List.forall_mem_cons.mpr ⟨lw_p14, List.forall_mem_cons.mpr ⟨lw_p15, fun _ h => absurd h List.not_mem_nil⟩⟩⟩⟩⟩⟩⟩⟩⟩⟩⟩⟩⟩⟩⟩⟩
theorem lw_p16 : lw_okq (⟨"NullGuard$Checker", "takeValue", "(II)Z"⟩, 5) := ⟨⟨by decide +kernel, by decide +kernel⟩, List.mem_of_getElem? (i := 157) (by decide +kernel), List.mem_of_getElem? (i := 293) (by decide +kernel), List.mem_of_getElem? (i := 294) (by decide +kernel)⟩
theorem lw_p17 : lw_okq (⟨"NullGuard$Checker", "unlinkAll", "()V"⟩, 5) := ⟨⟨by decide +kernel, by decide +kernel⟩, List.mem_of_getElem? (i := 157) (by decide +kernel), List.mem_of_getElem? (i := 297) (by decide +kernel), List.mem_of_getElem? (i := 298) (by decide +kernel)⟩
theorem lw_p18 : lw_okq (⟨"NullGuard$Checker", "has", "(I)Z"⟩, 5) := ⟨⟨by decide +kernel, by decide +kernel⟩, List.mem_of_getElem? (i := 157) (by decide +kernel), List.mem_of_getElem? (i := 304) (by decide +kernel), List.mem_of_getElem? (i := 305) (by decide +kernel)⟩
theorem lw_p19 : lw_okq (⟨"NullGuard$Checker", "use", "(I)V"⟩, 5) := ⟨⟨by decide +kernel, by decide +kernel⟩, List.mem_of_getElem? (i := 157) (by decide +kernel), List.mem_of_getElem? (i := 308) (by decide +kernel), List.mem_of_getElem? (i := 309) (by decide +kernel)⟩
theorem lw_p20 : lw_okq (⟨"NullGuard$Checker", "writeLocal", "(IZZZ)V"⟩, 5) := ⟨⟨by decide +kernel, by decide +kernel⟩, List.mem_of_getElem? (i := 157) (by decide +kernel), List.mem_of_getElem? (i := 315) (by decide +kernel), List.mem_of_getElem? (i := 316) (by decide +kernel)⟩
theorem lw_p21 : lw_okq (⟨"NullGuard$Checker", "set", "(IZ)V"⟩, 5) := ⟨⟨by decide +kernel, by decide +kernel⟩, List.mem_of_getElem? (i := 157) (by decide +kernel), List.mem_of_getElem? (i := 319) (by decide +kernel), List.mem_of_getElem? (i := 320) (by decide +kernel)⟩
theorem lw_p22 : lw_okq (⟨"NullGuard$Checker", "writeFieldH", "(IZ)V"⟩, 5) := ⟨⟨by decide +kernel, by decide +kernel⟩, List.mem_of_getElem? (i := 157) (by decide +kernel), List.mem_of_getElem? (i := 323) (by decide +kernel), List.mem_of_getElem? (i := 324) (by decide +kernel)⟩
theorem lw_p23 : lw_okq (⟨"NullGuard$Checker", "flowTo", "(II)V"⟩, 5) := ⟨⟨by decide +kernel, by decide +kernel⟩, List.mem_of_getElem? (i := 157) (by decide +kernel), List.mem_of_getElem? (i := 327) (by decide +kernel), List.mem_of_getElem? (i := 328) (by decide +kernel)⟩
theorem lw_p24 : lw_okq (⟨"NullGuard$Checker", "flowFromAtom", "(LNullGuard$Program;I)V"⟩, 5) := ⟨⟨by decide +kernel, by decide +kernel⟩, List.mem_of_getElem? (i := 157) (by decide +kernel), List.mem_of_getElem? (i := 331) (by decide +kernel), List.mem_of_getElem? (i := 332) (by decide +kernel)⟩
theorem lw_p25 : lw_okq (⟨"NullGuard$Machine", "prepare", "(IJ)V"⟩, 7) := ⟨⟨by decide +kernel, by decide +kernel⟩, List.mem_of_getElem? (i := 180) (by decide +kernel), List.mem_of_getElem? (i := 372) (by decide +kernel), List.mem_of_getElem? (i := 373) (by decide +kernel)⟩
theorem lw_p26 : lw_okq (⟨"NullGuard$Machine", "makeObject", "()I"⟩, 7) := ⟨⟨by decide +kernel, by decide +kernel⟩, List.mem_of_getElem? (i := 180) (by decide +kernel), List.mem_of_getElem? (i := 376) (by decide +kernel), List.mem_of_getElem? (i := 377) (by decide +kernel)⟩
theorem lw_p27 : lw_okq (⟨"NullGuard$Machine", "visit", "(LNullGuard$Program;II)I"⟩, 7) := ⟨⟨by decide +kernel, by decide +kernel⟩, List.mem_of_getElem? (i := 180) (by decide +kernel), List.mem_of_getElem? (i := 380) (by decide +kernel), List.mem_of_getElem? (i := 381) (by decide +kernel)⟩
theorem lw_p28 : lw_okq (⟨"NullGuard$Machine", "write", "(LNullGuard$Program;II)V"⟩, 7) := ⟨⟨by decide +kernel, by decide +kernel⟩, List.mem_of_getElem? (i := 180) (by decide +kernel), List.mem_of_getElem? (i := 384) (by decide +kernel), List.mem_of_getElem? (i := 385) (by decide +kernel)⟩
theorem lw_p29 : lw_okq (⟨"NullGuard$Machine", "findValue", "(II)I"⟩, 7) := ⟨⟨by decide +kernel, by decide +kernel⟩, List.mem_of_getElem? (i := 180) (by decide +kernel), List.mem_of_getElem? (i := 388) (by decide +kernel), List.mem_of_getElem? (i := 389) (by decide +kernel)⟩
theorem lw_p30 : lw_okq (⟨"NullGuard$Machine", "askOracle", "()I"⟩, 7) := ⟨⟨by decide +kernel, by decide +kernel⟩, List.mem_of_getElem? (i := 180) (by decide +kernel), List.mem_of_getElem? (i := 392) (by decide +kernel), List.mem_of_getElem? (i := 393) (by decide +kernel)⟩
theorem lw_p31 : lw_okq (⟨"NullGuard$Machine", "takeBits", "(I)I"⟩, 7) := ⟨⟨by decide +kernel, by decide +kernel⟩, List.mem_of_getElem? (i := 180) (by decide +kernel), List.mem_of_getElem? (i := 396) (by decide +kernel), List.mem_of_getElem? (i := 397) (by decide +kernel)⟩
def lw_privs_2 : List (MethodName × Nat) := [(⟨"NullGuard$Checker", "takeValue", "(II)Z"⟩, 5), (⟨"NullGuard$Checker", "unlinkAll", "()V"⟩, 5), (⟨"NullGuard$Checker", "has", "(I)Z"⟩, 5), (⟨"NullGuard$Checker", "use", "(I)V"⟩, 5), (⟨"NullGuard$Checker", "writeLocal", "(IZZZ)V"⟩, 5), (⟨"NullGuard$Checker", "set", "(IZ)V"⟩, 5), (⟨"NullGuard$Checker", "writeFieldH", "(IZ)V"⟩, 5), (⟨"NullGuard$Checker", "flowTo", "(II)V"⟩, 5), (⟨"NullGuard$Checker", "flowFromAtom", "(LNullGuard$Program;I)V"⟩, 5), (⟨"NullGuard$Machine", "prepare", "(IJ)V"⟩, 7), (⟨"NullGuard$Machine", "makeObject", "()I"⟩, 7), (⟨"NullGuard$Machine", "visit", "(LNullGuard$Program;II)I"⟩, 7), (⟨"NullGuard$Machine", "write", "(LNullGuard$Program;II)V"⟩, 7), (⟨"NullGuard$Machine", "findValue", "(II)I"⟩, 7), (⟨"NullGuard$Machine", "askOracle", "()I"⟩, 7), (⟨"NullGuard$Machine", "takeBits", "(I)I"⟩, 7)]
theorem lw_r2 : ∀ q ∈ lw_privs_2, lw_okq q := List.forall_mem_cons.mpr ⟨lw_p16, List.forall_mem_cons.mpr ⟨lw_p17, List.forall_mem_cons.mpr ⟨lw_p18, List.forall_mem_cons.mpr ⟨lw_p19, List.forall_mem_cons.mpr ⟨lw_p20, List.forall_mem_cons.mpr ⟨lw_p21, List.forall_mem_cons.mpr ⟨lw_p22, List.forall_mem_cons.mpr ⟨lw_p23, List.forall_mem_cons.mpr ⟨lw_p24, List.forall_mem_cons.mpr ⟨lw_p25, List.forall_mem_cons.mpr ⟨lw_p26, List.forall_mem_cons.mpr ⟨lw_p27, List.forall_mem_cons.mpr ⟨lw_p28, List.forall_mem_cons.mpr ⟨lw_p29, List.forall_mem_cons.mpr ⟨lw_p30, List.forall_mem_cons.mpr ⟨lw_p31, fun _ h => absurd h List.not_mem_nil⟩⟩⟩⟩⟩⟩⟩⟩⟩⟩⟩⟩⟩⟩⟩⟩
theorem lw_p32 : lw_okq (⟨"NullGuard$Machine", "existing", "(I)I"⟩, 7) := ⟨⟨by decide +kernel, by decide +kernel⟩, List.mem_of_getElem? (i := 180) (by decide +kernel), List.mem_of_getElem? (i := 400) (by decide +kernel), List.mem_of_getElem? (i := 401) (by decide +kernel)⟩
theorem lw_p33 : lw_okq (⟨"NullGuard$Machine", "read", "(II)I"⟩, 7) := ⟨⟨by decide +kernel, by decide +kernel⟩, List.mem_of_getElem? (i := 180) (by decide +kernel), List.mem_of_getElem? (i := 407) (by decide +kernel), List.mem_of_getElem? (i := 408) (by decide +kernel)⟩
theorem lw_p34 : lw_okq (⟨"NullGuard$Machine", "writeLocal", "(IIZ)V"⟩, 7) := ⟨⟨by decide +kernel, by decide +kernel⟩, List.mem_of_getElem? (i := 180) (by decide +kernel), List.mem_of_getElem? (i := 411) (by decide +kernel), List.mem_of_getElem? (i := 412) (by decide +kernel)⟩
theorem lw_p35 : lw_okq (⟨"NullGuard$Machine", "isTrue", "(II)Z"⟩, 7) := ⟨⟨by decide +kernel, by decide +kernel⟩, List.mem_of_getElem? (i := 180) (by decide +kernel), List.mem_of_getElem? (i := 415) (by decide +kernel), List.mem_of_getElem? (i := 416) (by decide +kernel)⟩
theorem lw_p36 : lw_okq (⟨"NullGuardModel", "program", "()Z"⟩, 27) := ⟨⟨by decide +kernel, by decide +kernel⟩, List.mem_of_getElem? (i := 435) (by decide +kernel), List.mem_of_getElem? (i := 543) (by decide +kernel), List.mem_of_getElem? (i := 544) (by decide +kernel)⟩
theorem lw_p37 : lw_okq (⟨"NullGuardModel", "part", "(I)I"⟩, 27) := ⟨⟨by decide +kernel, by decide +kernel⟩, List.mem_of_getElem? (i := 435) (by decide +kernel), List.mem_of_getElem? (i := 547) (by decide +kernel), List.mem_of_getElem? (i := 548) (by decide +kernel)⟩
theorem lw_p38 : lw_okq (⟨"NullGuardModel", "at", "(I)I"⟩, 27) := ⟨⟨by decide +kernel, by decide +kernel⟩, List.mem_of_getElem? (i := 435) (by decide +kernel), List.mem_of_getElem? (i := 551) (by decide +kernel), List.mem_of_getElem? (i := 552) (by decide +kernel)⟩
theorem lw_p39 : lw_okq (⟨"NullGuardModel", "close", "(I)I"⟩, 27) := ⟨⟨by decide +kernel, by decide +kernel⟩, List.mem_of_getElem? (i := 435) (by decide +kernel), List.mem_of_getElem? (i := 555) (by decide +kernel), List.mem_of_getElem? (i := 556) (by decide +kernel)⟩
theorem lw_p40 : lw_okq (⟨"NullGuardModel", "open", "(I)Z"⟩, 27) := ⟨⟨by decide +kernel, by decide +kernel⟩, List.mem_of_getElem? (i := 435) (by decide +kernel), List.mem_of_getElem? (i := 559) (by decide +kernel), List.mem_of_getElem? (i := 560) (by decide +kernel)⟩
theorem lw_p41 : lw_okq (⟨"NullGuardModel", "condition", "(I)I"⟩, 27) := ⟨⟨by decide +kernel, by decide +kernel⟩, List.mem_of_getElem? (i := 435) (by decide +kernel), List.mem_of_getElem? (i := 563) (by decide +kernel), List.mem_of_getElem? (i := 564) (by decide +kernel)⟩
theorem lw_p42 : lw_okq (⟨"NullGuardModel", "atom", "(I)I"⟩, 27) := ⟨⟨by decide +kernel, by decide +kernel⟩, List.mem_of_getElem? (i := 435) (by decide +kernel), List.mem_of_getElem? (i := 567) (by decide +kernel), List.mem_of_getElem? (i := 568) (by decide +kernel)⟩
theorem lw_p43 : lw_okq (⟨"NullGuardModel", "isLocal", "(I)Z"⟩, 27) := ⟨⟨by decide +kernel, by decide +kernel⟩, List.mem_of_getElem? (i := 435) (by decide +kernel), List.mem_of_getElem? (i := 571) (by decide +kernel), List.mem_of_getElem? (i := 572) (by decide +kernel)⟩
theorem lw_p44 : lw_okq (⟨"NullGuardModel", "isField", "(I)Z"⟩, 27) := ⟨⟨by decide +kernel, by decide +kernel⟩, List.mem_of_getElem? (i := 435) (by decide +kernel), List.mem_of_getElem? (i := 575) (by decide +kernel), List.mem_of_getElem? (i := 576) (by decide +kernel)⟩
theorem lw_p45 : lw_okq (⟨"NullGuardModel", "value", "(I)I"⟩, 27) := ⟨⟨by decide +kernel, by decide +kernel⟩, List.mem_of_getElem? (i := 435) (by decide +kernel), List.mem_of_getElem? (i := 579) (by decide +kernel), List.mem_of_getElem? (i := 580) (by decide +kernel)⟩
theorem lw_p46 : lw_okq (⟨"NullGuardModel", "study", "()V"⟩, 27) := ⟨⟨by decide +kernel, by decide +kernel⟩, List.mem_of_getElem? (i := 435) (by decide +kernel), List.mem_of_getElem? (i := 587) (by decide +kernel), List.mem_of_getElem? (i := 588) (by decide +kernel)⟩
theorem lw_p47 : lw_okq (⟨"NullGuardModel", "join", "(I)V"⟩, 27) := ⟨⟨by decide +kernel, by decide +kernel⟩, List.mem_of_getElem? (i := 435) (by decide +kernel), List.mem_of_getElem? (i := 591) (by decide +kernel), List.mem_of_getElem? (i := 592) (by decide +kernel)⟩
def lw_privs_3 : List (MethodName × Nat) := [(⟨"NullGuard$Machine", "existing", "(I)I"⟩, 7), (⟨"NullGuard$Machine", "read", "(II)I"⟩, 7), (⟨"NullGuard$Machine", "writeLocal", "(IIZ)V"⟩, 7), (⟨"NullGuard$Machine", "isTrue", "(II)Z"⟩, 7), (⟨"NullGuardModel", "program", "()Z"⟩, 27), (⟨"NullGuardModel", "part", "(I)I"⟩, 27), (⟨"NullGuardModel", "at", "(I)I"⟩, 27), (⟨"NullGuardModel", "close", "(I)I"⟩, 27), (⟨"NullGuardModel", "open", "(I)Z"⟩, 27), (⟨"NullGuardModel", "condition", "(I)I"⟩, 27), (⟨"NullGuardModel", "atom", "(I)I"⟩, 27), (⟨"NullGuardModel", "isLocal", "(I)Z"⟩, 27), (⟨"NullGuardModel", "isField", "(I)Z"⟩, 27), (⟨"NullGuardModel", "value", "(I)I"⟩, 27), (⟨"NullGuardModel", "study", "()V"⟩, 27), (⟨"NullGuardModel", "join", "(I)V"⟩, 27)]
theorem lw_r3 : ∀ q ∈ lw_privs_3, lw_okq q := List.forall_mem_cons.mpr ⟨lw_p32, List.forall_mem_cons.mpr ⟨lw_p33, List.forall_mem_cons.mpr ⟨lw_p34, List.forall_mem_cons.mpr ⟨lw_p35, List.forall_mem_cons.mpr ⟨lw_p36, List.forall_mem_cons.mpr ⟨lw_p37, List.forall_mem_cons.mpr ⟨lw_p38, List.forall_mem_cons.mpr ⟨lw_p39, List.forall_mem_cons.mpr ⟨lw_p40, List.forall_mem_cons.mpr ⟨lw_p41, List.forall_mem_cons.mpr ⟨lw_p42, List.forall_mem_cons.mpr ⟨lw_p43, List.forall_mem_cons.mpr ⟨lw_p44, List.forall_mem_cons.mpr ⟨lw_p45, List.forall_mem_cons.mpr ⟨lw_p46, List.forall_mem_cons.mpr ⟨lw_p47, fun _ h => absurd h List.not_mem_nil⟩⟩⟩⟩⟩⟩⟩⟩⟩⟩⟩⟩⟩⟩⟩⟩
theorem lw_p48 : lw_okq (⟨"NullGuardModel", "flow", "(I)V"⟩, 27) := ⟨⟨by decide +kernel, by decide +kernel⟩, List.mem_of_getElem? (i := 435) (by decide +kernel), List.mem_of_getElem? (i := 595) (by decide +kernel), List.mem_of_getElem? (i := 596) (by decide +kernel)⟩
theorem lw_p49 : lw_okq (⟨"NullGuardModel", "branch", "(I)V"⟩, 27) := ⟨⟨by decide +kernel, by decide +kernel⟩, List.mem_of_getElem? (i := 435) (by decide +kernel), List.mem_of_getElem? (i := 599) (by decide +kernel), List.mem_of_getElem? (i := 600) (by decide +kernel)⟩
theorem lw_p50 : lw_okq (⟨"NullGuardModel", "use", "(I)V"⟩, 27) := ⟨⟨by decide +kernel, by decide +kernel⟩, List.mem_of_getElem? (i := 435) (by decide +kernel), List.mem_of_getElem? (i := 603) (by decide +kernel), List.mem_of_getElem? (i := 604) (by decide +kernel)⟩
theorem lw_p51 : lw_okq (⟨"NullGuardModel", "turn", "(IZ)I"⟩, 27) := ⟨⟨by decide +kernel, by decide +kernel⟩, List.mem_of_getElem? (i := 435) (by decide +kernel), List.mem_of_getElem? (i := 610) (by decide +kernel), List.mem_of_getElem? (i := 611) (by decide +kernel)⟩
theorem lw_p52 : lw_okq (⟨"NullGuardModel", "goes", "(I)I"⟩, 27) := ⟨⟨by decide +kernel, by decide +kernel⟩, List.mem_of_getElem? (i := 435) (by decide +kernel), List.mem_of_getElem? (i := 614) (by decide +kernel), List.mem_of_getElem? (i := 615) (by decide +kernel)⟩
theorem lw_p53 : lw_okq (⟨"NullGuardModel", "assign", "(I)V"⟩, 27) := ⟨⟨by decide +kernel, by decide +kernel⟩, List.mem_of_getElem? (i := 435) (by decide +kernel), List.mem_of_getElem? (i := 618) (by decide +kernel), List.mem_of_getElem? (i := 619) (by decide +kernel)⟩
theorem lw_p54 : lw_okq (⟨"NullGuardModel", "sureValue", "(I)Z"⟩, 27) := ⟨⟨by decide +kernel, by decide +kernel⟩, List.mem_of_getElem? (i := 435) (by decide +kernel), List.mem_of_getElem? (i := 622) (by decide +kernel), List.mem_of_getElem? (i := 623) (by decide +kernel)⟩
theorem lw_p55 : lw_okq (⟨"NullGuardModel", "store", "(I)V"⟩, 27) := ⟨⟨by decide +kernel, by decide +kernel⟩, List.mem_of_getElem? (i := 435) (by decide +kernel), List.mem_of_getElem? (i := 626) (by decide +kernel), List.mem_of_getElem? (i := 627) (by decide +kernel)⟩
theorem lw_p56 : lw_okq (⟨"NullGuardModel", "counts", "(I)Z"⟩, 27) := ⟨⟨by decide +kernel, by decide +kernel⟩, List.mem_of_getElem? (i := 435) (by decide +kernel), List.mem_of_getElem? (i := 634) (by decide +kernel), List.mem_of_getElem? (i := 635) (by decide +kernel)⟩
theorem lw_p57 : lw_okq (⟨"NullGuardModel", "create", "()I"⟩, 27) := ⟨⟨by decide +kernel, by decide +kernel⟩, List.mem_of_getElem? (i := 435) (by decide +kernel), List.mem_of_getElem? (i := 650) (by decide +kernel), List.mem_of_getElem? (i := 651) (by decide +kernel)⟩
theorem lw_p58 : lw_okq (⟨"NullGuardModel", "visit", "(I)I"⟩, 27) := ⟨⟨by decide +kernel, by decide +kernel⟩, List.mem_of_getElem? (i := 435) (by decide +kernel), List.mem_of_getElem? (i := 654) (by decide +kernel), List.mem_of_getElem? (i := 655) (by decide +kernel)⟩
theorem lw_p59 : lw_okq (⟨"NullGuardModel", "choose", "(I)I"⟩, 27) := ⟨⟨by decide +kernel, by decide +kernel⟩, List.mem_of_getElem? (i := 435) (by decide +kernel), List.mem_of_getElem? (i := 658) (by decide +kernel), List.mem_of_getElem? (i := 659) (by decide +kernel)⟩
theorem lw_p60 : lw_okq (⟨"NullGuardModel", "take", "(I)I"⟩, 27) := ⟨⟨by decide +kernel, by decide +kernel⟩, List.mem_of_getElem? (i := 435) (by decide +kernel), List.mem_of_getElem? (i := 662) (by decide +kernel), List.mem_of_getElem? (i := 663) (by decide +kernel)⟩
theorem lw_p61 : lw_okq (⟨"NullGuardModel", "found", "(I)I"⟩, 27) := ⟨⟨by decide +kernel, by decide +kernel⟩, List.mem_of_getElem? (i := 435) (by decide +kernel), List.mem_of_getElem? (i := 666) (by decide +kernel), List.mem_of_getElem? (i := 667) (by decide +kernel)⟩
theorem lw_p62 : lw_okq (⟨"NullGuardModel", "put", "(I)I"⟩, 27) := ⟨⟨by decide +kernel, by decide +kernel⟩, List.mem_of_getElem? (i := 435) (by decide +kernel), List.mem_of_getElem? (i := 670) (by decide +kernel), List.mem_of_getElem? (i := 671) (by decide +kernel)⟩
theorem lw_p63 : lw_okq (⟨"NullGuardModel", "keep", "(I)I"⟩, 27) := ⟨⟨by decide +kernel, by decide +kernel⟩, List.mem_of_getElem? (i := 435) (by decide +kernel), List.mem_of_getElem? (i := 674) (by decide +kernel), List.mem_of_getElem? (i := 675) (by decide +kernel)⟩
def lw_privs_4 : List (MethodName × Nat) := [(⟨"NullGuardModel", "flow", "(I)V"⟩, 27), (⟨"NullGuardModel", "branch", "(I)V"⟩, 27), (⟨"NullGuardModel", "use", "(I)V"⟩, 27), (⟨"NullGuardModel", "turn", "(IZ)I"⟩, 27), (⟨"NullGuardModel", "goes", "(I)I"⟩, 27), (⟨"NullGuardModel", "assign", "(I)V"⟩, 27), (⟨"NullGuardModel", "sureValue", "(I)Z"⟩, 27), (⟨"NullGuardModel", "store", "(I)V"⟩, 27), (⟨"NullGuardModel", "counts", "(I)Z"⟩, 27), (⟨"NullGuardModel", "create", "()I"⟩, 27), (⟨"NullGuardModel", "visit", "(I)I"⟩, 27), (⟨"NullGuardModel", "choose", "(I)I"⟩, 27), (⟨"NullGuardModel", "take", "(I)I"⟩, 27), (⟨"NullGuardModel", "found", "(I)I"⟩, 27), (⟨"NullGuardModel", "put", "(I)I"⟩, 27), (⟨"NullGuardModel", "keep", "(I)I"⟩, 27)]
theorem lw_r4 : ∀ q ∈ lw_privs_4, lw_okq q := List.forall_mem_cons.mpr ⟨lw_p48, List.forall_mem_cons.mpr ⟨lw_p49, List.forall_mem_cons.mpr ⟨lw_p50, List.forall_mem_cons.mpr ⟨lw_p51, List.forall_mem_cons.mpr ⟨lw_p52, List.forall_mem_cons.mpr ⟨lw_p53, List.forall_mem_cons.mpr ⟨lw_p54, List.forall_mem_cons.mpr ⟨lw_p55, List.forall_mem_cons.mpr ⟨lw_p56, List.forall_mem_cons.mpr ⟨lw_p57, List.forall_mem_cons.mpr ⟨lw_p58, List.forall_mem_cons.mpr ⟨lw_p59, List.forall_mem_cons.mpr ⟨lw_p60, List.forall_mem_cons.mpr ⟨lw_p61, List.forall_mem_cons.mpr ⟨lw_p62, List.forall_mem_cons.mpr ⟨lw_p63, fun _ h => absurd h List.not_mem_nil⟩⟩⟩⟩⟩⟩⟩⟩⟩⟩⟩⟩⟩⟩⟩⟩
def lw_privs : List (MethodName × Nat) := lw_privs_1 ++ (lw_privs_2 ++ (lw_privs_3 ++ (lw_privs_4)))
def lw_tbl : List Cond := k2_sels lw_privs ++ tables_1
theorem lw_privs_ok : ∀ q ∈ lw_privs, lw_okq q := by
  show ∀ q ∈ lw_privs_1 ++ (lw_privs_2 ++ (lw_privs_3 ++ (lw_privs_4))), lw_okq q
  exact List.forall_mem_append.mpr ⟨lw_r1, List.forall_mem_append.mpr ⟨lw_r2, List.forall_mem_append.mpr ⟨lw_r3, lw_r4⟩⟩⟩
end
section
/-! names, by program (wip/whole/gen.py) out of the listing: classes, fields, methods -/
def R_P : String := "NullGuard$Program"
def F_P : u_T := fun k => match k with
  | 0 => ("NullGuard$Program", "text", "[C", true)
  | 1 => ("NullGuard$Program", "size", "I", false)
  | 2 => ("NullGuard$Program", "valid", "Z", false)
  | 3 => ("NullGuard$Program", "statementCount", "I", false)
  | 4 => ("NullGuard$Program", "kind", "[I", true)
  | 5 => ("NullGuard$Program", "local", "[I", true)
  | 6 => ("NullGuard$Program", "part", "[I", true)
  | 7 => ("NullGuard$Program", "value", "[I", true)
  | 8 => ("NullGuard$Program", "source", "[I", true)
  | 9 => ("NullGuard$Program", "way", "[I", true)
  | 10 => ("NullGuard$Program", "otherWay", "[I", true)
  | 11 => ("NullGuard$Program", "exit", "[I", true)
  | 12 => ("NullGuard$Program", "heads", "[I", true)
  | 13 => ("NullGuard$Program", "opens", "[I", true)
  | 14 => ("NullGuard$Program", "firstCloses", "[I", true)
  | _ => ("NullGuard$Program", "depth", "I", false)
def t_P : Nat → FieldType := fun k => match k with
  | 0 => .array .char
  | 1 => .int
  | 2 => .boolean
  | 3 => .int
  | 4 => .array .int
  | 5 => .array .int
  | 6 => .array .int
  | 7 => .array .int
  | 8 => .array .int
  | 9 => .array .int
  | 10 => .array .int
  | 11 => .array .int
  | 12 => .array .int
  | 13 => .array .int
  | 14 => .array .int
  | _ => .int
theorem n_P : ∀ a, a < 16 → ∀ b, b < 16 → a ≠ b → (F_P a).2.1 ≠ (F_P b).2.1 := by decide +kernel
theorem t_P_ok : ∀ k, k < 16 → parseFieldDescriptor (F_P k).2.2.1 = some (t_P k) := by decide +kernel
def R_K : String := "NullGuard$Checker"
def F_K : u_T := fun k => match k with
  | 0 => ("NullGuard$Checker", "states", "[I", true)
  | 1 => ("NullGuard$Checker", "alarmsAt", "[I", true)
  | 2 => ("NullGuard$Checker", "changed", "Z", false)
  | 3 => ("NullGuard$Checker", "known", "I", false)
  | _ => ("NullGuard$Checker", "found", "I", false)
def t_K : Nat → FieldType := fun k => match k with
  | 0 => .array .int
  | 1 => .array .int
  | 2 => .boolean
  | 3 => .int
  | _ => .int
theorem n_K : ∀ a, a < 5 → ∀ b, b < 5 → a ≠ b → (F_K a).2.1 ≠ (F_K b).2.1 := by decide +kernel
theorem t_K_ok : ∀ k, k < 5 → parseFieldDescriptor (F_K k).2.2.1 = some (t_K k) := by decide +kernel
def R_H : String := "NullGuard$Machine"
def F_H : u_T := fun k => match k with
  | 0 => ("NullGuard$Machine", "holds", "[I", true)
  | 1 => ("NullGuard$Machine", "fieldG", "[I", true)
  | 2 => ("NullGuard$Machine", "fieldH", "[I", true)
  | 3 => ("NullGuard$Machine", "objectCount", "I", false)
  | 4 => ("NullGuard$Machine", "stepCount", "I", false)
  | 5 => ("NullGuard$Machine", "oracle", "J", false)
  | _ => ("NullGuard$Machine", "ending", "I", false)
def t_H : Nat → FieldType := fun k => match k with
  | 0 => .array .int
  | 1 => .array .int
  | 2 => .array .int
  | 3 => .int
  | 4 => .int
  | 5 => .long
  | _ => .int
theorem n_H : ∀ a, a < 7 → ∀ b, b < 7 → a ≠ b → (F_H a).2.1 ≠ (F_H b).2.1 := by decide +kernel
theorem t_H_ok : ∀ k, k < 7 → parseFieldDescriptor (F_H k).2.2.1 = some (t_H k) := by decide +kernel
def R_N : String := "NullGuard"
def F_N : u_T := fun k => match k with
  | 0 => ("NullGuard", "program", "LNullGuard$Program;", true)
  | 1 => ("NullGuard", "checker", "LNullGuard$Checker;", true)
  | 2 => ("NullGuard", "machine", "LNullGuard$Machine;", true)
  | 3 => ("NullGuard", "solidLocals", "I", false)
  | _ => ("NullGuard", "checked", "Z", false)
def t_N : Nat → FieldType := fun k => match k with
  | 0 => .object "NullGuard$Program"
  | 1 => .object "NullGuard$Checker"
  | 2 => .object "NullGuard$Machine"
  | 3 => .int
  | _ => .boolean
theorem n_N : ∀ a, a < 5 → ∀ b, b < 5 → a ≠ b → (F_N a).2.1 ≠ (F_N b).2.1 := by decide +kernel
theorem t_N_ok : ∀ k, k < 5 → parseFieldDescriptor (F_N k).2.2.1 = some (t_N k) := by decide +kernel
def R_M : String := "NullGuardModel"
def F_M : u_T := fun k => match k with
  | 0 => ("NullGuardModel", "text", "[I", true)
  | 1 => ("NullGuardModel", "length", "I", false)
  | 2 => ("NullGuardModel", "solid", "[Z", true)
  | 3 => ("NullGuardModel", "role", "[I", true)
  | 4 => ("NullGuardModel", "owner", "[I", true)
  | 5 => ("NullGuardModel", "body", "[I", true)
  | 6 => ("NullGuardModel", "other", "[I", true)
  | 7 => ("NullGuardModel", "behind", "[I", true)
  | 8 => ("NullGuardModel", "count", "I", false)
  | 9 => ("NullGuardModel", "depth", "I", false)
  | 10 => ("NullGuardModel", "blocks", "[I", true)
  | 11 => ("NullGuardModel", "reached", "[Z", true)
  | 12 => ("NullGuardModel", "sures", "[I", true)
  | 13 => ("NullGuardModel", "links", "[I", true)
  | 14 => ("NullGuardModel", "alarmed", "[I", true)
  | 15 => ("NullGuardModel", "s", "I", false)
  | 16 => ("NullGuardModel", "l", "I", false)
  | 17 => ("NullGuardModel", "alarm", "I", false)
  | 18 => ("NullGuardModel", "changed", "Z", false)
  | 19 => ("NullGuardModel", "ran", "Z", false)
  | 20 => ("NullGuardModel", "local", "[I", true)
  | 21 => ("NullGuardModel", "made", "I", false)
  | 22 => ("NullGuardModel", "g", "[I", true)
  | 23 => ("NullGuardModel", "h", "[I", true)
  | 24 => ("NullGuardModel", "visits", "I", false)
  | 25 => ("NullGuardModel", "bits", "J", false)
  | _ => ("NullGuardModel", "result", "I", false)
def t_M : Nat → FieldType := fun k => match k with
  | 0 => .array .int
  | 1 => .int
  | 2 => .array .boolean
  | 3 => .array .int
  | 4 => .array .int
  | 5 => .array .int
  | 6 => .array .int
  | 7 => .array .int
  | 8 => .int
  | 9 => .int
  | 10 => .array .int
  | 11 => .array .boolean
  | 12 => .array .int
  | 13 => .array .int
  | 14 => .array .int
  | 15 => .int
  | 16 => .int
  | 17 => .int
  | 18 => .boolean
  | 19 => .boolean
  | 20 => .array .int
  | 21 => .int
  | 22 => .array .int
  | 23 => .array .int
  | 24 => .int
  | 25 => .long
  | _ => .int
theorem n_M : ∀ a, a < 27 → ∀ b, b < 27 → a ≠ b → (F_M a).2.1 ≠ (F_M b).2.1 := by decide +kernel
theorem t_M_ok : ∀ k, k < 27 → parseFieldDescriptor (F_M k).2.2.1 = some (t_M k) := by decide +kernel
abbrev vwCl : List vw_C := [(R_P, F_P, 16), (R_K, F_K, 5), (R_H, F_H, 7), (R_N, F_N, 5), (R_M, F_M, 27)]
end
section
/-! The engine: a picture of the machine whose cells are numbered, a step of it as a formula, and its soundness. -/
def wsG : List Cond := lw_tbl.filter goodWord
theorem wsG_in {w : Cond} (h : w ∈ lw_tbl) (g : goodWord w = true) : w ∈ wsG := List.mem_filter.mpr ⟨h, g⟩
theorem wsG_good {w : Cond} (h : w ∈ wsG) : (w.onTables && w.keeps) = true ∨ ∃ ty, w = .arrayClass ty := good_of_word (List.mem_filter.mp h).2
abbrev XI : Type := MethodName × ByteArray × Nat × Option FieldType
def xW (q : XI) : List Cond := .code q.1 q.2.1 q.2.2.1 q.2.2.2 :: wsG
def xR (d : Nat) : Room := { frames := d, cells := 0, slots := 0, locals := 40 * d }
-- values, cells, worlds: .ref i is the cell of number i
def xv (ad : Nat → Nat) : Value → Value
  | .ref i => .ref (ad i)
  | v => v
theorem xv_cat (ad : Nat → Nat) (v : Value) : (xv ad v).category = v.category := by cases v <;> rfl
def xa (ad : Nat → Nat) (a : vp_A) : vp_A := (a.1, match a.2 with
  | .inr (.inr (.inr (.inr g))) => .inr (.inr (.inr (.inr (fun j => (g j).map ad))))
  | f => f)
def xe (tc : Nat → ClassId) (ad : Nat → Nat) : va_E → va_E
  | .inl (t, a) => .inl (tc t, xa ad a)
  | .inr (c, fs) => .inr (c, fs.map (xv ad))
def xz (tc : Nat → ClassId) (ad : Nat → Nat) : Nat → List va_E → va_W
  | _, [] => []
  | i, e :: r => (ad i, xe tc ad e) :: xz tc ad (i + 1) r
theorem xz_get (tc : Nat → ClassId) (ad : Nat → Nat) : ∀ (w : List va_E) (i k : Nat), (xz tc ad i w)[k]? = (w[k]?).map (fun e => (ad (i + k), xe tc ad e))
  | [], i, k => by simp [xz]
  | e :: r, i, 0 => by simp [xz]
  | e :: r, i, k + 1 => by
    show (xz tc ad (i + 1) r)[k]? = _
    rw [xz_get tc ad r (i + 1) k, List.getElem?_cons_succ, show i + 1 + k = i + (k + 1) by omega]
theorem xz_set (tc : Nat → ClassId) (ad : Nat → Nat) : ∀ (w : List va_E) (i k : Nat) (e : va_E), (xz tc ad i w).set k (ad (i + k), xe tc ad e) = xz tc ad i (w.set k e)
  | [], i, k, e => by simp [xz]
  | a :: r, i, 0, e => by simp [xz]
  | a :: r, i, k + 1, e => by
    show (ad i, xe tc ad a) :: (xz tc ad (i + 1) r).set k (ad (i + (k + 1)), xe tc ad e) = (ad i, xe tc ad a) :: xz tc ad (i + 1) (r.set k e)
    rw [← xz_set tc ad r (i + 1) k e, show i + 1 + k = i + (k + 1) by omega]
def xt (tc : Nat → ClassId) : List (ClassId × FieldType) := [(tc 0, .int), (tc 1, .char), (tc 2, .boolean)]
def xlm (ad : Nat → Nat) (ls : List (Nat × Value)) : List (Nat × Value) := ls.map (fun q => (q.1, xv ad q.2))
-- small lists that reduce well
def xn {α : Type} : List α → Nat → Option α
  | [], _ => none
  | a :: _, 0 => some a
  | _ :: r, i + 1 => xn r i
theorem xn_eq {α : Type} : ∀ (l : List α) (i : Nat), xn l i = l[i]?
  | [], i => by simp [xn]
  | a :: r, 0 => by simp [xn]
  | a :: r, i + 1 => by rw [xn, xn_eq r i, List.getElem?_cons_succ]
def xu {α : Type} : List α → Nat → α → List α
  | [], _, _ => []
  | _ :: r, 0, b => b :: r
  | a :: r, i + 1, b => a :: xu r i b
theorem xu_eq {α : Type} : ∀ (l : List α) (i : Nat) (b : α), xu l i b = l.set i b
  | [], i, b => by simp [xu]
  | a :: r, 0, b => by simp [xu]
  | a :: r, i + 1, b => by rw [xu, xu_eq r i b, List.set_cons_succ]
-- locals
def xg : List (Nat × Value) → Nat → Option Value
  | [], _ => none
  | (j, v) :: r, i => bif Nat.beq j i then some v else xg r i
theorem xg_mem : ∀ (ls : List (Nat × Value)) (i : Nat) (v : Value), xg ls i = some v → (i, v) ∈ ls
  | [], i, v, h => by cases h
  | (j, u) :: r, i, v, h => by
    rw [xg] at h
    cases hb : Nat.beq j i with
    | true =>
      rw [hb] at h
      have h1 : u = v := Option.some.inj h
      have h2 : j = i := Nat.eq_of_beq_eq_true hb
      subst h1; subst h2
      exact List.mem_cons_self
    | false =>
      rw [hb] at h
      exact List.mem_cons_of_mem _ (xg_mem r i v h)
def xc2 : Value → Bool
  | .long _ => true
  | .double _ => true
  | _ => false
theorem xc2_cat (v : Value) : xc2 v = (v.category == 2) := by cases v <;> rfl
def xr (i : Nat) (two : Bool) : List (Nat × Value) → List (Nat × Value)
  | [] => []
  | (j, u) :: r => bif Nat.beq j i || (two && Nat.beq j (i + 1)) || (xc2 u && Nat.beq (j + 1) i) then xr i two r else (j, u) :: xr i two r
theorem xr_mem (i : Nat) (two : Bool) : ∀ (ls : List (Nat × Value)) (q : Nat × Value), q ∈ xr i two ls → q ∈ ls ∧ ¬ q.1 = i ∧ (two = true → ¬ q.1 = i + 1) ∧ ¬ (q.1 + 1 = i ∧ q.2.category = 2)
  | [], q, h => by cases h
  | (j, u) :: r, q, h => by
    rw [xr] at h
    cases hb : (Nat.beq j i || (two && Nat.beq j (i + 1)) || (xc2 u && Nat.beq (j + 1) i)) with
    | true =>
      rw [hb] at h
      obtain ⟨h1, h2⟩ := xr_mem i two r q h
      exact ⟨List.mem_cons_of_mem _ h1, h2⟩
    | false =>
      rw [hb] at h
      rcases List.mem_cons.mp h with h | h
      · subst h
        simp only [Bool.or_eq_false_iff, Bool.and_eq_false_iff] at hb
        obtain ⟨⟨h1, h2⟩, h3⟩ := hb
        refine ⟨List.mem_cons_self, fun e => ?_, fun t e => ?_, fun e => ?_⟩
        · rw [show j = i from e, Nat.beq_refl] at h1; cases h1
        · rcases h2 with h2 | h2
          · rw [t] at h2; cases h2
          · rw [show j = i + 1 from e, Nat.beq_refl] at h2; cases h2
        · rcases h3 with h3 | h3
          · rw [xc2_cat, show u.category = 2 from e.2] at h3; cases h3
          · rw [show j + 1 = i from e.1, Nat.beq_refl] at h3; cases h3
      · obtain ⟨h1, h2⟩ := xr_mem i two r q h
        exact ⟨List.mem_cons_of_mem _ h1, h2⟩
def xk (ls : List (Nat × Value)) : List Nat → List (Nat × Value)
  | [] => []
  | i :: is => match xg ls i with
    | some v => (i, v) :: xk ls is
    | none => xk ls is
theorem xk_mem (ls : List (Nat × Value)) : ∀ (is : List Nat) (q : Nat × Value), q ∈ xk ls is → q ∈ ls
  | [], q, h => by cases h
  | i :: is, q, h => by
    rw [xk] at h
    cases hg : xg ls i with
    | some v =>
      rw [hg] at h
      rcases List.mem_cons.mp h with h | h
      · subst h; exact xg_mem ls i v hg
      · exact xk_mem ls is q h
    | none =>
      rw [hg] at h
      exact xk_mem ls is q h
-- shapes of the stack
def x1i (st : List Value) (f : Int32 → List Value → Prop) : Prop := match st with
  | .int x :: r => f x r
  | _ => False
theorem x1i_of {st : List Value} {f : Int32 → List Value → Prop} (h : x1i st f) : ∃ x r, st = .int x :: r ∧ f x r := by
  unfold x1i at h; split at h
  · exact ⟨_, _, rfl, h⟩
  · exact h.elim
def x1l (st : List Value) (f : Int64 → List Value → Prop) : Prop := match st with
  | .long x :: r => f x r
  | _ => False
theorem x1l_of {st : List Value} {f : Int64 → List Value → Prop} (h : x1l st f) : ∃ x r, st = .long x :: r ∧ f x r := by
  unfold x1l at h; split at h
  · exact ⟨_, _, rfl, h⟩
  · exact h.elim
def x1r (st : List Value) (f : Nat → List Value → Prop) : Prop := match st with
  | .ref x :: r => f x r
  | _ => False
theorem x1r_of {st : List Value} {f : Nat → List Value → Prop} (h : x1r st f) : ∃ x r, st = .ref x :: r ∧ f x r := by
  unfold x1r at h; split at h
  · exact ⟨_, _, rfl, h⟩
  · exact h.elim
def x1v (st : List Value) (f : Value → List Value → Prop) : Prop := match st with
  | v :: r => f v r
  | _ => False
theorem x1v_of {st : List Value} {f : Value → List Value → Prop} (h : x1v st f) : ∃ x r, st = x :: r ∧ f x r := by
  unfold x1v at h; split at h
  · exact ⟨_, _, rfl, h⟩
  · exact h.elim
def xli (ls : List (Nat × Value)) (i : Nat) (f : Int32 → Prop) : Prop := match xg ls i with
  | some (.int x) => f x
  | _ => False
theorem xli_of {ls : List (Nat × Value)} {i : Nat} {f : Int32 → Prop} (h : xli ls i f) : ∃ x, xg ls i = some (.int x) ∧ f x := by
  unfold xli at h; split at h
  · exact ⟨_, by assumption, h⟩
  · exact h.elim
def xll (ls : List (Nat × Value)) (i : Nat) (f : Int64 → Prop) : Prop := match xg ls i with
  | some (.long x) => f x
  | _ => False
theorem xll_of {ls : List (Nat × Value)} {i : Nat} {f : Int64 → Prop} (h : xll ls i f) : ∃ x, xg ls i = some (.long x) ∧ f x := by
  unfold xll at h; split at h
  · exact ⟨_, by assumption, h⟩
  · exact h.elim
def xlr (ls : List (Nat × Value)) (i : Nat) (f : Nat → Prop) : Prop := match xg ls i with
  | some (.ref x) => f x
  | _ => False
theorem xlr_of {ls : List (Nat × Value)} {i : Nat} {f : Nat → Prop} (h : xlr ls i f) : ∃ x, xg ls i = some (.ref x) ∧ f x := by
  unfold xlr at h; split at h
  · exact ⟨_, by assumption, h⟩
  · exact h.elim
/-- an object of the class of number ci: its fields -/
def xob (w : List va_E) (i ci : Nat) (f : List Value → Prop) : Prop := match xn w i with
  | some (.inr (c, fs)) => bif Nat.beq c ci then f fs else False
  | _ => False
theorem xob_of {w : List va_E} {i ci : Nat} {f : List Value → Prop} (h : xob w i ci f) : ∃ fs, w[i]? = some (.inr (ci, fs)) ∧ f fs := by
  unfold xob at h; split at h
  · rename_i c fs hw
    cases hb : Nat.beq c ci with
    | true =>
      rw [hb] at h
      have e := Nat.eq_of_beq_eq_true hb
      subst e
      exact ⟨fs, by rw [← xn_eq]; exact hw, h⟩
    | false => rw [hb] at h; exact h.elim
  · exact h.elim
/-- an array of ints (chars, booleans) of the kind t -/
def xar (w : List va_E) (i t : Nat) (f : Nat → (Nat → Int32) → Prop) : Prop := match xn w i with
  | some (.inl (c, n, .inl a)) => bif Nat.beq c t then f n a else False
  | _ => False
theorem xar_of {w : List va_E} {i t : Nat} {f : Nat → (Nat → Int32) → Prop} (h : xar w i t f) : ∃ n a, w[i]? = some (.inl (t, n, .inl a)) ∧ f n a := by
  unfold xar at h; split at h
  · rename_i c n a hw
    cases hb : Nat.beq c t with
    | true =>
      rw [hb] at h
      have e := Nat.eq_of_beq_eq_true hb
      subst e
      exact ⟨n, a, by rw [← xn_eq]; exact hw, h⟩
    | false => rw [hb] at h; exact h.elim
  · exact h.elim
def xop (l : List Value) (k : Nat) (f : Value → Prop) : Prop := match xn l k with
  | some v => f v
  | none => False
theorem xop_of {l : List Value} {k : Nat} {f : Value → Prop} (h : xop l k f) : ∃ v, l[k]? = some v ∧ f v := by
  unfold xop at h; split at h
  · rename_i v hv
    exact ⟨v, by rw [← xn_eq]; exact hv, h⟩
  · exact h.elim
-- calls: the arguments off the stack
def xtk : Nat → List Value → List Value → (List Value → List Value → Prop) → Prop
  | 0, acc, st, f => f acc st
  | n + 1, acc, st, f => match st with
    | v :: r => xtk n (v :: acc) r f
    | [] => False
theorem xtk_of : ∀ (n : Nat) (acc st : List Value) (f : List Value → List Value → Prop), xtk n acc st f → ∃ as r, st = as.reverse ++ r ∧ as.length = n ∧ f (as ++ acc) r
  | 0, acc, st, f, h => ⟨[], st, rfl, rfl, h⟩
  | n + 1, acc, [], f, h => h.elim
  | n + 1, acc, v :: r, f, h => by
    obtain ⟨as, r', e1, e2, h'⟩ := xtk_of n (v :: acc) r f h
    refine ⟨as ++ [v], r', by rw [e1]; simp, by simp [e2], by simpa using h'⟩
def xct : List Value → Nat
  | [] => 0
  | v :: r => (bif xc2 v then 2 else 1) + xct r
theorem xct_eq (ad : Nat → Nat) : ∀ st : List Value, ((st.map (xv ad)).map fun v => v.category).sum = xct st
  | [] => rfl
  | v :: r => by
    have h := xct_eq ad r
    simp only [List.map_cons, List.sum_cons, xct, h, xv_cat]
    cases v <;> rfl
def xfit (ty : FieldType) (v : Value) : Prop := match ty with
  | .int => (match v with | .int _ => True | _ => False)
  | .long => (match v with | .long _ => True | _ => False)
  | .boolean => (match v with | .int x => x = 0 ∨ x = 1 | _ => False)
  | .char => (match v with | .int x => narrow .char (.int x) = .int x ∧ fits .char (.int x) = true | _ => False)
  | .object _ => (match v with | .ref _ => True | _ => False)
  | .array _ => (match v with | .ref _ => True | _ => False)
  | _ => False
theorem xfit_of {ty : FieldType} {v : Value} (ad : Nat → Nat) (h : xfit ty v) : narrow ty (xv ad v) = xv ad v ∧ fits ty (xv ad v) = true := by
  unfold xfit at h
  split at h
  · split at h
    · exact ⟨rfl, rfl⟩
    · exact h.elim
  · split at h
    · exact ⟨rfl, rfl⟩
    · exact h.elim
  · split at h
    · rcases h with rfl | rfl <;> exact ⟨rfl, rfl⟩
    · exact h.elim
  · split at h
    · exact h
    · exact h.elim
  · split at h
    · exact ⟨rfl, rfl⟩
    · exact h.elim
  · split at h
    · exact ⟨rfl, rfl⟩
    · exact h.elim
  · exact h.elim
def xret (ret : Option FieldType) (v : Value) : Prop := match ret with
  | some ty => xfit ty v
  | none => False
theorem xret_of {ret : Option FieldType} {v : Value} (h : xret ret v) : ∃ ty, ret = some ty ∧ xfit ty v := by
  unfold xret at h; split at h
  · exact ⟨_, rfl, h⟩
  · exact h.elim
-- an instruction of the table: what it is, where the next one stands, where it jumps to, its constant, its cases
abbrev XE : Type := Instr × Nat × Nat × Int32 × List (Int32 × Nat)
abbrev XF : Type := Nat × Nat × FieldType × Bool
abbrev XK : Type := XI × Bool × Nat × Nat
def xfind : List (Nat × XE) → Nat → XE
  | [], _ => (.nop, 0, 0, 0, [])
  | (j, e) :: r, i => bif Nat.beq j i then e else xfind r i
theorem xfind_in : ∀ (T : List (Nat × XE)) (i : Nat), xfind T i = (.nop, 0, 0, 0, []) ∨ (i, xfind T i) ∈ T
  | [], i => Or.inl rfl
  | (j, e) :: r, i => by
    rw [xfind]
    cases hb : Nat.beq j i with
    | true =>
      have h2 : j = i := Nat.eq_of_beq_eq_true hb
      subst h2
      exact Or.inr List.mem_cons_self
    | false =>
      rcases xfind_in r i with h | h
      · exact Or.inl h
      · exact Or.inr (List.mem_cons_of_mem _ h)
def xlook {α : Type} : List (Nat × α) → Nat → Option α
  | [], _ => none
  | (j, e) :: r, i => bif Nat.beq j i then some e else xlook r i
theorem xlook_in {α : Type} : ∀ (T : List (Nat × α)) (i : Nat) (a : α), xlook T i = some a → (i, a) ∈ T
  | [], i, a, h => by cases h
  | (j, e) :: r, i, a, h => by
    rw [xlook] at h
    cases hb : Nat.beq j i with
    | true =>
      rw [hb] at h
      have h2 : j = i := Nat.eq_of_beq_eq_true hb
      have h1 : e = a := Option.some.inj h
      subst h2; subst h1
      exact List.mem_cons_self
    | false =>
      rw [hb] at h
      exact List.mem_cons_of_mem _ (xlook_in r i a h)
def xlk {α : Type} (T : List (Nat × α)) (i : Nat) (f : α → Prop) : Prop := match xlook T i with
  | some a => f a
  | none => False
theorem xlk_of {α : Type} {T : List (Nat × α)} {i : Nat} {f : α → Prop} (h : xlk T i f) : ∃ a, (i, a) ∈ T ∧ f a := by
  unfold xlk at h; split at h
  · rename_i a ha
    exact ⟨a, xlook_in T i a ha, h⟩
  · exact h.elim
def xsw (x : Int32) (k : Nat → Prop) : List (Int32 × Nat) → Nat → Prop
  | [], d => k d
  | (a, t) :: r, d => (x = a → k t) ∧ (¬ x = a → xsw x k r d)
def xswT (pc : Nat) : Int → List Int → List (Int32 × Nat) → Bool
  | _, [], [] => true
  | a, o :: os, (v, t) :: r => decide (v.toInt = a) && decide ((pc : Int) + o = (t : Int)) && xswT pc (a + 1) os r
  | _, _, _ => false
theorem xswT_of {x : Int32} {k : Nat → Prop} {d pc : Nat} : ∀ (os : List Int) (a : Int) (sw : List (Int32 × Nat)), xswT pc a os sw = true → xsw x k sw d →
    (∀ (j : Nat) (o : Int), os[j]? = some o → x.toInt = a + j → ∃ t : Nat, (pc : Int) + o = (t : Int) ∧ k t) ∧ ((∀ j : Nat, j < os.length → ¬ x.toInt = a + j) → k d)
  | [], a, [], _, h => ⟨fun j o hj => by simp at hj, fun _ => h⟩
  | [], a, _ :: _, hc, _ => by simp [xswT] at hc
  | o :: os, a, [], hc, _ => by simp [xswT] at hc
  | o :: os, a, (v, t) :: r, hc, h => by
    simp only [xswT, Bool.and_eq_true, decide_eq_true_eq] at hc
    obtain ⟨⟨h1, h2⟩, h3⟩ := hc
    by_cases hx : x = v
    · refine ⟨fun j o' hj hxa => ?_, fun hn => ?_⟩
      · have : j = 0 := by rw [hx, h1] at hxa; omega
        subst this
        simp at hj
        subst hj
        exact ⟨t, h2, h.1 hx⟩
      · exact absurd (by rw [hx, h1]; simp) (hn 0 (by simp))
    · obtain ⟨q1, q2⟩ := xswT_of os (a + 1) r h3 (h.2 hx)
      refine ⟨fun j o' hj hxa => ?_, fun hn => q2 (fun j hj => ?_)⟩
      · cases j with
        | zero =>
          exact absurd (Int32.toInt_inj.mp (by rw [h1, hxa]; simp)) hx
        | succ j =>
          exact q1 j o' (by simpa using hj) (by rw [hxa]; omega)
      · have := hn (j + 1) (by simp; omega)
        omega
def xcmp (c : ClassFile.Cond) (x y : Int32) (a b : Prop) : Prop := match c with
  | .eq => (x = y → a) ∧ (¬ x = y → b)
  | .ne => (¬ x = y → a) ∧ (x = y → b)
  | .lt => (x < y → a) ∧ (¬ x < y → b)
  | .ge => (y ≤ x → a) ∧ (¬ y ≤ x → b)
  | .gt => (y < x → a) ∧ (¬ y < x → b)
  | .le => (x ≤ y → a) ∧ (¬ x ≤ y → b)
def xlen : Instr → Nat
  | .bipush _ | .iload _ | .istore _ | .lload _ | .lstore _ | .aload _ | .astore _ | .ldc _ => 2
  | .sipush _ | .iinc _ _ | .ifCond _ _ | .if_icmp _ _ | .goto _ | .getfield _ | .putfield _ | .invokevirtual _ | .invokestatic _ | .invokespecial _ | .ldc2_w _ => 3
  | _ => 1
def xgood (cc : ByteArray) (pc : Nat) (e : XE) : Bool := match e.1 with
  | .nop => true
  | .tableswitch dflt lo hi offs => decide (decode cc pc = .ok (.tableswitch dflt lo hi offs, e.2.1)) && (decide ((pc : Int) + dflt = (e.2.2.1 : Int)) && (decide (hi + 1 = lo + (offs.size : Int)) && xswT pc lo offs.toList e.2.2.2.2))
  | ins => decide (decode cc pc = .ok (ins, xlen ins)) && (decide (e.2.1 = pc + xlen ins) && (match ins with
    | .iconst n => decide (Int32.ofInt n = e.2.2.2.1)
    | .bipush n => decide ((Int8.ofInt n).toInt32 = e.2.2.2.1)
    | .sipush n => decide ((Int16.ofInt n).toInt32 = e.2.2.2.1)
    | .iinc _ n => decide (Int32.ofInt n = e.2.2.2.1)
    | .ifCond _ off => decide ((pc : Int) + off = (e.2.2.1 : Int))
    | .if_icmp _ off => decide ((pc : Int) + off = (e.2.2.1 : Int))
    | .goto off => decide ((pc : Int) + off = (e.2.2.1 : Int))
    | _ => true))
end
section
/-- one step, as a formula: k is what must hold behind it, Rt what must hold of an answer and its world, M what a call needs -/
def xs (d nL : Nat) (T : List (Nat × XE)) (F : List (Nat × XF)) (C : List (Nat × XK)) (M : XI → List Value → List va_E → (Option Value → List va_E → Prop) → Prop) (ret : Option FieldType) (Rt : Option Value → List va_E → Prop)
    (k : Nat → List (Nat × Value) → List Value → List va_E → Prop) (pc : Nat) (ls : List (Nat × Value)) (st : List Value) (w : List va_E) : Prop :=
  match xfind T pc with
  | (ins, nxt, tgt, cst, sw) => match ins with
    | .iconst _ => k nxt ls (.int cst :: st) w
    | .bipush _ => k nxt ls (.int cst :: st) w
    | .sipush _ => k nxt ls (.int cst :: st) w
    | .iload_n i => xli ls i (fun x => k nxt ls (.int x :: st) w)
    | .iload i => xli ls i (fun x => k nxt ls (.int x :: st) w)
    | .lload_n i => xll ls i (fun x => k nxt ls (.long x :: st) w)
    | .lload i => xll ls i (fun x => k nxt ls (.long x :: st) w)
    | .aload_n i => xlr ls i (fun x => k nxt ls (.ref x :: st) w)
    | .aload i => xlr ls i (fun x => k nxt ls (.ref x :: st) w)
    | .istore_n i => x1i st (fun x r => bif Nat.blt i nL then k nxt ((i.val, .int x) :: xr i false ls) r w else False)
    | .istore i => x1i st (fun x r => bif Nat.blt i nL then k nxt ((i, .int x) :: xr i false ls) r w else False)
    | .lstore_n i => x1l st (fun x r => bif Nat.blt (i + 1) nL then k nxt ((i.val, .long x) :: xr i true ls) r w else False)
    | .lstore i => x1l st (fun x r => bif Nat.blt (i + 1) nL then k nxt ((i, .long x) :: xr i true ls) r w else False)
    | .astore_n i => x1r st (fun x r => bif Nat.blt i nL then k nxt ((i.val, .ref x) :: xr i false ls) r w else False)
    | .astore i => x1r st (fun x r => bif Nat.blt i nL then k nxt ((i, .ref x) :: xr i false ls) r w else False)
    | .iinc i _ => xli ls i (fun x => bif Nat.blt i nL then k nxt ((i, .int (x + cst)) :: xr i false ls) st w else False)
    | .iadd => x1i st (fun y r => x1i r (fun x r => k nxt ls (.int (x + y) :: r) w))
    | .isub => x1i st (fun y r => x1i r (fun x r => k nxt ls (.int (x - y) :: r) w))
    | .imul => x1i st (fun y r => x1i r (fun x r => k nxt ls (.int (x * y) :: r) w))
    | .iand => x1i st (fun y r => x1i r (fun x r => k nxt ls (.int (x &&& y) :: r) w))
    | .ior => x1i st (fun y r => x1i r (fun x r => k nxt ls (.int (x ||| y) :: r) w))
    | .ixor => x1i st (fun y r => x1i r (fun x r => k nxt ls (.int (x ^^^ y) :: r) w))
    | .ishl => x1i st (fun y r => x1i r (fun x r => k nxt ls (.int (x <<< (y &&& 31)) :: r) w))
    | .ishr => x1i st (fun y r => x1i r (fun x r => k nxt ls (.int (x >>> (y &&& 31)) :: r) w))
    | .iushr => x1i st (fun y r => x1i r (fun x r => k nxt ls (.int (x.toUInt32 >>> (y.toUInt32 &&& Int32.toUInt32 31)).toInt32 :: r) w))
    | .ineg => x1i st (fun x r => k nxt ls (.int (-x) :: r) w)
    | .land => x1l st (fun y r => x1l r (fun x r => k nxt ls (.long (x &&& y) :: r) w))
    | .lor => x1l st (fun y r => x1l r (fun x r => k nxt ls (.long (x ||| y) :: r) w))
    | .lushr => x1i st (fun y r => x1l r (fun x r => k nxt ls (.long (x.toUInt64 >>> (y.toInt64.toUInt64 &&& Int64.toUInt64 63)).toInt64 :: r) w))
    | .lshl => x1i st (fun y r => x1l r (fun x r => k nxt ls (.long (x <<< (y.toInt64 &&& 63)) :: r) w))
    | .lshr => x1i st (fun y r => x1l r (fun x r => k nxt ls (.long (x >>> (y.toInt64 &&& 63)) :: r) w))
    | .i2l => x1i st (fun x r => k nxt ls (.long x.toInt64 :: r) w)
    | .l2i => x1l st (fun x r => k nxt ls (.int x.toInt32 :: r) w)
    | .i2c => x1i st (fun x r => k nxt ls (.int (x.toUInt32 % 65536).toInt32 :: r) w)
    | .dup => x1v st (fun v r => bif xc2 v then False else k nxt ls (v :: v :: r) w)
    | .pop => x1v st (fun v r => bif xc2 v then False else k nxt ls r w)
    | .dup_x1 => x1v st (fun v r => x1v r (fun u r => bif xc2 v || xc2 u then False else k nxt ls (v :: u :: v :: r) w))
    | .dup2 => x1v st (fun v r => x1v r (fun u r => bif xc2 v || xc2 u then False else k nxt ls (v :: u :: v :: u :: r) w))
    | .ifCond c _ => x1i st (fun x r => xcmp c x 0 (k tgt ls r w) (k nxt ls r w))
    | .if_icmp c _ => x1i st (fun y r => x1i r (fun x r => xcmp c x y (k tgt ls r w) (k nxt ls r w)))
    | .goto _ => k tgt ls st w
    | .tableswitch _ _ _ _ => x1i st (fun x r => xsw x (fun t => k t ls r w) sw tgt)
    | .getfield idx => x1r st (fun i r => xlk F idx (fun f => xob w i f.1 (fun fs => xop fs f.2.1 (fun v => k nxt ls (v :: r) w))))
    | .putfield idx => x1v st (fun v r => x1r r (fun i r => xlk F idx (fun f => xob w i f.1 (fun fs => xfit f.2.2.1 v ∧ (bif f.2.2.2 && Nat.blt f.2.1 fs.length then k nxt ls r (xu w i (.inr (f.1, xu fs f.2.1 v))) else False)))))
    | .iaload => x1i st (fun j r => x1r r (fun i r => xar w i 0 (fun n a => vp_in j n ∧ k nxt ls (.int (a j.toNatClampNeg) :: r) w)))
    | .caload => x1i st (fun j r => x1r r (fun i r => xar w i 1 (fun n a => vp_in j n ∧ k nxt ls (.int (a j.toNatClampNeg) :: r) w)))
    | .baload => x1i st (fun j r => x1r r (fun i r => xar w i 2 (fun n a => vp_in j n ∧ k nxt ls (.int (a j.toNatClampNeg) :: r) w)))
    | .iastore => x1i st (fun x r => x1i r (fun j r => x1r r (fun i r => xar w i 0 (fun n a => vp_in j n ∧ k nxt ls r (xu w i (.inl (0, n, .inl (upd a j.toNatClampNeg x))))))))
    | .castore => x1i st (fun x r => x1i r (fun j r => x1r r (fun i r => xar w i 1 (fun n a => vp_in j n ∧ k nxt ls r (xu w i (.inl (1, n, .inl (upd a j.toNatClampNeg (vp_nar .char x)))))))))
    | .bastore => x1i st (fun x r => x1i r (fun j r => x1r r (fun i r => xar w i 2 (fun n a => vp_in j n ∧ k nxt ls r (xu w i (.inl (2, n, .inl (upd a j.toNatClampNeg (vp_nar .boolean x)))))))))
    | .arraylength => x1r st (fun i r => xar w i 0 (fun n _ => k nxt ls (.int (Int32.ofNat n) :: r) w))
    | .invokestatic idx => xlk C idx (fun q => bif q.2.1 then False else bif Nat.beq q.2.2.2 99 then (bif Nat.blt 0 d then x1i st (fun y r => x1i r (fun x r => bif Nat.ble (xct r) 8 then k nxt ls (.int (if y < x then y else x) :: r) w else False)) else False) else xtk q.2.2.1 [] st (fun as r => bif Nat.ble (xct r) 8 then M q.1 as w (fun v w' => k nxt ls (v.toList ++ r) w') else False))
    | .invokevirtual idx => xlk C idx (fun q => bif q.2.1 then xtk q.2.2.1 [] st (fun as r => x1r r (fun i r => bif Nat.ble (xct r) 8 then xob w i q.2.2.2 (fun _ => M q.1 (.ref i :: as) w (fun v w' => k nxt ls (v.toList ++ r) w')) else False)) else False)
    | .ireturn => x1i st (fun x r => match r with | [] => xret ret (.int x) ∧ Rt (some (.int x)) w | _ => False)
    | .areturn => x1r st (fun x r => match r with | [] => xret ret (.ref x) ∧ Rt (some (.ref x)) w | _ => False)
    | .return_ => (match st with | [] => ret = none ∧ Rt none w | _ => False)
    | _ => False
def xb (d nL : Nat) (T : List (Nat × XE)) (F : List (Nat × XF)) (C : List (Nat × XK)) (M : XI → List Value → List va_E → (Option Value → List va_E → Prop) → Prop) (ret : Option FieldType) (Rt : Option Value → List va_E → Prop) (stop : List (Nat × List Nat))
    (K : Nat → List (Nat × Value) → List Value → List va_E → Prop) : Nat → Nat → List (Nat × Value) → List Value → List va_E → Prop
  | 0, pc, ls, st, w => K pc ls st w
  | n + 1, pc, ls, st, w => match xlook stop pc with
    | some keys => K pc (xk ls keys) st w
    | none => xs d nL T F C M ret Rt (xb d nL T F C M ret Rt stop K n) pc ls st w
-- what it means over the machine
def XQ (D : va_G) (tc : Nat → ClassId) (ad : Nat → Nat) (A : Nat → Prop) (Rt : Option Value → List va_E → Prop) : Array Value → State → Outcome → State → Prop := fun _ st oc t =>
  ∃ (r : Option Value) (w : List va_E), Rt r w ∧ oc = .returned (r.map (xv ad)) ∧ va_P D vwCl (xz tc ad 0 w) t.heap ∧ va_D A (xz tc ad 0 w) ∧ va_K D vwCl (xt tc) t ∧ va_F A st t
/-- the method q, called with 'as' in the world w, answers r and leaves the world w' -/
def XMet (l : Launch) (d : Nat) (q : XI) (as : List Value) (w : List va_E) (r : Option Value) (w' : List va_E) : Prop :=
  ∀ (D : va_G) (tc : Nat → ClassId) (ad : Nat → Nat) (sz : Nat), Met l q.1 (xW q) (xR d)
    (va_Pc (as.map (xv ad)) (fun U => U.heap.size = sz ∧ va_P D vwCl (xz tc ad 0 w) U.heap ∧ va_K D vwCl (xt tc) U ∧ va_D (fun _ => True) (xz tc ad 0 w)))
    (XQ D tc ad (va_A (xz tc ad 0 w) sz) (fun a b => a = r ∧ b = w')) 0 0 (va_A (xz tc ad 0 w) sz)
def xM (l : Launch) (d : Nat) : XI → List Value → List va_E → (Option Value → List va_E → Prop) → Prop := fun q as w post => ∃ (d' : Nat) (r : Option Value) (w' : List va_E), d' < d ∧ XMet l d' q as w r w' ∧ post r w'
def XC (q : XI) (p : Program) (s : State) (m : MethodId) (args : Array Value) (meth : Method) (c : Code) : Prop :=
  p.tables.exec = Jvm.exec ∧ c.code = q.2.1 ∧ c.maxLocals = q.2.2.1 ∧ s.vm.findClass q.1.cls = some m.cls ∧ (∀ w ∈ wsG, w.before args s = true) ∧ meth.sig.returnType = q.2.2.2 ∧ meth.locks = false
/-- from here on, the method q returns, its answer and its world as Rt says -/
def XW (l : Launch) (d : Nat) (q : XI) (Rt : Option Value → List va_E → Prop) (pc : Nat) (ls : List (Nat × Value)) (st : List Value) (w : List va_E) : Prop :=
  ∀ (p : Program) (e : Env) (s : State) (m : MethodId) (args : Array Value) (below : List Frame) (meth : Method) (c : Code) (D : va_G) (tc : Nat → ClassId) (ad : Nat → Nat) (A : Nat → Prop) (H : Heap) (locs : List Loc) (la : Array Slot),
    XC q p s m args meth c → va_K D vwCl (xt tc) s → (∀ z, s.heap.size ≤ z → A z) → va_P D vwCl (xz tc ad 0 w) H → va_D A (xz tc ad 0 w) → va_S A s.heap H locs → lv_has la q.2.2.1 (xlm ad ls) →
    W p l e (xR d) s m args below meth c H locs 0 0 (MQ below (XQ D tc ad A Rt) args s 0 0 A) (F0 m pc la (st.map (xv ad)))
def xfok (own : String) (idx : Nat) (f : XF) : Prop := ∃ (C : String) (U : u_T) (N : Nat), vwCl[f.1]? = some (C, U, N) ∧ f.2.1 < N ∧ parseFieldDescriptor (U f.2.1).2.2.1 = some f.2.2.1 ∧ (f.2.2.2 = true → (U f.2.1).2.2.2 = false) ∧ Cond.fieldLink own idx (U f.2.1).1 (U f.2.1).2.1 (U f.2.1).2.2.1 ∈ wsG
def xcok (own : String) (idx : Nat) (q : XK) : Prop := Cond.code q.1.1 q.1.2.1 q.1.2.2.1 q.1.2.2.2 ∈ wsG ∧ Cond.initialized q.1.1.cls ∈ wsG ∧ (q.1.1.cls ≠ "java/lang/invoke/MethodHandle" ∧ q.1.1.cls ≠ "java/lang/invoke/VarHandle" ∧ (parseMethodDescriptor q.1.1.desc).map (fun d => d.parameters.length) = some q.2.2.1) ∧ q.1.2.2.1 ≤ 21 ∧ Cond.methodLink own idx q.1.1 ∈ wsG ∧
  (match q.2.1 with
    | false => Cond.static q.1.1 ∈ wsG ∧ (q.2.2.2 = 99 → q.1 = (Lib.Math.min.name, Lib.Math.min.code, 2, some .int))
    | true => Cond.instanceMethod q.1.1 ∈ wsG ∧ Cond.selects q.1.1.cls q.1.1 q.1.1 ∈ wsG ∧ ∃ (U : u_T) (N : Nat), vwCl[q.2.2.2]? = some (q.1.1.cls, U, N))
def XOk (q : XI) (T : List (Nat × XE)) (F : List (Nat × XF)) (C : List (Nat × XK)) : Prop :=
  T.all (fun e => xgood q.2.1 e.1 e.2) = true ∧ (∀ e ∈ F, xfok q.1.cls e.1 e.2) ∧ (∀ e ∈ C, xcok q.1.cls e.1 e.2)
/-- what is known of every class of the worlds -/
def XCls : Prop := ∀ (ci : Nat) (C : String) (U : u_T) (N : Nat), vwCl[ci]? = some (C, U, N) → (∀ w ∈ u_ws C U N, w ∈ wsG) ∧ (∀ a, a < N → ∀ b, b < N → a ≠ b → (U a).2.1 ≠ (U b).2.1) ∧ ∃ ty0 : Nat → FieldType, ∀ k, k < N → parseFieldDescriptor (U k).2.2.1 = some (ty0 k)
end
section
theorem xlm_get {ad : Nat → Nat} {la : Array Slot} {nL : Nat} {ls : List (Nat × Value)} (hl : lv_has la nL (xlm ad ls)) {i : Nat} {v : Value} (h : xg ls i = some v) : la[i]? = some (.val (xv ad v)) :=
  hl.2.2 (i, xv ad v) (List.mem_map.mpr ⟨(i, v), xg_mem ls i v h, rfl⟩)
theorem xlm_mem {ad : Nat → Nat} {la : Array Slot} {nL : Nat} {ls ls' : List (Nat × Value)} (hl : lv_has la nL (xlm ad ls)) (h : ∀ q ∈ ls', q ∈ ls) : lv_has la nL (xlm ad ls') := by
  refine ⟨hl.1, hl.2.1, fun q hq => ?_⟩
  obtain ⟨q0, h1, rfl⟩ := List.mem_map.mp hq
  exact hl.2.2 _ (List.mem_map.mpr ⟨q0, h q0 h1, rfl⟩)
theorem xlm_sub {la : Array Slot} {nL : Nat} {l l' : List (Nat × Value)} (hl : lv_has la nL l) (h : ∀ q ∈ l', q ∈ l) : lv_has la nL l' := ⟨hl.1, hl.2.1, fun q hq => hl.2.2 q (h q hq)⟩
theorem xlm_st1 {ad : Nat → Nat} {la : Array Slot} {nL i : Nat} {v : Value} {ls : List (Nat × Value)} (hl : lv_has la nL ((i, xv ad v) :: (xlm ad ls).filter (fun q => !(q.1 == i) && !(q.1 + 1 == i && q.2.category == 2)))) : lv_has la nL (xlm ad ((i, v) :: xr i false ls)) := by
  refine xlm_sub hl (fun q hq => ?_)
  rcases List.mem_cons.mp hq with h | h
  · rw [h]; exact List.mem_cons_self
  · obtain ⟨q0, h1, rfl⟩ := List.mem_map.mp h
    obtain ⟨g1, g2, -, g4⟩ := xr_mem i false ls q0 h1
    refine List.mem_cons_of_mem _ (List.mem_filter.mpr ⟨List.mem_map.mpr ⟨q0, g1, rfl⟩, ?_⟩)
    simp only [xv_cat]
    by_cases e : q0.1 + 1 = i
    · have : ¬ q0.2.category = 2 := fun z => g4 ⟨e, z⟩
      simp [g2, this]
    · simp [g2, e]
theorem xlm_st2 {ad : Nat → Nat} {la : Array Slot} {nL i : Nat} {v : Value} {ls : List (Nat × Value)} (hl : lv_has la nL ((i, xv ad v) :: (xlm ad ls).filter (fun q => !(q.1 == i) && (!(q.1 == i + 1) && !(q.1 + 1 == i && q.2.category == 2))))) : lv_has la nL (xlm ad ((i, v) :: xr i true ls)) := by
  refine xlm_sub hl (fun q hq => ?_)
  rcases List.mem_cons.mp hq with h | h
  · rw [h]; exact List.mem_cons_self
  · obtain ⟨q0, h1, rfl⟩ := List.mem_map.mp h
    obtain ⟨g1, g2, g3, g4⟩ := xr_mem i true ls q0 h1
    have g3 := g3 rfl
    refine List.mem_cons_of_mem _ (List.mem_filter.mpr ⟨List.mem_map.mpr ⟨q0, g1, rfl⟩, ?_⟩)
    simp only [xv_cat]
    by_cases e : q0.1 + 1 = i
    · have : ¬ q0.2.category = 2 := fun z => g4 ⟨e, z⟩
      simp [g2, g3, this]
    · simp [g2, g3, e]
theorem xv_sl (ad : Nat → Nat) : ∀ as : List Value, (lg_sl (as.map (xv ad))).length = (lg_sl as).length
  | [] => rfl
  | v :: r => by
    have h := xv_sl ad r
    simp only [lg_sl, List.map_cons, List.flatMap_cons, List.length_append] at h ⊢
    rw [h, xv_cat]
    congr 1
    split <;> rfl
theorem xv_args (ad : Nat → Nat) : ∀ (as : List Value) (i : Nat), lv_args i (as.map (xv ad)) = xlm ad (lv_args i as)
  | [], i => rfl
  | v :: r, i => by
    simp only [List.map_cons, lv_args, xlm, xv_cat]
    rw [xv_args ad r]
    rfl
set_option maxHeartbeats 1000000 in
theorem xm_intro {l : Launch} {d : Nat} {q : XI} {as : List Value} {w : List va_E} {r : Option Value} {w' : List va_E} (hp : plainName q.1.cls = true) (hn : (lg_sl as).length ≤ q.2.2.1) (h : XW l d q (fun a b => a = r ∧ b = w') 0 (lv_args 0 as) [] w) : XMet l d q as w r w' := by
  intro D tc ad sz
  refine Met.ofW (cc := q.2.1) (maxL := q.2.2.1) (ret := q.2.2.2) hp rfl ?_
  intro p e s m args below meth c s₁ B hml hv
  obtain ⟨rfl, hsz, hP, hK, hD0⟩ := hv
  have hts := atoms_spec (ws := xW q) B.pre
  have hown : s.vm.findClass q.1.cls = some m.cls := findClass_of_methodNamed B.named
  subst hsz
  have hD := hD0.self (sz := s.heap.size)
  have hl := lv_entry (as.map (xv ad)) (n := q.2.2.1) (by rw [xv_sl]; exact hn)
  rw [xv_args] at hl
  rw [lg_entry_eq]
  exact h p e s m _ below meth c D tc ad _ s.heap [] _ ⟨B.exec, B.bytes, hml, hown, fun w hw => hts w (List.mem_cons_of_mem _ hw), B.returns, B.notSynchronized⟩ hK (fun z hz => Or.inr hz) hP hD va_S.rf hl
theorem xw_sub {l : Launch} {d : Nat} {q : XI} {Rt : Option Value → List va_E → Prop} {pc : Nat} {ls ls' : List (Nat × Value)} {st : List Value} {w : List va_E} (h : ∀ q ∈ ls', q ∈ ls) (k : XW l d q Rt pc ls' st w) : XW l d q Rt pc ls st w := by
  intro p e s m args below meth c D tc ad A H locs la X hK hA hP hD hS hl
  exact k p e s m args below meth c D tc ad A H locs la X hK hA hP hD hS (xlm_mem hl h)
section Sound
variable {p : Program} {l : Launch} {e : Env} {R : Room} {s : State} {m : MethodId} {args : Array Value} {below : List Frame} {meth : Method} {c : Code} {H : Heap} {locs : List Loc} {Q : State → Prop} {D : va_G} {tc : Nat → ClassId} {ad : Nat → Nat} {A A1 : Nat → Prop} {w : List va_E}
theorem xw_at {i : Nat} {x : va_E} (h : w[i]? = some x) : (xz tc ad 0 w)[i]? = some (ad i, xe tc ad x) := by
  rw [xz_get, h, Option.map_some, Nat.zero_add]
theorem xw_setP {i : Nat} {x : va_E} (h : va_P D vwCl ((xz tc ad 0 w).set i (ad i, xe tc ad x)) H) : va_P D vwCl (xz tc ad 0 (xu w i x)) H := by
  have e := xz_set tc ad w 0 i x
  rw [Nat.zero_add] at e
  rw [xu_eq, ← e]; exact h
theorem xw_setD {i : Nat} {x : va_E} (h : va_D A ((xz tc ad 0 w).set i (ad i, xe tc ad x))) : va_D A (xz tc ad 0 (xu w i x)) := by
  have e := xz_set tc ad w 0 i x
  rw [Nat.zero_add] at e
  rw [xu_eq, ← e]; exact h
/-- behind a call -/
theorem xcall {pc : Nat} {la : Array Slot} {rest st0 : List Value} {a : Array Value} {Rt : Option Value → List va_E → Prop} {cells slots : Nat}
    (hr : va_Run p l e R s m args below meth c H locs cells slots 0 0 (F0 m pc la st0) rest (XQ D tc ad A1 Rt a) A1) (hS : va_S A s.heap H locs) (hA : ∀ q, A1 q → A q)
    (kk : ∀ (v : Option Value) (w' : List va_E) (H1 : Heap) (locs1 : List Loc), Rt v w' → va_P D vwCl (xz tc ad 0 w') H1 → va_D A (xz tc ad 0 w') → va_S A s.heap H1 locs1 → W p l e R s m args below meth c H1 locs1 cells slots Q (F0 m (pc + 3) la ((v.map (xv ad)).toList ++ rest))) : W p l e R s m args below meth c H locs cells slots Q (F0 m pc la st0) := by
  intro T hT X
  obtain ⟨v, st₀, t, T', L, h0, X', hL, e1, e2, ⟨r, w', hq, hv, hP', hD', -, hz, hk⟩, st⟩ := hr T hT X
  have hv : v = r.map (xv ad) := Outcome.returned.inj hv
  subst hv
  rw [h0] at hz hk
  rw [← e1] at hP'
  obtain ⟨t2, a1, b1⟩ := kk r w' T'.heap (locs ++ L) hq hP' (hD'.weaken (fun _ q _ h => hA q.1 h))
    ⟨Nat.le_trans hS.1 (by rw [e1]; exact hz), fun q h1 h2 => by rw [e1, hk q (Nat.lt_of_lt_of_le h1 hS.1) (fun z => h2 (hA q z))]; exact hS.2.1 q h1 h2, fun q hq => by
      rcases List.mem_append.mp hq with h | h
      · exact hS.2.2 q h
      · exact hA _ (hL q h)⟩ T' rfl X'
  exact ⟨t2, st t2 a1, b1⟩
theorem xfree (hD : va_D A (xz tc ad 0 w)) (hS : va_S A s.heap H locs) (hA : ∀ z, s.heap.size ≤ z → A z) : ∀ q, va_A (xz tc ad 0 w) H.size q → A q := by
  intro q h
  rcases h with ⟨k, e, h⟩ | h
  · exact hD.2 k (q, e) h
  · exact hA q (Nat.le_trans hS.1 h)
theorem xblind {as : List Value} {sz : Nat} : FrameBlind (va_Pc (as.map (xv ad)) (fun U => U.heap.size = sz ∧ va_P D vwCl (xz tc ad 0 w) U.heap ∧ va_K D vwCl (xt tc) U ∧ va_D (fun _ => True) (xz tc ad 0 w))) :=
  fun a U g mk q => by obtain ⟨q0, q1, qP, qK, qD⟩ := q; exact ⟨q0, q1, qP, va_K.moved (u := U) (U := U.calling g mk a) (Vm.Alike.refl U.vm) qK, qD⟩
theorem xpre {as : List Value} (hK : va_K D vwCl (xt tc) s) (hP : va_P D vwCl (xz tc ad 0 w) H) (hD : va_D A (xz tc ad 0 w)) : ∀ U : State, U.heap = H → s.WarmedH U.vm → va_Pc (as.map (xv ad)) (fun U => U.heap.size = H.size ∧ va_P D vwCl (xz tc ad 0 w) U.heap ∧ va_K D vwCl (xt tc) U ∧ va_D (fun _ => True) (xz tc ad 0 w)) (as.map (xv ad)).toArray U :=
  fun U hU hW => ⟨rfl, by rw [hU], by rw [hU]; exact hP, va_K.moved hW.alike hK, hD.weaken (fun _ _ _ _ => trivial)⟩
theorem xcb {own : String} {index d' d : Nat} {q : XK} (hts : ∀ w ∈ wsG, w.before args s = true) (hc : xcok own index q) (hd : d' < d) : CallB (xR d) s args own index q.1.1 q.1.2.1 q.1.2.2.1 q.1.2.2.2 (xW q.1) (xR d') 0 0 q.2.2.1 := by
  obtain ⟨h1, h2, h3, h4, h5, -⟩ := hc
  refine callB_of (ws' := wsG) q.2.2.1 hts ?_ rfl rfl rfl (hts _ h2) (hts _ h5) h3 ⟨?_, ?_⟩
  · intro w hw
    rcases List.mem_cons.mp hw with h | h
    · rw [h]; exact ⟨h1, wsG_good h1⟩
    · exact ⟨h, wsG_good h⟩
  · show d' + 1 ≤ d; omega
  · show 8 + (q.1.2.2.1 + 11) + 40 * d' ≤ 40 * d; omega
end Sound
end
section
theorem xcat1 {v : Value} (ad : Nat → Nat) (h : xc2 v = false) : (xv ad v).category = 1 := by
  rw [xv_cat]; cases v <;> first | rfl | cases h
theorem bif_t {b : Bool} {P : Prop} (h : bif b then P else False) : b = true ∧ P := by
  cases b
  · exact h.elim
  · exact ⟨rfl, h⟩
theorem bif_f {b : Bool} {P : Prop} (h : bif b then False else P) : b = false ∧ P := by
  cases b
  · exact ⟨rfl, h⟩
  · exact h.elim
theorem xblt {a b : Nat} (h : Nat.blt a b = true) : a < b := Nat.le_of_ble_eq_true h
set_option maxHeartbeats 4000000 in
set_option maxRecDepth 100000 in
theorem xs_sound {l : Launch} {d : Nat} {q : XI} {T : List (Nat × XE)} {F : List (Nat × XF)} {C : List (Nat × XK)} {Rt : Option Value → List va_E → Prop} {k : Nat → List (Nat × Value) → List Value → List va_E → Prop} {pc : Nat} {ls : List (Nat × Value)} {st : List Value} {w : List va_E}
    (cls : XCls) (ok : XOk q T F C) (hk : ∀ pc ls st w, k pc ls st w → XW l d q Rt pc ls st w) (h : xs d q.2.2.1 T F C (xM l d) q.2.2.2 Rt k pc ls st w) : XW l d q Rt pc ls st w := by
  intro p e s m args below meth c D tc ad A H locs la X hK hA hP hD hS hl
  obtain ⟨hx, hb, hml, hown, hts, hr, hlk⟩ := id X
  obtain ⟨okT, okF, okC⟩ := ok
  have go : ∀ {pc ls st w H locs la}, k pc ls st w → va_P D vwCl (xz tc ad 0 w) H → va_D A (xz tc ad 0 w) → va_S A s.heap H locs → lv_has la q.2.2.1 (xlm ad ls) → W p l e (xR d) s m args below meth c H locs 0 0 (MQ below (XQ D tc ad A Rt) args s 0 0 A) (F0 m pc la (st.map (xv ad))) :=
    fun hq hP hD hS hl => hk _ _ _ _ hq p e s m args below meth c D tc ad A _ _ _ X hK hA hP hD hS hl
  unfold xs at h
  have hg : xgood q.2.1 pc (xfind T pc) = true := by
    rcases xfind_in T pc with h1 | h1
    · rw [h1]; rfl
    · exact List.all_eq_true.mp okT _ h1
  generalize xfind T pc = e0 at h hg
  obtain ⟨ins, nxt, tgt, cst, sw⟩ := e0
  cases ins with
  | iconst n =>
    simp only [xgood, Bool.and_eq_true, decide_eq_true_eq] at hg
    obtain ⟨hd, hn, hs⟩ := hg
    subst hn
    exact lv_iconst hx hb hd hs (go h hP hD hS hl)
  | bipush n =>
    simp only [xgood, Bool.and_eq_true, decide_eq_true_eq] at hg
    obtain ⟨hd, hn, hs⟩ := hg
    subst hn
    exact lv_bipush hx hb hd hs (go h hP hD hS hl)
  | sipush n =>
    simp only [xgood, Bool.and_eq_true, decide_eq_true_eq] at hg
    obtain ⟨hd, hn, hs⟩ := hg
    subst hn
    exact lv_sipush hx hb hd hs (go h hP hD hS hl)
  | iload_n i =>
    simp only [xgood, Bool.and_eq_true, decide_eq_true_eq] at hg
    obtain ⟨hd, hn, -⟩ := hg
    subst hn
    replace h := xli_of h
    obtain ⟨x, h1, h⟩ := h
    exact lv_iload_n hx hb hd rfl (xlm_get hl h1) (go h hP hD hS hl)
  | iload i =>
    simp only [xgood, Bool.and_eq_true, decide_eq_true_eq] at hg
    obtain ⟨hd, hn, -⟩ := hg
    subst hn
    replace h := xli_of h
    obtain ⟨x, h1, h⟩ := h
    exact lv_iload hx hb hd (xlm_get hl h1) (go h hP hD hS hl)
  | lload_n i =>
    simp only [xgood, Bool.and_eq_true, decide_eq_true_eq] at hg
    obtain ⟨hd, hn, -⟩ := hg
    subst hn
    replace h := xll_of h
    obtain ⟨x, h1, h⟩ := h
    exact lv_lload_n hx hb hd rfl (xlm_get hl h1) (go h hP hD hS hl)
  | lload i =>
    simp only [xgood, Bool.and_eq_true, decide_eq_true_eq] at hg
    obtain ⟨hd, hn, -⟩ := hg
    subst hn
    replace h := xll_of h
    obtain ⟨x, h1, h⟩ := h
    exact lv_lload hx hb hd (xlm_get hl h1) (go h hP hD hS hl)
  | aload_n i =>
    simp only [xgood, Bool.and_eq_true, decide_eq_true_eq] at hg
    obtain ⟨hd, hn, -⟩ := hg
    subst hn
    replace h := xlr_of h
    obtain ⟨x, h1, h⟩ := h
    exact lv_aload_n hx hb hd rfl (xlm_get hl h1) (go h hP hD hS hl)
  | aload i =>
    simp only [xgood, Bool.and_eq_true, decide_eq_true_eq] at hg
    obtain ⟨hd, hn, -⟩ := hg
    subst hn
    replace h := xlr_of h
    obtain ⟨x, h1, h⟩ := h
    exact lv_aload hx hb hd (xlm_get hl h1) (go h hP hD hS hl)
  | istore_n i =>
    simp only [xgood, Bool.and_eq_true, decide_eq_true_eq] at hg
    obtain ⟨hd, hn, -⟩ := hg
    subst hn
    replace h := x1i_of h
    obtain ⟨x, r, rfl, h⟩ := h
    replace h := bif_t h
    obtain ⟨h1, h⟩ := h
    exact lv_istore_n hx hb hd rfl hl (xblt h1) rfl (fun la' hl' => go h hP hD hS (xlm_st1 (v := .int x) hl'))
  | istore i =>
    simp only [xgood, Bool.and_eq_true, decide_eq_true_eq] at hg
    obtain ⟨hd, hn, -⟩ := hg
    subst hn
    replace h := x1i_of h
    obtain ⟨x, r, rfl, h⟩ := h
    replace h := bif_t h
    obtain ⟨h1, h⟩ := h
    exact lv_istore hx hb hd hl (xblt h1) rfl (fun la' hl' => go h hP hD hS (xlm_st1 (v := .int x) hl'))
  | lstore_n i =>
    simp only [xgood, Bool.and_eq_true, decide_eq_true_eq] at hg
    obtain ⟨hd, hn, -⟩ := hg
    subst hn
    replace h := x1l_of h
    obtain ⟨x, r, rfl, h⟩ := h
    replace h := bif_t h
    obtain ⟨h1, h⟩ := h
    exact lv_lstore_n hx hb hd rfl hl (xblt h1) rfl (fun la' hl' => go h hP hD hS (xlm_st2 (v := .long x) hl'))
  | lstore i =>
    simp only [xgood, Bool.and_eq_true, decide_eq_true_eq] at hg
    obtain ⟨hd, hn, -⟩ := hg
    subst hn
    replace h := x1l_of h
    obtain ⟨x, r, rfl, h⟩ := h
    replace h := bif_t h
    obtain ⟨h1, h⟩ := h
    exact lv_lstore hx hb hd hl (xblt h1) rfl (fun la' hl' => go h hP hD hS (xlm_st2 (v := .long x) hl'))
  | astore_n i =>
    simp only [xgood, Bool.and_eq_true, decide_eq_true_eq] at hg
    obtain ⟨hd, hn, -⟩ := hg
    subst hn
    replace h := x1r_of h
    obtain ⟨x, r, rfl, h⟩ := h
    replace h := bif_t h
    obtain ⟨h1, h⟩ := h
    exact lv_astore_n hx hb hd rfl hl (xblt h1) rfl (fun la' hl' => go h hP hD hS (xlm_st1 (v := .ref x) hl'))
  | astore i =>
    simp only [xgood, Bool.and_eq_true, decide_eq_true_eq] at hg
    obtain ⟨hd, hn, -⟩ := hg
    subst hn
    replace h := x1r_of h
    obtain ⟨x, r, rfl, h⟩ := h
    replace h := bif_t h
    obtain ⟨h1, h⟩ := h
    exact lv_astore hx hb hd hl (xblt h1) rfl (fun la' hl' => go h hP hD hS (xlm_st1 (v := .ref x) hl'))
  | iinc i n =>
    simp only [xgood, Bool.and_eq_true, decide_eq_true_eq] at hg
    obtain ⟨hd, hn, hs⟩ := hg
    subst hn; subst hs
    replace h := xli_of h
    obtain ⟨x, h0, h⟩ := h
    replace h := bif_t h
    obtain ⟨h1, h⟩ := h
    obtain ⟨k0, hk0⟩ := List.getElem?_of_mem (List.mem_map.mpr ⟨(i, Value.int x), xg_mem ls i _ h0, rfl⟩ : ((i, xv ad (Value.int x)) : Nat × Value) ∈ xlm ad ls)
    exact lv_iinc hx hb hd hl hk0 rfl (xblt h1) rfl (fun la' hl' => go h hP hD hS (xlm_st1 (v := .int (x + Int32.ofInt n)) hl'))
  | iadd =>
    simp only [xgood, Bool.and_eq_true, decide_eq_true_eq] at hg
    obtain ⟨hd, hn, -⟩ := hg
    subst hn
    replace h := x1i_of h
    obtain ⟨y, r, rfl, h⟩ := h
    replace h := x1i_of h
    obtain ⟨x, r, rfl, h⟩ := h
    exact lv_iadd hx hb hd (go h hP hD hS hl)
  | isub =>
    simp only [xgood, Bool.and_eq_true, decide_eq_true_eq] at hg
    obtain ⟨hd, hn, -⟩ := hg
    subst hn
    replace h := x1i_of h
    obtain ⟨y, r, rfl, h⟩ := h
    replace h := x1i_of h
    obtain ⟨x, r, rfl, h⟩ := h
    exact lv_isub hx hb hd (go h hP hD hS hl)
  | imul =>
    simp only [xgood, Bool.and_eq_true, decide_eq_true_eq] at hg
    obtain ⟨hd, hn, -⟩ := hg
    subst hn
    replace h := x1i_of h
    obtain ⟨y, r, rfl, h⟩ := h
    replace h := x1i_of h
    obtain ⟨x, r, rfl, h⟩ := h
    exact lv_imul hx hb hd (go h hP hD hS hl)
  | iand =>
    simp only [xgood, Bool.and_eq_true, decide_eq_true_eq] at hg
    obtain ⟨hd, hn, -⟩ := hg
    subst hn
    replace h := x1i_of h
    obtain ⟨y, r, rfl, h⟩ := h
    replace h := x1i_of h
    obtain ⟨x, r, rfl, h⟩ := h
    exact lv_iand hx hb hd (go h hP hD hS hl)
  | ior =>
    simp only [xgood, Bool.and_eq_true, decide_eq_true_eq] at hg
    obtain ⟨hd, hn, -⟩ := hg
    subst hn
    replace h := x1i_of h
    obtain ⟨y, r, rfl, h⟩ := h
    replace h := x1i_of h
    obtain ⟨x, r, rfl, h⟩ := h
    exact lv_ior hx hb hd (go h hP hD hS hl)
  | ixor =>
    simp only [xgood, Bool.and_eq_true, decide_eq_true_eq] at hg
    obtain ⟨hd, hn, -⟩ := hg
    subst hn
    replace h := x1i_of h
    obtain ⟨y, r, rfl, h⟩ := h
    replace h := x1i_of h
    obtain ⟨x, r, rfl, h⟩ := h
    exact lv_ixor hx hb hd (go h hP hD hS hl)
  | ishl =>
    simp only [xgood, Bool.and_eq_true, decide_eq_true_eq] at hg
    obtain ⟨hd, hn, -⟩ := hg
    subst hn
    replace h := x1i_of h
    obtain ⟨y, r, rfl, h⟩ := h
    replace h := x1i_of h
    obtain ⟨x, r, rfl, h⟩ := h
    exact lv_ishl hx hb hd (go h hP hD hS hl)
  | ishr =>
    simp only [xgood, Bool.and_eq_true, decide_eq_true_eq] at hg
    obtain ⟨hd, hn, -⟩ := hg
    subst hn
    replace h := x1i_of h
    obtain ⟨y, r, rfl, h⟩ := h
    replace h := x1i_of h
    obtain ⟨x, r, rfl, h⟩ := h
    exact lv_ishr hx hb hd (go h hP hD hS hl)
  | iushr =>
    simp only [xgood, Bool.and_eq_true, decide_eq_true_eq] at hg
    obtain ⟨hd, hn, -⟩ := hg
    subst hn
    replace h := x1i_of h
    obtain ⟨y, r, rfl, h⟩ := h
    replace h := x1i_of h
    obtain ⟨x, r, rfl, h⟩ := h
    exact lv_iushr hx hb hd rfl (go h hP hD hS hl)
  | ineg =>
    simp only [xgood, Bool.and_eq_true, decide_eq_true_eq] at hg
    obtain ⟨hd, hn, -⟩ := hg
    subst hn
    replace h := x1i_of h
    obtain ⟨x, r, rfl, h⟩ := h
    exact lv_ineg hx hb hd (go h hP hD hS hl)
  | land =>
    simp only [xgood, Bool.and_eq_true, decide_eq_true_eq] at hg
    obtain ⟨hd, hn, -⟩ := hg
    subst hn
    replace h := x1l_of h
    obtain ⟨y, r, rfl, h⟩ := h
    replace h := x1l_of h
    obtain ⟨x, r, rfl, h⟩ := h
    exact lv_land hx hb hd (go h hP hD hS hl)
  | lor =>
    simp only [xgood, Bool.and_eq_true, decide_eq_true_eq] at hg
    obtain ⟨hd, hn, -⟩ := hg
    subst hn
    replace h := x1l_of h
    obtain ⟨y, r, rfl, h⟩ := h
    replace h := x1l_of h
    obtain ⟨x, r, rfl, h⟩ := h
    exact lv_lor hx hb hd (go h hP hD hS hl)
  | lushr =>
    simp only [xgood, Bool.and_eq_true, decide_eq_true_eq] at hg
    obtain ⟨hd, hn, -⟩ := hg
    subst hn
    replace h := x1i_of h
    obtain ⟨y, r, rfl, h⟩ := h
    replace h := x1l_of h
    obtain ⟨x, r, rfl, h⟩ := h
    exact lv_lushr hx hb hd rfl (go h hP hD hS hl)
  | lshl =>
    simp only [xgood, Bool.and_eq_true, decide_eq_true_eq] at hg
    obtain ⟨hd, hn, -⟩ := hg
    subst hn
    replace h := x1i_of h
    obtain ⟨y, r, rfl, h⟩ := h
    replace h := x1l_of h
    obtain ⟨x, r, rfl, h⟩ := h
    exact lv_lshl hx hb hd rfl (go h hP hD hS hl)
  | lshr =>
    simp only [xgood, Bool.and_eq_true, decide_eq_true_eq] at hg
    obtain ⟨hd, hn, -⟩ := hg
    subst hn
    replace h := x1i_of h
    obtain ⟨y, r, rfl, h⟩ := h
    replace h := x1l_of h
    obtain ⟨x, r, rfl, h⟩ := h
    exact lv_lshr hx hb hd rfl (go h hP hD hS hl)
  | i2l =>
    simp only [xgood, Bool.and_eq_true, decide_eq_true_eq] at hg
    obtain ⟨hd, hn, -⟩ := hg
    subst hn
    replace h := x1i_of h
    obtain ⟨x, r, rfl, h⟩ := h
    exact lv_i2l hx hb hd rfl (go h hP hD hS hl)
  | l2i =>
    simp only [xgood, Bool.and_eq_true, decide_eq_true_eq] at hg
    obtain ⟨hd, hn, -⟩ := hg
    subst hn
    replace h := x1l_of h
    obtain ⟨x, r, rfl, h⟩ := h
    exact lv_l2i hx hb hd rfl (go h hP hD hS hl)
  | i2c =>
    simp only [xgood, Bool.and_eq_true, decide_eq_true_eq] at hg
    obtain ⟨hd, hn, -⟩ := hg
    subst hn
    replace h := x1i_of h
    obtain ⟨x, r, rfl, h⟩ := h
    exact lv_i2c hx hb hd rfl (go h hP hD hS hl)
  | dup =>
    simp only [xgood, Bool.and_eq_true, decide_eq_true_eq] at hg
    obtain ⟨hd, hn, -⟩ := hg
    subst hn
    replace h := x1v_of h
    obtain ⟨v, r, rfl, h⟩ := h
    replace h := bif_f h
    obtain ⟨h1, h⟩ := h
    exact lv_dup hx hb hd (xcat1 ad h1) (go h hP hD hS hl)
  | pop =>
    simp only [xgood, Bool.and_eq_true, decide_eq_true_eq] at hg
    obtain ⟨hd, hn, -⟩ := hg
    subst hn
    replace h := x1v_of h
    obtain ⟨v, r, rfl, h⟩ := h
    replace h := bif_f h
    obtain ⟨h1, h⟩ := h
    exact lv_pop hx hb hd (xcat1 ad h1) (go h hP hD hS hl)
  | dup_x1 =>
    simp only [xgood, Bool.and_eq_true, decide_eq_true_eq] at hg
    obtain ⟨hd, hn, -⟩ := hg
    subst hn
    replace h := x1v_of h
    obtain ⟨v, r, rfl, h⟩ := h
    replace h := x1v_of h
    obtain ⟨u, r, rfl, h⟩ := h
    replace h := bif_f h
    obtain ⟨h1, h⟩ := h
    have h1 := Bool.or_eq_false_iff.mp h1
    exact lv_dup_x1 hx hb hd (xcat1 ad h1.1) (xcat1 ad h1.2) (go h hP hD hS hl)
  | dup2 =>
    simp only [xgood, Bool.and_eq_true, decide_eq_true_eq] at hg
    obtain ⟨hd, hn, -⟩ := hg
    subst hn
    replace h := x1v_of h
    obtain ⟨v, r, rfl, h⟩ := h
    replace h := x1v_of h
    obtain ⟨u, r, rfl, h⟩ := h
    replace h := bif_f h
    obtain ⟨h1, h⟩ := h
    have h1 := Bool.or_eq_false_iff.mp h1
    exact lv_dup2_11 hx hb hd (xcat1 ad h1.1) (xcat1 ad h1.2) (go h hP hD hS hl)
  | ifCond cnd off =>
    simp only [xgood, Bool.and_eq_true, decide_eq_true_eq] at hg
    obtain ⟨hd, hn, hs⟩ := hg
    subst hn
    replace h := x1i_of h
    obtain ⟨x, r, rfl, h⟩ := h
    cases cnd with
    | eq => exact lv_if_eq hx hb hd hs (fun q => go (h.1 q) hP hD hS hl) (fun q => go (h.2 q) hP hD hS hl)
    | ne => exact lv_if_ne hx hb hd hs (fun q => go (h.1 q) hP hD hS hl) (fun q => go (h.2 q) hP hD hS hl)
    | lt => exact lv_if_lt hx hb hd hs (fun q => go (h.1 q) hP hD hS hl) (fun q => go (h.2 q) hP hD hS hl)
    | ge => exact lv_if_ge hx hb hd hs (fun q => go (h.1 q) hP hD hS hl) (fun q => go (h.2 q) hP hD hS hl)
    | gt => exact lv_if_gt hx hb hd hs (fun q => go (h.1 q) hP hD hS hl) (fun q => go (h.2 q) hP hD hS hl)
    | le => exact lv_if_le hx hb hd hs (fun q => go (h.1 q) hP hD hS hl) (fun q => go (h.2 q) hP hD hS hl)
  | if_icmp cnd off =>
    simp only [xgood, Bool.and_eq_true, decide_eq_true_eq] at hg
    obtain ⟨hd, hn, hs⟩ := hg
    subst hn
    replace h := x1i_of h
    obtain ⟨y, r, rfl, h⟩ := h
    replace h := x1i_of h
    obtain ⟨x, r, rfl, h⟩ := h
    cases cnd with
    | eq => exact lv_icmp_eq hx hb hd hs (fun q => go (h.1 q) hP hD hS hl) (fun q => go (h.2 q) hP hD hS hl)
    | ne => exact lv_icmp_ne hx hb hd hs (fun q => go (h.1 q) hP hD hS hl) (fun q => go (h.2 q) hP hD hS hl)
    | lt => exact lv_icmp_lt hx hb hd hs (fun q => go (h.1 q) hP hD hS hl) (fun q => go (h.2 q) hP hD hS hl)
    | ge => exact lv_icmp_ge hx hb hd hs (fun q => go (h.1 q) hP hD hS hl) (fun q => go (h.2 q) hP hD hS hl)
    | gt => exact lv_icmp_gt hx hb hd hs (fun q => go (h.1 q) hP hD hS hl) (fun q => go (h.2 q) hP hD hS hl)
    | le => exact lv_icmp_le hx hb hd hs (fun q => go (h.1 q) hP hD hS hl) (fun q => go (h.2 q) hP hD hS hl)
  | goto off =>
    simp only [xgood, Bool.and_eq_true, decide_eq_true_eq] at hg
    obtain ⟨hd, hn, hs⟩ := hg
    exact lv_goto hx hb hd hs (go h hP hD hS hl)
  | tableswitch dflt lo hi offs =>
    simp only [xgood, Bool.and_eq_true, decide_eq_true_eq] at hg
    obtain ⟨hd, hs, hh, ht⟩ := hg
    replace h := x1i_of h
    obtain ⟨x, r, rfl, h⟩ := h
    obtain ⟨q1, q2⟩ := xswT_of offs.toList lo sw ht h
    by_cases hc : x.toInt < lo ∨ hi < x.toInt
    · refine lv_tableOut hx hb hd hc hs (go (q2 (fun j hj => ?_)) hP hD hS hl)
      have hj : j < offs.size := by simpa using hj
      omega
    · have hc1 : ¬ x.toInt < lo := fun z => hc (Or.inl z)
      have hc2 : ¬ hi < x.toInt := fun z => hc (Or.inr z)
      have hlt : (x.toInt - lo).toNat < offs.size := by omega
      obtain ⟨t, e1, e2⟩ := q1 (x.toInt - lo).toNat offs[(x.toInt - lo).toNat] (by rw [Array.getElem?_toList]; exact Array.getElem?_eq_getElem hlt) (by omega)
      exact lv_tableIn hx hb hd hc1 hc2 (Array.getElem?_eq_getElem hlt) e1 (go e2 hP hD hS hl)
  | getfield idx =>
    simp only [xgood, Bool.and_eq_true, decide_eq_true_eq] at hg
    obtain ⟨hd, hn, -⟩ := hg
    subst hn
    replace h := x1r_of h
    obtain ⟨i, r, rfl, h⟩ := h
    replace h := xlk_of h
    obtain ⟨f, hf, h⟩ := h
    replace h := xob_of h
    obtain ⟨fs, hw, h⟩ := h
    replace h := xop_of h
    obtain ⟨v, hv, h⟩ := h
    obtain ⟨Cn, U, N, hc, hkN, -, -, hlink⟩ := okF _ hf
    exact va_get hx hb hts (cls _ _ _ _ hc).1 hown hK hP i (xw_at hw) hc f.2.1 hkN (hts _ hlink) (fun _ h9 => h9) (by rw [List.getElem?_map, hv]; rfl) hd (go h hP hD hS hl)
  | putfield idx =>
    simp only [xgood, Bool.and_eq_true, decide_eq_true_eq] at hg
    obtain ⟨hd, hn, -⟩ := hg
    subst hn
    replace h := x1v_of h
    obtain ⟨v, r, rfl, h⟩ := h
    replace h := x1r_of h
    obtain ⟨i, r, rfl, h⟩ := h
    replace h := xlk_of h
    obtain ⟨f, hf, h⟩ := h
    replace h := xob_of h
    obtain ⟨fs, hw, hfit, h⟩ := h
    replace h := bif_t h
    obtain ⟨h1, h⟩ := h
    have h1 := Bool.and_eq_true_iff.mp h1
    obtain ⟨Cn, U, N, hc, hkN, hty, hfin, hlink⟩ := okF _ hf
    obtain ⟨cl1, cl2, ty0, cl3⟩ := cls _ _ _ _ hc
    have hft := xfit_of ad hfit
    refine va_put hx hb hts cl1 ty0 cl3 cl2 hown hK hP hD hS i (xw_at hw) hc f.2.1 hkN (hts _ hlink) (fun _ h9 => h9) (hfin h1.1) hty hft.1 hft.2 (by rw [List.length_map]; exact xblt h1.2) hd (fun H1 locs1 hP1 hD1 hS1 => ?_)
    have e0 : (ad i, (.inr (f.1, (fs.map (xv ad)).set f.2.1 (xv ad v)) : va_E)) = (ad i, xe tc ad (.inr (f.1, xu fs f.2.1 v))) := by
      rw [xu_eq]; simp [xe, List.map_set]
    rw [e0] at hP1 hD1
    exact go h (xw_setP hP1) (xw_setD hD1) hS1 hl
  | iaload =>
    simp only [xgood, Bool.and_eq_true, decide_eq_true_eq] at hg
    obtain ⟨hd, hn, -⟩ := hg
    subst hn
    replace h := x1i_of h
    obtain ⟨j, r, rfl, h⟩ := h
    replace h := x1r_of h
    obtain ⟨i, r, rfl, h⟩ := h
    replace h := xar_of h
    obtain ⟨n, a, hw, hin, h⟩ := h
    exact va_iald hx hb hK hP i 0 (xw_at hw) rfl hin hd (go h hP hD hS hl)
  | caload =>
    simp only [xgood, Bool.and_eq_true, decide_eq_true_eq] at hg
    obtain ⟨hd, hn, -⟩ := hg
    subst hn
    replace h := x1i_of h
    obtain ⟨j, r, rfl, h⟩ := h
    replace h := x1r_of h
    obtain ⟨i, r, rfl, h⟩ := h
    replace h := xar_of h
    obtain ⟨n, a, hw, hin, h⟩ := h
    exact va_cald hx hb hK hP i 1 (xw_at hw) rfl hin hd (go h hP hD hS hl)
  | baload =>
    simp only [xgood, Bool.and_eq_true, decide_eq_true_eq] at hg
    obtain ⟨hd, hn, -⟩ := hg
    subst hn
    replace h := x1i_of h
    obtain ⟨j, r, rfl, h⟩ := h
    replace h := x1r_of h
    obtain ⟨i, r, rfl, h⟩ := h
    replace h := xar_of h
    obtain ⟨n, a, hw, hin, h⟩ := h
    exact va_zald hx hb hK hP i 2 (xw_at hw) rfl hin hd (go h hP hD hS hl)
  | iastore =>
    simp only [xgood, Bool.and_eq_true, decide_eq_true_eq] at hg
    obtain ⟨hd, hn, -⟩ := hg
    subst hn
    replace h := x1i_of h
    obtain ⟨x, r, rfl, h⟩ := h
    replace h := x1i_of h
    obtain ⟨j, r, rfl, h⟩ := h
    replace h := x1r_of h
    obtain ⟨i, r, rfl, h⟩ := h
    replace h := xar_of h
    obtain ⟨n, a, hw, hin, h⟩ := h
    exact va_iast hx hb hK hP hD hS i 0 (xw_at hw) rfl hin hd (fun H1 locs1 hP1 hD1 hS1 => go h (xw_setP hP1) (xw_setD hD1) hS1 hl)
  | castore =>
    simp only [xgood, Bool.and_eq_true, decide_eq_true_eq] at hg
    obtain ⟨hd, hn, -⟩ := hg
    subst hn
    replace h := x1i_of h
    obtain ⟨x, r, rfl, h⟩ := h
    replace h := x1i_of h
    obtain ⟨j, r, rfl, h⟩ := h
    replace h := x1r_of h
    obtain ⟨i, r, rfl, h⟩ := h
    replace h := xar_of h
    obtain ⟨n, a, hw, hin, h⟩ := h
    exact va_cast hx hb hK hP hD hS i 1 (xw_at hw) rfl hin hd (fun H1 locs1 hP1 hD1 hS1 => go h (xw_setP hP1) (xw_setD hD1) hS1 hl)
  | bastore =>
    simp only [xgood, Bool.and_eq_true, decide_eq_true_eq] at hg
    obtain ⟨hd, hn, -⟩ := hg
    subst hn
    replace h := x1i_of h
    obtain ⟨x, r, rfl, h⟩ := h
    replace h := x1i_of h
    obtain ⟨j, r, rfl, h⟩ := h
    replace h := x1r_of h
    obtain ⟨i, r, rfl, h⟩ := h
    replace h := xar_of h
    obtain ⟨n, a, hw, hin, h⟩ := h
    exact va_zast hx hb hK hP hD hS i 2 (xw_at hw) rfl hin hd (fun H1 locs1 hP1 hD1 hS1 => go h (xw_setP hP1) (xw_setD hD1) hS1 hl)
  | arraylength =>
    simp only [xgood, Bool.and_eq_true, decide_eq_true_eq] at hg
    obtain ⟨hd, hn, -⟩ := hg
    subst hn
    replace h := x1r_of h
    obtain ⟨i, r, rfl, h⟩ := h
    replace h := xar_of h
    obtain ⟨n, a, hw, h⟩ := h
    exact va_alen hx hb hK hP i 0 (xw_at hw) (ty := .int) rfl rfl hd (go h hP hD hS hl)
  | invokestatic idx =>
    simp only [xgood, Bool.and_eq_true, decide_eq_true_eq] at hg
    obtain ⟨hd, hn, -⟩ := hg
    subst hn
    replace h := xlk_of h
    obtain ⟨qk, hq, h⟩ := h
    replace h := bif_f h
    obtain ⟨hst, h⟩ := h
    have hc := okC _ hq
    have hc6 := hc.2.2.2.2.2
    rw [hst] at hc6
    obtain ⟨hc6, hc99⟩ := hc6
    cases h99 : Nat.beq qk.2.2.2 99 with
    | true =>
      rw [h99] at h
      replace h := bif_t h
      obtain ⟨hd0, h⟩ := h
      replace h := x1i_of h
      obtain ⟨y, r, rfl, h⟩ := h
      replace h := x1i_of h
      obtain ⟨x, r, rfl, h⟩ := h
      replace h := bif_t h
      obtain ⟨h8, h⟩ := h
      have e99 := hc99 (Nat.eq_of_beq_eq_true h99)
      have hsum := xct_eq ad r
      have hd0 := xblt hd0
      have h8 := Nat.le_of_ble_eq_true h8
      obtain ⟨w1, w2, -, -, w5, -⟩ := hc
      rw [e99] at w1 w2 w5 hc6
      exact va_mmin (R := xR d) (rest := r.map (xv ad)) hx hb (hml.trans hl.1.symm) hown (hts _ w5) (hts _ hc6) (hts _ w2) (hts _ w1) hd0 (by rw [hsum]; show xct r + 13 ≤ 40 * d; omega) (Nat.zero_le _) (Nat.zero_le _) hd (go h hP hD hS hl)
    | false =>
    rw [h99] at h
    replace h := xtk_of _ _ _ _ h
    obtain ⟨as, r, rfl, hlen, h⟩ := h
    replace h := bif_t h
    obtain ⟨h8, h⟩ := h
    obtain ⟨d', v0, w', hd', hM, h⟩ := h
    rw [List.append_nil] at hM
    have hsum := xct_eq ad r
    refine xcall (A := A) (va_runS (As := as.map (xv ad)) (rest := r.map (xv ad)) ⟨hx, hb, hml, hown, hts⟩ (hM D tc ad H.size) ⟨xcb hts hc hd', hts _ hc6⟩ ⟨xblind, xpre hK hP hD⟩ rfl (by rw [List.length_map]; exact hlen) hl.1 (by simp) (lv_room (by rw [hsum]; exact Nat.le_of_ble_eq_true h8)) hd ⟨Nat.zero_le _, Nat.zero_le _⟩) hS (xfree hD hS hA) (fun v1 w1 H1 locs1 hR hP1 hD1 hS1 => ?_)
    obtain ⟨rfl, rfl⟩ := hR
    have e0 : (v1.map (xv ad)).toList ++ r.map (xv ad) = (v1.toList ++ r).map (xv ad) := by cases v1 <;> simp
    rw [e0]
    exact go h hP1 hD1 hS1 hl
  | invokevirtual idx =>
    simp only [xgood, Bool.and_eq_true, decide_eq_true_eq] at hg
    obtain ⟨hd, hn, -⟩ := hg
    subst hn
    replace h := xlk_of h
    obtain ⟨qk, hq, h⟩ := h
    replace h := bif_t h
    obtain ⟨hst, h⟩ := h
    replace h := xtk_of _ _ _ _ h
    obtain ⟨as, r, rfl, hlen, h⟩ := h
    replace h := x1r_of h
    obtain ⟨i, r, rfl, h⟩ := h
    replace h := bif_t h
    obtain ⟨h8, h⟩ := h
    replace h := xob_of h
    obtain ⟨fs, hw, h⟩ := h
    obtain ⟨d', v0, w', hd', hM, h⟩ := h
    rw [List.append_nil] at hM
    have hc := okC _ hq
    have hc6 := hc.2.2.2.2.2
    rw [hst] at hc6
    obtain ⟨hc7, hc8, U, N, hc9⟩ := hc6
    have hsum := xct_eq ad r
    refine xcall (A := A) (va_runV (As := as.map (xv ad)) (rest := r.map (xv ad)) (b := ad i) ⟨hx, hb, hml, hown, hts⟩ (hM D tc ad H.size) ⟨xcb hts hc hd', hts _ hc7, hts _ hc8⟩ ⟨xblind, va_recv hK hP hc9 (xw_at hw), xpre (as := .ref i :: as) hK hP hD⟩ rfl (by rw [List.length_map]; exact hlen) hl.1 (by simp [xv]) (lv_room (by rw [hsum]; exact Nat.le_of_ble_eq_true h8)) hd ⟨Nat.zero_le _, Nat.zero_le _⟩) hS (xfree hD hS hA) (fun v1 w1 H1 locs1 hR hP1 hD1 hS1 => ?_)
    obtain ⟨rfl, rfl⟩ := hR
    have e0 : (v1.map (xv ad)).toList ++ r.map (xv ad) = (v1.toList ++ r).map (xv ad) := by cases v1 <;> simp
    rw [e0]
    exact go h hP1 hD1 hS1 hl
  | ireturn =>
    simp only [xgood, Bool.and_eq_true, decide_eq_true_eq] at hg
    obtain ⟨hd, hn, -⟩ := hg
    replace h := x1i_of h
    obtain ⟨x, r, rfl, h⟩ := h
    cases r with
    | cons a r => exact h.elim
    | nil =>
      obtain ⟨h1, h⟩ := h
      obtain ⟨ty, e1, e2⟩ := xret_of h1
      exact W.zret hx hb (hr.trans e1) (xfit_of ad e2).1 (fun t ht hW => ⟨some (.int x), w, h, rfl, by rw [ht]; exact hP, hD, va_K.moved hW.alike hK, hS.F ht⟩) hS.2.2 hd hlk
  | areturn =>
    simp only [xgood, Bool.and_eq_true, decide_eq_true_eq] at hg
    obtain ⟨hd, hn, -⟩ := hg
    replace h := x1r_of h
    obtain ⟨x, r, rfl, h⟩ := h
    cases r with
    | cons a r => exact h.elim
    | nil =>
      obtain ⟨h1, h⟩ := h
      obtain ⟨ty, e1, e2⟩ := xret_of h1
      refine W.aret (v := .ref (ad x)) hx hb (hr.trans e1) ?_ (Or.inr ⟨_, rfl⟩) (fun t ht hW => ⟨some (.ref x), w, h, rfl, by rw [ht]; exact hP, hD, va_K.moved hW.alike hK, hS.F ht⟩) hS.2.2 hd hlk
      cases ty <;> first | exact Or.inl ⟨_, rfl⟩ | exact Or.inr ⟨_, rfl⟩ | exact e2.elim
  | return_ =>
    simp only [xgood, Bool.and_eq_true, decide_eq_true_eq] at hg
    obtain ⟨hd, hn, -⟩ := hg
    cases st with
    | cons a r => exact h.elim
    | nil =>
      obtain ⟨h1, h⟩ := h
      exact W.vret hx hb (hr.trans h1) (fun t ht hW => ⟨none, w, h, rfl, by rw [ht]; exact hP, hD, va_K.moved hW.alike hK, hS.F ht⟩) hS.2.2 hd hlk
  | _ => exact h.elim
theorem xb_sound {l : Launch} {d : Nat} {q : XI} {T : List (Nat × XE)} {F : List (Nat × XF)} {C : List (Nat × XK)} {Rt : Option Value → List va_E → Prop} {stop : List (Nat × List Nat)}
    (cls : XCls) (ok : XOk q T F C) : ∀ (n pc : Nat) (ls : List (Nat × Value)) (st : List Value) (w : List va_E), xb d q.2.2.1 T F C (xM l d) q.2.2.2 Rt stop (XW l d q Rt) n pc ls st w → XW l d q Rt pc ls st w
  | 0, pc, ls, st, w, h => h
  | n + 1, pc, ls, st, w, h => by
    rw [xb] at h
    split at h
    · exact xw_sub (fun q hq => xk_mem _ _ q hq) h
    · exact xs_sound cls ok (fun pc ls st w h => xb_sound cls ok n pc ls st w h) h
/-- go on from here, at least a step, up to the places of stop (with the locals that it names) -/
theorem xw_go {l : Launch} {d : Nat} {q : XI} {T : List (Nat × XE)} {F : List (Nat × XF)} {C : List (Nat × XK)} {Rt : Option Value → List va_E → Prop} {pc : Nat} {ls : List (Nat × Value)} {st : List Value} {w : List va_E}
    (cls : XCls) (ok : XOk q T F C) (n : Nat) (stop : List (Nat × List Nat)) (h : xs d q.2.2.1 T F C (xM l d) q.2.2.2 Rt (xb d q.2.2.1 T F C (xM l d) q.2.2.2 Rt stop (XW l d q Rt) n) pc ls st w) : XW l d q Rt pc ls st w :=
  xs_sound cls ok (fun pc ls st w h => xb_sound cls ok n pc ls st w h) h
end
section
/-! words of the tables by their places -/
theorem tb1 {w : Cond} {i : Nat} (h : tables_1_1[i]? = some w) (g : goodWord w = true) : w ∈ wsG := wsG_in (List.mem_append_right _ (List.mem_append_left _ (List.mem_of_getElem? h))) g
theorem tb2 {w : Cond} {i : Nat} (h : tables_1_2[i]? = some w) (g : goodWord w = true) : w ∈ wsG := wsG_in (List.mem_append_right _ (List.mem_append_right _ (List.mem_append_left _ (List.mem_of_getElem? h)))) g
theorem tb3 {w : Cond} {i : Nat} (h : tables_1_3[i]? = some w) (g : goodWord w = true) : w ∈ wsG := wsG_in (List.mem_append_right _ (List.mem_append_right _ (List.mem_append_right _ (List.mem_of_getElem? h)))) g
theorem tbS1 {q : MethodName × Nat} {i : Nat} (h : lw_privs_1[i]? = some q) : Cond.selects q.1.cls q.1 q.1 ∈ wsG := wsG_in (List.mem_append_left _ (List.mem_map.mpr ⟨q, (show q ∈ lw_privs from List.mem_append_left _ (List.mem_of_getElem? h)), rfl⟩)) rfl
theorem tbS2 {q : MethodName × Nat} {i : Nat} (h : lw_privs_2[i]? = some q) : Cond.selects q.1.cls q.1 q.1 ∈ wsG := wsG_in (List.mem_append_left _ (List.mem_map.mpr ⟨q, (show q ∈ lw_privs from List.mem_append_right _ (List.mem_append_left _ (List.mem_of_getElem? h))), rfl⟩)) rfl
theorem tbS3 {q : MethodName × Nat} {i : Nat} (h : lw_privs_3[i]? = some q) : Cond.selects q.1.cls q.1 q.1 ∈ wsG := wsG_in (List.mem_append_left _ (List.mem_map.mpr ⟨q, (show q ∈ lw_privs from List.mem_append_right _ (List.mem_append_right _ (List.mem_append_left _ (List.mem_of_getElem? h)))), rfl⟩)) rfl
theorem tbS4 {q : MethodName × Nat} {i : Nat} (h : lw_privs_4[i]? = some q) : Cond.selects q.1.cls q.1 q.1 ∈ wsG := wsG_in (List.mem_append_left _ (List.mem_map.mpr ⟨q, (show q ∈ lw_privs from List.mem_append_right _ (List.mem_append_right _ (List.mem_append_right _ (List.mem_of_getElem? h)))), rfl⟩)) rfl
theorem u_P : ∀ w ∈ u_ws R_P F_P 16, w ∈ wsG := by
  intro w hw
  obtain ⟨k, hk, rfl⟩ := List.mem_map.mp hw
  have hk : k < 16 := List.mem_range.mp hk
  match k, hk with
  | 0, _ => exact tb1 (i := 121) rfl rfl
  | 1, _ => exact tb1 (i := 123) rfl rfl
  | 2, _ => exact tb1 (i := 125) rfl rfl
  | 3, _ => exact tb1 (i := 127) rfl rfl
  | 4, _ => exact tb1 (i := 129) rfl rfl
  | 5, _ => exact tb1 (i := 131) rfl rfl
  | 6, _ => exact tb1 (i := 133) rfl rfl
  | 7, _ => exact tb1 (i := 135) rfl rfl
  | 8, _ => exact tb1 (i := 137) rfl rfl
  | 9, _ => exact tb1 (i := 139) rfl rfl
  | 10, _ => exact tb1 (i := 141) rfl rfl
  | 11, _ => exact tb1 (i := 143) rfl rfl
  | 12, _ => exact tb1 (i := 145) rfl rfl
  | 13, _ => exact tb1 (i := 147) rfl rfl
  | 14, _ => exact tb1 (i := 149) rfl rfl
  | 15, _ => exact tb1 (i := 151) rfl rfl
  | k + 16, hk => exact absurd hk (by omega)
theorem u_K : ∀ w ∈ u_ws R_K F_K 5, w ∈ wsG := by
  intro w hw
  obtain ⟨k, hk, rfl⟩ := List.mem_map.mp hw
  have hk : k < 5 := List.mem_range.mp hk
  match k, hk with
  | 0, _ => exact tb1 (i := 168) rfl rfl
  | 1, _ => exact tb1 (i := 170) rfl rfl
  | 2, _ => exact tb1 (i := 172) rfl rfl
  | 3, _ => exact tb1 (i := 174) rfl rfl
  | 4, _ => exact tb1 (i := 176) rfl rfl
  | k + 5, hk => exact absurd hk (by omega)
theorem u_H : ∀ w ∈ u_ws R_H F_H 7, w ∈ wsG := by
  intro w hw
  obtain ⟨k, hk, rfl⟩ := List.mem_map.mp hw
  have hk : k < 7 := List.mem_range.mp hk
  match k, hk with
  | 0, _ => exact tb1 (i := 198) rfl rfl
  | 1, _ => exact tb1 (i := 200) rfl rfl
  | 2, _ => exact tb1 (i := 202) rfl rfl
  | 3, _ => exact tb1 (i := 204) rfl rfl
  | 4, _ => exact tb1 (i := 206) rfl rfl
  | 5, _ => exact tb1 (i := 208) rfl rfl
  | 6, _ => exact tb1 (i := 210) rfl rfl
  | k + 7, hk => exact absurd hk (by omega)
theorem u_N : ∀ w ∈ u_ws R_N F_N 5, w ∈ wsG := by
  intro w hw
  obtain ⟨k, hk, rfl⟩ := List.mem_map.mp hw
  have hk : k < 5 := List.mem_range.mp hk
  match k, hk with
  | 0, _ => exact tb1 (i := 218) rfl rfl
  | 1, _ => exact tb1 (i := 220) rfl rfl
  | 2, _ => exact tb1 (i := 222) rfl rfl
  | 3, _ => exact tb1 (i := 224) rfl rfl
  | 4, _ => exact tb1 (i := 226) rfl rfl
  | k + 5, hk => exact absurd hk (by omega)
theorem u_M : ∀ w ∈ u_ws R_M F_M 27, w ∈ wsG := by
  intro w hw
  obtain ⟨k, hk, rfl⟩ := List.mem_map.mp hw
  have hk : k < 27 := List.mem_range.mp hk
  match k, hk with
  | 0, _ => exact tb2 (i := 226) rfl rfl
  | 1, _ => exact tb2 (i := 228) rfl rfl
  | 2, _ => exact tb2 (i := 230) rfl rfl
  | 3, _ => exact tb2 (i := 232) rfl rfl
  | 4, _ => exact tb2 (i := 234) rfl rfl
  | 5, _ => exact tb2 (i := 236) rfl rfl
  | 6, _ => exact tb2 (i := 238) rfl rfl
  | 7, _ => exact tb3 (i := 0) rfl rfl
  | 8, _ => exact tb3 (i := 2) rfl rfl
  | 9, _ => exact tb3 (i := 4) rfl rfl
  | 10, _ => exact tb3 (i := 6) rfl rfl
  | 11, _ => exact tb3 (i := 8) rfl rfl
  | 12, _ => exact tb3 (i := 10) rfl rfl
  | 13, _ => exact tb3 (i := 12) rfl rfl
  | 14, _ => exact tb3 (i := 14) rfl rfl
  | 15, _ => exact tb3 (i := 16) rfl rfl
  | 16, _ => exact tb3 (i := 18) rfl rfl
  | 17, _ => exact tb3 (i := 20) rfl rfl
  | 18, _ => exact tb3 (i := 22) rfl rfl
  | 19, _ => exact tb3 (i := 24) rfl rfl
  | 20, _ => exact tb3 (i := 26) rfl rfl
  | 21, _ => exact tb3 (i := 28) rfl rfl
  | 22, _ => exact tb3 (i := 30) rfl rfl
  | 23, _ => exact tb3 (i := 32) rfl rfl
  | 24, _ => exact tb3 (i := 34) rfl rfl
  | 25, _ => exact tb3 (i := 36) rfl rfl
  | 26, _ => exact tb3 (i := 38) rfl rfl
  | k + 27, hk => exact absurd hk (by omega)
theorem xcls : XCls := by
  intro ci C U N h
  match ci, h with
  | 0, h => obtain ⟨rfl, rfl, rfl⟩ : R_P = C ∧ F_P = U ∧ 16 = N := by simpa [vwCl] using h
            exact ⟨u_P, n_P, t_P, t_P_ok⟩
  | 1, h => obtain ⟨rfl, rfl, rfl⟩ : R_K = C ∧ F_K = U ∧ 5 = N := by simpa [vwCl] using h
            exact ⟨u_K, n_K, t_K, t_K_ok⟩
  | 2, h => obtain ⟨rfl, rfl, rfl⟩ : R_H = C ∧ F_H = U ∧ 7 = N := by simpa [vwCl] using h
            exact ⟨u_H, n_H, t_H, t_H_ok⟩
  | 3, h => obtain ⟨rfl, rfl, rfl⟩ : R_N = C ∧ F_N = U ∧ 5 = N := by simpa [vwCl] using h
            exact ⟨u_N, n_N, t_N, t_N_ok⟩
  | 4, h => obtain ⟨rfl, rfl, rfl⟩ : R_M = C ∧ F_M = U ∧ 27 = N := by simpa [vwCl] using h
            exact ⟨u_M, n_M, t_M, t_M_ok⟩
  | n + 5, h => simp [vwCl] at h
end
section
/-! methods: name, code, locals, answer -/
def q_N_init : XI := (⟨"NullGuard", "<init>", "()V"⟩, prog_1_method_1_code, 1, none)
def q_N_type : XI := (⟨"NullGuard", "type", "(J)Z"⟩, prog_1_method_2_code, 3, (some (.boolean)))
def q_N_wipe : XI := (⟨"NullGuard", "wipe", "()V"⟩, prog_1_method_3_code, 1, none)
def q_N_length : XI := (⟨"NullGuard", "length", "()I"⟩, prog_1_method_4_code, 1, (some (.int)))
def q_N_declare : XI := (⟨"NullGuard", "declare", "(IZ)Z"⟩, prog_1_method_5_code, 4, (some (.boolean)))
def q_N_statements : XI := (⟨"NullGuard", "statements", "()I"⟩, prog_1_method_6_code, 1, (some (.int)))
def q_N_alarms : XI := (⟨"NullGuard", "alarms", "()I"⟩, prog_1_method_7_code, 1, (some (.int)))
def q_N_alarm : XI := (⟨"NullGuard", "alarm", "(I)I"⟩, prog_1_method_8_code, 2, (some (.int)))
def q_N_sure : XI := (⟨"NullGuard", "sure", "(II)I"⟩, prog_1_method_9_code, 3, (some (.int)))
def q_N_linked : XI := (⟨"NullGuard", "linked", "(II)Z"⟩, prog_1_method_10_code, 3, (some (.boolean)))
def q_N_run : XI := (⟨"NullGuard", "run", "(IJ)I"⟩, prog_1_method_11_code, 4, (some (.int)))
def q_N_held : XI := (⟨"NullGuard", "held", "(I)I"⟩, prog_1_method_12_code, 2, (some (.int)))
def q_N_field : XI := (⟨"NullGuard", "field", "(II)I"⟩, prog_1_method_13_code, 3, (some (.int)))
def q_N_objects : XI := (⟨"NullGuard", "objects", "()I"⟩, prog_1_method_14_code, 1, (some (.int)))
def q_N_steps : XI := (⟨"NullGuard", "steps", "()I"⟩, prog_1_method_15_code, 1, (some (.int)))
def q_N_knowledge : XI := (⟨"NullGuard", "knowledge", "()LNullGuard$Checker;"⟩, prog_1_method_16_code, 1, (some (.object "NullGuard$Checker")))
def q_N_isLocal : XI := (⟨"NullGuard", "isLocal", "(I)Z"⟩, prog_1_method_17_code, 1, (some (.boolean)))
def q_M_init : XI := (⟨"NullGuardModel", "<init>", "()V"⟩, prog_6_method_1_code, 1, none)
def q_M_type : XI := (⟨"NullGuardModel", "type", "(J)Z"⟩, prog_6_method_2_code, 6, (some (.boolean)))
def q_M_wipe : XI := (⟨"NullGuardModel", "wipe", "()V"⟩, prog_6_method_3_code, 1, none)
def q_M_length : XI := (⟨"NullGuardModel", "length", "()I"⟩, prog_6_method_4_code, 1, (some (.int)))
def q_M_declare : XI := (⟨"NullGuardModel", "declare", "(IZ)Z"⟩, prog_6_method_5_code, 3, (some (.boolean)))
def q_M_at : XI := (⟨"NullGuardModel", "at", "(I)I"⟩, prog_6_method_6_code, 2, (some (.int)))
def q_M_isLocal : XI := (⟨"NullGuardModel", "isLocal", "(I)Z"⟩, prog_6_method_7_code, 2, (some (.boolean)))
def q_M_isField : XI := (⟨"NullGuardModel", "isField", "(I)Z"⟩, prog_6_method_8_code, 2, (some (.boolean)))
def q_M_value : XI := (⟨"NullGuardModel", "value", "(I)I"⟩, prog_6_method_9_code, 2, (some (.int)))
def q_M_atom : XI := (⟨"NullGuardModel", "atom", "(I)I"⟩, prog_6_method_10_code, 3, (some (.int)))
def q_M_condition : XI := (⟨"NullGuardModel", "condition", "(I)I"⟩, prog_6_method_11_code, 5, (some (.int)))
def q_M_open : XI := (⟨"NullGuardModel", "open", "(I)Z"⟩, prog_6_method_12_code, 2, (some (.boolean)))
def q_M_close : XI := (⟨"NullGuardModel", "close", "(I)I"⟩, prog_6_method_13_code, 3, (some (.int)))
def q_M_part : XI := (⟨"NullGuardModel", "part", "(I)I"⟩, prog_6_method_14_code, 6, (some (.int)))
def q_M_program : XI := (⟨"NullGuardModel", "program", "()Z"⟩, prog_6_method_15_code, 3, (some (.boolean)))
def q_M_statements : XI := (⟨"NullGuardModel", "statements", "()I"⟩, prog_6_method_16_code, 1, (some (.int)))
def q_M_counts : XI := (⟨"NullGuardModel", "counts", "(I)Z"⟩, prog_6_method_17_code, 2, (some (.boolean)))
def q_M_goes : XI := (⟨"NullGuardModel", "goes", "(I)I"⟩, prog_6_method_18_code, 5, (some (.int)))
def q_M_turn : XI := (⟨"NullGuardModel", "turn", "(IZ)I"⟩, prog_6_method_19_code, 6, (some (.int)))
def q_M_join : XI := (⟨"NullGuardModel", "join", "(I)V"⟩, prog_6_method_20_code, 5, none)
def q_M_has : XI := (⟨"NullGuardModel", "has", "(II)Z"⟩, prog_6_method_21_code, 2, (some (.boolean)))
def q_M_use : XI := (⟨"NullGuardModel", "use", "(I)V"⟩, prog_6_method_22_code, 2, none)
def q_M_sureValue : XI := (⟨"NullGuardModel", "sureValue", "(I)Z"⟩, prog_6_method_23_code, 4, (some (.boolean)))
def q_M_assign : XI := (⟨"NullGuardModel", "assign", "(I)V"⟩, prog_6_method_24_code, 6, none)
def q_M_store : XI := (⟨"NullGuardModel", "store", "(I)V"⟩, prog_6_method_25_code, 4, none)
def q_M_branch : XI := (⟨"NullGuardModel", "branch", "(I)V"⟩, prog_6_method_26_code, 10, none)
def q_M_flow : XI := (⟨"NullGuardModel", "flow", "(I)V"⟩, prog_6_method_27_code, 3, none)
def q_M_study : XI := (⟨"NullGuardModel", "study", "()V"⟩, prog_6_method_28_code, 3, none)
def q_M_alarms : XI := (⟨"NullGuardModel", "alarms", "()I"⟩, prog_6_method_29_code, 3, (some (.int)))
def q_M_alarm : XI := (⟨"NullGuardModel", "alarm", "(I)I"⟩, prog_6_method_30_code, 2, (some (.int)))
def q_M_sure : XI := (⟨"NullGuardModel", "sure", "(II)I"⟩, prog_6_method_31_code, 3, (some (.int)))
def q_M_linked : XI := (⟨"NullGuardModel", "linked", "(II)Z"⟩, prog_6_method_32_code, 3, (some (.boolean)))
def q_M_take : XI := (⟨"NullGuardModel", "take", "(I)I"⟩, prog_6_method_33_code, 3, (some (.int)))
def q_M_create : XI := (⟨"NullGuardModel", "create", "()I"⟩, prog_6_method_34_code, 1, (some (.int)))
def q_M_found : XI := (⟨"NullGuardModel", "found", "(I)I"⟩, prog_6_method_35_code, 4, (some (.int)))
def q_M_visit : XI := (⟨"NullGuardModel", "visit", "(I)I"⟩, prog_6_method_36_code, 6, (some (.int)))
def q_M_put : XI := (⟨"NullGuardModel", "put", "(I)I"⟩, prog_6_method_37_code, 4, (some (.int)))
def q_M_keep : XI := (⟨"NullGuardModel", "keep", "(I)I"⟩, prog_6_method_38_code, 4, (some (.int)))
def q_M_choose : XI := (⟨"NullGuardModel", "choose", "(I)I"⟩, prog_6_method_39_code, 4, (some (.int)))
def q_M_run : XI := (⟨"NullGuardModel", "run", "(IJ)I"⟩, prog_6_method_40_code, 8, (some (.int)))
def q_M_held : XI := (⟨"NullGuardModel", "held", "(I)I"⟩, prog_6_method_41_code, 2, (some (.int)))
def q_M_field : XI := (⟨"NullGuardModel", "field", "(II)I"⟩, prog_6_method_42_code, 3, (some (.int)))
def q_M_objects : XI := (⟨"NullGuardModel", "objects", "()I"⟩, prog_6_method_43_code, 1, (some (.int)))
def q_M_steps : XI := (⟨"NullGuardModel", "steps", "()I"⟩, prog_6_method_44_code, 1, (some (.int)))
def q_K_init : XI := (⟨"NullGuard$Checker", "<init>", "()V"⟩, prog_2_method_1_code, 1, none)
def q_K_check : XI := (⟨"NullGuard$Checker", "check", "(LNullGuard$Program;I)V"⟩, prog_2_method_2_code, 5, none)
def q_K_isReached : XI := (⟨"NullGuard$Checker", "isReached", "(I)Z"⟩, prog_2_method_3_code, 2, (some (.boolean)))
def q_K_isSureAt : XI := (⟨"NullGuard$Checker", "isSureAt", "(II)Z"⟩, prog_2_method_4_code, 3, (some (.boolean)))
def q_K_isLinkedAt : XI := (⟨"NullGuard$Checker", "isLinkedAt", "(II)Z"⟩, prog_2_method_5_code, 3, (some (.boolean)))
def q_K_countAlarms : XI := (⟨"NullGuard$Checker", "countAlarms", "()I"⟩, prog_2_method_6_code, 3, (some (.int)))
def q_K_sureBit : XI := (⟨"NullGuard$Checker", "sureBit", "(I)I"⟩, prog_2_method_7_code, 1, (some (.int)))
def q_K_linkedBit : XI := (⟨"NullGuard$Checker", "linkedBit", "(I)I"⟩, prog_2_method_8_code, 1, (some (.int)))
def q_K_flowFrom : XI := (⟨"NullGuard$Checker", "flowFrom", "(LNullGuard$Program;II)V"⟩, prog_2_method_9_code, 4, none)
def q_K_flowTo : XI := (⟨"NullGuard$Checker", "flowTo", "(II)V"⟩, prog_2_method_10_code, 4, none)
def q_K_flowFromAtom : XI := (⟨"NullGuard$Checker", "flowFromAtom", "(LNullGuard$Program;I)V"⟩, prog_2_method_11_code, 5, none)
def q_K_write : XI := (⟨"NullGuard$Checker", "write", "(LNullGuard$Program;II)V"⟩, prog_2_method_12_code, 7, none)
def q_K_writeLocal : XI := (⟨"NullGuard$Checker", "writeLocal", "(IZZZ)V"⟩, prog_2_method_13_code, 5, none)
def q_K_writeFieldH : XI := (⟨"NullGuard$Checker", "writeFieldH", "(IZ)V"⟩, prog_2_method_14_code, 3, none)
def q_K_takeValue : XI := (⟨"NullGuard$Checker", "takeValue", "(II)Z"⟩, prog_2_method_15_code, 3, (some (.boolean)))
def q_K_use : XI := (⟨"NullGuard$Checker", "use", "(I)V"⟩, prog_2_method_16_code, 2, none)
def q_K_has : XI := (⟨"NullGuard$Checker", "has", "(I)Z"⟩, prog_2_method_17_code, 2, (some (.boolean)))
def q_K_set : XI := (⟨"NullGuard$Checker", "set", "(IZ)V"⟩, prog_2_method_18_code, 3, none)
def q_K_unlinkAll : XI := (⟨"NullGuard$Checker", "unlinkAll", "()V"⟩, prog_2_method_19_code, 1, none)
def q_H_init : XI := (⟨"NullGuard$Machine", "<init>", "()V"⟩, prog_3_method_1_code, 1, none)
def q_H_execute : XI := (⟨"NullGuard$Machine", "execute", "(LNullGuard$Program;IIJ)I"⟩, prog_3_method_2_code, 8, (some (.int)))
def q_H_prepare : XI := (⟨"NullGuard$Machine", "prepare", "(IJ)V"⟩, prog_3_method_3_code, 6, none)
def q_H_visit : XI := (⟨"NullGuard$Machine", "visit", "(LNullGuard$Program;II)I"⟩, prog_3_method_4_code, 4, (some (.int)))
def q_H_isTrue : XI := (⟨"NullGuard$Machine", "isTrue", "(II)Z"⟩, prog_3_method_5_code, 3, (some (.boolean)))
def q_H_write : XI := (⟨"NullGuard$Machine", "write", "(LNullGuard$Program;II)V"⟩, prog_3_method_6_code, 6, none)
def q_H_writeLocal : XI := (⟨"NullGuard$Machine", "writeLocal", "(IIZ)V"⟩, prog_3_method_7_code, 4, none)
def q_H_findValue : XI := (⟨"NullGuard$Machine", "findValue", "(II)I"⟩, prog_3_method_8_code, 3, (some (.int)))
def q_H_askOracle : XI := (⟨"NullGuard$Machine", "askOracle", "()I"⟩, prog_3_method_9_code, 2, (some (.int)))
def q_H_makeObject : XI := (⟨"NullGuard$Machine", "makeObject", "()I"⟩, prog_3_method_10_code, 2, (some (.int)))
def q_H_read : XI := (⟨"NullGuard$Machine", "read", "(II)I"⟩, prog_3_method_11_code, 4, (some (.int)))
def q_H_existing : XI := (⟨"NullGuard$Machine", "existing", "(I)I"⟩, prog_3_method_12_code, 2, (some (.int)))
def q_H_takeBits : XI := (⟨"NullGuard$Machine", "takeBits", "(I)I"⟩, prog_3_method_13_code, 3, (some (.int)))
def q_P_init : XI := (⟨"NullGuard$Program", "<init>", "()V"⟩, prog_4_method_1_code, 1, none)
def q_P_append : XI := (⟨"NullGuard$Program", "append", "(J)Z"⟩, prog_4_method_2_code, 6, (some (.boolean)))
def q_P_clear : XI := (⟨"NullGuard$Program", "clear", "()V"⟩, prog_4_method_3_code, 1, none)
def q_P_counts : XI := (⟨"NullGuard$Program", "counts", "(I)Z"⟩, prog_4_method_4_code, 2, (some (.boolean)))
def q_P_parse : XI := (⟨"NullGuard$Program", "parse", "()V"⟩, prog_4_method_5_code, 3, none)
def q_P_byteOf : XI := (⟨"NullGuard$Program", "byteOf", "(JI)I"⟩, prog_4_method_6_code, 3, (some (.int)))
def q_P_countCharacters : XI := (⟨"NullGuard$Program", "countCharacters", "(J)I"⟩, prog_4_method_7_code, 5, (some (.int)))
def q_P_charAt : XI := (⟨"NullGuard$Program", "charAt", "(I)C"⟩, prog_4_method_8_code, 2, (some (.char)))
def q_P_readStatement : XI := (⟨"NullGuard$Program", "readStatement", "(I)I"⟩, prog_4_method_9_code, 3, (some (.int)))
def q_P_readSign : XI := (⟨"NullGuard$Program", "readSign", "(II)I"⟩, prog_4_method_10_code, 3, (some (.int)))
def q_P_readWrite : XI := (⟨"NullGuard$Program", "readWrite", "(I)I"⟩, prog_4_method_11_code, 6, (some (.int)))
def q_P_readCondition : XI := (⟨"NullGuard$Program", "readCondition", "(I)I"⟩, prog_4_method_12_code, 4, (some (.int)))
def q_P_openBlock : XI := (⟨"NullGuard$Program", "openBlock", "(II)I"⟩, prog_4_method_13_code, 3, (some (.int)))
def q_P_closeBlock : XI := (⟨"NullGuard$Program", "closeBlock", "(I)I"⟩, prog_4_method_14_code, 6, (some (.int)))
def q_P_readAtom : XI := (⟨"NullGuard$Program", "readAtom", "(I)I"⟩, prog_4_method_15_code, 4, (some (.int)))
def q_P_localOf : XI := (⟨"NullGuard$Program", "localOf", "(C)I"⟩, prog_4_method_16_code, 1, (some (.int)))
def q_P_partAt : XI := (⟨"NullGuard$Program", "partAt", "(I)I"⟩, prog_4_method_17_code, 3, (some (.int)))
def q_P_valueAt : XI := (⟨"NullGuard$Program", "valueAt", "(I)I"⟩, prog_4_method_18_code, 3, (some (.int)))
def q_P_behind : XI := (⟨"NullGuard$Program", "behind", "(II)I"⟩, prog_4_method_19_code, 2, (some (.int)))
def q_P_linkAtoms : XI := (⟨"NullGuard$Program", "linkAtoms", "(III)V"⟩, prog_4_method_20_code, 8, none)
def q_P_leadWaysOutOfBlocks : XI := (⟨"NullGuard$Program", "leadWaysOutOfBlocks", "()V"⟩, prog_4_method_21_code, 2, none)
def q_P_outOfBlocks : XI := (⟨"NullGuard$Program", "outOfBlocks", "(I)I"⟩, prog_4_method_22_code, 4, (some (.int)))
def q_JM_min : XI := (⟨"java/lang/Math", "min", "(II)I"⟩, prog_7_method_69_code, 2, (some (.int)))
def q_JA_fill : XI := (⟨"java/util/Arrays", "fill", "([II)V"⟩, prog_8_method_103_code, 4, none)
end
section
/-! tables of the methods, by program -/
def T_JM_min : List (Nat × XE) := [(0, (.iload_n 0, 1, 0, 0, [])), (1, (.iload_n 1, 2, 0, 0, [])), (2, (.if_icmp .gt 7, 5, 9, 0, [])), (5, (.iload_n 0, 6, 0, 0, [])), (6, (.goto 4, 9, 10, 0, [])), (9, (.iload_n 1, 10, 0, 0, [])), (10, (.ireturn, 11, 0, 0, []))]
def F_JM_min : List (Nat × XF) := []
def C_JM_min : List (Nat × XK) := []
theorem okT_JM_min : T_JM_min.all (fun e => xgood q_JM_min.2.1 e.1 e.2) = true := by decide +kernel
theorem okF_JM_min : ∀ e ∈ F_JM_min, xfok q_JM_min.1.cls e.1 e.2 := fun _ h => absurd h List.not_mem_nil
theorem okC_JM_min : ∀ e ∈ C_JM_min, xcok q_JM_min.1.cls e.1 e.2 := fun _ h => absurd h List.not_mem_nil
theorem ok_JM_min : XOk q_JM_min T_JM_min F_JM_min C_JM_min := ⟨okT_JM_min, okF_JM_min, okC_JM_min⟩
def T_JA_fill : List (Nat × XE) := [(0, (.iconst 0, 1, 0, 0, [])), (1, (.istore_n 2, 2, 0, 0, [])), (2, (.aload_n 0, 3, 0, 0, [])), (3, (.arraylength, 4, 0, 0, [])), (4, (.istore_n 3, 5, 0, 0, [])), (5, (.iload_n 2, 6, 0, 0, [])), (6, (.iload_n 3, 7, 0, 0, [])), (7, (.if_icmp .ge 13, 10, 20, 0, [])), (10, (.aload_n 0, 11, 0, 0, [])), (11, (.iload_n 2, 12, 0, 0, [])), (12, (.iload_n 1, 13, 0, 0, [])), (13, (.iastore, 14, 0, 0, [])), (14, (.iinc 2 1, 17, 0, 1, [])), (17, (.goto (-12), 20, 5, 0, [])), (20, (.return_, 21, 0, 0, []))]
def F_JA_fill : List (Nat × XF) := []
def C_JA_fill : List (Nat × XK) := []
theorem okT_JA_fill : T_JA_fill.all (fun e => xgood q_JA_fill.2.1 e.1 e.2) = true := by decide +kernel
theorem okF_JA_fill : ∀ e ∈ F_JA_fill, xfok q_JA_fill.1.cls e.1 e.2 := fun _ h => absurd h List.not_mem_nil
theorem okC_JA_fill : ∀ e ∈ C_JA_fill, xcok q_JA_fill.1.cls e.1 e.2 := fun _ h => absurd h List.not_mem_nil
theorem ok_JA_fill : XOk q_JA_fill T_JA_fill F_JA_fill C_JA_fill := ⟨okT_JA_fill, okF_JA_fill, okC_JA_fill⟩
end
section
/-! tables of the methods, by program -/
def T_P_append : List (Nat × XE) := [(0, (.lload_n 1, 1, 0, 0, [])), (1, (.invokestatic 52, 4, 0, 0, [])), (4, (.istore_n 3, 5, 0, 0, [])), (5, (.iload_n 3, 6, 0, 0, [])), (6, (.iconst (-1), 7, 0, (-1), [])), (7, (.if_icmp .eq 14, 10, 21, 0, [])), (10, (.aload_n 0, 11, 0, 0, [])), (11, (.getfield 56, 14, 0, 0, [])), (14, (.iload_n 3, 15, 0, 0, [])), (15, (.iadd, 16, 0, 0, [])), (16, (.bipush 64, 18, 0, 64, [])), (18, (.if_icmp .le 5, 21, 23, 0, [])), (21, (.iconst 0, 22, 0, 0, [])), (22, (.ireturn, 23, 0, 0, [])), (23, (.bipush 56, 25, 0, 56, [])), (25, (.istore 4, 27, 0, 0, [])), (27, (.iload 4, 29, 0, 0, [])), (29, (.ifCond .lt 44, 32, 73, 0, [])), (32, (.lload_n 1, 33, 0, 0, [])), (33, (.iload 4, 35, 0, 0, [])), (35, (.invokestatic 60, 38, 0, 0, [])), (38, (.istore 5, 40, 0, 0, [])), (40, (.iload 5, 42, 0, 0, [])), (42, (.ifCond .eq 25, 45, 67, 0, [])), (45, (.aload_n 0, 46, 0, 0, [])), (46, (.getfield 9, 49, 0, 0, [])), (49, (.aload_n 0, 50, 0, 0, [])), (50, (.getfield 56, 53, 0, 0, [])), (53, (.iload 5, 55, 0, 0, [])), (55, (.i2c, 56, 0, 0, [])), (56, (.castore, 57, 0, 0, [])), (57, (.aload_n 0, 58, 0, 0, [])), (58, (.dup, 59, 0, 0, [])), (59, (.getfield 56, 62, 0, 0, [])), (62, (.iconst 1, 63, 0, 1, [])), (63, (.iadd, 64, 0, 0, [])), (64, (.putfield 56, 67, 0, 0, [])), (67, (.iinc 4 (-8), 70, 0, (-8), [])), (70, (.goto (-43), 73, 27, 0, [])), (73, (.iconst 1, 74, 0, 1, [])), (74, (.ireturn, 75, 0, 0, []))]
def F_P_append : List (Nat × XF) := [(56, (0, 1, .int, true)), (9, (0, 0, .array .char, false))]
def C_P_append : List (Nat × XK) := [(52, (q_P_countCharacters, false, 1, 0)), (60, (q_P_byteOf, false, 2, 0))]
theorem okT_P_append : T_P_append.all (fun e => xgood q_P_append.2.1 e.1 e.2) = true := by decide +kernel
theorem okF_P_append : ∀ e ∈ F_P_append, xfok q_P_append.1.cls e.1 e.2 := List.forall_mem_cons.mpr ⟨⟨R_P, F_P, 16, rfl, by decide, t_P_ok 1 (by decide), (fun _ => rfl), tb1 (i := 88) rfl rfl⟩, List.forall_mem_cons.mpr ⟨⟨R_P, F_P, 16, rfl, by decide, t_P_ok 0 (by decide), (fun h => Bool.noConfusion h), tb1 (i := 87) rfl rfl⟩, fun _ h => absurd h List.not_mem_nil⟩⟩
theorem okC_P_append : ∀ e ∈ C_P_append, xcok q_P_append.1.cls e.1 e.2 := List.forall_mem_cons.mpr ⟨⟨tb1 (i := 239) rfl rfl, tb1 (i := 2) rfl rfl, ⟨by decide, by decide, by decide +kernel⟩, by decide, tb1 (i := 237) rfl rfl, tb1 (i := 238) rfl rfl, fun h => absurd h (by decide)⟩, List.forall_mem_cons.mpr ⟨⟨tb2 (i := 2) rfl rfl, tb1 (i := 2) rfl rfl, ⟨by decide, by decide, by decide +kernel⟩, by decide, tb2 (i := 0) rfl rfl, tb2 (i := 1) rfl rfl, fun h => absurd h (by decide)⟩, fun _ h => absurd h List.not_mem_nil⟩⟩
theorem ok_P_append : XOk q_P_append T_P_append F_P_append C_P_append := ⟨okT_P_append, okF_P_append, okC_P_append⟩
def T_P_clear : List (Nat × XE) := [(0, (.aload_n 0, 1, 0, 0, [])), (1, (.iconst 0, 2, 0, 0, [])), (2, (.putfield 56, 5, 0, 0, [])), (5, (.return_, 6, 0, 0, []))]
def F_P_clear : List (Nat × XF) := [(56, (0, 1, .int, true))]
def C_P_clear : List (Nat × XK) := []
theorem okT_P_clear : T_P_clear.all (fun e => xgood q_P_clear.2.1 e.1 e.2) = true := by decide +kernel
theorem okF_P_clear : ∀ e ∈ F_P_clear, xfok q_P_clear.1.cls e.1 e.2 := List.forall_mem_cons.mpr ⟨⟨R_P, F_P, 16, rfl, by decide, t_P_ok 1 (by decide), (fun _ => rfl), tb1 (i := 88) rfl rfl⟩, fun _ h => absurd h List.not_mem_nil⟩
theorem okC_P_clear : ∀ e ∈ C_P_clear, xcok q_P_clear.1.cls e.1 e.2 := fun _ h => absurd h List.not_mem_nil
theorem ok_P_clear : XOk q_P_clear T_P_clear F_P_clear C_P_clear := ⟨okT_P_clear, okF_P_clear, okC_P_clear⟩
def T_P_counts : List (Nat × XE) := [(0, (.aload_n 0, 1, 0, 0, [])), (1, (.getfield 64, 4, 0, 0, [])), (4, (.ifCond .eq 28, 7, 32, 0, [])), (7, (.iload_n 1, 8, 0, 0, [])), (8, (.ifCond .lt 24, 11, 32, 0, [])), (11, (.iload_n 1, 12, 0, 0, [])), (12, (.aload_n 0, 13, 0, 0, [])), (13, (.getfield 56, 16, 0, 0, [])), (16, (.if_icmp .gt 16, 19, 32, 0, [])), (19, (.aload_n 0, 20, 0, 0, [])), (20, (.getfield 15, 23, 0, 0, [])), (23, (.iload_n 1, 24, 0, 0, [])), (24, (.iaload, 25, 0, 0, [])), (25, (.ifCond .eq 7, 28, 32, 0, [])), (28, (.iconst 1, 29, 0, 1, [])), (29, (.goto 4, 32, 33, 0, [])), (32, (.iconst 0, 33, 0, 0, [])), (33, (.ireturn, 34, 0, 0, []))]
def F_P_counts : List (Nat × XF) := [(64, (0, 2, .boolean, true)), (56, (0, 1, .int, true)), (15, (0, 4, .array .int, false))]
def C_P_counts : List (Nat × XK) := []
theorem okT_P_counts : T_P_counts.all (fun e => xgood q_P_counts.2.1 e.1 e.2) = true := by decide +kernel
theorem okF_P_counts : ∀ e ∈ F_P_counts, xfok q_P_counts.1.cls e.1 e.2 := List.forall_mem_cons.mpr ⟨⟨R_P, F_P, 16, rfl, by decide, t_P_ok 2 (by decide), (fun _ => rfl), tb1 (i := 91) rfl rfl⟩, List.forall_mem_cons.mpr ⟨⟨R_P, F_P, 16, rfl, by decide, t_P_ok 1 (by decide), (fun _ => rfl), tb1 (i := 88) rfl rfl⟩, List.forall_mem_cons.mpr ⟨⟨R_P, F_P, 16, rfl, by decide, t_P_ok 4 (by decide), (fun h => Bool.noConfusion h), tb1 (i := 95) rfl rfl⟩, fun _ h => absurd h List.not_mem_nil⟩⟩⟩
theorem okC_P_counts : ∀ e ∈ C_P_counts, xcok q_P_counts.1.cls e.1 e.2 := fun _ h => absurd h List.not_mem_nil
theorem ok_P_counts : XOk q_P_counts T_P_counts F_P_counts C_P_counts := ⟨okT_P_counts, okF_P_counts, okC_P_counts⟩
def T_P_parse : List (Nat × XE) := [(0, (.aload_n 0, 1, 0, 0, [])), (1, (.getfield 15, 4, 0, 0, [])), (4, (.iconst 0, 5, 0, 0, [])), (5, (.invokestatic 68, 8, 0, 0, [])), (8, (.aload_n 0, 9, 0, 0, [])), (9, (.iconst 0, 10, 0, 0, [])), (10, (.putfield 74, 13, 0, 0, [])), (13, (.aload_n 0, 14, 0, 0, [])), (14, (.iconst 0, 15, 0, 0, [])), (15, (.putfield 77, 18, 0, 0, [])), (18, (.iconst 0, 19, 0, 0, [])), (19, (.istore_n 1, 20, 0, 0, [])), (20, (.iconst 0, 21, 0, 0, [])), (21, (.istore_n 2, 22, 0, 0, [])), (22, (.iload_n 2, 23, 0, 0, [])), (23, (.bipush 64, 25, 0, 64, [])), (25, (.if_icmp .ge 45, 28, 70, 0, [])), (28, (.iload_n 1, 29, 0, 0, [])), (29, (.ifCond .lt 41, 32, 70, 0, [])), (32, (.iload_n 1, 33, 0, 0, [])), (33, (.aload_n 0, 34, 0, 0, [])), (34, (.getfield 56, 37, 0, 0, [])), (37, (.if_icmp .ge 33, 40, 70, 0, [])), (40, (.aload_n 0, 41, 0, 0, [])), (41, (.iload_n 1, 42, 0, 0, [])), (42, (.invokevirtual 80, 45, 0, 0, [])), (45, (.bipush 125, 47, 0, 125, [])), (47, (.if_icmp .ne 11, 50, 58, 0, [])), (50, (.aload_n 0, 51, 0, 0, [])), (51, (.iload_n 1, 52, 0, 0, [])), (52, (.invokevirtual 84, 55, 0, 0, [])), (55, (.goto 8, 58, 63, 0, [])), (58, (.aload_n 0, 59, 0, 0, [])), (59, (.iload_n 1, 60, 0, 0, [])), (60, (.invokevirtual 88, 63, 0, 0, [])), (63, (.istore_n 1, 64, 0, 0, [])), (64, (.iinc 2 1, 67, 0, 1, [])), (67, (.goto (-45), 70, 22, 0, [])), (70, (.aload_n 0, 71, 0, 0, [])), (71, (.iload_n 1, 72, 0, 0, [])), (72, (.aload_n 0, 73, 0, 0, [])), (73, (.getfield 56, 76, 0, 0, [])), (76, (.if_icmp .ne 14, 79, 90, 0, [])), (79, (.aload_n 0, 80, 0, 0, [])), (80, (.getfield 77, 83, 0, 0, [])), (83, (.ifCond .ne 7, 86, 90, 0, [])), (86, (.iconst 1, 87, 0, 1, [])), (87, (.goto 4, 90, 91, 0, [])), (90, (.iconst 0, 91, 0, 0, [])), (91, (.putfield 64, 94, 0, 0, [])), (94, (.aload_n 0, 95, 0, 0, [])), (95, (.getfield 64, 98, 0, 0, [])), (98, (.ifCond .eq 18, 101, 116, 0, [])), (101, (.aload_n 0, 102, 0, 0, [])), (102, (.getfield 15, 105, 0, 0, [])), (105, (.aload_n 0, 106, 0, 0, [])), (106, (.getfield 56, 109, 0, 0, [])), (109, (.bipush 6, 111, 0, 6, [])), (111, (.iastore, 112, 0, 0, [])), (112, (.aload_n 0, 113, 0, 0, [])), (113, (.invokevirtual 91, 116, 0, 0, [])), (116, (.return_, 117, 0, 0, []))]
def F_P_parse : List (Nat × XF) := [(15, (0, 4, .array .int, false)), (74, (0, 3, .int, true)), (77, (0, 15, .int, true)), (56, (0, 1, .int, true)), (64, (0, 2, .boolean, true))]
def C_P_parse : List (Nat × XK) := [(68, (q_JA_fill, false, 2, 0)), (80, (q_P_charAt, true, 1, 0)), (84, (q_P_closeBlock, true, 1, 0)), (88, (q_P_readStatement, true, 1, 0)), (91, (q_P_leadWaysOutOfBlocks, true, 0, 0))]
theorem okT_P_parse : T_P_parse.all (fun e => xgood q_P_parse.2.1 e.1 e.2) = true := by decide +kernel
theorem okF_P_parse : ∀ e ∈ F_P_parse, xfok q_P_parse.1.cls e.1 e.2 := List.forall_mem_cons.mpr ⟨⟨R_P, F_P, 16, rfl, by decide, t_P_ok 4 (by decide), (fun h => Bool.noConfusion h), tb1 (i := 95) rfl rfl⟩, List.forall_mem_cons.mpr ⟨⟨R_P, F_P, 16, rfl, by decide, t_P_ok 3 (by decide), (fun _ => rfl), tb1 (i := 93) rfl rfl⟩, List.forall_mem_cons.mpr ⟨⟨R_P, F_P, 16, rfl, by decide, t_P_ok 15 (by decide), (fun _ => rfl), tb1 (i := 120) rfl rfl⟩, List.forall_mem_cons.mpr ⟨⟨R_P, F_P, 16, rfl, by decide, t_P_ok 1 (by decide), (fun _ => rfl), tb1 (i := 88) rfl rfl⟩, List.forall_mem_cons.mpr ⟨⟨R_P, F_P, 16, rfl, by decide, t_P_ok 2 (by decide), (fun _ => rfl), tb1 (i := 91) rfl rfl⟩, fun _ h => absurd h List.not_mem_nil⟩⟩⟩⟩⟩
theorem okC_P_parse : ∀ e ∈ C_P_parse, xcok q_P_parse.1.cls e.1 e.2 := List.forall_mem_cons.mpr ⟨⟨tb1 (i := 28) rfl rfl, tb1 (i := 3) rfl rfl, ⟨by decide, by decide, by decide +kernel⟩, by decide, tb1 (i := 26) rfl rfl, tb1 (i := 27) rfl rfl, fun h => absurd h (by decide)⟩, List.forall_mem_cons.mpr ⟨⟨tb1 (i := 32) rfl rfl, tb1 (i := 2) rfl rfl, ⟨by decide, by decide, by decide +kernel⟩, by decide, tb1 (i := 29) rfl rfl, tb1 (i := 31) rfl rfl, tbS1 (i := 0) rfl, F_P, 16, rfl⟩, List.forall_mem_cons.mpr ⟨⟨tb1 (i := 36) rfl rfl, tb1 (i := 2) rfl rfl, ⟨by decide, by decide, by decide +kernel⟩, by decide, tb1 (i := 33) rfl rfl, tb1 (i := 35) rfl rfl, tbS1 (i := 1) rfl, F_P, 16, rfl⟩, List.forall_mem_cons.mpr ⟨⟨tb1 (i := 44) rfl rfl, tb1 (i := 2) rfl rfl, ⟨by decide, by decide, by decide +kernel⟩, by decide, tb1 (i := 41) rfl rfl, tb1 (i := 43) rfl rfl, tbS1 (i := 3) rfl, F_P, 16, rfl⟩, List.forall_mem_cons.mpr ⟨⟨tb1 (i := 82) rfl rfl, tb1 (i := 2) rfl rfl, ⟨by decide, by decide, by decide +kernel⟩, by decide, tb1 (i := 79) rfl rfl, tb1 (i := 81) rfl rfl, tbS1 (i := 11) rfl, F_P, 16, rfl⟩, fun _ h => absurd h List.not_mem_nil⟩⟩⟩⟩⟩
theorem ok_P_parse : XOk q_P_parse T_P_parse F_P_parse C_P_parse := ⟨okT_P_parse, okF_P_parse, okC_P_parse⟩
def T_P_byteOf : List (Nat × XE) := [(0, (.lload_n 0, 1, 0, 0, [])), (1, (.iload_n 2, 2, 0, 0, [])), (2, (.lushr, 3, 0, 0, [])), (3, (.l2i, 4, 0, 0, [])), (4, (.sipush 255, 7, 0, 255, [])), (7, (.iand, 8, 0, 0, [])), (8, (.ireturn, 9, 0, 0, []))]
def F_P_byteOf : List (Nat × XF) := []
def C_P_byteOf : List (Nat × XK) := []
theorem okT_P_byteOf : T_P_byteOf.all (fun e => xgood q_P_byteOf.2.1 e.1 e.2) = true := by decide +kernel
theorem okF_P_byteOf : ∀ e ∈ F_P_byteOf, xfok q_P_byteOf.1.cls e.1 e.2 := fun _ h => absurd h List.not_mem_nil
theorem okC_P_byteOf : ∀ e ∈ C_P_byteOf, xcok q_P_byteOf.1.cls e.1 e.2 := fun _ h => absurd h List.not_mem_nil
theorem ok_P_byteOf : XOk q_P_byteOf T_P_byteOf F_P_byteOf C_P_byteOf := ⟨okT_P_byteOf, okF_P_byteOf, okC_P_byteOf⟩
def T_P_countCharacters : List (Nat × XE) := [(0, (.iconst 0, 1, 0, 0, [])), (1, (.istore_n 2, 2, 0, 0, [])), (2, (.bipush 56, 4, 0, 56, [])), (4, (.istore_n 3, 5, 0, 0, [])), (5, (.iload_n 3, 6, 0, 0, [])), (6, (.ifCond .lt 50, 9, 56, 0, [])), (9, (.lload_n 0, 10, 0, 0, [])), (10, (.iload_n 3, 11, 0, 0, [])), (11, (.invokestatic 60, 14, 0, 0, [])), (14, (.istore 4, 16, 0, 0, [])), (16, (.iload 4, 18, 0, 0, [])), (18, (.ifCond .eq 19, 21, 37, 0, [])), (21, (.iload 4, 23, 0, 0, [])), (23, (.bipush 33, 25, 0, 33, [])), (25, (.if_icmp .lt 10, 28, 35, 0, [])), (28, (.iload 4, 30, 0, 0, [])), (30, (.bipush 126, 32, 0, 126, [])), (32, (.if_icmp .le 5, 35, 37, 0, [])), (35, (.iconst (-1), 36, 0, (-1), [])), (36, (.ireturn, 37, 0, 0, [])), (37, (.iload_n 2, 38, 0, 0, [])), (38, (.iload 4, 40, 0, 0, [])), (40, (.ifCond .eq 7, 43, 47, 0, [])), (43, (.iconst 1, 44, 0, 1, [])), (44, (.goto 4, 47, 48, 0, [])), (47, (.iconst 0, 48, 0, 0, [])), (48, (.iadd, 49, 0, 0, [])), (49, (.istore_n 2, 50, 0, 0, [])), (50, (.iinc 3 (-8), 53, 0, (-8), [])), (53, (.goto (-48), 56, 5, 0, [])), (56, (.iload_n 2, 57, 0, 0, [])), (57, (.ireturn, 58, 0, 0, []))]
def F_P_countCharacters : List (Nat × XF) := []
def C_P_countCharacters : List (Nat × XK) := [(60, (q_P_byteOf, false, 2, 0))]
theorem okT_P_countCharacters : T_P_countCharacters.all (fun e => xgood q_P_countCharacters.2.1 e.1 e.2) = true := by decide +kernel
theorem okF_P_countCharacters : ∀ e ∈ F_P_countCharacters, xfok q_P_countCharacters.1.cls e.1 e.2 := fun _ h => absurd h List.not_mem_nil
theorem okC_P_countCharacters : ∀ e ∈ C_P_countCharacters, xcok q_P_countCharacters.1.cls e.1 e.2 := List.forall_mem_cons.mpr ⟨⟨tb2 (i := 2) rfl rfl, tb1 (i := 2) rfl rfl, ⟨by decide, by decide, by decide +kernel⟩, by decide, tb2 (i := 0) rfl rfl, tb2 (i := 1) rfl rfl, fun h => absurd h (by decide)⟩, fun _ h => absurd h List.not_mem_nil⟩
theorem ok_P_countCharacters : XOk q_P_countCharacters T_P_countCharacters F_P_countCharacters C_P_countCharacters := ⟨okT_P_countCharacters, okF_P_countCharacters, okC_P_countCharacters⟩
def T_P_charAt : List (Nat × XE) := [(0, (.iload_n 1, 1, 0, 0, [])), (1, (.ifCond .lt 20, 4, 21, 0, [])), (4, (.iload_n 1, 5, 0, 0, [])), (5, (.aload_n 0, 6, 0, 0, [])), (6, (.getfield 56, 9, 0, 0, [])), (9, (.if_icmp .ge 12, 12, 21, 0, [])), (12, (.aload_n 0, 13, 0, 0, [])), (13, (.getfield 9, 16, 0, 0, [])), (16, (.iload_n 1, 17, 0, 0, [])), (17, (.caload, 18, 0, 0, [])), (18, (.goto 4, 21, 22, 0, [])), (21, (.iconst 0, 22, 0, 0, [])), (22, (.ireturn, 23, 0, 0, []))]
def F_P_charAt : List (Nat × XF) := [(56, (0, 1, .int, true)), (9, (0, 0, .array .char, false))]
def C_P_charAt : List (Nat × XK) := []
theorem okT_P_charAt : T_P_charAt.all (fun e => xgood q_P_charAt.2.1 e.1 e.2) = true := by decide +kernel
theorem okF_P_charAt : ∀ e ∈ F_P_charAt, xfok q_P_charAt.1.cls e.1 e.2 := List.forall_mem_cons.mpr ⟨⟨R_P, F_P, 16, rfl, by decide, t_P_ok 1 (by decide), (fun _ => rfl), tb1 (i := 88) rfl rfl⟩, List.forall_mem_cons.mpr ⟨⟨R_P, F_P, 16, rfl, by decide, t_P_ok 0 (by decide), (fun h => Bool.noConfusion h), tb1 (i := 87) rfl rfl⟩, fun _ h => absurd h List.not_mem_nil⟩⟩
theorem okC_P_charAt : ∀ e ∈ C_P_charAt, xcok q_P_charAt.1.cls e.1 e.2 := fun _ h => absurd h List.not_mem_nil
theorem ok_P_charAt : XOk q_P_charAt T_P_charAt F_P_charAt C_P_charAt := ⟨okT_P_charAt, okF_P_charAt, okC_P_charAt⟩
def T_P_readStatement : List (Nat × XE) := [(0, (.aload_n 0, 1, 0, 0, [])), (1, (.dup, 2, 0, 0, [])), (2, (.getfield 74, 5, 0, 0, [])), (5, (.iconst 1, 6, 0, 1, [])), (6, (.iadd, 7, 0, 0, [])), (7, (.putfield 74, 10, 0, 0, [])), (10, (.aload_n 0, 11, 0, 0, [])), (11, (.iload_n 1, 12, 0, 0, [])), (12, (.invokevirtual 80, 15, 0, 0, [])), (15, (.istore_n 2, 16, 0, 0, [])), (16, (.iload_n 2, 17, 0, 0, [])), (17, (.bipush 63, 19, 0, 63, [])), (19, (.if_icmp .eq 9, 22, 28, 0, [])), (22, (.iload_n 2, 23, 0, 0, [])), (23, (.bipush 42, 25, 0, 42, [])), (25, (.if_icmp .ne 14, 28, 39, 0, [])), (28, (.aload_n 0, 29, 0, 0, [])), (29, (.iload_n 1, 30, 0, 0, [])), (30, (.aload_n 0, 31, 0, 0, [])), (31, (.iload_n 1, 32, 0, 0, [])), (32, (.invokevirtual 94, 35, 0, 0, [])), (35, (.invokevirtual 97, 38, 0, 0, [])), (38, (.ireturn, 39, 0, 0, [])), (39, (.iload_n 2, 40, 0, 0, [])), (40, (.bipush 33, 42, 0, 33, [])), (42, (.if_icmp .ne 10, 45, 52, 0, [])), (45, (.aload_n 0, 46, 0, 0, [])), (46, (.iload_n 1, 47, 0, 0, [])), (47, (.iconst 3, 48, 0, 3, [])), (48, (.invokevirtual 101, 51, 0, 0, [])), (51, (.ireturn, 52, 0, 0, [])), (52, (.iload_n 2, 53, 0, 0, [])), (53, (.bipush 94, 55, 0, 94, [])), (55, (.if_icmp .ne 10, 58, 65, 0, [])), (58, (.aload_n 0, 59, 0, 0, [])), (59, (.iload_n 1, 60, 0, 0, [])), (60, (.iconst 4, 61, 0, 4, [])), (61, (.invokevirtual 101, 64, 0, 0, [])), (64, (.ireturn, 65, 0, 0, [])), (65, (.aload_n 0, 66, 0, 0, [])), (66, (.iload_n 1, 67, 0, 0, [])), (67, (.invokevirtual 104, 70, 0, 0, [])), (70, (.ireturn, 71, 0, 0, []))]
def F_P_readStatement : List (Nat × XF) := [(74, (0, 3, .int, true))]
def C_P_readStatement : List (Nat × XK) := [(80, (q_P_charAt, true, 1, 0)), (94, (q_P_readCondition, true, 1, 0)), (97, (q_P_openBlock, true, 2, 0)), (101, (q_P_readSign, true, 2, 0)), (104, (q_P_readWrite, true, 1, 0))]
theorem okT_P_readStatement : T_P_readStatement.all (fun e => xgood q_P_readStatement.2.1 e.1 e.2) = true := by decide +kernel
theorem okF_P_readStatement : ∀ e ∈ F_P_readStatement, xfok q_P_readStatement.1.cls e.1 e.2 := List.forall_mem_cons.mpr ⟨⟨R_P, F_P, 16, rfl, by decide, t_P_ok 3 (by decide), (fun _ => rfl), tb1 (i := 93) rfl rfl⟩, fun _ h => absurd h List.not_mem_nil⟩
theorem okC_P_readStatement : ∀ e ∈ C_P_readStatement, xcok q_P_readStatement.1.cls e.1 e.2 := List.forall_mem_cons.mpr ⟨⟨tb1 (i := 32) rfl rfl, tb1 (i := 2) rfl rfl, ⟨by decide, by decide, by decide +kernel⟩, by decide, tb1 (i := 29) rfl rfl, tb1 (i := 31) rfl rfl, tbS1 (i := 0) rfl, F_P, 16, rfl⟩, List.forall_mem_cons.mpr ⟨⟨tb1 (i := 48) rfl rfl, tb1 (i := 2) rfl rfl, ⟨by decide, by decide, by decide +kernel⟩, by decide, tb1 (i := 45) rfl rfl, tb1 (i := 47) rfl rfl, tbS1 (i := 4) rfl, F_P, 16, rfl⟩, List.forall_mem_cons.mpr ⟨⟨tb1 (i := 66) rfl rfl, tb1 (i := 2) rfl rfl, ⟨by decide, by decide, by decide +kernel⟩, by decide, tb1 (i := 63) rfl rfl, tb1 (i := 65) rfl rfl, tbS1 (i := 7) rfl, F_P, 16, rfl⟩, List.forall_mem_cons.mpr ⟨⟨tb1 (i := 70) rfl rfl, tb1 (i := 2) rfl rfl, ⟨by decide, by decide, by decide +kernel⟩, by decide, tb1 (i := 67) rfl rfl, tb1 (i := 69) rfl rfl, tbS1 (i := 8) rfl, F_P, 16, rfl⟩, List.forall_mem_cons.mpr ⟨⟨tb1 (i := 74) rfl rfl, tb1 (i := 2) rfl rfl, ⟨by decide, by decide, by decide +kernel⟩, by decide, tb1 (i := 71) rfl rfl, tb1 (i := 73) rfl rfl, tbS1 (i := 9) rfl, F_P, 16, rfl⟩, fun _ h => absurd h List.not_mem_nil⟩⟩⟩⟩⟩
theorem ok_P_readStatement : XOk q_P_readStatement T_P_readStatement F_P_readStatement C_P_readStatement := ⟨okT_P_readStatement, okF_P_readStatement, okC_P_readStatement⟩
def T_P_readSign : List (Nat × XE) := [(0, (.aload_n 0, 1, 0, 0, [])), (1, (.getfield 15, 4, 0, 0, [])), (4, (.iload_n 1, 5, 0, 0, [])), (5, (.iload_n 2, 6, 0, 0, [])), (6, (.iastore, 7, 0, 0, [])), (7, (.aload_n 0, 8, 0, 0, [])), (8, (.getfield 31, 11, 0, 0, [])), (11, (.iload_n 1, 12, 0, 0, [])), (12, (.iload_n 1, 13, 0, 0, [])), (13, (.iconst 2, 14, 0, 2, [])), (14, (.iadd, 15, 0, 0, [])), (15, (.iastore, 16, 0, 0, [])), (16, (.aload_n 0, 17, 0, 0, [])), (17, (.iload_n 1, 18, 0, 0, [])), (18, (.iconst 1, 19, 0, 1, [])), (19, (.iadd, 20, 0, 0, [])), (20, (.invokevirtual 80, 23, 0, 0, [])), (23, (.bipush 59, 25, 0, 59, [])), (25, (.if_icmp .ne 9, 28, 34, 0, [])), (28, (.iload_n 1, 29, 0, 0, [])), (29, (.iconst 2, 30, 0, 2, [])), (30, (.iadd, 31, 0, 0, [])), (31, (.goto 4, 34, 35, 0, [])), (34, (.iconst (-1), 35, 0, (-1), [])), (35, (.ireturn, 36, 0, 0, []))]
def F_P_readSign : List (Nat × XF) := [(15, (0, 4, .array .int, false)), (31, (0, 9, .array .int, false))]
def C_P_readSign : List (Nat × XK) := [(80, (q_P_charAt, true, 1, 0))]
theorem okT_P_readSign : T_P_readSign.all (fun e => xgood q_P_readSign.2.1 e.1 e.2) = true := by decide +kernel
theorem okF_P_readSign : ∀ e ∈ F_P_readSign, xfok q_P_readSign.1.cls e.1 e.2 := List.forall_mem_cons.mpr ⟨⟨R_P, F_P, 16, rfl, by decide, t_P_ok 4 (by decide), (fun h => Bool.noConfusion h), tb1 (i := 95) rfl rfl⟩, List.forall_mem_cons.mpr ⟨⟨R_P, F_P, 16, rfl, by decide, t_P_ok 9 (by decide), (fun h => Bool.noConfusion h), tb1 (i := 110) rfl rfl⟩, fun _ h => absurd h List.not_mem_nil⟩⟩
theorem okC_P_readSign : ∀ e ∈ C_P_readSign, xcok q_P_readSign.1.cls e.1 e.2 := List.forall_mem_cons.mpr ⟨⟨tb1 (i := 32) rfl rfl, tb1 (i := 2) rfl rfl, ⟨by decide, by decide, by decide +kernel⟩, by decide, tb1 (i := 29) rfl rfl, tb1 (i := 31) rfl rfl, tbS1 (i := 0) rfl, F_P, 16, rfl⟩, fun _ h => absurd h List.not_mem_nil⟩
theorem ok_P_readSign : XOk q_P_readSign T_P_readSign F_P_readSign C_P_readSign := ⟨okT_P_readSign, okF_P_readSign, okC_P_readSign⟩
def T_P_readWrite : List (Nat × XE) := [(0, (.aload_n 0, 1, 0, 0, [])), (1, (.iload_n 1, 2, 0, 0, [])), (2, (.invokevirtual 107, 5, 0, 0, [])), (5, (.istore_n 2, 6, 0, 0, [])), (6, (.iload_n 1, 7, 0, 0, [])), (7, (.iload_n 2, 8, 0, 0, [])), (8, (.invokestatic 110, 11, 0, 0, [])), (11, (.istore_n 3, 12, 0, 0, [])), (12, (.iload_n 2, 13, 0, 0, [])), (13, (.iconst (-1), 14, 0, (-1), [])), (14, (.if_icmp .eq 13, 17, 27, 0, [])), (17, (.aload_n 0, 18, 0, 0, [])), (18, (.iload_n 3, 19, 0, 0, [])), (19, (.invokevirtual 80, 22, 0, 0, [])), (22, (.bipush 61, 24, 0, 61, [])), (24, (.if_icmp .eq 5, 27, 29, 0, [])), (27, (.iconst (-1), 28, 0, (-1), [])), (28, (.ireturn, 29, 0, 0, [])), (29, (.aload_n 0, 30, 0, 0, [])), (30, (.iload_n 3, 31, 0, 0, [])), (31, (.iconst 1, 32, 0, 1, [])), (32, (.iadd, 33, 0, 0, [])), (33, (.invokevirtual 113, 36, 0, 0, [])), (36, (.istore 4, 38, 0, 0, [])), (38, (.iload_n 3, 39, 0, 0, [])), (39, (.iconst 1, 40, 0, 1, [])), (40, (.iadd, 41, 0, 0, [])), (41, (.iload 4, 43, 0, 0, [])), (43, (.invokestatic 110, 46, 0, 0, [])), (46, (.istore 5, 48, 0, 0, [])), (48, (.iload 4, 50, 0, 0, [])), (50, (.iconst (-1), 51, 0, (-1), [])), (51, (.if_icmp .eq 14, 54, 65, 0, [])), (54, (.aload_n 0, 55, 0, 0, [])), (55, (.iload 5, 57, 0, 0, [])), (57, (.invokevirtual 80, 60, 0, 0, [])), (60, (.bipush 59, 62, 0, 59, [])), (62, (.if_icmp .eq 5, 65, 67, 0, [])), (65, (.iconst (-1), 66, 0, (-1), [])), (66, (.ireturn, 67, 0, 0, [])), (67, (.aload_n 0, 68, 0, 0, [])), (68, (.getfield 15, 71, 0, 0, [])), (71, (.iload_n 1, 72, 0, 0, [])), (72, (.iconst 1, 73, 0, 1, [])), (73, (.iastore, 74, 0, 0, [])), (74, (.aload_n 0, 75, 0, 0, [])), (75, (.getfield 19, 78, 0, 0, [])), (78, (.iload_n 1, 79, 0, 0, [])), (79, (.aload_n 0, 80, 0, 0, [])), (80, (.iload_n 1, 81, 0, 0, [])), (81, (.invokevirtual 80, 84, 0, 0, [])), (84, (.invokestatic 116, 87, 0, 0, [])), (87, (.iastore, 88, 0, 0, [])), (88, (.aload_n 0, 89, 0, 0, [])), (89, (.getfield 22, 92, 0, 0, [])), (92, (.iload_n 1, 93, 0, 0, [])), (93, (.iload_n 2, 94, 0, 0, [])), (94, (.iastore, 95, 0, 0, [])), (95, (.aload_n 0, 96, 0, 0, [])), (96, (.getfield 25, 99, 0, 0, [])), (99, (.iload_n 1, 100, 0, 0, [])), (100, (.iload 4, 102, 0, 0, [])), (102, (.iastore, 103, 0, 0, [])), (103, (.aload_n 0, 104, 0, 0, [])), (104, (.getfield 28, 107, 0, 0, [])), (107, (.iload_n 1, 108, 0, 0, [])), (108, (.aload_n 0, 109, 0, 0, [])), (109, (.iload_n 3, 110, 0, 0, [])), (110, (.iconst 1, 111, 0, 1, [])), (111, (.iadd, 112, 0, 0, [])), (112, (.invokevirtual 80, 115, 0, 0, [])), (115, (.invokestatic 116, 118, 0, 0, [])), (118, (.iastore, 119, 0, 0, [])), (119, (.aload_n 0, 120, 0, 0, [])), (120, (.getfield 31, 123, 0, 0, [])), (123, (.iload_n 1, 124, 0, 0, [])), (124, (.iload 5, 126, 0, 0, [])), (126, (.iconst 1, 127, 0, 1, [])), (127, (.iadd, 128, 0, 0, [])), (128, (.iastore, 129, 0, 0, [])), (129, (.iload 5, 131, 0, 0, [])), (131, (.iconst 1, 132, 0, 1, [])), (132, (.iadd, 133, 0, 0, [])), (133, (.ireturn, 134, 0, 0, []))]
def F_P_readWrite : List (Nat × XF) := [(15, (0, 4, .array .int, false)), (19, (0, 5, .array .int, false)), (22, (0, 6, .array .int, false)), (25, (0, 7, .array .int, false)), (28, (0, 8, .array .int, false)), (31, (0, 9, .array .int, false))]
def C_P_readWrite : List (Nat × XK) := [(107, (q_P_partAt, true, 1, 0)), (110, (q_P_behind, false, 2, 0)), (80, (q_P_charAt, true, 1, 0)), (113, (q_P_valueAt, true, 1, 0)), (116, (q_P_localOf, false, 1, 0))]
theorem okT_P_readWrite : T_P_readWrite.all (fun e => xgood q_P_readWrite.2.1 e.1 e.2) = true := by decide +kernel
theorem okF_P_readWrite : ∀ e ∈ F_P_readWrite, xfok q_P_readWrite.1.cls e.1 e.2 := List.forall_mem_cons.mpr ⟨⟨R_P, F_P, 16, rfl, by decide, t_P_ok 4 (by decide), (fun h => Bool.noConfusion h), tb1 (i := 95) rfl rfl⟩, List.forall_mem_cons.mpr ⟨⟨R_P, F_P, 16, rfl, by decide, t_P_ok 5 (by decide), (fun h => Bool.noConfusion h), tb1 (i := 98) rfl rfl⟩, List.forall_mem_cons.mpr ⟨⟨R_P, F_P, 16, rfl, by decide, t_P_ok 6 (by decide), (fun h => Bool.noConfusion h), tb1 (i := 101) rfl rfl⟩, List.forall_mem_cons.mpr ⟨⟨R_P, F_P, 16, rfl, by decide, t_P_ok 7 (by decide), (fun h => Bool.noConfusion h), tb1 (i := 104) rfl rfl⟩, List.forall_mem_cons.mpr ⟨⟨R_P, F_P, 16, rfl, by decide, t_P_ok 8 (by decide), (fun h => Bool.noConfusion h), tb1 (i := 107) rfl rfl⟩, List.forall_mem_cons.mpr ⟨⟨R_P, F_P, 16, rfl, by decide, t_P_ok 9 (by decide), (fun h => Bool.noConfusion h), tb1 (i := 110) rfl rfl⟩, fun _ h => absurd h List.not_mem_nil⟩⟩⟩⟩⟩⟩
theorem okC_P_readWrite : ∀ e ∈ C_P_readWrite, xcok q_P_readWrite.1.cls e.1 e.2 := List.forall_mem_cons.mpr ⟨⟨tb1 (i := 56) rfl rfl, tb1 (i := 2) rfl rfl, ⟨by decide, by decide, by decide +kernel⟩, by decide, tb1 (i := 53) rfl rfl, tb1 (i := 55) rfl rfl, tbS1 (i := 6) rfl, F_P, 16, rfl⟩, List.forall_mem_cons.mpr ⟨⟨tb1 (i := 62) rfl rfl, tb1 (i := 2) rfl rfl, ⟨by decide, by decide, by decide +kernel⟩, by decide, tb1 (i := 60) rfl rfl, tb1 (i := 61) rfl rfl, fun h => absurd h (by decide)⟩, List.forall_mem_cons.mpr ⟨⟨tb1 (i := 32) rfl rfl, tb1 (i := 2) rfl rfl, ⟨by decide, by decide, by decide +kernel⟩, by decide, tb1 (i := 29) rfl rfl, tb1 (i := 31) rfl rfl, tbS1 (i := 0) rfl, F_P, 16, rfl⟩, List.forall_mem_cons.mpr ⟨⟨tb1 (i := 78) rfl rfl, tb1 (i := 2) rfl rfl, ⟨by decide, by decide, by decide +kernel⟩, by decide, tb1 (i := 75) rfl rfl, tb1 (i := 77) rfl rfl, tbS1 (i := 10) rfl, F_P, 16, rfl⟩, List.forall_mem_cons.mpr ⟨⟨tb1 (i := 59) rfl rfl, tb1 (i := 2) rfl rfl, ⟨by decide, by decide, by decide +kernel⟩, by decide, tb1 (i := 57) rfl rfl, tb1 (i := 58) rfl rfl, fun h => absurd h (by decide)⟩, fun _ h => absurd h List.not_mem_nil⟩⟩⟩⟩⟩
theorem ok_P_readWrite : XOk q_P_readWrite T_P_readWrite F_P_readWrite C_P_readWrite := ⟨okT_P_readWrite, okF_P_readWrite, okC_P_readWrite⟩
def T_P_readCondition : List (Nat × XE) := [(0, (.aload_n 0, 1, 0, 0, [])), (1, (.getfield 15, 4, 0, 0, [])), (4, (.iload_n 1, 5, 0, 0, [])), (5, (.iconst 2, 6, 0, 2, [])), (6, (.iastore, 7, 0, 0, [])), (7, (.aload_n 0, 8, 0, 0, [])), (8, (.getfield 31, 11, 0, 0, [])), (11, (.iload_n 1, 12, 0, 0, [])), (12, (.iload_n 1, 13, 0, 0, [])), (13, (.iconst 1, 14, 0, 1, [])), (14, (.iadd, 15, 0, 0, [])), (15, (.iastore, 16, 0, 0, [])), (16, (.aload_n 0, 17, 0, 0, [])), (17, (.iload_n 1, 18, 0, 0, [])), (18, (.iconst 1, 19, 0, 1, [])), (19, (.iadd, 20, 0, 0, [])), (20, (.invokevirtual 120, 23, 0, 0, [])), (23, (.istore_n 2, 24, 0, 0, [])), (24, (.iconst 0, 25, 0, 0, [])), (25, (.istore_n 3, 26, 0, 0, [])), (26, (.iload_n 3, 27, 0, 0, [])), (27, (.bipush 64, 29, 0, 64, [])), (29, (.if_icmp .ge 37, 32, 66, 0, [])), (32, (.aload_n 0, 33, 0, 0, [])), (33, (.iload_n 2, 34, 0, 0, [])), (34, (.invokevirtual 80, 37, 0, 0, [])), (37, (.bipush 38, 39, 0, 38, [])), (39, (.if_icmp .eq 13, 42, 52, 0, [])), (42, (.aload_n 0, 43, 0, 0, [])), (43, (.iload_n 2, 44, 0, 0, [])), (44, (.invokevirtual 80, 47, 0, 0, [])), (47, (.bipush 124, 49, 0, 124, [])), (49, (.if_icmp .ne 17, 52, 66, 0, [])), (52, (.aload_n 0, 53, 0, 0, [])), (53, (.iload_n 2, 54, 0, 0, [])), (54, (.iconst 1, 55, 0, 1, [])), (55, (.iadd, 56, 0, 0, [])), (56, (.invokevirtual 120, 59, 0, 0, [])), (59, (.istore_n 2, 60, 0, 0, [])), (60, (.iinc 3 1, 63, 0, 1, [])), (63, (.goto (-37), 66, 26, 0, [])), (66, (.iload_n 2, 67, 0, 0, [])), (67, (.ireturn, 68, 0, 0, []))]
def F_P_readCondition : List (Nat × XF) := [(15, (0, 4, .array .int, false)), (31, (0, 9, .array .int, false))]
def C_P_readCondition : List (Nat × XK) := [(120, (q_P_readAtom, true, 1, 0)), (80, (q_P_charAt, true, 1, 0))]
theorem okT_P_readCondition : T_P_readCondition.all (fun e => xgood q_P_readCondition.2.1 e.1 e.2) = true := by decide +kernel
theorem okF_P_readCondition : ∀ e ∈ F_P_readCondition, xfok q_P_readCondition.1.cls e.1 e.2 := List.forall_mem_cons.mpr ⟨⟨R_P, F_P, 16, rfl, by decide, t_P_ok 4 (by decide), (fun h => Bool.noConfusion h), tb1 (i := 95) rfl rfl⟩, List.forall_mem_cons.mpr ⟨⟨R_P, F_P, 16, rfl, by decide, t_P_ok 9 (by decide), (fun h => Bool.noConfusion h), tb1 (i := 110) rfl rfl⟩, fun _ h => absurd h List.not_mem_nil⟩⟩
theorem okC_P_readCondition : ∀ e ∈ C_P_readCondition, xcok q_P_readCondition.1.cls e.1 e.2 := List.forall_mem_cons.mpr ⟨⟨tb1 (i := 52) rfl rfl, tb1 (i := 2) rfl rfl, ⟨by decide, by decide, by decide +kernel⟩, by decide, tb1 (i := 49) rfl rfl, tb1 (i := 51) rfl rfl, tbS1 (i := 5) rfl, F_P, 16, rfl⟩, List.forall_mem_cons.mpr ⟨⟨tb1 (i := 32) rfl rfl, tb1 (i := 2) rfl rfl, ⟨by decide, by decide, by decide +kernel⟩, by decide, tb1 (i := 29) rfl rfl, tb1 (i := 31) rfl rfl, tbS1 (i := 0) rfl, F_P, 16, rfl⟩, fun _ h => absurd h List.not_mem_nil⟩⟩
theorem ok_P_readCondition : XOk q_P_readCondition T_P_readCondition F_P_readCondition C_P_readCondition := ⟨okT_P_readCondition, okF_P_readCondition, okC_P_readCondition⟩
def T_P_openBlock : List (Nat × XE) := [(0, (.aload_n 0, 1, 0, 0, [])), (1, (.iload_n 2, 2, 0, 0, [])), (2, (.invokevirtual 80, 5, 0, 0, [])), (5, (.bipush 123, 7, 0, 123, [])), (7, (.if_icmp .ne 12, 10, 19, 0, [])), (10, (.aload_n 0, 11, 0, 0, [])), (11, (.getfield 77, 14, 0, 0, [])), (14, (.bipush 6, 16, 0, 6, [])), (16, (.if_icmp .lt 5, 19, 21, 0, [])), (19, (.iconst (-1), 20, 0, (-1), [])), (20, (.ireturn, 21, 0, 0, [])), (21, (.aload_n 0, 22, 0, 0, [])), (22, (.getfield 40, 25, 0, 0, [])), (25, (.aload_n 0, 26, 0, 0, [])), (26, (.getfield 77, 29, 0, 0, [])), (29, (.iload_n 1, 30, 0, 0, [])), (30, (.iastore, 31, 0, 0, [])), (31, (.aload_n 0, 32, 0, 0, [])), (32, (.getfield 43, 35, 0, 0, [])), (35, (.aload_n 0, 36, 0, 0, [])), (36, (.getfield 77, 39, 0, 0, [])), (39, (.iload_n 2, 40, 0, 0, [])), (40, (.iastore, 41, 0, 0, [])), (41, (.aload_n 0, 42, 0, 0, [])), (42, (.getfield 46, 45, 0, 0, [])), (45, (.aload_n 0, 46, 0, 0, [])), (46, (.getfield 77, 49, 0, 0, [])), (49, (.iconst (-1), 50, 0, (-1), [])), (50, (.iastore, 51, 0, 0, [])), (51, (.aload_n 0, 52, 0, 0, [])), (52, (.dup, 53, 0, 0, [])), (53, (.getfield 77, 56, 0, 0, [])), (56, (.iconst 1, 57, 0, 1, [])), (57, (.iadd, 58, 0, 0, [])), (58, (.putfield 77, 61, 0, 0, [])), (61, (.iload_n 2, 62, 0, 0, [])), (62, (.iconst 1, 63, 0, 1, [])), (63, (.iadd, 64, 0, 0, [])), (64, (.ireturn, 65, 0, 0, []))]
def F_P_openBlock : List (Nat × XF) := [(77, (0, 15, .int, true)), (40, (0, 12, .array .int, false)), (43, (0, 13, .array .int, false)), (46, (0, 14, .array .int, false))]
def C_P_openBlock : List (Nat × XK) := [(80, (q_P_charAt, true, 1, 0))]
theorem okT_P_openBlock : T_P_openBlock.all (fun e => xgood q_P_openBlock.2.1 e.1 e.2) = true := by decide +kernel
theorem okF_P_openBlock : ∀ e ∈ F_P_openBlock, xfok q_P_openBlock.1.cls e.1 e.2 := List.forall_mem_cons.mpr ⟨⟨R_P, F_P, 16, rfl, by decide, t_P_ok 15 (by decide), (fun _ => rfl), tb1 (i := 120) rfl rfl⟩, List.forall_mem_cons.mpr ⟨⟨R_P, F_P, 16, rfl, by decide, t_P_ok 12 (by decide), (fun h => Bool.noConfusion h), tb1 (i := 117) rfl rfl⟩, List.forall_mem_cons.mpr ⟨⟨R_P, F_P, 16, rfl, by decide, t_P_ok 13 (by decide), (fun h => Bool.noConfusion h), tb1 (i := 118) rfl rfl⟩, List.forall_mem_cons.mpr ⟨⟨R_P, F_P, 16, rfl, by decide, t_P_ok 14 (by decide), (fun h => Bool.noConfusion h), tb1 (i := 119) rfl rfl⟩, fun _ h => absurd h List.not_mem_nil⟩⟩⟩⟩
theorem okC_P_openBlock : ∀ e ∈ C_P_openBlock, xcok q_P_openBlock.1.cls e.1 e.2 := List.forall_mem_cons.mpr ⟨⟨tb1 (i := 32) rfl rfl, tb1 (i := 2) rfl rfl, ⟨by decide, by decide, by decide +kernel⟩, by decide, tb1 (i := 29) rfl rfl, tb1 (i := 31) rfl rfl, tbS1 (i := 0) rfl, F_P, 16, rfl⟩, fun _ h => absurd h List.not_mem_nil⟩
theorem ok_P_openBlock : XOk q_P_openBlock T_P_openBlock F_P_openBlock C_P_openBlock := ⟨okT_P_openBlock, okF_P_openBlock, okC_P_openBlock⟩
def T_P_closeBlock : List (Nat × XE) := [(0, (.aload_n 0, 1, 0, 0, [])), (1, (.getfield 77, 4, 0, 0, [])), (4, (.ifCond .ne 5, 7, 9, 0, [])), (7, (.iconst (-1), 8, 0, (-1), [])), (8, (.ireturn, 9, 0, 0, [])), (9, (.aload_n 0, 10, 0, 0, [])), (10, (.getfield 77, 13, 0, 0, [])), (13, (.iconst 1, 14, 0, 1, [])), (14, (.isub, 15, 0, 0, [])), (15, (.istore_n 2, 16, 0, 0, [])), (16, (.aload_n 0, 17, 0, 0, [])), (17, (.aload_n 0, 18, 0, 0, [])), (18, (.getfield 40, 21, 0, 0, [])), (21, (.iload_n 2, 22, 0, 0, [])), (22, (.iaload, 23, 0, 0, [])), (23, (.invokevirtual 80, 26, 0, 0, [])), (26, (.bipush 42, 28, 0, 42, [])), (28, (.if_icmp .ne 7, 31, 35, 0, [])), (31, (.iconst 1, 32, 0, 1, [])), (32, (.goto 4, 35, 36, 0, [])), (35, (.iconst 0, 36, 0, 0, [])), (36, (.istore_n 3, 37, 0, 0, [])), (37, (.iload_n 3, 38, 0, 0, [])), (38, (.ifCond .ne 36, 41, 74, 0, [])), (41, (.aload_n 0, 42, 0, 0, [])), (42, (.getfield 46, 45, 0, 0, [])), (45, (.iload_n 2, 46, 0, 0, [])), (46, (.iaload, 47, 0, 0, [])), (47, (.iconst (-1), 48, 0, (-1), [])), (48, (.if_icmp .ne 26, 51, 74, 0, [])), (51, (.aload_n 0, 52, 0, 0, [])), (52, (.iload_n 1, 53, 0, 0, [])), (53, (.iconst 1, 54, 0, 1, [])), (54, (.iadd, 55, 0, 0, [])), (55, (.invokevirtual 80, 58, 0, 0, [])), (58, (.bipush 123, 60, 0, 123, [])), (60, (.if_icmp .ne 14, 63, 74, 0, [])), (63, (.aload_n 0, 64, 0, 0, [])), (64, (.getfield 46, 67, 0, 0, [])), (67, (.iload_n 2, 68, 0, 0, [])), (68, (.iload_n 1, 69, 0, 0, [])), (69, (.iastore, 70, 0, 0, [])), (70, (.iload_n 1, 71, 0, 0, [])), (71, (.iconst 2, 72, 0, 2, [])), (72, (.iadd, 73, 0, 0, [])), (73, (.ireturn, 74, 0, 0, [])), (74, (.aload_n 0, 75, 0, 0, [])), (75, (.dup, 76, 0, 0, [])), (76, (.getfield 77, 79, 0, 0, [])), (79, (.iconst 1, 80, 0, 1, [])), (80, (.isub, 81, 0, 0, [])), (81, (.putfield 77, 84, 0, 0, [])), (84, (.iload_n 1, 85, 0, 0, [])), (85, (.iconst 1, 86, 0, 1, [])), (86, (.iadd, 87, 0, 0, [])), (87, (.istore 4, 89, 0, 0, [])), (89, (.iload 4, 91, 0, 0, [])), (91, (.istore 5, 93, 0, 0, [])), (93, (.aload_n 0, 94, 0, 0, [])), (94, (.getfield 37, 97, 0, 0, [])), (97, (.iload_n 1, 98, 0, 0, [])), (98, (.iload_n 3, 99, 0, 0, [])), (99, (.ifCond .eq 14, 102, 113, 0, [])), (102, (.aload_n 0, 103, 0, 0, [])), (103, (.getfield 40, 106, 0, 0, [])), (106, (.iload_n 2, 107, 0, 0, [])), (107, (.iaload, 108, 0, 0, [])), (108, (.iconst 1, 109, 0, 1, [])), (109, (.iadd, 110, 0, 0, [])), (110, (.goto 5, 113, 115, 0, [])), (113, (.iload 4, 115, 0, 0, [])), (115, (.iastore, 116, 0, 0, [])), (116, (.aload_n 0, 117, 0, 0, [])), (117, (.getfield 46, 120, 0, 0, [])), (120, (.iload_n 2, 121, 0, 0, [])), (121, (.iaload, 122, 0, 0, [])), (122, (.iconst (-1), 123, 0, (-1), [])), (123, (.if_icmp .eq 26, 126, 149, 0, [])), (126, (.aload_n 0, 127, 0, 0, [])), (127, (.getfield 37, 130, 0, 0, [])), (130, (.aload_n 0, 131, 0, 0, [])), (131, (.getfield 46, 134, 0, 0, [])), (134, (.iload_n 2, 135, 0, 0, [])), (135, (.iaload, 136, 0, 0, [])), (136, (.iload 4, 138, 0, 0, [])), (138, (.iastore, 139, 0, 0, [])), (139, (.aload_n 0, 140, 0, 0, [])), (140, (.getfield 46, 143, 0, 0, [])), (143, (.iload_n 2, 144, 0, 0, [])), (144, (.iaload, 145, 0, 0, [])), (145, (.iconst 2, 146, 0, 2, [])), (146, (.iadd, 147, 0, 0, [])), (147, (.istore 5, 149, 0, 0, [])), (149, (.aload_n 0, 150, 0, 0, [])), (150, (.aload_n 0, 151, 0, 0, [])), (151, (.getfield 40, 154, 0, 0, [])), (154, (.iload_n 2, 155, 0, 0, [])), (155, (.iaload, 156, 0, 0, [])), (156, (.iconst 1, 157, 0, 1, [])), (157, (.iadd, 158, 0, 0, [])), (158, (.aload_n 0, 159, 0, 0, [])), (159, (.getfield 43, 162, 0, 0, [])), (162, (.iload_n 2, 163, 0, 0, [])), (163, (.iaload, 164, 0, 0, [])), (164, (.iload 5, 166, 0, 0, [])), (166, (.invokevirtual 123, 169, 0, 0, [])), (169, (.iload 4, 171, 0, 0, [])), (171, (.ireturn, 172, 0, 0, []))]
def F_P_closeBlock : List (Nat × XF) := [(77, (0, 15, .int, true)), (40, (0, 12, .array .int, false)), (46, (0, 14, .array .int, false)), (37, (0, 11, .array .int, false)), (43, (0, 13, .array .int, false))]
def C_P_closeBlock : List (Nat × XK) := [(80, (q_P_charAt, true, 1, 0)), (123, (q_P_linkAtoms, true, 3, 0))]
theorem okT_P_closeBlock : T_P_closeBlock.all (fun e => xgood q_P_closeBlock.2.1 e.1 e.2) = true := by decide +kernel
theorem okF_P_closeBlock : ∀ e ∈ F_P_closeBlock, xfok q_P_closeBlock.1.cls e.1 e.2 := List.forall_mem_cons.mpr ⟨⟨R_P, F_P, 16, rfl, by decide, t_P_ok 15 (by decide), (fun _ => rfl), tb1 (i := 120) rfl rfl⟩, List.forall_mem_cons.mpr ⟨⟨R_P, F_P, 16, rfl, by decide, t_P_ok 12 (by decide), (fun h => Bool.noConfusion h), tb1 (i := 117) rfl rfl⟩, List.forall_mem_cons.mpr ⟨⟨R_P, F_P, 16, rfl, by decide, t_P_ok 14 (by decide), (fun h => Bool.noConfusion h), tb1 (i := 119) rfl rfl⟩, List.forall_mem_cons.mpr ⟨⟨R_P, F_P, 16, rfl, by decide, t_P_ok 11 (by decide), (fun h => Bool.noConfusion h), tb1 (i := 116) rfl rfl⟩, List.forall_mem_cons.mpr ⟨⟨R_P, F_P, 16, rfl, by decide, t_P_ok 13 (by decide), (fun h => Bool.noConfusion h), tb1 (i := 118) rfl rfl⟩, fun _ h => absurd h List.not_mem_nil⟩⟩⟩⟩⟩
theorem okC_P_closeBlock : ∀ e ∈ C_P_closeBlock, xcok q_P_closeBlock.1.cls e.1 e.2 := List.forall_mem_cons.mpr ⟨⟨tb1 (i := 32) rfl rfl, tb1 (i := 2) rfl rfl, ⟨by decide, by decide, by decide +kernel⟩, by decide, tb1 (i := 29) rfl rfl, tb1 (i := 31) rfl rfl, tbS1 (i := 0) rfl, F_P, 16, rfl⟩, List.forall_mem_cons.mpr ⟨⟨tb1 (i := 40) rfl rfl, tb1 (i := 2) rfl rfl, ⟨by decide, by decide, by decide +kernel⟩, by decide, tb1 (i := 37) rfl rfl, tb1 (i := 39) rfl rfl, tbS1 (i := 2) rfl, F_P, 16, rfl⟩, fun _ h => absurd h List.not_mem_nil⟩⟩
theorem ok_P_closeBlock : XOk q_P_closeBlock T_P_closeBlock F_P_closeBlock C_P_closeBlock := ⟨okT_P_closeBlock, okF_P_closeBlock, okC_P_closeBlock⟩
def T_P_readAtom : List (Nat × XE) := [(0, (.aload_n 0, 1, 0, 0, [])), (1, (.iload_n 1, 2, 0, 0, [])), (2, (.invokevirtual 80, 5, 0, 0, [])), (5, (.bipush 37, 7, 0, 37, [])), (7, (.if_icmp .ne 22, 10, 29, 0, [])), (10, (.aload_n 0, 11, 0, 0, [])), (11, (.getfield 15, 14, 0, 0, [])), (14, (.iload_n 1, 15, 0, 0, [])), (15, (.iconst 5, 16, 0, 5, [])), (16, (.iastore, 17, 0, 0, [])), (17, (.aload_n 0, 18, 0, 0, [])), (18, (.getfield 22, 21, 0, 0, [])), (21, (.iload_n 1, 22, 0, 0, [])), (22, (.bipush 6, 24, 0, 6, [])), (24, (.iastore, 25, 0, 0, [])), (25, (.iload_n 1, 26, 0, 0, [])), (26, (.iconst 1, 27, 0, 1, [])), (27, (.iadd, 28, 0, 0, [])), (28, (.ireturn, 29, 0, 0, [])), (29, (.aload_n 0, 30, 0, 0, [])), (30, (.iload_n 1, 31, 0, 0, [])), (31, (.invokevirtual 80, 34, 0, 0, [])), (34, (.bipush 126, 36, 0, 126, [])), (36, (.if_icmp .ne 9, 39, 45, 0, [])), (39, (.iload_n 1, 40, 0, 0, [])), (40, (.iconst 1, 41, 0, 1, [])), (41, (.iadd, 42, 0, 0, [])), (42, (.goto 4, 45, 46, 0, [])), (45, (.iload_n 1, 46, 0, 0, [])), (46, (.istore_n 2, 47, 0, 0, [])), (47, (.aload_n 0, 48, 0, 0, [])), (48, (.iload_n 2, 49, 0, 0, [])), (49, (.invokevirtual 107, 52, 0, 0, [])), (52, (.istore_n 3, 53, 0, 0, [])), (53, (.iload_n 3, 54, 0, 0, [])), (54, (.iconst (-1), 55, 0, (-1), [])), (55, (.if_icmp .ne 5, 58, 60, 0, [])), (58, (.iconst (-1), 59, 0, (-1), [])), (59, (.ireturn, 60, 0, 0, [])), (60, (.aload_n 0, 61, 0, 0, [])), (61, (.getfield 15, 64, 0, 0, [])), (64, (.iload_n 1, 65, 0, 0, [])), (65, (.iconst 5, 66, 0, 5, [])), (66, (.iastore, 67, 0, 0, [])), (67, (.aload_n 0, 68, 0, 0, [])), (68, (.getfield 19, 71, 0, 0, [])), (71, (.iload_n 1, 72, 0, 0, [])), (72, (.aload_n 0, 73, 0, 0, [])), (73, (.iload_n 2, 74, 0, 0, [])), (74, (.invokevirtual 80, 77, 0, 0, [])), (77, (.invokestatic 116, 80, 0, 0, [])), (80, (.iastore, 81, 0, 0, [])), (81, (.aload_n 0, 82, 0, 0, [])), (82, (.getfield 22, 85, 0, 0, [])), (85, (.iload_n 1, 86, 0, 0, [])), (86, (.iload_n 3, 87, 0, 0, [])), (87, (.iastore, 88, 0, 0, [])), (88, (.iload_n 2, 89, 0, 0, [])), (89, (.iload_n 3, 90, 0, 0, [])), (90, (.invokestatic 110, 93, 0, 0, [])), (93, (.ireturn, 94, 0, 0, []))]
def F_P_readAtom : List (Nat × XF) := [(15, (0, 4, .array .int, false)), (22, (0, 6, .array .int, false)), (19, (0, 5, .array .int, false))]
def C_P_readAtom : List (Nat × XK) := [(80, (q_P_charAt, true, 1, 0)), (107, (q_P_partAt, true, 1, 0)), (116, (q_P_localOf, false, 1, 0)), (110, (q_P_behind, false, 2, 0))]
theorem okT_P_readAtom : T_P_readAtom.all (fun e => xgood q_P_readAtom.2.1 e.1 e.2) = true := by decide +kernel
theorem okF_P_readAtom : ∀ e ∈ F_P_readAtom, xfok q_P_readAtom.1.cls e.1 e.2 := List.forall_mem_cons.mpr ⟨⟨R_P, F_P, 16, rfl, by decide, t_P_ok 4 (by decide), (fun h => Bool.noConfusion h), tb1 (i := 95) rfl rfl⟩, List.forall_mem_cons.mpr ⟨⟨R_P, F_P, 16, rfl, by decide, t_P_ok 6 (by decide), (fun h => Bool.noConfusion h), tb1 (i := 101) rfl rfl⟩, List.forall_mem_cons.mpr ⟨⟨R_P, F_P, 16, rfl, by decide, t_P_ok 5 (by decide), (fun h => Bool.noConfusion h), tb1 (i := 98) rfl rfl⟩, fun _ h => absurd h List.not_mem_nil⟩⟩⟩
theorem okC_P_readAtom : ∀ e ∈ C_P_readAtom, xcok q_P_readAtom.1.cls e.1 e.2 := List.forall_mem_cons.mpr ⟨⟨tb1 (i := 32) rfl rfl, tb1 (i := 2) rfl rfl, ⟨by decide, by decide, by decide +kernel⟩, by decide, tb1 (i := 29) rfl rfl, tb1 (i := 31) rfl rfl, tbS1 (i := 0) rfl, F_P, 16, rfl⟩, List.forall_mem_cons.mpr ⟨⟨tb1 (i := 56) rfl rfl, tb1 (i := 2) rfl rfl, ⟨by decide, by decide, by decide +kernel⟩, by decide, tb1 (i := 53) rfl rfl, tb1 (i := 55) rfl rfl, tbS1 (i := 6) rfl, F_P, 16, rfl⟩, List.forall_mem_cons.mpr ⟨⟨tb1 (i := 59) rfl rfl, tb1 (i := 2) rfl rfl, ⟨by decide, by decide, by decide +kernel⟩, by decide, tb1 (i := 57) rfl rfl, tb1 (i := 58) rfl rfl, fun h => absurd h (by decide)⟩, List.forall_mem_cons.mpr ⟨⟨tb1 (i := 62) rfl rfl, tb1 (i := 2) rfl rfl, ⟨by decide, by decide, by decide +kernel⟩, by decide, tb1 (i := 60) rfl rfl, tb1 (i := 61) rfl rfl, fun h => absurd h (by decide)⟩, fun _ h => absurd h List.not_mem_nil⟩⟩⟩⟩
theorem ok_P_readAtom : XOk q_P_readAtom T_P_readAtom F_P_readAtom C_P_readAtom := ⟨okT_P_readAtom, okF_P_readAtom, okC_P_readAtom⟩
def T_P_localOf : List (Nat × XE) := [(0, (.iload_n 0, 1, 0, 0, [])), (1, (.bipush 97, 3, 0, 97, [])), (3, (.if_icmp .lt 16, 6, 19, 0, [])), (6, (.iload_n 0, 7, 0, 0, [])), (7, (.bipush 101, 9, 0, 101, [])), (9, (.if_icmp .gt 10, 12, 19, 0, [])), (12, (.iload_n 0, 13, 0, 0, [])), (13, (.bipush 97, 15, 0, 97, [])), (15, (.isub, 16, 0, 0, [])), (16, (.goto 4, 19, 20, 0, [])), (19, (.iconst (-1), 20, 0, (-1), [])), (20, (.ireturn, 21, 0, 0, []))]
def F_P_localOf : List (Nat × XF) := []
def C_P_localOf : List (Nat × XK) := []
theorem okT_P_localOf : T_P_localOf.all (fun e => xgood q_P_localOf.2.1 e.1 e.2) = true := by decide +kernel
theorem okF_P_localOf : ∀ e ∈ F_P_localOf, xfok q_P_localOf.1.cls e.1 e.2 := fun _ h => absurd h List.not_mem_nil
theorem okC_P_localOf : ∀ e ∈ C_P_localOf, xcok q_P_localOf.1.cls e.1 e.2 := fun _ h => absurd h List.not_mem_nil
theorem ok_P_localOf : XOk q_P_localOf T_P_localOf F_P_localOf C_P_localOf := ⟨okT_P_localOf, okF_P_localOf, okC_P_localOf⟩
def T_P_partAt : List (Nat × XE) := [(0, (.aload_n 0, 1, 0, 0, [])), (1, (.iload_n 1, 2, 0, 0, [])), (2, (.invokevirtual 80, 5, 0, 0, [])), (5, (.invokestatic 116, 8, 0, 0, [])), (8, (.iconst (-1), 9, 0, (-1), [])), (9, (.if_icmp .ne 5, 12, 14, 0, [])), (12, (.iconst (-1), 13, 0, (-1), [])), (13, (.ireturn, 14, 0, 0, [])), (14, (.aload_n 0, 15, 0, 0, [])), (15, (.iload_n 1, 16, 0, 0, [])), (16, (.iconst 1, 17, 0, 1, [])), (17, (.iadd, 18, 0, 0, [])), (18, (.invokevirtual 80, 21, 0, 0, [])), (21, (.bipush 46, 23, 0, 46, [])), (23, (.if_icmp .eq 5, 26, 28, 0, [])), (26, (.iconst 0, 27, 0, 0, [])), (27, (.ireturn, 28, 0, 0, [])), (28, (.aload_n 0, 29, 0, 0, [])), (29, (.iload_n 1, 30, 0, 0, [])), (30, (.iconst 2, 31, 0, 2, [])), (31, (.iadd, 32, 0, 0, [])), (32, (.invokevirtual 80, 35, 0, 0, [])), (35, (.istore_n 2, 36, 0, 0, [])), (36, (.iload_n 2, 37, 0, 0, [])), (37, (.bipush 103, 39, 0, 103, [])), (39, (.if_icmp .ne 5, 42, 44, 0, [])), (42, (.iconst 1, 43, 0, 1, [])), (43, (.ireturn, 44, 0, 0, [])), (44, (.iload_n 2, 45, 0, 0, [])), (45, (.bipush 104, 47, 0, 104, [])), (47, (.if_icmp .ne 7, 50, 54, 0, [])), (50, (.iconst 2, 51, 0, 2, [])), (51, (.goto 4, 54, 55, 0, [])), (54, (.iconst (-1), 55, 0, (-1), [])), (55, (.ireturn, 56, 0, 0, []))]
def F_P_partAt : List (Nat × XF) := []
def C_P_partAt : List (Nat × XK) := [(80, (q_P_charAt, true, 1, 0)), (116, (q_P_localOf, false, 1, 0))]
theorem okT_P_partAt : T_P_partAt.all (fun e => xgood q_P_partAt.2.1 e.1 e.2) = true := by decide +kernel
theorem okF_P_partAt : ∀ e ∈ F_P_partAt, xfok q_P_partAt.1.cls e.1 e.2 := fun _ h => absurd h List.not_mem_nil
theorem okC_P_partAt : ∀ e ∈ C_P_partAt, xcok q_P_partAt.1.cls e.1 e.2 := List.forall_mem_cons.mpr ⟨⟨tb1 (i := 32) rfl rfl, tb1 (i := 2) rfl rfl, ⟨by decide, by decide, by decide +kernel⟩, by decide, tb1 (i := 29) rfl rfl, tb1 (i := 31) rfl rfl, tbS1 (i := 0) rfl, F_P, 16, rfl⟩, List.forall_mem_cons.mpr ⟨⟨tb1 (i := 59) rfl rfl, tb1 (i := 2) rfl rfl, ⟨by decide, by decide, by decide +kernel⟩, by decide, tb1 (i := 57) rfl rfl, tb1 (i := 58) rfl rfl, fun h => absurd h (by decide)⟩, fun _ h => absurd h List.not_mem_nil⟩⟩
theorem ok_P_partAt : XOk q_P_partAt T_P_partAt F_P_partAt C_P_partAt := ⟨okT_P_partAt, okF_P_partAt, okC_P_partAt⟩
def T_P_valueAt : List (Nat × XE) := [(0, (.aload_n 0, 1, 0, 0, [])), (1, (.iload_n 1, 2, 0, 0, [])), (2, (.invokevirtual 80, 5, 0, 0, [])), (5, (.istore_n 2, 6, 0, 0, [])), (6, (.iload_n 2, 7, 0, 0, [])), (7, (.bipush 110, 9, 0, 110, [])), (9, (.if_icmp .ne 5, 12, 14, 0, [])), (12, (.iconst 3, 13, 0, 3, [])), (13, (.ireturn, 14, 0, 0, [])), (14, (.iload_n 2, 15, 0, 0, [])), (15, (.bipush 78, 17, 0, 78, [])), (17, (.if_icmp .ne 5, 20, 22, 0, [])), (20, (.iconst 4, 21, 0, 4, [])), (21, (.ireturn, 22, 0, 0, [])), (22, (.iload_n 2, 23, 0, 0, [])), (23, (.bipush 64, 25, 0, 64, [])), (25, (.if_icmp .ne 7, 28, 32, 0, [])), (28, (.iconst 5, 29, 0, 5, [])), (29, (.goto 8, 32, 37, 0, [])), (32, (.aload_n 0, 33, 0, 0, [])), (33, (.iload_n 1, 34, 0, 0, [])), (34, (.invokevirtual 107, 37, 0, 0, [])), (37, (.ireturn, 38, 0, 0, []))]
def F_P_valueAt : List (Nat × XF) := []
def C_P_valueAt : List (Nat × XK) := [(80, (q_P_charAt, true, 1, 0)), (107, (q_P_partAt, true, 1, 0))]
theorem okT_P_valueAt : T_P_valueAt.all (fun e => xgood q_P_valueAt.2.1 e.1 e.2) = true := by decide +kernel
theorem okF_P_valueAt : ∀ e ∈ F_P_valueAt, xfok q_P_valueAt.1.cls e.1 e.2 := fun _ h => absurd h List.not_mem_nil
theorem okC_P_valueAt : ∀ e ∈ C_P_valueAt, xcok q_P_valueAt.1.cls e.1 e.2 := List.forall_mem_cons.mpr ⟨⟨tb1 (i := 32) rfl rfl, tb1 (i := 2) rfl rfl, ⟨by decide, by decide, by decide +kernel⟩, by decide, tb1 (i := 29) rfl rfl, tb1 (i := 31) rfl rfl, tbS1 (i := 0) rfl, F_P, 16, rfl⟩, List.forall_mem_cons.mpr ⟨⟨tb1 (i := 56) rfl rfl, tb1 (i := 2) rfl rfl, ⟨by decide, by decide, by decide +kernel⟩, by decide, tb1 (i := 53) rfl rfl, tb1 (i := 55) rfl rfl, tbS1 (i := 6) rfl, F_P, 16, rfl⟩, fun _ h => absurd h List.not_mem_nil⟩⟩
theorem ok_P_valueAt : XOk q_P_valueAt T_P_valueAt F_P_valueAt C_P_valueAt := ⟨okT_P_valueAt, okF_P_valueAt, okC_P_valueAt⟩
def T_P_behind : List (Nat × XE) := [(0, (.iload_n 1, 1, 0, 0, [])), (1, (.iconst 1, 2, 0, 1, [])), (2, (.if_icmp .eq 8, 5, 10, 0, [])), (5, (.iload_n 1, 6, 0, 0, [])), (6, (.iconst 2, 7, 0, 2, [])), (7, (.if_icmp .ne 9, 10, 16, 0, [])), (10, (.iload_n 0, 11, 0, 0, [])), (11, (.iconst 3, 12, 0, 3, [])), (12, (.iadd, 13, 0, 0, [])), (13, (.goto 6, 16, 19, 0, [])), (16, (.iload_n 0, 17, 0, 0, [])), (17, (.iconst 1, 18, 0, 1, [])), (18, (.iadd, 19, 0, 0, [])), (19, (.ireturn, 20, 0, 0, []))]
def F_P_behind : List (Nat × XF) := []
def C_P_behind : List (Nat × XK) := []
theorem okT_P_behind : T_P_behind.all (fun e => xgood q_P_behind.2.1 e.1 e.2) = true := by decide +kernel
theorem okF_P_behind : ∀ e ∈ F_P_behind, xfok q_P_behind.1.cls e.1 e.2 := fun _ h => absurd h List.not_mem_nil
theorem okC_P_behind : ∀ e ∈ C_P_behind, xcok q_P_behind.1.cls e.1 e.2 := fun _ h => absurd h List.not_mem_nil
theorem ok_P_behind : XOk q_P_behind T_P_behind F_P_behind C_P_behind := ⟨okT_P_behind, okF_P_behind, okC_P_behind⟩
def T_P_linkAtoms : List (Nat × XE) := [(0, (.iload_n 2, 1, 0, 0, [])), (1, (.iconst 1, 2, 0, 1, [])), (2, (.iadd, 3, 0, 0, [])), (3, (.istore 4, 5, 0, 0, [])), (5, (.iload_n 3, 6, 0, 0, [])), (6, (.istore 5, 8, 0, 0, [])), (8, (.iload_n 2, 9, 0, 0, [])), (9, (.iconst 1, 10, 0, 1, [])), (10, (.isub, 11, 0, 0, [])), (11, (.istore 6, 13, 0, 0, [])), (13, (.iload 6, 15, 0, 0, [])), (15, (.iload_n 1, 16, 0, 0, [])), (16, (.if_icmp .lt 103, 19, 119, 0, [])), (19, (.aload_n 0, 20, 0, 0, [])), (20, (.iload 6, 22, 0, 0, [])), (22, (.invokevirtual 80, 25, 0, 0, [])), (25, (.bipush 124, 27, 0, 124, [])), (27, (.if_icmp .ne 15, 30, 42, 0, [])), (30, (.iload 4, 32, 0, 0, [])), (32, (.istore 5, 34, 0, 0, [])), (34, (.iload_n 2, 35, 0, 0, [])), (35, (.iconst 1, 36, 0, 1, [])), (36, (.iadd, 37, 0, 0, [])), (37, (.istore 4, 39, 0, 0, [])), (39, (.goto 74, 42, 113, 0, [])), (42, (.aload_n 0, 43, 0, 0, [])), (43, (.getfield 15, 46, 0, 0, [])), (46, (.iload 6, 48, 0, 0, [])), (48, (.iaload, 49, 0, 0, [])), (49, (.iconst 5, 50, 0, 5, [])), (50, (.if_icmp .ne 63, 53, 113, 0, [])), (53, (.aload_n 0, 54, 0, 0, [])), (54, (.iload 6, 56, 0, 0, [])), (56, (.invokevirtual 80, 59, 0, 0, [])), (59, (.bipush 126, 61, 0, 126, [])), (61, (.if_icmp .ne 7, 64, 68, 0, [])), (64, (.iconst 1, 65, 0, 1, [])), (65, (.goto 4, 68, 69, 0, [])), (68, (.iconst 0, 69, 0, 0, [])), (69, (.istore 7, 71, 0, 0, [])), (71, (.aload_n 0, 72, 0, 0, [])), (72, (.getfield 31, 75, 0, 0, [])), (75, (.iload 6, 77, 0, 0, [])), (77, (.iload 7, 79, 0, 0, [])), (79, (.ifCond .eq 8, 82, 87, 0, [])), (82, (.iload 5, 84, 0, 0, [])), (84, (.goto 5, 87, 89, 0, [])), (87, (.iload 4, 89, 0, 0, [])), (89, (.iastore, 90, 0, 0, [])), (90, (.aload_n 0, 91, 0, 0, [])), (91, (.getfield 34, 94, 0, 0, [])), (94, (.iload 6, 96, 0, 0, [])), (96, (.iload 7, 98, 0, 0, [])), (98, (.ifCond .eq 8, 101, 106, 0, [])), (101, (.iload 4, 103, 0, 0, [])), (103, (.goto 5, 106, 108, 0, [])), (106, (.iload 5, 108, 0, 0, [])), (108, (.iastore, 109, 0, 0, [])), (109, (.iload 6, 111, 0, 0, [])), (111, (.istore 4, 113, 0, 0, [])), (113, (.iinc 6 (-1), 116, 0, (-1), [])), (116, (.goto (-103), 119, 13, 0, [])), (119, (.return_, 120, 0, 0, []))]
def F_P_linkAtoms : List (Nat × XF) := [(15, (0, 4, .array .int, false)), (31, (0, 9, .array .int, false)), (34, (0, 10, .array .int, false))]
def C_P_linkAtoms : List (Nat × XK) := [(80, (q_P_charAt, true, 1, 0))]
theorem okT_P_linkAtoms : T_P_linkAtoms.all (fun e => xgood q_P_linkAtoms.2.1 e.1 e.2) = true := by decide +kernel
theorem okF_P_linkAtoms : ∀ e ∈ F_P_linkAtoms, xfok q_P_linkAtoms.1.cls e.1 e.2 := List.forall_mem_cons.mpr ⟨⟨R_P, F_P, 16, rfl, by decide, t_P_ok 4 (by decide), (fun h => Bool.noConfusion h), tb1 (i := 95) rfl rfl⟩, List.forall_mem_cons.mpr ⟨⟨R_P, F_P, 16, rfl, by decide, t_P_ok 9 (by decide), (fun h => Bool.noConfusion h), tb1 (i := 110) rfl rfl⟩, List.forall_mem_cons.mpr ⟨⟨R_P, F_P, 16, rfl, by decide, t_P_ok 10 (by decide), (fun h => Bool.noConfusion h), tb1 (i := 113) rfl rfl⟩, fun _ h => absurd h List.not_mem_nil⟩⟩⟩
theorem okC_P_linkAtoms : ∀ e ∈ C_P_linkAtoms, xcok q_P_linkAtoms.1.cls e.1 e.2 := List.forall_mem_cons.mpr ⟨⟨tb1 (i := 32) rfl rfl, tb1 (i := 2) rfl rfl, ⟨by decide, by decide, by decide +kernel⟩, by decide, tb1 (i := 29) rfl rfl, tb1 (i := 31) rfl rfl, tbS1 (i := 0) rfl, F_P, 16, rfl⟩, fun _ h => absurd h List.not_mem_nil⟩
theorem ok_P_linkAtoms : XOk q_P_linkAtoms T_P_linkAtoms F_P_linkAtoms C_P_linkAtoms := ⟨okT_P_linkAtoms, okF_P_linkAtoms, okC_P_linkAtoms⟩
def T_P_leadWaysOutOfBlocks : List (Nat × XE) := [(0, (.iconst 0, 1, 0, 0, [])), (1, (.istore_n 1, 2, 0, 0, [])), (2, (.iload_n 1, 3, 0, 0, [])), (3, (.aload_n 0, 4, 0, 0, [])), (4, (.getfield 56, 7, 0, 0, [])), (7, (.if_icmp .ge 60, 10, 67, 0, [])), (10, (.aload_n 0, 11, 0, 0, [])), (11, (.getfield 15, 14, 0, 0, [])), (14, (.iload_n 1, 15, 0, 0, [])), (15, (.iaload, 16, 0, 0, [])), (16, (.ifCond .eq 19, 19, 35, 0, [])), (19, (.aload_n 0, 20, 0, 0, [])), (20, (.getfield 31, 23, 0, 0, [])), (23, (.iload_n 1, 24, 0, 0, [])), (24, (.aload_n 0, 25, 0, 0, [])), (25, (.aload_n 0, 26, 0, 0, [])), (26, (.getfield 31, 29, 0, 0, [])), (29, (.iload_n 1, 30, 0, 0, [])), (30, (.iaload, 31, 0, 0, [])), (31, (.invokevirtual 127, 34, 0, 0, [])), (34, (.iastore, 35, 0, 0, [])), (35, (.aload_n 0, 36, 0, 0, [])), (36, (.getfield 15, 39, 0, 0, [])), (39, (.iload_n 1, 40, 0, 0, [])), (40, (.iaload, 41, 0, 0, [])), (41, (.iconst 5, 42, 0, 5, [])), (42, (.if_icmp .ne 19, 45, 61, 0, [])), (45, (.aload_n 0, 46, 0, 0, [])), (46, (.getfield 34, 49, 0, 0, [])), (49, (.iload_n 1, 50, 0, 0, [])), (50, (.aload_n 0, 51, 0, 0, [])), (51, (.aload_n 0, 52, 0, 0, [])), (52, (.getfield 34, 55, 0, 0, [])), (55, (.iload_n 1, 56, 0, 0, [])), (56, (.iaload, 57, 0, 0, [])), (57, (.invokevirtual 127, 60, 0, 0, [])), (60, (.iastore, 61, 0, 0, [])), (61, (.iinc 1 1, 64, 0, 1, [])), (64, (.goto (-62), 67, 2, 0, [])), (67, (.return_, 68, 0, 0, []))]
def F_P_leadWaysOutOfBlocks : List (Nat × XF) := [(56, (0, 1, .int, true)), (15, (0, 4, .array .int, false)), (31, (0, 9, .array .int, false)), (34, (0, 10, .array .int, false))]
def C_P_leadWaysOutOfBlocks : List (Nat × XK) := [(127, (q_P_outOfBlocks, true, 1, 0))]
theorem okT_P_leadWaysOutOfBlocks : T_P_leadWaysOutOfBlocks.all (fun e => xgood q_P_leadWaysOutOfBlocks.2.1 e.1 e.2) = true := by decide +kernel
theorem okF_P_leadWaysOutOfBlocks : ∀ e ∈ F_P_leadWaysOutOfBlocks, xfok q_P_leadWaysOutOfBlocks.1.cls e.1 e.2 := List.forall_mem_cons.mpr ⟨⟨R_P, F_P, 16, rfl, by decide, t_P_ok 1 (by decide), (fun _ => rfl), tb1 (i := 88) rfl rfl⟩, List.forall_mem_cons.mpr ⟨⟨R_P, F_P, 16, rfl, by decide, t_P_ok 4 (by decide), (fun h => Bool.noConfusion h), tb1 (i := 95) rfl rfl⟩, List.forall_mem_cons.mpr ⟨⟨R_P, F_P, 16, rfl, by decide, t_P_ok 9 (by decide), (fun h => Bool.noConfusion h), tb1 (i := 110) rfl rfl⟩, List.forall_mem_cons.mpr ⟨⟨R_P, F_P, 16, rfl, by decide, t_P_ok 10 (by decide), (fun h => Bool.noConfusion h), tb1 (i := 113) rfl rfl⟩, fun _ h => absurd h List.not_mem_nil⟩⟩⟩⟩
theorem okC_P_leadWaysOutOfBlocks : ∀ e ∈ C_P_leadWaysOutOfBlocks, xcok q_P_leadWaysOutOfBlocks.1.cls e.1 e.2 := List.forall_mem_cons.mpr ⟨⟨tb1 (i := 86) rfl rfl, tb1 (i := 2) rfl rfl, ⟨by decide, by decide, by decide +kernel⟩, by decide, tb1 (i := 83) rfl rfl, tb1 (i := 85) rfl rfl, tbS1 (i := 12) rfl, F_P, 16, rfl⟩, fun _ h => absurd h List.not_mem_nil⟩
theorem ok_P_leadWaysOutOfBlocks : XOk q_P_leadWaysOutOfBlocks T_P_leadWaysOutOfBlocks F_P_leadWaysOutOfBlocks C_P_leadWaysOutOfBlocks := ⟨okT_P_leadWaysOutOfBlocks, okF_P_leadWaysOutOfBlocks, okC_P_leadWaysOutOfBlocks⟩
def T_P_outOfBlocks : List (Nat × XE) := [(0, (.iload_n 1, 1, 0, 0, [])), (1, (.istore_n 2, 2, 0, 0, [])), (2, (.iconst 0, 3, 0, 0, [])), (3, (.istore_n 3, 4, 0, 0, [])), (4, (.iload_n 3, 5, 0, 0, [])), (5, (.bipush 6, 7, 0, 6, [])), (7, (.if_icmp .ge 26, 10, 33, 0, [])), (10, (.aload_n 0, 11, 0, 0, [])), (11, (.iload_n 2, 12, 0, 0, [])), (12, (.invokevirtual 80, 15, 0, 0, [])), (15, (.bipush 125, 17, 0, 125, [])), (17, (.if_icmp .ne 16, 20, 33, 0, [])), (20, (.aload_n 0, 21, 0, 0, [])), (21, (.getfield 37, 24, 0, 0, [])), (24, (.iload_n 2, 25, 0, 0, [])), (25, (.iaload, 26, 0, 0, [])), (26, (.istore_n 2, 27, 0, 0, [])), (27, (.iinc 3 1, 30, 0, 1, [])), (30, (.goto (-26), 33, 4, 0, [])), (33, (.iload_n 2, 34, 0, 0, [])), (34, (.ireturn, 35, 0, 0, []))]
def F_P_outOfBlocks : List (Nat × XF) := [(37, (0, 11, .array .int, false))]
def C_P_outOfBlocks : List (Nat × XK) := [(80, (q_P_charAt, true, 1, 0))]
theorem okT_P_outOfBlocks : T_P_outOfBlocks.all (fun e => xgood q_P_outOfBlocks.2.1 e.1 e.2) = true := by decide +kernel
theorem okF_P_outOfBlocks : ∀ e ∈ F_P_outOfBlocks, xfok q_P_outOfBlocks.1.cls e.1 e.2 := List.forall_mem_cons.mpr ⟨⟨R_P, F_P, 16, rfl, by decide, t_P_ok 11 (by decide), (fun h => Bool.noConfusion h), tb1 (i := 116) rfl rfl⟩, fun _ h => absurd h List.not_mem_nil⟩
theorem okC_P_outOfBlocks : ∀ e ∈ C_P_outOfBlocks, xcok q_P_outOfBlocks.1.cls e.1 e.2 := List.forall_mem_cons.mpr ⟨⟨tb1 (i := 32) rfl rfl, tb1 (i := 2) rfl rfl, ⟨by decide, by decide, by decide +kernel⟩, by decide, tb1 (i := 29) rfl rfl, tb1 (i := 31) rfl rfl, tbS1 (i := 0) rfl, F_P, 16, rfl⟩, fun _ h => absurd h List.not_mem_nil⟩
theorem ok_P_outOfBlocks : XOk q_P_outOfBlocks T_P_outOfBlocks F_P_outOfBlocks C_P_outOfBlocks := ⟨okT_P_outOfBlocks, okF_P_outOfBlocks, okC_P_outOfBlocks⟩
end
section
/-! tables of the methods, by program -/
def T_K_check : List (Nat × XE) := [(0, (.aload_n 0, 1, 0, 0, [])), (1, (.getfield 9, 4, 0, 0, [])), (4, (.iconst (-1), 5, 0, (-1), [])), (5, (.invokestatic 18, 8, 0, 0, [])), (8, (.aload_n 0, 9, 0, 0, [])), (9, (.getfield 15, 12, 0, 0, [])), (12, (.iconst 0, 13, 0, 0, [])), (13, (.invokestatic 18, 16, 0, 0, [])), (16, (.aload_n 0, 17, 0, 0, [])), (17, (.getfield 9, 20, 0, 0, [])), (20, (.iconst 0, 21, 0, 0, [])), (21, (.iload_n 2, 22, 0, 0, [])), (22, (.iastore, 23, 0, 0, [])), (23, (.aload_n 0, 24, 0, 0, [])), (24, (.iconst 1, 25, 0, 1, [])), (25, (.putfield 24, 28, 0, 0, [])), (28, (.iconst 0, 29, 0, 0, [])), (29, (.istore_n 3, 30, 0, 0, [])), (30, (.iload_n 3, 31, 0, 0, [])), (31, (.sipush 716, 34, 0, 716, [])), (34, (.if_icmp .ge 56, 37, 90, 0, [])), (37, (.aload_n 0, 38, 0, 0, [])), (38, (.getfield 24, 41, 0, 0, [])), (41, (.ifCond .eq 49, 44, 90, 0, [])), (44, (.aload_n 0, 45, 0, 0, [])), (45, (.iconst 0, 46, 0, 0, [])), (46, (.putfield 24, 49, 0, 0, [])), (49, (.iconst 0, 50, 0, 0, [])), (50, (.istore 4, 52, 0, 0, [])), (52, (.iload 4, 54, 0, 0, [])), (54, (.aload_n 1, 55, 0, 0, [])), (55, (.getfield 28, 58, 0, 0, [])), (58, (.if_icmp .gt 26, 61, 84, 0, [])), (61, (.aload_n 0, 62, 0, 0, [])), (62, (.iload 4, 64, 0, 0, [])), (64, (.invokevirtual 34, 67, 0, 0, [])), (67, (.ifCond .eq 11, 70, 78, 0, [])), (70, (.aload_n 0, 71, 0, 0, [])), (71, (.aload_n 1, 72, 0, 0, [])), (72, (.iload 4, 74, 0, 0, [])), (74, (.iload_n 2, 75, 0, 0, [])), (75, (.invokevirtual 38, 78, 0, 0, [])), (78, (.iinc 4 1, 81, 0, 1, [])), (81, (.goto (-29), 84, 52, 0, [])), (84, (.iinc 3 1, 87, 0, 1, [])), (87, (.goto (-57), 90, 30, 0, [])), (90, (.return_, 91, 0, 0, []))]
def F_K_check : List (Nat × XF) := [(9, (1, 0, .array .int, false)), (15, (1, 1, .array .int, false)), (24, (1, 2, .boolean, true)), (28, (0, 1, .int, true))]
def C_K_check : List (Nat × XK) := [(18, (q_JA_fill, false, 2, 0)), (34, (q_K_isReached, true, 1, 1)), (38, (q_K_flowFrom, true, 3, 1))]
theorem okT_K_check : T_K_check.all (fun e => xgood q_K_check.2.1 e.1 e.2) = true := by decide +kernel
theorem okF_K_check : ∀ e ∈ F_K_check, xfok q_K_check.1.cls e.1 e.2 := List.forall_mem_cons.mpr ⟨⟨R_K, F_K, 5, rfl, by decide, t_K_ok 0 (by decide), (fun h => Bool.noConfusion h), tb1 (i := 162) rfl rfl⟩, List.forall_mem_cons.mpr ⟨⟨R_K, F_K, 5, rfl, by decide, t_K_ok 1 (by decide), (fun h => Bool.noConfusion h), tb1 (i := 163) rfl rfl⟩, List.forall_mem_cons.mpr ⟨⟨R_K, F_K, 5, rfl, by decide, t_K_ok 2 (by decide), (fun _ => rfl), tb1 (i := 165) rfl rfl⟩, List.forall_mem_cons.mpr ⟨⟨R_P, F_P, 16, rfl, by decide, t_P_ok 1 (by decide), (fun _ => rfl), tb1 (i := 89) rfl rfl⟩, fun _ h => absurd h List.not_mem_nil⟩⟩⟩⟩
theorem okC_K_check : ∀ e ∈ C_K_check, xcok q_K_check.1.cls e.1 e.2 := List.forall_mem_cons.mpr ⟨⟨tb1 (i := 28) rfl rfl, tb1 (i := 3) rfl rfl, ⟨by decide, by decide, by decide +kernel⟩, by decide, tb2 (i := 39) rfl rfl, tb1 (i := 27) rfl rfl, fun h => absurd h (by decide)⟩, List.forall_mem_cons.mpr ⟨⟨tb2 (i := 43) rfl rfl, tb1 (i := 4) rfl rfl, ⟨by decide, by decide, by decide +kernel⟩, by decide, tb2 (i := 40) rfl rfl, tb2 (i := 41) rfl rfl, tb2 (i := 42) rfl rfl, F_K, 5, rfl⟩, List.forall_mem_cons.mpr ⟨⟨tb2 (i := 47) rfl rfl, tb1 (i := 4) rfl rfl, ⟨by decide, by decide, by decide +kernel⟩, by decide, tb2 (i := 44) rfl rfl, tb2 (i := 46) rfl rfl, tbS1 (i := 14) rfl, F_K, 5, rfl⟩, fun _ h => absurd h List.not_mem_nil⟩⟩⟩
theorem ok_K_check : XOk q_K_check T_K_check F_K_check C_K_check := ⟨okT_K_check, okF_K_check, okC_K_check⟩
def T_K_isReached : List (Nat × XE) := [(0, (.aload_n 0, 1, 0, 0, [])), (1, (.getfield 9, 4, 0, 0, [])), (4, (.iload_n 1, 5, 0, 0, [])), (5, (.iaload, 6, 0, 0, [])), (6, (.iconst (-1), 7, 0, (-1), [])), (7, (.if_icmp .eq 7, 10, 14, 0, [])), (10, (.iconst 1, 11, 0, 1, [])), (11, (.goto 4, 14, 15, 0, [])), (14, (.iconst 0, 15, 0, 0, [])), (15, (.ireturn, 16, 0, 0, []))]
def F_K_isReached : List (Nat × XF) := [(9, (1, 0, .array .int, false))]
def C_K_isReached : List (Nat × XK) := []
theorem okT_K_isReached : T_K_isReached.all (fun e => xgood q_K_isReached.2.1 e.1 e.2) = true := by decide +kernel
theorem okF_K_isReached : ∀ e ∈ F_K_isReached, xfok q_K_isReached.1.cls e.1 e.2 := List.forall_mem_cons.mpr ⟨⟨R_K, F_K, 5, rfl, by decide, t_K_ok 0 (by decide), (fun h => Bool.noConfusion h), tb1 (i := 162) rfl rfl⟩, fun _ h => absurd h List.not_mem_nil⟩
theorem okC_K_isReached : ∀ e ∈ C_K_isReached, xcok q_K_isReached.1.cls e.1 e.2 := fun _ h => absurd h List.not_mem_nil
theorem ok_K_isReached : XOk q_K_isReached T_K_isReached F_K_isReached C_K_isReached := ⟨okT_K_isReached, okF_K_isReached, okC_K_isReached⟩
def T_K_isSureAt : List (Nat × XE) := [(0, (.aload_n 0, 1, 0, 0, [])), (1, (.getfield 9, 4, 0, 0, [])), (4, (.iload_n 1, 5, 0, 0, [])), (5, (.iaload, 6, 0, 0, [])), (6, (.iload_n 2, 7, 0, 0, [])), (7, (.invokestatic 42, 10, 0, 0, [])), (10, (.iand, 11, 0, 0, [])), (11, (.ifCond .eq 7, 14, 18, 0, [])), (14, (.iconst 1, 15, 0, 1, [])), (15, (.goto 4, 18, 19, 0, [])), (18, (.iconst 0, 19, 0, 0, [])), (19, (.ireturn, 20, 0, 0, []))]
def F_K_isSureAt : List (Nat × XF) := [(9, (1, 0, .array .int, false))]
def C_K_isSureAt : List (Nat × XK) := [(42, (q_K_sureBit, false, 1, 1))]
theorem okT_K_isSureAt : T_K_isSureAt.all (fun e => xgood q_K_isSureAt.2.1 e.1 e.2) = true := by decide +kernel
theorem okF_K_isSureAt : ∀ e ∈ F_K_isSureAt, xfok q_K_isSureAt.1.cls e.1 e.2 := List.forall_mem_cons.mpr ⟨⟨R_K, F_K, 5, rfl, by decide, t_K_ok 0 (by decide), (fun h => Bool.noConfusion h), tb1 (i := 162) rfl rfl⟩, fun _ h => absurd h List.not_mem_nil⟩
theorem okC_K_isSureAt : ∀ e ∈ C_K_isSureAt, xcok q_K_isSureAt.1.cls e.1 e.2 := List.forall_mem_cons.mpr ⟨⟨tb2 (i := 62) rfl rfl, tb1 (i := 4) rfl rfl, ⟨by decide, by decide, by decide +kernel⟩, by decide, tb2 (i := 60) rfl rfl, tb2 (i := 61) rfl rfl, fun h => absurd h (by decide)⟩, fun _ h => absurd h List.not_mem_nil⟩
theorem ok_K_isSureAt : XOk q_K_isSureAt T_K_isSureAt F_K_isSureAt C_K_isSureAt := ⟨okT_K_isSureAt, okF_K_isSureAt, okC_K_isSureAt⟩
def T_K_isLinkedAt : List (Nat × XE) := [(0, (.aload_n 0, 1, 0, 0, [])), (1, (.getfield 9, 4, 0, 0, [])), (4, (.iload_n 1, 5, 0, 0, [])), (5, (.iaload, 6, 0, 0, [])), (6, (.iload_n 2, 7, 0, 0, [])), (7, (.invokestatic 46, 10, 0, 0, [])), (10, (.iand, 11, 0, 0, [])), (11, (.ifCond .eq 7, 14, 18, 0, [])), (14, (.iconst 1, 15, 0, 1, [])), (15, (.goto 4, 18, 19, 0, [])), (18, (.iconst 0, 19, 0, 0, [])), (19, (.ireturn, 20, 0, 0, []))]
def F_K_isLinkedAt : List (Nat × XF) := [(9, (1, 0, .array .int, false))]
def C_K_isLinkedAt : List (Nat × XK) := [(46, (q_K_linkedBit, false, 1, 1))]
theorem okT_K_isLinkedAt : T_K_isLinkedAt.all (fun e => xgood q_K_isLinkedAt.2.1 e.1 e.2) = true := by decide +kernel
theorem okF_K_isLinkedAt : ∀ e ∈ F_K_isLinkedAt, xfok q_K_isLinkedAt.1.cls e.1 e.2 := List.forall_mem_cons.mpr ⟨⟨R_K, F_K, 5, rfl, by decide, t_K_ok 0 (by decide), (fun h => Bool.noConfusion h), tb1 (i := 162) rfl rfl⟩, fun _ h => absurd h List.not_mem_nil⟩
theorem okC_K_isLinkedAt : ∀ e ∈ C_K_isLinkedAt, xcok q_K_isLinkedAt.1.cls e.1 e.2 := List.forall_mem_cons.mpr ⟨⟨tb2 (i := 73) rfl rfl, tb1 (i := 4) rfl rfl, ⟨by decide, by decide, by decide +kernel⟩, by decide, tb2 (i := 71) rfl rfl, tb2 (i := 72) rfl rfl, fun h => absurd h (by decide)⟩, fun _ h => absurd h List.not_mem_nil⟩
theorem ok_K_isLinkedAt : XOk q_K_isLinkedAt T_K_isLinkedAt F_K_isLinkedAt C_K_isLinkedAt := ⟨okT_K_isLinkedAt, okF_K_isLinkedAt, okC_K_isLinkedAt⟩
def T_K_countAlarms : List (Nat × XE) := [(0, (.iconst 0, 1, 0, 0, [])), (1, (.istore_n 1, 2, 0, 0, [])), (2, (.iconst 0, 3, 0, 0, [])), (3, (.istore_n 2, 4, 0, 0, [])), (4, (.iload_n 2, 5, 0, 0, [])), (5, (.bipush 65, 7, 0, 65, [])), (7, (.if_icmp .ge 26, 10, 33, 0, [])), (10, (.iload_n 1, 11, 0, 0, [])), (11, (.aload_n 0, 12, 0, 0, [])), (12, (.getfield 15, 15, 0, 0, [])), (15, (.iload_n 2, 16, 0, 0, [])), (16, (.iaload, 17, 0, 0, [])), (17, (.ifCond .eq 7, 20, 24, 0, [])), (20, (.iconst 1, 21, 0, 1, [])), (21, (.goto 4, 24, 25, 0, [])), (24, (.iconst 0, 25, 0, 0, [])), (25, (.iadd, 26, 0, 0, [])), (26, (.istore_n 1, 27, 0, 0, [])), (27, (.iinc 2 1, 30, 0, 1, [])), (30, (.goto (-26), 33, 4, 0, [])), (33, (.iload_n 1, 34, 0, 0, [])), (34, (.ireturn, 35, 0, 0, []))]
def F_K_countAlarms : List (Nat × XF) := [(15, (1, 1, .array .int, false))]
def C_K_countAlarms : List (Nat × XK) := []
theorem okT_K_countAlarms : T_K_countAlarms.all (fun e => xgood q_K_countAlarms.2.1 e.1 e.2) = true := by decide +kernel
theorem okF_K_countAlarms : ∀ e ∈ F_K_countAlarms, xfok q_K_countAlarms.1.cls e.1 e.2 := List.forall_mem_cons.mpr ⟨⟨R_K, F_K, 5, rfl, by decide, t_K_ok 1 (by decide), (fun h => Bool.noConfusion h), tb1 (i := 163) rfl rfl⟩, fun _ h => absurd h List.not_mem_nil⟩
theorem okC_K_countAlarms : ∀ e ∈ C_K_countAlarms, xcok q_K_countAlarms.1.cls e.1 e.2 := fun _ h => absurd h List.not_mem_nil
theorem ok_K_countAlarms : XOk q_K_countAlarms T_K_countAlarms F_K_countAlarms C_K_countAlarms := ⟨okT_K_countAlarms, okF_K_countAlarms, okC_K_countAlarms⟩
def T_K_sureBit : List (Nat × XE) := [(0, (.iconst 1, 1, 0, 1, [])), (1, (.iload_n 0, 2, 0, 0, [])), (2, (.ishl, 3, 0, 0, [])), (3, (.ireturn, 4, 0, 0, []))]
def F_K_sureBit : List (Nat × XF) := []
def C_K_sureBit : List (Nat × XK) := []
theorem okT_K_sureBit : T_K_sureBit.all (fun e => xgood q_K_sureBit.2.1 e.1 e.2) = true := by decide +kernel
theorem okF_K_sureBit : ∀ e ∈ F_K_sureBit, xfok q_K_sureBit.1.cls e.1 e.2 := fun _ h => absurd h List.not_mem_nil
theorem okC_K_sureBit : ∀ e ∈ C_K_sureBit, xcok q_K_sureBit.1.cls e.1 e.2 := fun _ h => absurd h List.not_mem_nil
theorem ok_K_sureBit : XOk q_K_sureBit T_K_sureBit F_K_sureBit C_K_sureBit := ⟨okT_K_sureBit, okF_K_sureBit, okC_K_sureBit⟩
def T_K_linkedBit : List (Nat × XE) := [(0, (.iconst 1, 1, 0, 1, [])), (1, (.iconst 5, 2, 0, 5, [])), (2, (.iload_n 0, 3, 0, 0, [])), (3, (.iadd, 4, 0, 0, [])), (4, (.ishl, 5, 0, 0, [])), (5, (.ireturn, 6, 0, 0, []))]
def F_K_linkedBit : List (Nat × XF) := []
def C_K_linkedBit : List (Nat × XK) := []
theorem okT_K_linkedBit : T_K_linkedBit.all (fun e => xgood q_K_linkedBit.2.1 e.1 e.2) = true := by decide +kernel
theorem okF_K_linkedBit : ∀ e ∈ F_K_linkedBit, xfok q_K_linkedBit.1.cls e.1 e.2 := fun _ h => absurd h List.not_mem_nil
theorem okC_K_linkedBit : ∀ e ∈ C_K_linkedBit, xcok q_K_linkedBit.1.cls e.1 e.2 := fun _ h => absurd h List.not_mem_nil
theorem ok_K_linkedBit : XOk q_K_linkedBit T_K_linkedBit F_K_linkedBit C_K_linkedBit := ⟨okT_K_linkedBit, okF_K_linkedBit, okC_K_linkedBit⟩
def T_K_flowFrom : List (Nat × XE) := [(0, (.aload_n 0, 1, 0, 0, [])), (1, (.aload_n 0, 2, 0, 0, [])), (2, (.getfield 9, 5, 0, 0, [])), (5, (.iload_n 2, 6, 0, 0, [])), (6, (.iaload, 7, 0, 0, [])), (7, (.putfield 49, 10, 0, 0, [])), (10, (.aload_n 0, 11, 0, 0, [])), (11, (.iconst 0, 12, 0, 0, [])), (12, (.putfield 52, 15, 0, 0, [])), (15, (.aload_n 1, 16, 0, 0, [])), (16, (.getfield 55, 19, 0, 0, [])), (19, (.iload_n 2, 20, 0, 0, [])), (20, (.iaload, 21, 0, 0, [])), (21, (.tableswitch 106 1 5 #[35, 59, 76, 106, 97], 35, 127, 0, [(1, 56), (2, 80), (3, 97), (4, 127), (5, 118)])), (56, (.aload_n 0, 57, 0, 0, [])), (57, (.aload_n 1, 58, 0, 0, [])), (58, (.iload_n 2, 59, 0, 0, [])), (59, (.iload_n 3, 60, 0, 0, [])), (60, (.invokevirtual 58, 63, 0, 0, [])), (63, (.aload_n 0, 64, 0, 0, [])), (64, (.aload_n 1, 65, 0, 0, [])), (65, (.getfield 61, 68, 0, 0, [])), (68, (.iload_n 2, 69, 0, 0, [])), (69, (.iaload, 70, 0, 0, [])), (70, (.aload_n 0, 71, 0, 0, [])), (71, (.getfield 49, 74, 0, 0, [])), (74, (.invokevirtual 64, 77, 0, 0, [])), (77, (.goto 50, 80, 127, 0, [])), (80, (.aload_n 0, 81, 0, 0, [])), (81, (.aload_n 1, 82, 0, 0, [])), (82, (.getfield 61, 85, 0, 0, [])), (85, (.iload_n 2, 86, 0, 0, [])), (86, (.iaload, 87, 0, 0, [])), (87, (.aload_n 0, 88, 0, 0, [])), (88, (.getfield 49, 91, 0, 0, [])), (91, (.invokevirtual 64, 94, 0, 0, [])), (94, (.goto 33, 97, 127, 0, [])), (97, (.aload_n 0, 98, 0, 0, [])), (98, (.invokevirtual 68, 101, 0, 0, [])), (101, (.aload_n 0, 102, 0, 0, [])), (102, (.aload_n 1, 103, 0, 0, [])), (103, (.getfield 61, 106, 0, 0, [])), (106, (.iload_n 2, 107, 0, 0, [])), (107, (.iaload, 108, 0, 0, [])), (108, (.aload_n 0, 109, 0, 0, [])), (109, (.getfield 49, 112, 0, 0, [])), (112, (.invokevirtual 64, 115, 0, 0, [])), (115, (.goto 12, 118, 127, 0, [])), (118, (.aload_n 0, 119, 0, 0, [])), (119, (.aload_n 1, 120, 0, 0, [])), (120, (.iload_n 2, 121, 0, 0, [])), (121, (.invokevirtual 71, 124, 0, 0, [])), (124, (.goto 3, 127, 127, 0, [])), (127, (.aload_n 0, 128, 0, 0, [])), (128, (.getfield 15, 131, 0, 0, [])), (131, (.iload_n 2, 132, 0, 0, [])), (132, (.aload_n 0, 133, 0, 0, [])), (133, (.getfield 52, 136, 0, 0, [])), (136, (.iastore, 137, 0, 0, [])), (137, (.return_, 138, 0, 0, []))]
def F_K_flowFrom : List (Nat × XF) := [(9, (1, 0, .array .int, false)), (49, (1, 3, .int, true)), (52, (1, 4, .int, true)), (55, (0, 4, .array .int, false)), (61, (0, 9, .array .int, false)), (15, (1, 1, .array .int, false))]
def C_K_flowFrom : List (Nat × XK) := [(58, (q_K_write, true, 3, 1)), (64, (q_K_flowTo, true, 2, 1)), (68, (q_K_unlinkAll, true, 0, 1)), (71, (q_K_flowFromAtom, true, 2, 1))]
theorem okT_K_flowFrom : T_K_flowFrom.all (fun e => xgood q_K_flowFrom.2.1 e.1 e.2) = true := by decide +kernel
theorem okF_K_flowFrom : ∀ e ∈ F_K_flowFrom, xfok q_K_flowFrom.1.cls e.1 e.2 := List.forall_mem_cons.mpr ⟨⟨R_K, F_K, 5, rfl, by decide, t_K_ok 0 (by decide), (fun h => Bool.noConfusion h), tb1 (i := 162) rfl rfl⟩, List.forall_mem_cons.mpr ⟨⟨R_K, F_K, 5, rfl, by decide, t_K_ok 3 (by decide), (fun _ => rfl), tb1 (i := 166) rfl rfl⟩, List.forall_mem_cons.mpr ⟨⟨R_K, F_K, 5, rfl, by decide, t_K_ok 4 (by decide), (fun _ => rfl), tb1 (i := 167) rfl rfl⟩, List.forall_mem_cons.mpr ⟨⟨R_P, F_P, 16, rfl, by decide, t_P_ok 4 (by decide), (fun h => Bool.noConfusion h), tb1 (i := 97) rfl rfl⟩, List.forall_mem_cons.mpr ⟨⟨R_P, F_P, 16, rfl, by decide, t_P_ok 9 (by decide), (fun h => Bool.noConfusion h), tb1 (i := 112) rfl rfl⟩, List.forall_mem_cons.mpr ⟨⟨R_K, F_K, 5, rfl, by decide, t_K_ok 1 (by decide), (fun h => Bool.noConfusion h), tb1 (i := 163) rfl rfl⟩, fun _ h => absurd h List.not_mem_nil⟩⟩⟩⟩⟩⟩
theorem okC_K_flowFrom : ∀ e ∈ C_K_flowFrom, xcok q_K_flowFrom.1.cls e.1 e.2 := List.forall_mem_cons.mpr ⟨⟨tb2 (i := 51) rfl rfl, tb1 (i := 4) rfl rfl, ⟨by decide, by decide, by decide +kernel⟩, by decide, tb2 (i := 48) rfl rfl, tb2 (i := 50) rfl rfl, tbS1 (i := 15) rfl, F_K, 5, rfl⟩, List.forall_mem_cons.mpr ⟨⟨tb2 (i := 89) rfl rfl, tb1 (i := 4) rfl rfl, ⟨by decide, by decide, by decide +kernel⟩, by decide, tb2 (i := 86) rfl rfl, tb2 (i := 88) rfl rfl, tbS2 (i := 7) rfl, F_K, 5, rfl⟩, List.forall_mem_cons.mpr ⟨⟨tb2 (i := 59) rfl rfl, tb1 (i := 4) rfl rfl, ⟨by decide, by decide, by decide +kernel⟩, by decide, tb2 (i := 56) rfl rfl, tb2 (i := 58) rfl rfl, tbS2 (i := 1) rfl, F_K, 5, rfl⟩, List.forall_mem_cons.mpr ⟨⟨tb2 (i := 93) rfl rfl, tb1 (i := 4) rfl rfl, ⟨by decide, by decide, by decide +kernel⟩, by decide, tb2 (i := 90) rfl rfl, tb2 (i := 92) rfl rfl, tbS2 (i := 8) rfl, F_K, 5, rfl⟩, fun _ h => absurd h List.not_mem_nil⟩⟩⟩⟩
theorem ok_K_flowFrom : XOk q_K_flowFrom T_K_flowFrom F_K_flowFrom C_K_flowFrom := ⟨okT_K_flowFrom, okF_K_flowFrom, okC_K_flowFrom⟩
def T_K_flowTo : List (Nat × XE) := [(0, (.aload_n 0, 1, 0, 0, [])), (1, (.getfield 9, 4, 0, 0, [])), (4, (.iload_n 1, 5, 0, 0, [])), (5, (.iaload, 6, 0, 0, [])), (6, (.iload_n 2, 7, 0, 0, [])), (7, (.iand, 8, 0, 0, [])), (8, (.istore_n 3, 9, 0, 0, [])), (9, (.iload_n 3, 10, 0, 0, [])), (10, (.aload_n 0, 11, 0, 0, [])), (11, (.getfield 9, 14, 0, 0, [])), (14, (.iload_n 1, 15, 0, 0, [])), (15, (.iaload, 16, 0, 0, [])), (16, (.if_icmp .eq 15, 19, 31, 0, [])), (19, (.aload_n 0, 20, 0, 0, [])), (20, (.getfield 9, 23, 0, 0, [])), (23, (.iload_n 1, 24, 0, 0, [])), (24, (.iload_n 3, 25, 0, 0, [])), (25, (.iastore, 26, 0, 0, [])), (26, (.aload_n 0, 27, 0, 0, [])), (27, (.iconst 1, 28, 0, 1, [])), (28, (.putfield 24, 31, 0, 0, [])), (31, (.return_, 32, 0, 0, []))]
def F_K_flowTo : List (Nat × XF) := [(9, (1, 0, .array .int, false)), (24, (1, 2, .boolean, true))]
def C_K_flowTo : List (Nat × XK) := []
theorem okT_K_flowTo : T_K_flowTo.all (fun e => xgood q_K_flowTo.2.1 e.1 e.2) = true := by decide +kernel
theorem okF_K_flowTo : ∀ e ∈ F_K_flowTo, xfok q_K_flowTo.1.cls e.1 e.2 := List.forall_mem_cons.mpr ⟨⟨R_K, F_K, 5, rfl, by decide, t_K_ok 0 (by decide), (fun h => Bool.noConfusion h), tb1 (i := 162) rfl rfl⟩, List.forall_mem_cons.mpr ⟨⟨R_K, F_K, 5, rfl, by decide, t_K_ok 2 (by decide), (fun _ => rfl), tb1 (i := 165) rfl rfl⟩, fun _ h => absurd h List.not_mem_nil⟩⟩
theorem okC_K_flowTo : ∀ e ∈ C_K_flowTo, xcok q_K_flowTo.1.cls e.1 e.2 := fun _ h => absurd h List.not_mem_nil
theorem ok_K_flowTo : XOk q_K_flowTo T_K_flowTo F_K_flowTo C_K_flowTo := ⟨okT_K_flowTo, okF_K_flowTo, okC_K_flowTo⟩
def T_K_flowFromAtom : List (Nat × XE) := [(0, (.aload_n 1, 1, 0, 0, [])), (1, (.getfield 75, 4, 0, 0, [])), (4, (.iload_n 2, 5, 0, 0, [])), (5, (.iaload, 6, 0, 0, [])), (6, (.istore_n 3, 7, 0, 0, [])), (7, (.iconst 0, 8, 0, 0, [])), (8, (.istore 4, 10, 0, 0, [])), (10, (.aload_n 1, 11, 0, 0, [])), (11, (.getfield 78, 14, 0, 0, [])), (14, (.iload_n 2, 15, 0, 0, [])), (15, (.iaload, 16, 0, 0, [])), (16, (.ifCond .ne 12, 19, 28, 0, [])), (19, (.iload_n 3, 20, 0, 0, [])), (20, (.invokestatic 42, 23, 0, 0, [])), (23, (.istore 4, 25, 0, 0, [])), (25, (.goto 42, 28, 67, 0, [])), (28, (.aload_n 1, 29, 0, 0, [])), (29, (.getfield 78, 32, 0, 0, [])), (32, (.iload_n 2, 33, 0, 0, [])), (33, (.iaload, 34, 0, 0, [])), (34, (.iconst 1, 35, 0, 1, [])), (35, (.if_icmp .ne 11, 38, 46, 0, [])), (38, (.aload_n 0, 39, 0, 0, [])), (39, (.iload_n 3, 40, 0, 0, [])), (40, (.invokevirtual 81, 43, 0, 0, [])), (43, (.goto 24, 46, 67, 0, [])), (46, (.aload_n 1, 47, 0, 0, [])), (47, (.getfield 78, 50, 0, 0, [])), (50, (.iload_n 2, 51, 0, 0, [])), (51, (.iaload, 52, 0, 0, [])), (52, (.iconst 2, 53, 0, 2, [])), (53, (.if_icmp .ne 14, 56, 67, 0, [])), (56, (.aload_n 0, 57, 0, 0, [])), (57, (.iload_n 3, 58, 0, 0, [])), (58, (.invokevirtual 81, 61, 0, 0, [])), (61, (.iload_n 3, 62, 0, 0, [])), (62, (.invokestatic 46, 65, 0, 0, [])), (65, (.istore 4, 67, 0, 0, [])), (67, (.aload_n 0, 68, 0, 0, [])), (68, (.aload_n 1, 69, 0, 0, [])), (69, (.getfield 61, 72, 0, 0, [])), (72, (.iload_n 2, 73, 0, 0, [])), (73, (.iaload, 74, 0, 0, [])), (74, (.aload_n 0, 75, 0, 0, [])), (75, (.getfield 49, 78, 0, 0, [])), (78, (.iload 4, 80, 0, 0, [])), (80, (.ior, 81, 0, 0, [])), (81, (.invokevirtual 64, 84, 0, 0, [])), (84, (.aload_n 0, 85, 0, 0, [])), (85, (.aload_n 1, 86, 0, 0, [])), (86, (.getfield 85, 89, 0, 0, [])), (89, (.iload_n 2, 90, 0, 0, [])), (90, (.iaload, 91, 0, 0, [])), (91, (.aload_n 0, 92, 0, 0, [])), (92, (.getfield 49, 95, 0, 0, [])), (95, (.invokevirtual 64, 98, 0, 0, [])), (98, (.return_, 99, 0, 0, []))]
def F_K_flowFromAtom : List (Nat × XF) := [(75, (0, 5, .array .int, false)), (78, (0, 6, .array .int, false)), (61, (0, 9, .array .int, false)), (49, (1, 3, .int, true)), (85, (0, 10, .array .int, false))]
def C_K_flowFromAtom : List (Nat × XK) := [(42, (q_K_sureBit, false, 1, 1)), (81, (q_K_use, true, 1, 1)), (46, (q_K_linkedBit, false, 1, 1)), (64, (q_K_flowTo, true, 2, 1))]
theorem okT_K_flowFromAtom : T_K_flowFromAtom.all (fun e => xgood q_K_flowFromAtom.2.1 e.1 e.2) = true := by decide +kernel
theorem okF_K_flowFromAtom : ∀ e ∈ F_K_flowFromAtom, xfok q_K_flowFromAtom.1.cls e.1 e.2 := List.forall_mem_cons.mpr ⟨⟨R_P, F_P, 16, rfl, by decide, t_P_ok 5 (by decide), (fun h => Bool.noConfusion h), tb1 (i := 100) rfl rfl⟩, List.forall_mem_cons.mpr ⟨⟨R_P, F_P, 16, rfl, by decide, t_P_ok 6 (by decide), (fun h => Bool.noConfusion h), tb1 (i := 103) rfl rfl⟩, List.forall_mem_cons.mpr ⟨⟨R_P, F_P, 16, rfl, by decide, t_P_ok 9 (by decide), (fun h => Bool.noConfusion h), tb1 (i := 112) rfl rfl⟩, List.forall_mem_cons.mpr ⟨⟨R_K, F_K, 5, rfl, by decide, t_K_ok 3 (by decide), (fun _ => rfl), tb1 (i := 166) rfl rfl⟩, List.forall_mem_cons.mpr ⟨⟨R_P, F_P, 16, rfl, by decide, t_P_ok 10 (by decide), (fun h => Bool.noConfusion h), tb1 (i := 115) rfl rfl⟩, fun _ h => absurd h List.not_mem_nil⟩⟩⟩⟩⟩
theorem okC_K_flowFromAtom : ∀ e ∈ C_K_flowFromAtom, xcok q_K_flowFromAtom.1.cls e.1 e.2 := List.forall_mem_cons.mpr ⟨⟨tb2 (i := 62) rfl rfl, tb1 (i := 4) rfl rfl, ⟨by decide, by decide, by decide +kernel⟩, by decide, tb2 (i := 60) rfl rfl, tb2 (i := 61) rfl rfl, fun h => absurd h (by decide)⟩, List.forall_mem_cons.mpr ⟨⟨tb2 (i := 70) rfl rfl, tb1 (i := 4) rfl rfl, ⟨by decide, by decide, by decide +kernel⟩, by decide, tb2 (i := 67) rfl rfl, tb2 (i := 69) rfl rfl, tbS2 (i := 3) rfl, F_K, 5, rfl⟩, List.forall_mem_cons.mpr ⟨⟨tb2 (i := 73) rfl rfl, tb1 (i := 4) rfl rfl, ⟨by decide, by decide, by decide +kernel⟩, by decide, tb2 (i := 71) rfl rfl, tb2 (i := 72) rfl rfl, fun h => absurd h (by decide)⟩, List.forall_mem_cons.mpr ⟨⟨tb2 (i := 89) rfl rfl, tb1 (i := 4) rfl rfl, ⟨by decide, by decide, by decide +kernel⟩, by decide, tb2 (i := 86) rfl rfl, tb2 (i := 88) rfl rfl, tbS2 (i := 7) rfl, F_K, 5, rfl⟩, fun _ h => absurd h List.not_mem_nil⟩⟩⟩⟩
theorem ok_K_flowFromAtom : XOk q_K_flowFromAtom T_K_flowFromAtom F_K_flowFromAtom C_K_flowFromAtom := ⟨okT_K_flowFromAtom, okF_K_flowFromAtom, okC_K_flowFromAtom⟩
def T_K_write : List (Nat × XE) := [(0, (.aload_n 1, 1, 0, 0, [])), (1, (.getfield 75, 4, 0, 0, [])), (4, (.iload_n 2, 5, 0, 0, [])), (5, (.iaload, 6, 0, 0, [])), (6, (.istore 4, 8, 0, 0, [])), (8, (.aload_n 0, 9, 0, 0, [])), (9, (.aload_n 1, 10, 0, 0, [])), (10, (.getfield 88, 13, 0, 0, [])), (13, (.iload_n 2, 14, 0, 0, [])), (14, (.iaload, 15, 0, 0, [])), (15, (.aload_n 1, 16, 0, 0, [])), (16, (.getfield 91, 19, 0, 0, [])), (19, (.iload_n 2, 20, 0, 0, [])), (20, (.iaload, 21, 0, 0, [])), (21, (.invokevirtual 94, 24, 0, 0, [])), (24, (.istore 5, 26, 0, 0, [])), (26, (.aload_n 1, 27, 0, 0, [])), (27, (.getfield 78, 30, 0, 0, [])), (30, (.iload_n 2, 31, 0, 0, [])), (31, (.iaload, 32, 0, 0, [])), (32, (.ifCond .ne 61, 35, 93, 0, [])), (35, (.aload_n 1, 36, 0, 0, [])), (36, (.getfield 88, 39, 0, 0, [])), (39, (.iload_n 2, 40, 0, 0, [])), (40, (.iaload, 41, 0, 0, [])), (41, (.ifCond .ne 23, 44, 64, 0, [])), (44, (.aload_n 0, 45, 0, 0, [])), (45, (.aload_n 1, 46, 0, 0, [])), (46, (.getfield 91, 49, 0, 0, [])), (49, (.iload_n 2, 50, 0, 0, [])), (50, (.iaload, 51, 0, 0, [])), (51, (.invokestatic 46, 54, 0, 0, [])), (54, (.invokevirtual 98, 57, 0, 0, [])), (57, (.ifCond .eq 7, 60, 64, 0, [])), (60, (.iconst 1, 61, 0, 1, [])), (61, (.goto 4, 64, 65, 0, [])), (64, (.iconst 0, 65, 0, 0, [])), (65, (.istore 6, 67, 0, 0, [])), (67, (.aload_n 0, 68, 0, 0, [])), (68, (.iload 4, 70, 0, 0, [])), (70, (.iload 5, 72, 0, 0, [])), (72, (.iload 6, 74, 0, 0, [])), (74, (.iload_n 3, 75, 0, 0, [])), (75, (.iload 4, 77, 0, 0, [])), (77, (.invokestatic 42, 80, 0, 0, [])), (80, (.iand, 81, 0, 0, [])), (81, (.ifCond .eq 7, 84, 88, 0, [])), (84, (.iconst 1, 85, 0, 1, [])), (85, (.goto 4, 88, 89, 0, [])), (88, (.iconst 0, 89, 0, 0, [])), (89, (.invokevirtual 101, 92, 0, 0, [])), (92, (.return_, 93, 0, 0, [])), (93, (.aload_n 0, 94, 0, 0, [])), (94, (.iload 4, 96, 0, 0, [])), (96, (.invokevirtual 81, 99, 0, 0, [])), (99, (.aload_n 1, 100, 0, 0, [])), (100, (.getfield 78, 103, 0, 0, [])), (103, (.iload_n 2, 104, 0, 0, [])), (104, (.iaload, 105, 0, 0, [])), (105, (.iconst 2, 106, 0, 2, [])), (106, (.if_icmp .ne 14, 109, 120, 0, [])), (109, (.aload_n 0, 110, 0, 0, [])), (110, (.iload 4, 112, 0, 0, [])), (112, (.iload 5, 114, 0, 0, [])), (114, (.invokevirtual 105, 117, 0, 0, [])), (117, (.goto 18, 120, 135, 0, [])), (120, (.iload 5, 122, 0, 0, [])), (122, (.ifCond .ne 13, 125, 135, 0, [])), (125, (.aload_n 0, 126, 0, 0, [])), (126, (.dup, 127, 0, 0, [])), (127, (.getfield 52, 130, 0, 0, [])), (130, (.iconst 2, 131, 0, 2, [])), (131, (.ior, 132, 0, 0, [])), (132, (.putfield 52, 135, 0, 0, [])), (135, (.return_, 136, 0, 0, []))]
def F_K_write : List (Nat × XF) := [(75, (0, 5, .array .int, false)), (88, (0, 7, .array .int, false)), (91, (0, 8, .array .int, false)), (78, (0, 6, .array .int, false)), (52, (1, 4, .int, true))]
def C_K_write : List (Nat × XK) := [(94, (q_K_takeValue, true, 2, 1)), (46, (q_K_linkedBit, false, 1, 1)), (98, (q_K_has, true, 1, 1)), (42, (q_K_sureBit, false, 1, 1)), (101, (q_K_writeLocal, true, 4, 1)), (81, (q_K_use, true, 1, 1)), (105, (q_K_writeFieldH, true, 2, 1))]
theorem okT_K_write : T_K_write.all (fun e => xgood q_K_write.2.1 e.1 e.2) = true := by decide +kernel
theorem okF_K_write : ∀ e ∈ F_K_write, xfok q_K_write.1.cls e.1 e.2 := List.forall_mem_cons.mpr ⟨⟨R_P, F_P, 16, rfl, by decide, t_P_ok 5 (by decide), (fun h => Bool.noConfusion h), tb1 (i := 100) rfl rfl⟩, List.forall_mem_cons.mpr ⟨⟨R_P, F_P, 16, rfl, by decide, t_P_ok 7 (by decide), (fun h => Bool.noConfusion h), tb1 (i := 106) rfl rfl⟩, List.forall_mem_cons.mpr ⟨⟨R_P, F_P, 16, rfl, by decide, t_P_ok 8 (by decide), (fun h => Bool.noConfusion h), tb1 (i := 109) rfl rfl⟩, List.forall_mem_cons.mpr ⟨⟨R_P, F_P, 16, rfl, by decide, t_P_ok 6 (by decide), (fun h => Bool.noConfusion h), tb1 (i := 103) rfl rfl⟩, List.forall_mem_cons.mpr ⟨⟨R_K, F_K, 5, rfl, by decide, t_K_ok 4 (by decide), (fun _ => rfl), tb1 (i := 167) rfl rfl⟩, fun _ h => absurd h List.not_mem_nil⟩⟩⟩⟩⟩
theorem okC_K_write : ∀ e ∈ C_K_write, xcok q_K_write.1.cls e.1 e.2 := List.forall_mem_cons.mpr ⟨⟨tb2 (i := 55) rfl rfl, tb1 (i := 4) rfl rfl, ⟨by decide, by decide, by decide +kernel⟩, by decide, tb2 (i := 52) rfl rfl, tb2 (i := 54) rfl rfl, tbS2 (i := 0) rfl, F_K, 5, rfl⟩, List.forall_mem_cons.mpr ⟨⟨tb2 (i := 73) rfl rfl, tb1 (i := 4) rfl rfl, ⟨by decide, by decide, by decide +kernel⟩, by decide, tb2 (i := 71) rfl rfl, tb2 (i := 72) rfl rfl, fun h => absurd h (by decide)⟩, List.forall_mem_cons.mpr ⟨⟨tb2 (i := 66) rfl rfl, tb1 (i := 4) rfl rfl, ⟨by decide, by decide, by decide +kernel⟩, by decide, tb2 (i := 63) rfl rfl, tb2 (i := 65) rfl rfl, tbS2 (i := 2) rfl, F_K, 5, rfl⟩, List.forall_mem_cons.mpr ⟨⟨tb2 (i := 62) rfl rfl, tb1 (i := 4) rfl rfl, ⟨by decide, by decide, by decide +kernel⟩, by decide, tb2 (i := 60) rfl rfl, tb2 (i := 61) rfl rfl, fun h => absurd h (by decide)⟩, List.forall_mem_cons.mpr ⟨⟨tb2 (i := 77) rfl rfl, tb1 (i := 4) rfl rfl, ⟨by decide, by decide, by decide +kernel⟩, by decide, tb2 (i := 74) rfl rfl, tb2 (i := 76) rfl rfl, tbS2 (i := 4) rfl, F_K, 5, rfl⟩, List.forall_mem_cons.mpr ⟨⟨tb2 (i := 70) rfl rfl, tb1 (i := 4) rfl rfl, ⟨by decide, by decide, by decide +kernel⟩, by decide, tb2 (i := 67) rfl rfl, tb2 (i := 69) rfl rfl, tbS2 (i := 3) rfl, F_K, 5, rfl⟩, List.forall_mem_cons.mpr ⟨⟨tb2 (i := 85) rfl rfl, tb1 (i := 4) rfl rfl, ⟨by decide, by decide, by decide +kernel⟩, by decide, tb2 (i := 82) rfl rfl, tb2 (i := 84) rfl rfl, tbS2 (i := 6) rfl, F_K, 5, rfl⟩, fun _ h => absurd h List.not_mem_nil⟩⟩⟩⟩⟩⟩⟩
theorem ok_K_write : XOk q_K_write T_K_write F_K_write C_K_write := ⟨okT_K_write, okF_K_write, okC_K_write⟩
def T_K_writeLocal : List (Nat × XE) := [(0, (.iload 4, 2, 0, 0, [])), (2, (.ifCond .eq 20, 5, 22, 0, [])), (5, (.iload_n 2, 6, 0, 0, [])), (6, (.ifCond .ne 16, 9, 22, 0, [])), (9, (.aload_n 0, 10, 0, 0, [])), (10, (.dup, 11, 0, 0, [])), (11, (.getfield 52, 14, 0, 0, [])), (14, (.iconst 2, 15, 0, 2, [])), (15, (.ior, 16, 0, 0, [])), (16, (.putfield 52, 19, 0, 0, [])), (19, (.goto 12, 22, 31, 0, [])), (22, (.aload_n 0, 23, 0, 0, [])), (23, (.iload_n 1, 24, 0, 0, [])), (24, (.invokestatic 42, 27, 0, 0, [])), (27, (.iload_n 2, 28, 0, 0, [])), (28, (.invokevirtual 109, 31, 0, 0, [])), (31, (.aload_n 0, 32, 0, 0, [])), (32, (.iload_n 1, 33, 0, 0, [])), (33, (.invokestatic 46, 36, 0, 0, [])), (36, (.iload_n 3, 37, 0, 0, [])), (37, (.invokevirtual 109, 40, 0, 0, [])), (40, (.return_, 41, 0, 0, []))]
def F_K_writeLocal : List (Nat × XF) := [(52, (1, 4, .int, true))]
def C_K_writeLocal : List (Nat × XK) := [(42, (q_K_sureBit, false, 1, 1)), (109, (q_K_set, true, 2, 1)), (46, (q_K_linkedBit, false, 1, 1))]
theorem okT_K_writeLocal : T_K_writeLocal.all (fun e => xgood q_K_writeLocal.2.1 e.1 e.2) = true := by decide +kernel
theorem okF_K_writeLocal : ∀ e ∈ F_K_writeLocal, xfok q_K_writeLocal.1.cls e.1 e.2 := List.forall_mem_cons.mpr ⟨⟨R_K, F_K, 5, rfl, by decide, t_K_ok 4 (by decide), (fun _ => rfl), tb1 (i := 167) rfl rfl⟩, fun _ h => absurd h List.not_mem_nil⟩
theorem okC_K_writeLocal : ∀ e ∈ C_K_writeLocal, xcok q_K_writeLocal.1.cls e.1 e.2 := List.forall_mem_cons.mpr ⟨⟨tb2 (i := 62) rfl rfl, tb1 (i := 4) rfl rfl, ⟨by decide, by decide, by decide +kernel⟩, by decide, tb2 (i := 60) rfl rfl, tb2 (i := 61) rfl rfl, fun h => absurd h (by decide)⟩, List.forall_mem_cons.mpr ⟨⟨tb2 (i := 81) rfl rfl, tb1 (i := 4) rfl rfl, ⟨by decide, by decide, by decide +kernel⟩, by decide, tb2 (i := 78) rfl rfl, tb2 (i := 80) rfl rfl, tbS2 (i := 5) rfl, F_K, 5, rfl⟩, List.forall_mem_cons.mpr ⟨⟨tb2 (i := 73) rfl rfl, tb1 (i := 4) rfl rfl, ⟨by decide, by decide, by decide +kernel⟩, by decide, tb2 (i := 71) rfl rfl, tb2 (i := 72) rfl rfl, fun h => absurd h (by decide)⟩, fun _ h => absurd h List.not_mem_nil⟩⟩⟩
theorem ok_K_writeLocal : XOk q_K_writeLocal T_K_writeLocal F_K_writeLocal C_K_writeLocal := ⟨okT_K_writeLocal, okF_K_writeLocal, okC_K_writeLocal⟩
def T_K_writeFieldH : List (Nat × XE) := [(0, (.iload_n 2, 1, 0, 0, [])), (1, (.ifCond .eq 19, 4, 20, 0, [])), (4, (.aload_n 0, 5, 0, 0, [])), (5, (.dup, 6, 0, 0, [])), (6, (.getfield 49, 9, 0, 0, [])), (9, (.iload_n 1, 10, 0, 0, [])), (10, (.invokestatic 46, 13, 0, 0, [])), (13, (.ior, 14, 0, 0, [])), (14, (.putfield 49, 17, 0, 0, [])), (17, (.goto 7, 20, 24, 0, [])), (20, (.aload_n 0, 21, 0, 0, [])), (21, (.invokevirtual 68, 24, 0, 0, [])), (24, (.return_, 25, 0, 0, []))]
def F_K_writeFieldH : List (Nat × XF) := [(49, (1, 3, .int, true))]
def C_K_writeFieldH : List (Nat × XK) := [(46, (q_K_linkedBit, false, 1, 1)), (68, (q_K_unlinkAll, true, 0, 1))]
theorem okT_K_writeFieldH : T_K_writeFieldH.all (fun e => xgood q_K_writeFieldH.2.1 e.1 e.2) = true := by decide +kernel
theorem okF_K_writeFieldH : ∀ e ∈ F_K_writeFieldH, xfok q_K_writeFieldH.1.cls e.1 e.2 := List.forall_mem_cons.mpr ⟨⟨R_K, F_K, 5, rfl, by decide, t_K_ok 3 (by decide), (fun _ => rfl), tb1 (i := 166) rfl rfl⟩, fun _ h => absurd h List.not_mem_nil⟩
theorem okC_K_writeFieldH : ∀ e ∈ C_K_writeFieldH, xcok q_K_writeFieldH.1.cls e.1 e.2 := List.forall_mem_cons.mpr ⟨⟨tb2 (i := 73) rfl rfl, tb1 (i := 4) rfl rfl, ⟨by decide, by decide, by decide +kernel⟩, by decide, tb2 (i := 71) rfl rfl, tb2 (i := 72) rfl rfl, fun h => absurd h (by decide)⟩, List.forall_mem_cons.mpr ⟨⟨tb2 (i := 59) rfl rfl, tb1 (i := 4) rfl rfl, ⟨by decide, by decide, by decide +kernel⟩, by decide, tb2 (i := 56) rfl rfl, tb2 (i := 58) rfl rfl, tbS2 (i := 1) rfl, F_K, 5, rfl⟩, fun _ h => absurd h List.not_mem_nil⟩⟩
theorem ok_K_writeFieldH : XOk q_K_writeFieldH T_K_writeFieldH F_K_writeFieldH C_K_writeFieldH := ⟨okT_K_writeFieldH, okF_K_writeFieldH, okC_K_writeFieldH⟩
def T_K_takeValue : List (Nat × XE) := [(0, (.iload_n 1, 1, 0, 0, [])), (1, (.tableswitch 77 0 5 #[47, 56, 63, 77, 39, 41], 39, 78, 0, [(0, 48), (1, 57), (2, 64), (3, 78), (4, 40), (5, 42)])), (40, (.iconst 1, 41, 0, 1, [])), (41, (.ireturn, 42, 0, 0, [])), (42, (.aload_n 0, 43, 0, 0, [])), (43, (.invokevirtual 68, 46, 0, 0, [])), (46, (.iconst 0, 47, 0, 0, [])), (47, (.ireturn, 48, 0, 0, [])), (48, (.aload_n 0, 49, 0, 0, [])), (49, (.iload_n 2, 50, 0, 0, [])), (50, (.invokestatic 42, 53, 0, 0, [])), (53, (.invokevirtual 98, 56, 0, 0, [])), (56, (.ireturn, 57, 0, 0, [])), (57, (.aload_n 0, 58, 0, 0, [])), (58, (.iload_n 2, 59, 0, 0, [])), (59, (.invokevirtual 81, 62, 0, 0, [])), (62, (.iconst 1, 63, 0, 1, [])), (63, (.ireturn, 64, 0, 0, [])), (64, (.aload_n 0, 65, 0, 0, [])), (65, (.iload_n 2, 66, 0, 0, [])), (66, (.invokevirtual 81, 69, 0, 0, [])), (69, (.aload_n 0, 70, 0, 0, [])), (70, (.iload_n 2, 71, 0, 0, [])), (71, (.invokestatic 46, 74, 0, 0, [])), (74, (.invokevirtual 98, 77, 0, 0, [])), (77, (.ireturn, 78, 0, 0, [])), (78, (.iconst 0, 79, 0, 0, [])), (79, (.ireturn, 80, 0, 0, []))]
def F_K_takeValue : List (Nat × XF) := []
def C_K_takeValue : List (Nat × XK) := [(68, (q_K_unlinkAll, true, 0, 1)), (42, (q_K_sureBit, false, 1, 1)), (98, (q_K_has, true, 1, 1)), (81, (q_K_use, true, 1, 1)), (46, (q_K_linkedBit, false, 1, 1))]
theorem okT_K_takeValue : T_K_takeValue.all (fun e => xgood q_K_takeValue.2.1 e.1 e.2) = true := by decide +kernel
theorem okF_K_takeValue : ∀ e ∈ F_K_takeValue, xfok q_K_takeValue.1.cls e.1 e.2 := fun _ h => absurd h List.not_mem_nil
theorem okC_K_takeValue : ∀ e ∈ C_K_takeValue, xcok q_K_takeValue.1.cls e.1 e.2 := List.forall_mem_cons.mpr ⟨⟨tb2 (i := 59) rfl rfl, tb1 (i := 4) rfl rfl, ⟨by decide, by decide, by decide +kernel⟩, by decide, tb2 (i := 56) rfl rfl, tb2 (i := 58) rfl rfl, tbS2 (i := 1) rfl, F_K, 5, rfl⟩, List.forall_mem_cons.mpr ⟨⟨tb2 (i := 62) rfl rfl, tb1 (i := 4) rfl rfl, ⟨by decide, by decide, by decide +kernel⟩, by decide, tb2 (i := 60) rfl rfl, tb2 (i := 61) rfl rfl, fun h => absurd h (by decide)⟩, List.forall_mem_cons.mpr ⟨⟨tb2 (i := 66) rfl rfl, tb1 (i := 4) rfl rfl, ⟨by decide, by decide, by decide +kernel⟩, by decide, tb2 (i := 63) rfl rfl, tb2 (i := 65) rfl rfl, tbS2 (i := 2) rfl, F_K, 5, rfl⟩, List.forall_mem_cons.mpr ⟨⟨tb2 (i := 70) rfl rfl, tb1 (i := 4) rfl rfl, ⟨by decide, by decide, by decide +kernel⟩, by decide, tb2 (i := 67) rfl rfl, tb2 (i := 69) rfl rfl, tbS2 (i := 3) rfl, F_K, 5, rfl⟩, List.forall_mem_cons.mpr ⟨⟨tb2 (i := 73) rfl rfl, tb1 (i := 4) rfl rfl, ⟨by decide, by decide, by decide +kernel⟩, by decide, tb2 (i := 71) rfl rfl, tb2 (i := 72) rfl rfl, fun h => absurd h (by decide)⟩, fun _ h => absurd h List.not_mem_nil⟩⟩⟩⟩⟩
theorem ok_K_takeValue : XOk q_K_takeValue T_K_takeValue F_K_takeValue C_K_takeValue := ⟨okT_K_takeValue, okF_K_takeValue, okC_K_takeValue⟩
def T_K_use : List (Nat × XE) := [(0, (.aload_n 0, 1, 0, 0, [])), (1, (.iload_n 1, 2, 0, 0, [])), (2, (.invokestatic 42, 5, 0, 0, [])), (5, (.invokevirtual 98, 8, 0, 0, [])), (8, (.ifCond .ne 13, 11, 21, 0, [])), (11, (.aload_n 0, 12, 0, 0, [])), (12, (.dup, 13, 0, 0, [])), (13, (.getfield 52, 16, 0, 0, [])), (16, (.iconst 1, 17, 0, 1, [])), (17, (.ior, 18, 0, 0, [])), (18, (.putfield 52, 21, 0, 0, [])), (21, (.aload_n 0, 22, 0, 0, [])), (22, (.dup, 23, 0, 0, [])), (23, (.getfield 49, 26, 0, 0, [])), (26, (.iload_n 1, 27, 0, 0, [])), (27, (.invokestatic 42, 30, 0, 0, [])), (30, (.ior, 31, 0, 0, [])), (31, (.putfield 49, 34, 0, 0, [])), (34, (.return_, 35, 0, 0, []))]
def F_K_use : List (Nat × XF) := [(52, (1, 4, .int, true)), (49, (1, 3, .int, true))]
def C_K_use : List (Nat × XK) := [(42, (q_K_sureBit, false, 1, 1)), (98, (q_K_has, true, 1, 1))]
theorem okT_K_use : T_K_use.all (fun e => xgood q_K_use.2.1 e.1 e.2) = true := by decide +kernel
theorem okF_K_use : ∀ e ∈ F_K_use, xfok q_K_use.1.cls e.1 e.2 := List.forall_mem_cons.mpr ⟨⟨R_K, F_K, 5, rfl, by decide, t_K_ok 4 (by decide), (fun _ => rfl), tb1 (i := 167) rfl rfl⟩, List.forall_mem_cons.mpr ⟨⟨R_K, F_K, 5, rfl, by decide, t_K_ok 3 (by decide), (fun _ => rfl), tb1 (i := 166) rfl rfl⟩, fun _ h => absurd h List.not_mem_nil⟩⟩
theorem okC_K_use : ∀ e ∈ C_K_use, xcok q_K_use.1.cls e.1 e.2 := List.forall_mem_cons.mpr ⟨⟨tb2 (i := 62) rfl rfl, tb1 (i := 4) rfl rfl, ⟨by decide, by decide, by decide +kernel⟩, by decide, tb2 (i := 60) rfl rfl, tb2 (i := 61) rfl rfl, fun h => absurd h (by decide)⟩, List.forall_mem_cons.mpr ⟨⟨tb2 (i := 66) rfl rfl, tb1 (i := 4) rfl rfl, ⟨by decide, by decide, by decide +kernel⟩, by decide, tb2 (i := 63) rfl rfl, tb2 (i := 65) rfl rfl, tbS2 (i := 2) rfl, F_K, 5, rfl⟩, fun _ h => absurd h List.not_mem_nil⟩⟩
theorem ok_K_use : XOk q_K_use T_K_use F_K_use C_K_use := ⟨okT_K_use, okF_K_use, okC_K_use⟩
def T_K_has : List (Nat × XE) := [(0, (.aload_n 0, 1, 0, 0, [])), (1, (.getfield 49, 4, 0, 0, [])), (4, (.iload_n 1, 5, 0, 0, [])), (5, (.iand, 6, 0, 0, [])), (6, (.ifCond .eq 7, 9, 13, 0, [])), (9, (.iconst 1, 10, 0, 1, [])), (10, (.goto 4, 13, 14, 0, [])), (13, (.iconst 0, 14, 0, 0, [])), (14, (.ireturn, 15, 0, 0, []))]
def F_K_has : List (Nat × XF) := [(49, (1, 3, .int, true))]
def C_K_has : List (Nat × XK) := []
theorem okT_K_has : T_K_has.all (fun e => xgood q_K_has.2.1 e.1 e.2) = true := by decide +kernel
theorem okF_K_has : ∀ e ∈ F_K_has, xfok q_K_has.1.cls e.1 e.2 := List.forall_mem_cons.mpr ⟨⟨R_K, F_K, 5, rfl, by decide, t_K_ok 3 (by decide), (fun _ => rfl), tb1 (i := 166) rfl rfl⟩, fun _ h => absurd h List.not_mem_nil⟩
theorem okC_K_has : ∀ e ∈ C_K_has, xcok q_K_has.1.cls e.1 e.2 := fun _ h => absurd h List.not_mem_nil
theorem ok_K_has : XOk q_K_has T_K_has F_K_has C_K_has := ⟨okT_K_has, okF_K_has, okC_K_has⟩
def T_K_set : List (Nat × XE) := [(0, (.aload_n 0, 1, 0, 0, [])), (1, (.iload_n 2, 2, 0, 0, [])), (2, (.ifCond .eq 12, 5, 14, 0, [])), (5, (.aload_n 0, 6, 0, 0, [])), (6, (.getfield 49, 9, 0, 0, [])), (9, (.iload_n 1, 10, 0, 0, [])), (10, (.ior, 11, 0, 0, [])), (11, (.goto 11, 14, 22, 0, [])), (14, (.aload_n 0, 15, 0, 0, [])), (15, (.getfield 49, 18, 0, 0, [])), (18, (.iload_n 1, 19, 0, 0, [])), (19, (.iconst (-1), 20, 0, (-1), [])), (20, (.ixor, 21, 0, 0, [])), (21, (.iand, 22, 0, 0, [])), (22, (.putfield 49, 25, 0, 0, [])), (25, (.return_, 26, 0, 0, []))]
def F_K_set : List (Nat × XF) := [(49, (1, 3, .int, true))]
def C_K_set : List (Nat × XK) := []
theorem okT_K_set : T_K_set.all (fun e => xgood q_K_set.2.1 e.1 e.2) = true := by decide +kernel
theorem okF_K_set : ∀ e ∈ F_K_set, xfok q_K_set.1.cls e.1 e.2 := List.forall_mem_cons.mpr ⟨⟨R_K, F_K, 5, rfl, by decide, t_K_ok 3 (by decide), (fun _ => rfl), tb1 (i := 166) rfl rfl⟩, fun _ h => absurd h List.not_mem_nil⟩
theorem okC_K_set : ∀ e ∈ C_K_set, xcok q_K_set.1.cls e.1 e.2 := fun _ h => absurd h List.not_mem_nil
theorem ok_K_set : XOk q_K_set T_K_set F_K_set C_K_set := ⟨okT_K_set, okF_K_set, okC_K_set⟩
def T_K_unlinkAll : List (Nat × XE) := [(0, (.aload_n 0, 1, 0, 0, [])), (1, (.dup, 2, 0, 0, [])), (2, (.getfield 49, 5, 0, 0, [])), (5, (.sipush (-993), 8, 0, (-993), [])), (8, (.iand, 9, 0, 0, [])), (9, (.putfield 49, 12, 0, 0, [])), (12, (.return_, 13, 0, 0, []))]
def F_K_unlinkAll : List (Nat × XF) := [(49, (1, 3, .int, true))]
def C_K_unlinkAll : List (Nat × XK) := []
theorem okT_K_unlinkAll : T_K_unlinkAll.all (fun e => xgood q_K_unlinkAll.2.1 e.1 e.2) = true := by decide +kernel
theorem okF_K_unlinkAll : ∀ e ∈ F_K_unlinkAll, xfok q_K_unlinkAll.1.cls e.1 e.2 := List.forall_mem_cons.mpr ⟨⟨R_K, F_K, 5, rfl, by decide, t_K_ok 3 (by decide), (fun _ => rfl), tb1 (i := 166) rfl rfl⟩, fun _ h => absurd h List.not_mem_nil⟩
theorem okC_K_unlinkAll : ∀ e ∈ C_K_unlinkAll, xcok q_K_unlinkAll.1.cls e.1 e.2 := fun _ h => absurd h List.not_mem_nil
theorem ok_K_unlinkAll : XOk q_K_unlinkAll T_K_unlinkAll F_K_unlinkAll C_K_unlinkAll := ⟨okT_K_unlinkAll, okF_K_unlinkAll, okC_K_unlinkAll⟩
end
section
/-! tables of the methods, by program -/
def T_H_execute : List (Nat × XE) := [(0, (.aload_n 0, 1, 0, 0, [])), (1, (.iload_n 2, 2, 0, 0, [])), (2, (.iload_n 3, 3, 0, 0, [])), (3, (.ior, 4, 0, 0, [])), (4, (.lload 4, 6, 0, 0, [])), (6, (.invokevirtual 31, 9, 0, 0, [])), (9, (.iconst 0, 10, 0, 0, [])), (10, (.istore 6, 12, 0, 0, [])), (12, (.aload_n 0, 13, 0, 0, [])), (13, (.iconst 0, 14, 0, 0, [])), (14, (.putfield 27, 17, 0, 0, [])), (17, (.aload_n 0, 18, 0, 0, [])), (18, (.getfield 27, 21, 0, 0, [])), (21, (.sipush 200, 24, 0, 200, [])), (24, (.if_icmp .ge 48, 27, 72, 0, [])), (27, (.aload_n 0, 28, 0, 0, [])), (28, (.aload_n 1, 29, 0, 0, [])), (29, (.iload 6, 31, 0, 0, [])), (31, (.iload_n 2, 32, 0, 0, [])), (32, (.invokevirtual 35, 35, 0, 0, [])), (35, (.istore 7, 37, 0, 0, [])), (37, (.aload_n 0, 38, 0, 0, [])), (38, (.getfield 39, 41, 0, 0, [])), (41, (.iconst (-1), 42, 0, (-1), [])), (42, (.if_icmp .eq 13, 45, 55, 0, [])), (45, (.iconst 4, 46, 0, 4, [])), (46, (.iload 6, 48, 0, 0, [])), (48, (.imul, 49, 0, 0, [])), (49, (.aload_n 0, 50, 0, 0, [])), (50, (.getfield 39, 53, 0, 0, [])), (53, (.iadd, 54, 0, 0, [])), (54, (.ireturn, 55, 0, 0, [])), (55, (.iload 7, 57, 0, 0, [])), (57, (.istore 6, 59, 0, 0, [])), (59, (.aload_n 0, 60, 0, 0, [])), (60, (.dup, 61, 0, 0, [])), (61, (.getfield 27, 64, 0, 0, [])), (64, (.iconst 1, 65, 0, 1, [])), (65, (.iadd, 66, 0, 0, [])), (66, (.putfield 27, 69, 0, 0, [])), (69, (.goto (-52), 72, 17, 0, [])), (72, (.iconst 4, 73, 0, 4, [])), (73, (.iload 6, 75, 0, 0, [])), (75, (.imul, 76, 0, 0, [])), (76, (.iconst 3, 77, 0, 3, [])), (77, (.iadd, 78, 0, 0, [])), (78, (.ireturn, 79, 0, 0, []))]
def F_H_execute : List (Nat × XF) := [(27, (2, 4, .int, true)), (39, (2, 6, .int, true))]
def C_H_execute : List (Nat × XK) := [(31, (q_H_prepare, true, 2, 2)), (35, (q_H_visit, true, 3, 2))]
theorem okT_H_execute : T_H_execute.all (fun e => xgood q_H_execute.2.1 e.1 e.2) = true := by decide +kernel
theorem okF_H_execute : ∀ e ∈ F_H_execute, xfok q_H_execute.1.cls e.1 e.2 := List.forall_mem_cons.mpr ⟨⟨R_H, F_H, 7, rfl, by decide, t_H_ok 4 (by decide), (fun _ => rfl), tb1 (i := 194) rfl rfl⟩, List.forall_mem_cons.mpr ⟨⟨R_H, F_H, 7, rfl, by decide, t_H_ok 6 (by decide), (fun _ => rfl), tb1 (i := 197) rfl rfl⟩, fun _ h => absurd h List.not_mem_nil⟩⟩
theorem okC_H_execute : ∀ e ∈ C_H_execute, xcok q_H_execute.1.cls e.1 e.2 := List.forall_mem_cons.mpr ⟨⟨tb2 (i := 134) rfl rfl, tb1 (i := 5) rfl rfl, ⟨by decide, by decide, by decide +kernel⟩, by decide, tb2 (i := 131) rfl rfl, tb2 (i := 133) rfl rfl, tbS2 (i := 9) rfl, F_H, 7, rfl⟩, List.forall_mem_cons.mpr ⟨⟨tb2 (i := 142) rfl rfl, tb1 (i := 5) rfl rfl, ⟨by decide, by decide, by decide +kernel⟩, by decide, tb2 (i := 139) rfl rfl, tb2 (i := 141) rfl rfl, tbS2 (i := 11) rfl, F_H, 7, rfl⟩, fun _ h => absurd h List.not_mem_nil⟩⟩
theorem ok_H_execute : XOk q_H_execute T_H_execute F_H_execute C_H_execute := ⟨okT_H_execute, okF_H_execute, okC_H_execute⟩
def T_H_prepare : List (Nat × XE) := [(0, (.aload_n 0, 1, 0, 0, [])), (1, (.iconst 0, 2, 0, 0, [])), (2, (.putfield 42, 5, 0, 0, [])), (5, (.aload_n 0, 6, 0, 0, [])), (6, (.invokevirtual 45, 9, 0, 0, [])), (9, (.istore 4, 11, 0, 0, [])), (11, (.iconst 0, 12, 0, 0, [])), (12, (.istore 5, 14, 0, 0, [])), (14, (.iload 5, 16, 0, 0, [])), (16, (.iconst 5, 17, 0, 5, [])), (17, (.if_icmp .ge 31, 20, 48, 0, [])), (20, (.aload_n 0, 21, 0, 0, [])), (21, (.getfield 9, 24, 0, 0, [])), (24, (.iload 5, 26, 0, 0, [])), (26, (.iload_n 1, 27, 0, 0, [])), (27, (.iload 5, 29, 0, 0, [])), (29, (.ishr, 30, 0, 0, [])), (30, (.iconst 1, 31, 0, 1, [])), (31, (.iand, 32, 0, 0, [])), (32, (.ifCond .eq 8, 35, 40, 0, [])), (35, (.iload 4, 37, 0, 0, [])), (37, (.goto 4, 40, 41, 0, [])), (40, (.iconst (-1), 41, 0, (-1), [])), (41, (.iastore, 42, 0, 0, [])), (42, (.iinc 5 1, 45, 0, 1, [])), (45, (.goto (-31), 48, 14, 0, [])), (48, (.aload_n 0, 49, 0, 0, [])), (49, (.lload_n 2, 50, 0, 0, [])), (50, (.putfield 49, 53, 0, 0, [])), (53, (.aload_n 0, 54, 0, 0, [])), (54, (.iconst (-1), 55, 0, (-1), [])), (55, (.putfield 39, 58, 0, 0, [])), (58, (.return_, 59, 0, 0, []))]
def F_H_prepare : List (Nat × XF) := [(42, (2, 3, .int, true)), (9, (2, 0, .array .int, false)), (49, (2, 5, .long, true)), (39, (2, 6, .int, true))]
def C_H_prepare : List (Nat × XK) := [(45, (q_H_makeObject, true, 0, 2))]
theorem okT_H_prepare : T_H_prepare.all (fun e => xgood q_H_prepare.2.1 e.1 e.2) = true := by decide +kernel
theorem okF_H_prepare : ∀ e ∈ F_H_prepare, xfok q_H_prepare.1.cls e.1 e.2 := List.forall_mem_cons.mpr ⟨⟨R_H, F_H, 7, rfl, by decide, t_H_ok 3 (by decide), (fun _ => rfl), tb1 (i := 192) rfl rfl⟩, List.forall_mem_cons.mpr ⟨⟨R_H, F_H, 7, rfl, by decide, t_H_ok 0 (by decide), (fun h => Bool.noConfusion h), tb1 (i := 186) rfl rfl⟩, List.forall_mem_cons.mpr ⟨⟨R_H, F_H, 7, rfl, by decide, t_H_ok 5 (by decide), (fun _ => rfl), tb1 (i := 196) rfl rfl⟩, List.forall_mem_cons.mpr ⟨⟨R_H, F_H, 7, rfl, by decide, t_H_ok 6 (by decide), (fun _ => rfl), tb1 (i := 197) rfl rfl⟩, fun _ h => absurd h List.not_mem_nil⟩⟩⟩⟩
theorem okC_H_prepare : ∀ e ∈ C_H_prepare, xcok q_H_prepare.1.cls e.1 e.2 := List.forall_mem_cons.mpr ⟨⟨tb2 (i := 138) rfl rfl, tb1 (i := 5) rfl rfl, ⟨by decide, by decide, by decide +kernel⟩, by decide, tb2 (i := 135) rfl rfl, tb2 (i := 137) rfl rfl, tbS2 (i := 10) rfl, F_H, 7, rfl⟩, fun _ h => absurd h List.not_mem_nil⟩
theorem ok_H_prepare : XOk q_H_prepare T_H_prepare F_H_prepare C_H_prepare := ⟨okT_H_prepare, okF_H_prepare, okC_H_prepare⟩
def T_H_visit : List (Nat × XE) := [(0, (.aload_n 1, 1, 0, 0, [])), (1, (.getfield 53, 4, 0, 0, [])), (4, (.iload_n 2, 5, 0, 0, [])), (5, (.iaload, 6, 0, 0, [])), (6, (.tableswitch 112 1 5 #[34, 48, 55, 112, 77], 34, 118, 0, [(1, 40), (2, 54), (3, 61), (4, 118), (5, 83)])), (40, (.aload_n 0, 41, 0, 0, [])), (41, (.aload_n 1, 42, 0, 0, [])), (42, (.iload_n 2, 43, 0, 0, [])), (43, (.iload_n 3, 44, 0, 0, [])), (44, (.invokevirtual 58, 47, 0, 0, [])), (47, (.aload_n 1, 48, 0, 0, [])), (48, (.getfield 62, 51, 0, 0, [])), (51, (.iload_n 2, 52, 0, 0, [])), (52, (.iaload, 53, 0, 0, [])), (53, (.ireturn, 54, 0, 0, [])), (54, (.aload_n 1, 55, 0, 0, [])), (55, (.getfield 62, 58, 0, 0, [])), (58, (.iload_n 2, 59, 0, 0, [])), (59, (.iaload, 60, 0, 0, [])), (60, (.ireturn, 61, 0, 0, [])), (61, (.aload_n 0, 62, 0, 0, [])), (62, (.getfield 18, 65, 0, 0, [])), (65, (.aload_n 0, 66, 0, 0, [])), (66, (.aload_n 0, 67, 0, 0, [])), (67, (.iconst 2, 68, 0, 2, [])), (68, (.invokevirtual 65, 71, 0, 0, [])), (71, (.invokevirtual 69, 74, 0, 0, [])), (74, (.iconst (-1), 75, 0, (-1), [])), (75, (.iastore, 76, 0, 0, [])), (76, (.aload_n 1, 77, 0, 0, [])), (77, (.getfield 62, 80, 0, 0, [])), (80, (.iload_n 2, 81, 0, 0, [])), (81, (.iaload, 82, 0, 0, [])), (82, (.ireturn, 83, 0, 0, [])), (83, (.aload_n 0, 84, 0, 0, [])), (84, (.aload_n 1, 85, 0, 0, [])), (85, (.getfield 72, 88, 0, 0, [])), (88, (.iload_n 2, 89, 0, 0, [])), (89, (.iaload, 90, 0, 0, [])), (90, (.aload_n 1, 91, 0, 0, [])), (91, (.getfield 75, 94, 0, 0, [])), (94, (.iload_n 2, 95, 0, 0, [])), (95, (.iaload, 96, 0, 0, [])), (96, (.invokevirtual 78, 99, 0, 0, [])), (99, (.ifCond .eq 12, 102, 111, 0, [])), (102, (.aload_n 1, 103, 0, 0, [])), (103, (.getfield 62, 106, 0, 0, [])), (106, (.iload_n 2, 107, 0, 0, [])), (107, (.iaload, 108, 0, 0, [])), (108, (.goto 9, 111, 117, 0, [])), (111, (.aload_n 1, 112, 0, 0, [])), (112, (.getfield 82, 115, 0, 0, [])), (115, (.iload_n 2, 116, 0, 0, [])), (116, (.iaload, 117, 0, 0, [])), (117, (.ireturn, 118, 0, 0, [])), (118, (.aload_n 0, 119, 0, 0, [])), (119, (.iconst 0, 120, 0, 0, [])), (120, (.putfield 39, 123, 0, 0, [])), (123, (.iload_n 2, 124, 0, 0, [])), (124, (.ireturn, 125, 0, 0, []))]
def F_H_visit : List (Nat × XF) := [(53, (0, 4, .array .int, false)), (62, (0, 9, .array .int, false)), (18, (2, 2, .array .int, false)), (72, (0, 6, .array .int, false)), (75, (0, 5, .array .int, false)), (82, (0, 10, .array .int, false)), (39, (2, 6, .int, true))]
def C_H_visit : List (Nat × XK) := [(58, (q_H_write, true, 3, 2)), (65, (q_H_takeBits, true, 1, 2)), (69, (q_H_existing, true, 1, 2)), (78, (q_H_isTrue, true, 2, 2))]
theorem okT_H_visit : T_H_visit.all (fun e => xgood q_H_visit.2.1 e.1 e.2) = true := by decide +kernel
theorem okF_H_visit : ∀ e ∈ F_H_visit, xfok q_H_visit.1.cls e.1 e.2 := List.forall_mem_cons.mpr ⟨⟨R_P, F_P, 16, rfl, by decide, t_P_ok 4 (by decide), (fun h => Bool.noConfusion h), tb1 (i := 96) rfl rfl⟩, List.forall_mem_cons.mpr ⟨⟨R_P, F_P, 16, rfl, by decide, t_P_ok 9 (by decide), (fun h => Bool.noConfusion h), tb1 (i := 111) rfl rfl⟩, List.forall_mem_cons.mpr ⟨⟨R_H, F_H, 7, rfl, by decide, t_H_ok 2 (by decide), (fun h => Bool.noConfusion h), tb1 (i := 190) rfl rfl⟩, List.forall_mem_cons.mpr ⟨⟨R_P, F_P, 16, rfl, by decide, t_P_ok 6 (by decide), (fun h => Bool.noConfusion h), tb1 (i := 102) rfl rfl⟩, List.forall_mem_cons.mpr ⟨⟨R_P, F_P, 16, rfl, by decide, t_P_ok 5 (by decide), (fun h => Bool.noConfusion h), tb1 (i := 99) rfl rfl⟩, List.forall_mem_cons.mpr ⟨⟨R_P, F_P, 16, rfl, by decide, t_P_ok 10 (by decide), (fun h => Bool.noConfusion h), tb1 (i := 114) rfl rfl⟩, List.forall_mem_cons.mpr ⟨⟨R_H, F_H, 7, rfl, by decide, t_H_ok 6 (by decide), (fun _ => rfl), tb1 (i := 197) rfl rfl⟩, fun _ h => absurd h List.not_mem_nil⟩⟩⟩⟩⟩⟩⟩
theorem okC_H_visit : ∀ e ∈ C_H_visit, xcok q_H_visit.1.cls e.1 e.2 := List.forall_mem_cons.mpr ⟨⟨tb2 (i := 146) rfl rfl, tb1 (i := 5) rfl rfl, ⟨by decide, by decide, by decide +kernel⟩, by decide, tb2 (i := 143) rfl rfl, tb2 (i := 145) rfl rfl, tbS2 (i := 12) rfl, F_H, 7, rfl⟩, List.forall_mem_cons.mpr ⟨⟨tb2 (i := 158) rfl rfl, tb1 (i := 5) rfl rfl, ⟨by decide, by decide, by decide +kernel⟩, by decide, tb2 (i := 155) rfl rfl, tb2 (i := 157) rfl rfl, tbS2 (i := 15) rfl, F_H, 7, rfl⟩, List.forall_mem_cons.mpr ⟨⟨tb2 (i := 162) rfl rfl, tb1 (i := 5) rfl rfl, ⟨by decide, by decide, by decide +kernel⟩, by decide, tb2 (i := 159) rfl rfl, tb2 (i := 161) rfl rfl, tbS3 (i := 0) rfl, F_H, 7, rfl⟩, List.forall_mem_cons.mpr ⟨⟨tb2 (i := 177) rfl rfl, tb1 (i := 5) rfl rfl, ⟨by decide, by decide, by decide +kernel⟩, by decide, tb2 (i := 174) rfl rfl, tb2 (i := 176) rfl rfl, tbS3 (i := 3) rfl, F_H, 7, rfl⟩, fun _ h => absurd h List.not_mem_nil⟩⟩⟩⟩
theorem ok_H_visit : XOk q_H_visit T_H_visit F_H_visit C_H_visit := ⟨okT_H_visit, okF_H_visit, okC_H_visit⟩
def T_H_isTrue : List (Nat × XE) := [(0, (.iload_n 1, 1, 0, 0, [])), (1, (.bipush 6, 3, 0, 6, [])), (3, (.if_icmp .ne 18, 6, 21, 0, [])), (6, (.aload_n 0, 7, 0, 0, [])), (7, (.iconst 1, 8, 0, 1, [])), (8, (.invokevirtual 65, 11, 0, 0, [])), (11, (.iconst 1, 12, 0, 1, [])), (12, (.if_icmp .ne 7, 15, 19, 0, [])), (15, (.iconst 1, 16, 0, 1, [])), (16, (.goto 4, 19, 20, 0, [])), (19, (.iconst 0, 20, 0, 0, [])), (20, (.ireturn, 21, 0, 0, [])), (21, (.aload_n 0, 22, 0, 0, [])), (22, (.iload_n 1, 23, 0, 0, [])), (23, (.iload_n 2, 24, 0, 0, [])), (24, (.invokevirtual 85, 27, 0, 0, [])), (27, (.iconst (-1), 28, 0, (-1), [])), (28, (.if_icmp .eq 7, 31, 35, 0, [])), (31, (.iconst 1, 32, 0, 1, [])), (32, (.goto 4, 35, 36, 0, [])), (35, (.iconst 0, 36, 0, 0, [])), (36, (.ireturn, 37, 0, 0, []))]
def F_H_isTrue : List (Nat × XF) := []
def C_H_isTrue : List (Nat × XK) := [(65, (q_H_takeBits, true, 1, 2)), (85, (q_H_read, true, 2, 2))]
theorem okT_H_isTrue : T_H_isTrue.all (fun e => xgood q_H_isTrue.2.1 e.1 e.2) = true := by decide +kernel
theorem okF_H_isTrue : ∀ e ∈ F_H_isTrue, xfok q_H_isTrue.1.cls e.1 e.2 := fun _ h => absurd h List.not_mem_nil
theorem okC_H_isTrue : ∀ e ∈ C_H_isTrue, xcok q_H_isTrue.1.cls e.1 e.2 := List.forall_mem_cons.mpr ⟨⟨tb2 (i := 158) rfl rfl, tb1 (i := 5) rfl rfl, ⟨by decide, by decide, by decide +kernel⟩, by decide, tb2 (i := 155) rfl rfl, tb2 (i := 157) rfl rfl, tbS2 (i := 15) rfl, F_H, 7, rfl⟩, List.forall_mem_cons.mpr ⟨⟨tb2 (i := 169) rfl rfl, tb1 (i := 5) rfl rfl, ⟨by decide, by decide, by decide +kernel⟩, by decide, tb2 (i := 166) rfl rfl, tb2 (i := 168) rfl rfl, tbS3 (i := 1) rfl, F_H, 7, rfl⟩, fun _ h => absurd h List.not_mem_nil⟩⟩
theorem ok_H_isTrue : XOk q_H_isTrue T_H_isTrue F_H_isTrue C_H_isTrue := ⟨okT_H_isTrue, okF_H_isTrue, okC_H_isTrue⟩
def T_H_write : List (Nat × XE) := [(0, (.aload_n 1, 1, 0, 0, [])), (1, (.getfield 75, 4, 0, 0, [])), (4, (.iload_n 2, 5, 0, 0, [])), (5, (.iaload, 6, 0, 0, [])), (6, (.istore 4, 8, 0, 0, [])), (8, (.aload_n 0, 9, 0, 0, [])), (9, (.aload_n 1, 10, 0, 0, [])), (10, (.getfield 89, 13, 0, 0, [])), (13, (.iload_n 2, 14, 0, 0, [])), (14, (.iaload, 15, 0, 0, [])), (15, (.aload_n 1, 16, 0, 0, [])), (16, (.getfield 92, 19, 0, 0, [])), (19, (.iload_n 2, 20, 0, 0, [])), (20, (.iaload, 21, 0, 0, [])), (21, (.invokevirtual 95, 24, 0, 0, [])), (24, (.istore 5, 26, 0, 0, [])), (26, (.aload_n 0, 27, 0, 0, [])), (27, (.getfield 39, 30, 0, 0, [])), (30, (.iconst (-1), 31, 0, (-1), [])), (31, (.if_icmp .eq 4, 34, 35, 0, [])), (34, (.return_, 35, 0, 0, [])), (35, (.aload_n 1, 36, 0, 0, [])), (36, (.getfield 72, 39, 0, 0, [])), (39, (.iload_n 2, 40, 0, 0, [])), (40, (.iaload, 41, 0, 0, [])), (41, (.ifCond .ne 28, 44, 69, 0, [])), (44, (.aload_n 0, 45, 0, 0, [])), (45, (.iload 4, 47, 0, 0, [])), (47, (.iload 5, 49, 0, 0, [])), (49, (.iload_n 3, 50, 0, 0, [])), (50, (.iload 4, 52, 0, 0, [])), (52, (.ishr, 53, 0, 0, [])), (53, (.iconst 1, 54, 0, 1, [])), (54, (.iand, 55, 0, 0, [])), (55, (.ifCond .eq 7, 58, 62, 0, [])), (58, (.iconst 1, 59, 0, 1, [])), (59, (.goto 4, 62, 63, 0, [])), (62, (.iconst 0, 63, 0, 0, [])), (63, (.invokevirtual 98, 66, 0, 0, [])), (66, (.goto 77, 69, 143, 0, [])), (69, (.aload_n 0, 70, 0, 0, [])), (70, (.getfield 9, 73, 0, 0, [])), (73, (.iload 4, 75, 0, 0, [])), (75, (.iaload, 76, 0, 0, [])), (76, (.iconst (-1), 77, 0, (-1), [])), (77, (.if_icmp .ne 11, 80, 88, 0, [])), (80, (.aload_n 0, 81, 0, 0, [])), (81, (.iconst 1, 82, 0, 1, [])), (82, (.putfield 39, 85, 0, 0, [])), (85, (.goto 58, 88, 143, 0, [])), (88, (.aload_n 1, 89, 0, 0, [])), (89, (.getfield 72, 92, 0, 0, [])), (92, (.iload_n 2, 93, 0, 0, [])), (93, (.iaload, 94, 0, 0, [])), (94, (.iconst 2, 95, 0, 2, [])), (95, (.if_icmp .ne 20, 98, 115, 0, [])), (98, (.aload_n 0, 99, 0, 0, [])), (99, (.getfield 18, 102, 0, 0, [])), (102, (.aload_n 0, 103, 0, 0, [])), (103, (.getfield 9, 106, 0, 0, [])), (106, (.iload 4, 108, 0, 0, [])), (108, (.iaload, 109, 0, 0, [])), (109, (.iload 5, 111, 0, 0, [])), (111, (.iastore, 112, 0, 0, [])), (112, (.goto 31, 115, 143, 0, [])), (115, (.iload 5, 117, 0, 0, [])), (117, (.iconst (-1), 118, 0, (-1), [])), (118, (.if_icmp .ne 11, 121, 129, 0, [])), (121, (.aload_n 0, 122, 0, 0, [])), (122, (.iconst 2, 123, 0, 2, [])), (123, (.putfield 39, 126, 0, 0, [])), (126, (.goto 17, 129, 143, 0, [])), (129, (.aload_n 0, 130, 0, 0, [])), (130, (.getfield 15, 133, 0, 0, [])), (133, (.aload_n 0, 134, 0, 0, [])), (134, (.getfield 9, 137, 0, 0, [])), (137, (.iload 4, 139, 0, 0, [])), (139, (.iaload, 140, 0, 0, [])), (140, (.iload 5, 142, 0, 0, [])), (142, (.iastore, 143, 0, 0, [])), (143, (.return_, 144, 0, 0, []))]
def F_H_write : List (Nat × XF) := [(75, (0, 5, .array .int, false)), (89, (0, 7, .array .int, false)), (92, (0, 8, .array .int, false)), (39, (2, 6, .int, true)), (72, (0, 6, .array .int, false)), (9, (2, 0, .array .int, false)), (18, (2, 2, .array .int, false)), (15, (2, 1, .array .int, false))]
def C_H_write : List (Nat × XK) := [(95, (q_H_findValue, true, 2, 2)), (98, (q_H_writeLocal, true, 3, 2))]
theorem okT_H_write : T_H_write.all (fun e => xgood q_H_write.2.1 e.1 e.2) = true := by decide +kernel
theorem okF_H_write : ∀ e ∈ F_H_write, xfok q_H_write.1.cls e.1 e.2 := List.forall_mem_cons.mpr ⟨⟨R_P, F_P, 16, rfl, by decide, t_P_ok 5 (by decide), (fun h => Bool.noConfusion h), tb1 (i := 99) rfl rfl⟩, List.forall_mem_cons.mpr ⟨⟨R_P, F_P, 16, rfl, by decide, t_P_ok 7 (by decide), (fun h => Bool.noConfusion h), tb1 (i := 105) rfl rfl⟩, List.forall_mem_cons.mpr ⟨⟨R_P, F_P, 16, rfl, by decide, t_P_ok 8 (by decide), (fun h => Bool.noConfusion h), tb1 (i := 108) rfl rfl⟩, List.forall_mem_cons.mpr ⟨⟨R_H, F_H, 7, rfl, by decide, t_H_ok 6 (by decide), (fun _ => rfl), tb1 (i := 197) rfl rfl⟩, List.forall_mem_cons.mpr ⟨⟨R_P, F_P, 16, rfl, by decide, t_P_ok 6 (by decide), (fun h => Bool.noConfusion h), tb1 (i := 102) rfl rfl⟩, List.forall_mem_cons.mpr ⟨⟨R_H, F_H, 7, rfl, by decide, t_H_ok 0 (by decide), (fun h => Bool.noConfusion h), tb1 (i := 186) rfl rfl⟩, List.forall_mem_cons.mpr ⟨⟨R_H, F_H, 7, rfl, by decide, t_H_ok 2 (by decide), (fun h => Bool.noConfusion h), tb1 (i := 190) rfl rfl⟩, List.forall_mem_cons.mpr ⟨⟨R_H, F_H, 7, rfl, by decide, t_H_ok 1 (by decide), (fun h => Bool.noConfusion h), tb1 (i := 188) rfl rfl⟩, fun _ h => absurd h List.not_mem_nil⟩⟩⟩⟩⟩⟩⟩⟩
theorem okC_H_write : ∀ e ∈ C_H_write, xcok q_H_write.1.cls e.1 e.2 := List.forall_mem_cons.mpr ⟨⟨tb2 (i := 150) rfl rfl, tb1 (i := 5) rfl rfl, ⟨by decide, by decide, by decide +kernel⟩, by decide, tb2 (i := 147) rfl rfl, tb2 (i := 149) rfl rfl, tbS2 (i := 13) rfl, F_H, 7, rfl⟩, List.forall_mem_cons.mpr ⟨⟨tb2 (i := 173) rfl rfl, tb1 (i := 5) rfl rfl, ⟨by decide, by decide, by decide +kernel⟩, by decide, tb2 (i := 170) rfl rfl, tb2 (i := 172) rfl rfl, tbS3 (i := 2) rfl, F_H, 7, rfl⟩, fun _ h => absurd h List.not_mem_nil⟩⟩
theorem ok_H_write : XOk q_H_write T_H_write F_H_write C_H_write := ⟨okT_H_write, okF_H_write, okC_H_write⟩
def T_H_writeLocal : List (Nat × XE) := [(0, (.iload_n 3, 1, 0, 0, [])), (1, (.ifCond .eq 16, 4, 17, 0, [])), (4, (.iload_n 2, 5, 0, 0, [])), (5, (.iconst (-1), 6, 0, (-1), [])), (6, (.if_icmp .ne 11, 9, 17, 0, [])), (9, (.aload_n 0, 10, 0, 0, [])), (10, (.iconst 2, 11, 0, 2, [])), (11, (.putfield 39, 14, 0, 0, [])), (14, (.goto 10, 17, 24, 0, [])), (17, (.aload_n 0, 18, 0, 0, [])), (18, (.getfield 9, 21, 0, 0, [])), (21, (.iload_n 1, 22, 0, 0, [])), (22, (.iload_n 2, 23, 0, 0, [])), (23, (.iastore, 24, 0, 0, [])), (24, (.return_, 25, 0, 0, []))]
def F_H_writeLocal : List (Nat × XF) := [(39, (2, 6, .int, true)), (9, (2, 0, .array .int, false))]
def C_H_writeLocal : List (Nat × XK) := []
theorem okT_H_writeLocal : T_H_writeLocal.all (fun e => xgood q_H_writeLocal.2.1 e.1 e.2) = true := by decide +kernel
theorem okF_H_writeLocal : ∀ e ∈ F_H_writeLocal, xfok q_H_writeLocal.1.cls e.1 e.2 := List.forall_mem_cons.mpr ⟨⟨R_H, F_H, 7, rfl, by decide, t_H_ok 6 (by decide), (fun _ => rfl), tb1 (i := 197) rfl rfl⟩, List.forall_mem_cons.mpr ⟨⟨R_H, F_H, 7, rfl, by decide, t_H_ok 0 (by decide), (fun h => Bool.noConfusion h), tb1 (i := 186) rfl rfl⟩, fun _ h => absurd h List.not_mem_nil⟩⟩
theorem okC_H_writeLocal : ∀ e ∈ C_H_writeLocal, xcok q_H_writeLocal.1.cls e.1 e.2 := fun _ h => absurd h List.not_mem_nil
theorem ok_H_writeLocal : XOk q_H_writeLocal T_H_writeLocal F_H_writeLocal C_H_writeLocal := ⟨okT_H_writeLocal, okF_H_writeLocal, okC_H_writeLocal⟩
def T_H_findValue : List (Nat × XE) := [(0, (.iload_n 1, 1, 0, 0, [])), (1, (.tableswitch 39 3 5 #[27, 29, 34], 27, 40, 0, [(3, 28), (4, 30), (5, 35)])), (28, (.iconst (-1), 29, 0, (-1), [])), (29, (.ireturn, 30, 0, 0, [])), (30, (.aload_n 0, 31, 0, 0, [])), (31, (.invokevirtual 45, 34, 0, 0, [])), (34, (.ireturn, 35, 0, 0, [])), (35, (.aload_n 0, 36, 0, 0, [])), (36, (.invokevirtual 102, 39, 0, 0, [])), (39, (.ireturn, 40, 0, 0, [])), (40, (.aload_n 0, 41, 0, 0, [])), (41, (.iload_n 1, 42, 0, 0, [])), (42, (.iload_n 2, 43, 0, 0, [])), (43, (.invokevirtual 85, 46, 0, 0, [])), (46, (.ireturn, 47, 0, 0, []))]
def F_H_findValue : List (Nat × XF) := []
def C_H_findValue : List (Nat × XK) := [(45, (q_H_makeObject, true, 0, 2)), (102, (q_H_askOracle, true, 0, 2)), (85, (q_H_read, true, 2, 2))]
theorem okT_H_findValue : T_H_findValue.all (fun e => xgood q_H_findValue.2.1 e.1 e.2) = true := by decide +kernel
theorem okF_H_findValue : ∀ e ∈ F_H_findValue, xfok q_H_findValue.1.cls e.1 e.2 := fun _ h => absurd h List.not_mem_nil
theorem okC_H_findValue : ∀ e ∈ C_H_findValue, xcok q_H_findValue.1.cls e.1 e.2 := List.forall_mem_cons.mpr ⟨⟨tb2 (i := 138) rfl rfl, tb1 (i := 5) rfl rfl, ⟨by decide, by decide, by decide +kernel⟩, by decide, tb2 (i := 135) rfl rfl, tb2 (i := 137) rfl rfl, tbS2 (i := 10) rfl, F_H, 7, rfl⟩, List.forall_mem_cons.mpr ⟨⟨tb2 (i := 154) rfl rfl, tb1 (i := 5) rfl rfl, ⟨by decide, by decide, by decide +kernel⟩, by decide, tb2 (i := 151) rfl rfl, tb2 (i := 153) rfl rfl, tbS2 (i := 14) rfl, F_H, 7, rfl⟩, List.forall_mem_cons.mpr ⟨⟨tb2 (i := 169) rfl rfl, tb1 (i := 5) rfl rfl, ⟨by decide, by decide, by decide +kernel⟩, by decide, tb2 (i := 166) rfl rfl, tb2 (i := 168) rfl rfl, tbS3 (i := 1) rfl, F_H, 7, rfl⟩, fun _ h => absurd h List.not_mem_nil⟩⟩⟩
theorem ok_H_findValue : XOk q_H_findValue T_H_findValue F_H_findValue C_H_findValue := ⟨okT_H_findValue, okF_H_findValue, okC_H_findValue⟩
def T_H_askOracle : List (Nat × XE) := [(0, (.aload_n 0, 1, 0, 0, [])), (1, (.iconst 2, 2, 0, 2, [])), (2, (.invokevirtual 65, 5, 0, 0, [])), (5, (.istore_n 1, 6, 0, 0, [])), (6, (.iload_n 1, 7, 0, 0, [])), (7, (.ifCond .ne 7, 10, 14, 0, [])), (10, (.iconst (-1), 11, 0, (-1), [])), (11, (.goto 10, 14, 21, 0, [])), (14, (.aload_n 0, 15, 0, 0, [])), (15, (.iload_n 1, 16, 0, 0, [])), (16, (.iconst 1, 17, 0, 1, [])), (17, (.isub, 18, 0, 0, [])), (18, (.invokevirtual 69, 21, 0, 0, [])), (21, (.ireturn, 22, 0, 0, []))]
def F_H_askOracle : List (Nat × XF) := []
def C_H_askOracle : List (Nat × XK) := [(65, (q_H_takeBits, true, 1, 2)), (69, (q_H_existing, true, 1, 2))]
theorem okT_H_askOracle : T_H_askOracle.all (fun e => xgood q_H_askOracle.2.1 e.1 e.2) = true := by decide +kernel
theorem okF_H_askOracle : ∀ e ∈ F_H_askOracle, xfok q_H_askOracle.1.cls e.1 e.2 := fun _ h => absurd h List.not_mem_nil
theorem okC_H_askOracle : ∀ e ∈ C_H_askOracle, xcok q_H_askOracle.1.cls e.1 e.2 := List.forall_mem_cons.mpr ⟨⟨tb2 (i := 158) rfl rfl, tb1 (i := 5) rfl rfl, ⟨by decide, by decide, by decide +kernel⟩, by decide, tb2 (i := 155) rfl rfl, tb2 (i := 157) rfl rfl, tbS2 (i := 15) rfl, F_H, 7, rfl⟩, List.forall_mem_cons.mpr ⟨⟨tb2 (i := 162) rfl rfl, tb1 (i := 5) rfl rfl, ⟨by decide, by decide, by decide +kernel⟩, by decide, tb2 (i := 159) rfl rfl, tb2 (i := 161) rfl rfl, tbS3 (i := 0) rfl, F_H, 7, rfl⟩, fun _ h => absurd h List.not_mem_nil⟩⟩
theorem ok_H_askOracle : XOk q_H_askOracle T_H_askOracle F_H_askOracle C_H_askOracle := ⟨okT_H_askOracle, okF_H_askOracle, okC_H_askOracle⟩
def T_H_makeObject : List (Nat × XE) := [(0, (.aload_n 0, 1, 0, 0, [])), (1, (.getfield 42, 4, 0, 0, [])), (4, (.bipush 8, 6, 0, 8, [])), (6, (.if_icmp .lt 6, 9, 12, 0, [])), (9, (.bipush 7, 11, 0, 7, [])), (11, (.ireturn, 12, 0, 0, [])), (12, (.aload_n 0, 13, 0, 0, [])), (13, (.getfield 42, 16, 0, 0, [])), (16, (.istore_n 1, 17, 0, 0, [])), (17, (.aload_n 0, 18, 0, 0, [])), (18, (.getfield 15, 21, 0, 0, [])), (21, (.iload_n 1, 22, 0, 0, [])), (22, (.iload_n 1, 23, 0, 0, [])), (23, (.iastore, 24, 0, 0, [])), (24, (.aload_n 0, 25, 0, 0, [])), (25, (.getfield 18, 28, 0, 0, [])), (28, (.iload_n 1, 29, 0, 0, [])), (29, (.iconst (-1), 30, 0, (-1), [])), (30, (.iastore, 31, 0, 0, [])), (31, (.aload_n 0, 32, 0, 0, [])), (32, (.dup, 33, 0, 0, [])), (33, (.getfield 42, 36, 0, 0, [])), (36, (.iconst 1, 37, 0, 1, [])), (37, (.iadd, 38, 0, 0, [])), (38, (.putfield 42, 41, 0, 0, [])), (41, (.iload_n 1, 42, 0, 0, [])), (42, (.ireturn, 43, 0, 0, []))]
def F_H_makeObject : List (Nat × XF) := [(42, (2, 3, .int, true)), (15, (2, 1, .array .int, false)), (18, (2, 2, .array .int, false))]
def C_H_makeObject : List (Nat × XK) := []
theorem okT_H_makeObject : T_H_makeObject.all (fun e => xgood q_H_makeObject.2.1 e.1 e.2) = true := by decide +kernel
theorem okF_H_makeObject : ∀ e ∈ F_H_makeObject, xfok q_H_makeObject.1.cls e.1 e.2 := List.forall_mem_cons.mpr ⟨⟨R_H, F_H, 7, rfl, by decide, t_H_ok 3 (by decide), (fun _ => rfl), tb1 (i := 192) rfl rfl⟩, List.forall_mem_cons.mpr ⟨⟨R_H, F_H, 7, rfl, by decide, t_H_ok 1 (by decide), (fun h => Bool.noConfusion h), tb1 (i := 188) rfl rfl⟩, List.forall_mem_cons.mpr ⟨⟨R_H, F_H, 7, rfl, by decide, t_H_ok 2 (by decide), (fun h => Bool.noConfusion h), tb1 (i := 190) rfl rfl⟩, fun _ h => absurd h List.not_mem_nil⟩⟩⟩
theorem okC_H_makeObject : ∀ e ∈ C_H_makeObject, xcok q_H_makeObject.1.cls e.1 e.2 := fun _ h => absurd h List.not_mem_nil
theorem ok_H_makeObject : XOk q_H_makeObject T_H_makeObject F_H_makeObject C_H_makeObject := ⟨okT_H_makeObject, okF_H_makeObject, okC_H_makeObject⟩
def T_H_read : List (Nat × XE) := [(0, (.aload_n 0, 1, 0, 0, [])), (1, (.getfield 9, 4, 0, 0, [])), (4, (.iload_n 2, 5, 0, 0, [])), (5, (.iaload, 6, 0, 0, [])), (6, (.istore_n 3, 7, 0, 0, [])), (7, (.iload_n 1, 8, 0, 0, [])), (8, (.ifCond .ne 5, 11, 13, 0, [])), (11, (.iload_n 3, 12, 0, 0, [])), (12, (.ireturn, 13, 0, 0, [])), (13, (.iload_n 3, 14, 0, 0, [])), (14, (.iconst (-1), 15, 0, (-1), [])), (15, (.if_icmp .ne 10, 18, 25, 0, [])), (18, (.aload_n 0, 19, 0, 0, [])), (19, (.iconst 1, 20, 0, 1, [])), (20, (.putfield 39, 23, 0, 0, [])), (23, (.iconst (-1), 24, 0, (-1), [])), (24, (.ireturn, 25, 0, 0, [])), (25, (.iload_n 1, 26, 0, 0, [])), (26, (.iconst 1, 27, 0, 1, [])), (27, (.if_icmp .ne 12, 30, 39, 0, [])), (30, (.aload_n 0, 31, 0, 0, [])), (31, (.getfield 15, 34, 0, 0, [])), (34, (.iload_n 3, 35, 0, 0, [])), (35, (.iaload, 36, 0, 0, [])), (36, (.goto 9, 39, 45, 0, [])), (39, (.aload_n 0, 40, 0, 0, [])), (40, (.getfield 18, 43, 0, 0, [])), (43, (.iload_n 3, 44, 0, 0, [])), (44, (.iaload, 45, 0, 0, [])), (45, (.ireturn, 46, 0, 0, []))]
def F_H_read : List (Nat × XF) := [(9, (2, 0, .array .int, false)), (39, (2, 6, .int, true)), (15, (2, 1, .array .int, false)), (18, (2, 2, .array .int, false))]
def C_H_read : List (Nat × XK) := []
theorem okT_H_read : T_H_read.all (fun e => xgood q_H_read.2.1 e.1 e.2) = true := by decide +kernel
theorem okF_H_read : ∀ e ∈ F_H_read, xfok q_H_read.1.cls e.1 e.2 := List.forall_mem_cons.mpr ⟨⟨R_H, F_H, 7, rfl, by decide, t_H_ok 0 (by decide), (fun h => Bool.noConfusion h), tb1 (i := 186) rfl rfl⟩, List.forall_mem_cons.mpr ⟨⟨R_H, F_H, 7, rfl, by decide, t_H_ok 6 (by decide), (fun _ => rfl), tb1 (i := 197) rfl rfl⟩, List.forall_mem_cons.mpr ⟨⟨R_H, F_H, 7, rfl, by decide, t_H_ok 1 (by decide), (fun h => Bool.noConfusion h), tb1 (i := 188) rfl rfl⟩, List.forall_mem_cons.mpr ⟨⟨R_H, F_H, 7, rfl, by decide, t_H_ok 2 (by decide), (fun h => Bool.noConfusion h), tb1 (i := 190) rfl rfl⟩, fun _ h => absurd h List.not_mem_nil⟩⟩⟩⟩
theorem okC_H_read : ∀ e ∈ C_H_read, xcok q_H_read.1.cls e.1 e.2 := fun _ h => absurd h List.not_mem_nil
theorem ok_H_read : XOk q_H_read T_H_read F_H_read C_H_read := ⟨okT_H_read, okF_H_read, okC_H_read⟩
def T_H_existing : List (Nat × XE) := [(0, (.iload_n 1, 1, 0, 0, [])), (1, (.aload_n 0, 2, 0, 0, [])), (2, (.getfield 42, 5, 0, 0, [])), (5, (.iconst 1, 6, 0, 1, [])), (6, (.isub, 7, 0, 0, [])), (7, (.invokestatic 105, 10, 0, 0, [])), (10, (.ireturn, 11, 0, 0, []))]
def F_H_existing : List (Nat × XF) := [(42, (2, 3, .int, true))]
def C_H_existing : List (Nat × XK) := [(105, (q_JM_min, false, 2, 99))]
theorem okT_H_existing : T_H_existing.all (fun e => xgood q_H_existing.2.1 e.1 e.2) = true := by decide +kernel
theorem okF_H_existing : ∀ e ∈ F_H_existing, xfok q_H_existing.1.cls e.1 e.2 := List.forall_mem_cons.mpr ⟨⟨R_H, F_H, 7, rfl, by decide, t_H_ok 3 (by decide), (fun _ => rfl), tb1 (i := 192) rfl rfl⟩, fun _ h => absurd h List.not_mem_nil⟩
theorem okC_H_existing : ∀ e ∈ C_H_existing, xcok q_H_existing.1.cls e.1 e.2 := List.forall_mem_cons.mpr ⟨⟨tb2 (i := 165) rfl rfl, tb1 (i := 7) rfl rfl, ⟨by decide, by decide, by decide +kernel⟩, by decide, tb2 (i := 163) rfl rfl, tb2 (i := 164) rfl rfl, fun h => rfl⟩, fun _ h => absurd h List.not_mem_nil⟩
theorem ok_H_existing : XOk q_H_existing T_H_existing F_H_existing C_H_existing := ⟨okT_H_existing, okF_H_existing, okC_H_existing⟩
def T_H_takeBits : List (Nat × XE) := [(0, (.aload_n 0, 1, 0, 0, [])), (1, (.getfield 49, 4, 0, 0, [])), (4, (.iconst 1, 5, 0, 1, [])), (5, (.iload_n 1, 6, 0, 0, [])), (6, (.ishl, 7, 0, 0, [])), (7, (.iconst 1, 8, 0, 1, [])), (8, (.isub, 9, 0, 0, [])), (9, (.i2l, 10, 0, 0, [])), (10, (.land, 11, 0, 0, [])), (11, (.l2i, 12, 0, 0, [])), (12, (.istore_n 2, 13, 0, 0, [])), (13, (.aload_n 0, 14, 0, 0, [])), (14, (.dup, 15, 0, 0, [])), (15, (.getfield 49, 18, 0, 0, [])), (18, (.iload_n 1, 19, 0, 0, [])), (19, (.lushr, 20, 0, 0, [])), (20, (.putfield 49, 23, 0, 0, [])), (23, (.iload_n 2, 24, 0, 0, [])), (24, (.ireturn, 25, 0, 0, []))]
def F_H_takeBits : List (Nat × XF) := [(49, (2, 5, .long, true))]
def C_H_takeBits : List (Nat × XK) := []
theorem okT_H_takeBits : T_H_takeBits.all (fun e => xgood q_H_takeBits.2.1 e.1 e.2) = true := by decide +kernel
theorem okF_H_takeBits : ∀ e ∈ F_H_takeBits, xfok q_H_takeBits.1.cls e.1 e.2 := List.forall_mem_cons.mpr ⟨⟨R_H, F_H, 7, rfl, by decide, t_H_ok 5 (by decide), (fun _ => rfl), tb1 (i := 196) rfl rfl⟩, fun _ h => absurd h List.not_mem_nil⟩
theorem okC_H_takeBits : ∀ e ∈ C_H_takeBits, xcok q_H_takeBits.1.cls e.1 e.2 := fun _ h => absurd h List.not_mem_nil
theorem ok_H_takeBits : XOk q_H_takeBits T_H_takeBits F_H_takeBits C_H_takeBits := ⟨okT_H_takeBits, okF_H_takeBits, okC_H_takeBits⟩
end
section
/-! tables of the methods, by program -/
def T_N_type : List (Nat × XE) := [(0, (.aload_n 0, 1, 0, 0, [])), (1, (.getfield 12, 4, 0, 0, [])), (4, (.lload_n 1, 5, 0, 0, [])), (5, (.invokevirtual 30, 8, 0, 0, [])), (8, (.ifCond .ne 5, 11, 13, 0, [])), (11, (.iconst 0, 12, 0, 0, [])), (12, (.ireturn, 13, 0, 0, [])), (13, (.aload_n 0, 14, 0, 0, [])), (14, (.getfield 12, 17, 0, 0, [])), (17, (.invokevirtual 34, 20, 0, 0, [])), (20, (.aload_n 0, 21, 0, 0, [])), (21, (.iconst 0, 22, 0, 0, [])), (22, (.putfield 37, 25, 0, 0, [])), (25, (.iconst 1, 26, 0, 1, [])), (26, (.ireturn, 27, 0, 0, []))]
def F_N_type : List (Nat × XF) := [(12, (3, 0, .object "NullGuard$Program", false)), (37, (3, 4, .boolean, true))]
def C_N_type : List (Nat × XK) := [(30, (q_P_append, true, 1, 0)), (34, (q_P_parse, true, 0, 0))]
theorem okT_N_type : T_N_type.all (fun e => xgood q_N_type.2.1 e.1 e.2) = true := by decide +kernel
theorem okF_N_type : ∀ e ∈ F_N_type, xfok q_N_type.1.cls e.1 e.2 := List.forall_mem_cons.mpr ⟨⟨R_N, F_N, 5, rfl, by decide, t_N_ok 0 (by decide), (fun h => Bool.noConfusion h), tb1 (i := 213) rfl rfl⟩, List.forall_mem_cons.mpr ⟨⟨R_N, F_N, 5, rfl, by decide, t_N_ok 4 (by decide), (fun _ => rfl), tb1 (i := 217) rfl rfl⟩, fun _ h => absurd h List.not_mem_nil⟩⟩
theorem okC_N_type : ∀ e ∈ C_N_type, xcok q_N_type.1.cls e.1 e.2 := List.forall_mem_cons.mpr ⟨⟨tb1 (i := 236) rfl rfl, tb1 (i := 2) rfl rfl, ⟨by decide, by decide, by decide +kernel⟩, by decide, tb1 (i := 233) rfl rfl, tb1 (i := 234) rfl rfl, tb1 (i := 235) rfl rfl, F_P, 16, rfl⟩, List.forall_mem_cons.mpr ⟨⟨tb1 (i := 25) rfl rfl, tb1 (i := 2) rfl rfl, ⟨by decide, by decide, by decide +kernel⟩, by decide, tb2 (i := 3) rfl rfl, tb1 (i := 23) rfl rfl, tb1 (i := 24) rfl rfl, F_P, 16, rfl⟩, fun _ h => absurd h List.not_mem_nil⟩⟩
theorem ok_N_type : XOk q_N_type T_N_type F_N_type C_N_type := ⟨okT_N_type, okF_N_type, okC_N_type⟩
def T_N_wipe : List (Nat × XE) := [(0, (.aload_n 0, 1, 0, 0, [])), (1, (.getfield 12, 4, 0, 0, [])), (4, (.invokevirtual 41, 7, 0, 0, [])), (7, (.aload_n 0, 8, 0, 0, [])), (8, (.getfield 12, 11, 0, 0, [])), (11, (.invokevirtual 34, 14, 0, 0, [])), (14, (.aload_n 0, 15, 0, 0, [])), (15, (.iconst 0, 16, 0, 0, [])), (16, (.putfield 37, 19, 0, 0, [])), (19, (.return_, 20, 0, 0, []))]
def F_N_wipe : List (Nat × XF) := [(12, (3, 0, .object "NullGuard$Program", false)), (37, (3, 4, .boolean, true))]
def C_N_wipe : List (Nat × XK) := [(41, (q_P_clear, true, 0, 0)), (34, (q_P_parse, true, 0, 0))]
theorem okT_N_wipe : T_N_wipe.all (fun e => xgood q_N_wipe.2.1 e.1 e.2) = true := by decide +kernel
theorem okF_N_wipe : ∀ e ∈ F_N_wipe, xfok q_N_wipe.1.cls e.1 e.2 := List.forall_mem_cons.mpr ⟨⟨R_N, F_N, 5, rfl, by decide, t_N_ok 0 (by decide), (fun h => Bool.noConfusion h), tb1 (i := 213) rfl rfl⟩, List.forall_mem_cons.mpr ⟨⟨R_N, F_N, 5, rfl, by decide, t_N_ok 4 (by decide), (fun _ => rfl), tb1 (i := 217) rfl rfl⟩, fun _ h => absurd h List.not_mem_nil⟩⟩
theorem okC_N_wipe : ∀ e ∈ C_N_wipe, xcok q_N_wipe.1.cls e.1 e.2 := List.forall_mem_cons.mpr ⟨⟨tb2 (i := 11) rfl rfl, tb1 (i := 2) rfl rfl, ⟨by decide, by decide, by decide +kernel⟩, by decide, tb2 (i := 8) rfl rfl, tb2 (i := 9) rfl rfl, tb2 (i := 10) rfl rfl, F_P, 16, rfl⟩, List.forall_mem_cons.mpr ⟨⟨tb1 (i := 25) rfl rfl, tb1 (i := 2) rfl rfl, ⟨by decide, by decide, by decide +kernel⟩, by decide, tb2 (i := 3) rfl rfl, tb1 (i := 23) rfl rfl, tb1 (i := 24) rfl rfl, F_P, 16, rfl⟩, fun _ h => absurd h List.not_mem_nil⟩⟩
theorem ok_N_wipe : XOk q_N_wipe T_N_wipe F_N_wipe C_N_wipe := ⟨okT_N_wipe, okF_N_wipe, okC_N_wipe⟩
def T_N_length : List (Nat × XE) := [(0, (.aload_n 0, 1, 0, 0, [])), (1, (.getfield 12, 4, 0, 0, [])), (4, (.getfield 44, 7, 0, 0, [])), (7, (.ireturn, 8, 0, 0, []))]
def F_N_length : List (Nat × XF) := [(12, (3, 0, .object "NullGuard$Program", false)), (44, (0, 1, .int, true))]
def C_N_length : List (Nat × XK) := []
theorem okT_N_length : T_N_length.all (fun e => xgood q_N_length.2.1 e.1 e.2) = true := by decide +kernel
theorem okF_N_length : ∀ e ∈ F_N_length, xfok q_N_length.1.cls e.1 e.2 := List.forall_mem_cons.mpr ⟨⟨R_N, F_N, 5, rfl, by decide, t_N_ok 0 (by decide), (fun h => Bool.noConfusion h), tb1 (i := 213) rfl rfl⟩, List.forall_mem_cons.mpr ⟨⟨R_P, F_P, 16, rfl, by decide, t_P_ok 1 (by decide), (fun _ => rfl), tb1 (i := 90) rfl rfl⟩, fun _ h => absurd h List.not_mem_nil⟩⟩
theorem okC_N_length : ∀ e ∈ C_N_length, xcok q_N_length.1.cls e.1 e.2 := fun _ h => absurd h List.not_mem_nil
theorem ok_N_length : XOk q_N_length T_N_length F_N_length C_N_length := ⟨okT_N_length, okF_N_length, okC_N_length⟩
def T_N_declare : List (Nat × XE) := [(0, (.iload_n 1, 1, 0, 0, [])), (1, (.invokestatic 48, 4, 0, 0, [])), (4, (.ifCond .ne 5, 7, 9, 0, [])), (7, (.iconst 0, 8, 0, 0, [])), (8, (.ireturn, 9, 0, 0, [])), (9, (.iconst 1, 10, 0, 1, [])), (10, (.iload_n 1, 11, 0, 0, [])), (11, (.ishl, 12, 0, 0, [])), (12, (.istore_n 3, 13, 0, 0, [])), (13, (.aload_n 0, 14, 0, 0, [])), (14, (.iload_n 2, 15, 0, 0, [])), (15, (.ifCond .eq 12, 18, 27, 0, [])), (18, (.aload_n 0, 19, 0, 0, [])), (19, (.getfield 52, 22, 0, 0, [])), (22, (.iload_n 3, 23, 0, 0, [])), (23, (.ior, 24, 0, 0, [])), (24, (.goto 11, 27, 35, 0, [])), (27, (.aload_n 0, 28, 0, 0, [])), (28, (.getfield 52, 31, 0, 0, [])), (31, (.iload_n 3, 32, 0, 0, [])), (32, (.iconst (-1), 33, 0, (-1), [])), (33, (.ixor, 34, 0, 0, [])), (34, (.iand, 35, 0, 0, [])), (35, (.putfield 52, 38, 0, 0, [])), (38, (.aload_n 0, 39, 0, 0, [])), (39, (.iconst 0, 40, 0, 0, [])), (40, (.putfield 37, 43, 0, 0, [])), (43, (.iconst 1, 44, 0, 1, [])), (44, (.ireturn, 45, 0, 0, []))]
def F_N_declare : List (Nat × XF) := [(52, (3, 3, .int, true)), (37, (3, 4, .boolean, true))]
def C_N_declare : List (Nat × XK) := [(48, (q_N_isLocal, false, 1, 3))]
theorem okT_N_declare : T_N_declare.all (fun e => xgood q_N_declare.2.1 e.1 e.2) = true := by decide +kernel
theorem okF_N_declare : ∀ e ∈ F_N_declare, xfok q_N_declare.1.cls e.1 e.2 := List.forall_mem_cons.mpr ⟨⟨R_N, F_N, 5, rfl, by decide, t_N_ok 3 (by decide), (fun _ => rfl), tb1 (i := 216) rfl rfl⟩, List.forall_mem_cons.mpr ⟨⟨R_N, F_N, 5, rfl, by decide, t_N_ok 4 (by decide), (fun _ => rfl), tb1 (i := 217) rfl rfl⟩, fun _ h => absurd h List.not_mem_nil⟩⟩
theorem okC_N_declare : ∀ e ∈ C_N_declare, xcok q_N_declare.1.cls e.1 e.2 := List.forall_mem_cons.mpr ⟨⟨tb2 (i := 22) rfl rfl, tb1 (i := 1) rfl rfl, ⟨by decide, by decide, by decide +kernel⟩, by decide, tb2 (i := 20) rfl rfl, tb2 (i := 21) rfl rfl, fun h => absurd h (by decide)⟩, fun _ h => absurd h List.not_mem_nil⟩
theorem ok_N_declare : XOk q_N_declare T_N_declare F_N_declare C_N_declare := ⟨okT_N_declare, okF_N_declare, okC_N_declare⟩
def T_N_statements : List (Nat × XE) := [(0, (.aload_n 0, 1, 0, 0, [])), (1, (.getfield 12, 4, 0, 0, [])), (4, (.getfield 55, 7, 0, 0, [])), (7, (.ifCond .eq 13, 10, 20, 0, [])), (10, (.aload_n 0, 11, 0, 0, [])), (11, (.getfield 12, 14, 0, 0, [])), (14, (.getfield 58, 17, 0, 0, [])), (17, (.goto 4, 20, 21, 0, [])), (20, (.iconst (-1), 21, 0, (-1), [])), (21, (.ireturn, 22, 0, 0, []))]
def F_N_statements : List (Nat × XF) := [(12, (3, 0, .object "NullGuard$Program", false)), (55, (0, 2, .boolean, true)), (58, (0, 3, .int, true))]
def C_N_statements : List (Nat × XK) := []
theorem okT_N_statements : T_N_statements.all (fun e => xgood q_N_statements.2.1 e.1 e.2) = true := by decide +kernel
theorem okF_N_statements : ∀ e ∈ F_N_statements, xfok q_N_statements.1.cls e.1 e.2 := List.forall_mem_cons.mpr ⟨⟨R_N, F_N, 5, rfl, by decide, t_N_ok 0 (by decide), (fun h => Bool.noConfusion h), tb1 (i := 213) rfl rfl⟩, List.forall_mem_cons.mpr ⟨⟨R_P, F_P, 16, rfl, by decide, t_P_ok 2 (by decide), (fun _ => rfl), tb1 (i := 92) rfl rfl⟩, List.forall_mem_cons.mpr ⟨⟨R_P, F_P, 16, rfl, by decide, t_P_ok 3 (by decide), (fun _ => rfl), tb1 (i := 94) rfl rfl⟩, fun _ h => absurd h List.not_mem_nil⟩⟩⟩
theorem okC_N_statements : ∀ e ∈ C_N_statements, xcok q_N_statements.1.cls e.1 e.2 := fun _ h => absurd h List.not_mem_nil
theorem ok_N_statements : XOk q_N_statements T_N_statements F_N_statements C_N_statements := ⟨okT_N_statements, okF_N_statements, okC_N_statements⟩
def T_N_alarms : List (Nat × XE) := [(0, (.aload_n 0, 1, 0, 0, [])), (1, (.getfield 12, 4, 0, 0, [])), (4, (.getfield 55, 7, 0, 0, [])), (7, (.ifCond .eq 13, 10, 20, 0, [])), (10, (.aload_n 0, 11, 0, 0, [])), (11, (.invokevirtual 61, 14, 0, 0, [])), (14, (.invokevirtual 65, 17, 0, 0, [])), (17, (.goto 4, 20, 21, 0, [])), (20, (.iconst (-1), 21, 0, (-1), [])), (21, (.ireturn, 22, 0, 0, []))]
def F_N_alarms : List (Nat × XF) := [(12, (3, 0, .object "NullGuard$Program", false)), (55, (0, 2, .boolean, true))]
def C_N_alarms : List (Nat × XK) := [(61, (q_N_knowledge, true, 0, 3)), (65, (q_K_countAlarms, true, 0, 1))]
theorem okT_N_alarms : T_N_alarms.all (fun e => xgood q_N_alarms.2.1 e.1 e.2) = true := by decide +kernel
theorem okF_N_alarms : ∀ e ∈ F_N_alarms, xfok q_N_alarms.1.cls e.1 e.2 := List.forall_mem_cons.mpr ⟨⟨R_N, F_N, 5, rfl, by decide, t_N_ok 0 (by decide), (fun h => Bool.noConfusion h), tb1 (i := 213) rfl rfl⟩, List.forall_mem_cons.mpr ⟨⟨R_P, F_P, 16, rfl, by decide, t_P_ok 2 (by decide), (fun _ => rfl), tb1 (i := 92) rfl rfl⟩, fun _ h => absurd h List.not_mem_nil⟩⟩
theorem okC_N_alarms : ∀ e ∈ C_N_alarms, xcok q_N_alarms.1.cls e.1 e.2 := List.forall_mem_cons.mpr ⟨⟨tb2 (i := 34) rfl rfl, tb1 (i := 1) rfl rfl, ⟨by decide, by decide, by decide +kernel⟩, by decide, tb2 (i := 31) rfl rfl, tb2 (i := 33) rfl rfl, tbS1 (i := 13) rfl, F_N, 5, rfl⟩, List.forall_mem_cons.mpr ⟨⟨tb2 (i := 97) rfl rfl, tb1 (i := 4) rfl rfl, ⟨by decide, by decide, by decide +kernel⟩, by decide, tb2 (i := 94) rfl rfl, tb2 (i := 95) rfl rfl, tb2 (i := 96) rfl rfl, F_K, 5, rfl⟩, fun _ h => absurd h List.not_mem_nil⟩⟩
theorem ok_N_alarms : XOk q_N_alarms T_N_alarms F_N_alarms C_N_alarms := ⟨okT_N_alarms, okF_N_alarms, okC_N_alarms⟩
def T_N_alarm : List (Nat × XE) := [(0, (.aload_n 0, 1, 0, 0, [])), (1, (.getfield 12, 4, 0, 0, [])), (4, (.iload_n 1, 5, 0, 0, [])), (5, (.invokevirtual 69, 8, 0, 0, [])), (8, (.ifCond .eq 15, 11, 23, 0, [])), (11, (.aload_n 0, 12, 0, 0, [])), (12, (.invokevirtual 61, 15, 0, 0, [])), (15, (.getfield 72, 18, 0, 0, [])), (18, (.iload_n 1, 19, 0, 0, [])), (19, (.iaload, 20, 0, 0, [])), (20, (.goto 4, 23, 24, 0, [])), (23, (.iconst (-1), 24, 0, (-1), [])), (24, (.ireturn, 25, 0, 0, []))]
def F_N_alarm : List (Nat × XF) := [(12, (3, 0, .object "NullGuard$Program", false)), (72, (1, 1, .array .int, false))]
def C_N_alarm : List (Nat × XK) := [(69, (q_P_counts, true, 1, 0)), (61, (q_N_knowledge, true, 0, 3))]
theorem okT_N_alarm : T_N_alarm.all (fun e => xgood q_N_alarm.2.1 e.1 e.2) = true := by decide +kernel
theorem okF_N_alarm : ∀ e ∈ F_N_alarm, xfok q_N_alarm.1.cls e.1 e.2 := List.forall_mem_cons.mpr ⟨⟨R_N, F_N, 5, rfl, by decide, t_N_ok 0 (by decide), (fun h => Bool.noConfusion h), tb1 (i := 213) rfl rfl⟩, List.forall_mem_cons.mpr ⟨⟨R_K, F_K, 5, rfl, by decide, t_K_ok 1 (by decide), (fun h => Bool.noConfusion h), tb1 (i := 164) rfl rfl⟩, fun _ h => absurd h List.not_mem_nil⟩⟩
theorem okC_N_alarm : ∀ e ∈ C_N_alarm, xcok q_N_alarm.1.cls e.1 e.2 := List.forall_mem_cons.mpr ⟨⟨tb2 (i := 105) rfl rfl, tb1 (i := 2) rfl rfl, ⟨by decide, by decide, by decide +kernel⟩, by decide, tb2 (i := 102) rfl rfl, tb2 (i := 103) rfl rfl, tb2 (i := 104) rfl rfl, F_P, 16, rfl⟩, List.forall_mem_cons.mpr ⟨⟨tb2 (i := 34) rfl rfl, tb1 (i := 1) rfl rfl, ⟨by decide, by decide, by decide +kernel⟩, by decide, tb2 (i := 31) rfl rfl, tb2 (i := 33) rfl rfl, tbS1 (i := 13) rfl, F_N, 5, rfl⟩, fun _ h => absurd h List.not_mem_nil⟩⟩
theorem ok_N_alarm : XOk q_N_alarm T_N_alarm F_N_alarm C_N_alarm := ⟨okT_N_alarm, okF_N_alarm, okC_N_alarm⟩
def T_N_sure : List (Nat × XE) := [(0, (.aload_n 0, 1, 0, 0, [])), (1, (.getfield 12, 4, 0, 0, [])), (4, (.iload_n 1, 5, 0, 0, [])), (5, (.invokevirtual 69, 8, 0, 0, [])), (8, (.ifCond .eq 10, 11, 18, 0, [])), (11, (.iload_n 2, 12, 0, 0, [])), (12, (.invokestatic 48, 15, 0, 0, [])), (15, (.ifCond .ne 5, 18, 20, 0, [])), (18, (.iconst (-1), 19, 0, (-1), [])), (19, (.ireturn, 20, 0, 0, [])), (20, (.aload_n 0, 21, 0, 0, [])), (21, (.invokevirtual 61, 24, 0, 0, [])), (24, (.iload_n 1, 25, 0, 0, [])), (25, (.invokevirtual 76, 28, 0, 0, [])), (28, (.ifCond .ne 5, 31, 33, 0, [])), (31, (.iconst 0, 32, 0, 0, [])), (32, (.ireturn, 33, 0, 0, [])), (33, (.aload_n 0, 34, 0, 0, [])), (34, (.invokevirtual 61, 37, 0, 0, [])), (37, (.iload_n 1, 38, 0, 0, [])), (38, (.iload_n 2, 39, 0, 0, [])), (39, (.invokevirtual 79, 42, 0, 0, [])), (42, (.ifCond .eq 7, 45, 49, 0, [])), (45, (.iconst 2, 46, 0, 2, [])), (46, (.goto 4, 49, 50, 0, [])), (49, (.iconst 1, 50, 0, 1, [])), (50, (.ireturn, 51, 0, 0, []))]
def F_N_sure : List (Nat × XF) := [(12, (3, 0, .object "NullGuard$Program", false))]
def C_N_sure : List (Nat × XK) := [(69, (q_P_counts, true, 1, 0)), (48, (q_N_isLocal, false, 1, 3)), (61, (q_N_knowledge, true, 0, 3)), (76, (q_K_isReached, true, 1, 1)), (79, (q_K_isSureAt, true, 2, 1))]
theorem okT_N_sure : T_N_sure.all (fun e => xgood q_N_sure.2.1 e.1 e.2) = true := by decide +kernel
theorem okF_N_sure : ∀ e ∈ F_N_sure, xfok q_N_sure.1.cls e.1 e.2 := List.forall_mem_cons.mpr ⟨⟨R_N, F_N, 5, rfl, by decide, t_N_ok 0 (by decide), (fun h => Bool.noConfusion h), tb1 (i := 213) rfl rfl⟩, fun _ h => absurd h List.not_mem_nil⟩
theorem okC_N_sure : ∀ e ∈ C_N_sure, xcok q_N_sure.1.cls e.1 e.2 := List.forall_mem_cons.mpr ⟨⟨tb2 (i := 105) rfl rfl, tb1 (i := 2) rfl rfl, ⟨by decide, by decide, by decide +kernel⟩, by decide, tb2 (i := 102) rfl rfl, tb2 (i := 103) rfl rfl, tb2 (i := 104) rfl rfl, F_P, 16, rfl⟩, List.forall_mem_cons.mpr ⟨⟨tb2 (i := 22) rfl rfl, tb1 (i := 1) rfl rfl, ⟨by decide, by decide, by decide +kernel⟩, by decide, tb2 (i := 20) rfl rfl, tb2 (i := 21) rfl rfl, fun h => absurd h (by decide)⟩, List.forall_mem_cons.mpr ⟨⟨tb2 (i := 34) rfl rfl, tb1 (i := 1) rfl rfl, ⟨by decide, by decide, by decide +kernel⟩, by decide, tb2 (i := 31) rfl rfl, tb2 (i := 33) rfl rfl, tbS1 (i := 13) rfl, F_N, 5, rfl⟩, List.forall_mem_cons.mpr ⟨⟨tb2 (i := 43) rfl rfl, tb1 (i := 4) rfl rfl, ⟨by decide, by decide, by decide +kernel⟩, by decide, tb2 (i := 110) rfl rfl, tb2 (i := 41) rfl rfl, tb2 (i := 42) rfl rfl, F_K, 5, rfl⟩, List.forall_mem_cons.mpr ⟨⟨tb2 (i := 114) rfl rfl, tb1 (i := 4) rfl rfl, ⟨by decide, by decide, by decide +kernel⟩, by decide, tb2 (i := 111) rfl rfl, tb2 (i := 112) rfl rfl, tb2 (i := 113) rfl rfl, F_K, 5, rfl⟩, fun _ h => absurd h List.not_mem_nil⟩⟩⟩⟩⟩
theorem ok_N_sure : XOk q_N_sure T_N_sure F_N_sure C_N_sure := ⟨okT_N_sure, okF_N_sure, okC_N_sure⟩
def T_N_linked : List (Nat × XE) := [(0, (.aload_n 0, 1, 0, 0, [])), (1, (.getfield 12, 4, 0, 0, [])), (4, (.iload_n 1, 5, 0, 0, [])), (5, (.invokevirtual 69, 8, 0, 0, [])), (8, (.ifCond .eq 37, 11, 45, 0, [])), (11, (.iload_n 2, 12, 0, 0, [])), (12, (.invokestatic 48, 15, 0, 0, [])), (15, (.ifCond .eq 30, 18, 45, 0, [])), (18, (.aload_n 0, 19, 0, 0, [])), (19, (.invokevirtual 61, 22, 0, 0, [])), (22, (.iload_n 1, 23, 0, 0, [])), (23, (.invokevirtual 76, 26, 0, 0, [])), (26, (.ifCond .eq 19, 29, 45, 0, [])), (29, (.aload_n 0, 30, 0, 0, [])), (30, (.invokevirtual 61, 33, 0, 0, [])), (33, (.iload_n 1, 34, 0, 0, [])), (34, (.iload_n 2, 35, 0, 0, [])), (35, (.invokevirtual 83, 38, 0, 0, [])), (38, (.ifCond .eq 7, 41, 45, 0, [])), (41, (.iconst 1, 42, 0, 1, [])), (42, (.goto 4, 45, 46, 0, [])), (45, (.iconst 0, 46, 0, 0, [])), (46, (.ireturn, 47, 0, 0, []))]
def F_N_linked : List (Nat × XF) := [(12, (3, 0, .object "NullGuard$Program", false))]
def C_N_linked : List (Nat × XK) := [(69, (q_P_counts, true, 1, 0)), (48, (q_N_isLocal, false, 1, 3)), (61, (q_N_knowledge, true, 0, 3)), (76, (q_K_isReached, true, 1, 1)), (83, (q_K_isLinkedAt, true, 2, 1))]
theorem okT_N_linked : T_N_linked.all (fun e => xgood q_N_linked.2.1 e.1 e.2) = true := by decide +kernel
theorem okF_N_linked : ∀ e ∈ F_N_linked, xfok q_N_linked.1.cls e.1 e.2 := List.forall_mem_cons.mpr ⟨⟨R_N, F_N, 5, rfl, by decide, t_N_ok 0 (by decide), (fun h => Bool.noConfusion h), tb1 (i := 213) rfl rfl⟩, fun _ h => absurd h List.not_mem_nil⟩
theorem okC_N_linked : ∀ e ∈ C_N_linked, xcok q_N_linked.1.cls e.1 e.2 := List.forall_mem_cons.mpr ⟨⟨tb2 (i := 105) rfl rfl, tb1 (i := 2) rfl rfl, ⟨by decide, by decide, by decide +kernel⟩, by decide, tb2 (i := 102) rfl rfl, tb2 (i := 103) rfl rfl, tb2 (i := 104) rfl rfl, F_P, 16, rfl⟩, List.forall_mem_cons.mpr ⟨⟨tb2 (i := 22) rfl rfl, tb1 (i := 1) rfl rfl, ⟨by decide, by decide, by decide +kernel⟩, by decide, tb2 (i := 20) rfl rfl, tb2 (i := 21) rfl rfl, fun h => absurd h (by decide)⟩, List.forall_mem_cons.mpr ⟨⟨tb2 (i := 34) rfl rfl, tb1 (i := 1) rfl rfl, ⟨by decide, by decide, by decide +kernel⟩, by decide, tb2 (i := 31) rfl rfl, tb2 (i := 33) rfl rfl, tbS1 (i := 13) rfl, F_N, 5, rfl⟩, List.forall_mem_cons.mpr ⟨⟨tb2 (i := 43) rfl rfl, tb1 (i := 4) rfl rfl, ⟨by decide, by decide, by decide +kernel⟩, by decide, tb2 (i := 110) rfl rfl, tb2 (i := 41) rfl rfl, tb2 (i := 42) rfl rfl, F_K, 5, rfl⟩, List.forall_mem_cons.mpr ⟨⟨tb2 (i := 122) rfl rfl, tb1 (i := 4) rfl rfl, ⟨by decide, by decide, by decide +kernel⟩, by decide, tb2 (i := 119) rfl rfl, tb2 (i := 120) rfl rfl, tb2 (i := 121) rfl rfl, F_K, 5, rfl⟩, fun _ h => absurd h List.not_mem_nil⟩⟩⟩⟩⟩
theorem ok_N_linked : XOk q_N_linked T_N_linked F_N_linked C_N_linked := ⟨okT_N_linked, okF_N_linked, okC_N_linked⟩
def T_N_run : List (Nat × XE) := [(0, (.aload_n 0, 1, 0, 0, [])), (1, (.getfield 12, 4, 0, 0, [])), (4, (.getfield 55, 7, 0, 0, [])), (7, (.ifCond .eq 23, 10, 30, 0, [])), (10, (.aload_n 0, 11, 0, 0, [])), (11, (.getfield 26, 14, 0, 0, [])), (14, (.aload_n 0, 15, 0, 0, [])), (15, (.getfield 12, 18, 0, 0, [])), (18, (.aload_n 0, 19, 0, 0, [])), (19, (.getfield 52, 22, 0, 0, [])), (22, (.iload_n 1, 23, 0, 0, [])), (23, (.lload_n 2, 24, 0, 0, [])), (24, (.invokevirtual 86, 27, 0, 0, [])), (27, (.goto 4, 30, 31, 0, [])), (30, (.iconst (-1), 31, 0, (-1), [])), (31, (.ireturn, 32, 0, 0, []))]
def F_N_run : List (Nat × XF) := [(12, (3, 0, .object "NullGuard$Program", false)), (55, (0, 2, .boolean, true)), (26, (3, 2, .object "NullGuard$Machine", false)), (52, (3, 3, .int, true))]
def C_N_run : List (Nat × XK) := [(86, (q_H_execute, true, 4, 2))]
theorem okT_N_run : T_N_run.all (fun e => xgood q_N_run.2.1 e.1 e.2) = true := by decide +kernel
theorem okF_N_run : ∀ e ∈ F_N_run, xfok q_N_run.1.cls e.1 e.2 := List.forall_mem_cons.mpr ⟨⟨R_N, F_N, 5, rfl, by decide, t_N_ok 0 (by decide), (fun h => Bool.noConfusion h), tb1 (i := 213) rfl rfl⟩, List.forall_mem_cons.mpr ⟨⟨R_P, F_P, 16, rfl, by decide, t_P_ok 2 (by decide), (fun _ => rfl), tb1 (i := 92) rfl rfl⟩, List.forall_mem_cons.mpr ⟨⟨R_N, F_N, 5, rfl, by decide, t_N_ok 2 (by decide), (fun h => Bool.noConfusion h), tb1 (i := 215) rfl rfl⟩, List.forall_mem_cons.mpr ⟨⟨R_N, F_N, 5, rfl, by decide, t_N_ok 3 (by decide), (fun _ => rfl), tb1 (i := 216) rfl rfl⟩, fun _ h => absurd h List.not_mem_nil⟩⟩⟩⟩
theorem okC_N_run : ∀ e ∈ C_N_run, xcok q_N_run.1.cls e.1 e.2 := List.forall_mem_cons.mpr ⟨⟨tb2 (i := 130) rfl rfl, tb1 (i := 5) rfl rfl, ⟨by decide, by decide, by decide +kernel⟩, by decide, tb2 (i := 127) rfl rfl, tb2 (i := 128) rfl rfl, tb2 (i := 129) rfl rfl, F_H, 7, rfl⟩, fun _ h => absurd h List.not_mem_nil⟩
theorem ok_N_run : XOk q_N_run T_N_run F_N_run C_N_run := ⟨okT_N_run, okF_N_run, okC_N_run⟩
def T_N_held : List (Nat × XE) := [(0, (.iload_n 1, 1, 0, 0, [])), (1, (.invokestatic 48, 4, 0, 0, [])), (4, (.ifCond .eq 15, 7, 19, 0, [])), (7, (.aload_n 0, 8, 0, 0, [])), (8, (.getfield 26, 11, 0, 0, [])), (11, (.getfield 90, 14, 0, 0, [])), (14, (.iload_n 1, 15, 0, 0, [])), (15, (.iaload, 16, 0, 0, [])), (16, (.goto 4, 19, 20, 0, [])), (19, (.iconst (-1), 20, 0, (-1), [])), (20, (.ireturn, 21, 0, 0, []))]
def F_N_held : List (Nat × XF) := [(26, (3, 2, .object "NullGuard$Machine", false)), (90, (2, 0, .array .int, false))]
def C_N_held : List (Nat × XK) := [(48, (q_N_isLocal, false, 1, 3))]
theorem okT_N_held : T_N_held.all (fun e => xgood q_N_held.2.1 e.1 e.2) = true := by decide +kernel
theorem okF_N_held : ∀ e ∈ F_N_held, xfok q_N_held.1.cls e.1 e.2 := List.forall_mem_cons.mpr ⟨⟨R_N, F_N, 5, rfl, by decide, t_N_ok 2 (by decide), (fun h => Bool.noConfusion h), tb1 (i := 215) rfl rfl⟩, List.forall_mem_cons.mpr ⟨⟨R_H, F_H, 7, rfl, by decide, t_H_ok 0 (by decide), (fun h => Bool.noConfusion h), tb1 (i := 187) rfl rfl⟩, fun _ h => absurd h List.not_mem_nil⟩⟩
theorem okC_N_held : ∀ e ∈ C_N_held, xcok q_N_held.1.cls e.1 e.2 := List.forall_mem_cons.mpr ⟨⟨tb2 (i := 22) rfl rfl, tb1 (i := 1) rfl rfl, ⟨by decide, by decide, by decide +kernel⟩, by decide, tb2 (i := 20) rfl rfl, tb2 (i := 21) rfl rfl, fun h => absurd h (by decide)⟩, fun _ h => absurd h List.not_mem_nil⟩
theorem ok_N_held : XOk q_N_held T_N_held F_N_held C_N_held := ⟨okT_N_held, okF_N_held, okC_N_held⟩
def T_N_field : List (Nat × XE) := [(0, (.iload_n 1, 1, 0, 0, [])), (1, (.ifCond .lt 14, 4, 15, 0, [])), (4, (.iload_n 1, 5, 0, 0, [])), (5, (.aload_n 0, 6, 0, 0, [])), (6, (.getfield 26, 9, 0, 0, [])), (9, (.getfield 93, 12, 0, 0, [])), (12, (.if_icmp .lt 5, 15, 17, 0, [])), (15, (.iconst (-1), 16, 0, (-1), [])), (16, (.ireturn, 17, 0, 0, [])), (17, (.iload_n 2, 18, 0, 0, [])), (18, (.ifCond .ne 13, 21, 31, 0, [])), (21, (.aload_n 0, 22, 0, 0, [])), (22, (.getfield 26, 25, 0, 0, [])), (25, (.getfield 96, 28, 0, 0, [])), (28, (.iload_n 1, 29, 0, 0, [])), (29, (.iaload, 30, 0, 0, [])), (30, (.ireturn, 31, 0, 0, [])), (31, (.iload_n 2, 32, 0, 0, [])), (32, (.iconst 1, 33, 0, 1, [])), (33, (.if_icmp .ne 15, 36, 48, 0, [])), (36, (.aload_n 0, 37, 0, 0, [])), (37, (.getfield 26, 40, 0, 0, [])), (40, (.getfield 99, 43, 0, 0, [])), (43, (.iload_n 1, 44, 0, 0, [])), (44, (.iaload, 45, 0, 0, [])), (45, (.goto 4, 48, 49, 0, [])), (48, (.iconst (-1), 49, 0, (-1), [])), (49, (.ireturn, 50, 0, 0, []))]
def F_N_field : List (Nat × XF) := [(26, (3, 2, .object "NullGuard$Machine", false)), (93, (2, 3, .int, true)), (96, (2, 1, .array .int, false)), (99, (2, 2, .array .int, false))]
def C_N_field : List (Nat × XK) := []
theorem okT_N_field : T_N_field.all (fun e => xgood q_N_field.2.1 e.1 e.2) = true := by decide +kernel
theorem okF_N_field : ∀ e ∈ F_N_field, xfok q_N_field.1.cls e.1 e.2 := List.forall_mem_cons.mpr ⟨⟨R_N, F_N, 5, rfl, by decide, t_N_ok 2 (by decide), (fun h => Bool.noConfusion h), tb1 (i := 215) rfl rfl⟩, List.forall_mem_cons.mpr ⟨⟨R_H, F_H, 7, rfl, by decide, t_H_ok 3 (by decide), (fun _ => rfl), tb1 (i := 193) rfl rfl⟩, List.forall_mem_cons.mpr ⟨⟨R_H, F_H, 7, rfl, by decide, t_H_ok 1 (by decide), (fun h => Bool.noConfusion h), tb1 (i := 189) rfl rfl⟩, List.forall_mem_cons.mpr ⟨⟨R_H, F_H, 7, rfl, by decide, t_H_ok 2 (by decide), (fun h => Bool.noConfusion h), tb1 (i := 191) rfl rfl⟩, fun _ h => absurd h List.not_mem_nil⟩⟩⟩⟩
theorem okC_N_field : ∀ e ∈ C_N_field, xcok q_N_field.1.cls e.1 e.2 := fun _ h => absurd h List.not_mem_nil
theorem ok_N_field : XOk q_N_field T_N_field F_N_field C_N_field := ⟨okT_N_field, okF_N_field, okC_N_field⟩
def T_N_objects : List (Nat × XE) := [(0, (.aload_n 0, 1, 0, 0, [])), (1, (.getfield 26, 4, 0, 0, [])), (4, (.getfield 93, 7, 0, 0, [])), (7, (.ireturn, 8, 0, 0, []))]
def F_N_objects : List (Nat × XF) := [(26, (3, 2, .object "NullGuard$Machine", false)), (93, (2, 3, .int, true))]
def C_N_objects : List (Nat × XK) := []
theorem okT_N_objects : T_N_objects.all (fun e => xgood q_N_objects.2.1 e.1 e.2) = true := by decide +kernel
theorem okF_N_objects : ∀ e ∈ F_N_objects, xfok q_N_objects.1.cls e.1 e.2 := List.forall_mem_cons.mpr ⟨⟨R_N, F_N, 5, rfl, by decide, t_N_ok 2 (by decide), (fun h => Bool.noConfusion h), tb1 (i := 215) rfl rfl⟩, List.forall_mem_cons.mpr ⟨⟨R_H, F_H, 7, rfl, by decide, t_H_ok 3 (by decide), (fun _ => rfl), tb1 (i := 193) rfl rfl⟩, fun _ h => absurd h List.not_mem_nil⟩⟩
theorem okC_N_objects : ∀ e ∈ C_N_objects, xcok q_N_objects.1.cls e.1 e.2 := fun _ h => absurd h List.not_mem_nil
theorem ok_N_objects : XOk q_N_objects T_N_objects F_N_objects C_N_objects := ⟨okT_N_objects, okF_N_objects, okC_N_objects⟩
def T_N_steps : List (Nat × XE) := [(0, (.aload_n 0, 1, 0, 0, [])), (1, (.getfield 26, 4, 0, 0, [])), (4, (.getfield 102, 7, 0, 0, [])), (7, (.ireturn, 8, 0, 0, []))]
def F_N_steps : List (Nat × XF) := [(26, (3, 2, .object "NullGuard$Machine", false)), (102, (2, 4, .int, true))]
def C_N_steps : List (Nat × XK) := []
theorem okT_N_steps : T_N_steps.all (fun e => xgood q_N_steps.2.1 e.1 e.2) = true := by decide +kernel
theorem okF_N_steps : ∀ e ∈ F_N_steps, xfok q_N_steps.1.cls e.1 e.2 := List.forall_mem_cons.mpr ⟨⟨R_N, F_N, 5, rfl, by decide, t_N_ok 2 (by decide), (fun h => Bool.noConfusion h), tb1 (i := 215) rfl rfl⟩, List.forall_mem_cons.mpr ⟨⟨R_H, F_H, 7, rfl, by decide, t_H_ok 4 (by decide), (fun _ => rfl), tb1 (i := 195) rfl rfl⟩, fun _ h => absurd h List.not_mem_nil⟩⟩
theorem okC_N_steps : ∀ e ∈ C_N_steps, xcok q_N_steps.1.cls e.1 e.2 := fun _ h => absurd h List.not_mem_nil
theorem ok_N_steps : XOk q_N_steps T_N_steps F_N_steps C_N_steps := ⟨okT_N_steps, okF_N_steps, okC_N_steps⟩
def T_N_knowledge : List (Nat × XE) := [(0, (.aload_n 0, 1, 0, 0, [])), (1, (.getfield 37, 4, 0, 0, [])), (4, (.ifCond .ne 23, 7, 27, 0, [])), (7, (.aload_n 0, 8, 0, 0, [])), (8, (.getfield 19, 11, 0, 0, [])), (11, (.aload_n 0, 12, 0, 0, [])), (12, (.getfield 12, 15, 0, 0, [])), (15, (.aload_n 0, 16, 0, 0, [])), (16, (.getfield 52, 19, 0, 0, [])), (19, (.invokevirtual 105, 22, 0, 0, [])), (22, (.aload_n 0, 23, 0, 0, [])), (23, (.iconst 1, 24, 0, 1, [])), (24, (.putfield 37, 27, 0, 0, [])), (27, (.aload_n 0, 28, 0, 0, [])), (28, (.getfield 19, 31, 0, 0, [])), (31, (.areturn, 32, 0, 0, []))]
def F_N_knowledge : List (Nat × XF) := [(37, (3, 4, .boolean, true)), (19, (3, 1, .object "NullGuard$Checker", false)), (12, (3, 0, .object "NullGuard$Program", false)), (52, (3, 3, .int, true))]
def C_N_knowledge : List (Nat × XK) := [(105, (q_K_check, true, 2, 1))]
theorem okT_N_knowledge : T_N_knowledge.all (fun e => xgood q_N_knowledge.2.1 e.1 e.2) = true := by decide +kernel
theorem okF_N_knowledge : ∀ e ∈ F_N_knowledge, xfok q_N_knowledge.1.cls e.1 e.2 := List.forall_mem_cons.mpr ⟨⟨R_N, F_N, 5, rfl, by decide, t_N_ok 4 (by decide), (fun _ => rfl), tb1 (i := 217) rfl rfl⟩, List.forall_mem_cons.mpr ⟨⟨R_N, F_N, 5, rfl, by decide, t_N_ok 1 (by decide), (fun h => Bool.noConfusion h), tb1 (i := 214) rfl rfl⟩, List.forall_mem_cons.mpr ⟨⟨R_N, F_N, 5, rfl, by decide, t_N_ok 0 (by decide), (fun h => Bool.noConfusion h), tb1 (i := 213) rfl rfl⟩, List.forall_mem_cons.mpr ⟨⟨R_N, F_N, 5, rfl, by decide, t_N_ok 3 (by decide), (fun _ => rfl), tb1 (i := 216) rfl rfl⟩, fun _ h => absurd h List.not_mem_nil⟩⟩⟩⟩
theorem okC_N_knowledge : ∀ e ∈ C_N_knowledge, xcok q_N_knowledge.1.cls e.1 e.2 := List.forall_mem_cons.mpr ⟨⟨tb2 (i := 38) rfl rfl, tb1 (i := 4) rfl rfl, ⟨by decide, by decide, by decide +kernel⟩, by decide, tb2 (i := 35) rfl rfl, tb2 (i := 36) rfl rfl, tb2 (i := 37) rfl rfl, F_K, 5, rfl⟩, fun _ h => absurd h List.not_mem_nil⟩
theorem ok_N_knowledge : XOk q_N_knowledge T_N_knowledge F_N_knowledge C_N_knowledge := ⟨okT_N_knowledge, okF_N_knowledge, okC_N_knowledge⟩
def T_N_isLocal : List (Nat × XE) := [(0, (.iload_n 0, 1, 0, 0, [])), (1, (.ifCond .lt 12, 4, 13, 0, [])), (4, (.iload_n 0, 5, 0, 0, [])), (5, (.iconst 5, 6, 0, 5, [])), (6, (.if_icmp .ge 7, 9, 13, 0, [])), (9, (.iconst 1, 10, 0, 1, [])), (10, (.goto 4, 13, 14, 0, [])), (13, (.iconst 0, 14, 0, 0, [])), (14, (.ireturn, 15, 0, 0, []))]
def F_N_isLocal : List (Nat × XF) := []
def C_N_isLocal : List (Nat × XK) := []
theorem okT_N_isLocal : T_N_isLocal.all (fun e => xgood q_N_isLocal.2.1 e.1 e.2) = true := by decide +kernel
theorem okF_N_isLocal : ∀ e ∈ F_N_isLocal, xfok q_N_isLocal.1.cls e.1 e.2 := fun _ h => absurd h List.not_mem_nil
theorem okC_N_isLocal : ∀ e ∈ C_N_isLocal, xcok q_N_isLocal.1.cls e.1 e.2 := fun _ h => absurd h List.not_mem_nil
theorem ok_N_isLocal : XOk q_N_isLocal T_N_isLocal F_N_isLocal C_N_isLocal := ⟨okT_N_isLocal, okF_N_isLocal, okC_N_isLocal⟩
end
section
/-! tables of the methods, by program -/
def T_M_type : List (Nat × XE) := [(0, (.iconst 0, 1, 0, 0, [])), (1, (.istore_n 3, 2, 0, 0, [])), (2, (.iconst 0, 3, 0, 0, [])), (3, (.istore 4, 5, 0, 0, [])), (5, (.iload 4, 7, 0, 0, [])), (7, (.bipush 8, 9, 0, 8, [])), (9, (.if_icmp .ge 57, 12, 66, 0, [])), (12, (.lload_n 1, 13, 0, 0, [])), (13, (.bipush 8, 15, 0, 8, [])), (15, (.iload 4, 17, 0, 0, [])), (17, (.imul, 18, 0, 0, [])), (18, (.lshr, 19, 0, 0, [])), (19, (.l2i, 20, 0, 0, [])), (20, (.sipush 255, 23, 0, 255, [])), (23, (.iand, 24, 0, 0, [])), (24, (.istore 5, 26, 0, 0, [])), (26, (.iload 5, 28, 0, 0, [])), (28, (.ifCond .eq 19, 31, 47, 0, [])), (31, (.iload 5, 33, 0, 0, [])), (33, (.bipush 33, 35, 0, 33, [])), (35, (.if_icmp .lt 10, 38, 45, 0, [])), (38, (.iload 5, 40, 0, 0, [])), (40, (.bipush 126, 42, 0, 126, [])), (42, (.if_icmp .le 5, 45, 47, 0, [])), (45, (.iconst 0, 46, 0, 0, [])), (46, (.ireturn, 47, 0, 0, [])), (47, (.iload_n 3, 48, 0, 0, [])), (48, (.iload 5, 50, 0, 0, [])), (50, (.ifCond .ne 7, 53, 57, 0, [])), (53, (.iconst 0, 54, 0, 0, [])), (54, (.goto 4, 57, 58, 0, [])), (57, (.iconst 1, 58, 0, 1, [])), (58, (.iadd, 59, 0, 0, [])), (59, (.istore_n 3, 60, 0, 0, [])), (60, (.iinc 4 1, 63, 0, 1, [])), (63, (.goto (-58), 66, 5, 0, [])), (66, (.aload_n 0, 67, 0, 0, [])), (67, (.getfield 56, 70, 0, 0, [])), (70, (.iload_n 3, 71, 0, 0, [])), (71, (.iadd, 72, 0, 0, [])), (72, (.bipush 64, 74, 0, 64, [])), (74, (.if_icmp .le 5, 77, 79, 0, [])), (77, (.iconst 0, 78, 0, 0, [])), (78, (.ireturn, 79, 0, 0, [])), (79, (.bipush 7, 81, 0, 7, [])), (81, (.istore 4, 83, 0, 0, [])), (83, (.iload 4, 85, 0, 0, [])), (85, (.ifCond .lt 49, 88, 134, 0, [])), (88, (.lload_n 1, 89, 0, 0, [])), (89, (.bipush 8, 91, 0, 8, [])), (91, (.iload 4, 93, 0, 0, [])), (93, (.imul, 94, 0, 0, [])), (94, (.lshr, 95, 0, 0, [])), (95, (.l2i, 96, 0, 0, [])), (96, (.sipush 255, 99, 0, 255, [])), (99, (.iand, 100, 0, 0, [])), (100, (.istore 5, 102, 0, 0, [])), (102, (.iload 5, 104, 0, 0, [])), (104, (.ifCond .eq 24, 107, 128, 0, [])), (107, (.aload_n 0, 108, 0, 0, [])), (108, (.getfield 7, 111, 0, 0, [])), (111, (.aload_n 0, 112, 0, 0, [])), (112, (.getfield 56, 115, 0, 0, [])), (115, (.iload 5, 117, 0, 0, [])), (117, (.iastore, 118, 0, 0, [])), (118, (.aload_n 0, 119, 0, 0, [])), (119, (.dup, 120, 0, 0, [])), (120, (.getfield 56, 123, 0, 0, [])), (123, (.iconst 1, 124, 0, 1, [])), (124, (.iadd, 125, 0, 0, [])), (125, (.putfield 56, 128, 0, 0, [])), (128, (.iinc 4 (-1), 131, 0, (-1), [])), (131, (.goto (-48), 134, 83, 0, [])), (134, (.iconst 1, 135, 0, 1, [])), (135, (.ireturn, 136, 0, 0, []))]
def F_M_type : List (Nat × XF) := [(56, (4, 1, .int, true)), (7, (4, 0, .array .int, false))]
def C_M_type : List (Nat × XK) := []
theorem okT_M_type : T_M_type.all (fun e => xgood q_M_type.2.1 e.1 e.2) = true := by decide +kernel
theorem okF_M_type : ∀ e ∈ F_M_type, xfok q_M_type.1.cls e.1 e.2 := List.forall_mem_cons.mpr ⟨⟨R_M, F_M, 27, rfl, by decide, t_M_ok 1 (by decide), (fun _ => rfl), tb2 (i := 201) rfl rfl⟩, List.forall_mem_cons.mpr ⟨⟨R_M, F_M, 27, rfl, by decide, t_M_ok 0 (by decide), (fun h => Bool.noConfusion h), tb2 (i := 200) rfl rfl⟩, fun _ h => absurd h List.not_mem_nil⟩⟩
theorem okC_M_type : ∀ e ∈ C_M_type, xcok q_M_type.1.cls e.1 e.2 := fun _ h => absurd h List.not_mem_nil
theorem ok_M_type : XOk q_M_type T_M_type F_M_type C_M_type := ⟨okT_M_type, okF_M_type, okC_M_type⟩
def T_M_wipe : List (Nat × XE) := [(0, (.aload_n 0, 1, 0, 0, [])), (1, (.iconst 0, 2, 0, 0, [])), (2, (.putfield 56, 5, 0, 0, [])), (5, (.return_, 6, 0, 0, []))]
def F_M_wipe : List (Nat × XF) := [(56, (4, 1, .int, true))]
def C_M_wipe : List (Nat × XK) := []
theorem okT_M_wipe : T_M_wipe.all (fun e => xgood q_M_wipe.2.1 e.1 e.2) = true := by decide +kernel
theorem okF_M_wipe : ∀ e ∈ F_M_wipe, xfok q_M_wipe.1.cls e.1 e.2 := List.forall_mem_cons.mpr ⟨⟨R_M, F_M, 27, rfl, by decide, t_M_ok 1 (by decide), (fun _ => rfl), tb2 (i := 201) rfl rfl⟩, fun _ h => absurd h List.not_mem_nil⟩
theorem okC_M_wipe : ∀ e ∈ C_M_wipe, xcok q_M_wipe.1.cls e.1 e.2 := fun _ h => absurd h List.not_mem_nil
theorem ok_M_wipe : XOk q_M_wipe T_M_wipe F_M_wipe C_M_wipe := ⟨okT_M_wipe, okF_M_wipe, okC_M_wipe⟩
def T_M_length : List (Nat × XE) := [(0, (.aload_n 0, 1, 0, 0, [])), (1, (.getfield 56, 4, 0, 0, [])), (4, (.ireturn, 5, 0, 0, []))]
def F_M_length : List (Nat × XF) := [(56, (4, 1, .int, true))]
def C_M_length : List (Nat × XK) := []
theorem okT_M_length : T_M_length.all (fun e => xgood q_M_length.2.1 e.1 e.2) = true := by decide +kernel
theorem okF_M_length : ∀ e ∈ F_M_length, xfok q_M_length.1.cls e.1 e.2 := List.forall_mem_cons.mpr ⟨⟨R_M, F_M, 27, rfl, by decide, t_M_ok 1 (by decide), (fun _ => rfl), tb2 (i := 201) rfl rfl⟩, fun _ h => absurd h List.not_mem_nil⟩
theorem okC_M_length : ∀ e ∈ C_M_length, xcok q_M_length.1.cls e.1 e.2 := fun _ h => absurd h List.not_mem_nil
theorem ok_M_length : XOk q_M_length T_M_length F_M_length C_M_length := ⟨okT_M_length, okF_M_length, okC_M_length⟩
def T_M_declare : List (Nat × XE) := [(0, (.iload_n 1, 1, 0, 0, [])), (1, (.ifCond .lt 8, 4, 9, 0, [])), (4, (.iload_n 1, 5, 0, 0, [])), (5, (.iconst 4, 6, 0, 4, [])), (6, (.if_icmp .le 5, 9, 11, 0, [])), (9, (.iconst 0, 10, 0, 0, [])), (10, (.ireturn, 11, 0, 0, [])), (11, (.aload_n 0, 12, 0, 0, [])), (12, (.getfield 13, 15, 0, 0, [])), (15, (.iload_n 1, 16, 0, 0, [])), (16, (.iload_n 2, 17, 0, 0, [])), (17, (.bastore, 18, 0, 0, [])), (18, (.iconst 1, 19, 0, 1, [])), (19, (.ireturn, 20, 0, 0, []))]
def F_M_declare : List (Nat × XF) := [(13, (4, 2, .array .boolean, false))]
def C_M_declare : List (Nat × XK) := []
theorem okT_M_declare : T_M_declare.all (fun e => xgood q_M_declare.2.1 e.1 e.2) = true := by decide +kernel
theorem okF_M_declare : ∀ e ∈ F_M_declare, xfok q_M_declare.1.cls e.1 e.2 := List.forall_mem_cons.mpr ⟨⟨R_M, F_M, 27, rfl, by decide, t_M_ok 2 (by decide), (fun h => Bool.noConfusion h), tb2 (i := 202) rfl rfl⟩, fun _ h => absurd h List.not_mem_nil⟩
theorem okC_M_declare : ∀ e ∈ C_M_declare, xcok q_M_declare.1.cls e.1 e.2 := fun _ h => absurd h List.not_mem_nil
theorem ok_M_declare : XOk q_M_declare T_M_declare F_M_declare C_M_declare := ⟨okT_M_declare, okF_M_declare, okC_M_declare⟩
def T_M_at : List (Nat × XE) := [(0, (.iload_n 1, 1, 0, 0, [])), (1, (.aload_n 0, 2, 0, 0, [])), (2, (.getfield 56, 5, 0, 0, [])), (5, (.if_icmp .ge 12, 8, 17, 0, [])), (8, (.aload_n 0, 9, 0, 0, [])), (9, (.getfield 7, 12, 0, 0, [])), (12, (.iload_n 1, 13, 0, 0, [])), (13, (.iaload, 14, 0, 0, [])), (14, (.goto 4, 17, 18, 0, [])), (17, (.iconst 0, 18, 0, 0, [])), (18, (.ireturn, 19, 0, 0, []))]
def F_M_at : List (Nat × XF) := [(56, (4, 1, .int, true)), (7, (4, 0, .array .int, false))]
def C_M_at : List (Nat × XK) := []
theorem okT_M_at : T_M_at.all (fun e => xgood q_M_at.2.1 e.1 e.2) = true := by decide +kernel
theorem okF_M_at : ∀ e ∈ F_M_at, xfok q_M_at.1.cls e.1 e.2 := List.forall_mem_cons.mpr ⟨⟨R_M, F_M, 27, rfl, by decide, t_M_ok 1 (by decide), (fun _ => rfl), tb2 (i := 201) rfl rfl⟩, List.forall_mem_cons.mpr ⟨⟨R_M, F_M, 27, rfl, by decide, t_M_ok 0 (by decide), (fun h => Bool.noConfusion h), tb2 (i := 200) rfl rfl⟩, fun _ h => absurd h List.not_mem_nil⟩⟩
theorem okC_M_at : ∀ e ∈ C_M_at, xcok q_M_at.1.cls e.1 e.2 := fun _ h => absurd h List.not_mem_nil
theorem ok_M_at : XOk q_M_at T_M_at F_M_at C_M_at := ⟨okT_M_at, okF_M_at, okC_M_at⟩
def T_M_isLocal : List (Nat × XE) := [(0, (.aload_n 0, 1, 0, 0, [])), (1, (.iload_n 1, 2, 0, 0, [])), (2, (.invokevirtual 60, 5, 0, 0, [])), (5, (.bipush 97, 7, 0, 97, [])), (7, (.if_icmp .lt 17, 10, 24, 0, [])), (10, (.aload_n 0, 11, 0, 0, [])), (11, (.iload_n 1, 12, 0, 0, [])), (12, (.invokevirtual 60, 15, 0, 0, [])), (15, (.bipush 101, 17, 0, 101, [])), (17, (.if_icmp .gt 7, 20, 24, 0, [])), (20, (.iconst 1, 21, 0, 1, [])), (21, (.goto 4, 24, 25, 0, [])), (24, (.iconst 0, 25, 0, 0, [])), (25, (.ireturn, 26, 0, 0, []))]
def F_M_isLocal : List (Nat × XF) := []
def C_M_isLocal : List (Nat × XK) := [(60, (q_M_at, true, 1, 4))]
theorem okT_M_isLocal : T_M_isLocal.all (fun e => xgood q_M_isLocal.2.1 e.1 e.2) = true := by decide +kernel
theorem okF_M_isLocal : ∀ e ∈ F_M_isLocal, xfok q_M_isLocal.1.cls e.1 e.2 := fun _ h => absurd h List.not_mem_nil
theorem okC_M_isLocal : ∀ e ∈ C_M_isLocal, xcok q_M_isLocal.1.cls e.1 e.2 := List.forall_mem_cons.mpr ⟨⟨tb3 (i := 73) rfl rfl, tb1 (i := 6) rfl rfl, ⟨by decide, by decide, by decide +kernel⟩, by decide, tb3 (i := 70) rfl rfl, tb3 (i := 72) rfl rfl, tbS3 (i := 6) rfl, F_M, 27, rfl⟩, fun _ h => absurd h List.not_mem_nil⟩
theorem ok_M_isLocal : XOk q_M_isLocal T_M_isLocal F_M_isLocal C_M_isLocal := ⟨okT_M_isLocal, okF_M_isLocal, okC_M_isLocal⟩
def T_M_isField : List (Nat × XE) := [(0, (.aload_n 0, 1, 0, 0, [])), (1, (.iload_n 1, 2, 0, 0, [])), (2, (.invokevirtual 60, 5, 0, 0, [])), (5, (.bipush 46, 7, 0, 46, [])), (7, (.if_icmp .ne 31, 10, 38, 0, [])), (10, (.aload_n 0, 11, 0, 0, [])), (11, (.iload_n 1, 12, 0, 0, [])), (12, (.iconst 1, 13, 0, 1, [])), (13, (.iadd, 14, 0, 0, [])), (14, (.invokevirtual 60, 17, 0, 0, [])), (17, (.bipush 103, 19, 0, 103, [])), (19, (.if_icmp .eq 15, 22, 34, 0, [])), (22, (.aload_n 0, 23, 0, 0, [])), (23, (.iload_n 1, 24, 0, 0, [])), (24, (.iconst 1, 25, 0, 1, [])), (25, (.iadd, 26, 0, 0, [])), (26, (.invokevirtual 60, 29, 0, 0, [])), (29, (.bipush 104, 31, 0, 104, [])), (31, (.if_icmp .ne 7, 34, 38, 0, [])), (34, (.iconst 1, 35, 0, 1, [])), (35, (.goto 4, 38, 39, 0, [])), (38, (.iconst 0, 39, 0, 0, [])), (39, (.ireturn, 40, 0, 0, []))]
def F_M_isField : List (Nat × XF) := []
def C_M_isField : List (Nat × XK) := [(60, (q_M_at, true, 1, 4))]
theorem okT_M_isField : T_M_isField.all (fun e => xgood q_M_isField.2.1 e.1 e.2) = true := by decide +kernel
theorem okF_M_isField : ∀ e ∈ F_M_isField, xfok q_M_isField.1.cls e.1 e.2 := fun _ h => absurd h List.not_mem_nil
theorem okC_M_isField : ∀ e ∈ C_M_isField, xcok q_M_isField.1.cls e.1 e.2 := List.forall_mem_cons.mpr ⟨⟨tb3 (i := 73) rfl rfl, tb1 (i := 6) rfl rfl, ⟨by decide, by decide, by decide +kernel⟩, by decide, tb3 (i := 70) rfl rfl, tb3 (i := 72) rfl rfl, tbS3 (i := 6) rfl, F_M, 27, rfl⟩, fun _ h => absurd h List.not_mem_nil⟩
theorem ok_M_isField : XOk q_M_isField T_M_isField F_M_isField C_M_isField := ⟨okT_M_isField, okF_M_isField, okC_M_isField⟩
def T_M_value : List (Nat × XE) := [(0, (.aload_n 0, 1, 0, 0, [])), (1, (.iload_n 1, 2, 0, 0, [])), (2, (.invokevirtual 60, 5, 0, 0, [])), (5, (.bipush 110, 7, 0, 110, [])), (7, (.if_icmp .eq 23, 10, 30, 0, [])), (10, (.aload_n 0, 11, 0, 0, [])), (11, (.iload_n 1, 12, 0, 0, [])), (12, (.invokevirtual 60, 15, 0, 0, [])), (15, (.bipush 78, 17, 0, 78, [])), (17, (.if_icmp .eq 13, 20, 30, 0, [])), (20, (.aload_n 0, 21, 0, 0, [])), (21, (.iload_n 1, 22, 0, 0, [])), (22, (.invokevirtual 60, 25, 0, 0, [])), (25, (.bipush 64, 27, 0, 64, [])), (27, (.if_icmp .ne 7, 30, 34, 0, [])), (30, (.iload_n 1, 31, 0, 0, [])), (31, (.iconst 1, 32, 0, 1, [])), (32, (.iadd, 33, 0, 0, [])), (33, (.ireturn, 34, 0, 0, [])), (34, (.aload_n 0, 35, 0, 0, [])), (35, (.iload_n 1, 36, 0, 0, [])), (36, (.invokevirtual 64, 39, 0, 0, [])), (39, (.ifCond .ne 7, 42, 46, 0, [])), (42, (.iconst (-1), 43, 0, (-1), [])), (43, (.goto 22, 46, 65, 0, [])), (46, (.aload_n 0, 47, 0, 0, [])), (47, (.iload_n 1, 48, 0, 0, [])), (48, (.iconst 1, 49, 0, 1, [])), (49, (.iadd, 50, 0, 0, [])), (50, (.invokevirtual 68, 53, 0, 0, [])), (53, (.ifCond .eq 9, 56, 62, 0, [])), (56, (.iload_n 1, 57, 0, 0, [])), (57, (.iconst 3, 58, 0, 3, [])), (58, (.iadd, 59, 0, 0, [])), (59, (.goto 6, 62, 65, 0, [])), (62, (.iload_n 1, 63, 0, 0, [])), (63, (.iconst 1, 64, 0, 1, [])), (64, (.iadd, 65, 0, 0, [])), (65, (.ireturn, 66, 0, 0, []))]
def F_M_value : List (Nat × XF) := []
def C_M_value : List (Nat × XK) := [(60, (q_M_at, true, 1, 4)), (64, (q_M_isLocal, true, 1, 4)), (68, (q_M_isField, true, 1, 4))]
theorem okT_M_value : T_M_value.all (fun e => xgood q_M_value.2.1 e.1 e.2) = true := by decide +kernel
theorem okF_M_value : ∀ e ∈ F_M_value, xfok q_M_value.1.cls e.1 e.2 := fun _ h => absurd h List.not_mem_nil
theorem okC_M_value : ∀ e ∈ C_M_value, xcok q_M_value.1.cls e.1 e.2 := List.forall_mem_cons.mpr ⟨⟨tb3 (i := 73) rfl rfl, tb1 (i := 6) rfl rfl, ⟨by decide, by decide, by decide +kernel⟩, by decide, tb3 (i := 70) rfl rfl, tb3 (i := 72) rfl rfl, tbS3 (i := 6) rfl, F_M, 27, rfl⟩, List.forall_mem_cons.mpr ⟨⟨tb3 (i := 93) rfl rfl, tb1 (i := 6) rfl rfl, ⟨by decide, by decide, by decide +kernel⟩, by decide, tb3 (i := 90) rfl rfl, tb3 (i := 92) rfl rfl, tbS3 (i := 11) rfl, F_M, 27, rfl⟩, List.forall_mem_cons.mpr ⟨⟨tb3 (i := 97) rfl rfl, tb1 (i := 6) rfl rfl, ⟨by decide, by decide, by decide +kernel⟩, by decide, tb3 (i := 94) rfl rfl, tb3 (i := 96) rfl rfl, tbS3 (i := 12) rfl, F_M, 27, rfl⟩, fun _ h => absurd h List.not_mem_nil⟩⟩⟩
theorem ok_M_value : XOk q_M_value T_M_value F_M_value C_M_value := ⟨okT_M_value, okF_M_value, okC_M_value⟩
def T_M_atom : List (Nat × XE) := [(0, (.aload_n 0, 1, 0, 0, [])), (1, (.iload_n 1, 2, 0, 0, [])), (2, (.invokevirtual 60, 5, 0, 0, [])), (5, (.bipush 126, 7, 0, 126, [])), (7, (.if_icmp .ne 9, 10, 16, 0, [])), (10, (.iload_n 1, 11, 0, 0, [])), (11, (.iconst 1, 12, 0, 1, [])), (12, (.iadd, 13, 0, 0, [])), (13, (.goto 4, 16, 17, 0, [])), (16, (.iload_n 1, 17, 0, 0, [])), (17, (.istore_n 2, 18, 0, 0, [])), (18, (.aload_n 0, 19, 0, 0, [])), (19, (.iload_n 1, 20, 0, 0, [])), (20, (.invokevirtual 60, 23, 0, 0, [])), (23, (.bipush 37, 25, 0, 37, [])), (25, (.if_icmp .ne 7, 28, 32, 0, [])), (28, (.iload_n 1, 29, 0, 0, [])), (29, (.iconst 1, 30, 0, 1, [])), (30, (.iadd, 31, 0, 0, [])), (31, (.ireturn, 32, 0, 0, [])), (32, (.aload_n 0, 33, 0, 0, [])), (33, (.iload_n 2, 34, 0, 0, [])), (34, (.invokevirtual 64, 37, 0, 0, [])), (37, (.ifCond .ne 7, 40, 44, 0, [])), (40, (.iconst (-1), 41, 0, (-1), [])), (41, (.goto 22, 44, 63, 0, [])), (44, (.aload_n 0, 45, 0, 0, [])), (45, (.iload_n 2, 46, 0, 0, [])), (46, (.iconst 1, 47, 0, 1, [])), (47, (.iadd, 48, 0, 0, [])), (48, (.invokevirtual 68, 51, 0, 0, [])), (51, (.ifCond .eq 9, 54, 60, 0, [])), (54, (.iload_n 2, 55, 0, 0, [])), (55, (.iconst 3, 56, 0, 3, [])), (56, (.iadd, 57, 0, 0, [])), (57, (.goto 6, 60, 63, 0, [])), (60, (.iload_n 2, 61, 0, 0, [])), (61, (.iconst 1, 62, 0, 1, [])), (62, (.iadd, 63, 0, 0, [])), (63, (.ireturn, 64, 0, 0, []))]
def F_M_atom : List (Nat × XF) := []
def C_M_atom : List (Nat × XK) := [(60, (q_M_at, true, 1, 4)), (64, (q_M_isLocal, true, 1, 4)), (68, (q_M_isField, true, 1, 4))]
theorem okT_M_atom : T_M_atom.all (fun e => xgood q_M_atom.2.1 e.1 e.2) = true := by decide +kernel
theorem okF_M_atom : ∀ e ∈ F_M_atom, xfok q_M_atom.1.cls e.1 e.2 := fun _ h => absurd h List.not_mem_nil
theorem okC_M_atom : ∀ e ∈ C_M_atom, xcok q_M_atom.1.cls e.1 e.2 := List.forall_mem_cons.mpr ⟨⟨tb3 (i := 73) rfl rfl, tb1 (i := 6) rfl rfl, ⟨by decide, by decide, by decide +kernel⟩, by decide, tb3 (i := 70) rfl rfl, tb3 (i := 72) rfl rfl, tbS3 (i := 6) rfl, F_M, 27, rfl⟩, List.forall_mem_cons.mpr ⟨⟨tb3 (i := 93) rfl rfl, tb1 (i := 6) rfl rfl, ⟨by decide, by decide, by decide +kernel⟩, by decide, tb3 (i := 90) rfl rfl, tb3 (i := 92) rfl rfl, tbS3 (i := 11) rfl, F_M, 27, rfl⟩, List.forall_mem_cons.mpr ⟨⟨tb3 (i := 97) rfl rfl, tb1 (i := 6) rfl rfl, ⟨by decide, by decide, by decide +kernel⟩, by decide, tb3 (i := 94) rfl rfl, tb3 (i := 96) rfl rfl, tbS3 (i := 12) rfl, F_M, 27, rfl⟩, fun _ h => absurd h List.not_mem_nil⟩⟩⟩
theorem ok_M_atom : XOk q_M_atom T_M_atom F_M_atom C_M_atom := ⟨okT_M_atom, okF_M_atom, okC_M_atom⟩
def T_M_condition : List (Nat × XE) := [(0, (.iload_n 1, 1, 0, 0, [])), (1, (.iconst 1, 2, 0, 1, [])), (2, (.iadd, 3, 0, 0, [])), (3, (.istore_n 2, 4, 0, 0, [])), (4, (.iconst 0, 5, 0, 0, [])), (5, (.istore_n 3, 6, 0, 0, [])), (6, (.iload_n 3, 7, 0, 0, [])), (7, (.bipush 64, 9, 0, 64, [])), (9, (.if_icmp .ge 85, 12, 94, 0, [])), (12, (.aload_n 0, 13, 0, 0, [])), (13, (.iload_n 2, 14, 0, 0, [])), (14, (.invokevirtual 71, 17, 0, 0, [])), (17, (.istore 4, 19, 0, 0, [])), (19, (.iload 4, 21, 0, 0, [])), (21, (.ifCond .ge 5, 24, 26, 0, [])), (24, (.iconst (-1), 25, 0, (-1), [])), (25, (.ireturn, 26, 0, 0, [])), (26, (.aload_n 0, 27, 0, 0, [])), (27, (.getfield 17, 30, 0, 0, [])), (30, (.iload_n 2, 31, 0, 0, [])), (31, (.bipush 7, 33, 0, 7, [])), (33, (.iastore, 34, 0, 0, [])), (34, (.aload_n 0, 35, 0, 0, [])), (35, (.getfield 20, 38, 0, 0, [])), (38, (.iload_n 2, 39, 0, 0, [])), (39, (.iload_n 1, 40, 0, 0, [])), (40, (.iastore, 41, 0, 0, [])), (41, (.aload_n 0, 42, 0, 0, [])), (42, (.iload 4, 44, 0, 0, [])), (44, (.invokevirtual 60, 47, 0, 0, [])), (47, (.bipush 38, 49, 0, 38, [])), (49, (.if_icmp .eq 34, 52, 83, 0, [])), (52, (.aload_n 0, 53, 0, 0, [])), (53, (.iload 4, 55, 0, 0, [])), (55, (.invokevirtual 60, 58, 0, 0, [])), (58, (.bipush 124, 60, 0, 124, [])), (60, (.if_icmp .eq 23, 63, 83, 0, [])), (63, (.aload_n 0, 64, 0, 0, [])), (64, (.iload 4, 66, 0, 0, [])), (66, (.invokevirtual 60, 69, 0, 0, [])), (69, (.bipush 123, 71, 0, 123, [])), (71, (.if_icmp .ne 10, 74, 81, 0, [])), (74, (.iload 4, 76, 0, 0, [])), (76, (.iconst 1, 77, 0, 1, [])), (77, (.iadd, 78, 0, 0, [])), (78, (.goto 4, 81, 82, 0, [])), (81, (.iconst (-1), 82, 0, (-1), [])), (82, (.ireturn, 83, 0, 0, [])), (83, (.iload 4, 85, 0, 0, [])), (85, (.iconst 1, 86, 0, 1, [])), (86, (.iadd, 87, 0, 0, [])), (87, (.istore_n 2, 88, 0, 0, [])), (88, (.iinc 3 1, 91, 0, 1, [])), (91, (.goto (-85), 94, 6, 0, [])), (94, (.iconst (-1), 95, 0, (-1), [])), (95, (.ireturn, 96, 0, 0, []))]
def F_M_condition : List (Nat × XF) := [(17, (4, 3, .array .int, false)), (20, (4, 4, .array .int, false))]
def C_M_condition : List (Nat × XK) := [(71, (q_M_atom, true, 1, 4)), (60, (q_M_at, true, 1, 4))]
theorem okT_M_condition : T_M_condition.all (fun e => xgood q_M_condition.2.1 e.1 e.2) = true := by decide +kernel
theorem okF_M_condition : ∀ e ∈ F_M_condition, xfok q_M_condition.1.cls e.1 e.2 := List.forall_mem_cons.mpr ⟨⟨R_M, F_M, 27, rfl, by decide, t_M_ok 3 (by decide), (fun h => Bool.noConfusion h), tb2 (i := 203) rfl rfl⟩, List.forall_mem_cons.mpr ⟨⟨R_M, F_M, 27, rfl, by decide, t_M_ok 4 (by decide), (fun h => Bool.noConfusion h), tb2 (i := 204) rfl rfl⟩, fun _ h => absurd h List.not_mem_nil⟩⟩
theorem okC_M_condition : ∀ e ∈ C_M_condition, xcok q_M_condition.1.cls e.1 e.2 := List.forall_mem_cons.mpr ⟨⟨tb3 (i := 89) rfl rfl, tb1 (i := 6) rfl rfl, ⟨by decide, by decide, by decide +kernel⟩, by decide, tb3 (i := 86) rfl rfl, tb3 (i := 88) rfl rfl, tbS3 (i := 10) rfl, F_M, 27, rfl⟩, List.forall_mem_cons.mpr ⟨⟨tb3 (i := 73) rfl rfl, tb1 (i := 6) rfl rfl, ⟨by decide, by decide, by decide +kernel⟩, by decide, tb3 (i := 70) rfl rfl, tb3 (i := 72) rfl rfl, tbS3 (i := 6) rfl, F_M, 27, rfl⟩, fun _ h => absurd h List.not_mem_nil⟩⟩
theorem ok_M_condition : XOk q_M_condition T_M_condition F_M_condition C_M_condition := ⟨okT_M_condition, okF_M_condition, okC_M_condition⟩
def T_M_open : List (Nat × XE) := [(0, (.aload_n 0, 1, 0, 0, [])), (1, (.getfield 74, 4, 0, 0, [])), (4, (.bipush 6, 6, 0, 6, [])), (6, (.if_icmp .ne 5, 9, 11, 0, [])), (9, (.iconst 0, 10, 0, 0, [])), (10, (.ireturn, 11, 0, 0, [])), (11, (.aload_n 0, 12, 0, 0, [])), (12, (.getfield 32, 15, 0, 0, [])), (15, (.aload_n 0, 16, 0, 0, [])), (16, (.getfield 74, 19, 0, 0, [])), (19, (.iload_n 1, 20, 0, 0, [])), (20, (.iastore, 21, 0, 0, [])), (21, (.aload_n 0, 22, 0, 0, [])), (22, (.dup, 23, 0, 0, [])), (23, (.getfield 74, 26, 0, 0, [])), (26, (.iconst 1, 27, 0, 1, [])), (27, (.iadd, 28, 0, 0, [])), (28, (.putfield 74, 31, 0, 0, [])), (31, (.iconst 1, 32, 0, 1, [])), (32, (.ireturn, 33, 0, 0, []))]
def F_M_open : List (Nat × XF) := [(74, (4, 9, .int, true)), (32, (4, 10, .array .int, false))]
def C_M_open : List (Nat × XK) := []
theorem okT_M_open : T_M_open.all (fun e => xgood q_M_open.2.1 e.1 e.2) = true := by decide +kernel
theorem okF_M_open : ∀ e ∈ F_M_open, xfok q_M_open.1.cls e.1 e.2 := List.forall_mem_cons.mpr ⟨⟨R_M, F_M, 27, rfl, by decide, t_M_ok 9 (by decide), (fun _ => rfl), tb2 (i := 209) rfl rfl⟩, List.forall_mem_cons.mpr ⟨⟨R_M, F_M, 27, rfl, by decide, t_M_ok 10 (by decide), (fun h => Bool.noConfusion h), tb2 (i := 210) rfl rfl⟩, fun _ h => absurd h List.not_mem_nil⟩⟩
theorem okC_M_open : ∀ e ∈ C_M_open, xcok q_M_open.1.cls e.1 e.2 := fun _ h => absurd h List.not_mem_nil
theorem ok_M_open : XOk q_M_open T_M_open F_M_open C_M_open := ⟨okT_M_open, okF_M_open, okC_M_open⟩
def T_M_close : List (Nat × XE) := [(0, (.aload_n 0, 1, 0, 0, [])), (1, (.getfield 74, 4, 0, 0, [])), (4, (.ifCond .ne 5, 7, 9, 0, [])), (7, (.iconst (-1), 8, 0, (-1), [])), (8, (.ireturn, 9, 0, 0, [])), (9, (.aload_n 0, 10, 0, 0, [])), (10, (.dup, 11, 0, 0, [])), (11, (.getfield 74, 14, 0, 0, [])), (14, (.iconst 1, 15, 0, 1, [])), (15, (.isub, 16, 0, 0, [])), (16, (.putfield 74, 19, 0, 0, [])), (19, (.aload_n 0, 20, 0, 0, [])), (20, (.getfield 32, 23, 0, 0, [])), (23, (.aload_n 0, 24, 0, 0, [])), (24, (.getfield 74, 27, 0, 0, [])), (27, (.iaload, 28, 0, 0, [])), (28, (.istore_n 2, 29, 0, 0, [])), (29, (.aload_n 0, 30, 0, 0, [])), (30, (.getfield 20, 33, 0, 0, [])), (33, (.iload_n 1, 34, 0, 0, [])), (34, (.iload_n 2, 35, 0, 0, [])), (35, (.iastore, 36, 0, 0, [])), (36, (.aload_n 0, 37, 0, 0, [])), (37, (.getfield 29, 40, 0, 0, [])), (40, (.iload_n 2, 41, 0, 0, [])), (41, (.iload_n 1, 42, 0, 0, [])), (42, (.iconst 1, 43, 0, 1, [])), (43, (.iadd, 44, 0, 0, [])), (44, (.iastore, 45, 0, 0, [])), (45, (.aload_n 0, 46, 0, 0, [])), (46, (.getfield 17, 49, 0, 0, [])), (49, (.iload_n 2, 50, 0, 0, [])), (50, (.iaload, 51, 0, 0, [])), (51, (.iconst 3, 52, 0, 3, [])), (52, (.if_icmp .ne 49, 55, 101, 0, [])), (55, (.aload_n 0, 56, 0, 0, [])), (56, (.getfield 26, 59, 0, 0, [])), (59, (.iload_n 2, 60, 0, 0, [])), (60, (.iaload, 61, 0, 0, [])), (61, (.ifCond .ne 40, 64, 101, 0, [])), (64, (.aload_n 0, 65, 0, 0, [])), (65, (.iload_n 1, 66, 0, 0, [])), (66, (.iconst 1, 67, 0, 1, [])), (67, (.iadd, 68, 0, 0, [])), (68, (.invokevirtual 60, 71, 0, 0, [])), (71, (.bipush 123, 73, 0, 123, [])), (73, (.if_icmp .ne 28, 76, 101, 0, [])), (76, (.aload_n 0, 77, 0, 0, [])), (77, (.getfield 26, 80, 0, 0, [])), (80, (.iload_n 2, 81, 0, 0, [])), (81, (.iload_n 1, 82, 0, 0, [])), (82, (.iconst 2, 83, 0, 2, [])), (83, (.iadd, 84, 0, 0, [])), (84, (.iastore, 85, 0, 0, [])), (85, (.aload_n 0, 86, 0, 0, [])), (86, (.iload_n 2, 87, 0, 0, [])), (87, (.invokevirtual 77, 90, 0, 0, [])), (90, (.ifCond .eq 9, 93, 99, 0, [])), (93, (.iload_n 1, 94, 0, 0, [])), (94, (.iconst 2, 95, 0, 2, [])), (95, (.iadd, 96, 0, 0, [])), (96, (.goto 4, 99, 100, 0, [])), (99, (.iconst (-1), 100, 0, (-1), [])), (100, (.ireturn, 101, 0, 0, [])), (101, (.iload_n 1, 102, 0, 0, [])), (102, (.iconst 1, 103, 0, 1, [])), (103, (.iadd, 104, 0, 0, [])), (104, (.ireturn, 105, 0, 0, []))]
def F_M_close : List (Nat × XF) := [(74, (4, 9, .int, true)), (32, (4, 10, .array .int, false)), (20, (4, 4, .array .int, false)), (29, (4, 7, .array .int, false)), (17, (4, 3, .array .int, false)), (26, (4, 6, .array .int, false))]
def C_M_close : List (Nat × XK) := [(60, (q_M_at, true, 1, 4)), (77, (q_M_open, true, 1, 4))]
theorem okT_M_close : T_M_close.all (fun e => xgood q_M_close.2.1 e.1 e.2) = true := by decide +kernel
theorem okF_M_close : ∀ e ∈ F_M_close, xfok q_M_close.1.cls e.1 e.2 := List.forall_mem_cons.mpr ⟨⟨R_M, F_M, 27, rfl, by decide, t_M_ok 9 (by decide), (fun _ => rfl), tb2 (i := 209) rfl rfl⟩, List.forall_mem_cons.mpr ⟨⟨R_M, F_M, 27, rfl, by decide, t_M_ok 10 (by decide), (fun h => Bool.noConfusion h), tb2 (i := 210) rfl rfl⟩, List.forall_mem_cons.mpr ⟨⟨R_M, F_M, 27, rfl, by decide, t_M_ok 4 (by decide), (fun h => Bool.noConfusion h), tb2 (i := 204) rfl rfl⟩, List.forall_mem_cons.mpr ⟨⟨R_M, F_M, 27, rfl, by decide, t_M_ok 7 (by decide), (fun h => Bool.noConfusion h), tb2 (i := 207) rfl rfl⟩, List.forall_mem_cons.mpr ⟨⟨R_M, F_M, 27, rfl, by decide, t_M_ok 3 (by decide), (fun h => Bool.noConfusion h), tb2 (i := 203) rfl rfl⟩, List.forall_mem_cons.mpr ⟨⟨R_M, F_M, 27, rfl, by decide, t_M_ok 6 (by decide), (fun h => Bool.noConfusion h), tb2 (i := 206) rfl rfl⟩, fun _ h => absurd h List.not_mem_nil⟩⟩⟩⟩⟩⟩
theorem okC_M_close : ∀ e ∈ C_M_close, xcok q_M_close.1.cls e.1 e.2 := List.forall_mem_cons.mpr ⟨⟨tb3 (i := 73) rfl rfl, tb1 (i := 6) rfl rfl, ⟨by decide, by decide, by decide +kernel⟩, by decide, tb3 (i := 70) rfl rfl, tb3 (i := 72) rfl rfl, tbS3 (i := 6) rfl, F_M, 27, rfl⟩, List.forall_mem_cons.mpr ⟨⟨tb3 (i := 81) rfl rfl, tb1 (i := 6) rfl rfl, ⟨by decide, by decide, by decide +kernel⟩, by decide, tb3 (i := 78) rfl rfl, tb3 (i := 80) rfl rfl, tbS3 (i := 8) rfl, F_M, 27, rfl⟩, fun _ h => absurd h List.not_mem_nil⟩⟩
theorem ok_M_close : XOk q_M_close T_M_close F_M_close C_M_close := ⟨okT_M_close, okF_M_close, okC_M_close⟩
def T_M_part : List (Nat × XE) := [(0, (.aload_n 0, 1, 0, 0, [])), (1, (.iload_n 1, 2, 0, 0, [])), (2, (.invokevirtual 60, 5, 0, 0, [])), (5, (.istore_n 2, 6, 0, 0, [])), (6, (.iload_n 2, 7, 0, 0, [])), (7, (.bipush 125, 9, 0, 125, [])), (9, (.if_icmp .ne 9, 12, 18, 0, [])), (12, (.aload_n 0, 13, 0, 0, [])), (13, (.iload_n 1, 14, 0, 0, [])), (14, (.invokevirtual 80, 17, 0, 0, [])), (17, (.ireturn, 18, 0, 0, [])), (18, (.aload_n 0, 19, 0, 0, [])), (19, (.dup, 20, 0, 0, [])), (20, (.getfield 83, 23, 0, 0, [])), (23, (.iconst 1, 24, 0, 1, [])), (24, (.iadd, 25, 0, 0, [])), (25, (.putfield 83, 28, 0, 0, [])), (28, (.iload_n 2, 29, 0, 0, [])), (29, (.bipush 33, 31, 0, 33, [])), (31, (.if_icmp .eq 9, 34, 40, 0, [])), (34, (.iload_n 2, 35, 0, 0, [])), (35, (.bipush 94, 37, 0, 94, [])), (37, (.if_icmp .ne 50, 40, 87, 0, [])), (40, (.aload_n 0, 41, 0, 0, [])), (41, (.getfield 17, 44, 0, 0, [])), (44, (.iload_n 1, 45, 0, 0, [])), (45, (.iload_n 2, 46, 0, 0, [])), (46, (.bipush 33, 48, 0, 33, [])), (48, (.if_icmp .ne 7, 51, 55, 0, [])), (51, (.iconst 5, 52, 0, 5, [])), (52, (.goto 5, 55, 57, 0, [])), (55, (.bipush 6, 57, 0, 6, [])), (57, (.iastore, 58, 0, 0, [])), (58, (.aload_n 0, 59, 0, 0, [])), (59, (.getfield 29, 62, 0, 0, [])), (62, (.iload_n 1, 63, 0, 0, [])), (63, (.iload_n 1, 64, 0, 0, [])), (64, (.iconst 2, 65, 0, 2, [])), (65, (.iadd, 66, 0, 0, [])), (66, (.iastore, 67, 0, 0, [])), (67, (.aload_n 0, 68, 0, 0, [])), (68, (.iload_n 1, 69, 0, 0, [])), (69, (.iconst 1, 70, 0, 1, [])), (70, (.iadd, 71, 0, 0, [])), (71, (.invokevirtual 60, 74, 0, 0, [])), (74, (.bipush 59, 76, 0, 59, [])), (76, (.if_icmp .ne 9, 79, 85, 0, [])), (79, (.iload_n 1, 80, 0, 0, [])), (80, (.iconst 2, 81, 0, 2, [])), (81, (.iadd, 82, 0, 0, [])), (82, (.goto 4, 85, 86, 0, [])), (85, (.iconst (-1), 86, 0, (-1), [])), (86, (.ireturn, 87, 0, 0, [])), (87, (.iload_n 2, 88, 0, 0, [])), (88, (.bipush 63, 90, 0, 63, [])), (90, (.if_icmp .eq 9, 93, 99, 0, [])), (93, (.iload_n 2, 94, 0, 0, [])), (94, (.bipush 42, 96, 0, 42, [])), (96, (.if_icmp .ne 66, 99, 162, 0, [])), (99, (.aload_n 0, 100, 0, 0, [])), (100, (.getfield 17, 103, 0, 0, [])), (103, (.iload_n 1, 104, 0, 0, [])), (104, (.iload_n 2, 105, 0, 0, [])), (105, (.bipush 63, 107, 0, 63, [])), (107, (.if_icmp .ne 7, 110, 114, 0, [])), (110, (.iconst 3, 111, 0, 3, [])), (111, (.goto 4, 114, 115, 0, [])), (114, (.iconst 4, 115, 0, 4, [])), (115, (.iastore, 116, 0, 0, [])), (116, (.aload_n 0, 117, 0, 0, [])), (117, (.getfield 26, 120, 0, 0, [])), (120, (.iload_n 1, 121, 0, 0, [])), (121, (.iconst 0, 122, 0, 0, [])), (122, (.iastore, 123, 0, 0, [])), (123, (.aload_n 0, 124, 0, 0, [])), (124, (.getfield 23, 127, 0, 0, [])), (127, (.iload_n 1, 128, 0, 0, [])), (128, (.aload_n 0, 129, 0, 0, [])), (129, (.iload_n 1, 130, 0, 0, [])), (130, (.invokevirtual 86, 133, 0, 0, [])), (133, (.iastore, 134, 0, 0, [])), (134, (.aload_n 0, 135, 0, 0, [])), (135, (.getfield 23, 138, 0, 0, [])), (138, (.iload_n 1, 139, 0, 0, [])), (139, (.iaload, 140, 0, 0, [])), (140, (.ifCond .lt 20, 143, 160, 0, [])), (143, (.aload_n 0, 144, 0, 0, [])), (144, (.iload_n 1, 145, 0, 0, [])), (145, (.invokevirtual 77, 148, 0, 0, [])), (148, (.ifCond .eq 12, 151, 160, 0, [])), (151, (.aload_n 0, 152, 0, 0, [])), (152, (.getfield 23, 155, 0, 0, [])), (155, (.iload_n 1, 156, 0, 0, [])), (156, (.iaload, 157, 0, 0, [])), (157, (.goto 4, 160, 161, 0, [])), (160, (.iconst (-1), 161, 0, (-1), [])), (161, (.ireturn, 162, 0, 0, [])), (162, (.aload_n 0, 163, 0, 0, [])), (163, (.iload_n 1, 164, 0, 0, [])), (164, (.iconst 1, 165, 0, 1, [])), (165, (.iadd, 166, 0, 0, [])), (166, (.invokevirtual 68, 169, 0, 0, [])), (169, (.istore_n 3, 170, 0, 0, [])), (170, (.iload_n 3, 171, 0, 0, [])), (171, (.ifCond .eq 9, 174, 180, 0, [])), (174, (.iload_n 1, 175, 0, 0, [])), (175, (.iconst 3, 176, 0, 3, [])), (176, (.iadd, 177, 0, 0, [])), (177, (.goto 6, 180, 183, 0, [])), (180, (.iload_n 1, 181, 0, 0, [])), (181, (.iconst 1, 182, 0, 1, [])), (182, (.iadd, 183, 0, 0, [])), (183, (.istore 4, 185, 0, 0, [])), (185, (.aload_n 0, 186, 0, 0, [])), (186, (.iload_n 1, 187, 0, 0, [])), (187, (.invokevirtual 64, 190, 0, 0, [])), (190, (.ifCond .eq 14, 193, 204, 0, [])), (193, (.aload_n 0, 194, 0, 0, [])), (194, (.iload 4, 196, 0, 0, [])), (196, (.invokevirtual 60, 199, 0, 0, [])), (199, (.bipush 61, 201, 0, 61, [])), (201, (.if_icmp .eq 5, 204, 206, 0, [])), (204, (.iconst (-1), 205, 0, (-1), [])), (205, (.ireturn, 206, 0, 0, [])), (206, (.aload_n 0, 207, 0, 0, [])), (207, (.getfield 17, 210, 0, 0, [])), (210, (.iload_n 1, 211, 0, 0, [])), (211, (.iload_n 3, 212, 0, 0, [])), (212, (.ifCond .eq 7, 215, 219, 0, [])), (215, (.iconst 2, 216, 0, 2, [])), (216, (.goto 4, 219, 220, 0, [])), (219, (.iconst 1, 220, 0, 1, [])), (220, (.iastore, 221, 0, 0, [])), (221, (.aload_n 0, 222, 0, 0, [])), (222, (.iload 4, 224, 0, 0, [])), (224, (.iconst 1, 225, 0, 1, [])), (225, (.iadd, 226, 0, 0, [])), (226, (.invokevirtual 89, 229, 0, 0, [])), (229, (.istore 5, 231, 0, 0, [])), (231, (.aload_n 0, 232, 0, 0, [])), (232, (.getfield 29, 235, 0, 0, [])), (235, (.iload_n 1, 236, 0, 0, [])), (236, (.iload 5, 238, 0, 0, [])), (238, (.iconst 1, 239, 0, 1, [])), (239, (.iadd, 240, 0, 0, [])), (240, (.iastore, 241, 0, 0, [])), (241, (.iload 5, 243, 0, 0, [])), (243, (.ifCond .lt 21, 246, 264, 0, [])), (246, (.aload_n 0, 247, 0, 0, [])), (247, (.iload 5, 249, 0, 0, [])), (249, (.invokevirtual 60, 252, 0, 0, [])), (252, (.bipush 59, 254, 0, 59, [])), (254, (.if_icmp .ne 10, 257, 264, 0, [])), (257, (.iload 5, 259, 0, 0, [])), (259, (.iconst 1, 260, 0, 1, [])), (260, (.iadd, 261, 0, 0, [])), (261, (.goto 4, 264, 265, 0, [])), (264, (.iconst (-1), 265, 0, (-1), [])), (265, (.ireturn, 266, 0, 0, []))]
def F_M_part : List (Nat × XF) := [(83, (4, 8, .int, true)), (17, (4, 3, .array .int, false)), (29, (4, 7, .array .int, false)), (26, (4, 6, .array .int, false)), (23, (4, 5, .array .int, false))]
def C_M_part : List (Nat × XK) := [(60, (q_M_at, true, 1, 4)), (80, (q_M_close, true, 1, 4)), (86, (q_M_condition, true, 1, 4)), (77, (q_M_open, true, 1, 4)), (68, (q_M_isField, true, 1, 4)), (64, (q_M_isLocal, true, 1, 4)), (89, (q_M_value, true, 1, 4))]
theorem okT_M_part : T_M_part.all (fun e => xgood q_M_part.2.1 e.1 e.2) = true := by decide +kernel
theorem okF_M_part : ∀ e ∈ F_M_part, xfok q_M_part.1.cls e.1 e.2 := List.forall_mem_cons.mpr ⟨⟨R_M, F_M, 27, rfl, by decide, t_M_ok 8 (by decide), (fun _ => rfl), tb2 (i := 208) rfl rfl⟩, List.forall_mem_cons.mpr ⟨⟨R_M, F_M, 27, rfl, by decide, t_M_ok 3 (by decide), (fun h => Bool.noConfusion h), tb2 (i := 203) rfl rfl⟩, List.forall_mem_cons.mpr ⟨⟨R_M, F_M, 27, rfl, by decide, t_M_ok 7 (by decide), (fun h => Bool.noConfusion h), tb2 (i := 207) rfl rfl⟩, List.forall_mem_cons.mpr ⟨⟨R_M, F_M, 27, rfl, by decide, t_M_ok 6 (by decide), (fun h => Bool.noConfusion h), tb2 (i := 206) rfl rfl⟩, List.forall_mem_cons.mpr ⟨⟨R_M, F_M, 27, rfl, by decide, t_M_ok 5 (by decide), (fun h => Bool.noConfusion h), tb2 (i := 205) rfl rfl⟩, fun _ h => absurd h List.not_mem_nil⟩⟩⟩⟩⟩
theorem okC_M_part : ∀ e ∈ C_M_part, xcok q_M_part.1.cls e.1 e.2 := List.forall_mem_cons.mpr ⟨⟨tb3 (i := 73) rfl rfl, tb1 (i := 6) rfl rfl, ⟨by decide, by decide, by decide +kernel⟩, by decide, tb3 (i := 70) rfl rfl, tb3 (i := 72) rfl rfl, tbS3 (i := 6) rfl, F_M, 27, rfl⟩, List.forall_mem_cons.mpr ⟨⟨tb3 (i := 77) rfl rfl, tb1 (i := 6) rfl rfl, ⟨by decide, by decide, by decide +kernel⟩, by decide, tb3 (i := 74) rfl rfl, tb3 (i := 76) rfl rfl, tbS3 (i := 7) rfl, F_M, 27, rfl⟩, List.forall_mem_cons.mpr ⟨⟨tb3 (i := 85) rfl rfl, tb1 (i := 6) rfl rfl, ⟨by decide, by decide, by decide +kernel⟩, by decide, tb3 (i := 82) rfl rfl, tb3 (i := 84) rfl rfl, tbS3 (i := 9) rfl, F_M, 27, rfl⟩, List.forall_mem_cons.mpr ⟨⟨tb3 (i := 81) rfl rfl, tb1 (i := 6) rfl rfl, ⟨by decide, by decide, by decide +kernel⟩, by decide, tb3 (i := 78) rfl rfl, tb3 (i := 80) rfl rfl, tbS3 (i := 8) rfl, F_M, 27, rfl⟩, List.forall_mem_cons.mpr ⟨⟨tb3 (i := 97) rfl rfl, tb1 (i := 6) rfl rfl, ⟨by decide, by decide, by decide +kernel⟩, by decide, tb3 (i := 94) rfl rfl, tb3 (i := 96) rfl rfl, tbS3 (i := 12) rfl, F_M, 27, rfl⟩, List.forall_mem_cons.mpr ⟨⟨tb3 (i := 93) rfl rfl, tb1 (i := 6) rfl rfl, ⟨by decide, by decide, by decide +kernel⟩, by decide, tb3 (i := 90) rfl rfl, tb3 (i := 92) rfl rfl, tbS3 (i := 11) rfl, F_M, 27, rfl⟩, List.forall_mem_cons.mpr ⟨⟨tb3 (i := 101) rfl rfl, tb1 (i := 6) rfl rfl, ⟨by decide, by decide, by decide +kernel⟩, by decide, tb3 (i := 98) rfl rfl, tb3 (i := 100) rfl rfl, tbS3 (i := 13) rfl, F_M, 27, rfl⟩, fun _ h => absurd h List.not_mem_nil⟩⟩⟩⟩⟩⟩⟩
theorem ok_M_part : XOk q_M_part T_M_part F_M_part C_M_part := ⟨okT_M_part, okF_M_part, okC_M_part⟩
def T_M_program : List (Nat × XE) := [(0, (.iconst 0, 1, 0, 0, [])), (1, (.istore_n 1, 2, 0, 0, [])), (2, (.iload_n 1, 3, 0, 0, [])), (3, (.bipush 65, 5, 0, 65, [])), (5, (.if_icmp .ge 16, 8, 21, 0, [])), (8, (.aload_n 0, 9, 0, 0, [])), (9, (.getfield 17, 12, 0, 0, [])), (12, (.iload_n 1, 13, 0, 0, [])), (13, (.iconst 0, 14, 0, 0, [])), (14, (.iastore, 15, 0, 0, [])), (15, (.iinc 1 1, 18, 0, 1, [])), (18, (.goto (-16), 21, 2, 0, [])), (21, (.aload_n 0, 22, 0, 0, [])), (22, (.iconst 0, 23, 0, 0, [])), (23, (.putfield 83, 26, 0, 0, [])), (26, (.aload_n 0, 27, 0, 0, [])), (27, (.iconst 0, 28, 0, 0, [])), (28, (.putfield 74, 31, 0, 0, [])), (31, (.iconst 0, 32, 0, 0, [])), (32, (.istore_n 1, 33, 0, 0, [])), (33, (.iconst 0, 34, 0, 0, [])), (34, (.istore_n 2, 35, 0, 0, [])), (35, (.iload_n 2, 36, 0, 0, [])), (36, (.bipush 65, 38, 0, 65, [])), (38, (.if_icmp .ge 27, 41, 65, 0, [])), (41, (.iload_n 1, 42, 0, 0, [])), (42, (.ifCond .lt 23, 45, 65, 0, [])), (45, (.iload_n 1, 46, 0, 0, [])), (46, (.aload_n 0, 47, 0, 0, [])), (47, (.getfield 56, 50, 0, 0, [])), (50, (.if_icmp .ge 15, 53, 65, 0, [])), (53, (.aload_n 0, 54, 0, 0, [])), (54, (.iload_n 1, 55, 0, 0, [])), (55, (.invokevirtual 92, 58, 0, 0, [])), (58, (.istore_n 1, 59, 0, 0, [])), (59, (.iinc 2 1, 62, 0, 1, [])), (62, (.goto (-27), 65, 35, 0, [])), (65, (.iload_n 1, 66, 0, 0, [])), (66, (.ifCond .lt 10, 69, 76, 0, [])), (69, (.aload_n 0, 70, 0, 0, [])), (70, (.getfield 74, 73, 0, 0, [])), (73, (.ifCond .le 5, 76, 78, 0, [])), (76, (.iconst 0, 77, 0, 0, [])), (77, (.ireturn, 78, 0, 0, [])), (78, (.aload_n 0, 79, 0, 0, [])), (79, (.getfield 17, 82, 0, 0, [])), (82, (.aload_n 0, 83, 0, 0, [])), (83, (.getfield 56, 86, 0, 0, [])), (86, (.bipush 8, 88, 0, 8, [])), (88, (.iastore, 89, 0, 0, [])), (89, (.iconst 1, 90, 0, 1, [])), (90, (.ireturn, 91, 0, 0, []))]
def F_M_program : List (Nat × XF) := [(17, (4, 3, .array .int, false)), (83, (4, 8, .int, true)), (74, (4, 9, .int, true)), (56, (4, 1, .int, true))]
def C_M_program : List (Nat × XK) := [(92, (q_M_part, true, 1, 4))]
theorem okT_M_program : T_M_program.all (fun e => xgood q_M_program.2.1 e.1 e.2) = true := by decide +kernel
theorem okF_M_program : ∀ e ∈ F_M_program, xfok q_M_program.1.cls e.1 e.2 := List.forall_mem_cons.mpr ⟨⟨R_M, F_M, 27, rfl, by decide, t_M_ok 3 (by decide), (fun h => Bool.noConfusion h), tb2 (i := 203) rfl rfl⟩, List.forall_mem_cons.mpr ⟨⟨R_M, F_M, 27, rfl, by decide, t_M_ok 8 (by decide), (fun _ => rfl), tb2 (i := 208) rfl rfl⟩, List.forall_mem_cons.mpr ⟨⟨R_M, F_M, 27, rfl, by decide, t_M_ok 9 (by decide), (fun _ => rfl), tb2 (i := 209) rfl rfl⟩, List.forall_mem_cons.mpr ⟨⟨R_M, F_M, 27, rfl, by decide, t_M_ok 1 (by decide), (fun _ => rfl), tb2 (i := 201) rfl rfl⟩, fun _ h => absurd h List.not_mem_nil⟩⟩⟩⟩
theorem okC_M_program : ∀ e ∈ C_M_program, xcok q_M_program.1.cls e.1 e.2 := List.forall_mem_cons.mpr ⟨⟨tb3 (i := 69) rfl rfl, tb1 (i := 6) rfl rfl, ⟨by decide, by decide, by decide +kernel⟩, by decide, tb3 (i := 66) rfl rfl, tb3 (i := 68) rfl rfl, tbS3 (i := 5) rfl, F_M, 27, rfl⟩, fun _ h => absurd h List.not_mem_nil⟩
theorem ok_M_program : XOk q_M_program T_M_program F_M_program C_M_program := ⟨okT_M_program, okF_M_program, okC_M_program⟩
def T_M_statements : List (Nat × XE) := [(0, (.aload_n 0, 1, 0, 0, [])), (1, (.invokevirtual 95, 4, 0, 0, [])), (4, (.ifCond .eq 10, 7, 14, 0, [])), (7, (.aload_n 0, 8, 0, 0, [])), (8, (.getfield 83, 11, 0, 0, [])), (11, (.goto 4, 14, 15, 0, [])), (14, (.iconst (-1), 15, 0, (-1), [])), (15, (.ireturn, 16, 0, 0, []))]
def F_M_statements : List (Nat × XF) := [(83, (4, 8, .int, true))]
def C_M_statements : List (Nat × XK) := [(95, (q_M_program, true, 0, 4))]
theorem okT_M_statements : T_M_statements.all (fun e => xgood q_M_statements.2.1 e.1 e.2) = true := by decide +kernel
theorem okF_M_statements : ∀ e ∈ F_M_statements, xfok q_M_statements.1.cls e.1 e.2 := List.forall_mem_cons.mpr ⟨⟨R_M, F_M, 27, rfl, by decide, t_M_ok 8 (by decide), (fun _ => rfl), tb2 (i := 208) rfl rfl⟩, fun _ h => absurd h List.not_mem_nil⟩
theorem okC_M_statements : ∀ e ∈ C_M_statements, xcok q_M_statements.1.cls e.1 e.2 := List.forall_mem_cons.mpr ⟨⟨tb3 (i := 65) rfl rfl, tb1 (i := 6) rfl rfl, ⟨by decide, by decide, by decide +kernel⟩, by decide, tb3 (i := 62) rfl rfl, tb3 (i := 64) rfl rfl, tbS3 (i := 4) rfl, F_M, 27, rfl⟩, fun _ h => absurd h List.not_mem_nil⟩
theorem ok_M_statements : XOk q_M_statements T_M_statements F_M_statements C_M_statements := ⟨okT_M_statements, okF_M_statements, okC_M_statements⟩
def T_M_counts : List (Nat × XE) := [(0, (.iload_n 1, 1, 0, 0, [])), (1, (.ifCond .lt 31, 4, 32, 0, [])), (4, (.iload_n 1, 5, 0, 0, [])), (5, (.aload_n 0, 6, 0, 0, [])), (6, (.getfield 56, 9, 0, 0, [])), (9, (.if_icmp .gt 23, 12, 32, 0, [])), (12, (.aload_n 0, 13, 0, 0, [])), (13, (.invokevirtual 95, 16, 0, 0, [])), (16, (.ifCond .eq 16, 19, 32, 0, [])), (19, (.aload_n 0, 20, 0, 0, [])), (20, (.getfield 17, 23, 0, 0, [])), (23, (.iload_n 1, 24, 0, 0, [])), (24, (.iaload, 25, 0, 0, [])), (25, (.ifCond .le 7, 28, 32, 0, [])), (28, (.iconst 1, 29, 0, 1, [])), (29, (.goto 4, 32, 33, 0, [])), (32, (.iconst 0, 33, 0, 0, [])), (33, (.ireturn, 34, 0, 0, []))]
def F_M_counts : List (Nat × XF) := [(56, (4, 1, .int, true)), (17, (4, 3, .array .int, false))]
def C_M_counts : List (Nat × XK) := [(95, (q_M_program, true, 0, 4))]
theorem okT_M_counts : T_M_counts.all (fun e => xgood q_M_counts.2.1 e.1 e.2) = true := by decide +kernel
theorem okF_M_counts : ∀ e ∈ F_M_counts, xfok q_M_counts.1.cls e.1 e.2 := List.forall_mem_cons.mpr ⟨⟨R_M, F_M, 27, rfl, by decide, t_M_ok 1 (by decide), (fun _ => rfl), tb2 (i := 201) rfl rfl⟩, List.forall_mem_cons.mpr ⟨⟨R_M, F_M, 27, rfl, by decide, t_M_ok 3 (by decide), (fun h => Bool.noConfusion h), tb2 (i := 203) rfl rfl⟩, fun _ h => absurd h List.not_mem_nil⟩⟩
theorem okC_M_counts : ∀ e ∈ C_M_counts, xcok q_M_counts.1.cls e.1 e.2 := List.forall_mem_cons.mpr ⟨⟨tb3 (i := 65) rfl rfl, tb1 (i := 6) rfl rfl, ⟨by decide, by decide, by decide +kernel⟩, by decide, tb3 (i := 62) rfl rfl, tb3 (i := 64) rfl rfl, tbS3 (i := 4) rfl, F_M, 27, rfl⟩, fun _ h => absurd h List.not_mem_nil⟩
theorem ok_M_counts : XOk q_M_counts T_M_counts F_M_counts C_M_counts := ⟨okT_M_counts, okF_M_counts, okC_M_counts⟩
def T_M_goes : List (Nat × XE) := [(0, (.iload_n 1, 1, 0, 0, [])), (1, (.istore_n 2, 2, 0, 0, [])), (2, (.iconst 0, 3, 0, 0, [])), (3, (.istore_n 3, 4, 0, 0, [])), (4, (.iload_n 3, 5, 0, 0, [])), (5, (.bipush 65, 7, 0, 65, [])), (7, (.if_icmp .ge 52, 10, 59, 0, [])), (10, (.aload_n 0, 11, 0, 0, [])), (11, (.getfield 17, 14, 0, 0, [])), (14, (.iload_n 2, 15, 0, 0, [])), (15, (.iaload, 16, 0, 0, [])), (16, (.ifCond .le 5, 19, 21, 0, [])), (19, (.iload_n 2, 20, 0, 0, [])), (20, (.ireturn, 21, 0, 0, [])), (21, (.aload_n 0, 22, 0, 0, [])), (22, (.getfield 20, 25, 0, 0, [])), (25, (.iload_n 2, 26, 0, 0, [])), (26, (.iaload, 27, 0, 0, [])), (27, (.istore 4, 29, 0, 0, [])), (29, (.aload_n 0, 30, 0, 0, [])), (30, (.getfield 17, 33, 0, 0, [])), (33, (.iload 4, 35, 0, 0, [])), (35, (.iaload, 36, 0, 0, [])), (36, (.iconst 4, 37, 0, 4, [])), (37, (.if_icmp .ne 8, 40, 45, 0, [])), (40, (.iload 4, 42, 0, 0, [])), (42, (.iconst 1, 43, 0, 1, [])), (43, (.iadd, 44, 0, 0, [])), (44, (.ireturn, 45, 0, 0, [])), (45, (.aload_n 0, 46, 0, 0, [])), (46, (.getfield 29, 49, 0, 0, [])), (49, (.iload 4, 51, 0, 0, [])), (51, (.iaload, 52, 0, 0, [])), (52, (.istore_n 2, 53, 0, 0, [])), (53, (.iinc 3 1, 56, 0, 1, [])), (56, (.goto (-52), 59, 4, 0, [])), (59, (.aload_n 0, 60, 0, 0, [])), (60, (.getfield 56, 63, 0, 0, [])), (63, (.ireturn, 64, 0, 0, []))]
def F_M_goes : List (Nat × XF) := [(17, (4, 3, .array .int, false)), (20, (4, 4, .array .int, false)), (29, (4, 7, .array .int, false)), (56, (4, 1, .int, true))]
def C_M_goes : List (Nat × XK) := []
theorem okT_M_goes : T_M_goes.all (fun e => xgood q_M_goes.2.1 e.1 e.2) = true := by decide +kernel
theorem okF_M_goes : ∀ e ∈ F_M_goes, xfok q_M_goes.1.cls e.1 e.2 := List.forall_mem_cons.mpr ⟨⟨R_M, F_M, 27, rfl, by decide, t_M_ok 3 (by decide), (fun h => Bool.noConfusion h), tb2 (i := 203) rfl rfl⟩, List.forall_mem_cons.mpr ⟨⟨R_M, F_M, 27, rfl, by decide, t_M_ok 4 (by decide), (fun h => Bool.noConfusion h), tb2 (i := 204) rfl rfl⟩, List.forall_mem_cons.mpr ⟨⟨R_M, F_M, 27, rfl, by decide, t_M_ok 7 (by decide), (fun h => Bool.noConfusion h), tb2 (i := 207) rfl rfl⟩, List.forall_mem_cons.mpr ⟨⟨R_M, F_M, 27, rfl, by decide, t_M_ok 1 (by decide), (fun _ => rfl), tb2 (i := 201) rfl rfl⟩, fun _ h => absurd h List.not_mem_nil⟩⟩⟩⟩
theorem okC_M_goes : ∀ e ∈ C_M_goes, xcok q_M_goes.1.cls e.1 e.2 := fun _ h => absurd h List.not_mem_nil
theorem ok_M_goes : XOk q_M_goes T_M_goes F_M_goes C_M_goes := ⟨okT_M_goes, okF_M_goes, okC_M_goes⟩
def T_M_turn : List (Nat × XE) := [(0, (.aload_n 0, 1, 0, 0, [])), (1, (.iload_n 1, 2, 0, 0, [])), (2, (.invokevirtual 71, 5, 0, 0, [])), (5, (.istore_n 3, 6, 0, 0, [])), (6, (.aload_n 0, 7, 0, 0, [])), (7, (.getfield 20, 10, 0, 0, [])), (10, (.iload_n 1, 11, 0, 0, [])), (11, (.iaload, 12, 0, 0, [])), (12, (.istore 4, 14, 0, 0, [])), (14, (.iload_n 2, 15, 0, 0, [])), (15, (.ifCond .eq 31, 18, 46, 0, [])), (18, (.aload_n 0, 19, 0, 0, [])), (19, (.iload_n 3, 20, 0, 0, [])), (20, (.invokevirtual 60, 23, 0, 0, [])), (23, (.bipush 38, 25, 0, 38, [])), (25, (.if_icmp .ne 9, 28, 34, 0, [])), (28, (.iload_n 3, 29, 0, 0, [])), (29, (.iconst 1, 30, 0, 1, [])), (30, (.iadd, 31, 0, 0, [])), (31, (.goto 14, 34, 45, 0, [])), (34, (.aload_n 0, 35, 0, 0, [])), (35, (.aload_n 0, 36, 0, 0, [])), (36, (.getfield 23, 39, 0, 0, [])), (39, (.iload 4, 41, 0, 0, [])), (41, (.iaload, 42, 0, 0, [])), (42, (.invokevirtual 99, 45, 0, 0, [])), (45, (.ireturn, 46, 0, 0, [])), (46, (.iconst 0, 47, 0, 0, [])), (47, (.istore 5, 49, 0, 0, [])), (49, (.iload 5, 51, 0, 0, [])), (51, (.bipush 64, 53, 0, 64, [])), (53, (.if_icmp .ge 27, 56, 80, 0, [])), (56, (.aload_n 0, 57, 0, 0, [])), (57, (.iload_n 3, 58, 0, 0, [])), (58, (.invokevirtual 60, 61, 0, 0, [])), (61, (.bipush 38, 63, 0, 38, [])), (63, (.if_icmp .ne 17, 66, 80, 0, [])), (66, (.aload_n 0, 67, 0, 0, [])), (67, (.iload_n 3, 68, 0, 0, [])), (68, (.iconst 1, 69, 0, 1, [])), (69, (.iadd, 70, 0, 0, [])), (70, (.invokevirtual 71, 73, 0, 0, [])), (73, (.istore_n 3, 74, 0, 0, [])), (74, (.iinc 5 1, 77, 0, 1, [])), (77, (.goto (-28), 80, 49, 0, [])), (80, (.aload_n 0, 81, 0, 0, [])), (81, (.iload_n 3, 82, 0, 0, [])), (82, (.invokevirtual 60, 85, 0, 0, [])), (85, (.bipush 124, 87, 0, 124, [])), (87, (.if_icmp .ne 7, 90, 94, 0, [])), (90, (.iload_n 3, 91, 0, 0, [])), (91, (.iconst 1, 92, 0, 1, [])), (92, (.iadd, 93, 0, 0, [])), (93, (.ireturn, 94, 0, 0, [])), (94, (.aload_n 0, 95, 0, 0, [])), (95, (.aload_n 0, 96, 0, 0, [])), (96, (.getfield 17, 99, 0, 0, [])), (99, (.iload 4, 101, 0, 0, [])), (101, (.iaload, 102, 0, 0, [])), (102, (.iconst 3, 103, 0, 3, [])), (103, (.if_icmp .ne 23, 106, 126, 0, [])), (106, (.aload_n 0, 107, 0, 0, [])), (107, (.getfield 26, 110, 0, 0, [])), (110, (.iload 4, 112, 0, 0, [])), (112, (.iaload, 113, 0, 0, [])), (113, (.ifCond .le 13, 116, 126, 0, [])), (116, (.aload_n 0, 117, 0, 0, [])), (117, (.getfield 26, 120, 0, 0, [])), (120, (.iload 4, 122, 0, 0, [])), (122, (.iaload, 123, 0, 0, [])), (123, (.goto 10, 126, 133, 0, [])), (126, (.aload_n 0, 127, 0, 0, [])), (127, (.getfield 29, 130, 0, 0, [])), (130, (.iload 4, 132, 0, 0, [])), (132, (.iaload, 133, 0, 0, [])), (133, (.invokevirtual 99, 136, 0, 0, [])), (136, (.ireturn, 137, 0, 0, []))]
def F_M_turn : List (Nat × XF) := [(20, (4, 4, .array .int, false)), (23, (4, 5, .array .int, false)), (17, (4, 3, .array .int, false)), (26, (4, 6, .array .int, false)), (29, (4, 7, .array .int, false))]
def C_M_turn : List (Nat × XK) := [(71, (q_M_atom, true, 1, 4)), (60, (q_M_at, true, 1, 4)), (99, (q_M_goes, true, 1, 4))]
theorem okT_M_turn : T_M_turn.all (fun e => xgood q_M_turn.2.1 e.1 e.2) = true := by decide +kernel
theorem okF_M_turn : ∀ e ∈ F_M_turn, xfok q_M_turn.1.cls e.1 e.2 := List.forall_mem_cons.mpr ⟨⟨R_M, F_M, 27, rfl, by decide, t_M_ok 4 (by decide), (fun h => Bool.noConfusion h), tb2 (i := 204) rfl rfl⟩, List.forall_mem_cons.mpr ⟨⟨R_M, F_M, 27, rfl, by decide, t_M_ok 5 (by decide), (fun h => Bool.noConfusion h), tb2 (i := 205) rfl rfl⟩, List.forall_mem_cons.mpr ⟨⟨R_M, F_M, 27, rfl, by decide, t_M_ok 3 (by decide), (fun h => Bool.noConfusion h), tb2 (i := 203) rfl rfl⟩, List.forall_mem_cons.mpr ⟨⟨R_M, F_M, 27, rfl, by decide, t_M_ok 6 (by decide), (fun h => Bool.noConfusion h), tb2 (i := 206) rfl rfl⟩, List.forall_mem_cons.mpr ⟨⟨R_M, F_M, 27, rfl, by decide, t_M_ok 7 (by decide), (fun h => Bool.noConfusion h), tb2 (i := 207) rfl rfl⟩, fun _ h => absurd h List.not_mem_nil⟩⟩⟩⟩⟩
theorem okC_M_turn : ∀ e ∈ C_M_turn, xcok q_M_turn.1.cls e.1 e.2 := List.forall_mem_cons.mpr ⟨⟨tb3 (i := 89) rfl rfl, tb1 (i := 6) rfl rfl, ⟨by decide, by decide, by decide +kernel⟩, by decide, tb3 (i := 86) rfl rfl, tb3 (i := 88) rfl rfl, tbS3 (i := 10) rfl, F_M, 27, rfl⟩, List.forall_mem_cons.mpr ⟨⟨tb3 (i := 73) rfl rfl, tb1 (i := 6) rfl rfl, ⟨by decide, by decide, by decide +kernel⟩, by decide, tb3 (i := 70) rfl rfl, tb3 (i := 72) rfl rfl, tbS3 (i := 6) rfl, F_M, 27, rfl⟩, List.forall_mem_cons.mpr ⟨⟨tb3 (i := 136) rfl rfl, tb1 (i := 6) rfl rfl, ⟨by decide, by decide, by decide +kernel⟩, by decide, tb3 (i := 133) rfl rfl, tb3 (i := 135) rfl rfl, tbS4 (i := 4) rfl, F_M, 27, rfl⟩, fun _ h => absurd h List.not_mem_nil⟩⟩⟩
theorem ok_M_turn : XOk q_M_turn T_M_turn F_M_turn C_M_turn := ⟨okT_M_turn, okF_M_turn, okC_M_turn⟩
def T_M_join : List (Nat × XE) := [(0, (.aload_n 0, 1, 0, 0, [])), (1, (.getfield 35, 4, 0, 0, [])), (4, (.iload_n 1, 5, 0, 0, [])), (5, (.baload, 6, 0, 0, [])), (6, (.istore_n 2, 7, 0, 0, [])), (7, (.iload_n 2, 8, 0, 0, [])), (8, (.ifCond .eq 17, 11, 25, 0, [])), (11, (.aload_n 0, 12, 0, 0, [])), (12, (.getfield 38, 15, 0, 0, [])), (15, (.iload_n 1, 16, 0, 0, [])), (16, (.iaload, 17, 0, 0, [])), (17, (.aload_n 0, 18, 0, 0, [])), (18, (.getfield 102, 21, 0, 0, [])), (21, (.iand, 22, 0, 0, [])), (22, (.goto 7, 25, 29, 0, [])), (25, (.aload_n 0, 26, 0, 0, [])), (26, (.getfield 102, 29, 0, 0, [])), (29, (.istore_n 3, 30, 0, 0, [])), (30, (.iload_n 2, 31, 0, 0, [])), (31, (.ifCond .eq 17, 34, 48, 0, [])), (34, (.aload_n 0, 35, 0, 0, [])), (35, (.getfield 41, 38, 0, 0, [])), (38, (.iload_n 1, 39, 0, 0, [])), (39, (.iaload, 40, 0, 0, [])), (40, (.aload_n 0, 41, 0, 0, [])), (41, (.getfield 105, 44, 0, 0, [])), (44, (.iand, 45, 0, 0, [])), (45, (.goto 7, 48, 52, 0, [])), (48, (.aload_n 0, 49, 0, 0, [])), (49, (.getfield 105, 52, 0, 0, [])), (52, (.istore 4, 54, 0, 0, [])), (54, (.aload_n 0, 55, 0, 0, [])), (55, (.aload_n 0, 56, 0, 0, [])), (56, (.getfield 108, 59, 0, 0, [])), (59, (.ifCond .ne 28, 62, 87, 0, [])), (62, (.iload_n 2, 63, 0, 0, [])), (63, (.ifCond .eq 24, 66, 87, 0, [])), (66, (.iload_n 3, 67, 0, 0, [])), (67, (.aload_n 0, 68, 0, 0, [])), (68, (.getfield 38, 71, 0, 0, [])), (71, (.iload_n 1, 72, 0, 0, [])), (72, (.iaload, 73, 0, 0, [])), (73, (.if_icmp .ne 14, 76, 87, 0, [])), (76, (.iload 4, 78, 0, 0, [])), (78, (.aload_n 0, 79, 0, 0, [])), (79, (.getfield 41, 82, 0, 0, [])), (82, (.iload_n 1, 83, 0, 0, [])), (83, (.iaload, 84, 0, 0, [])), (84, (.if_icmp .eq 7, 87, 91, 0, [])), (87, (.iconst 1, 88, 0, 1, [])), (88, (.goto 4, 91, 92, 0, [])), (91, (.iconst 0, 92, 0, 0, [])), (92, (.putfield 108, 95, 0, 0, [])), (95, (.aload_n 0, 96, 0, 0, [])), (96, (.getfield 35, 99, 0, 0, [])), (99, (.iload_n 1, 100, 0, 0, [])), (100, (.iconst 1, 101, 0, 1, [])), (101, (.bastore, 102, 0, 0, [])), (102, (.aload_n 0, 103, 0, 0, [])), (103, (.getfield 38, 106, 0, 0, [])), (106, (.iload_n 1, 107, 0, 0, [])), (107, (.iload_n 3, 108, 0, 0, [])), (108, (.iastore, 109, 0, 0, [])), (109, (.aload_n 0, 110, 0, 0, [])), (110, (.getfield 41, 113, 0, 0, [])), (113, (.iload_n 1, 114, 0, 0, [])), (114, (.iload 4, 116, 0, 0, [])), (116, (.iastore, 117, 0, 0, [])), (117, (.return_, 118, 0, 0, []))]
def F_M_join : List (Nat × XF) := [(35, (4, 11, .array .boolean, false)), (38, (4, 12, .array .int, false)), (102, (4, 15, .int, true)), (41, (4, 13, .array .int, false)), (105, (4, 16, .int, true)), (108, (4, 18, .boolean, true))]
def C_M_join : List (Nat × XK) := []
theorem okT_M_join : T_M_join.all (fun e => xgood q_M_join.2.1 e.1 e.2) = true := by decide +kernel
theorem okF_M_join : ∀ e ∈ F_M_join, xfok q_M_join.1.cls e.1 e.2 := List.forall_mem_cons.mpr ⟨⟨R_M, F_M, 27, rfl, by decide, t_M_ok 11 (by decide), (fun h => Bool.noConfusion h), tb2 (i := 211) rfl rfl⟩, List.forall_mem_cons.mpr ⟨⟨R_M, F_M, 27, rfl, by decide, t_M_ok 12 (by decide), (fun h => Bool.noConfusion h), tb2 (i := 212) rfl rfl⟩, List.forall_mem_cons.mpr ⟨⟨R_M, F_M, 27, rfl, by decide, t_M_ok 15 (by decide), (fun _ => rfl), tb2 (i := 215) rfl rfl⟩, List.forall_mem_cons.mpr ⟨⟨R_M, F_M, 27, rfl, by decide, t_M_ok 13 (by decide), (fun h => Bool.noConfusion h), tb2 (i := 213) rfl rfl⟩, List.forall_mem_cons.mpr ⟨⟨R_M, F_M, 27, rfl, by decide, t_M_ok 16 (by decide), (fun _ => rfl), tb2 (i := 216) rfl rfl⟩, List.forall_mem_cons.mpr ⟨⟨R_M, F_M, 27, rfl, by decide, t_M_ok 18 (by decide), (fun _ => rfl), tb2 (i := 218) rfl rfl⟩, fun _ h => absurd h List.not_mem_nil⟩⟩⟩⟩⟩⟩
theorem okC_M_join : ∀ e ∈ C_M_join, xcok q_M_join.1.cls e.1 e.2 := fun _ h => absurd h List.not_mem_nil
theorem ok_M_join : XOk q_M_join T_M_join F_M_join C_M_join := ⟨okT_M_join, okF_M_join, okC_M_join⟩
def T_M_has : List (Nat × XE) := [(0, (.iload_n 0, 1, 0, 0, [])), (1, (.iload_n 1, 2, 0, 0, [])), (2, (.ishr, 3, 0, 0, [])), (3, (.iconst 1, 4, 0, 1, [])), (4, (.iand, 5, 0, 0, [])), (5, (.iconst 1, 6, 0, 1, [])), (6, (.if_icmp .ne 7, 9, 13, 0, [])), (9, (.iconst 1, 10, 0, 1, [])), (10, (.goto 4, 13, 14, 0, [])), (13, (.iconst 0, 14, 0, 0, [])), (14, (.ireturn, 15, 0, 0, []))]
def F_M_has : List (Nat × XF) := []
def C_M_has : List (Nat × XK) := []
theorem okT_M_has : T_M_has.all (fun e => xgood q_M_has.2.1 e.1 e.2) = true := by decide +kernel
theorem okF_M_has : ∀ e ∈ F_M_has, xfok q_M_has.1.cls e.1 e.2 := fun _ h => absurd h List.not_mem_nil
theorem okC_M_has : ∀ e ∈ C_M_has, xcok q_M_has.1.cls e.1 e.2 := fun _ h => absurd h List.not_mem_nil
theorem ok_M_has : XOk q_M_has T_M_has F_M_has C_M_has := ⟨okT_M_has, okF_M_has, okC_M_has⟩
def T_M_use : List (Nat × XE) := [(0, (.aload_n 0, 1, 0, 0, [])), (1, (.aload_n 0, 2, 0, 0, [])), (2, (.getfield 102, 5, 0, 0, [])), (5, (.iload_n 1, 6, 0, 0, [])), (6, (.invokestatic 112, 9, 0, 0, [])), (9, (.ifCond .eq 10, 12, 19, 0, [])), (12, (.aload_n 0, 13, 0, 0, [])), (13, (.getfield 116, 16, 0, 0, [])), (16, (.goto 9, 19, 25, 0, [])), (19, (.aload_n 0, 20, 0, 0, [])), (20, (.getfield 116, 23, 0, 0, [])), (23, (.iconst 1, 24, 0, 1, [])), (24, (.ior, 25, 0, 0, [])), (25, (.putfield 116, 28, 0, 0, [])), (28, (.aload_n 0, 29, 0, 0, [])), (29, (.aload_n 0, 30, 0, 0, [])), (30, (.getfield 102, 33, 0, 0, [])), (33, (.iconst 1, 34, 0, 1, [])), (34, (.iload_n 1, 35, 0, 0, [])), (35, (.ishl, 36, 0, 0, [])), (36, (.ior, 37, 0, 0, [])), (37, (.putfield 102, 40, 0, 0, [])), (40, (.return_, 41, 0, 0, []))]
def F_M_use : List (Nat × XF) := [(102, (4, 15, .int, true)), (116, (4, 17, .int, true))]
def C_M_use : List (Nat × XK) := [(112, (q_M_has, false, 2, 4))]
theorem okT_M_use : T_M_use.all (fun e => xgood q_M_use.2.1 e.1 e.2) = true := by decide +kernel
theorem okF_M_use : ∀ e ∈ F_M_use, xfok q_M_use.1.cls e.1 e.2 := List.forall_mem_cons.mpr ⟨⟨R_M, F_M, 27, rfl, by decide, t_M_ok 15 (by decide), (fun _ => rfl), tb2 (i := 215) rfl rfl⟩, List.forall_mem_cons.mpr ⟨⟨R_M, F_M, 27, rfl, by decide, t_M_ok 17 (by decide), (fun _ => rfl), tb2 (i := 217) rfl rfl⟩, fun _ h => absurd h List.not_mem_nil⟩⟩
theorem okC_M_use : ∀ e ∈ C_M_use, xcok q_M_use.1.cls e.1 e.2 := List.forall_mem_cons.mpr ⟨⟨tb3 (i := 128) rfl rfl, tb1 (i := 6) rfl rfl, ⟨by decide, by decide, by decide +kernel⟩, by decide, tb3 (i := 126) rfl rfl, tb3 (i := 127) rfl rfl, fun h => absurd h (by decide)⟩, fun _ h => absurd h List.not_mem_nil⟩
theorem ok_M_use : XOk q_M_use T_M_use F_M_use C_M_use := ⟨okT_M_use, okF_M_use, okC_M_use⟩
def T_M_sureValue : List (Nat × XE) := [(0, (.aload_n 0, 1, 0, 0, [])), (1, (.iload_n 1, 2, 0, 0, [])), (2, (.invokevirtual 60, 5, 0, 0, [])), (5, (.istore_n 2, 6, 0, 0, [])), (6, (.iload_n 2, 7, 0, 0, [])), (7, (.bipush 64, 9, 0, 64, [])), (9, (.if_icmp .ne 8, 12, 17, 0, [])), (12, (.aload_n 0, 13, 0, 0, [])), (13, (.iconst 0, 14, 0, 0, [])), (14, (.putfield 105, 17, 0, 0, [])), (17, (.aload_n 0, 18, 0, 0, [])), (18, (.iload_n 1, 19, 0, 0, [])), (19, (.invokevirtual 64, 22, 0, 0, [])), (22, (.ifCond .ne 15, 25, 37, 0, [])), (25, (.iload_n 2, 26, 0, 0, [])), (26, (.bipush 78, 28, 0, 78, [])), (28, (.if_icmp .ne 7, 31, 35, 0, [])), (31, (.iconst 1, 32, 0, 1, [])), (32, (.goto 4, 35, 36, 0, [])), (35, (.iconst 0, 36, 0, 0, [])), (36, (.ireturn, 37, 0, 0, [])), (37, (.iload_n 2, 38, 0, 0, [])), (38, (.bipush 97, 40, 0, 97, [])), (40, (.isub, 41, 0, 0, [])), (41, (.istore_n 3, 42, 0, 0, [])), (42, (.aload_n 0, 43, 0, 0, [])), (43, (.iload_n 1, 44, 0, 0, [])), (44, (.iconst 1, 45, 0, 1, [])), (45, (.iadd, 46, 0, 0, [])), (46, (.invokevirtual 68, 49, 0, 0, [])), (49, (.ifCond .ne 12, 52, 61, 0, [])), (52, (.aload_n 0, 53, 0, 0, [])), (53, (.getfield 102, 56, 0, 0, [])), (56, (.iload_n 3, 57, 0, 0, [])), (57, (.invokestatic 112, 60, 0, 0, [])), (60, (.ireturn, 61, 0, 0, [])), (61, (.aload_n 0, 62, 0, 0, [])), (62, (.iload_n 3, 63, 0, 0, [])), (63, (.invokevirtual 119, 66, 0, 0, [])), (66, (.aload_n 0, 67, 0, 0, [])), (67, (.iload_n 1, 68, 0, 0, [])), (68, (.iconst 2, 69, 0, 2, [])), (69, (.iadd, 70, 0, 0, [])), (70, (.invokevirtual 60, 73, 0, 0, [])), (73, (.bipush 103, 75, 0, 103, [])), (75, (.if_icmp .eq 14, 78, 89, 0, [])), (78, (.aload_n 0, 79, 0, 0, [])), (79, (.getfield 105, 82, 0, 0, [])), (82, (.iload_n 3, 83, 0, 0, [])), (83, (.invokestatic 112, 86, 0, 0, [])), (86, (.ifCond .eq 7, 89, 93, 0, [])), (89, (.iconst 1, 90, 0, 1, [])), (90, (.goto 4, 93, 94, 0, [])), (93, (.iconst 0, 94, 0, 0, [])), (94, (.ireturn, 95, 0, 0, []))]
def F_M_sureValue : List (Nat × XF) := [(105, (4, 16, .int, true)), (102, (4, 15, .int, true))]
def C_M_sureValue : List (Nat × XK) := [(60, (q_M_at, true, 1, 4)), (64, (q_M_isLocal, true, 1, 4)), (68, (q_M_isField, true, 1, 4)), (112, (q_M_has, false, 2, 4)), (119, (q_M_use, true, 1, 4))]
theorem okT_M_sureValue : T_M_sureValue.all (fun e => xgood q_M_sureValue.2.1 e.1 e.2) = true := by decide +kernel
theorem okF_M_sureValue : ∀ e ∈ F_M_sureValue, xfok q_M_sureValue.1.cls e.1 e.2 := List.forall_mem_cons.mpr ⟨⟨R_M, F_M, 27, rfl, by decide, t_M_ok 16 (by decide), (fun _ => rfl), tb2 (i := 216) rfl rfl⟩, List.forall_mem_cons.mpr ⟨⟨R_M, F_M, 27, rfl, by decide, t_M_ok 15 (by decide), (fun _ => rfl), tb2 (i := 215) rfl rfl⟩, fun _ h => absurd h List.not_mem_nil⟩⟩
theorem okC_M_sureValue : ∀ e ∈ C_M_sureValue, xcok q_M_sureValue.1.cls e.1 e.2 := List.forall_mem_cons.mpr ⟨⟨tb3 (i := 73) rfl rfl, tb1 (i := 6) rfl rfl, ⟨by decide, by decide, by decide +kernel⟩, by decide, tb3 (i := 70) rfl rfl, tb3 (i := 72) rfl rfl, tbS3 (i := 6) rfl, F_M, 27, rfl⟩, List.forall_mem_cons.mpr ⟨⟨tb3 (i := 93) rfl rfl, tb1 (i := 6) rfl rfl, ⟨by decide, by decide, by decide +kernel⟩, by decide, tb3 (i := 90) rfl rfl, tb3 (i := 92) rfl rfl, tbS3 (i := 11) rfl, F_M, 27, rfl⟩, List.forall_mem_cons.mpr ⟨⟨tb3 (i := 97) rfl rfl, tb1 (i := 6) rfl rfl, ⟨by decide, by decide, by decide +kernel⟩, by decide, tb3 (i := 94) rfl rfl, tb3 (i := 96) rfl rfl, tbS3 (i := 12) rfl, F_M, 27, rfl⟩, List.forall_mem_cons.mpr ⟨⟨tb3 (i := 128) rfl rfl, tb1 (i := 6) rfl rfl, ⟨by decide, by decide, by decide +kernel⟩, by decide, tb3 (i := 126) rfl rfl, tb3 (i := 127) rfl rfl, fun h => absurd h (by decide)⟩, List.forall_mem_cons.mpr ⟨⟨tb3 (i := 125) rfl rfl, tb1 (i := 6) rfl rfl, ⟨by decide, by decide, by decide +kernel⟩, by decide, tb3 (i := 122) rfl rfl, tb3 (i := 124) rfl rfl, tbS4 (i := 2) rfl, F_M, 27, rfl⟩, fun _ h => absurd h List.not_mem_nil⟩⟩⟩⟩⟩
theorem ok_M_sureValue : XOk q_M_sureValue T_M_sureValue F_M_sureValue C_M_sureValue := ⟨okT_M_sureValue, okF_M_sureValue, okC_M_sureValue⟩
def T_M_assign : List (Nat × XE) := [(0, (.aload_n 0, 1, 0, 0, [])), (1, (.iload_n 1, 2, 0, 0, [])), (2, (.invokevirtual 60, 5, 0, 0, [])), (5, (.bipush 97, 7, 0, 97, [])), (7, (.isub, 8, 0, 0, [])), (8, (.istore_n 2, 9, 0, 0, [])), (9, (.aload_n 0, 10, 0, 0, [])), (10, (.iload_n 1, 11, 0, 0, [])), (11, (.iconst 2, 12, 0, 2, [])), (12, (.iadd, 13, 0, 0, [])), (13, (.invokevirtual 123, 16, 0, 0, [])), (16, (.istore_n 3, 17, 0, 0, [])), (17, (.aload_n 0, 18, 0, 0, [])), (18, (.iload_n 1, 19, 0, 0, [])), (19, (.iconst 2, 20, 0, 2, [])), (20, (.iadd, 21, 0, 0, [])), (21, (.invokevirtual 64, 24, 0, 0, [])), (24, (.ifCond .eq 17, 27, 41, 0, [])), (27, (.aload_n 0, 28, 0, 0, [])), (28, (.iload_n 1, 29, 0, 0, [])), (29, (.iconst 3, 30, 0, 3, [])), (30, (.iadd, 31, 0, 0, [])), (31, (.invokevirtual 68, 34, 0, 0, [])), (34, (.ifCond .ne 7, 37, 41, 0, [])), (37, (.iconst 1, 38, 0, 1, [])), (38, (.goto 4, 41, 42, 0, [])), (41, (.iconst 0, 42, 0, 0, [])), (42, (.istore 4, 44, 0, 0, [])), (44, (.iload 4, 46, 0, 0, [])), (46, (.ifCond .eq 27, 49, 73, 0, [])), (49, (.aload_n 0, 50, 0, 0, [])), (50, (.getfield 105, 53, 0, 0, [])), (53, (.aload_n 0, 54, 0, 0, [])), (54, (.iload_n 1, 55, 0, 0, [])), (55, (.iconst 2, 56, 0, 2, [])), (56, (.iadd, 57, 0, 0, [])), (57, (.invokevirtual 60, 60, 0, 0, [])), (60, (.bipush 97, 62, 0, 97, [])), (62, (.isub, 63, 0, 0, [])), (63, (.invokestatic 112, 66, 0, 0, [])), (66, (.ifCond .eq 7, 69, 73, 0, [])), (69, (.iconst 1, 70, 0, 1, [])), (70, (.goto 4, 73, 74, 0, [])), (73, (.iconst 0, 74, 0, 0, [])), (74, (.istore 5, 76, 0, 0, [])), (76, (.iload_n 3, 77, 0, 0, [])), (77, (.ifCond .ne 25, 80, 102, 0, [])), (80, (.aload_n 0, 81, 0, 0, [])), (81, (.getfield 13, 84, 0, 0, [])), (84, (.iload_n 2, 85, 0, 0, [])), (85, (.baload, 86, 0, 0, [])), (86, (.ifCond .eq 16, 89, 102, 0, [])), (89, (.aload_n 0, 90, 0, 0, [])), (90, (.aload_n 0, 91, 0, 0, [])), (91, (.getfield 116, 94, 0, 0, [])), (94, (.iconst 2, 95, 0, 2, [])), (95, (.ior, 96, 0, 0, [])), (96, (.putfield 116, 99, 0, 0, [])), (99, (.goto 32, 102, 131, 0, [])), (102, (.aload_n 0, 103, 0, 0, [])), (103, (.iload_n 3, 104, 0, 0, [])), (104, (.ifCond .eq 14, 107, 118, 0, [])), (107, (.aload_n 0, 108, 0, 0, [])), (108, (.getfield 102, 111, 0, 0, [])), (111, (.iconst 1, 112, 0, 1, [])), (112, (.iload_n 2, 113, 0, 0, [])), (113, (.ishl, 114, 0, 0, [])), (114, (.ior, 115, 0, 0, [])), (115, (.goto 13, 118, 128, 0, [])), (118, (.aload_n 0, 119, 0, 0, [])), (119, (.getfield 102, 122, 0, 0, [])), (122, (.iconst 1, 123, 0, 1, [])), (123, (.iload_n 2, 124, 0, 0, [])), (124, (.ishl, 125, 0, 0, [])), (125, (.iconst (-1), 126, 0, (-1), [])), (126, (.ixor, 127, 0, 0, [])), (127, (.iand, 128, 0, 0, [])), (128, (.putfield 102, 131, 0, 0, [])), (131, (.aload_n 0, 132, 0, 0, [])), (132, (.iload 5, 134, 0, 0, [])), (134, (.ifCond .eq 14, 137, 148, 0, [])), (137, (.aload_n 0, 138, 0, 0, [])), (138, (.getfield 105, 141, 0, 0, [])), (141, (.iconst 1, 142, 0, 1, [])), (142, (.iload_n 2, 143, 0, 0, [])), (143, (.ishl, 144, 0, 0, [])), (144, (.ior, 145, 0, 0, [])), (145, (.goto 13, 148, 158, 0, [])), (148, (.aload_n 0, 149, 0, 0, [])), (149, (.getfield 105, 152, 0, 0, [])), (152, (.iconst 1, 153, 0, 1, [])), (153, (.iload_n 2, 154, 0, 0, [])), (154, (.ishl, 155, 0, 0, [])), (155, (.iconst (-1), 156, 0, (-1), [])), (156, (.ixor, 157, 0, 0, [])), (157, (.iand, 158, 0, 0, [])), (158, (.putfield 105, 161, 0, 0, [])), (161, (.return_, 162, 0, 0, []))]
def F_M_assign : List (Nat × XF) := [(105, (4, 16, .int, true)), (13, (4, 2, .array .boolean, false)), (116, (4, 17, .int, true)), (102, (4, 15, .int, true))]
def C_M_assign : List (Nat × XK) := [(60, (q_M_at, true, 1, 4)), (123, (q_M_sureValue, true, 1, 4)), (64, (q_M_isLocal, true, 1, 4)), (68, (q_M_isField, true, 1, 4)), (112, (q_M_has, false, 2, 4))]
theorem okT_M_assign : T_M_assign.all (fun e => xgood q_M_assign.2.1 e.1 e.2) = true := by decide +kernel
theorem okF_M_assign : ∀ e ∈ F_M_assign, xfok q_M_assign.1.cls e.1 e.2 := List.forall_mem_cons.mpr ⟨⟨R_M, F_M, 27, rfl, by decide, t_M_ok 16 (by decide), (fun _ => rfl), tb2 (i := 216) rfl rfl⟩, List.forall_mem_cons.mpr ⟨⟨R_M, F_M, 27, rfl, by decide, t_M_ok 2 (by decide), (fun h => Bool.noConfusion h), tb2 (i := 202) rfl rfl⟩, List.forall_mem_cons.mpr ⟨⟨R_M, F_M, 27, rfl, by decide, t_M_ok 17 (by decide), (fun _ => rfl), tb2 (i := 217) rfl rfl⟩, List.forall_mem_cons.mpr ⟨⟨R_M, F_M, 27, rfl, by decide, t_M_ok 15 (by decide), (fun _ => rfl), tb2 (i := 215) rfl rfl⟩, fun _ h => absurd h List.not_mem_nil⟩⟩⟩⟩
theorem okC_M_assign : ∀ e ∈ C_M_assign, xcok q_M_assign.1.cls e.1 e.2 := List.forall_mem_cons.mpr ⟨⟨tb3 (i := 73) rfl rfl, tb1 (i := 6) rfl rfl, ⟨by decide, by decide, by decide +kernel⟩, by decide, tb3 (i := 70) rfl rfl, tb3 (i := 72) rfl rfl, tbS3 (i := 6) rfl, F_M, 27, rfl⟩, List.forall_mem_cons.mpr ⟨⟨tb3 (i := 144) rfl rfl, tb1 (i := 6) rfl rfl, ⟨by decide, by decide, by decide +kernel⟩, by decide, tb3 (i := 141) rfl rfl, tb3 (i := 143) rfl rfl, tbS4 (i := 6) rfl, F_M, 27, rfl⟩, List.forall_mem_cons.mpr ⟨⟨tb3 (i := 93) rfl rfl, tb1 (i := 6) rfl rfl, ⟨by decide, by decide, by decide +kernel⟩, by decide, tb3 (i := 90) rfl rfl, tb3 (i := 92) rfl rfl, tbS3 (i := 11) rfl, F_M, 27, rfl⟩, List.forall_mem_cons.mpr ⟨⟨tb3 (i := 97) rfl rfl, tb1 (i := 6) rfl rfl, ⟨by decide, by decide, by decide +kernel⟩, by decide, tb3 (i := 94) rfl rfl, tb3 (i := 96) rfl rfl, tbS3 (i := 12) rfl, F_M, 27, rfl⟩, List.forall_mem_cons.mpr ⟨⟨tb3 (i := 128) rfl rfl, tb1 (i := 6) rfl rfl, ⟨by decide, by decide, by decide +kernel⟩, by decide, tb3 (i := 126) rfl rfl, tb3 (i := 127) rfl rfl, fun h => absurd h (by decide)⟩, fun _ h => absurd h List.not_mem_nil⟩⟩⟩⟩⟩
theorem ok_M_assign : XOk q_M_assign T_M_assign F_M_assign C_M_assign := ⟨okT_M_assign, okF_M_assign, okC_M_assign⟩
def T_M_store : List (Nat × XE) := [(0, (.aload_n 0, 1, 0, 0, [])), (1, (.iload_n 1, 2, 0, 0, [])), (2, (.invokevirtual 60, 5, 0, 0, [])), (5, (.bipush 97, 7, 0, 97, [])), (7, (.isub, 8, 0, 0, [])), (8, (.istore_n 2, 9, 0, 0, [])), (9, (.aload_n 0, 10, 0, 0, [])), (10, (.iload_n 1, 11, 0, 0, [])), (11, (.iconst 4, 12, 0, 4, [])), (12, (.iadd, 13, 0, 0, [])), (13, (.invokevirtual 123, 16, 0, 0, [])), (16, (.istore_n 3, 17, 0, 0, [])), (17, (.aload_n 0, 18, 0, 0, [])), (18, (.iload_n 2, 19, 0, 0, [])), (19, (.invokevirtual 119, 22, 0, 0, [])), (22, (.aload_n 0, 23, 0, 0, [])), (23, (.iload_n 1, 24, 0, 0, [])), (24, (.iconst 2, 25, 0, 2, [])), (25, (.iadd, 26, 0, 0, [])), (26, (.invokevirtual 60, 29, 0, 0, [])), (29, (.bipush 103, 31, 0, 103, [])), (31, (.if_icmp .ne 27, 34, 58, 0, [])), (34, (.aload_n 0, 35, 0, 0, [])), (35, (.iload_n 3, 36, 0, 0, [])), (36, (.ifCond .eq 10, 39, 46, 0, [])), (39, (.aload_n 0, 40, 0, 0, [])), (40, (.getfield 116, 43, 0, 0, [])), (43, (.goto 9, 46, 52, 0, [])), (46, (.aload_n 0, 47, 0, 0, [])), (47, (.getfield 116, 50, 0, 0, [])), (50, (.iconst 2, 51, 0, 2, [])), (51, (.ior, 52, 0, 0, [])), (52, (.putfield 116, 55, 0, 0, [])), (55, (.goto 23, 58, 78, 0, [])), (58, (.aload_n 0, 59, 0, 0, [])), (59, (.iload_n 3, 60, 0, 0, [])), (60, (.ifCond .eq 14, 63, 74, 0, [])), (63, (.aload_n 0, 64, 0, 0, [])), (64, (.getfield 105, 67, 0, 0, [])), (67, (.iconst 1, 68, 0, 1, [])), (68, (.iload_n 2, 69, 0, 0, [])), (69, (.ishl, 70, 0, 0, [])), (70, (.ior, 71, 0, 0, [])), (71, (.goto 4, 74, 75, 0, [])), (74, (.iconst 0, 75, 0, 0, [])), (75, (.putfield 105, 78, 0, 0, [])), (78, (.return_, 79, 0, 0, []))]
def F_M_store : List (Nat × XF) := [(116, (4, 17, .int, true)), (105, (4, 16, .int, true))]
def C_M_store : List (Nat × XK) := [(60, (q_M_at, true, 1, 4)), (123, (q_M_sureValue, true, 1, 4)), (119, (q_M_use, true, 1, 4))]
theorem okT_M_store : T_M_store.all (fun e => xgood q_M_store.2.1 e.1 e.2) = true := by decide +kernel
theorem okF_M_store : ∀ e ∈ F_M_store, xfok q_M_store.1.cls e.1 e.2 := List.forall_mem_cons.mpr ⟨⟨R_M, F_M, 27, rfl, by decide, t_M_ok 17 (by decide), (fun _ => rfl), tb2 (i := 217) rfl rfl⟩, List.forall_mem_cons.mpr ⟨⟨R_M, F_M, 27, rfl, by decide, t_M_ok 16 (by decide), (fun _ => rfl), tb2 (i := 216) rfl rfl⟩, fun _ h => absurd h List.not_mem_nil⟩⟩
theorem okC_M_store : ∀ e ∈ C_M_store, xcok q_M_store.1.cls e.1 e.2 := List.forall_mem_cons.mpr ⟨⟨tb3 (i := 73) rfl rfl, tb1 (i := 6) rfl rfl, ⟨by decide, by decide, by decide +kernel⟩, by decide, tb3 (i := 70) rfl rfl, tb3 (i := 72) rfl rfl, tbS3 (i := 6) rfl, F_M, 27, rfl⟩, List.forall_mem_cons.mpr ⟨⟨tb3 (i := 144) rfl rfl, tb1 (i := 6) rfl rfl, ⟨by decide, by decide, by decide +kernel⟩, by decide, tb3 (i := 141) rfl rfl, tb3 (i := 143) rfl rfl, tbS4 (i := 6) rfl, F_M, 27, rfl⟩, List.forall_mem_cons.mpr ⟨⟨tb3 (i := 125) rfl rfl, tb1 (i := 6) rfl rfl, ⟨by decide, by decide, by decide +kernel⟩, by decide, tb3 (i := 122) rfl rfl, tb3 (i := 124) rfl rfl, tbS4 (i := 2) rfl, F_M, 27, rfl⟩, fun _ h => absurd h List.not_mem_nil⟩⟩⟩
theorem ok_M_store : XOk q_M_store T_M_store F_M_store C_M_store := ⟨okT_M_store, okF_M_store, okC_M_store⟩
def T_M_branch : List (Nat × XE) := [(0, (.aload_n 0, 1, 0, 0, [])), (1, (.iload_n 1, 2, 0, 0, [])), (2, (.invokevirtual 60, 5, 0, 0, [])), (5, (.bipush 126, 7, 0, 126, [])), (7, (.if_icmp .ne 7, 10, 14, 0, [])), (10, (.iconst 1, 11, 0, 1, [])), (11, (.goto 4, 14, 15, 0, [])), (14, (.iconst 0, 15, 0, 0, [])), (15, (.istore_n 2, 16, 0, 0, [])), (16, (.iload_n 2, 17, 0, 0, [])), (17, (.ifCond .eq 9, 20, 26, 0, [])), (20, (.iload_n 1, 21, 0, 0, [])), (21, (.iconst 1, 22, 0, 1, [])), (22, (.iadd, 23, 0, 0, [])), (23, (.goto 4, 26, 27, 0, [])), (26, (.iload_n 1, 27, 0, 0, [])), (27, (.istore_n 3, 28, 0, 0, [])), (28, (.aload_n 0, 29, 0, 0, [])), (29, (.iload_n 3, 30, 0, 0, [])), (30, (.invokevirtual 60, 33, 0, 0, [])), (33, (.bipush 97, 35, 0, 97, [])), (35, (.isub, 36, 0, 0, [])), (36, (.istore 4, 38, 0, 0, [])), (38, (.aload_n 0, 39, 0, 0, [])), (39, (.iload_n 3, 40, 0, 0, [])), (40, (.iconst 1, 41, 0, 1, [])), (41, (.iadd, 42, 0, 0, [])), (42, (.invokevirtual 68, 45, 0, 0, [])), (45, (.istore 5, 47, 0, 0, [])), (47, (.iload 5, 49, 0, 0, [])), (49, (.ifCond .eq 9, 52, 58, 0, [])), (52, (.aload_n 0, 53, 0, 0, [])), (53, (.iload 4, 55, 0, 0, [])), (55, (.invokevirtual 119, 58, 0, 0, [])), (58, (.aload_n 0, 59, 0, 0, [])), (59, (.getfield 102, 62, 0, 0, [])), (62, (.istore 6, 64, 0, 0, [])), (64, (.aload_n 0, 65, 0, 0, [])), (65, (.getfield 105, 68, 0, 0, [])), (68, (.istore 7, 70, 0, 0, [])), (70, (.aload_n 0, 71, 0, 0, [])), (71, (.iload_n 1, 72, 0, 0, [])), (72, (.iload_n 2, 73, 0, 0, [])), (73, (.invokevirtual 126, 76, 0, 0, [])), (76, (.istore 8, 78, 0, 0, [])), (78, (.aload_n 0, 79, 0, 0, [])), (79, (.iload 8, 81, 0, 0, [])), (81, (.invokevirtual 130, 84, 0, 0, [])), (84, (.aload_n 0, 85, 0, 0, [])), (85, (.iload_n 3, 86, 0, 0, [])), (86, (.invokevirtual 60, 89, 0, 0, [])), (89, (.bipush 37, 91, 0, 37, [])), (91, (.if_icmp .eq 57, 94, 148, 0, [])), (94, (.aload_n 0, 95, 0, 0, [])), (95, (.iload 5, 97, 0, 0, [])), (97, (.ifCond .eq 8, 100, 105, 0, [])), (100, (.iload 6, 102, 0, 0, [])), (102, (.goto 10, 105, 112, 0, [])), (105, (.iload 6, 107, 0, 0, [])), (107, (.iconst 1, 108, 0, 1, [])), (108, (.iload 4, 110, 0, 0, [])), (110, (.ishl, 111, 0, 0, [])), (111, (.ior, 112, 0, 0, [])), (112, (.putfield 102, 115, 0, 0, [])), (115, (.aload_n 0, 116, 0, 0, [])), (116, (.iload 5, 118, 0, 0, [])), (118, (.ifCond .eq 25, 121, 143, 0, [])), (121, (.aload_n 0, 122, 0, 0, [])), (122, (.iload_n 3, 123, 0, 0, [])), (123, (.iconst 2, 124, 0, 2, [])), (124, (.iadd, 125, 0, 0, [])), (125, (.invokevirtual 60, 128, 0, 0, [])), (128, (.bipush 104, 130, 0, 104, [])), (130, (.if_icmp .ne 13, 133, 143, 0, [])), (133, (.iload 7, 135, 0, 0, [])), (135, (.iconst 1, 136, 0, 1, [])), (136, (.iload 4, 138, 0, 0, [])), (138, (.ishl, 139, 0, 0, [])), (139, (.ior, 140, 0, 0, [])), (140, (.goto 5, 143, 145, 0, [])), (143, (.iload 7, 145, 0, 0, [])), (145, (.putfield 105, 148, 0, 0, [])), (148, (.aload_n 0, 149, 0, 0, [])), (149, (.iload_n 1, 150, 0, 0, [])), (150, (.iload_n 2, 151, 0, 0, [])), (151, (.ifCond .ne 7, 154, 158, 0, [])), (154, (.iconst 1, 155, 0, 1, [])), (155, (.goto 4, 158, 159, 0, [])), (158, (.iconst 0, 159, 0, 0, [])), (159, (.invokevirtual 126, 162, 0, 0, [])), (162, (.istore 9, 164, 0, 0, [])), (164, (.aload_n 0, 165, 0, 0, [])), (165, (.iload 9, 167, 0, 0, [])), (167, (.invokevirtual 130, 170, 0, 0, [])), (170, (.return_, 171, 0, 0, []))]
def F_M_branch : List (Nat × XF) := [(102, (4, 15, .int, true)), (105, (4, 16, .int, true))]
def C_M_branch : List (Nat × XK) := [(60, (q_M_at, true, 1, 4)), (68, (q_M_isField, true, 1, 4)), (119, (q_M_use, true, 1, 4)), (126, (q_M_turn, true, 2, 4)), (130, (q_M_join, true, 1, 4))]
theorem okT_M_branch : T_M_branch.all (fun e => xgood q_M_branch.2.1 e.1 e.2) = true := by decide +kernel
theorem okF_M_branch : ∀ e ∈ F_M_branch, xfok q_M_branch.1.cls e.1 e.2 := List.forall_mem_cons.mpr ⟨⟨R_M, F_M, 27, rfl, by decide, t_M_ok 15 (by decide), (fun _ => rfl), tb2 (i := 215) rfl rfl⟩, List.forall_mem_cons.mpr ⟨⟨R_M, F_M, 27, rfl, by decide, t_M_ok 16 (by decide), (fun _ => rfl), tb2 (i := 216) rfl rfl⟩, fun _ h => absurd h List.not_mem_nil⟩⟩
theorem okC_M_branch : ∀ e ∈ C_M_branch, xcok q_M_branch.1.cls e.1 e.2 := List.forall_mem_cons.mpr ⟨⟨tb3 (i := 73) rfl rfl, tb1 (i := 6) rfl rfl, ⟨by decide, by decide, by decide +kernel⟩, by decide, tb3 (i := 70) rfl rfl, tb3 (i := 72) rfl rfl, tbS3 (i := 6) rfl, F_M, 27, rfl⟩, List.forall_mem_cons.mpr ⟨⟨tb3 (i := 97) rfl rfl, tb1 (i := 6) rfl rfl, ⟨by decide, by decide, by decide +kernel⟩, by decide, tb3 (i := 94) rfl rfl, tb3 (i := 96) rfl rfl, tbS3 (i := 12) rfl, F_M, 27, rfl⟩, List.forall_mem_cons.mpr ⟨⟨tb3 (i := 125) rfl rfl, tb1 (i := 6) rfl rfl, ⟨by decide, by decide, by decide +kernel⟩, by decide, tb3 (i := 122) rfl rfl, tb3 (i := 124) rfl rfl, tbS4 (i := 2) rfl, F_M, 27, rfl⟩, List.forall_mem_cons.mpr ⟨⟨tb3 (i := 132) rfl rfl, tb1 (i := 6) rfl rfl, ⟨by decide, by decide, by decide +kernel⟩, by decide, tb3 (i := 129) rfl rfl, tb3 (i := 131) rfl rfl, tbS4 (i := 3) rfl, F_M, 27, rfl⟩, List.forall_mem_cons.mpr ⟨⟨tb3 (i := 113) rfl rfl, tb1 (i := 6) rfl rfl, ⟨by decide, by decide, by decide +kernel⟩, by decide, tb3 (i := 110) rfl rfl, tb3 (i := 112) rfl rfl, tbS3 (i := 15) rfl, F_M, 27, rfl⟩, fun _ h => absurd h List.not_mem_nil⟩⟩⟩⟩⟩
theorem ok_M_branch : XOk q_M_branch T_M_branch F_M_branch C_M_branch := ⟨okT_M_branch, okF_M_branch, okC_M_branch⟩
def T_M_flow : List (Nat × XE) := [(0, (.aload_n 0, 1, 0, 0, [])), (1, (.aload_n 0, 2, 0, 0, [])), (2, (.getfield 38, 5, 0, 0, [])), (5, (.iload_n 1, 6, 0, 0, [])), (6, (.iaload, 7, 0, 0, [])), (7, (.putfield 102, 10, 0, 0, [])), (10, (.aload_n 0, 11, 0, 0, [])), (11, (.aload_n 0, 12, 0, 0, [])), (12, (.getfield 41, 15, 0, 0, [])), (15, (.iload_n 1, 16, 0, 0, [])), (16, (.iaload, 17, 0, 0, [])), (17, (.putfield 105, 20, 0, 0, [])), (20, (.aload_n 0, 21, 0, 0, [])), (21, (.iconst 0, 22, 0, 0, [])), (22, (.putfield 116, 25, 0, 0, [])), (25, (.aload_n 0, 26, 0, 0, [])), (26, (.getfield 17, 29, 0, 0, [])), (29, (.iload_n 1, 30, 0, 0, [])), (30, (.iaload, 31, 0, 0, [])), (31, (.bipush 7, 33, 0, 7, [])), (33, (.if_icmp .ne 11, 36, 44, 0, [])), (36, (.aload_n 0, 37, 0, 0, [])), (37, (.iload_n 1, 38, 0, 0, [])), (38, (.invokevirtual 133, 41, 0, 0, [])), (41, (.goto 101, 44, 142, 0, [])), (44, (.aload_n 0, 45, 0, 0, [])), (45, (.getfield 17, 48, 0, 0, [])), (48, (.iload_n 1, 49, 0, 0, [])), (49, (.iaload, 50, 0, 0, [])), (50, (.iconst 3, 51, 0, 3, [])), (51, (.if_icmp .eq 13, 54, 64, 0, [])), (54, (.aload_n 0, 55, 0, 0, [])), (55, (.getfield 17, 58, 0, 0, [])), (58, (.iload_n 1, 59, 0, 0, [])), (59, (.iaload, 60, 0, 0, [])), (60, (.iconst 4, 61, 0, 4, [])), (61, (.if_icmp .ne 13, 64, 74, 0, [])), (64, (.aload_n 0, 65, 0, 0, [])), (65, (.iload_n 1, 66, 0, 0, [])), (66, (.iconst 1, 67, 0, 1, [])), (67, (.iadd, 68, 0, 0, [])), (68, (.invokevirtual 130, 71, 0, 0, [])), (71, (.goto 71, 74, 142, 0, [])), (74, (.aload_n 0, 75, 0, 0, [])), (75, (.getfield 17, 78, 0, 0, [])), (78, (.iload_n 1, 79, 0, 0, [])), (79, (.iaload, 80, 0, 0, [])), (80, (.bipush 6, 82, 0, 6, [])), (82, (.if_icmp .ge 60, 85, 142, 0, [])), (85, (.aload_n 0, 86, 0, 0, [])), (86, (.getfield 17, 89, 0, 0, [])), (89, (.iload_n 1, 90, 0, 0, [])), (90, (.iaload, 91, 0, 0, [])), (91, (.iconst 1, 92, 0, 1, [])), (92, (.if_icmp .ne 11, 95, 103, 0, [])), (95, (.aload_n 0, 96, 0, 0, [])), (96, (.iload_n 1, 97, 0, 0, [])), (97, (.invokevirtual 136, 100, 0, 0, [])), (100, (.goto 26, 103, 126, 0, [])), (103, (.aload_n 0, 104, 0, 0, [])), (104, (.getfield 17, 107, 0, 0, [])), (107, (.iload_n 1, 108, 0, 0, [])), (108, (.iaload, 109, 0, 0, [])), (109, (.iconst 2, 110, 0, 2, [])), (110, (.if_icmp .ne 11, 113, 121, 0, [])), (113, (.aload_n 0, 114, 0, 0, [])), (114, (.iload_n 1, 115, 0, 0, [])), (115, (.invokevirtual 139, 118, 0, 0, [])), (118, (.goto 8, 121, 126, 0, [])), (121, (.aload_n 0, 122, 0, 0, [])), (122, (.iconst 0, 123, 0, 0, [])), (123, (.putfield 105, 126, 0, 0, [])), (126, (.aload_n 0, 127, 0, 0, [])), (127, (.aload_n 0, 128, 0, 0, [])), (128, (.getfield 29, 131, 0, 0, [])), (131, (.iload_n 1, 132, 0, 0, [])), (132, (.iaload, 133, 0, 0, [])), (133, (.invokevirtual 99, 136, 0, 0, [])), (136, (.istore_n 2, 137, 0, 0, [])), (137, (.aload_n 0, 138, 0, 0, [])), (138, (.iload_n 2, 139, 0, 0, [])), (139, (.invokevirtual 130, 142, 0, 0, [])), (142, (.aload_n 0, 143, 0, 0, [])), (143, (.getfield 44, 146, 0, 0, [])), (146, (.iload_n 1, 147, 0, 0, [])), (147, (.aload_n 0, 148, 0, 0, [])), (148, (.getfield 116, 151, 0, 0, [])), (151, (.iastore, 152, 0, 0, [])), (152, (.return_, 153, 0, 0, []))]
def F_M_flow : List (Nat × XF) := [(38, (4, 12, .array .int, false)), (102, (4, 15, .int, true)), (41, (4, 13, .array .int, false)), (105, (4, 16, .int, true)), (116, (4, 17, .int, true)), (17, (4, 3, .array .int, false)), (29, (4, 7, .array .int, false)), (44, (4, 14, .array .int, false))]
def C_M_flow : List (Nat × XK) := [(133, (q_M_branch, true, 1, 4)), (130, (q_M_join, true, 1, 4)), (136, (q_M_assign, true, 1, 4)), (139, (q_M_store, true, 1, 4)), (99, (q_M_goes, true, 1, 4))]
theorem okT_M_flow : T_M_flow.all (fun e => xgood q_M_flow.2.1 e.1 e.2) = true := by decide +kernel
theorem okF_M_flow : ∀ e ∈ F_M_flow, xfok q_M_flow.1.cls e.1 e.2 := List.forall_mem_cons.mpr ⟨⟨R_M, F_M, 27, rfl, by decide, t_M_ok 12 (by decide), (fun h => Bool.noConfusion h), tb2 (i := 212) rfl rfl⟩, List.forall_mem_cons.mpr ⟨⟨R_M, F_M, 27, rfl, by decide, t_M_ok 15 (by decide), (fun _ => rfl), tb2 (i := 215) rfl rfl⟩, List.forall_mem_cons.mpr ⟨⟨R_M, F_M, 27, rfl, by decide, t_M_ok 13 (by decide), (fun h => Bool.noConfusion h), tb2 (i := 213) rfl rfl⟩, List.forall_mem_cons.mpr ⟨⟨R_M, F_M, 27, rfl, by decide, t_M_ok 16 (by decide), (fun _ => rfl), tb2 (i := 216) rfl rfl⟩, List.forall_mem_cons.mpr ⟨⟨R_M, F_M, 27, rfl, by decide, t_M_ok 17 (by decide), (fun _ => rfl), tb2 (i := 217) rfl rfl⟩, List.forall_mem_cons.mpr ⟨⟨R_M, F_M, 27, rfl, by decide, t_M_ok 3 (by decide), (fun h => Bool.noConfusion h), tb2 (i := 203) rfl rfl⟩, List.forall_mem_cons.mpr ⟨⟨R_M, F_M, 27, rfl, by decide, t_M_ok 7 (by decide), (fun h => Bool.noConfusion h), tb2 (i := 207) rfl rfl⟩, List.forall_mem_cons.mpr ⟨⟨R_M, F_M, 27, rfl, by decide, t_M_ok 14 (by decide), (fun h => Bool.noConfusion h), tb2 (i := 214) rfl rfl⟩, fun _ h => absurd h List.not_mem_nil⟩⟩⟩⟩⟩⟩⟩⟩
theorem okC_M_flow : ∀ e ∈ C_M_flow, xcok q_M_flow.1.cls e.1 e.2 := List.forall_mem_cons.mpr ⟨⟨tb3 (i := 121) rfl rfl, tb1 (i := 6) rfl rfl, ⟨by decide, by decide, by decide +kernel⟩, by decide, tb3 (i := 118) rfl rfl, tb3 (i := 120) rfl rfl, tbS4 (i := 1) rfl, F_M, 27, rfl⟩, List.forall_mem_cons.mpr ⟨⟨tb3 (i := 113) rfl rfl, tb1 (i := 6) rfl rfl, ⟨by decide, by decide, by decide +kernel⟩, by decide, tb3 (i := 110) rfl rfl, tb3 (i := 112) rfl rfl, tbS3 (i := 15) rfl, F_M, 27, rfl⟩, List.forall_mem_cons.mpr ⟨⟨tb3 (i := 140) rfl rfl, tb1 (i := 6) rfl rfl, ⟨by decide, by decide, by decide +kernel⟩, by decide, tb3 (i := 137) rfl rfl, tb3 (i := 139) rfl rfl, tbS4 (i := 5) rfl, F_M, 27, rfl⟩, List.forall_mem_cons.mpr ⟨⟨tb3 (i := 148) rfl rfl, tb1 (i := 6) rfl rfl, ⟨by decide, by decide, by decide +kernel⟩, by decide, tb3 (i := 145) rfl rfl, tb3 (i := 147) rfl rfl, tbS4 (i := 7) rfl, F_M, 27, rfl⟩, List.forall_mem_cons.mpr ⟨⟨tb3 (i := 136) rfl rfl, tb1 (i := 6) rfl rfl, ⟨by decide, by decide, by decide +kernel⟩, by decide, tb3 (i := 133) rfl rfl, tb3 (i := 135) rfl rfl, tbS4 (i := 4) rfl, F_M, 27, rfl⟩, fun _ h => absurd h List.not_mem_nil⟩⟩⟩⟩⟩
theorem ok_M_flow : XOk q_M_flow T_M_flow F_M_flow C_M_flow := ⟨okT_M_flow, okF_M_flow, okC_M_flow⟩
def T_M_study : List (Nat × XE) := [(0, (.iconst 0, 1, 0, 0, [])), (1, (.istore_n 1, 2, 0, 0, [])), (2, (.iload_n 1, 3, 0, 0, [])), (3, (.bipush 65, 5, 0, 65, [])), (5, (.if_icmp .ge 23, 8, 28, 0, [])), (8, (.aload_n 0, 9, 0, 0, [])), (9, (.getfield 35, 12, 0, 0, [])), (12, (.iload_n 1, 13, 0, 0, [])), (13, (.iconst 0, 14, 0, 0, [])), (14, (.bastore, 15, 0, 0, [])), (15, (.aload_n 0, 16, 0, 0, [])), (16, (.getfield 44, 19, 0, 0, [])), (19, (.iload_n 1, 20, 0, 0, [])), (20, (.iconst 0, 21, 0, 0, [])), (21, (.iastore, 22, 0, 0, [])), (22, (.iinc 1 1, 25, 0, 1, [])), (25, (.goto (-23), 28, 2, 0, [])), (28, (.aload_n 0, 29, 0, 0, [])), (29, (.iconst 0, 30, 0, 0, [])), (30, (.putfield 102, 33, 0, 0, [])), (33, (.aload_n 0, 34, 0, 0, [])), (34, (.iconst 0, 35, 0, 0, [])), (35, (.putfield 105, 38, 0, 0, [])), (38, (.iconst 0, 39, 0, 0, [])), (39, (.istore_n 1, 40, 0, 0, [])), (40, (.iload_n 1, 41, 0, 0, [])), (41, (.iconst 5, 42, 0, 5, [])), (42, (.if_icmp .ge 37, 45, 79, 0, [])), (45, (.aload_n 0, 46, 0, 0, [])), (46, (.aload_n 0, 47, 0, 0, [])), (47, (.getfield 13, 50, 0, 0, [])), (50, (.iload_n 1, 51, 0, 0, [])), (51, (.baload, 52, 0, 0, [])), (52, (.ifCond .eq 14, 55, 66, 0, [])), (55, (.aload_n 0, 56, 0, 0, [])), (56, (.getfield 102, 59, 0, 0, [])), (59, (.iconst 1, 60, 0, 1, [])), (60, (.iload_n 1, 61, 0, 0, [])), (61, (.ishl, 62, 0, 0, [])), (62, (.ior, 63, 0, 0, [])), (63, (.goto 7, 66, 70, 0, [])), (66, (.aload_n 0, 67, 0, 0, [])), (67, (.getfield 102, 70, 0, 0, [])), (70, (.putfield 102, 73, 0, 0, [])), (73, (.iinc 1 1, 76, 0, 1, [])), (76, (.goto (-36), 79, 40, 0, [])), (79, (.aload_n 0, 80, 0, 0, [])), (80, (.iconst 0, 81, 0, 0, [])), (81, (.invokevirtual 130, 84, 0, 0, [])), (84, (.aload_n 0, 85, 0, 0, [])), (85, (.iconst 1, 86, 0, 1, [])), (86, (.putfield 108, 89, 0, 0, [])), (89, (.iconst 0, 90, 0, 0, [])), (90, (.istore_n 1, 91, 0, 0, [])), (91, (.iload_n 1, 92, 0, 0, [])), (92, (.sipush 1000, 95, 0, 1000, [])), (95, (.if_icmp .ge 60, 98, 155, 0, [])), (98, (.aload_n 0, 99, 0, 0, [])), (99, (.getfield 108, 102, 0, 0, [])), (102, (.ifCond .eq 53, 105, 155, 0, [])), (105, (.aload_n 0, 106, 0, 0, [])), (106, (.iconst 0, 107, 0, 0, [])), (107, (.putfield 108, 110, 0, 0, [])), (110, (.iconst 0, 111, 0, 0, [])), (111, (.istore_n 2, 112, 0, 0, [])), (112, (.iload_n 2, 113, 0, 0, [])), (113, (.aload_n 0, 114, 0, 0, [])), (114, (.getfield 56, 117, 0, 0, [])), (117, (.if_icmp .gt 32, 120, 149, 0, [])), (120, (.aload_n 0, 121, 0, 0, [])), (121, (.getfield 35, 124, 0, 0, [])), (124, (.iload_n 2, 125, 0, 0, [])), (125, (.baload, 126, 0, 0, [])), (126, (.ifCond .eq 17, 129, 143, 0, [])), (129, (.aload_n 0, 130, 0, 0, [])), (130, (.getfield 17, 133, 0, 0, [])), (133, (.iload_n 2, 134, 0, 0, [])), (134, (.iaload, 135, 0, 0, [])), (135, (.ifCond .le 8, 138, 143, 0, [])), (138, (.aload_n 0, 139, 0, 0, [])), (139, (.iload_n 2, 140, 0, 0, [])), (140, (.invokevirtual 142, 143, 0, 0, [])), (143, (.iinc 2 1, 146, 0, 1, [])), (146, (.goto (-34), 149, 112, 0, [])), (149, (.iinc 1 1, 152, 0, 1, [])), (152, (.goto (-61), 155, 91, 0, [])), (155, (.return_, 156, 0, 0, []))]
def F_M_study : List (Nat × XF) := [(35, (4, 11, .array .boolean, false)), (44, (4, 14, .array .int, false)), (102, (4, 15, .int, true)), (105, (4, 16, .int, true)), (13, (4, 2, .array .boolean, false)), (108, (4, 18, .boolean, true)), (56, (4, 1, .int, true)), (17, (4, 3, .array .int, false))]
def C_M_study : List (Nat × XK) := [(130, (q_M_join, true, 1, 4)), (142, (q_M_flow, true, 1, 4))]
theorem okT_M_study : T_M_study.all (fun e => xgood q_M_study.2.1 e.1 e.2) = true := by decide +kernel
theorem okF_M_study : ∀ e ∈ F_M_study, xfok q_M_study.1.cls e.1 e.2 := List.forall_mem_cons.mpr ⟨⟨R_M, F_M, 27, rfl, by decide, t_M_ok 11 (by decide), (fun h => Bool.noConfusion h), tb2 (i := 211) rfl rfl⟩, List.forall_mem_cons.mpr ⟨⟨R_M, F_M, 27, rfl, by decide, t_M_ok 14 (by decide), (fun h => Bool.noConfusion h), tb2 (i := 214) rfl rfl⟩, List.forall_mem_cons.mpr ⟨⟨R_M, F_M, 27, rfl, by decide, t_M_ok 15 (by decide), (fun _ => rfl), tb2 (i := 215) rfl rfl⟩, List.forall_mem_cons.mpr ⟨⟨R_M, F_M, 27, rfl, by decide, t_M_ok 16 (by decide), (fun _ => rfl), tb2 (i := 216) rfl rfl⟩, List.forall_mem_cons.mpr ⟨⟨R_M, F_M, 27, rfl, by decide, t_M_ok 2 (by decide), (fun h => Bool.noConfusion h), tb2 (i := 202) rfl rfl⟩, List.forall_mem_cons.mpr ⟨⟨R_M, F_M, 27, rfl, by decide, t_M_ok 18 (by decide), (fun _ => rfl), tb2 (i := 218) rfl rfl⟩, List.forall_mem_cons.mpr ⟨⟨R_M, F_M, 27, rfl, by decide, t_M_ok 1 (by decide), (fun _ => rfl), tb2 (i := 201) rfl rfl⟩, List.forall_mem_cons.mpr ⟨⟨R_M, F_M, 27, rfl, by decide, t_M_ok 3 (by decide), (fun h => Bool.noConfusion h), tb2 (i := 203) rfl rfl⟩, fun _ h => absurd h List.not_mem_nil⟩⟩⟩⟩⟩⟩⟩⟩
theorem okC_M_study : ∀ e ∈ C_M_study, xcok q_M_study.1.cls e.1 e.2 := List.forall_mem_cons.mpr ⟨⟨tb3 (i := 113) rfl rfl, tb1 (i := 6) rfl rfl, ⟨by decide, by decide, by decide +kernel⟩, by decide, tb3 (i := 110) rfl rfl, tb3 (i := 112) rfl rfl, tbS3 (i := 15) rfl, F_M, 27, rfl⟩, List.forall_mem_cons.mpr ⟨⟨tb3 (i := 117) rfl rfl, tb1 (i := 6) rfl rfl, ⟨by decide, by decide, by decide +kernel⟩, by decide, tb3 (i := 114) rfl rfl, tb3 (i := 116) rfl rfl, tbS4 (i := 0) rfl, F_M, 27, rfl⟩, fun _ h => absurd h List.not_mem_nil⟩⟩
theorem ok_M_study : XOk q_M_study T_M_study F_M_study C_M_study := ⟨okT_M_study, okF_M_study, okC_M_study⟩
def T_M_alarms : List (Nat × XE) := [(0, (.aload_n 0, 1, 0, 0, [])), (1, (.invokevirtual 95, 4, 0, 0, [])), (4, (.ifCond .ne 5, 7, 9, 0, [])), (7, (.iconst (-1), 8, 0, (-1), [])), (8, (.ireturn, 9, 0, 0, [])), (9, (.aload_n 0, 10, 0, 0, [])), (10, (.invokevirtual 145, 13, 0, 0, [])), (13, (.iconst 0, 14, 0, 0, [])), (14, (.istore_n 1, 15, 0, 0, [])), (15, (.iconst 0, 16, 0, 0, [])), (16, (.istore_n 2, 17, 0, 0, [])), (17, (.iload_n 2, 18, 0, 0, [])), (18, (.aload_n 0, 19, 0, 0, [])), (19, (.getfield 56, 22, 0, 0, [])), (22, (.if_icmp .gt 26, 25, 48, 0, [])), (25, (.iload_n 1, 26, 0, 0, [])), (26, (.aload_n 0, 27, 0, 0, [])), (27, (.getfield 44, 30, 0, 0, [])), (30, (.iload_n 2, 31, 0, 0, [])), (31, (.iaload, 32, 0, 0, [])), (32, (.ifCond .le 7, 35, 39, 0, [])), (35, (.iconst 1, 36, 0, 1, [])), (36, (.goto 4, 39, 40, 0, [])), (39, (.iconst 0, 40, 0, 0, [])), (40, (.iadd, 41, 0, 0, [])), (41, (.istore_n 1, 42, 0, 0, [])), (42, (.iinc 2 1, 45, 0, 1, [])), (45, (.goto (-28), 48, 17, 0, [])), (48, (.iload_n 1, 49, 0, 0, [])), (49, (.ireturn, 50, 0, 0, []))]
def F_M_alarms : List (Nat × XF) := [(56, (4, 1, .int, true)), (44, (4, 14, .array .int, false))]
def C_M_alarms : List (Nat × XK) := [(95, (q_M_program, true, 0, 4)), (145, (q_M_study, true, 0, 4))]
theorem okT_M_alarms : T_M_alarms.all (fun e => xgood q_M_alarms.2.1 e.1 e.2) = true := by decide +kernel
theorem okF_M_alarms : ∀ e ∈ F_M_alarms, xfok q_M_alarms.1.cls e.1 e.2 := List.forall_mem_cons.mpr ⟨⟨R_M, F_M, 27, rfl, by decide, t_M_ok 1 (by decide), (fun _ => rfl), tb2 (i := 201) rfl rfl⟩, List.forall_mem_cons.mpr ⟨⟨R_M, F_M, 27, rfl, by decide, t_M_ok 14 (by decide), (fun h => Bool.noConfusion h), tb2 (i := 214) rfl rfl⟩, fun _ h => absurd h List.not_mem_nil⟩⟩
theorem okC_M_alarms : ∀ e ∈ C_M_alarms, xcok q_M_alarms.1.cls e.1 e.2 := List.forall_mem_cons.mpr ⟨⟨tb3 (i := 65) rfl rfl, tb1 (i := 6) rfl rfl, ⟨by decide, by decide, by decide +kernel⟩, by decide, tb3 (i := 62) rfl rfl, tb3 (i := 64) rfl rfl, tbS3 (i := 4) rfl, F_M, 27, rfl⟩, List.forall_mem_cons.mpr ⟨⟨tb3 (i := 109) rfl rfl, tb1 (i := 6) rfl rfl, ⟨by decide, by decide, by decide +kernel⟩, by decide, tb3 (i := 106) rfl rfl, tb3 (i := 108) rfl rfl, tbS3 (i := 14) rfl, F_M, 27, rfl⟩, fun _ h => absurd h List.not_mem_nil⟩⟩
theorem ok_M_alarms : XOk q_M_alarms T_M_alarms F_M_alarms C_M_alarms := ⟨okT_M_alarms, okF_M_alarms, okC_M_alarms⟩
def T_M_alarm : List (Nat × XE) := [(0, (.aload_n 0, 1, 0, 0, [])), (1, (.iload_n 1, 2, 0, 0, [])), (2, (.invokevirtual 148, 5, 0, 0, [])), (5, (.ifCond .ne 5, 8, 10, 0, [])), (8, (.iconst (-1), 9, 0, (-1), [])), (9, (.ireturn, 10, 0, 0, [])), (10, (.aload_n 0, 11, 0, 0, [])), (11, (.invokevirtual 145, 14, 0, 0, [])), (14, (.aload_n 0, 15, 0, 0, [])), (15, (.getfield 44, 18, 0, 0, [])), (18, (.iload_n 1, 19, 0, 0, [])), (19, (.iaload, 20, 0, 0, [])), (20, (.ireturn, 21, 0, 0, []))]
def F_M_alarm : List (Nat × XF) := [(44, (4, 14, .array .int, false))]
def C_M_alarm : List (Nat × XK) := [(148, (q_M_counts, true, 1, 4)), (145, (q_M_study, true, 0, 4))]
theorem okT_M_alarm : T_M_alarm.all (fun e => xgood q_M_alarm.2.1 e.1 e.2) = true := by decide +kernel
theorem okF_M_alarm : ∀ e ∈ F_M_alarm, xfok q_M_alarm.1.cls e.1 e.2 := List.forall_mem_cons.mpr ⟨⟨R_M, F_M, 27, rfl, by decide, t_M_ok 14 (by decide), (fun h => Bool.noConfusion h), tb2 (i := 214) rfl rfl⟩, fun _ h => absurd h List.not_mem_nil⟩
theorem okC_M_alarm : ∀ e ∈ C_M_alarm, xcok q_M_alarm.1.cls e.1 e.2 := List.forall_mem_cons.mpr ⟨⟨tb3 (i := 156) rfl rfl, tb1 (i := 6) rfl rfl, ⟨by decide, by decide, by decide +kernel⟩, by decide, tb3 (i := 153) rfl rfl, tb3 (i := 155) rfl rfl, tbS4 (i := 8) rfl, F_M, 27, rfl⟩, List.forall_mem_cons.mpr ⟨⟨tb3 (i := 109) rfl rfl, tb1 (i := 6) rfl rfl, ⟨by decide, by decide, by decide +kernel⟩, by decide, tb3 (i := 106) rfl rfl, tb3 (i := 108) rfl rfl, tbS3 (i := 14) rfl, F_M, 27, rfl⟩, fun _ h => absurd h List.not_mem_nil⟩⟩
theorem ok_M_alarm : XOk q_M_alarm T_M_alarm F_M_alarm C_M_alarm := ⟨okT_M_alarm, okF_M_alarm, okC_M_alarm⟩
def T_M_sure : List (Nat × XE) := [(0, (.iload_n 2, 1, 0, 0, [])), (1, (.ifCond .lt 16, 4, 17, 0, [])), (4, (.iload_n 2, 5, 0, 0, [])), (5, (.iconst 4, 6, 0, 4, [])), (6, (.if_icmp .gt 11, 9, 17, 0, [])), (9, (.aload_n 0, 10, 0, 0, [])), (10, (.iload_n 1, 11, 0, 0, [])), (11, (.invokevirtual 148, 14, 0, 0, [])), (14, (.ifCond .ne 5, 17, 19, 0, [])), (17, (.iconst (-1), 18, 0, (-1), [])), (18, (.ireturn, 19, 0, 0, [])), (19, (.aload_n 0, 20, 0, 0, [])), (20, (.invokevirtual 145, 23, 0, 0, [])), (23, (.aload_n 0, 24, 0, 0, [])), (24, (.getfield 35, 27, 0, 0, [])), (27, (.iload_n 1, 28, 0, 0, [])), (28, (.baload, 29, 0, 0, [])), (29, (.ifCond .ne 7, 32, 36, 0, [])), (32, (.iconst 0, 33, 0, 0, [])), (33, (.goto 21, 36, 54, 0, [])), (36, (.aload_n 0, 37, 0, 0, [])), (37, (.getfield 38, 40, 0, 0, [])), (40, (.iload_n 1, 41, 0, 0, [])), (41, (.iaload, 42, 0, 0, [])), (42, (.iload_n 2, 43, 0, 0, [])), (43, (.invokestatic 112, 46, 0, 0, [])), (46, (.ifCond .eq 7, 49, 53, 0, [])), (49, (.iconst 2, 50, 0, 2, [])), (50, (.goto 4, 53, 54, 0, [])), (53, (.iconst 1, 54, 0, 1, [])), (54, (.ireturn, 55, 0, 0, []))]
def F_M_sure : List (Nat × XF) := [(35, (4, 11, .array .boolean, false)), (38, (4, 12, .array .int, false))]
def C_M_sure : List (Nat × XK) := [(148, (q_M_counts, true, 1, 4)), (145, (q_M_study, true, 0, 4)), (112, (q_M_has, false, 2, 4))]
theorem okT_M_sure : T_M_sure.all (fun e => xgood q_M_sure.2.1 e.1 e.2) = true := by decide +kernel
theorem okF_M_sure : ∀ e ∈ F_M_sure, xfok q_M_sure.1.cls e.1 e.2 := List.forall_mem_cons.mpr ⟨⟨R_M, F_M, 27, rfl, by decide, t_M_ok 11 (by decide), (fun h => Bool.noConfusion h), tb2 (i := 211) rfl rfl⟩, List.forall_mem_cons.mpr ⟨⟨R_M, F_M, 27, rfl, by decide, t_M_ok 12 (by decide), (fun h => Bool.noConfusion h), tb2 (i := 212) rfl rfl⟩, fun _ h => absurd h List.not_mem_nil⟩⟩
theorem okC_M_sure : ∀ e ∈ C_M_sure, xcok q_M_sure.1.cls e.1 e.2 := List.forall_mem_cons.mpr ⟨⟨tb3 (i := 156) rfl rfl, tb1 (i := 6) rfl rfl, ⟨by decide, by decide, by decide +kernel⟩, by decide, tb3 (i := 153) rfl rfl, tb3 (i := 155) rfl rfl, tbS4 (i := 8) rfl, F_M, 27, rfl⟩, List.forall_mem_cons.mpr ⟨⟨tb3 (i := 109) rfl rfl, tb1 (i := 6) rfl rfl, ⟨by decide, by decide, by decide +kernel⟩, by decide, tb3 (i := 106) rfl rfl, tb3 (i := 108) rfl rfl, tbS3 (i := 14) rfl, F_M, 27, rfl⟩, List.forall_mem_cons.mpr ⟨⟨tb3 (i := 128) rfl rfl, tb1 (i := 6) rfl rfl, ⟨by decide, by decide, by decide +kernel⟩, by decide, tb3 (i := 126) rfl rfl, tb3 (i := 127) rfl rfl, fun h => absurd h (by decide)⟩, fun _ h => absurd h List.not_mem_nil⟩⟩⟩
theorem ok_M_sure : XOk q_M_sure T_M_sure F_M_sure C_M_sure := ⟨okT_M_sure, okF_M_sure, okC_M_sure⟩
def T_M_linked : List (Nat × XE) := [(0, (.iload_n 2, 1, 0, 0, [])), (1, (.ifCond .lt 16, 4, 17, 0, [])), (4, (.iload_n 2, 5, 0, 0, [])), (5, (.iconst 4, 6, 0, 4, [])), (6, (.if_icmp .gt 11, 9, 17, 0, [])), (9, (.aload_n 0, 10, 0, 0, [])), (10, (.iload_n 1, 11, 0, 0, [])), (11, (.invokevirtual 148, 14, 0, 0, [])), (14, (.ifCond .ne 5, 17, 19, 0, [])), (17, (.iconst 0, 18, 0, 0, [])), (18, (.ireturn, 19, 0, 0, [])), (19, (.aload_n 0, 20, 0, 0, [])), (20, (.invokevirtual 145, 23, 0, 0, [])), (23, (.aload_n 0, 24, 0, 0, [])), (24, (.getfield 35, 27, 0, 0, [])), (27, (.iload_n 1, 28, 0, 0, [])), (28, (.baload, 29, 0, 0, [])), (29, (.ifCond .eq 20, 32, 49, 0, [])), (32, (.aload_n 0, 33, 0, 0, [])), (33, (.getfield 41, 36, 0, 0, [])), (36, (.iload_n 1, 37, 0, 0, [])), (37, (.iaload, 38, 0, 0, [])), (38, (.iload_n 2, 39, 0, 0, [])), (39, (.invokestatic 112, 42, 0, 0, [])), (42, (.ifCond .eq 7, 45, 49, 0, [])), (45, (.iconst 1, 46, 0, 1, [])), (46, (.goto 4, 49, 50, 0, [])), (49, (.iconst 0, 50, 0, 0, [])), (50, (.ireturn, 51, 0, 0, []))]
def F_M_linked : List (Nat × XF) := [(35, (4, 11, .array .boolean, false)), (41, (4, 13, .array .int, false))]
def C_M_linked : List (Nat × XK) := [(148, (q_M_counts, true, 1, 4)), (145, (q_M_study, true, 0, 4)), (112, (q_M_has, false, 2, 4))]
theorem okT_M_linked : T_M_linked.all (fun e => xgood q_M_linked.2.1 e.1 e.2) = true := by decide +kernel
theorem okF_M_linked : ∀ e ∈ F_M_linked, xfok q_M_linked.1.cls e.1 e.2 := List.forall_mem_cons.mpr ⟨⟨R_M, F_M, 27, rfl, by decide, t_M_ok 11 (by decide), (fun h => Bool.noConfusion h), tb2 (i := 211) rfl rfl⟩, List.forall_mem_cons.mpr ⟨⟨R_M, F_M, 27, rfl, by decide, t_M_ok 13 (by decide), (fun h => Bool.noConfusion h), tb2 (i := 213) rfl rfl⟩, fun _ h => absurd h List.not_mem_nil⟩⟩
theorem okC_M_linked : ∀ e ∈ C_M_linked, xcok q_M_linked.1.cls e.1 e.2 := List.forall_mem_cons.mpr ⟨⟨tb3 (i := 156) rfl rfl, tb1 (i := 6) rfl rfl, ⟨by decide, by decide, by decide +kernel⟩, by decide, tb3 (i := 153) rfl rfl, tb3 (i := 155) rfl rfl, tbS4 (i := 8) rfl, F_M, 27, rfl⟩, List.forall_mem_cons.mpr ⟨⟨tb3 (i := 109) rfl rfl, tb1 (i := 6) rfl rfl, ⟨by decide, by decide, by decide +kernel⟩, by decide, tb3 (i := 106) rfl rfl, tb3 (i := 108) rfl rfl, tbS3 (i := 14) rfl, F_M, 27, rfl⟩, List.forall_mem_cons.mpr ⟨⟨tb3 (i := 128) rfl rfl, tb1 (i := 6) rfl rfl, ⟨by decide, by decide, by decide +kernel⟩, by decide, tb3 (i := 126) rfl rfl, tb3 (i := 127) rfl rfl, fun h => absurd h (by decide)⟩, fun _ h => absurd h List.not_mem_nil⟩⟩⟩
theorem ok_M_linked : XOk q_M_linked T_M_linked F_M_linked C_M_linked := ⟨okT_M_linked, okF_M_linked, okC_M_linked⟩
def T_M_take : List (Nat × XE) := [(0, (.aload_n 0, 1, 0, 0, [])), (1, (.getfield 151, 4, 0, 0, [])), (4, (.l2i, 5, 0, 0, [])), (5, (.iconst 1, 6, 0, 1, [])), (6, (.iload_n 1, 7, 0, 0, [])), (7, (.ishl, 8, 0, 0, [])), (8, (.iconst 1, 9, 0, 1, [])), (9, (.isub, 10, 0, 0, [])), (10, (.iand, 11, 0, 0, [])), (11, (.istore_n 2, 12, 0, 0, [])), (12, (.aload_n 0, 13, 0, 0, [])), (13, (.aload_n 0, 14, 0, 0, [])), (14, (.getfield 151, 17, 0, 0, [])), (17, (.iload_n 1, 18, 0, 0, [])), (18, (.lushr, 19, 0, 0, [])), (19, (.putfield 151, 22, 0, 0, [])), (22, (.iload_n 2, 23, 0, 0, [])), (23, (.ireturn, 24, 0, 0, []))]
def F_M_take : List (Nat × XF) := [(151, (4, 25, .long, true))]
def C_M_take : List (Nat × XK) := []
theorem okT_M_take : T_M_take.all (fun e => xgood q_M_take.2.1 e.1 e.2) = true := by decide +kernel
theorem okF_M_take : ∀ e ∈ F_M_take, xfok q_M_take.1.cls e.1 e.2 := List.forall_mem_cons.mpr ⟨⟨R_M, F_M, 27, rfl, by decide, t_M_ok 25 (by decide), (fun _ => rfl), tb2 (i := 225) rfl rfl⟩, fun _ h => absurd h List.not_mem_nil⟩
theorem okC_M_take : ∀ e ∈ C_M_take, xcok q_M_take.1.cls e.1 e.2 := fun _ h => absurd h List.not_mem_nil
theorem ok_M_take : XOk q_M_take T_M_take F_M_take C_M_take := ⟨okT_M_take, okF_M_take, okC_M_take⟩
def T_M_create : List (Nat × XE) := [(0, (.aload_n 0, 1, 0, 0, [])), (1, (.getfield 155, 4, 0, 0, [])), (4, (.bipush 8, 6, 0, 8, [])), (6, (.if_icmp .ne 6, 9, 12, 0, [])), (9, (.bipush 7, 11, 0, 7, [])), (11, (.ireturn, 12, 0, 0, [])), (12, (.aload_n 0, 13, 0, 0, [])), (13, (.getfield 50, 16, 0, 0, [])), (16, (.aload_n 0, 17, 0, 0, [])), (17, (.getfield 155, 20, 0, 0, [])), (20, (.aload_n 0, 21, 0, 0, [])), (21, (.getfield 155, 24, 0, 0, [])), (24, (.iastore, 25, 0, 0, [])), (25, (.aload_n 0, 26, 0, 0, [])), (26, (.getfield 53, 29, 0, 0, [])), (29, (.aload_n 0, 30, 0, 0, [])), (30, (.getfield 155, 33, 0, 0, [])), (33, (.iconst (-1), 34, 0, (-1), [])), (34, (.iastore, 35, 0, 0, [])), (35, (.aload_n 0, 36, 0, 0, [])), (36, (.dup, 37, 0, 0, [])), (37, (.getfield 155, 40, 0, 0, [])), (40, (.iconst 1, 41, 0, 1, [])), (41, (.iadd, 42, 0, 0, [])), (42, (.putfield 155, 45, 0, 0, [])), (45, (.aload_n 0, 46, 0, 0, [])), (46, (.getfield 155, 49, 0, 0, [])), (49, (.iconst 1, 50, 0, 1, [])), (50, (.isub, 51, 0, 0, [])), (51, (.ireturn, 52, 0, 0, []))]
def F_M_create : List (Nat × XF) := [(155, (4, 21, .int, true)), (50, (4, 22, .array .int, false)), (53, (4, 23, .array .int, false))]
def C_M_create : List (Nat × XK) := []
theorem okT_M_create : T_M_create.all (fun e => xgood q_M_create.2.1 e.1 e.2) = true := by decide +kernel
theorem okF_M_create : ∀ e ∈ F_M_create, xfok q_M_create.1.cls e.1 e.2 := List.forall_mem_cons.mpr ⟨⟨R_M, F_M, 27, rfl, by decide, t_M_ok 21 (by decide), (fun _ => rfl), tb2 (i := 221) rfl rfl⟩, List.forall_mem_cons.mpr ⟨⟨R_M, F_M, 27, rfl, by decide, t_M_ok 22 (by decide), (fun h => Bool.noConfusion h), tb2 (i := 222) rfl rfl⟩, List.forall_mem_cons.mpr ⟨⟨R_M, F_M, 27, rfl, by decide, t_M_ok 23 (by decide), (fun h => Bool.noConfusion h), tb2 (i := 223) rfl rfl⟩, fun _ h => absurd h List.not_mem_nil⟩⟩⟩
theorem okC_M_create : ∀ e ∈ C_M_create, xcok q_M_create.1.cls e.1 e.2 := fun _ h => absurd h List.not_mem_nil
theorem ok_M_create : XOk q_M_create T_M_create F_M_create C_M_create := ⟨okT_M_create, okF_M_create, okC_M_create⟩
def T_M_found : List (Nat × XE) := [(0, (.aload_n 0, 1, 0, 0, [])), (1, (.iload_n 1, 2, 0, 0, [])), (2, (.invokevirtual 60, 5, 0, 0, [])), (5, (.istore_n 2, 6, 0, 0, [])), (6, (.iload_n 2, 7, 0, 0, [])), (7, (.bipush 78, 9, 0, 78, [])), (9, (.if_icmp .ne 8, 12, 17, 0, [])), (12, (.aload_n 0, 13, 0, 0, [])), (13, (.invokevirtual 158, 16, 0, 0, [])), (16, (.ireturn, 17, 0, 0, [])), (17, (.iload_n 2, 18, 0, 0, [])), (18, (.bipush 64, 20, 0, 64, [])), (20, (.if_icmp .ne 30, 23, 50, 0, [])), (23, (.aload_n 0, 24, 0, 0, [])), (24, (.iconst 2, 25, 0, 2, [])), (25, (.invokevirtual 162, 28, 0, 0, [])), (28, (.iconst 1, 29, 0, 1, [])), (29, (.isub, 30, 0, 0, [])), (30, (.istore_n 3, 31, 0, 0, [])), (31, (.iload_n 3, 32, 0, 0, [])), (32, (.aload_n 0, 33, 0, 0, [])), (33, (.getfield 155, 36, 0, 0, [])), (36, (.if_icmp .ge 7, 39, 43, 0, [])), (39, (.iload_n 3, 40, 0, 0, [])), (40, (.goto 9, 43, 49, 0, [])), (43, (.aload_n 0, 44, 0, 0, [])), (44, (.getfield 155, 47, 0, 0, [])), (47, (.iconst 1, 48, 0, 1, [])), (48, (.isub, 49, 0, 0, [])), (49, (.ireturn, 50, 0, 0, [])), (50, (.aload_n 0, 51, 0, 0, [])), (51, (.iload_n 1, 52, 0, 0, [])), (52, (.invokevirtual 64, 55, 0, 0, [])), (55, (.ifCond .ne 5, 58, 60, 0, [])), (58, (.iconst (-1), 59, 0, (-1), [])), (59, (.ireturn, 60, 0, 0, [])), (60, (.aload_n 0, 61, 0, 0, [])), (61, (.getfield 47, 64, 0, 0, [])), (64, (.iload_n 2, 65, 0, 0, [])), (65, (.bipush 97, 67, 0, 97, [])), (67, (.isub, 68, 0, 0, [])), (68, (.iaload, 69, 0, 0, [])), (69, (.istore_n 3, 70, 0, 0, [])), (70, (.aload_n 0, 71, 0, 0, [])), (71, (.iload_n 1, 72, 0, 0, [])), (72, (.iconst 1, 73, 0, 1, [])), (73, (.iadd, 74, 0, 0, [])), (74, (.invokevirtual 68, 77, 0, 0, [])), (77, (.ifCond .ne 5, 80, 82, 0, [])), (80, (.iload_n 3, 81, 0, 0, [])), (81, (.ireturn, 82, 0, 0, [])), (82, (.iload_n 3, 83, 0, 0, [])), (83, (.ifCond .ge 8, 86, 91, 0, [])), (86, (.bipush (-2), 88, 0, (-2), [])), (88, (.goto 30, 91, 118, 0, [])), (91, (.aload_n 0, 92, 0, 0, [])), (92, (.iload_n 1, 93, 0, 0, [])), (93, (.iconst 2, 94, 0, 2, [])), (94, (.iadd, 95, 0, 0, [])), (95, (.invokevirtual 60, 98, 0, 0, [])), (98, (.bipush 103, 100, 0, 103, [])), (100, (.if_icmp .ne 12, 103, 112, 0, [])), (103, (.aload_n 0, 104, 0, 0, [])), (104, (.getfield 50, 107, 0, 0, [])), (107, (.iload_n 3, 108, 0, 0, [])), (108, (.iaload, 109, 0, 0, [])), (109, (.goto 9, 112, 118, 0, [])), (112, (.aload_n 0, 113, 0, 0, [])), (113, (.getfield 53, 116, 0, 0, [])), (116, (.iload_n 3, 117, 0, 0, [])), (117, (.iaload, 118, 0, 0, [])), (118, (.ireturn, 119, 0, 0, []))]
def F_M_found : List (Nat × XF) := [(155, (4, 21, .int, true)), (47, (4, 20, .array .int, false)), (50, (4, 22, .array .int, false)), (53, (4, 23, .array .int, false))]
def C_M_found : List (Nat × XK) := [(60, (q_M_at, true, 1, 4)), (158, (q_M_create, true, 0, 4)), (162, (q_M_take, true, 1, 4)), (64, (q_M_isLocal, true, 1, 4)), (68, (q_M_isField, true, 1, 4))]
theorem okT_M_found : T_M_found.all (fun e => xgood q_M_found.2.1 e.1 e.2) = true := by decide +kernel
theorem okF_M_found : ∀ e ∈ F_M_found, xfok q_M_found.1.cls e.1 e.2 := List.forall_mem_cons.mpr ⟨⟨R_M, F_M, 27, rfl, by decide, t_M_ok 21 (by decide), (fun _ => rfl), tb2 (i := 221) rfl rfl⟩, List.forall_mem_cons.mpr ⟨⟨R_M, F_M, 27, rfl, by decide, t_M_ok 20 (by decide), (fun h => Bool.noConfusion h), tb2 (i := 220) rfl rfl⟩, List.forall_mem_cons.mpr ⟨⟨R_M, F_M, 27, rfl, by decide, t_M_ok 22 (by decide), (fun h => Bool.noConfusion h), tb2 (i := 222) rfl rfl⟩, List.forall_mem_cons.mpr ⟨⟨R_M, F_M, 27, rfl, by decide, t_M_ok 23 (by decide), (fun h => Bool.noConfusion h), tb2 (i := 223) rfl rfl⟩, fun _ h => absurd h List.not_mem_nil⟩⟩⟩⟩
theorem okC_M_found : ∀ e ∈ C_M_found, xcok q_M_found.1.cls e.1 e.2 := List.forall_mem_cons.mpr ⟨⟨tb3 (i := 73) rfl rfl, tb1 (i := 6) rfl rfl, ⟨by decide, by decide, by decide +kernel⟩, by decide, tb3 (i := 70) rfl rfl, tb3 (i := 72) rfl rfl, tbS3 (i := 6) rfl, F_M, 27, rfl⟩, List.forall_mem_cons.mpr ⟨⟨tb3 (i := 172) rfl rfl, tb1 (i := 6) rfl rfl, ⟨by decide, by decide, by decide +kernel⟩, by decide, tb3 (i := 169) rfl rfl, tb3 (i := 171) rfl rfl, tbS4 (i := 9) rfl, F_M, 27, rfl⟩, List.forall_mem_cons.mpr ⟨⟨tb3 (i := 184) rfl rfl, tb1 (i := 6) rfl rfl, ⟨by decide, by decide, by decide +kernel⟩, by decide, tb3 (i := 181) rfl rfl, tb3 (i := 183) rfl rfl, tbS4 (i := 12) rfl, F_M, 27, rfl⟩, List.forall_mem_cons.mpr ⟨⟨tb3 (i := 93) rfl rfl, tb1 (i := 6) rfl rfl, ⟨by decide, by decide, by decide +kernel⟩, by decide, tb3 (i := 90) rfl rfl, tb3 (i := 92) rfl rfl, tbS3 (i := 11) rfl, F_M, 27, rfl⟩, List.forall_mem_cons.mpr ⟨⟨tb3 (i := 97) rfl rfl, tb1 (i := 6) rfl rfl, ⟨by decide, by decide, by decide +kernel⟩, by decide, tb3 (i := 94) rfl rfl, tb3 (i := 96) rfl rfl, tbS3 (i := 12) rfl, F_M, 27, rfl⟩, fun _ h => absurd h List.not_mem_nil⟩⟩⟩⟩⟩
theorem ok_M_found : XOk q_M_found T_M_found F_M_found C_M_found := ⟨okT_M_found, okF_M_found, okC_M_found⟩
def T_M_visit : List (Nat × XE) := [(0, (.aload_n 0, 1, 0, 0, [])), (1, (.getfield 17, 4, 0, 0, [])), (4, (.iload_n 1, 5, 0, 0, [])), (5, (.iaload, 6, 0, 0, [])), (6, (.istore_n 2, 7, 0, 0, [])), (7, (.iload_n 2, 8, 0, 0, [])), (8, (.bipush 8, 10, 0, 8, [])), (10, (.if_icmp .eq 9, 13, 19, 0, [])), (13, (.iload_n 2, 14, 0, 0, [])), (14, (.bipush 6, 16, 0, 6, [])), (16, (.if_icmp .ne 5, 19, 21, 0, [])), (19, (.iconst (-1), 20, 0, (-1), [])), (20, (.ireturn, 21, 0, 0, [])), (21, (.iload_n 2, 22, 0, 0, [])), (22, (.iconst 3, 23, 0, 3, [])), (23, (.if_icmp .eq 8, 26, 31, 0, [])), (26, (.iload_n 2, 27, 0, 0, [])), (27, (.iconst 4, 28, 0, 4, [])), (28, (.if_icmp .ne 7, 31, 35, 0, [])), (31, (.iload_n 1, 32, 0, 0, [])), (32, (.iconst 1, 33, 0, 1, [])), (33, (.iadd, 34, 0, 0, [])), (34, (.ireturn, 35, 0, 0, [])), (35, (.iload_n 2, 36, 0, 0, [])), (36, (.bipush 7, 38, 0, 7, [])), (38, (.if_icmp .ne 9, 41, 47, 0, [])), (41, (.aload_n 0, 42, 0, 0, [])), (42, (.iload_n 1, 43, 0, 0, [])), (43, (.invokevirtual 165, 46, 0, 0, [])), (46, (.ireturn, 47, 0, 0, [])), (47, (.iconst 0, 48, 0, 0, [])), (48, (.istore_n 3, 49, 0, 0, [])), (49, (.iload_n 2, 50, 0, 0, [])), (50, (.iconst 5, 51, 0, 5, [])), (51, (.if_icmp .ne 43, 54, 94, 0, [])), (54, (.aload_n 0, 55, 0, 0, [])), (55, (.iconst 2, 56, 0, 2, [])), (56, (.invokevirtual 162, 59, 0, 0, [])), (59, (.istore 4, 61, 0, 0, [])), (61, (.iload 4, 63, 0, 0, [])), (63, (.aload_n 0, 64, 0, 0, [])), (64, (.getfield 155, 67, 0, 0, [])), (67, (.if_icmp .ge 8, 70, 75, 0, [])), (70, (.iload 4, 72, 0, 0, [])), (72, (.goto 9, 75, 81, 0, [])), (75, (.aload_n 0, 76, 0, 0, [])), (76, (.getfield 155, 79, 0, 0, [])), (79, (.iconst 1, 80, 0, 1, [])), (80, (.isub, 81, 0, 0, [])), (81, (.istore 5, 83, 0, 0, [])), (83, (.aload_n 0, 84, 0, 0, [])), (84, (.getfield 53, 87, 0, 0, [])), (87, (.iload 5, 89, 0, 0, [])), (89, (.iconst (-1), 90, 0, (-1), [])), (90, (.iastore, 91, 0, 0, [])), (91, (.goto 23, 94, 114, 0, [])), (94, (.iload_n 2, 95, 0, 0, [])), (95, (.iconst 1, 96, 0, 1, [])), (96, (.if_icmp .ne 12, 99, 108, 0, [])), (99, (.aload_n 0, 100, 0, 0, [])), (100, (.iload_n 1, 101, 0, 0, [])), (101, (.invokevirtual 168, 104, 0, 0, [])), (104, (.istore_n 3, 105, 0, 0, [])), (105, (.goto 9, 108, 114, 0, [])), (108, (.aload_n 0, 109, 0, 0, [])), (109, (.iload_n 1, 110, 0, 0, [])), (110, (.invokevirtual 171, 113, 0, 0, [])), (113, (.istore_n 3, 114, 0, 0, [])), (114, (.iload_n 3, 115, 0, 0, [])), (115, (.ifCond .le 9, 118, 124, 0, [])), (118, (.iconst (-1), 119, 0, (-1), [])), (119, (.iload_n 3, 120, 0, 0, [])), (120, (.isub, 121, 0, 0, [])), (121, (.goto 13, 124, 134, 0, [])), (124, (.aload_n 0, 125, 0, 0, [])), (125, (.aload_n 0, 126, 0, 0, [])), (126, (.getfield 29, 129, 0, 0, [])), (129, (.iload_n 1, 130, 0, 0, [])), (130, (.iaload, 131, 0, 0, [])), (131, (.invokevirtual 99, 134, 0, 0, [])), (134, (.ireturn, 135, 0, 0, []))]
def F_M_visit : List (Nat × XF) := [(17, (4, 3, .array .int, false)), (155, (4, 21, .int, true)), (53, (4, 23, .array .int, false)), (29, (4, 7, .array .int, false))]
def C_M_visit : List (Nat × XK) := [(165, (q_M_choose, true, 1, 4)), (162, (q_M_take, true, 1, 4)), (168, (q_M_put, true, 1, 4)), (171, (q_M_keep, true, 1, 4)), (99, (q_M_goes, true, 1, 4))]
theorem okT_M_visit : T_M_visit.all (fun e => xgood q_M_visit.2.1 e.1 e.2) = true := by decide +kernel
theorem okF_M_visit : ∀ e ∈ F_M_visit, xfok q_M_visit.1.cls e.1 e.2 := List.forall_mem_cons.mpr ⟨⟨R_M, F_M, 27, rfl, by decide, t_M_ok 3 (by decide), (fun h => Bool.noConfusion h), tb2 (i := 203) rfl rfl⟩, List.forall_mem_cons.mpr ⟨⟨R_M, F_M, 27, rfl, by decide, t_M_ok 21 (by decide), (fun _ => rfl), tb2 (i := 221) rfl rfl⟩, List.forall_mem_cons.mpr ⟨⟨R_M, F_M, 27, rfl, by decide, t_M_ok 23 (by decide), (fun h => Bool.noConfusion h), tb2 (i := 223) rfl rfl⟩, List.forall_mem_cons.mpr ⟨⟨R_M, F_M, 27, rfl, by decide, t_M_ok 7 (by decide), (fun h => Bool.noConfusion h), tb2 (i := 207) rfl rfl⟩, fun _ h => absurd h List.not_mem_nil⟩⟩⟩⟩
theorem okC_M_visit : ∀ e ∈ C_M_visit, xcok q_M_visit.1.cls e.1 e.2 := List.forall_mem_cons.mpr ⟨⟨tb3 (i := 180) rfl rfl, tb1 (i := 6) rfl rfl, ⟨by decide, by decide, by decide +kernel⟩, by decide, tb3 (i := 177) rfl rfl, tb3 (i := 179) rfl rfl, tbS4 (i := 11) rfl, F_M, 27, rfl⟩, List.forall_mem_cons.mpr ⟨⟨tb3 (i := 184) rfl rfl, tb1 (i := 6) rfl rfl, ⟨by decide, by decide, by decide +kernel⟩, by decide, tb3 (i := 181) rfl rfl, tb3 (i := 183) rfl rfl, tbS4 (i := 12) rfl, F_M, 27, rfl⟩, List.forall_mem_cons.mpr ⟨⟨tb3 (i := 192) rfl rfl, tb1 (i := 6) rfl rfl, ⟨by decide, by decide, by decide +kernel⟩, by decide, tb3 (i := 189) rfl rfl, tb3 (i := 191) rfl rfl, tbS4 (i := 14) rfl, F_M, 27, rfl⟩, List.forall_mem_cons.mpr ⟨⟨tb3 (i := 196) rfl rfl, tb1 (i := 6) rfl rfl, ⟨by decide, by decide, by decide +kernel⟩, by decide, tb3 (i := 193) rfl rfl, tb3 (i := 195) rfl rfl, tbS4 (i := 15) rfl, F_M, 27, rfl⟩, List.forall_mem_cons.mpr ⟨⟨tb3 (i := 136) rfl rfl, tb1 (i := 6) rfl rfl, ⟨by decide, by decide, by decide +kernel⟩, by decide, tb3 (i := 133) rfl rfl, tb3 (i := 135) rfl rfl, tbS4 (i := 4) rfl, F_M, 27, rfl⟩, fun _ h => absurd h List.not_mem_nil⟩⟩⟩⟩⟩
theorem ok_M_visit : XOk q_M_visit T_M_visit F_M_visit C_M_visit := ⟨okT_M_visit, okF_M_visit, okC_M_visit⟩
def T_M_put : List (Nat × XE) := [(0, (.aload_n 0, 1, 0, 0, [])), (1, (.iload_n 1, 2, 0, 0, [])), (2, (.invokevirtual 60, 5, 0, 0, [])), (5, (.bipush 97, 7, 0, 97, [])), (7, (.isub, 8, 0, 0, [])), (8, (.istore_n 2, 9, 0, 0, [])), (9, (.aload_n 0, 10, 0, 0, [])), (10, (.iload_n 1, 11, 0, 0, [])), (11, (.iconst 2, 12, 0, 2, [])), (12, (.iadd, 13, 0, 0, [])), (13, (.invokevirtual 174, 16, 0, 0, [])), (16, (.istore_n 3, 17, 0, 0, [])), (17, (.iload_n 3, 18, 0, 0, [])), (18, (.bipush (-2), 20, 0, (-2), [])), (20, (.if_icmp .ne 5, 23, 25, 0, [])), (23, (.iconst 1, 24, 0, 1, [])), (24, (.ireturn, 25, 0, 0, [])), (25, (.iload_n 3, 26, 0, 0, [])), (26, (.ifCond .ge 14, 29, 40, 0, [])), (29, (.aload_n 0, 30, 0, 0, [])), (30, (.getfield 13, 33, 0, 0, [])), (33, (.iload_n 2, 34, 0, 0, [])), (34, (.baload, 35, 0, 0, [])), (35, (.ifCond .eq 5, 38, 40, 0, [])), (38, (.iconst 2, 39, 0, 2, [])), (39, (.ireturn, 40, 0, 0, [])), (40, (.aload_n 0, 41, 0, 0, [])), (41, (.getfield 47, 44, 0, 0, [])), (44, (.iload_n 2, 45, 0, 0, [])), (45, (.iload_n 3, 46, 0, 0, [])), (46, (.iastore, 47, 0, 0, [])), (47, (.iconst 0, 48, 0, 0, [])), (48, (.ireturn, 49, 0, 0, []))]
def F_M_put : List (Nat × XF) := [(13, (4, 2, .array .boolean, false)), (47, (4, 20, .array .int, false))]
def C_M_put : List (Nat × XK) := [(60, (q_M_at, true, 1, 4)), (174, (q_M_found, true, 1, 4))]
theorem okT_M_put : T_M_put.all (fun e => xgood q_M_put.2.1 e.1 e.2) = true := by decide +kernel
theorem okF_M_put : ∀ e ∈ F_M_put, xfok q_M_put.1.cls e.1 e.2 := List.forall_mem_cons.mpr ⟨⟨R_M, F_M, 27, rfl, by decide, t_M_ok 2 (by decide), (fun h => Bool.noConfusion h), tb2 (i := 202) rfl rfl⟩, List.forall_mem_cons.mpr ⟨⟨R_M, F_M, 27, rfl, by decide, t_M_ok 20 (by decide), (fun h => Bool.noConfusion h), tb2 (i := 220) rfl rfl⟩, fun _ h => absurd h List.not_mem_nil⟩⟩
theorem okC_M_put : ∀ e ∈ C_M_put, xcok q_M_put.1.cls e.1 e.2 := List.forall_mem_cons.mpr ⟨⟨tb3 (i := 73) rfl rfl, tb1 (i := 6) rfl rfl, ⟨by decide, by decide, by decide +kernel⟩, by decide, tb3 (i := 70) rfl rfl, tb3 (i := 72) rfl rfl, tbS3 (i := 6) rfl, F_M, 27, rfl⟩, List.forall_mem_cons.mpr ⟨⟨tb3 (i := 188) rfl rfl, tb1 (i := 6) rfl rfl, ⟨by decide, by decide, by decide +kernel⟩, by decide, tb3 (i := 185) rfl rfl, tb3 (i := 187) rfl rfl, tbS4 (i := 13) rfl, F_M, 27, rfl⟩, fun _ h => absurd h List.not_mem_nil⟩⟩
theorem ok_M_put : XOk q_M_put T_M_put F_M_put C_M_put := ⟨okT_M_put, okF_M_put, okC_M_put⟩
def T_M_keep : List (Nat × XE) := [(0, (.aload_n 0, 1, 0, 0, [])), (1, (.iload_n 1, 2, 0, 0, [])), (2, (.iconst 4, 3, 0, 4, [])), (3, (.iadd, 4, 0, 0, [])), (4, (.invokevirtual 174, 7, 0, 0, [])), (7, (.istore_n 2, 8, 0, 0, [])), (8, (.aload_n 0, 9, 0, 0, [])), (9, (.getfield 47, 12, 0, 0, [])), (12, (.aload_n 0, 13, 0, 0, [])), (13, (.iload_n 1, 14, 0, 0, [])), (14, (.invokevirtual 60, 17, 0, 0, [])), (17, (.bipush 97, 19, 0, 97, [])), (19, (.isub, 20, 0, 0, [])), (20, (.iaload, 21, 0, 0, [])), (21, (.istore_n 3, 22, 0, 0, [])), (22, (.iload_n 2, 23, 0, 0, [])), (23, (.bipush (-2), 25, 0, (-2), [])), (25, (.if_icmp .eq 7, 28, 32, 0, [])), (28, (.iload_n 3, 29, 0, 0, [])), (29, (.ifCond .ge 5, 32, 34, 0, [])), (32, (.iconst 1, 33, 0, 1, [])), (33, (.ireturn, 34, 0, 0, [])), (34, (.aload_n 0, 35, 0, 0, [])), (35, (.iload_n 1, 36, 0, 0, [])), (36, (.iconst 2, 37, 0, 2, [])), (37, (.iadd, 38, 0, 0, [])), (38, (.invokevirtual 60, 41, 0, 0, [])), (41, (.bipush 104, 43, 0, 104, [])), (43, (.if_icmp .ne 12, 46, 55, 0, [])), (46, (.aload_n 0, 47, 0, 0, [])), (47, (.getfield 53, 50, 0, 0, [])), (50, (.iload_n 3, 51, 0, 0, [])), (51, (.iload_n 2, 52, 0, 0, [])), (52, (.iastore, 53, 0, 0, [])), (53, (.iconst 0, 54, 0, 0, [])), (54, (.ireturn, 55, 0, 0, [])), (55, (.iload_n 2, 56, 0, 0, [])), (56, (.ifCond .ge 5, 59, 61, 0, [])), (59, (.iconst 2, 60, 0, 2, [])), (60, (.ireturn, 61, 0, 0, [])), (61, (.aload_n 0, 62, 0, 0, [])), (62, (.getfield 50, 65, 0, 0, [])), (65, (.iload_n 3, 66, 0, 0, [])), (66, (.iload_n 2, 67, 0, 0, [])), (67, (.iastore, 68, 0, 0, [])), (68, (.iconst 0, 69, 0, 0, [])), (69, (.ireturn, 70, 0, 0, []))]
def F_M_keep : List (Nat × XF) := [(47, (4, 20, .array .int, false)), (53, (4, 23, .array .int, false)), (50, (4, 22, .array .int, false))]
def C_M_keep : List (Nat × XK) := [(174, (q_M_found, true, 1, 4)), (60, (q_M_at, true, 1, 4))]
theorem okT_M_keep : T_M_keep.all (fun e => xgood q_M_keep.2.1 e.1 e.2) = true := by decide +kernel
theorem okF_M_keep : ∀ e ∈ F_M_keep, xfok q_M_keep.1.cls e.1 e.2 := List.forall_mem_cons.mpr ⟨⟨R_M, F_M, 27, rfl, by decide, t_M_ok 20 (by decide), (fun h => Bool.noConfusion h), tb2 (i := 220) rfl rfl⟩, List.forall_mem_cons.mpr ⟨⟨R_M, F_M, 27, rfl, by decide, t_M_ok 23 (by decide), (fun h => Bool.noConfusion h), tb2 (i := 223) rfl rfl⟩, List.forall_mem_cons.mpr ⟨⟨R_M, F_M, 27, rfl, by decide, t_M_ok 22 (by decide), (fun h => Bool.noConfusion h), tb2 (i := 222) rfl rfl⟩, fun _ h => absurd h List.not_mem_nil⟩⟩⟩
theorem okC_M_keep : ∀ e ∈ C_M_keep, xcok q_M_keep.1.cls e.1 e.2 := List.forall_mem_cons.mpr ⟨⟨tb3 (i := 188) rfl rfl, tb1 (i := 6) rfl rfl, ⟨by decide, by decide, by decide +kernel⟩, by decide, tb3 (i := 185) rfl rfl, tb3 (i := 187) rfl rfl, tbS4 (i := 13) rfl, F_M, 27, rfl⟩, List.forall_mem_cons.mpr ⟨⟨tb3 (i := 73) rfl rfl, tb1 (i := 6) rfl rfl, ⟨by decide, by decide, by decide +kernel⟩, by decide, tb3 (i := 70) rfl rfl, tb3 (i := 72) rfl rfl, tbS3 (i := 6) rfl, F_M, 27, rfl⟩, fun _ h => absurd h List.not_mem_nil⟩⟩
theorem ok_M_keep : XOk q_M_keep T_M_keep F_M_keep C_M_keep := ⟨okT_M_keep, okF_M_keep, okC_M_keep⟩
def T_M_choose : List (Nat × XE) := [(0, (.aload_n 0, 1, 0, 0, [])), (1, (.iload_n 1, 2, 0, 0, [])), (2, (.invokevirtual 60, 5, 0, 0, [])), (5, (.bipush 126, 7, 0, 126, [])), (7, (.if_icmp .ne 7, 10, 14, 0, [])), (10, (.iconst 1, 11, 0, 1, [])), (11, (.goto 4, 14, 15, 0, [])), (14, (.iconst 0, 15, 0, 0, [])), (15, (.istore_n 2, 16, 0, 0, [])), (16, (.aload_n 0, 17, 0, 0, [])), (17, (.iload_n 1, 18, 0, 0, [])), (18, (.invokevirtual 60, 21, 0, 0, [])), (21, (.bipush 37, 23, 0, 37, [])), (23, (.if_icmp .ne 25, 26, 48, 0, [])), (26, (.aload_n 0, 27, 0, 0, [])), (27, (.iconst 1, 28, 0, 1, [])), (28, (.invokevirtual 162, 31, 0, 0, [])), (31, (.istore_n 3, 32, 0, 0, [])), (32, (.aload_n 0, 33, 0, 0, [])), (33, (.iload_n 1, 34, 0, 0, [])), (34, (.iload_n 3, 35, 0, 0, [])), (35, (.iconst 1, 36, 0, 1, [])), (36, (.if_icmp .ne 7, 39, 43, 0, [])), (39, (.iconst 1, 40, 0, 1, [])), (40, (.goto 4, 43, 44, 0, [])), (43, (.iconst 0, 44, 0, 0, [])), (44, (.invokevirtual 126, 47, 0, 0, [])), (47, (.ireturn, 48, 0, 0, [])), (48, (.aload_n 0, 49, 0, 0, [])), (49, (.iload_n 2, 50, 0, 0, [])), (50, (.ifCond .eq 9, 53, 59, 0, [])), (53, (.iload_n 1, 54, 0, 0, [])), (54, (.iconst 1, 55, 0, 1, [])), (55, (.iadd, 56, 0, 0, [])), (56, (.goto 4, 59, 60, 0, [])), (59, (.iload_n 1, 60, 0, 0, [])), (60, (.invokevirtual 174, 63, 0, 0, [])), (63, (.istore_n 3, 64, 0, 0, [])), (64, (.iload_n 3, 65, 0, 0, [])), (65, (.bipush (-2), 67, 0, (-2), [])), (67, (.if_icmp .ne 6, 70, 73, 0, [])), (70, (.bipush (-2), 72, 0, (-2), [])), (72, (.ireturn, 73, 0, 0, [])), (73, (.aload_n 0, 74, 0, 0, [])), (74, (.iload_n 1, 75, 0, 0, [])), (75, (.iload_n 3, 76, 0, 0, [])), (76, (.ifCond .lt 7, 79, 83, 0, [])), (79, (.iconst 1, 80, 0, 1, [])), (80, (.goto 4, 83, 84, 0, [])), (83, (.iconst 0, 84, 0, 0, [])), (84, (.iload_n 2, 85, 0, 0, [])), (85, (.if_icmp .eq 7, 88, 92, 0, [])), (88, (.iconst 1, 89, 0, 1, [])), (89, (.goto 4, 92, 93, 0, [])), (92, (.iconst 0, 93, 0, 0, [])), (93, (.invokevirtual 126, 96, 0, 0, [])), (96, (.ireturn, 97, 0, 0, []))]
def F_M_choose : List (Nat × XF) := []
def C_M_choose : List (Nat × XK) := [(60, (q_M_at, true, 1, 4)), (162, (q_M_take, true, 1, 4)), (126, (q_M_turn, true, 2, 4)), (174, (q_M_found, true, 1, 4))]
theorem okT_M_choose : T_M_choose.all (fun e => xgood q_M_choose.2.1 e.1 e.2) = true := by decide +kernel
theorem okF_M_choose : ∀ e ∈ F_M_choose, xfok q_M_choose.1.cls e.1 e.2 := fun _ h => absurd h List.not_mem_nil
theorem okC_M_choose : ∀ e ∈ C_M_choose, xcok q_M_choose.1.cls e.1 e.2 := List.forall_mem_cons.mpr ⟨⟨tb3 (i := 73) rfl rfl, tb1 (i := 6) rfl rfl, ⟨by decide, by decide, by decide +kernel⟩, by decide, tb3 (i := 70) rfl rfl, tb3 (i := 72) rfl rfl, tbS3 (i := 6) rfl, F_M, 27, rfl⟩, List.forall_mem_cons.mpr ⟨⟨tb3 (i := 184) rfl rfl, tb1 (i := 6) rfl rfl, ⟨by decide, by decide, by decide +kernel⟩, by decide, tb3 (i := 181) rfl rfl, tb3 (i := 183) rfl rfl, tbS4 (i := 12) rfl, F_M, 27, rfl⟩, List.forall_mem_cons.mpr ⟨⟨tb3 (i := 132) rfl rfl, tb1 (i := 6) rfl rfl, ⟨by decide, by decide, by decide +kernel⟩, by decide, tb3 (i := 129) rfl rfl, tb3 (i := 131) rfl rfl, tbS4 (i := 3) rfl, F_M, 27, rfl⟩, List.forall_mem_cons.mpr ⟨⟨tb3 (i := 188) rfl rfl, tb1 (i := 6) rfl rfl, ⟨by decide, by decide, by decide +kernel⟩, by decide, tb3 (i := 185) rfl rfl, tb3 (i := 187) rfl rfl, tbS4 (i := 13) rfl, F_M, 27, rfl⟩, fun _ h => absurd h List.not_mem_nil⟩⟩⟩⟩
theorem ok_M_choose : XOk q_M_choose T_M_choose F_M_choose C_M_choose := ⟨okT_M_choose, okF_M_choose, okC_M_choose⟩
def T_M_run : List (Nat × XE) := [(0, (.aload_n 0, 1, 0, 0, [])), (1, (.invokevirtual 95, 4, 0, 0, [])), (4, (.ifCond .ne 5, 7, 9, 0, [])), (7, (.iconst (-1), 8, 0, (-1), [])), (8, (.ireturn, 9, 0, 0, [])), (9, (.aload_n 0, 10, 0, 0, [])), (10, (.iconst 1, 11, 0, 1, [])), (11, (.putfield 177, 14, 0, 0, [])), (14, (.aload_n 0, 15, 0, 0, [])), (15, (.iconst 0, 16, 0, 0, [])), (16, (.putfield 155, 19, 0, 0, [])), (19, (.aload_n 0, 20, 0, 0, [])), (20, (.invokevirtual 158, 23, 0, 0, [])), (23, (.istore 4, 25, 0, 0, [])), (25, (.iconst 0, 26, 0, 0, [])), (26, (.istore 5, 28, 0, 0, [])), (28, (.iload 5, 30, 0, 0, [])), (30, (.iconst 5, 31, 0, 5, [])), (31, (.if_icmp .ge 42, 34, 73, 0, [])), (34, (.aload_n 0, 35, 0, 0, [])), (35, (.getfield 47, 38, 0, 0, [])), (38, (.iload 5, 40, 0, 0, [])), (40, (.aload_n 0, 41, 0, 0, [])), (41, (.getfield 13, 44, 0, 0, [])), (44, (.iload 5, 46, 0, 0, [])), (46, (.baload, 47, 0, 0, [])), (47, (.ifCond .ne 13, 50, 60, 0, [])), (50, (.iload_n 1, 51, 0, 0, [])), (51, (.iload 5, 53, 0, 0, [])), (53, (.ishr, 54, 0, 0, [])), (54, (.iconst 1, 55, 0, 1, [])), (55, (.iand, 56, 0, 0, [])), (56, (.iconst 1, 57, 0, 1, [])), (57, (.if_icmp .ne 8, 60, 65, 0, [])), (60, (.iload 4, 62, 0, 0, [])), (62, (.goto 4, 65, 66, 0, [])), (65, (.iconst (-1), 66, 0, (-1), [])), (66, (.iastore, 67, 0, 0, [])), (67, (.iinc 5 1, 70, 0, 1, [])), (70, (.goto (-42), 73, 28, 0, [])), (73, (.aload_n 0, 74, 0, 0, [])), (74, (.lload_n 2, 75, 0, 0, [])), (75, (.putfield 151, 78, 0, 0, [])), (78, (.aload_n 0, 79, 0, 0, [])), (79, (.iconst 0, 80, 0, 0, [])), (80, (.putfield 180, 83, 0, 0, [])), (83, (.aload_n 0, 84, 0, 0, [])), (84, (.iconst 0, 85, 0, 0, [])), (85, (.invokevirtual 99, 88, 0, 0, [])), (88, (.istore 5, 90, 0, 0, [])), (90, (.iconst 0, 91, 0, 0, [])), (91, (.istore 6, 93, 0, 0, [])), (93, (.iload 6, 95, 0, 0, [])), (95, (.sipush 200, 98, 0, 200, [])), (98, (.if_icmp .ge 46, 101, 144, 0, [])), (101, (.aload_n 0, 102, 0, 0, [])), (102, (.iload 5, 104, 0, 0, [])), (104, (.invokevirtual 183, 107, 0, 0, [])), (107, (.istore 7, 109, 0, 0, [])), (109, (.iload 7, 111, 0, 0, [])), (111, (.ifCond .ge 13, 114, 124, 0, [])), (114, (.iconst 4, 115, 0, 4, [])), (115, (.iload 5, 117, 0, 0, [])), (117, (.imul, 118, 0, 0, [])), (118, (.iconst 1, 119, 0, 1, [])), (119, (.isub, 120, 0, 0, [])), (120, (.iload 7, 122, 0, 0, [])), (122, (.isub, 123, 0, 0, [])), (123, (.ireturn, 124, 0, 0, [])), (124, (.iload 7, 126, 0, 0, [])), (126, (.istore 5, 128, 0, 0, [])), (128, (.aload_n 0, 129, 0, 0, [])), (129, (.dup, 130, 0, 0, [])), (130, (.getfield 180, 133, 0, 0, [])), (133, (.iconst 1, 134, 0, 1, [])), (134, (.iadd, 135, 0, 0, [])), (135, (.putfield 180, 138, 0, 0, [])), (138, (.iinc 6 1, 141, 0, 1, [])), (141, (.goto (-48), 144, 93, 0, [])), (144, (.iconst 4, 145, 0, 4, [])), (145, (.iload 5, 147, 0, 0, [])), (147, (.imul, 148, 0, 0, [])), (148, (.iconst 3, 149, 0, 3, [])), (149, (.iadd, 150, 0, 0, [])), (150, (.ireturn, 151, 0, 0, []))]
def F_M_run : List (Nat × XF) := [(177, (4, 19, .boolean, true)), (155, (4, 21, .int, true)), (47, (4, 20, .array .int, false)), (13, (4, 2, .array .boolean, false)), (151, (4, 25, .long, true)), (180, (4, 24, .int, true))]
def C_M_run : List (Nat × XK) := [(95, (q_M_program, true, 0, 4)), (158, (q_M_create, true, 0, 4)), (99, (q_M_goes, true, 1, 4)), (183, (q_M_visit, true, 1, 4))]
theorem okT_M_run : T_M_run.all (fun e => xgood q_M_run.2.1 e.1 e.2) = true := by decide +kernel
theorem okF_M_run : ∀ e ∈ F_M_run, xfok q_M_run.1.cls e.1 e.2 := List.forall_mem_cons.mpr ⟨⟨R_M, F_M, 27, rfl, by decide, t_M_ok 19 (by decide), (fun _ => rfl), tb2 (i := 219) rfl rfl⟩, List.forall_mem_cons.mpr ⟨⟨R_M, F_M, 27, rfl, by decide, t_M_ok 21 (by decide), (fun _ => rfl), tb2 (i := 221) rfl rfl⟩, List.forall_mem_cons.mpr ⟨⟨R_M, F_M, 27, rfl, by decide, t_M_ok 20 (by decide), (fun h => Bool.noConfusion h), tb2 (i := 220) rfl rfl⟩, List.forall_mem_cons.mpr ⟨⟨R_M, F_M, 27, rfl, by decide, t_M_ok 2 (by decide), (fun h => Bool.noConfusion h), tb2 (i := 202) rfl rfl⟩, List.forall_mem_cons.mpr ⟨⟨R_M, F_M, 27, rfl, by decide, t_M_ok 25 (by decide), (fun _ => rfl), tb2 (i := 225) rfl rfl⟩, List.forall_mem_cons.mpr ⟨⟨R_M, F_M, 27, rfl, by decide, t_M_ok 24 (by decide), (fun _ => rfl), tb2 (i := 224) rfl rfl⟩, fun _ h => absurd h List.not_mem_nil⟩⟩⟩⟩⟩⟩
theorem okC_M_run : ∀ e ∈ C_M_run, xcok q_M_run.1.cls e.1 e.2 := List.forall_mem_cons.mpr ⟨⟨tb3 (i := 65) rfl rfl, tb1 (i := 6) rfl rfl, ⟨by decide, by decide, by decide +kernel⟩, by decide, tb3 (i := 62) rfl rfl, tb3 (i := 64) rfl rfl, tbS3 (i := 4) rfl, F_M, 27, rfl⟩, List.forall_mem_cons.mpr ⟨⟨tb3 (i := 172) rfl rfl, tb1 (i := 6) rfl rfl, ⟨by decide, by decide, by decide +kernel⟩, by decide, tb3 (i := 169) rfl rfl, tb3 (i := 171) rfl rfl, tbS4 (i := 9) rfl, F_M, 27, rfl⟩, List.forall_mem_cons.mpr ⟨⟨tb3 (i := 136) rfl rfl, tb1 (i := 6) rfl rfl, ⟨by decide, by decide, by decide +kernel⟩, by decide, tb3 (i := 133) rfl rfl, tb3 (i := 135) rfl rfl, tbS4 (i := 4) rfl, F_M, 27, rfl⟩, List.forall_mem_cons.mpr ⟨⟨tb3 (i := 176) rfl rfl, tb1 (i := 6) rfl rfl, ⟨by decide, by decide, by decide +kernel⟩, by decide, tb3 (i := 173) rfl rfl, tb3 (i := 175) rfl rfl, tbS4 (i := 10) rfl, F_M, 27, rfl⟩, fun _ h => absurd h List.not_mem_nil⟩⟩⟩⟩
theorem ok_M_run : XOk q_M_run T_M_run F_M_run C_M_run := ⟨okT_M_run, okF_M_run, okC_M_run⟩
def T_M_held : List (Nat × XE) := [(0, (.aload_n 0, 1, 0, 0, [])), (1, (.getfield 177, 4, 0, 0, [])), (4, (.ifCond .eq 21, 7, 25, 0, [])), (7, (.iload_n 1, 8, 0, 0, [])), (8, (.ifCond .lt 17, 11, 25, 0, [])), (11, (.iload_n 1, 12, 0, 0, [])), (12, (.iconst 5, 13, 0, 5, [])), (13, (.if_icmp .ge 12, 16, 25, 0, [])), (16, (.aload_n 0, 17, 0, 0, [])), (17, (.getfield 47, 20, 0, 0, [])), (20, (.iload_n 1, 21, 0, 0, [])), (21, (.iaload, 22, 0, 0, [])), (22, (.goto 4, 25, 26, 0, [])), (25, (.iconst (-1), 26, 0, (-1), [])), (26, (.ireturn, 27, 0, 0, []))]
def F_M_held : List (Nat × XF) := [(177, (4, 19, .boolean, true)), (47, (4, 20, .array .int, false))]
def C_M_held : List (Nat × XK) := []
theorem okT_M_held : T_M_held.all (fun e => xgood q_M_held.2.1 e.1 e.2) = true := by decide +kernel
theorem okF_M_held : ∀ e ∈ F_M_held, xfok q_M_held.1.cls e.1 e.2 := List.forall_mem_cons.mpr ⟨⟨R_M, F_M, 27, rfl, by decide, t_M_ok 19 (by decide), (fun _ => rfl), tb2 (i := 219) rfl rfl⟩, List.forall_mem_cons.mpr ⟨⟨R_M, F_M, 27, rfl, by decide, t_M_ok 20 (by decide), (fun h => Bool.noConfusion h), tb2 (i := 220) rfl rfl⟩, fun _ h => absurd h List.not_mem_nil⟩⟩
theorem okC_M_held : ∀ e ∈ C_M_held, xcok q_M_held.1.cls e.1 e.2 := fun _ h => absurd h List.not_mem_nil
theorem ok_M_held : XOk q_M_held T_M_held F_M_held C_M_held := ⟨okT_M_held, okF_M_held, okC_M_held⟩
def T_M_field : List (Nat × XE) := [(0, (.aload_n 0, 1, 0, 0, [])), (1, (.getfield 177, 4, 0, 0, [])), (4, (.ifCond .eq 24, 7, 28, 0, [])), (7, (.iload_n 1, 8, 0, 0, [])), (8, (.ifCond .lt 20, 11, 28, 0, [])), (11, (.iload_n 1, 12, 0, 0, [])), (12, (.aload_n 0, 13, 0, 0, [])), (13, (.getfield 155, 16, 0, 0, [])), (16, (.if_icmp .ge 12, 19, 28, 0, [])), (19, (.iload_n 2, 20, 0, 0, [])), (20, (.ifCond .lt 8, 23, 28, 0, [])), (23, (.iload_n 2, 24, 0, 0, [])), (24, (.iconst 1, 25, 0, 1, [])), (25, (.if_icmp .le 5, 28, 30, 0, [])), (28, (.iconst (-1), 29, 0, (-1), [])), (29, (.ireturn, 30, 0, 0, [])), (30, (.iload_n 2, 31, 0, 0, [])), (31, (.ifCond .ne 12, 34, 43, 0, [])), (34, (.aload_n 0, 35, 0, 0, [])), (35, (.getfield 50, 38, 0, 0, [])), (38, (.iload_n 1, 39, 0, 0, [])), (39, (.iaload, 40, 0, 0, [])), (40, (.goto 9, 43, 49, 0, [])), (43, (.aload_n 0, 44, 0, 0, [])), (44, (.getfield 53, 47, 0, 0, [])), (47, (.iload_n 1, 48, 0, 0, [])), (48, (.iaload, 49, 0, 0, [])), (49, (.ireturn, 50, 0, 0, []))]
def F_M_field : List (Nat × XF) := [(177, (4, 19, .boolean, true)), (155, (4, 21, .int, true)), (50, (4, 22, .array .int, false)), (53, (4, 23, .array .int, false))]
def C_M_field : List (Nat × XK) := []
theorem okT_M_field : T_M_field.all (fun e => xgood q_M_field.2.1 e.1 e.2) = true := by decide +kernel
theorem okF_M_field : ∀ e ∈ F_M_field, xfok q_M_field.1.cls e.1 e.2 := List.forall_mem_cons.mpr ⟨⟨R_M, F_M, 27, rfl, by decide, t_M_ok 19 (by decide), (fun _ => rfl), tb2 (i := 219) rfl rfl⟩, List.forall_mem_cons.mpr ⟨⟨R_M, F_M, 27, rfl, by decide, t_M_ok 21 (by decide), (fun _ => rfl), tb2 (i := 221) rfl rfl⟩, List.forall_mem_cons.mpr ⟨⟨R_M, F_M, 27, rfl, by decide, t_M_ok 22 (by decide), (fun h => Bool.noConfusion h), tb2 (i := 222) rfl rfl⟩, List.forall_mem_cons.mpr ⟨⟨R_M, F_M, 27, rfl, by decide, t_M_ok 23 (by decide), (fun h => Bool.noConfusion h), tb2 (i := 223) rfl rfl⟩, fun _ h => absurd h List.not_mem_nil⟩⟩⟩⟩
theorem okC_M_field : ∀ e ∈ C_M_field, xcok q_M_field.1.cls e.1 e.2 := fun _ h => absurd h List.not_mem_nil
theorem ok_M_field : XOk q_M_field T_M_field F_M_field C_M_field := ⟨okT_M_field, okF_M_field, okC_M_field⟩
def T_M_objects : List (Nat × XE) := [(0, (.aload_n 0, 1, 0, 0, [])), (1, (.getfield 177, 4, 0, 0, [])), (4, (.ifCond .eq 10, 7, 14, 0, [])), (7, (.aload_n 0, 8, 0, 0, [])), (8, (.getfield 155, 11, 0, 0, [])), (11, (.goto 4, 14, 15, 0, [])), (14, (.iconst 0, 15, 0, 0, [])), (15, (.ireturn, 16, 0, 0, []))]
def F_M_objects : List (Nat × XF) := [(177, (4, 19, .boolean, true)), (155, (4, 21, .int, true))]
def C_M_objects : List (Nat × XK) := []
theorem okT_M_objects : T_M_objects.all (fun e => xgood q_M_objects.2.1 e.1 e.2) = true := by decide +kernel
theorem okF_M_objects : ∀ e ∈ F_M_objects, xfok q_M_objects.1.cls e.1 e.2 := List.forall_mem_cons.mpr ⟨⟨R_M, F_M, 27, rfl, by decide, t_M_ok 19 (by decide), (fun _ => rfl), tb2 (i := 219) rfl rfl⟩, List.forall_mem_cons.mpr ⟨⟨R_M, F_M, 27, rfl, by decide, t_M_ok 21 (by decide), (fun _ => rfl), tb2 (i := 221) rfl rfl⟩, fun _ h => absurd h List.not_mem_nil⟩⟩
theorem okC_M_objects : ∀ e ∈ C_M_objects, xcok q_M_objects.1.cls e.1 e.2 := fun _ h => absurd h List.not_mem_nil
theorem ok_M_objects : XOk q_M_objects T_M_objects F_M_objects C_M_objects := ⟨okT_M_objects, okF_M_objects, okC_M_objects⟩
def T_M_steps : List (Nat × XE) := [(0, (.aload_n 0, 1, 0, 0, [])), (1, (.getfield 177, 4, 0, 0, [])), (4, (.ifCond .eq 10, 7, 14, 0, [])), (7, (.aload_n 0, 8, 0, 0, [])), (8, (.getfield 180, 11, 0, 0, [])), (11, (.goto 4, 14, 15, 0, [])), (14, (.iconst (-1), 15, 0, (-1), [])), (15, (.ireturn, 16, 0, 0, []))]
def F_M_steps : List (Nat × XF) := [(177, (4, 19, .boolean, true)), (180, (4, 24, .int, true))]
def C_M_steps : List (Nat × XK) := []
theorem okT_M_steps : T_M_steps.all (fun e => xgood q_M_steps.2.1 e.1 e.2) = true := by decide +kernel
theorem okF_M_steps : ∀ e ∈ F_M_steps, xfok q_M_steps.1.cls e.1 e.2 := List.forall_mem_cons.mpr ⟨⟨R_M, F_M, 27, rfl, by decide, t_M_ok 19 (by decide), (fun _ => rfl), tb2 (i := 219) rfl rfl⟩, List.forall_mem_cons.mpr ⟨⟨R_M, F_M, 27, rfl, by decide, t_M_ok 24 (by decide), (fun _ => rfl), tb2 (i := 224) rfl rfl⟩, fun _ h => absurd h List.not_mem_nil⟩⟩
theorem okC_M_steps : ∀ e ∈ C_M_steps, xcok q_M_steps.1.cls e.1 e.2 := fun _ h => absurd h List.not_mem_nil
theorem ok_M_steps : XOk q_M_steps T_M_steps F_M_steps C_M_steps := ⟨okT_M_steps, okF_M_steps, okC_M_steps⟩
end
section
/-! the class's cells: 0 Program (1 text, 2 kind, 3 local, 4 part, 5 value, 6 source, 7 way, 8 otherWay, 9 exit, 10 heads, 11 opens, 12 firstCloses), 13 Checker (14 states, 15 alarmsAt), 16 Machine (17 holds, 18 fieldG, 19 fieldH), 20 NullGuard -/
abbrev Sg : Type := Nat → Nat → Int32
/-- one place of one cell set anew -/
def us (z : Sg) (c j : Nat) (x : Int32) : Sg := fun a => if a = c then upd (z c) j x else z a
/-- one cell set anew -/
def uc (z : Sg) (c : Nat) (f : Nat → Int32) : Sg := fun a => if a = c then f else z a
def wP (z : Sg) (r : List va_E) : List va_E :=
  .inr (0, [.ref 1, .int (z 0 1), .int (z 0 2), .int (z 0 3), .ref 2, .ref 3, .ref 4, .ref 5, .ref 6, .ref 7, .ref 8, .ref 9, .ref 10, .ref 11, .ref 12, .int (z 0 15)])
  :: .inl (1, 64, .inl (z 1)) :: .inl (0, 65, .inl (z 2)) :: .inl (0, 65, .inl (z 3)) :: .inl (0, 65, .inl (z 4)) :: .inl (0, 65, .inl (z 5)) :: .inl (0, 65, .inl (z 6)) :: .inl (0, 65, .inl (z 7)) :: .inl (0, 65, .inl (z 8)) :: .inl (0, 65, .inl (z 9))
  :: .inl (0, 6, .inl (z 10)) :: .inl (0, 6, .inl (z 11)) :: .inl (0, 6, .inl (z 12)) :: r
def wC (z : Sg) (r : List va_E) : List va_E := .inr (1, [.ref 14, .ref 15, .int (z 13 2), .int (z 13 3), .int (z 13 4)]) :: .inl (0, 65, .inl (z 14)) :: .inl (0, 65, .inl (z 15)) :: r
def wH (z : Sg) (o : Int64) (r : List va_E) : List va_E := .inr (2, [.ref 17, .ref 18, .ref 19, .int (z 16 3), .int (z 16 4), .long o, .int (z 16 6)]) :: .inl (0, 5, .inl (z 17)) :: .inl (0, 8, .inl (z 18)) :: .inl (0, 8, .inl (z 19)) :: r
def wN (z : Sg) (r : List va_E) : List va_E := .inr (3, [.ref 0, .ref 13, .ref 16, .int (z 20 3), .int (z 20 4)]) :: r
/-- the whole class -/
def wX (z : Sg) (o : Int64) : List va_E := wP z (wC z (wH z o (wN z [])))
theorem us_s {z : Sg} {c j : Nat} {x : Int32} : us z c j x c = upd (z c) j x := by simp [us]
theorem us_n {z : Sg} {c j a : Nat} {x : Int32} (h : a ≠ c) : us z c j x a = z a := by simp [us, h]
theorem uc_s {z : Sg} {c : Nat} {f : Nat → Int32} : uc z c f c = f := by simp [uc]
theorem uc_n {z : Sg} {c a : Nat} {f : Nat → Int32} (h : a ≠ c) : uc z c f a = z a := by simp [uc, h]
/-- a place in the text, or none -/
def oI : Option Nat → Int32
  | none => -1
  | some i => nI i
/-- the character at a place: nothing behind the text -/
def chr (t : Nat → Int32) (n i : Nat) : Int32 := if i < n then t i else 0
abbrev xch (z : Sg) (n i : Nat) : Int32 := chr (z 1) n i
theorem nI_p1 (i : Nat) : nI i + 1 = nI (i + 1) := nI_add i 1
theorem nI_p2 (i : Nat) : nI i + 2 = nI (i + 2) := nI_add i 2
theorem nI_p3 (i : Nat) : nI i + 3 = nI (i + 3) := nI_add i 3
theorem cl_nI {i : Nat} (h : i < 2000) : (nI i).toNatClampNeg = i := nI_clamp (by omega)
theorem in_nI {i N : Nat} (h : i < N) (hN : N < 2000) : vp_in (nI i) N := vp_in_nI h (by omega)
theorem nI_le' {a b : Nat} (ha : a < 2000) (hb : b < 2000) : nI a ≤ nI b ↔ a ≤ b := nI_leI (by omega) (by omega)
theorem nI_lt' {a b : Nat} (ha : a < 2000) (hb : b < 2000) : nI a < nI b ↔ a < b := nI_ltI (by omega) (by omega)
theorem nI_eq' {a b : Nat} (ha : a < 2000) (hb : b < 2000) : nI a = nI b ↔ a = b := nI_eq (by omega) (by omega)
theorem nI_n0 {a : Nat} (ha : a < 2000) : ¬ nI a < 0 := nI_pos (by omega)
theorem nI_g0 {a : Nat} (ha : a < 2000) : 0 ≤ nI a := nI_pos' (by omega)
theorem nI_nm1 {a : Nat} (ha : a < 2000) : ¬ nI a = -1 := fun h => nI_n0 ha (by rw [h]; decide)
/-- a value that a char may hold -/
abbrev okc (x : Int32) : Prop := narrow .char (.int x) = .int x ∧ fits .char (.int x) = true
theorem okc_0 : okc 0 := by decide
def okt (t : Nat → Int32) : Prop := ∀ j, okc (t j)
theorem okc_chr {t : Nat → Int32} {n i : Nat} (h : okt t) : okc (chr t n i) := by
  unfold chr; split
  · exact h i
  · exact okc_0
/-- the text of the program: its characters, their number -/
def PT (z : Sg) (t : Nat → Int32) (n : Nat) : Prop := z 0 1 = nI n ∧ n ≤ 64 ∧ z 1 = t ∧ okt t
end
section
/-! Program: the readers of single characters -/
set_option maxRecDepth 100000 in
set_option maxHeartbeats 4000000 in
theorem c_P_charAt (l : Launch) (z : Sg) (r : List va_E) {t : Nat → Int32} {n : Nat} (i : Nat) (hp : PT z t n) (hi : i < 1000) {x : Int32} (hx : x = nI i := by rfl) : XMet l 0 q_P_charAt [.ref 0, .int x] (wP z r) (some (.int (chr t n i))) (wP z r) := by
  obtain ⟨hz, hn, rfl, ht⟩ := hp
  subst hx
  refine xm_intro (by decide +kernel) (Nat.le_of_ble_eq_true rfl) ?_
  refine xw_go xcls ok_P_charAt 40 [] ?_
  refine And.intro (fun h => ?_) (fun h => ?_)
  · exact absurd h (nI_n0 (by omega))
  · refine And.intro (fun h => ?_) (fun h => ?_)
    · rw [hz, nI_le' (by omega) (by omega)] at h
      have e : chr (z 1) n i = 0 := by simp [chr, Nat.not_lt.mpr h]
      rw [e]
      exact And.intro okc_0 ⟨rfl, rfl⟩
    · rw [hz, nI_le' (by omega) (by omega)] at h
      have e : chr (z 1) n i = z 1 i := by simp [chr, Nat.not_le.mp h]
      rw [e]
      refine And.intro (in_nI (by omega) (by omega)) ?_
      rw [cl_nI (by omega)]
      exact And.intro (ht i) ⟨rfl, rfl⟩
set_option maxRecDepth 100000 in
set_option maxHeartbeats 4000000 in
theorem c_P_charAtB (l : Launch) (z : Sg) (r : List va_E) : XMet l 0 q_P_charAt [.ref 0, .int (-1)] (wP z r) (some (.int 0)) (wP z r) := by
  refine xm_intro (by decide +kernel) (Nat.le_of_ble_eq_true rfl) ?_
  refine xw_go xcls ok_P_charAt 40 [] ?_
  refine And.intro (fun h => ?_) (fun h => absurd (by decide) h)
  exact And.intro okc_0 ⟨rfl, rfl⟩
/-- the character at a place or at none -/
def chO (c : Nat → Int32) : Option Nat → Int32
  | none => 0
  | some i => c i
theorem c_P_charAtO (l : Launch) (z : Sg) (r : List va_E) {t : Nat → Int32} {n : Nat} (o : Option Nat) (hp : PT z t n) (hi : ∀ i, o = some i → i < 1000) : XMet l 0 q_P_charAt [.ref 0, .int (oI o)] (wP z r) (some (.int (chO (chr t n) o))) (wP z r) := by
  cases o with
  | none => exact c_P_charAtB l z r
  | some i => exact c_P_charAt l z r i hp (hi i rfl)
/-- the number of a local, or -1 -/
def lcI (x : Int32) : Int32 := if 97 ≤ x ∧ x ≤ 101 then x - 97 else -1
set_option maxRecDepth 100000 in
set_option maxHeartbeats 4000000 in
theorem c_P_localOf (l : Launch) (w : List va_E) (x : Int32) : XMet l 0 q_P_localOf [.int x] w (some (.int (lcI x))) w := by
  refine xm_intro (by decide +kernel) (Nat.le_of_ble_eq_true rfl) ?_
  refine xw_go xcls ok_P_localOf 40 [] ?_
  refine And.intro (fun h => ?_) (fun h => ?_)
  · have e : lcI x = -1 := by
      unfold lcI; rw [if_neg]; intro q; exact absurd h (Int32.not_lt.mpr q.1)
    rw [e]
    exact And.intro trivial ⟨rfl, rfl⟩
  · refine And.intro (fun h2 => ?_) (fun h2 => ?_)
    · have e : lcI x = -1 := by
        unfold lcI; rw [if_neg]; intro q; exact absurd h2 (Int32.not_lt.mpr q.2)
      rw [e]
      exact And.intro trivial ⟨rfl, rfl⟩
    · have e : lcI x = x - 97 := by
        unfold lcI; rw [if_pos ⟨Int32.not_lt.mp h, Int32.not_lt.mp h2⟩]
      rw [e]
      exact And.intro trivial ⟨rfl, rfl⟩
/-- what a local, with or without a field, names at a place -/
def fPart (c : Nat → Int32) (i : Nat) : Int32 := if lcI (c i) = -1 then -1 else if c (i + 1) = 46 then (if c (i + 2) = 103 then 1 else if c (i + 2) = 104 then 2 else -1) else 0
def fVal (c : Nat → Int32) (i : Nat) : Int32 := if c i = 110 then 3 else if c i = 78 then 4 else if c i = 64 then 5 else fPart c i
def fBeh (i : Nat) (k : Int32) : Nat := if k = 1 ∨ k = 2 then i + 3 else i + 1
set_option maxRecDepth 100000 in
set_option maxHeartbeats 4000000 in
theorem c_P_partAt (l : Launch) (z : Sg) (r : List va_E) {t : Nat → Int32} {n : Nat} (i : Nat) (hp : PT z t n) (hi : i < 900) {x : Int32} (hx : x = nI i := by rfl) : XMet l 1 q_P_partAt [.ref 0, .int x] (wP z r) (some (.int (fPart (chr t n) i))) (wP z r) := by
  subst hx
  refine xm_intro (by decide +kernel) (Nat.le_of_ble_eq_true rfl) ?_
  refine xw_go xcls ok_P_partAt 60 [] ?_
  refine ⟨0, _, _, by decide, c_P_charAt l z r i hp (by omega), ?_⟩
  refine ⟨0, _, _, by decide, c_P_localOf l _ _, ?_⟩
  refine And.intro (fun h => ?_) (fun h => ?_)
  · refine ⟨0, _, _, by decide, c_P_charAt l z r (i + 1) hp (by omega) (nI_p1 i), ?_⟩
    refine And.intro (fun h2 => ?_) (fun h2 => ?_)
    · refine ⟨0, _, _, by decide, c_P_charAt l z r (i + 2) hp (by omega) (nI_p2 i), ?_⟩
      refine And.intro (fun h3 => ?_) (fun h3 => ?_)
      · refine And.intro (fun h4 => ?_) (fun h4 => ?_)
        · exact And.intro trivial ⟨by simp [fPart, h, h2, h3, h4], rfl⟩
        · exact And.intro trivial ⟨by simp [fPart, h, h2, h4], rfl⟩
      · exact And.intro trivial ⟨by simp [fPart, h, h2, h3], rfl⟩
    · exact And.intro trivial ⟨by simp [fPart, h, h2], rfl⟩
  · exact And.intro trivial ⟨by simp [fPart, h], rfl⟩
set_option maxRecDepth 100000 in
set_option maxHeartbeats 4000000 in
theorem c_P_valueAt (l : Launch) (z : Sg) (r : List va_E) {t : Nat → Int32} {n : Nat} (i : Nat) (hp : PT z t n) (hi : i < 900) {x : Int32} (hx : x = nI i := by rfl) : XMet l 2 q_P_valueAt [.ref 0, .int x] (wP z r) (some (.int (fVal (chr t n) i))) (wP z r) := by
  subst hx
  refine xm_intro (by decide +kernel) (Nat.le_of_ble_eq_true rfl) ?_
  refine xw_go xcls ok_P_valueAt 60 [] ?_
  refine ⟨0, _, _, by decide, c_P_charAt l z r i hp (by omega), ?_⟩
  refine And.intro (fun h => ?_) (fun h => ?_)
  · refine And.intro (fun h2 => ?_) (fun h2 => ?_)
    · refine And.intro (fun h3 => ?_) (fun h3 => ?_)
      · refine ⟨1, _, _, by decide, c_P_partAt l z r i hp (by omega), ?_⟩
        exact And.intro trivial ⟨by simp [fVal, h, h2, h3], rfl⟩
      · exact And.intro trivial ⟨by simp [fVal, h3], rfl⟩
    · exact And.intro trivial ⟨by simp [fVal, h2], rfl⟩
  · exact And.intro trivial ⟨by simp [fVal, h], rfl⟩
set_option maxRecDepth 100000 in
set_option maxHeartbeats 4000000 in
theorem c_P_behind (l : Launch) (w : List va_E) (i : Nat) (k : Int32) {x : Int32} (hx : x = nI i := by rfl) : XMet l 0 q_P_behind [.int x, .int k] w (some (.int (nI (fBeh i k)))) w := by
  subst hx
  refine xm_intro (by decide +kernel) (Nat.le_of_ble_eq_true rfl) ?_
  refine xw_go xcls ok_P_behind 40 [] ?_
  refine And.intro (fun h => ?_) (fun h => ?_)
  · exact And.intro trivial ⟨by simp [fBeh, h, nI_p3], rfl⟩
  · refine And.intro (fun h2 => ?_) (fun h2 => ?_)
    · exact And.intro trivial ⟨by simp [fBeh, h, h2, nI_p1], rfl⟩
    · exact And.intro trivial ⟨by simp [fBeh, h2, nI_p3], rfl⟩
set_option maxRecDepth 100000 in
set_option maxHeartbeats 4000000 in
theorem c_P_readSign (l : Launch) (z : Sg) (r : List va_E) {t : Nat → Int32} {n : Nat} (i : Nat) (k : Int32) (hp : PT z t n) (hi : i < 65) : XMet l 1 q_P_readSign [.ref 0, .int (nI i), .int k] (wP z r) (some (.int (oI (if chr t n (i + 1) = 59 then some (i + 2) else none)))) (wP (us (us z 2 i k) 7 i (nI (i + 2))) r) := by
  refine xm_intro (by decide +kernel) (Nat.le_of_ble_eq_true rfl) ?_
  refine xw_go xcls ok_P_readSign 60 [] ?_
  refine And.intro (in_nI (by omega) (by omega)) ?_
  rw [cl_nI (by omega)]
  refine And.intro (in_nI (by omega) (by omega)) ?_
  rw [cl_nI (by omega), nI_p2]
  refine ⟨0, _, _, by decide, c_P_charAt l (us (us z 2 i k) 7 i (nI (i + 2))) r (i + 1) hp (by omega) (nI_p1 i), ?_⟩
  refine And.intro (fun h => ?_) (fun h => ?_)
  · exact And.intro trivial ⟨by simp [h, oI], rfl⟩
  · exact And.intro trivial ⟨by simp [h, oI, nI_p2], rfl⟩
/-- a write, read -/
def fWrite (c : Nat → Int32) (z : Sg) (i : Nat) : Option Nat × Sg :=
  let g := fPart c i
  let s := fBeh i g
  if g = -1 ∨ ¬ c s = 61 then (none, z) else
  let v := fVal c (s + 1)
  let e := fBeh (s + 1) v
  if v = -1 ∨ ¬ c e = 59 then (none, z) else
  (some (e + 1), us (us (us (us (us (us z 2 i 1) 3 i (lcI (c i))) 4 i g) 5 i v) 6 i (lcI (c (s + 1)))) 7 i (nI (e + 1)))
theorem fBeh_le (i : Nat) (k : Int32) : fBeh i k ≤ i + 3 := by unfold fBeh; split <;> omega
set_option maxRecDepth 100000 in
set_option maxHeartbeats 4000000 in
theorem c_P_readWrite (l : Launch) (z : Sg) (r : List va_E) {t : Nat → Int32} {n : Nat} (i : Nat) (hp : PT z t n) (hi : i < 65) : XMet l 3 q_P_readWrite [.ref 0, .int (nI i)] (wP z r) (some (.int (oI (fWrite (chr t n) z i).1))) (wP (fWrite (chr t n) z i).2 r) := by
  refine xm_intro (by decide +kernel) (Nat.le_of_ble_eq_true rfl) ?_
  refine xw_go xcls ok_P_readWrite 120 [] ?_
  refine ⟨1, _, _, by decide, c_P_partAt l z r i hp (by omega), ?_⟩
  refine ⟨0, _, _, by decide, c_P_behind l _ i _, ?_⟩
  have hs := fBeh_le i (fPart (chr t n) i)
  generalize hg : fPart (chr t n) i = g at hs ⊢
  generalize hsn : fBeh i g = s at hs ⊢
  refine And.intro (fun h => ?_) (fun h => ?_)
  · exact And.intro trivial ⟨by simp [fWrite, hg, hsn, h, oI], by simp [fWrite, hg, hsn, h]⟩
  · refine ⟨0, _, _, by decide, c_P_charAt l z r s hp (by omega), ?_⟩
    refine And.intro (fun h2 => ?_) (fun h2 => ?_)
    · refine ⟨2, _, _, by decide, c_P_valueAt l z r (s + 1) hp (by omega) (nI_p1 s), ?_⟩
      refine ⟨0, _, _, by decide, c_P_behind l _ (s + 1) _ (nI_p1 s), ?_⟩
      have he := fBeh_le (s + 1) (fVal (chr t n) (s + 1))
      generalize hv : fVal (chr t n) (s + 1) = v at he ⊢
      generalize hen : fBeh (s + 1) v = e at he ⊢
      refine And.intro (fun h3 => ?_) (fun h3 => ?_)
      · exact And.intro trivial ⟨by simp [fWrite, hg, hsn, h, h2, hv, hen, h3, oI], by simp [fWrite, hg, hsn, h, h2, hv, hen, h3]⟩
      · refine ⟨0, _, _, by decide, c_P_charAt l z r e hp (by omega), ?_⟩
        refine And.intro (fun h4 => ?_) (fun h4 => ?_)
        · refine And.intro (in_nI (by omega) (by omega)) ?_
          rw [cl_nI (by omega)]
          refine ⟨0, _, _, by decide, c_P_charAt l (us z 2 i 1) r i hp (by omega), ?_⟩
          refine ⟨0, _, _, by decide, c_P_localOf l _ _, ?_⟩
          refine And.intro (in_nI (by omega) (by omega)) ?_
          rw [cl_nI (by omega)]
          refine And.intro (in_nI (by omega) (by omega)) ?_
          rw [cl_nI (by omega)]
          refine And.intro (in_nI (by omega) (by omega)) ?_
          rw [cl_nI (by omega)]
          refine ⟨0, _, _, by decide, c_P_charAt l (us (us (us (us z 2 i 1) 3 i (lcI (chr t n i))) 4 i g) 5 i v) r (s + 1) hp (by omega) (nI_p1 s), ?_⟩
          refine ⟨0, _, _, by decide, c_P_localOf l _ _, ?_⟩
          refine And.intro (in_nI (by omega) (by omega)) ?_
          rw [cl_nI (by omega)]
          refine And.intro (in_nI (by omega) (by omega)) ?_
          rw [cl_nI (by omega), nI_p1]
          have e0 : fWrite (chr t n) z i = (some (e + 1), us (us (us (us (us (us z 2 i 1) 3 i (lcI (chr t n i))) 4 i g) 5 i v) 6 i (lcI (chr t n (s + 1)))) 7 i (nI (e + 1))) := by simp [fWrite, hg, hsn, h, h2, hv, hen, h3, h4]
          rw [e0]
          exact And.intro trivial ⟨by simp [oI, nI_p1], rfl⟩
        · exact And.intro trivial ⟨by simp [fWrite, hg, hsn, h, h2, hv, hen, h4, oI], by simp [fWrite, hg, hsn, h, h2, hv, hen, h4]⟩
    · exact And.intro trivial ⟨by simp [fWrite, hg, hsn, h2, oI], by simp [fWrite, hg, hsn, h2]⟩
end
section
/-! Program: atoms and conditions, blocks -/
theorem fBeh_gt (i : Nat) (k : Int32) : i < fBeh i k := by unfold fBeh; split <;> omega
/-- where an atom's name begins -/
def aNm (c : Nat → Int32) (i : Nat) : Nat := if c i = 126 then i + 1 else i
/-- where an atom ends -/
def aEnd (c : Nat → Int32) (i : Nat) : Option Nat := if c i = 37 then some (i + 1) else if fPart c (aNm c i) = -1 then none else some (fBeh (aNm c i) (fPart c (aNm c i)))
/-- what reading an atom leaves -/
def aZ (c : Nat → Int32) (z : Sg) (i : Nat) : Sg := if c i = 37 then us (us z 2 i 5) 4 i 6 else if fPart c (aNm c i) = -1 then z else us (us (us z 2 i 5) 3 i (lcI (c (aNm c i)))) 4 i (fPart c (aNm c i))
theorem aEnd_le {c : Nat → Int32} {i j : Nat} (h : aEnd c i = some j) : i < j ∧ j ≤ i + 4 := by
  have h1 := fBeh_le (aNm c i) (fPart c (aNm c i))
  have h2 := fBeh_gt (aNm c i) (fPart c (aNm c i))
  have h3 : i ≤ aNm c i ∧ aNm c i ≤ i + 1 := by unfold aNm; split <;> omega
  unfold aEnd at h
  split at h
  · cases h; omega
  · split at h
    · cases h
    · cases h; omega
theorem PT_aZ {c : Nat → Int32} {z : Sg} {i : Nat} {t : Nat → Int32} {n : Nat} (hp : PT z t n) : PT (aZ c z i) t n := by
  unfold aZ; split
  · exact hp
  · split <;> exact hp
set_option maxRecDepth 100000 in
set_option maxHeartbeats 1000000 in
theorem c_P_readAtom (l : Launch) (z : Sg) (r : List va_E) {t : Nat → Int32} {n : Nat} (i : Nat) (hp : PT z t n) (hi : i < 65) {x : Int32} (hx : x = nI i := by rfl) : XMet l 2 q_P_readAtom [.ref 0, .int x] (wP z r) (some (.int (oI (aEnd (chr t n) i)))) (wP (aZ (chr t n) z i) r) := by
  subst hx
  refine xm_intro (by decide +kernel) (Nat.le_of_ble_eq_true rfl) ?_
  have hnm : i ≤ aNm (chr t n) i ∧ aNm (chr t n) i ≤ i + 1 := by unfold aNm; split <;> omega
  have rest : ∀ (b : Nat) (x : Int32), x = nI b → b = aNm (chr t n) i → ¬ chr t n i = 37 → XW l 2 q_P_readAtom (fun a b => a = some (.int (oI (aEnd (chr t n) i))) ∧ b = wP (aZ (chr t n) z i) r) 46 [(0, .ref 0), (1, .int (nI i))] [.int x] (wP z r) := by
    intro b x hx hb h0
    subst hx
    refine xw_go xcls ok_P_readAtom 100 [] ?_
    refine ⟨1, _, _, by decide, c_P_partAt l z r b hp (by omega), ?_⟩
    generalize hg : fPart (chr t n) b = g
    refine And.intro (fun h => ?_) (fun h => ?_)
    · refine And.intro (in_nI (by omega) (by omega)) ?_
      rw [cl_nI (by omega)]
      refine ⟨0, _, _, by decide, c_P_charAt l (us z 2 i 5) r b hp (by omega), ?_⟩
      refine ⟨0, _, _, by decide, c_P_localOf l _ _, ?_⟩
      refine And.intro (in_nI (by omega) (by omega)) ?_
      rw [cl_nI (by omega)]
      refine And.intro (in_nI (by omega) (by omega)) ?_
      rw [cl_nI (by omega)]
      refine ⟨0, _, _, by decide, c_P_behind l _ b _, ?_⟩
      exact And.intro trivial ⟨by simp [aEnd, h0, ← hb, hg, h, oI], by simp [aZ, h0, ← hb, hg, h]; rfl⟩
    · exact And.intro trivial ⟨by simp [aEnd, h0, ← hb, hg, h, oI], by simp [aZ, h0, ← hb, hg, h]⟩
  refine xw_go xcls ok_P_readAtom 120 [(46, [0, 1])] ?_
  refine ⟨0, _, _, by decide, c_P_charAt l z r i hp (by omega), ?_⟩
  refine And.intro (fun h => ?_) (fun h => ?_)
  · refine ⟨0, _, _, by decide, c_P_charAt l z r i hp (by omega), ?_⟩
    refine And.intro (fun h2 => ?_) (fun h2 => ?_)
    · exact rest i (nI i) rfl (by simp [aNm, h2]) h
    · exact rest (i + 1) (nI i + 1) (nI_p1 i) (by simp [aNm, h2]) h
  · refine And.intro (in_nI (by omega) (by omega)) ?_
    rw [cl_nI (by omega)]
    refine And.intro (in_nI (by omega) (by omega)) ?_
    rw [cl_nI (by omega)]
    exact And.intro trivial ⟨by simp [aEnd, h, oI, nI_p1], by simp [aZ, h]; rfl⟩
/-- on to the next atoms, while & or | stands -/
def fCL (c : Nat → Int32) : Nat → Sg → Option Nat → Option Nat × Sg
  | 0, z, o => (o, z)
  | _ + 1, z, none => (none, z)
  | k + 1, z, some j => if c j = 38 ∨ c j = 124 then fCL c k (aZ c z (j + 1)) (aEnd c (j + 1)) else (some j, z)
theorem chr_lt {t : Nat → Int32} {n i : Nat} {x : Int32} (h : chr t n i = x) (hx : ¬ x = 0) : i < n := by
  unfold chr at h; split at h
  · assumption
  · exact absurd h.symm hx
set_option maxRecDepth 100000 in
set_option maxHeartbeats 1000000 in
theorem lp_P_readCondition (l : Launch) (r : List va_E) {t : Nat → Int32} {n : Nat} (i : Nat) : ∀ (m : Nat) (z : Sg) (o : Option Nat), PT z t n → m ≤ 64 → (∀ j, o = some j → j < 900) →
    XW l 3 q_P_readCondition (fun a b => a = some (.int (oI (fCL (chr t n) m z o).1)) ∧ b = wP (fCL (chr t n) m z o).2 r) 26 [(0, .ref 0), (1, .int (nI i)), (2, .int (oI o)), (3, .int (nI (64 - m)))] [] (wP z r)
  | 0, z, o, hp, hm, ho => by
    refine xw_go xcls ok_P_readCondition 60 [] ?_
    refine And.intro (fun h => ?_) (fun h => absurd (by decide) h)
    exact And.intro trivial ⟨rfl, rfl⟩
  | m + 1, z, o, hp, hm, ho => by
    refine xw_go xcls ok_P_readCondition 60 [(26, [0, 1, 2, 3])] ?_
    refine And.intro (fun h => ?_) (fun h => ?_)
    · exact absurd h (by rw [show (64 : Int32) = nI 64 from rfl, nI_le' (by omega) (by omega)]; omega)
    · have hn := hp.2.1
      refine ⟨0, _, _, by decide, c_P_charAtO l z r o hp (fun j hj => by have := ho j hj; omega), ?_⟩
      refine And.intro (fun h2 => ?_) (fun h2 => ?_)
      · cases o with
        | none => exact absurd h2 (by simp [chO])
        | some j =>
          have hj : j < n := chr_lt h2 (by decide)
          refine ⟨2, _, _, by decide, c_P_readAtom l z r (j + 1) hp (by omega) (nI_p1 j), ?_⟩
          have ih := lp_P_readCondition l r i m (aZ (chr t n) z (j + 1)) (aEnd (chr t n) (j + 1)) (PT_aZ hp) (by omega) (fun q hq => by have := aEnd_le hq; omega)
          have e : fCL (chr t n) (m + 1) z (some j) = fCL (chr t n) m (aZ (chr t n) z (j + 1)) (aEnd (chr t n) (j + 1)) := by
            have h2' : chr t n j = 38 := h2
            simp [fCL, h2']
          rw [e]
          rw [show nI (64 - m) = nI (64 - (m + 1)) + 1 by rw [nI_p1]; congr 1; omega] at ih
          exact ih
      · refine ⟨0, _, _, by decide, c_P_charAtO l z r o hp (fun j hj => by have := ho j hj; omega), ?_⟩
        refine And.intro (fun h3 => ?_) (fun h3 => ?_)
        · have e : fCL (chr t n) (m + 1) z o = (o, z) := by
            cases o with
            | none => rfl
            | some j =>
              have h2' : ¬ chr t n j = 38 := h2
              have h3' : ¬ chr t n j = 124 := h3
              simp [fCL, h2', h3']
          rw [e]
          exact And.intro trivial ⟨rfl, rfl⟩
        · cases o with
          | none => exact absurd h3 (by simp [chO])
          | some j =>
            have hj : j < n := chr_lt h3 (by decide)
            refine ⟨2, _, _, by decide, c_P_readAtom l z r (j + 1) hp (by omega) (nI_p1 j), ?_⟩
            have ih := lp_P_readCondition l r i m (aZ (chr t n) z (j + 1)) (aEnd (chr t n) (j + 1)) (PT_aZ hp) (by omega) (fun q hq => by have := aEnd_le hq; omega)
            have e : fCL (chr t n) (m + 1) z (some j) = fCL (chr t n) m (aZ (chr t n) z (j + 1)) (aEnd (chr t n) (j + 1)) := by
              have h2' : chr t n j = 124 := h3
              simp [fCL, h2']
            rw [e]
            rw [show nI (64 - m) = nI (64 - (m + 1)) + 1 by rw [nI_p1]; congr 1; omega] at ih
            exact ih
end
section
/-! Program: conditions, blocks, the ways out of them -/
def fCond (c : Nat → Int32) (z : Sg) (i : Nat) : Option Nat × Sg := fCL c 64 (aZ c (us (us z 2 i 2) 7 i (nI (i + 1))) (i + 1)) (aEnd c (i + 1))
theorem PT_fCL {c t : Nat → Int32} {n : Nat} : ∀ (k : Nat) (z : Sg) (o : Option Nat), PT z t n → PT (fCL c k z o).2 t n
  | 0, z, o, h => h
  | k + 1, z, none, h => h
  | k + 1, z, some j, h => by
    unfold fCL; split
    · exact PT_fCL k _ _ (PT_aZ h)
    · exact h
theorem PT_fCond {c t : Nat → Int32} {n : Nat} {z : Sg} {i : Nat} (h : PT z t n) : PT (fCond c z i).2 t n := PT_fCL _ _ _ (PT_aZ h)
set_option maxRecDepth 100000 in
set_option maxHeartbeats 1000000 in
theorem c_P_readCondition (l : Launch) (z : Sg) (r : List va_E) {t : Nat → Int32} {n : Nat} (i : Nat) (hp : PT z t n) (hi : i < 64) : XMet l 3 q_P_readCondition [.ref 0, .int (nI i)] (wP z r) (some (.int (oI (fCond (chr t n) z i).1))) (wP (fCond (chr t n) z i).2 r) := by
  refine xm_intro (by decide +kernel) (Nat.le_of_ble_eq_true rfl) ?_
  refine xw_go xcls ok_P_readCondition 60 [(26, [0, 1, 2, 3])] ?_
  refine And.intro (in_nI (by omega) (by omega)) ?_
  rw [cl_nI (by omega)]
  refine And.intro (in_nI (by omega) (by omega)) ?_
  rw [cl_nI (by omega), nI_p1]
  refine ⟨2, _, _, by decide, c_P_readAtom l (us (us z 2 i 2) 7 i (nI (i + 1))) r (i + 1) hp (by omega) (nI_p1 i), ?_⟩
  exact lp_P_readCondition l r i 64 _ (aEnd (chr t n) (i + 1)) (PT_aZ hp) (by omega) (fun q hq => by have := aEnd_le hq; omega)
def fOpen (c : Nat → Int32) (z : Sg) (d i : Nat) : Option Nat → Option Nat × Sg
  | none => (none, z)
  | some j => if c j = 123 ∧ d < 6 then (some (j + 1), us (us (us (us z 10 d (nI i)) 11 d (nI j)) 12 d (-1)) 0 15 (nI (d + 1))) else (none, z)
set_option maxRecDepth 100000 in
set_option maxHeartbeats 1000000 in
theorem c_P_openBlock (l : Launch) (z : Sg) (r : List va_E) {t : Nat → Int32} {n : Nat} (d i : Nat) (o : Option Nat) (hp : PT z t n) (hd : z 0 15 = nI d) (hd6 : d ≤ 6) (ho : ∀ j, o = some j → j < 900) : XMet l 1 q_P_openBlock [.ref 0, .int (nI i), .int (oI o)] (wP z r) (some (.int (oI (fOpen (chr t n) z d i o).1))) (wP (fOpen (chr t n) z d i o).2 r) := by
  refine xm_intro (by decide +kernel) (Nat.le_of_ble_eq_true rfl) ?_
  refine xw_go xcls ok_P_openBlock 80 [] ?_
  refine ⟨0, _, _, by decide, c_P_charAtO l z r o hp (fun j hj => by have := ho j hj; omega), ?_⟩
  refine And.intro (fun h => ?_) (fun h => ?_)
  · have e : fOpen (chr t n) z d i o = (none, z) := by
      cases o with
      | none => rfl
      | some j =>
        have h' : ¬ chr t n j = 123 := h
        simp [fOpen, h']
    rw [e]
    exact And.intro trivial ⟨rfl, rfl⟩
  · cases o with
    | none => exact absurd h (by simp [chO])
    | some j =>
      have h' : chr t n j = 123 := h
      refine And.intro (fun h2 => ?_) (fun h2 => ?_)
      · rw [hd, show (6 : Int32) = nI 6 from rfl, nI_lt' (by omega) (by omega)] at h2
        have e : fOpen (chr t n) z d i (some j) = (some (j + 1), us (us (us (us z 10 d (nI i)) 11 d (nI j)) 12 d (-1)) 0 15 (nI (d + 1))) := by simp [fOpen, h', h2]
        rw [e]
        refine And.intro (by rw [hd]; exact in_nI (by omega) (by omega)) ?_
        rw [hd, cl_nI (by omega)]
        refine And.intro (by rw [hd]; exact in_nI (by omega) (by omega)) ?_
        rw [hd, cl_nI (by omega)]
        refine And.intro (by rw [hd]; exact in_nI (by omega) (by omega)) ?_
        rw [hd, cl_nI (by omega)]
        refine And.intro trivial ?_
        rw [hd, nI_p1]
        exact And.intro trivial ⟨by simp [oI, nI_p1], rfl⟩
      · rw [hd, show (6 : Int32) = nI 6 from rfl, nI_lt' (by omega) (by omega)] at h2
        have e : fOpen (chr t n) z d i (some j) = (none, z) := by simp [fOpen, h2]
        rw [e]
        exact And.intro trivial ⟨rfl, rfl⟩
/-- the ways of the atoms of a head, from behind: the atoms stand behind h and ahead of o -/
def fLk (c : Nat → Int32) (o h : Nat) : Nat → Sg → Nat → Nat → Sg
  | 0, z, _, _ => z
  | m + 1, z, T, F => if c (h + (m + 1)) = 124 then fLk c o h m z (o + 1) T else if z 2 (h + (m + 1)) = 5 then fLk c o h m (us (us z 7 (h + (m + 1)) (nI (if c (h + (m + 1)) = 126 then F else T))) 8 (h + (m + 1)) (nI (if c (h + (m + 1)) = 126 then T else F))) (h + (m + 1)) F else fLk c o h m z T F
set_option maxRecDepth 100000 in
set_option maxHeartbeats 1000000 in
theorem lp_P_linkAtoms (l : Launch) (r : List va_E) {t : Nat → Int32} {n : Nat} (o h : Nat) : ∀ (m : Nat) (z : Sg) (T F : Nat), PT z t n → h + m < 65 →
    XW l 1 q_P_linkAtoms (fun a b => a = none ∧ b = wP (fLk (chr t n) o h m z T F) r) 13 [(0, .ref 0), (1, .int (nI (h + 1))), (2, .int (nI o)), (4, .int (nI T)), (5, .int (nI F)), (6, .int (nI (h + m)))] [] (wP z r)
  | 0, z, T, F, hp, hm => by
    refine xw_go xcls ok_P_linkAtoms 60 [] ?_
    refine And.intro (fun h1 => ?_) (fun h1 => absurd ((nI_lt' (by omega) (by omega)).mpr (by omega)) h1)
    exact And.intro rfl ⟨rfl, rfl⟩
  | m + 1, z, T, F, hp, hm => by
    refine xw_go xcls ok_P_linkAtoms 80 [(13, [0, 1, 2, 4, 5, 6])] ?_
    refine And.intro (fun h1 => absurd ((nI_lt' (by omega) (by omega)).mp h1) (by omega)) (fun h1 => ?_)
    refine ⟨0, _, _, by decide, c_P_charAt l z r (h + (m + 1)) hp (by omega), ?_⟩
    refine And.intro (fun h2 => ?_) (fun h2 => ?_)
    · refine And.intro (in_nI (by omega) (by omega)) ?_
      rw [cl_nI (by omega)]
      refine And.intro (fun h3 => ?_) (fun h3 => ?_)
      · have ih := lp_P_linkAtoms l r o h m z T F hp (by omega)
        have e : fLk (chr t n) o h (m + 1) z T F = fLk (chr t n) o h m z T F := by simp [fLk, h2, h3]
        rw [e]
        rw [show nI (h + m) = nI (h + (m + 1)) + (-1) from (pk_m1 (h + m)).symm] at ih
        exact ih
      · refine ⟨0, _, _, by decide, c_P_charAt l z r (h + (m + 1)) hp (by omega), ?_⟩
        refine And.intro (fun h4 => ?_) (fun h4 => ?_)
        · refine And.intro (fun h5 => ?_) (fun h5 => absurd rfl h5)
          refine And.intro (in_nI (by omega) (by omega)) ?_
          rw [cl_nI (by omega)]
          refine And.intro (fun h5 => ?_) (fun h5 => absurd rfl h5)
          refine And.intro (in_nI (by omega) (by omega)) ?_
          rw [cl_nI (by omega)]
          have ih := lp_P_linkAtoms l r o h m (us (us z 7 (h + (m + 1)) (nI T)) 8 (h + (m + 1)) (nI F)) (h + (m + 1)) F hp (by omega)
          have e : fLk (chr t n) o h (m + 1) z T F = fLk (chr t n) o h m (us (us z 7 (h + (m + 1)) (nI T)) 8 (h + (m + 1)) (nI F)) (h + (m + 1)) F := by simp [fLk, h2, h3, h4]
          rw [e]
          rw [show nI (h + m) = nI (h + (m + 1)) + (-1) from (pk_m1 (h + m)).symm] at ih
          exact ih
        · refine And.intro (fun h5 => absurd h5 (by decide)) (fun h5 => ?_)
          refine And.intro (in_nI (by omega) (by omega)) ?_
          rw [cl_nI (by omega)]
          refine And.intro (fun h5 => absurd h5 (by decide)) (fun h5 => ?_)
          refine And.intro (in_nI (by omega) (by omega)) ?_
          rw [cl_nI (by omega)]
          have ih := lp_P_linkAtoms l r o h m (us (us z 7 (h + (m + 1)) (nI F)) 8 (h + (m + 1)) (nI T)) (h + (m + 1)) F hp (by omega)
          have e : fLk (chr t n) o h (m + 1) z T F = fLk (chr t n) o h m (us (us z 7 (h + (m + 1)) (nI F)) 8 (h + (m + 1)) (nI T)) (h + (m + 1)) F := by simp [fLk, h3, h4]
          rw [e]
          rw [show nI (h + m) = nI (h + (m + 1)) + (-1) from (pk_m1 (h + m)).symm] at ih
          exact ih
    · have ih := lp_P_linkAtoms l r o h m z (o + 1) T hp (by omega)
      have e : fLk (chr t n) o h (m + 1) z T F = fLk (chr t n) o h m z (o + 1) T := by simp [fLk, h2]
      rw [e]
      rw [show nI (h + m) = nI (h + (m + 1)) + (-1) from (pk_m1 (h + m)).symm, ← nI_p1 o] at ih
      exact ih
set_option maxRecDepth 100000 in
set_option maxHeartbeats 1000000 in
theorem c_P_linkAtoms (l : Launch) (z : Sg) (r : List va_E) {t : Nat → Int32} {n : Nat} (h o F : Nat) (hp : PT z t n) (ho : h < o) (ho2 : o < 65) {x : Int32} (hx : x = nI (h + 1) := by rfl) : XMet l 1 q_P_linkAtoms [.ref 0, .int x, .int (nI o), .int (nI F)] (wP z r) none (wP (fLk (chr t n) o h (o - 1 - h) z (o + 1) F) r) := by
  subst hx
  refine xm_intro (by decide +kernel) (Nat.le_of_ble_eq_true rfl) ?_
  refine xw_go xcls ok_P_linkAtoms 60 [(13, [0, 1, 2, 4, 5, 6])] ?_
  have ih := lp_P_linkAtoms l r o h (o - 1 - h) z (o + 1) F hp (by omega)
  rw [show nI (h + (o - 1 - h)) = nI o - 1 by rw [show h + (o - 1 - h) = o - 1 by omega]; conv => rhs; rw [show o = (o - 1) + 1 by omega]
                                              rw [nI_pred], ← nI_p1 o] at ih
  exact ih
end
section
/-! Program: the end of a block, the ways out of blocks, a statement -/
/-- a head whose block is open: its place, its first '{', its first '}' once the second block has begun -/
abbrev Fr : Type := Nat × Nat × Option Nat
def okF (f : Fr) : Prop := f.1 < f.2.1 ∧ f.2.1 < 65 ∧ ∀ y, f.2.2 = some y → y < 65
def RSk (z : Sg) : List Fr → Prop
  | [] => True
  | f :: r => z 10 r.length = nI f.1 ∧ z 11 r.length = nI f.2.1 ∧ z 12 r.length = oI f.2.2 ∧ okF f ∧ RSk z r
def PStk (z : Sg) (k : List Fr) : Prop := z 0 15 = nI k.length ∧ k.length ≤ 6 ∧ RSk z k
def clF (i : Nat) : Option Nat → Nat
  | none => i + 1
  | some y => y + 2
def clZ (z : Sg) (i : Nat) : Option Nat → Sg
  | none => z
  | some y => us z 9 y (nI (i + 1))
/-- what a '}' at i does -/
def fClose (c : Nat → Int32) (z : Sg) (i : Nat) : List Fr → Option Nat × Sg × List Fr
  | [] => (none, z, [])
  | (h, o, f) :: r => if ¬ c h = 42 ∧ f = none ∧ c (i + 1) = 123 then (some (i + 2), us z 12 r.length (nI i), (h, o, some i) :: r) else
      (some (i + 1), fLk c o h (o - 1 - h) (clZ (us (us z 0 15 (nI r.length)) 9 i (nI (if c h = 42 then h + 1 else i + 1))) i f) (o + 1) (clF i f), r)
theorem PT_clZ {z : Sg} {i : Nat} {f : Option Nat} {t : Nat → Int32} {n : Nat} (h : PT z t n) : PT (clZ z i f) t n := by cases f <;> exact h
theorem nI_p {i : Nat} : nI (i + 1) - 1 = nI i := nI_pred i
theorem oI_m1 {f : Option Nat} (h : ∀ y, f = some y → y < 2000) : oI f = -1 ↔ f = none := by
  cases f with
  | none => simp [oI]
  | some y => exact ⟨fun e => absurd e (nI_nm1 (h y rfl)), fun e => by cases e⟩
set_option maxRecDepth 100000 in
set_option maxHeartbeats 2000000 in
theorem c_P_closeBlock (l : Launch) (z : Sg) (r : List va_E) {t : Nat → Int32} {n : Nat} (i : Nat) (k : List Fr) (hp : PT z t n) (hi : i < 64) (hs : PStk z k) : XMet l 2 q_P_closeBlock [.ref 0, .int (nI i)] (wP z r) (some (.int (oI (fClose (chr t n) z i k).1))) (wP (fClose (chr t n) z i k).2.1 r) := by
  refine xm_intro (by decide +kernel) (Nat.le_of_ble_eq_true rfl) ?_
  obtain ⟨hd, hd6, hR⟩ := hs
  cases k with
  | nil =>
    refine xw_go xcls ok_P_closeBlock 60 [] ?_
    refine And.intro (fun h1 => absurd hd h1) (fun h1 => ?_)
    exact And.intro trivial ⟨rfl, rfl⟩
  | cons f k =>
    obtain ⟨h, o, f⟩ := f
    obtain ⟨h10, h11, h12, ⟨ok1, ok2, ok3⟩, hR⟩ := hR
    have hd : z 0 15 = nI (k.length + 1) := hd
    have hk : k.length < 6 := by have : k.length + 1 ≤ 6 := hd6; omega
    have ok3 : ∀ y, f = some y → y < 65 := ok3
    have h10 : z 10 k.length = nI h := h10
    have h11 : z 11 k.length = nI o := h11
    have h12 : z 12 k.length = oI f := h12
    have ok1 : h < o := ok1
    have ok2 : o < 65 := ok2
    generalize hres : fClose (chr t n) z i ((h, o, f) :: k) = res
    -- from the final close on
    have fin : ∀ b : Int32, b = (if chr t n h = 42 then 1 else 0) → ¬ (¬ chr t n h = 42 ∧ f = none ∧ chr t n (i + 1) = 123) → XW l 2 q_P_closeBlock (fun a b => a = some (.int (oI res.1)) ∧ b = wP res.2.1 r) 74 [(0, .ref 0), (1, .int (nI i)), (2, .int (nI k.length)), (3, .int b)] [] (wP z r) := by
      intro b hb hn
      have hres : (some (i + 1), fLk (chr t n) o h (o - 1 - h) (clZ (us (us z 0 15 (nI k.length)) 9 i (nI (if chr t n h = 42 then h + 1 else i + 1))) i f) (o + 1) (clF i f), k) = res := by rw [← hres]; simp only [fClose]; rw [if_neg hn]
      subst hres
      have lst : ∀ (z' : Sg) (x : Int32), x = nI (clF i f) → PT z' t n → z' 10 k.length = nI h → z' 11 k.length = nI o → z' = (clZ (us (us z 0 15 (nI k.length)) 9 i (nI (if chr t n h = 42 then h + 1 else i + 1))) i f) → XW l 2 q_P_closeBlock (fun a b => a = some (.int (oI (some (i + 1)))) ∧ b = wP (fLk (chr t n) o h (o - 1 - h) (clZ (us (us z 0 15 (nI k.length)) 9 i (nI (if chr t n h = 42 then h + 1 else i + 1))) i f) (o + 1) (clF i f)) r) 149 [(0, .ref 0), (2, .int (nI k.length)), (4, .int (nI (i + 1))), (5, .int x)] [] (wP z' r) := by
        intro z' x hx hp' g10 g11 hz'
        subst hx
        rw [← hz']
        refine xw_go xcls ok_P_closeBlock 60 [] ?_
        refine And.intro (in_nI (by omega) (by omega)) ?_
        rw [cl_nI (by omega), g10]
        refine And.intro (in_nI (by omega) (by omega)) ?_
        rw [cl_nI (by omega), g11]
        refine ⟨1, _, _, by decide, c_P_linkAtoms l z' r h o (clF i f) hp' ok1 ok2 (nI_p1 h), ?_⟩
        exact And.intro trivial ⟨rfl, rfl⟩
      have mid : ∀ e : Int32, e = nI (if chr t n h = 42 then h + 1 else i + 1) → XW l 2 q_P_closeBlock (fun a b => a = some (.int (oI (some (i + 1)))) ∧ b = wP (fLk (chr t n) o h (o - 1 - h) (clZ (us (us z 0 15 (nI k.length)) 9 i (nI (if chr t n h = 42 then h + 1 else i + 1))) i f) (o + 1) (clF i f)) r) 115 [(0, .ref 0), (2, .int (nI k.length)), (4, .int (nI (i + 1))), (5, .int (nI (i + 1)))] [.int e, .int (nI i), .ref 9] (wP (us z 0 15 (nI k.length)) r) := by
        intro e he
        refine xw_go xcls ok_P_closeBlock 60 [(149, [0, 2, 4, 5])] ?_
        refine And.intro (in_nI (by omega) (by omega)) ?_
        rw [cl_nI (by omega), he]
        refine And.intro (in_nI (by omega) (by omega)) ?_
        rw [cl_nI (by omega)]
        refine And.intro (fun q1 => ?_) (fun q1 => ?_)
        · have hf : f = none := (oI_m1 (fun y hy => by have := ok3 y hy; omega)).mp (h12.symm.trans q1)
          subst hf
          exact lst (us (us z 0 15 (nI k.length)) 9 i (nI (if chr t n h = 42 then h + 1 else i + 1))) _ rfl hp h10 h11 rfl
        · cases f with
          | none => exact absurd h12 q1
          | some y =>
            have hy := ok3 y rfl
            refine And.intro (in_nI (by omega) (by omega)) ?_
            rw [cl_nI (by omega)]
            refine And.intro (by rw [show us z 0 15 (nI k.length) 12 k.length = nI y from h12]; exact in_nI (by omega) (by omega)) ?_
            rw [show us z 0 15 (nI k.length) 12 k.length = nI y from h12, cl_nI (by omega)]
            refine And.intro (in_nI (by omega) (by omega)) ?_
            rw [cl_nI (by omega)]
            exact lst (us (us (us z 0 15 (nI k.length)) 9 i (nI (if chr t n h = 42 then h + 1 else i + 1))) 9 y (nI (i + 1))) _ (by show z 12 k.length + 2 = nI (y + 2); rw [h12]; exact nI_p2 y) hp h10 h11 rfl
      refine xw_go xcls ok_P_closeBlock 60 [(115, [0, 2, 4, 5])] ?_
      refine And.intro trivial ?_
      rw [hd, nI_p]
      refine And.intro (fun q1 => ?_) (fun q1 => ?_)
      · have hl : ¬ chr t n h = 42 := fun e => by rw [hb, if_pos e] at q1; cases q1
        rw [nI_p1]
        exact mid _ (by rw [if_neg hl])
      · have hl : chr t n h = 42 := Classical.byContradiction fun e => q1 (by rw [hb, if_neg e])
        refine And.intro (in_nI (by omega) (by omega)) ?_
        rw [cl_nI (by omega), nI_p1]
        exact mid _ (by rw [if_pos hl]; show z 10 k.length + 1 = _; rw [h10, nI_p1])
    have two : ∀ b : Int32, b = (if chr t n h = 42 then 1 else 0) → XW l 2 q_P_closeBlock (fun a b => a = some (.int (oI res.1)) ∧ b = wP res.2.1 r) 36 [(0, .ref 0), (1, .int (nI i)), (2, .int (nI k.length))] [.int b] (wP z r) := by
      intro b hb
      refine xw_go xcls ok_P_closeBlock 60 [(74, [0, 1, 2, 3])] ?_
      refine And.intro (fun q1 => ?_) (fun q1 => ?_)
      · exact fin b hb (fun q => q1 (by rw [hb, if_neg q.1]))
      · have hl : ¬ chr t n h = 42 := fun e => by rw [hb, if_pos e] at q1; cases q1
        refine And.intro (in_nI (by omega) (by omega)) ?_
        rw [cl_nI (by omega), h12]
        refine And.intro (fun q2 => ?_) (fun q2 => ?_)
        · exact fin b hb (fun q => q2 (by rw [q.2.1]; rfl))
        · have hf : f = none := (oI_m1 (fun y hy => by have := ok3 y hy; omega)).mp q2
          refine ⟨0, _, _, by decide, c_P_charAt l z r (i + 1) hp (by omega) (nI_p1 i), ?_⟩
          refine And.intro (fun q3 => ?_) (fun q3 => ?_)
          · exact fin b hb (fun q => q3 q.2.2)
          · refine And.intro (in_nI (by omega) (by omega)) ?_
            rw [cl_nI (by omega)]
            have hres : (some (i + 2), us z 12 k.length (nI i), (h, o, some i) :: k) = res := by rw [← hres]; simp only [fClose]; rw [if_pos ⟨hl, hf, q3⟩]
            subst hres
            exact And.intro trivial ⟨by simp [oI, nI_p2], rfl⟩
    refine xw_go xcls ok_P_closeBlock 60 [(36, [0, 1, 2])] ?_
    refine And.intro (fun q1 => ?_) (fun q1 => absurd (hd.symm.trans q1) (by rw [show (0 : Int32) = nI 0 from rfl, nI_eq' (by omega) (by omega)]; omega))
    refine And.intro (by rw [hd, nI_p]; exact in_nI (by omega) (by omega)) ?_
    rw [hd, nI_p, cl_nI (by omega), h10]
    refine ⟨0, _, _, by decide, c_P_charAt l z r h hp (by omega), ?_⟩
    refine And.intro (fun q2 => ?_) (fun q2 => ?_)
    · exact two 0 (by rw [if_neg q2])
    · exact two 1 (by rw [if_pos q2])
/-- out of blocks -/
def fOut (c : Nat → Int32) (ex : Nat → Nat) : Nat → Nat → Nat
  | 0, p => p
  | k + 1, p => if c p = 125 then fOut c ex k (ex p) else p
set_option maxRecDepth 100000 in
set_option maxHeartbeats 1000000 in
theorem lp_P_outOfBlocks (l : Launch) (z : Sg) (r : List va_E) {t : Nat → Int32} {n : Nat} (ex : Nat → Nat) (hp : PT z t n) (hx : ∀ p, chr t n p = 125 → z 9 p = nI (ex p) ∧ ex p < 65) : ∀ (m p : Nat), m ≤ 6 → p < 900 →
    XW l 1 q_P_outOfBlocks (fun a b => a = some (.int (nI (fOut (chr t n) ex m p))) ∧ b = wP z r) 4 [(0, .ref 0), (2, .int (nI p)), (3, .int (nI (6 - m)))] [] (wP z r)
  | 0, p, hm, hb => by
    refine xw_go xcls ok_P_outOfBlocks 60 [] ?_
    refine And.intro (fun h => ?_) (fun h => absurd (by decide) h)
    exact And.intro trivial ⟨rfl, rfl⟩
  | m + 1, p, hm, hb => by
    have hn := hp.2.1
    refine xw_go xcls ok_P_outOfBlocks 60 [(4, [0, 2, 3])] ?_
    refine And.intro (fun h => ?_) (fun h => ?_)
    · exact absurd h (by rw [show (6 : Int32) = nI 6 from rfl, nI_le' (by omega) (by omega)]; omega)
    · refine ⟨0, _, _, by decide, c_P_charAt l z r p hp (by omega), ?_⟩
      refine And.intro (fun h2 => ?_) (fun h2 => ?_)
      · exact And.intro trivial ⟨by simp [fOut, h2], rfl⟩
      · have hl := chr_lt h2 (by decide)
        obtain ⟨e1, e2⟩ := hx p h2
        refine And.intro (in_nI (by omega) (by omega)) ?_
        rw [cl_nI (by omega), e1]
        have ih := lp_P_outOfBlocks l z r ex hp hx m (ex p) (by omega) (by omega)
        have e : fOut (chr t n) ex (m + 1) p = fOut (chr t n) ex m (ex p) := by simp [fOut, h2]
        rw [e]
        rw [show nI (6 - m) = nI (6 - (m + 1)) + 1 by rw [nI_p1]; congr 1; omega] at ih
        exact ih
set_option maxRecDepth 100000 in
set_option maxHeartbeats 1000000 in
theorem c_P_outOfBlocks (l : Launch) (z : Sg) (r : List va_E) {t : Nat → Int32} {n : Nat} (ex : Nat → Nat) (p : Nat) (hp : PT z t n) (hx : ∀ p, chr t n p = 125 → z 9 p = nI (ex p) ∧ ex p < 65) (hb : p < 900) {x : Int32} (he : x = nI p := by rfl) : XMet l 1 q_P_outOfBlocks [.ref 0, .int x] (wP z r) (some (.int (nI (fOut (chr t n) ex 6 p)))) (wP z r) := by
  subst he
  refine xm_intro (by decide +kernel) (Nat.le_of_ble_eq_true rfl) ?_
  refine xw_go xcls ok_P_outOfBlocks 60 [(4, [0, 2, 3])] ?_
  exact lp_P_outOfBlocks l z r ex hp hx 6 p (by omega) hb
/-- all ways led out of blocks, up to the place k -/
def fLd (c : Nat → Int32) (ex wy ow : Nat → Nat) (z : Sg) (k : Nat) : Sg := uc (uc z 7 (fun p => if p < k ∧ ¬ z 2 p = 0 then nI (fOut c ex 6 (wy p)) else z 7 p)) 8 (fun p => if p < k ∧ z 2 p = 5 then nI (fOut c ex 6 (ow p)) else z 8 p)
theorem upd_if {f : Nat → Int32} {k : Nat} {x : Int32} : upd f k x = fun j => if j = k then x else f j := rfl
theorem fLd_w {c : Nat → Int32} {ex wy ow : Nat → Nat} {z : Sg} {k : Nat} (h : ¬ z 2 k = 0) : uc (uc z 7 (fun p => if p < k + 1 ∧ ¬ z 2 p = 0 then nI (fOut c ex 6 (wy p)) else z 7 p)) 8 (fun p => if p < k ∧ z 2 p = 5 then nI (fOut c ex 6 (ow p)) else z 8 p) = us (fLd c ex wy ow z k) 7 k (nI (fOut c ex 6 (wy k))) := by
  funext a p
  by_cases h7 : a = 7
  · subst h7
    by_cases hp : p = k
    · subst hp; simp [us, uc, upd_if, h, fLd]
    · simp only [us, uc, fLd, upd_if, if_neg hp, if_true, if_neg (show ¬ 7 = 8 by decide)]
      have : p < k + 1 ↔ p < k := by omega
      simp only [this]
  · simp [us, uc, fLd, h7]
theorem fLd_o {c : Nat → Int32} {ex wy ow : Nat → Nat} {z : Sg} {k : Nat} (h : z 2 k = 5) : fLd c ex wy ow z (k + 1) = us (us (fLd c ex wy ow z k) 7 k (nI (fOut c ex 6 (wy k)))) 8 k (nI (fOut c ex 6 (ow k))) := by
  have h0 : ¬ z 2 k = 0 := by rw [h]; decide
  rw [← fLd_w h0]
  funext a p
  by_cases h8 : a = 8
  · subst h8
    by_cases hp : p = k
    · subst hp; simp [us, uc, upd_if, h, fLd]
    · simp only [us, uc, fLd, upd_if, if_neg hp, if_true]
      have : p < k + 1 ↔ p < k := by omega
      simp only [this]
  · simp [us, uc, fLd, h8]
theorem fLd_n {c : Nat → Int32} {ex wy ow : Nat → Nat} {z : Sg} {k : Nat} (h : z 2 k = 0) : fLd c ex wy ow z (k + 1) = fLd c ex wy ow z k := by
  have e1 : (fun p => if p < k + 1 ∧ ¬ z 2 p = 0 then nI (fOut c ex 6 (wy p)) else z 7 p) = (fun p => if p < k ∧ ¬ z 2 p = 0 then nI (fOut c ex 6 (wy p)) else z 7 p) := by
    funext p
    by_cases hp : p = k
    · subst hp; simp [h]
    · have : p < k + 1 ↔ p < k := by omega
      simp only [this]
  have e2 : (fun p => if p < k + 1 ∧ z 2 p = 5 then nI (fOut c ex 6 (ow p)) else z 8 p) = (fun p => if p < k ∧ z 2 p = 5 then nI (fOut c ex 6 (ow p)) else z 8 p) := by
    funext p
    by_cases hp : p = k
    · subst hp; simp [h]
    · have : p < k + 1 ↔ p < k := by omega
      simp only [this]
  unfold fLd; rw [e1, e2]
theorem fLd_m {c : Nat → Int32} {ex wy ow : Nat → Nat} {z : Sg} {k : Nat} (h : ¬ z 2 k = 0) (h5 : ¬ z 2 k = 5) : fLd c ex wy ow z (k + 1) = us (fLd c ex wy ow z k) 7 k (nI (fOut c ex 6 (wy k))) := by
  have e2 : (fun p => if p < k + 1 ∧ z 2 p = 5 then nI (fOut c ex 6 (ow p)) else z 8 p) = (fun p => if p < k ∧ z 2 p = 5 then nI (fOut c ex 6 (ow p)) else z 8 p) := by
    funext p
    by_cases hp : p = k
    · subst hp; simp [h5]
    · have : p < k + 1 ↔ p < k := by omega
      simp only [this]
  rw [← fLd_w h]; unfold fLd; rw [e2]
set_option maxRecDepth 100000 in
set_option maxHeartbeats 1000000 in
theorem lp_P_lead (l : Launch) (z : Sg) (r : List va_E) {t : Nat → Int32} {n : Nat} (ex wy ow : Nat → Nat) (hp : PT z t n) (hx : ∀ p, chr t n p = 125 → z 9 p = nI (ex p) ∧ ex p < 65) (hw : ∀ p, p < n → ¬ z 2 p = 0 → z 7 p = nI (wy p) ∧ wy p < 900) (ho : ∀ p, p < n → z 2 p = 5 → z 8 p = nI (ow p) ∧ ow p < 900) : ∀ (m k : Nat), k + m = n →
    XW l 2 q_P_leadWaysOutOfBlocks (fun a b => a = none ∧ b = wP (fLd (chr t n) ex wy ow z n) r) 2 [(0, .ref 0), (1, .int (nI k))] [] (wP (fLd (chr t n) ex wy ow z k) r)
  | 0, k, hk => by
    have hn := hp.2.1
    have hk : k = n := hk
    subst hk
    refine xw_go xcls ok_P_leadWaysOutOfBlocks 60 [] ?_
    refine And.intro (fun h => ?_) (fun h => absurd (by show z 0 1 ≤ nI k; rw [hp.1]; exact (nI_le' (by omega) (by omega)).mpr (Nat.le_refl _)) h)
    exact And.intro rfl ⟨rfl, rfl⟩
  | m + 1, k, hk => by
    have hn := hp.2.1
    have hpk : PT (fLd (chr t n) ex wy ow z k) t n := hp
    have ih := lp_P_lead l z r ex wy ow hp hx hw ho m (k + 1) (by omega)
    rw [← nI_p1 k] at ih
    refine xw_go xcls ok_P_leadWaysOutOfBlocks 80 [(2, [0, 1])] ?_
    refine And.intro (fun h => ?_) (fun h => ?_)
    · have h : z 0 1 ≤ nI k := h
      rw [hp.1, nI_le' (by omega) (by omega)] at h
      omega
    · refine And.intro (in_nI (by omega) (by omega)) ?_
      rw [cl_nI (by omega)]
      have r7 : fLd (chr t n) ex wy ow z k 7 k = z 7 k := by simp [fLd, uc]
      have r8 : fLd (chr t n) ex wy ow z k 8 k = z 8 k := by simp [fLd, uc]
      refine And.intro (fun h2 => ?_) (fun h2 => ?_)
      · have h2 : z 2 k = 0 := h2
        refine And.intro (in_nI (by omega) (by omega)) ?_
        rw [cl_nI (by omega)]
        refine And.intro (fun h3 => ?_) (fun h3 => ?_)
        · rw [fLd_n h2] at ih
          exact ih
        · have h3 : z 2 k = 5 := h3
          rw [h2] at h3; cases h3
      · have h2 : ¬ z 2 k = 0 := h2
        obtain ⟨e1, e2⟩ := hw k (by omega) h2
        refine And.intro (in_nI (by omega) (by omega)) ?_
        rw [cl_nI (by omega), r7, e1]
        refine ⟨1, _, _, by decide, c_P_outOfBlocks l (fLd (chr t n) ex wy ow z k) r ex (wy k) hpk hx e2, ?_⟩
        refine And.intro (in_nI (by omega) (by omega)) ?_
        rw [cl_nI (by omega)]
        refine And.intro (in_nI (by omega) (by omega)) ?_
        rw [cl_nI (by omega)]
        refine And.intro (fun h3 => ?_) (fun h3 => ?_)
        · have h3 : ¬ z 2 k = 5 := h3
          rw [fLd_m h2 h3] at ih
          exact ih
        · have h3 : z 2 k = 5 := h3
          obtain ⟨e3, e4⟩ := ho k (by omega) h3
          refine And.intro (in_nI (by omega) (by omega)) ?_
          rw [cl_nI (by omega), r8, e3]
          refine ⟨1, _, _, by decide, c_P_outOfBlocks l (us (fLd (chr t n) ex wy ow z k) 7 k (nI (fOut (chr t n) ex 6 (wy k)))) r ex (ow k) hpk hx e4, ?_⟩
          refine And.intro (in_nI (by omega) (by omega)) ?_
          rw [cl_nI (by omega)]
          rw [fLd_o h3] at ih
          exact ih
theorem fLd_0 {c : Nat → Int32} {ex wy ow : Nat → Nat} {z : Sg} : fLd c ex wy ow z 0 = z := by
  funext a p
  by_cases h8 : a = 8
  · subst h8; simp [fLd, uc]
  · by_cases h7 : a = 7
    · subst h7; simp [fLd, uc]
    · simp [fLd, uc, h7, h8]
set_option maxRecDepth 100000 in
set_option maxHeartbeats 1000000 in
theorem c_P_lead (l : Launch) (z : Sg) (r : List va_E) {t : Nat → Int32} {n : Nat} (ex wy ow : Nat → Nat) (hp : PT z t n) (hx : ∀ p, chr t n p = 125 → z 9 p = nI (ex p) ∧ ex p < 65) (hw : ∀ p, p < n → ¬ z 2 p = 0 → z 7 p = nI (wy p) ∧ wy p < 900) (ho : ∀ p, p < n → z 2 p = 5 → z 8 p = nI (ow p) ∧ ow p < 900) : XMet l 2 q_P_leadWaysOutOfBlocks [.ref 0] (wP z r) none (wP (fLd (chr t n) ex wy ow z n) r) := by
  refine xm_intro (by decide +kernel) (Nat.le_of_ble_eq_true rfl) ?_
  refine xw_go xcls ok_P_leadWaysOutOfBlocks 60 [(2, [0, 1])] ?_
  have h := lp_P_lead l z r ex wy ow hp hx hw ho n 0 (by omega)
  rw [fLd_0] at h
  exact h
end
section
/-! Arrays.fill, a statement, the whole text -/
theorem xn_xu {α : Type} : ∀ (w : List α) (j : Nat) (e e0 : α), xn w j = some e0 → xn (xu w j e) j = some e
  | [], j, e, e0, h => by cases h
  | a :: r, 0, e, e0, h => rfl
  | a :: r, j + 1, e, e0, h => xn_xu r j e e0 h
theorem xu_xu {α : Type} : ∀ (w : List α) (j : Nat) (e e1 : α), xu (xu w j e) j e1 = xu w j e1
  | [], j, e, e1 => rfl
  | a :: r, 0, e, e1 => rfl
  | a :: r, j + 1, e, e1 => by simp only [xu]; rw [xu_xu r j e e1]
theorem xu_id {α : Type} : ∀ (w : List α) (j : Nat) (e : α), xn w j = some e → xu w j e = w
  | [], j, e, h => rfl
  | a :: r, 0, e, h => by have h : a = e := Option.some.inj h; subst h; rfl
  | a :: r, j + 1, e, h => by simp only [xu]; rw [xu_id r j e h]
theorem xar_i {w : List va_E} {i t n : Nat} {a : Nat → Int32} {f : Nat → (Nat → Int32) → Prop} (h : xn w i = some (.inl (t, n, .inl a))) (k : f n a) : xar w i t f := by
  unfold xar; rw [h]; simp only [Nat.beq_refl]; exact k
def fFill (n : Nat) (a : Nat → Int32) (x : Int32) (k : Nat) : Nat → Int32 := fun i => if i < k then x else a i
theorem fFill_s {n : Nat} {a : Nat → Int32} {x : Int32} {k : Nat} : upd (fFill n a x k) k x = fFill n a x (k + 1) := by
  funext j
  unfold upd fFill
  by_cases h : j = k
  · subst h; simp
  · have : j < k + 1 ↔ j < k := by omega
    simp [h, this]
set_option maxRecDepth 100000 in
set_option maxHeartbeats 1000000 in
theorem lp_JA_fill (l : Launch) (w : List va_E) (j n : Nat) (a : Nat → Int32) (x : Int32) (hw : xn w j = some (.inl (0, n, .inl a))) (hn : n < 1000) : ∀ (m k : Nat), k + m = n →
    XW l 0 q_JA_fill (fun u b => u = none ∧ b = xu w j (.inl (0, n, .inl (fFill n a x n)))) 5 [(0, .ref j), (1, .int x), (2, .int (nI k)), (3, .int (nI n))] [] (xu w j (.inl (0, n, .inl (fFill n a x k))))
  | 0, k, hk => by
    have hk : k = n := hk
    subst hk
    refine xw_go xcls ok_JA_fill 40 [] ?_
    refine And.intro (fun h => ?_) (fun h => absurd ((nI_le' (by omega) (by omega)).mpr (Nat.le_refl _)) h)
    exact And.intro rfl ⟨rfl, rfl⟩
  | m + 1, k, hk => by
    have ih := lp_JA_fill l w j n a x hw hn m (k + 1) (by omega)
    refine xw_go xcls ok_JA_fill 40 [(5, [0, 1, 2, 3])] ?_
    refine And.intro (fun h => absurd ((nI_le' (by omega) (by omega)).mp h) (by omega)) (fun h => ?_)
    refine xar_i (xn_xu w j _ _ hw) (And.intro (in_nI (by omega) (by omega)) ?_)
    rw [cl_nI (by omega), xu_xu, fFill_s]
    rw [← nI_p1 k] at ih
    exact ih
set_option maxRecDepth 100000 in
set_option maxHeartbeats 1000000 in
theorem c_JA_fill (l : Launch) (w : List va_E) (j n : Nat) (a : Nat → Int32) (x : Int32) (hw : xn w j = some (.inl (0, n, .inl a))) (hn : n < 1000) : XMet l 0 q_JA_fill [.ref j, .int x] w none (xu w j (.inl (0, n, .inl (fFill n a x n)))) := by
  refine xm_intro (by decide +kernel) (Nat.le_of_ble_eq_true rfl) ?_
  refine xw_go xcls ok_JA_fill 40 [(5, [0, 1, 2, 3])] ?_
  refine xar_i hw ?_
  have h := lp_JA_fill l w j n a x hw hn n 0 (by omega)
  rw [show fFill n a x 0 = a from by funext i; simp [fFill], xu_id w j _ hw] at h
  exact h
-- what reading a condition leaves as it was
theorem aZ_n {c : Nat → Int32} {z : Sg} {i a : Nat} (h2 : a ≠ 2) (h3 : a ≠ 3) (h4 : a ≠ 4) : aZ c z i a = z a := by
  unfold aZ; split
  · simp [us, h2, h4]
  · split
    · rfl
    · simp [us, h2, h3, h4]
theorem fCL_n {c : Nat → Int32} {a : Nat} (h2 : a ≠ 2) (h3 : a ≠ 3) (h4 : a ≠ 4) : ∀ (k : Nat) (z : Sg) (o : Option Nat), (fCL c k z o).2 a = z a
  | 0, z, o => rfl
  | k + 1, z, none => rfl
  | k + 1, z, some j => by
    unfold fCL; split
    · rw [fCL_n h2 h3 h4 k, aZ_n h2 h3 h4]
    · rfl
theorem fCond_n {c : Nat → Int32} {z : Sg} {i a : Nat} (h2 : a ≠ 2) (h3 : a ≠ 3) (h4 : a ≠ 4) (h7 : a ≠ 7) : (fCond c z i).2 a = z a := by
  unfold fCond; rw [fCL_n h2 h3 h4, aZ_n h2 h3 h4]; simp [us, h2, h7]
theorem fCL_b {t : Nat → Int32} {n : Nat} (hn : n ≤ 64) : ∀ (k : Nat) (z : Sg) (o : Option Nat), (∀ j, o = some j → j < 900) → ∀ j, (fCL (chr t n) k z o).1 = some j → j < 900
  | 0, z, o, h, j, e => h j e
  | k + 1, z, none, h, j, e => by cases e
  | k + 1, z, some q, h, j, e => by
    unfold fCL at e; split at e
    · rename_i hc
      have hq : q < n := by rcases hc with hc | hc <;> exact chr_lt hc (by decide)
      exact fCL_b hn k _ _ (fun j hj => by have := aEnd_le hj; omega) j e
    · exact h j e
def fPush (i : Nat) : Option Nat → Option Nat → List Fr → List Fr
  | some j, some _, k => (i, j, none) :: k
  | _, _, k => k
/-- a statement at i, read (of a ? or * up to its first block) -/
def fStmt (c : Nat → Int32) (z : Sg) (i : Nat) (k : List Fr) : Option Nat × Sg × List Fr :=
  if c i = 63 ∨ c i = 42 then
    ((fOpen c (fCond c (us z 0 3 (z 0 3 + 1)) i).2 k.length i (fCond c (us z 0 3 (z 0 3 + 1)) i).1).1, (fOpen c (fCond c (us z 0 3 (z 0 3 + 1)) i).2 k.length i (fCond c (us z 0 3 (z 0 3 + 1)) i).1).2, fPush i (fCond c (us z 0 3 (z 0 3 + 1)) i).1 (fOpen c (fCond c (us z 0 3 (z 0 3 + 1)) i).2 k.length i (fCond c (us z 0 3 (z 0 3 + 1)) i).1).1 k)
  else if c i = 33 then (if c (i + 1) = 59 then some (i + 2) else none, us (us (us z 0 3 (z 0 3 + 1)) 2 i 3) 7 i (nI (i + 2)), k)
  else if c i = 94 then (if c (i + 1) = 59 then some (i + 2) else none, us (us (us z 0 3 (z 0 3 + 1)) 2 i 4) 7 i (nI (i + 2)), k)
  else ((fWrite c (us z 0 3 (z 0 3 + 1)) i).1, (fWrite c (us z 0 3 (z 0 3 + 1)) i).2, k)
set_option maxRecDepth 100000 in
set_option maxHeartbeats 1000000 in
theorem c_P_readStatement (l : Launch) (z : Sg) (r : List va_E) {t : Nat → Int32} {n : Nat} (i : Nat) (k : List Fr) (hp : PT z t n) (hi : i < 64) (hs : PStk z k) : XMet l 4 q_P_readStatement [.ref 0, .int (nI i)] (wP z r) (some (.int (oI (fStmt (chr t n) z i k).1))) (wP (fStmt (chr t n) z i k).2.1 r) := by
  have hn := hp.2.1
  refine xm_intro (by decide +kernel) (Nat.le_of_ble_eq_true rfl) ?_
  have hp1 : PT (us z 0 3 (z 0 3 + 1)) t n := hp
  have hs1 : (us z 0 3 (z 0 3 + 1)) 0 15 = nI k.length := hs.1
  have cnd : chr t n i = 63 ∨ chr t n i = 42 → XW l 4 q_P_readStatement (fun a b => a = some (.int (oI (fStmt (chr t n) z i k).1)) ∧ b = wP (fStmt (chr t n) z i k).2.1 r) 28 [(0, .ref 0), (1, .int (nI i))] [] (wP (us z 0 3 (z 0 3 + 1)) r) := by
    intro hc
    refine xw_go xcls ok_P_readStatement 60 [] ?_
    refine ⟨3, _, _, by decide, c_P_readCondition l (us z 0 3 (z 0 3 + 1)) r i hp1 hi, ?_⟩
    refine ⟨1, _, _, by decide, c_P_openBlock l (fCond (chr t n) (us z 0 3 (z 0 3 + 1)) i).2 r k.length i _ (PT_fCond hp1) (by rw [fCond_n (by decide) (by decide) (by decide) (by decide)]; exact hs1) hs.2.1 (fCL_b hn _ _ _ (fun j hj => by have := aEnd_le hj; omega)), ?_⟩
    exact And.intro trivial ⟨by simp [fStmt, hc], by simp [fStmt, hc]⟩
  refine xw_go xcls ok_P_readStatement 60 [(28, [0, 1])] ?_
  refine And.intro trivial ?_
  refine ⟨0, _, _, by decide, c_P_charAt l (us z 0 3 (z 0 3 + 1)) r i hp1 (by omega), ?_⟩
  refine And.intro (fun h => ?_) (fun h => ?_)
  · exact cnd (Or.inl h)
  · refine And.intro (fun h2 => ?_) (fun h2 => ?_)
    · refine And.intro (fun h3 => ?_) (fun h3 => ?_)
      · refine And.intro (fun h4 => ?_) (fun h4 => ?_)
        · refine ⟨3, _, _, by decide, c_P_readWrite l (us z 0 3 (z 0 3 + 1)) r i hp1 (by omega), ?_⟩
          exact And.intro trivial ⟨by simp [fStmt, h, h2, h3, h4], by simp [fStmt, h, h2, h3, h4]⟩
        · refine ⟨1, _, _, by decide, c_P_readSign l (us z 0 3 (z 0 3 + 1)) r i 4 hp1 (by omega), ?_⟩
          exact And.intro trivial ⟨by simp [fStmt, h4], by simp [fStmt, h4]⟩
      · refine ⟨1, _, _, by decide, c_P_readSign l (us z 0 3 (z 0 3 + 1)) r i 3 hp1 (by omega), ?_⟩
        exact And.intro trivial ⟨by simp [fStmt, h3], by simp [fStmt, h3]⟩
    · exact cnd (Or.inr h2)
end
section
/-! Program: parse -/
theorem fLk_n {c : Nat → Int32} {o h a : Nat} (h7 : a ≠ 7) (h8 : a ≠ 8) : ∀ (m : Nat) (z : Sg) (T F : Nat), fLk c o h m z T F a = z a
  | 0, z, T, F => rfl
  | m + 1, z, T, F => by
    unfold fLk; split
    · exact fLk_n h7 h8 m z _ _
    · split
      · rw [fLk_n h7 h8 m _ _ _]; simp [us, h7, h8]
      · exact fLk_n h7 h8 m z _ _
theorem clZ_n {z : Sg} {i a : Nat} {f : Option Nat} (h9 : a ≠ 9) : clZ z i f a = z a := by
  cases f with
  | none => rfl
  | some y => simp [clZ, us, h9]
theorem RSk_c {z z' : Sg} : ∀ (k : List Fr), (∀ j, j < k.length → z' 10 j = z 10 j ∧ z' 11 j = z 11 j ∧ z' 12 j = z 12 j) → RSk z k → RSk z' k
  | [], _, _ => trivial
  | f :: r, h, hR => by
    obtain ⟨h1, h2, h3, h4, h5⟩ := hR
    obtain ⟨e1, e2, e3⟩ := h r.length (by simp)
    exact ⟨e1.trans h1, e2.trans h2, e3.trans h3, h4, RSk_c r (fun j hj => h j (by simp; omega)) h5⟩
theorem PT_c {z z' : Sg} {t : Nat → Int32} {n : Nat} (h : PT z t n) (h0 : z' 0 1 = z 0 1) (h1 : z' 1 = z 1) : PT z' t n := ⟨h0.trans h.1, h.2.1, h1.trans h.2.2.1, h.2.2.2⟩
theorem fClose_ok {t : Nat → Int32} {n : Nat} {z : Sg} {i j : Nat} {k : List Fr} (hp : PT z t n) (hi : i < 64) (hs : PStk z k) (h : (fClose (chr t n) z i k).1 = some j) : PStk (fClose (chr t n) z i k).2.1 (fClose (chr t n) z i k).2.2 ∧ PT (fClose (chr t n) z i k).2.1 t n ∧ j < 900 ∧ i < j := by
  obtain ⟨hd, hd6, hR⟩ := hs
  cases k with
  | nil => cases h
  | cons f k =>
    obtain ⟨hh, o, f⟩ := f
    obtain ⟨h10, h11, h12, ⟨ok1, ok2, ok3⟩, hR⟩ := hR
    simp only [fClose] at h ⊢
    split at h
    · rename_i hc
      rw [if_pos hc]
      have h : i + 2 = j := Option.some.inj h
      refine ⟨⟨hd, hd6, h10, h11, ?_, ⟨ok1, ok2, fun y hy => by have : i = y := Option.some.inj hy; omega⟩, RSk_c (z := z) k (fun q hq => ⟨rfl, rfl, ?_⟩) hR⟩, hp, by omega, by omega⟩
      · show upd (z 12) k.length (nI i) k.length = nI i
        rw [pk_us]
      · show upd (z 12) k.length (nI i) q = z 12 q
        rw [pk_un (by omega)]
    · rename_i hc
      rw [if_neg hc]
      have h : i + 1 = j := Option.some.inj h
      have hk : k.length + 1 ≤ 6 := hd6
      refine ⟨⟨?_, Nat.le_of_succ_le hk, RSk_c (z := z) k (fun q hq => ⟨?_, ?_, ?_⟩) hR⟩, PT_c hp ?_ ?_, by omega, by omega⟩
      · show fLk _ _ _ _ _ _ _ 0 15 = _
        rw [fLk_n (by decide) (by decide), clZ_n (by decide)]
        show upd (z 0) 15 (nI k.length) 15 = _
        rw [pk_us]
      · show fLk _ _ _ _ _ _ _ 10 q = _
        rw [fLk_n (by decide) (by decide), clZ_n (by decide)]; rfl
      · show fLk _ _ _ _ _ _ _ 11 q = _
        rw [fLk_n (by decide) (by decide), clZ_n (by decide)]; rfl
      · show fLk _ _ _ _ _ _ _ 12 q = _
        rw [fLk_n (by decide) (by decide), clZ_n (by decide)]; rfl
      · show fLk _ _ _ _ _ _ _ 0 1 = _
        rw [fLk_n (by decide) (by decide), clZ_n (by decide)]; rfl
      · show fLk _ _ _ _ _ _ _ 1 = _
        rw [fLk_n (by decide) (by decide), clZ_n (by decide)]; rfl
theorem fCL_gt {c : Nat → Int32} {i : Nat} : ∀ (k : Nat) (z : Sg) (o : Option Nat), (∀ j, o = some j → i < j) → ∀ j, (fCL c k z o).1 = some j → i < j
  | 0, z, o, h, j, e => h j e
  | k + 1, z, none, h, j, e => by cases e
  | k + 1, z, some q, h, j, e => by
    unfold fCL at e; split at e
    · exact fCL_gt k _ _ (fun j hj => by have := aEnd_le hj; have := h q rfl; omega) j e
    · exact h j e
theorem fWrite_n {c : Nat → Int32} {z : Sg} {i a : Nat} (h2 : a ≠ 2) (h3 : a ≠ 3) (h4 : a ≠ 4) (h5 : a ≠ 5) (h6 : a ≠ 6) (h7 : a ≠ 7) : (fWrite c z i).2 a = z a := by
  unfold fWrite; simp only []
  split
  · rfl
  · split
    · rfl
    · simp [us, h2, h3, h4, h5, h6, h7]
theorem fWrite_b {c : Nat → Int32} {z : Sg} {i j : Nat} (h : (fWrite c z i).1 = some j) : i < j ∧ j ≤ i + 8 := by
  unfold fWrite at h; simp only [] at h
  have a1 := fBeh_le i (fPart c i)
  have a2 := fBeh_gt i (fPart c i)
  have a3 := fBeh_le (fBeh i (fPart c i) + 1) (fVal c (fBeh i (fPart c i) + 1))
  have a4 := fBeh_gt (fBeh i (fPart c i) + 1) (fVal c (fBeh i (fPart c i) + 1))
  split at h
  · cases h
  · split at h
    · cases h
    · have h := Option.some.inj h
      omega
theorem fStmt_PT {t : Nat → Int32} {n : Nat} {z : Sg} {i : Nat} {k : List Fr} (hp : PT z t n) : PT (fStmt (chr t n) z i k).2.1 t n := by
  have hp1 : PT (us z 0 3 (z 0 3 + 1)) t n := hp
  unfold fStmt; split
  · show PT (fOpen _ _ _ _ _).2 t n
    have hq := PT_fCond (c := chr t n) (i := i) hp1
    generalize fCond (chr t n) (us z 0 3 (z 0 3 + 1)) i = q at hq ⊢
    obtain ⟨o, q⟩ := q
    cases o with
    | none => exact hq
    | some j =>
      simp only [fOpen]; split
      · exact hq
      · exact hq
  · split
    · exact hp
    · split
      · exact hp
      · exact PT_c hp1 (congrFun (fWrite_n (by decide) (by decide) (by decide) (by decide) (by decide) (by decide)) 1) (fWrite_n (by decide) (by decide) (by decide) (by decide) (by decide) (by decide))
theorem fClose_PT {t : Nat → Int32} {n : Nat} {z : Sg} {i : Nat} {k : List Fr} (hp : PT z t n) : PT (fClose (chr t n) z i k).2.1 t n := by
  cases k with
  | nil => exact hp
  | cons f k =>
    obtain ⟨hh, o, f⟩ := f
    simp only [fClose]
    split
    · exact hp
    · refine PT_c hp ?_ ?_
      · show fLk _ _ _ _ _ _ _ 0 1 = _
        rw [fLk_n (by decide) (by decide), clZ_n (by decide)]; rfl
      · show fLk _ _ _ _ _ _ _ 1 = _
        rw [fLk_n (by decide) (by decide), clZ_n (by decide)]; rfl
theorem fStmt_ok {t : Nat → Int32} {n : Nat} {z : Sg} {i j : Nat} {k : List Fr} (hp : PT z t n) (hi : i < 64) (hs : PStk z k) (h : (fStmt (chr t n) z i k).1 = some j) : PStk (fStmt (chr t n) z i k).2.1 (fStmt (chr t n) z i k).2.2 ∧ j < 900 ∧ i < j := by
  have hn := hp.2.1
  obtain ⟨hd, hd6, hR⟩ := hs
  unfold fStmt at h ⊢
  split
  · rename_i hc
    rw [if_pos hc] at h
    have e15 : (fCond (chr t n) (us z 0 3 (z 0 3 + 1)) i).2 0 15 = nI k.length := by rw [fCond_n (by decide) (by decide) (by decide) (by decide)]; exact hd
    have e10 : (fCond (chr t n) (us z 0 3 (z 0 3 + 1)) i).2 10 = z 10 := by rw [fCond_n (by decide) (by decide) (by decide) (by decide)]; rfl
    have e11 : (fCond (chr t n) (us z 0 3 (z 0 3 + 1)) i).2 11 = z 11 := by rw [fCond_n (by decide) (by decide) (by decide) (by decide)]; rfl
    have e12 : (fCond (chr t n) (us z 0 3 (z 0 3 + 1)) i).2 12 = z 12 := by rw [fCond_n (by decide) (by decide) (by decide) (by decide)]; rfl
    have hg : ∀ j, (fCond (chr t n) (us z 0 3 (z 0 3 + 1)) i).1 = some j → i < j := fCL_gt _ _ _ (fun j hj => by have := aEnd_le hj; omega)
    generalize fCond (chr t n) (us z 0 3 (z 0 3 + 1)) i = q at h e15 e10 e11 e12 hg ⊢
    obtain ⟨o, q⟩ := q
    cases o with
    | none => cases h
    | some p =>
      have hgp := hg p rfl
      simp only [fOpen] at h ⊢
      split at h
      · rename_i hc2
        rw [if_pos hc2]
        have hpn := chr_lt hc2.1 (by decide)
        have h : p + 1 = j := Option.some.inj h
        refine ⟨⟨?_, ?_, ?_, ?_, ?_, ⟨hgp, by show p < 65; omega, fun y hy => by cases hy⟩, RSk_c (z := z) k (fun m hm => ⟨?_, ?_, ?_⟩) hR⟩, by omega, by omega⟩
        · show upd (q 0) 15 (nI (k.length + 1)) 15 = nI (k.length + 1)
          rw [pk_us]
        · show k.length + 1 ≤ 6
          omega
        · show upd (q 10) k.length (nI i) k.length = nI i
          rw [pk_us]
        · show upd (q 11) k.length (nI p) k.length = nI p
          rw [pk_us]
        · show upd (q 12) k.length (-1) k.length = -1
          rw [pk_us]
        · show upd (q 10) k.length (nI i) m = z 10 m
          rw [pk_un (by omega)]; exact congrFun e10 m
        · show upd (q 11) k.length (nI p) m = z 11 m
          rw [pk_un (by omega)]; exact congrFun e11 m
        · show upd (q 12) k.length (-1) m = z 12 m
          rw [pk_un (by omega)]; exact congrFun e12 m
      · cases h
  · rename_i hc
    rw [if_neg hc] at h
    split
    · rename_i hc2
      rw [if_pos hc2] at h
      have h : (if chr t n (i + 1) = 59 then some (i + 2) else none) = some j := h
      split at h
      · have h := Option.some.inj h
        exact ⟨⟨hd, hd6, RSk_c (z := z) k (fun m hm => ⟨rfl, rfl, rfl⟩) hR⟩, by omega, by omega⟩
      · cases h
    · rename_i hc2
      rw [if_neg hc2] at h
      split
      · rename_i hc3
        rw [if_pos hc3] at h
        have h : (if chr t n (i + 1) = 59 then some (i + 2) else none) = some j := h
        split at h
        · have h := Option.some.inj h
          exact ⟨⟨hd, hd6, RSk_c (z := z) k (fun m hm => ⟨rfl, rfl, rfl⟩) hR⟩, by omega, by omega⟩
        · cases h
      · rename_i hc3
        rw [if_neg hc3] at h
        have hb := fWrite_b h
        refine ⟨⟨?_, hd6, RSk_c (z := z) k (fun m hm => ⟨?_, ?_, ?_⟩) hR⟩, by omega, by omega⟩
        · exact (congrFun (fWrite_n (by decide) (by decide) (by decide) (by decide) (by decide) (by decide)) 15).trans hd
        · exact congrFun (fWrite_n (by decide) (by decide) (by decide) (by decide) (by decide) (by decide)) m
        · exact congrFun (fWrite_n (by decide) (by decide) (by decide) (by decide) (by decide) (by decide)) m
        · exact congrFun (fWrite_n (by decide) (by decide) (by decide) (by decide) (by decide) (by decide)) m
/-- the text, read on from a place -/
def xLoop (c : Nat → Int32) (n : Nat) : Nat → Option Nat → Sg → List Fr → Option Nat × Sg × List Fr
  | 0, o, z, k => (o, z, k)
  | _ + 1, none, z, k => (none, z, k)
  | m + 1, some i, z, k => if i < n then (if c i = 125 then xLoop c n m (fClose c z i k).1 (fClose c z i k).2.1 (fClose c z i k).2.2 else xLoop c n m (fStmt c z i k).1 (fStmt c z i k).2.1 (fStmt c z i k).2.2) else (some i, z, k)
set_option maxRecDepth 100000 in
set_option maxHeartbeats 1000000 in
theorem lp_P_parse (l : Launch) (r : List va_E) {t : Nat → Int32} {n : Nat} (Rt : Option Value → List va_E → Prop) : ∀ (m : Nat) (o : Option Nat) (z : Sg) (k : List Fr), PT z t n → m ≤ 64 → (∀ i, o = some i → i < 900 ∧ PStk z k) →
    (∀ (i : Option Nat) (z' : Sg) (k' : List Fr), (i, z', k') = xLoop (chr t n) n m o z k → PT z' t n → (∀ j, i = some j → j < 900 ∧ PStk z' k') → XW l 5 q_P_parse Rt 70 [(0, .ref 0), (1, .int (oI i))] [] (wP z' r)) →
    XW l 5 q_P_parse Rt 22 [(0, .ref 0), (1, .int (oI o)), (2, .int (nI (64 - m)))] [] (wP z r)
  | 0, o, z, k, hp, hm, hs, K => by
    refine xw_go xcls ok_P_parse 60 [(70, [0, 1])] ?_
    refine And.intro (fun h => ?_) (fun h => absurd (by decide) h)
    exact K o z k rfl hp hs
  | m + 1, o, z, k, hp, hm, hs, K => by
    have hn := hp.2.1
    refine xw_go xcls ok_P_parse 80 [(70, [0, 1]), (22, [0, 1, 2])] ?_
    refine And.intro (fun h => absurd h (by rw [show (64 : Int32) = nI 64 from rfl, nI_le' (by omega) (by omega)]; omega)) (fun h => ?_)
    refine And.intro (fun h2 => ?_) (fun h2 => ?_)
    · cases o with
      | none => exact K none z k rfl hp hs
      | some i => exact absurd h2 (nI_n0 (by have := (hs i rfl).1; omega))
    · cases o with
      | none => exact absurd (by decide) h2
      | some i =>
        obtain ⟨hi, hst⟩ := hs i rfl
        have e64 : nI (64 - (m + 1)) + 1 = nI (64 - m) := by rw [nI_p1]; congr 1; omega
        refine And.intro (fun h3 => ?_) (fun h3 => ?_)
        · have h3 : z 0 1 ≤ nI i := h3
          rw [hp.1, nI_le' (by omega) (by omega)] at h3
          exact K (some i) z k (by simp [xLoop, Nat.not_lt.mpr h3]) hp hs
        · have h3 : ¬ z 0 1 ≤ nI i := h3
          rw [hp.1, nI_le' (by omega) (by omega)] at h3
          have h3 : i < n := Nat.not_le.mp h3
          refine ⟨0, _, _, by decide, c_P_charAt l z r i hp (by omega), ?_⟩
          refine And.intro (fun h4 => ?_) (fun h4 => ?_)
          · refine ⟨4, _, _, by decide, c_P_readStatement l z r i k hp (by omega) hst, ?_⟩
            have ih := lp_P_parse l r Rt m (fStmt (chr t n) z i k).1 (fStmt (chr t n) z i k).2.1 (fStmt (chr t n) z i k).2.2 (fStmt_PT hp) (by omega) (fun j hj => by have := fStmt_ok hp (by omega) hst hj; exact ⟨this.2.1, this.1⟩) (fun i' z' k' e => K i' z' k' (by rw [e]; simp [xLoop, h3, h4]))
            rw [← e64] at ih
            exact ih
          · refine ⟨2, _, _, by decide, c_P_closeBlock l z r i k hp (by omega) hst, ?_⟩
            have ih := lp_P_parse l r Rt m (fClose (chr t n) z i k).1 (fClose (chr t n) z i k).2.1 (fClose (chr t n) z i k).2.2 (fClose_PT hp) (by omega) (fun j hj => by have := fClose_ok hp (by omega) hst hj; exact ⟨this.2.2.1, this.1⟩) (fun i' z' k' e => K i' z' k' (by rw [e]; simp [xLoop, h3, h4]))
            rw [← e64] at ih
            exact ih
/-- the state as reading begins -/
def z0 (z : Sg) : Sg := us (us (uc z 2 (fFill 65 (z 2) 0 65)) 0 3 0) 0 15 0
def xPar (t : Nat → Int32) (n : Nat) (z : Sg) : Option Nat × Sg × List Fr := xLoop (chr t n) n 64 (some 0) (z0 z) []
set_option maxRecDepth 100000 in
set_option maxHeartbeats 1000000 in
theorem c_P_parse (l : Launch) (z : Sg) (r : List va_E) {t : Nat → Int32} {n : Nat} (hp : PT z t n) (ex wy ow : Nat → Nat)
    (hv : (xPar t n z).1 = some n → (xPar t n z).2.2 = [] → (∀ p, chr t n p = 125 → (xPar t n z).2.1 9 p = nI (ex p) ∧ ex p < 65) ∧ (∀ p, p < n → ¬ (xPar t n z).2.1 2 p = 0 → (xPar t n z).2.1 7 p = nI (wy p) ∧ wy p < 900) ∧ (∀ p, p < n → (xPar t n z).2.1 2 p = 5 → (xPar t n z).2.1 8 p = nI (ow p) ∧ ow p < 900)) :
    XMet l 5 q_P_parse [.ref 0] (wP z r) none (wP (if (xPar t n z).1 = some n ∧ (xPar t n z).2.2 = [] then fLd (chr t n) ex wy ow (us (us (xPar t n z).2.1 0 2 1) 2 n 6) n else us (xPar t n z).2.1 0 2 0) r) := by
  have hn := hp.2.1
  generalize hW : (if (xPar t n z).1 = some n ∧ (xPar t n z).2.2 = [] then fLd (chr t n) ex wy ow (us (us (xPar t n z).2.1 0 2 1) 2 n 6) n else us (xPar t n z).2.1 0 2 0) = zz
  refine xm_intro (by decide +kernel) (Nat.le_of_ble_eq_true rfl) ?_
  refine xw_go xcls ok_P_parse 60 [(22, [0, 1, 2])] ?_
  refine ⟨0, _, _, by decide, c_JA_fill l (wP z r) 2 65 (z 2) 0 rfl (by decide), ?_⟩
  refine And.intro trivial ?_
  refine And.intro trivial ?_
  refine lp_P_parse l r _ 64 (some 0) (z0 z) [] hp (by omega) (fun i hi => by cases hi; exact ⟨by omega, rfl, by decide, trivial⟩) (fun i z' k' e hp' hs' => ?_)
  have e : (i, z', k') = xPar t n z := e
  rw [← e] at hW hv
  have tl : ∀ b : Int32, b = (if i = some n ∧ k' = [] then 1 else 0) → XW l 5 q_P_parse (fun a b => a = none ∧ b = wP zz r) 91 [(0, .ref 0)] [.int b, .ref 0] (wP z' r) := by
    intro b hb
    refine xw_go xcls ok_P_parse 60 [] ?_
    by_cases hc : i = some n ∧ k' = []
    · rw [if_pos hc] at hb hW
      subst hb
      refine And.intro (Or.inr rfl) ?_
      refine And.intro (fun q => absurd q (by decide)) (fun q => ?_)
      have hp' : PT (us z' 0 2 1) t n := hp'
      have ez : z' 0 1 = nI n := hp'.1
      refine And.intro (by show vp_in (z' 0 1) 65; rw [ez]; exact in_nI (by omega) (by omega)) ?_
      rw [show (z' 0 1).toNatClampNeg = n by rw [ez, cl_nI (by omega)]]
      obtain ⟨v1, v2, v3⟩ := hv hc.1 hc.2
      have k2 : ∀ p, p < n → us (us z' 0 2 1) 2 n 6 2 p = z' 2 p := fun p hpn => by
        show upd (z' 2) n 6 p = z' 2 p
        rw [pk_un (by omega)]
      refine ⟨2, _, _, by decide, c_P_lead l (us (us z' 0 2 1) 2 n 6) r ex wy ow hp' v1 (fun p h1 h2 => v2 p h1 (by rw [k2 p h1] at h2; exact h2)) (fun p h1 h2 => v3 p h1 (by rw [k2 p h1] at h2; exact h2)), ?_⟩
      exact And.intro rfl ⟨rfl, by rw [← hW]⟩
    · rw [if_neg hc] at hb hW
      subst hb
      refine And.intro (Or.inl rfl) ?_
      refine And.intro (fun q => ?_) (fun q => absurd rfl q)
      exact And.intro rfl ⟨rfl, by rw [← hW]; rfl⟩
  refine xw_go xcls ok_P_parse 60 [(91, [0])] ?_
  have ei : oI i = z' 0 1 ↔ i = some n := by
    rw [hp'.1]
    cases i with
    | none => exact ⟨fun q => absurd q.symm (nI_nm1 (by omega)), fun q => by cases q⟩
    | some j =>
      have := (hs' j rfl).1
      show nI j = nI n ↔ _
      rw [nI_eq' (by omega) (by omega)]
      exact ⟨fun q => by rw [q], fun q => Option.some.inj q⟩
  refine And.intro (fun q => ?_) (fun q => ?_)
  · exact tl 0 (by rw [if_neg (fun c => q (ei.mpr c.1))])
  · have hin := ei.mp q
    have hst := (hs' n hin).2
    have ed : z' 0 15 = 0 ↔ k' = [] := by
      rw [hst.1, show (0 : Int32) = nI 0 from rfl, nI_eq' (by have := hst.2.1; omega) (by omega)]
      exact List.length_eq_zero_iff
    refine And.intro (fun q2 => ?_) (fun q2 => ?_)
    · exact tl 0 (by rw [if_neg (fun c => q2 (ed.mpr c.2))])
    · exact tl 1 (by rw [if_pos ⟨hin, ed.mp q2⟩])
end
section
/-! Program: append, clear, counts -/
/-- the byte of number m of a long, from below -/
def bO (x : Int64) (m : Nat) : Int32 := (x.toUInt64 >>> ((nI (8 * m)).toInt64.toUInt64 &&& Int64.toUInt64 63)).toInt64.toInt32 &&& 255
set_option maxRecDepth 100000 in
set_option maxHeartbeats 1000000 in
theorem c_P_byteOf (l : Launch) (w : List va_E) (x : Int64) (m : Nat) {s : Int32} (hs : s = nI (8 * m) := by rfl) : XMet l 0 q_P_byteOf [.long x, .int s] w (some (.int (bO x m))) w := by
  subst hs
  refine xm_intro (by decide +kernel) (Nat.le_of_ble_eq_true rfl) ?_
  refine xw_go xcls ok_P_byteOf 40 [] ?_
  exact And.intro trivial ⟨rfl, rfl⟩
/-- how many characters: none if one is not allowed -/
def fCnt (x : Int64) : Nat → Nat → Option Nat
  | 0, a => some a
  | m + 1, a => if ¬ bO x m = 0 ∧ (bO x m < 33 ∨ 126 < bO x m) then none else fCnt x m (a + if bO x m = 0 then 0 else 1)
theorem nI_8 (m : Nat) : nI (8 * (m + 1)) - 8 = nI (8 * m) := by
  rw [show (8 : Int32) = nI 8 from rfl, pk_sub (by omega)]; congr 1
theorem m8 (x : Int32) : x + (-8) = x - 8 := (Int32.sub_eq_add_neg x 8).symm
set_option maxRecDepth 100000 in
set_option maxHeartbeats 1000000 in
theorem lp_P_countCharacters (l : Launch) (w : List va_E) (x : Int64) : ∀ (m a : Nat), m ≤ 8 → XW l 1 q_P_countCharacters (fun u b => u = some (.int (oI (fCnt x m a))) ∧ b = w) 5 [(0, .long x), (2, .int (nI a)), (3, .int (nI (8 * m) - 8))] [] w
  | 0, a, hm => by
    refine xw_go xcls ok_P_countCharacters 60 [] ?_
    refine And.intro (fun h => ?_) (fun h => absurd (by decide) h)
    exact And.intro trivial ⟨rfl, rfl⟩
  | m + 1, a, hm => by
    rw [nI_8]
    refine xw_go xcls ok_P_countCharacters 60 [(5, [0, 2, 3]), (37, [0, 2, 3, 4])] ?_
    refine And.intro (fun h => absurd h (nI_n0 (by omega))) (fun h => ?_)
    refine ⟨0, _, _, by decide, c_P_byteOf l w x m, ?_⟩
    have j37 : ¬ (¬ bO x m = 0 ∧ (bO x m < 33 ∨ 126 < bO x m)) → XW l 1 q_P_countCharacters (fun u b => u = some (.int (oI (fCnt x (m + 1) a))) ∧ b = w) 37 [(0, .long x), (2, .int (nI a)), (3, .int (nI (8 * m))), (4, .int (bO x m))] [] w := by
      intro hc
      have e : fCnt x (m + 1) a = fCnt x m (a + if bO x m = 0 then 0 else 1) := by simp only [fCnt]; rw [if_neg hc]
      rw [e]
      have ih := lp_P_countCharacters l w x m (a + if bO x m = 0 then 0 else 1) (by omega)
      refine xw_go xcls ok_P_countCharacters 60 [(5, [0, 2, 3])] ?_
      refine And.intro (fun q => ?_) (fun q => ?_)
      · rw [if_pos q] at ih ⊢
        rw [Nat.add_zero] at ih ⊢
        rw [show nI a = nI a + 0 from (nI_add a 0).symm, ← m8] at ih
        exact ih
      · rw [if_neg q] at ih ⊢
        rw [← nI_p1, ← m8] at ih
        exact ih
    refine And.intro (fun q => ?_) (fun q => ?_)
    · exact j37 (fun c => c.1 q)
    · refine And.intro (fun q2 => ?_) (fun q2 => ?_)
      · have e : fCnt x (m + 1) a = none := by simp only [fCnt]; rw [if_pos ⟨q, Or.inl q2⟩]
        rw [e]
        exact And.intro trivial ⟨rfl, rfl⟩
      · refine And.intro (fun q3 => ?_) (fun q3 => ?_)
        · exact j37 (fun c => c.2.elim q2 (Int32.not_lt.mpr q3))
        · have e : fCnt x (m + 1) a = none := by simp only [fCnt]; rw [if_pos ⟨q, Or.inr (Int32.not_le.mp q3)⟩]
          rw [e]
          exact And.intro trivial ⟨rfl, rfl⟩
set_option maxRecDepth 100000 in
set_option maxHeartbeats 1000000 in
theorem c_P_countCharacters (l : Launch) (w : List va_E) (x : Int64) : XMet l 1 q_P_countCharacters [.long x] w (some (.int (oI (fCnt x 8 0)))) w := by
  refine xm_intro (by decide +kernel) (Nat.le_of_ble_eq_true rfl) ?_
  refine xw_go xcls ok_P_countCharacters 60 [(5, [0, 2, 3])] ?_
  exact lp_P_countCharacters l w x 8 0 (by omega)
/-- the text with the characters of a long behind it -/
def fApp (x : Int64) : Nat → (Nat → Int32) → Nat → (Nat → Int32) × Nat
  | 0, t, n => (t, n)
  | m + 1, t, n => if bO x m = 0 then fApp x m t n else fApp x m (upd t n (vp_nar .char ((bO x m).toUInt32 % 65536).toInt32)) (n + 1)
/-- how many characters, all of them allowed -/
def nCh (x : Int64) : Nat → Nat
  | 0 => 0
  | m + 1 => (if bO x m = 0 then 0 else 1) + nCh x m
theorem fCnt_eq {x : Int64} : ∀ (m a b : Nat), fCnt x m a = some b → b = a + nCh x m
  | 0, a, b, h => by simp only [fCnt] at h; cases h; simp [nCh]
  | m + 1, a, b, h => by
    simp only [fCnt] at h
    split at h
    · cases h
    · have := fCnt_eq m _ b h
      simp only [nCh]; omega
theorem nCh_le {x : Int64} : ∀ m, nCh x m ≤ m
  | 0 => Nat.le_refl _
  | m + 1 => by
    have := nCh_le (x := x) m
    simp only [nCh]; split <;> omega
def sT (z : Sg) (q : (Nat → Int32) × Nat) : Sg := us (uc z 1 q.1) 0 1 (nI q.2)
theorem sT_1 {z : Sg} {q : (Nat → Int32) × Nat} : sT z q 1 = q.1 := by simp [sT, us, uc]
set_option maxRecDepth 100000 in
set_option maxHeartbeats 1000000 in
theorem lp_P_append (l : Launch) (z : Sg) (r : List va_E) (x : Int64) : ∀ (m : Nat) (t : Nat → Int32) (n : Nat), m ≤ 8 → n + nCh x m ≤ 64 → XW l 2 q_P_append (fun u b => u = some (.int 1) ∧ b = wP (sT z (fApp x m t n)) r) 27 [(0, .ref 0), (1, .long x), (4, .int (nI (8 * m) - 8))] [] (wP (sT z (t, n)) r)
  | 0, t, n, hm, hn => by
    refine xw_go xcls ok_P_append 60 [] ?_
    refine And.intro (fun h => ?_) (fun h => absurd (by decide) h)
    exact And.intro (Or.inr rfl) ⟨rfl, rfl⟩
  | m + 1, t, n, hm, hn => by
    rw [nI_8]
    simp only [nCh] at hn
    refine xw_go xcls ok_P_append 60 [(27, [0, 1, 4])] ?_
    refine And.intro (fun h => absurd h (nI_n0 (by omega))) (fun h => ?_)
    refine ⟨0, _, _, by decide, c_P_byteOf l _ x m, ?_⟩
    refine And.intro (fun q => ?_) (fun q => ?_)
    · have e : fApp x (m + 1) t n = fApp x m t n := by simp [fApp, q]
      rw [e]
      have ih := lp_P_append l z r x m t n (by omega) (by rw [if_pos q] at hn; omega)
      rw [← m8] at ih
      exact ih
    · rw [if_neg q] at hn
      have e : fApp x (m + 1) t n = fApp x m (upd t n (vp_nar .char ((bO x m).toUInt32 % 65536).toInt32)) (n + 1) := by simp [fApp, q]
      rw [e]
      have e01 : sT z (t, n) 0 1 = nI n := rfl
      refine And.intro (by rw [e01]; exact in_nI (by omega) (by omega)) ?_
      rw [e01, cl_nI (by omega)]
      refine And.intro trivial ?_
      rw [e01, nI_p1]
      have ih := lp_P_append l z r x m (upd t n (vp_nar .char ((bO x m).toUInt32 % 65536).toInt32)) (n + 1) (by omega) (by omega)
      rw [← m8] at ih
      exact ih
def canApp (x : Int64) (n : Nat) : Prop := ∃ a, fCnt x 8 0 = some a ∧ n + a ≤ 64
set_option maxRecDepth 100000 in
set_option maxHeartbeats 1000000 in
theorem c_P_append (l : Launch) (z : Sg) (r : List va_E) (x : Int64) {t : Nat → Int32} {n : Nat} (hp : PT z t n) (hc : canApp x n) : XMet l 2 q_P_append [.ref 0, .long x] (wP z r) (some (.int 1)) (wP (sT z (fApp x 8 t n)) r) := by
  obtain ⟨hz, hn, rfl, ht⟩ := hp
  obtain ⟨a, ha, hna⟩ := hc
  have hb := fCnt_eq _ _ _ ha
  have hl := nCh_le (x := x) 8
  refine xm_intro (by decide +kernel) (Nat.le_of_ble_eq_true rfl) ?_
  refine xw_go xcls ok_P_append 60 [(27, [0, 1, 4])] ?_
  refine ⟨1, _, _, by decide, c_P_countCharacters l _ x, ?_⟩
  rw [ha]
  refine And.intro (fun q => absurd q (nI_nm1 (by omega))) (fun q => ?_)
  refine And.intro (fun q2 => ?_) (fun q2 => ?_)
  · have ih := lp_P_append l z r x 8 (z 1) n (by omega) (by omega)
    have e : wP (sT z (z 1, n)) r = wP z r := by
      show wP (us (uc z 1 (z 1)) 0 1 (nI n)) r = _
      rw [← hz]; rfl
    rw [e] at ih
    exact ih
  · have q2 : ¬ z 0 1 + nI a ≤ 64 := q2
    rw [hz, nI_add, show (64 : Int32) = nI 64 from rfl, nI_le' (by omega) (by omega)] at q2
    omega
set_option maxRecDepth 100000 in
set_option maxHeartbeats 1000000 in
theorem c_P_appendN (l : Launch) (z : Sg) (r : List va_E) (x : Int64) {t : Nat → Int32} {n : Nat} (hp : PT z t n) (hc : ¬ canApp x n) : XMet l 2 q_P_append [.ref 0, .long x] (wP z r) (some (.int 0)) (wP z r) := by
  obtain ⟨hz, hn, rfl, ht⟩ := hp
  have hl := nCh_le (x := x) 8
  refine xm_intro (by decide +kernel) (Nat.le_of_ble_eq_true rfl) ?_
  refine xw_go xcls ok_P_append 60 [(27, [0, 1, 4])] ?_
  refine ⟨1, _, _, by decide, c_P_countCharacters l _ x, ?_⟩
  refine And.intro (fun q => ?_) (fun q => ?_)
  · exact And.intro (Or.inl rfl) ⟨rfl, rfl⟩
  · cases ha : fCnt x 8 0 with
    | none => rw [ha] at q; exact absurd rfl q
    | some a =>
      have hb := fCnt_eq _ _ _ ha
      refine And.intro (fun q2 => ?_) (fun q2 => ?_)
      · have q2 : z 0 1 + oI (some a) ≤ 64 := q2
        have q2 : z 0 1 + nI a ≤ 64 := q2
        rw [hz, nI_add, show (64 : Int32) = nI 64 from rfl, nI_le' (by omega) (by omega)] at q2
        exact absurd ⟨a, ha, q2⟩ hc
      · exact And.intro (Or.inl rfl) ⟨rfl, rfl⟩
set_option maxRecDepth 100000 in
set_option maxHeartbeats 1000000 in
theorem c_P_clear (l : Launch) (z : Sg) (r : List va_E) : XMet l 0 q_P_clear [.ref 0] (wP z r) none (wP (us z 0 1 0) r) := by
  refine xm_intro (by decide +kernel) (Nat.le_of_ble_eq_true rfl) ?_
  refine xw_go xcls ok_P_clear 40 [] ?_
  exact And.intro trivial (And.intro rfl ⟨rfl, rfl⟩)
/-- a place that counts -/
def cntP (z : Sg) (n : Nat) (p : Int32) : Prop := ¬ z 0 2 = 0 ∧ 0 ≤ p ∧ p ≤ nI n ∧ ¬ z 2 p.toNatClampNeg = 0
theorem in_le {p : Int32} {n N : Nat} (h0 : 0 ≤ p) (h1 : p ≤ nI n) (hn : n < N) (hN : N < 1000) : vp_in p N := by
  rw [vp_in_iff]
  have a := Int32.le_iff_toInt_le.mp h0
  have b := Int32.le_iff_toInt_le.mp h1
  rw [nI_toInt (by omega)] at b
  have c : (0 : Int32).toInt = 0 := by decide
  omega
set_option maxRecDepth 100000 in
set_option maxHeartbeats 1000000 in
theorem c_P_counts (l : Launch) (z : Sg) (r : List va_E) (p : Int32) {t : Nat → Int32} {n : Nat} (hp : PT z t n) (b : Int32) (hb : (cntP z n p ∧ b = 1) ∨ (¬ cntP z n p ∧ b = 0)) : XMet l 0 q_P_counts [.ref 0, .int p] (wP z r) (some (.int b)) (wP z r) := by
  obtain ⟨hz, hn, rfl, ht⟩ := hp
  refine xm_intro (by decide +kernel) (Nat.le_of_ble_eq_true rfl) ?_
  have no : ¬ cntP z n p → XW l 0 q_P_counts (fun u v => u = some (.int b) ∧ v = wP z r) 32 [] [] (wP z r) := by
    intro h
    rcases hb with ⟨h1, -⟩ | ⟨-, rfl⟩
    · exact absurd h1 h
    · refine xw_go xcls ok_P_counts 40 [] ?_
      exact And.intro (Or.inl rfl) ⟨rfl, rfl⟩
  refine xw_go xcls ok_P_counts 40 [(32, [])] ?_
  refine And.intro (fun q => no (fun c => c.1 q)) (fun q => ?_)
  refine And.intro (fun q2 => no (fun c => Int32.not_le.mpr q2 c.2.1)) (fun q2 => ?_)
  refine And.intro (fun q3 => no (fun c => Int32.not_le.mpr q3 (by rw [hz]; exact c.2.2.1))) (fun q3 => ?_)
  have q2 := Int32.not_lt.mp q2
  have q3 : p ≤ nI n := by rw [← hz]; exact Int32.not_lt.mp q3
  refine And.intro (in_le q2 q3 (by omega) (by omega)) ?_
  refine And.intro (fun q4 => no (fun c => c.2.2.2 q4)) (fun q4 => ?_)
  rcases hb with ⟨-, rfl⟩ | ⟨h1, -⟩
  · exact And.intro (Or.inr rfl) ⟨rfl, rfl⟩
  · exact absurd ⟨q, q2, q3, q4⟩ h1
end
section
/-! Checker: what is known at a place while its work is done -/
def sB (v : Int32) : Int32 := 1 <<< (v &&& 31)
def lB (v : Int32) : Int32 := 1 <<< ((5 + v) &&& 31)
def wQ (z : Sg) (r : List va_E) : List va_E := wP z (wC z r)
/-- states, alarms, changed, known, found -/
def sC (z : Sg) (S A : Nat → Int32) (ch k f : Int32) : Sg := us (us (us (uc (uc z 14 S) 15 A) 13 2 ch) 13 3 k) 13 4 f
set_option maxRecDepth 100000 in
theorem c_K_sureBit (l : Launch) (w : List va_E) (v : Int32) : XMet l 0 q_K_sureBit [.int v] w (some (.int (sB v))) w := by
  refine xm_intro (by decide +kernel) (Nat.le_of_ble_eq_true rfl) ?_
  refine xw_go xcls ok_K_sureBit 20 [] ?_
  exact And.intro trivial ⟨rfl, rfl⟩
set_option maxRecDepth 100000 in
theorem c_K_linkedBit (l : Launch) (w : List va_E) (v : Int32) : XMet l 0 q_K_linkedBit [.int v] w (some (.int (lB v))) w := by
  refine xm_intro (by decide +kernel) (Nat.le_of_ble_eq_true rfl) ?_
  refine xw_go xcls ok_K_linkedBit 20 [] ?_
  exact And.intro trivial ⟨rfl, rfl⟩
/-- 0 or 1 -/
def bI (p : Prop) [Decidable p] : Int32 := if p then 1 else 0
section
variable (l : Launch) (z : Sg) (r : List va_E) (S A : Nat → Int32) (ch : Int32)
set_option maxRecDepth 100000 in
theorem c_K_has (k f b : Int32) : XMet l 0 q_K_has [.ref 13, .int b] (wQ (sC z S A ch k f) r) (some (.int (bI (¬ k &&& b = 0)))) (wQ (sC z S A ch k f) r) := by
  refine xm_intro (by decide +kernel) (Nat.le_of_ble_eq_true rfl) ?_
  refine xw_go xcls ok_K_has 40 [] ?_
  refine And.intro (fun h => ?_) (fun h => ?_)
  · have h : k &&& b = 0 := h
    exact And.intro (Or.inl rfl) ⟨by simp [bI, h], rfl⟩
  · have h : ¬ k &&& b = 0 := h
    exact And.intro (Or.inr rfl) ⟨by simp [bI, h], rfl⟩
def cSet (b on k : Int32) : Int32 := if on = 0 then k &&& (b ^^^ -1) else k ||| b
set_option maxRecDepth 100000 in
theorem c_K_set (k f b on : Int32) : XMet l 0 q_K_set [.ref 13, .int b, .int on] (wQ (sC z S A ch k f) r) none (wQ (sC z S A ch (cSet b on k) f) r) := by
  refine xm_intro (by decide +kernel) (Nat.le_of_ble_eq_true rfl) ?_
  refine xw_go xcls ok_K_set 40 [] ?_
  refine And.intro (fun h => ?_) (fun h => ?_)
  · exact And.intro trivial (And.intro rfl ⟨rfl, by simp only [cSet, if_pos h]; rfl⟩)
  · exact And.intro trivial (And.intro rfl ⟨rfl, by simp only [cSet, if_neg h]; rfl⟩)
set_option maxRecDepth 100000 in
theorem c_K_unlinkAll (k f : Int32) : XMet l 0 q_K_unlinkAll [.ref 13] (wQ (sC z S A ch k f) r) none (wQ (sC z S A ch (k &&& -993) f) r) := by
  refine xm_intro (by decide +kernel) (Nat.le_of_ble_eq_true rfl) ?_
  refine xw_go xcls ok_K_unlinkAll 40 [] ?_
  exact And.intro trivial (And.intro rfl ⟨rfl, rfl⟩)
abbrev KF : Type := Int32 × Int32
def cUse (v : Int32) (q : KF) : KF := (q.1 ||| sB v, if q.1 &&& sB v = 0 then q.2 ||| 1 else q.2)
set_option maxRecDepth 100000 in
theorem c_K_use (q : KF) (v : Int32) : XMet l 1 q_K_use [.ref 13, .int v] (wQ (sC z S A ch q.1 q.2) r) none (wQ (sC z S A ch (cUse v q).1 (cUse v q).2) r) := by
  refine xm_intro (by decide +kernel) (Nat.le_of_ble_eq_true rfl) ?_
  have j : ∀ f : Int32, f = (cUse v q).2 → XW l 1 q_K_use (fun a b => a = none ∧ b = wQ (sC z S A ch (cUse v q).1 (cUse v q).2) r) 21 [(0, .ref 13), (1, .int v)] [] (wQ (sC z S A ch q.1 f) r) := by
    intro f hf
    subst hf
    refine xw_go xcls ok_K_use 40 [] ?_
    refine ⟨0, _, _, by decide, c_K_sureBit l _ v, ?_⟩
    exact And.intro trivial (And.intro rfl ⟨rfl, rfl⟩)
  refine xw_go xcls ok_K_use 40 [(21, [0, 1])] ?_
  refine ⟨0, _, _, by decide, c_K_sureBit l _ v, ?_⟩
  refine ⟨0, _, _, by decide, c_K_has l z r S A ch q.1 q.2 (sB v), ?_⟩
  by_cases h : q.1 &&& sB v = 0
  · rw [show bI (¬ q.1 &&& sB v = 0) = 0 by simp [bI, h]]
    refine And.intro (fun h2 => absurd rfl h2) (fun _ => ?_)
    refine And.intro trivial ?_
    exact j (q.2 ||| 1) (by simp [cUse, h])
  · rw [show bI (¬ q.1 &&& sB v = 0) = 1 by simp [bI, h]]
    refine And.intro (fun h2 => ?_) (fun h2 => absurd h2 (by decide))
    exact j q.2 (by simp [cUse, h])
def cTake (val src : Int32) (q : KF) : Int32 × KF := if val = 0 then (bI (¬ q.1 &&& sB src = 0), q) else if val = 1 then (1, cUse src q) else if val = 2 then (bI (¬ (cUse src q).1 &&& lB src = 0), cUse src q) else if val = 4 then (1, q) else if val = 5 then (0, (q.1 &&& -993, q.2)) else (0, q)
theorem bI_01 (p : Prop) [Decidable p] : bI p = 0 ∨ bI p = 1 := by unfold bI; split <;> simp
set_option maxRecDepth 100000 in
set_option maxHeartbeats 1000000 in
theorem c_K_takeValue (q : KF) (val src : Int32) : XMet l 2 q_K_takeValue [.ref 13, .int val, .int src] (wQ (sC z S A ch q.1 q.2) r) (some (.int (cTake val src q).1)) (wQ (sC z S A ch (cTake val src q).2.1 (cTake val src q).2.2) r) := by
  refine xm_intro (by decide +kernel) (Nat.le_of_ble_eq_true rfl) ?_
  refine xw_go xcls ok_K_takeValue 40 [] ?_
  refine And.intro (fun h => ?_) (fun h0 => ?_)
  · refine ⟨0, _, _, by decide, c_K_sureBit l _ src, ?_⟩
    refine ⟨0, _, _, by decide, c_K_has l z r S A ch q.1 q.2 (sB src), ?_⟩
    exact And.intro (bI_01 _) ⟨by simp [cTake, h], by simp [cTake, h]⟩
  · refine And.intro (fun h => ?_) (fun h1 => ?_)
    · refine ⟨1, _, _, by decide, c_K_use l z r S A ch q src, ?_⟩
      exact And.intro (Or.inr rfl) ⟨by simp [cTake, h], by simp [cTake, h]⟩
    · refine And.intro (fun h => ?_) (fun h2 => ?_)
      · refine ⟨1, _, _, by decide, c_K_use l z r S A ch q src, ?_⟩
        refine ⟨0, _, _, by decide, c_K_linkedBit l _ src, ?_⟩
        refine ⟨0, _, _, by decide, c_K_has l z r S A ch (cUse src q).1 (cUse src q).2 (lB src), ?_⟩
        exact And.intro (bI_01 _) ⟨by simp [cTake, h], by simp [cTake, h]⟩
      · refine And.intro (fun h => ?_) (fun h3 => ?_)
        · exact And.intro (Or.inl rfl) ⟨by simp [cTake, h], by simp [cTake, h]⟩
        · refine And.intro (fun h => ?_) (fun h4 => ?_)
          · exact And.intro (Or.inr rfl) ⟨by simp [cTake, h], by simp [cTake, h]⟩
          · refine And.intro (fun h => ?_) (fun h5 => ?_)
            · refine ⟨0, _, _, by decide, c_K_unlinkAll l z r S A ch q.1 q.2, ?_⟩
              exact And.intro (Or.inl rfl) ⟨by simp [cTake, h], by simp [cTake, h]⟩
            · exact And.intro (Or.inl rfl) ⟨by simp [cTake, h0, h1, h2, h4, h5], by simp [cTake, h0, h1, h2, h4, h5]⟩
def cWL (v vs vl iso : Int32) (q : KF) : KF := (cSet (lB v) vl (if ¬ iso = 0 ∧ vs = 0 then q.1 else cSet (sB v) vs q.1), if ¬ iso = 0 ∧ vs = 0 then q.2 ||| 2 else q.2)
set_option maxRecDepth 100000 in
set_option maxHeartbeats 1000000 in
theorem c_K_writeLocal (q : KF) (v vs vl iso : Int32) : XMet l 1 q_K_writeLocal [.ref 13, .int v, .int vs, .int vl, .int iso] (wQ (sC z S A ch q.1 q.2) r) none (wQ (sC z S A ch (cWL v vs vl iso q).1 (cWL v vs vl iso q).2) r) := by
  refine xm_intro (by decide +kernel) (Nat.le_of_ble_eq_true rfl) ?_
  have j : ∀ k f : Int32, k = (if ¬ iso = 0 ∧ vs = 0 then q.1 else cSet (sB v) vs q.1) → f = (if ¬ iso = 0 ∧ vs = 0 then q.2 ||| 2 else q.2) → XW l 1 q_K_writeLocal (fun a b => a = none ∧ b = wQ (sC z S A ch (cWL v vs vl iso q).1 (cWL v vs vl iso q).2) r) 31 [(0, .ref 13), (1, .int v), (3, .int vl)] [] (wQ (sC z S A ch k f) r) := by
    intro k f hk hf
    subst hk; subst hf
    refine xw_go xcls ok_K_writeLocal 40 [] ?_
    refine ⟨0, _, _, by decide, c_K_linkedBit l _ v, ?_⟩
    refine ⟨0, _, _, by decide, c_K_set l z r S A ch _ _ (lB v) vl, ?_⟩
    exact And.intro rfl ⟨rfl, rfl⟩
  have j2 : ¬ (¬ iso = 0 ∧ vs = 0) → XW l 1 q_K_writeLocal (fun a b => a = none ∧ b = wQ (sC z S A ch (cWL v vs vl iso q).1 (cWL v vs vl iso q).2) r) 22 [(0, .ref 13), (1, .int v), (2, .int vs), (3, .int vl)] [] (wQ (sC z S A ch q.1 q.2) r) := by
    intro hc
    refine xw_go xcls ok_K_writeLocal 40 [(31, [0, 1, 3])] ?_
    refine ⟨0, _, _, by decide, c_K_sureBit l _ v, ?_⟩
    refine ⟨0, _, _, by decide, c_K_set l z r S A ch _ _ (sB v) vs, ?_⟩
    exact j _ _ (by rw [if_neg hc]) (by rw [if_neg hc])
  refine xw_go xcls ok_K_writeLocal 40 [(31, [0, 1, 3]), (22, [0, 1, 2, 3])] ?_
  refine And.intro (fun h => j2 (fun c => c.1 h)) (fun h => ?_)
  refine And.intro (fun h2 => j2 (fun c => h2 c.2)) (fun h2 => ?_)
  refine And.intro trivial ?_
  exact j q.1 (q.2 ||| 2) (by rw [if_pos ⟨h, h2⟩]) (by rw [if_pos ⟨h, h2⟩])
def cWF (v vs : Int32) (q : KF) : KF := if vs = 0 then (q.1 &&& -993, q.2) else (q.1 ||| lB v, q.2)
set_option maxRecDepth 100000 in
set_option maxHeartbeats 1000000 in
theorem c_K_writeFieldH (q : KF) (v vs : Int32) : XMet l 1 q_K_writeFieldH [.ref 13, .int v, .int vs] (wQ (sC z S A ch q.1 q.2) r) none (wQ (sC z S A ch (cWF v vs q).1 (cWF v vs q).2) r) := by
  refine xm_intro (by decide +kernel) (Nat.le_of_ble_eq_true rfl) ?_
  refine xw_go xcls ok_K_writeFieldH 40 [] ?_
  refine And.intro (fun h => ?_) (fun h => ?_)
  · refine ⟨0, _, _, by decide, c_K_unlinkAll l z r S A ch q.1 q.2, ?_⟩
    exact And.intro rfl ⟨rfl, by simp [cWF, h]⟩
  · refine ⟨0, _, _, by decide, c_K_linkedBit l _ v, ?_⟩
    refine And.intro trivial (And.intro rfl ⟨rfl, ?_⟩)
    simp only [cWF, if_neg h]; rfl
end
end
section
/-! Checker: the work at a place -/
def cWr (loc prt val src solid : Int32) (q : KF) : KF :=
  if prt = 0 then cWL loc (cTake val src q).1 (bI (val = 0 ∧ ¬ (cTake val src q).2.1 &&& lB src = 0)) (bI (¬ solid &&& sB loc = 0)) (cTake val src q).2
  else if prt = 2 then cWF loc (cTake val src q).1 (cUse loc (cTake val src q).2)
  else if (cTake val src q).1 = 0 then ((cUse loc (cTake val src q).2).1, (cUse loc (cTake val src q).2).2 ||| 2)
  else cUse loc (cTake val src q).2
section
variable (l : Launch) (z : Sg) (r : List va_E) (S A : Nat → Int32) (ch : Int32)
set_option maxRecDepth 100000 in
set_option maxHeartbeats 1000000 in
theorem c_K_write (q : KF) (p : Nat) (hp : p < 65) (solid : Int32) : XMet l 3 q_K_write [.ref 13, .ref 0, .int (nI p), .int solid] (wQ (sC z S A ch q.1 q.2) r) none (wQ (sC z S A ch (cWr (z 3 p) (z 4 p) (z 5 p) (z 6 p) solid q).1 (cWr (z 3 p) (z 4 p) (z 5 p) (z 6 p) solid q).2) r) := by
  refine xm_intro (by decide +kernel) (Nat.le_of_ble_eq_true rfl) ?_
  generalize hres : cWr (z 3 p) (z 4 p) (z 5 p) (z 6 p) solid q = res
  have lst : ∀ (vl : Int32) (b : Int32), z 4 p = 0 → vl = bI (z 5 p = 0 ∧ ¬ (cTake (z 5 p) (z 6 p) q).2.1 &&& lB (z 6 p) = 0) → b = bI (¬ solid &&& sB (z 3 p) = 0) → XW l 3 q_K_write (fun a b => a = none ∧ b = wQ (sC z S A ch res.1 res.2) r) 89 [] [.int b, .int vl, .int (cTake (z 5 p) (z 6 p) q).1, .int (z 3 p), .ref 13] (wQ (sC z S A ch (cTake (z 5 p) (z 6 p) q).2.1 (cTake (z 5 p) (z 6 p) q).2.2) r) := by
    intro vl b h4 h1 h2
    refine xw_go xcls ok_K_write 40 [] ?_
    refine ⟨1, _, _, by decide, c_K_writeLocal l z r S A ch (cTake (z 5 p) (z 6 p) q).2 (z 3 p) _ vl b, ?_⟩
    refine And.intro rfl ⟨rfl, ?_⟩
    rw [← hres, cWr, if_pos h4, h1, h2]
  have mid : ∀ (vl : Int32), z 4 p = 0 → vl = bI (z 5 p = 0 ∧ ¬ (cTake (z 5 p) (z 6 p) q).2.1 &&& lB (z 6 p) = 0) → XW l 3 q_K_write (fun a b => a = none ∧ b = wQ (sC z S A ch res.1 res.2) r) 65 [(0, .ref 13), (3, .int solid), (4, .int (z 3 p)), (5, .int (cTake (z 5 p) (z 6 p) q).1)] [.int vl] (wQ (sC z S A ch (cTake (z 5 p) (z 6 p) q).2.1 (cTake (z 5 p) (z 6 p) q).2.2) r) := by
    intro vl h4 h1
    refine xw_go xcls ok_K_write 40 [(89, [])] ?_
    refine ⟨0, _, _, by decide, c_K_sureBit l _ (z 3 p), ?_⟩
    refine And.intro (fun h => ?_) (fun h => ?_)
    · exact lst vl 0 h4 h1 (by simp [bI, h])
    · exact lst vl 1 h4 h1 (by simp [bI, h])
  refine xw_go xcls ok_K_write 60 [(65, [0, 3, 4, 5]), (89, [])] ?_
  refine And.intro (in_nI (by omega) (by omega)) ?_
  rw [cl_nI (by omega)]
  refine And.intro (in_nI (by omega) (by omega)) ?_
  rw [cl_nI (by omega)]
  refine And.intro (in_nI (by omega) (by omega)) ?_
  rw [cl_nI (by omega)]
  refine ⟨2, _, _, by decide, c_K_takeValue l z r S A ch q (z 5 p) (z 6 p), ?_⟩
  refine And.intro (in_nI (by omega) (by omega)) ?_
  rw [cl_nI (by omega)]
  refine And.intro (fun h4 => ?_) (fun h4 => ?_)
  · have h4 : ¬ z 4 p = 0 := h4
    refine ⟨1, _, _, by decide, c_K_use l z r S A ch (cTake (z 5 p) (z 6 p) q).2 (z 3 p), ?_⟩
    refine And.intro (in_nI (by omega) (by omega)) ?_
    rw [cl_nI (by omega)]
    refine And.intro (fun h5 => ?_) (fun h5 => ?_)
    · have h5 : ¬ z 4 p = 2 := h5
      refine And.intro (fun h6 => ?_) (fun h6 => ?_)
      · refine And.intro rfl ⟨rfl, ?_⟩
        rw [← hres, cWr, if_neg h4, if_neg h5, if_neg h6]
      · refine And.intro trivial (And.intro rfl ⟨rfl, ?_⟩)
        rw [← hres, cWr, if_neg h4, if_neg h5, if_pos h6]
        rfl
    · have h5 : z 4 p = 2 := h5
      refine ⟨1, _, _, by decide, c_K_writeFieldH l z r S A ch (cUse (z 3 p) (cTake (z 5 p) (z 6 p) q).2) (z 3 p) _, ?_⟩
      refine And.intro rfl ⟨rfl, ?_⟩
      rw [← hres, cWr, if_neg h4, if_pos h5]
  · have h4 : z 4 p = 0 := h4
    refine And.intro (in_nI (by omega) (by omega)) ?_
    rw [cl_nI (by omega)]
    refine And.intro (fun h5 => ?_) (fun h5 => ?_)
    · have h5 : ¬ z 5 p = 0 := h5
      exact mid 0 h4 (by simp [bI, h5])
    · have h5 : z 5 p = 0 := h5
      refine And.intro (in_nI (by omega) (by omega)) ?_
      rw [cl_nI (by omega)]
      refine ⟨0, _, _, by decide, c_K_linkedBit l _ (z 6 p), ?_⟩
      refine ⟨0, _, _, by decide, c_K_has l z r S A ch (cTake (z 5 p) (z 6 p) q).2.1 (cTake (z 5 p) (z 6 p) q).2.2 (lB (z 6 p)), ?_⟩
      by_cases h6 : (cTake (z 5 p) (z 6 p) q).2.1 &&& lB (z 6 p) = 0
      · rw [show bI (¬ (cTake (z 5 p) (z 6 p) q).2.1 &&& lB (z 6 p) = 0) = 0 by simp [bI, h6]]
        refine And.intro (fun h7 => ?_) (fun h7 => absurd rfl h7)
        exact mid 0 h4 (by simp [bI, h6])
      · rw [show bI (¬ (cTake (z 5 p) (z 6 p) q).2.1 &&& lB (z 6 p) = 0) = 1 by simp [bI, h6]]
        refine And.intro (fun h7 => absurd h7 (by decide)) (fun h7 => ?_)
        exact mid 1 h4 (by rw [bI, if_pos ⟨h5, h6⟩])
end
/-- a state joined at a place: states, changed -/
abbrev SC : Type := (Nat → Int32) × Int32
def cTo (p : Nat) (s : Int32) (q : SC) : SC := if q.1 p &&& s = q.1 p then q else (upd q.1 p (q.1 p &&& s), 1)
section
variable (l : Launch) (z : Sg) (r : List va_E) (A : Nat → Int32)
set_option maxRecDepth 100000 in
set_option maxHeartbeats 1000000 in
theorem c_K_flowTo (q : SC) (k f : Int32) (p : Nat) (hp : p < 65) (s : Int32) {x : Int32} (hx : x = nI p := by rfl) : XMet l 0 q_K_flowTo [.ref 13, .int x, .int s] (wQ (sC z q.1 A q.2 k f) r) none (wQ (sC z (cTo p s q).1 A (cTo p s q).2 k f) r) := by
  subst hx
  refine xm_intro (by decide +kernel) (Nat.le_of_ble_eq_true rfl) ?_
  refine xw_go xcls ok_K_flowTo 40 [] ?_
  refine And.intro (in_nI (by omega) (by omega)) ?_
  rw [cl_nI (by omega)]
  refine And.intro (in_nI (by omega) (by omega)) ?_
  rw [cl_nI (by omega)]
  refine And.intro (fun h => ?_) (fun h => ?_)
  · have h : q.1 p &&& s = q.1 p := h
    exact And.intro rfl ⟨rfl, by rw [cTo, if_pos h]⟩
  · have h : ¬ q.1 p &&& s = q.1 p := h
    refine And.intro (in_nI (by omega) (by omega)) ?_
    rw [cl_nI (by omega)]
    refine And.intro (Or.inr rfl) ?_
    refine And.intro rfl ⟨rfl, ?_⟩
    rw [cTo, if_neg h]
    rfl
/-- at an atom: what is gained on the one way, what is known -/
def cAt (loc prt : Int32) (q : KF) : Int32 × KF := if prt = 0 then (sB loc, q) else if prt = 1 then (0, cUse loc q) else if prt = 2 then (lB loc, cUse loc q) else (0, q)
set_option maxRecDepth 100000 in
set_option maxHeartbeats 1000000 in
theorem c_K_flowFromAtom (sc : SC) (q : KF) (p : Nat) (hp : p < 65) (u v : Nat) (hu : z 7 p = nI u) (hv : z 8 p = nI v) (hu2 : u < 65) (hv2 : v < 65) : XMet l 2 q_K_flowFromAtom [.ref 13, .ref 0, .int (nI p)] (wQ (sC z sc.1 A sc.2 q.1 q.2) r) none
    (wQ (sC z (cTo v (cAt (z 3 p) (z 4 p) q).2.1 (cTo u ((cAt (z 3 p) (z 4 p) q).2.1 ||| (cAt (z 3 p) (z 4 p) q).1) sc)).1 A (cTo v (cAt (z 3 p) (z 4 p) q).2.1 (cTo u ((cAt (z 3 p) (z 4 p) q).2.1 ||| (cAt (z 3 p) (z 4 p) q).1) sc)).2 (cAt (z 3 p) (z 4 p) q).2.1 (cAt (z 3 p) (z 4 p) q).2.2) r) := by
  refine xm_intro (by decide +kernel) (Nat.le_of_ble_eq_true rfl) ?_
  generalize hg : cAt (z 3 p) (z 4 p) q = g
  have j : ∀ (gn : Int32) (q' : KF), g = (gn, q') → XW l 2 q_K_flowFromAtom (fun a b => a = none ∧ b = wQ (sC z (cTo v g.2.1 (cTo u (g.2.1 ||| g.1) sc)).1 A (cTo v g.2.1 (cTo u (g.2.1 ||| g.1) sc)).2 g.2.1 g.2.2) r) 67 [(0, .ref 13), (1, .ref 0), (2, .int (nI p)), (4, .int gn)] [] (wQ (sC z sc.1 A sc.2 q'.1 q'.2) r) := by
    intro gn q' e
    subst e
    refine xw_go xcls ok_K_flowFromAtom 40 [] ?_
    refine And.intro (in_nI (by omega) (by omega)) ?_
    rw [cl_nI (by omega)]
    refine ⟨0, _, _, by decide, c_K_flowTo l z r A sc q'.1 q'.2 u hu2 (q'.1 ||| gn) hu, ?_⟩
    refine And.intro (in_nI (by omega) (by omega)) ?_
    rw [cl_nI (by omega)]
    refine ⟨0, _, _, by decide, c_K_flowTo l z r A (cTo u (q'.1 ||| gn) sc) q'.1 q'.2 v hv2 q'.1 hv, ?_⟩
    exact And.intro rfl ⟨rfl, rfl⟩
  refine xw_go xcls ok_K_flowFromAtom 60 [(67, [0, 1, 2, 4])] ?_
  refine And.intro (in_nI (by omega) (by omega)) ?_
  rw [cl_nI (by omega)]
  refine And.intro (in_nI (by omega) (by omega)) ?_
  rw [cl_nI (by omega)]
  refine And.intro (fun h => ?_) (fun h => ?_)
  · have h : ¬ z 4 p = 0 := h
    refine And.intro (in_nI (by omega) (by omega)) ?_
    rw [cl_nI (by omega)]
    refine And.intro (fun h2 => ?_) (fun h2 => ?_)
    · have h2 : ¬ z 4 p = 1 := h2
      refine And.intro (in_nI (by omega) (by omega)) ?_
      rw [cl_nI (by omega)]
      refine And.intro (fun h3 => ?_) (fun h3 => ?_)
      · have h3 : ¬ z 4 p = 2 := h3
        exact j 0 q (by rw [← hg, cAt, if_neg h, if_neg h2, if_neg h3])
      · have h3 : z 4 p = 2 := h3
        refine ⟨1, _, _, by decide, c_K_use l z r sc.1 A sc.2 q (z 3 p), ?_⟩
        refine ⟨0, _, _, by decide, c_K_linkedBit l _ (z 3 p), ?_⟩
        exact j _ _ (by rw [← hg, cAt, if_neg h, if_neg h2, if_pos h3])
    · have h2 : z 4 p = 1 := h2
      refine ⟨1, _, _, by decide, c_K_use l z r sc.1 A sc.2 q (z 3 p), ?_⟩
      exact j _ _ (by rw [← hg, cAt, if_neg h, if_pos h2])
  · have h : z 4 p = 0 := h
    refine ⟨0, _, _, by decide, c_K_sureBit l _ (z 3 p), ?_⟩
    exact j _ _ (by rw [← hg, cAt, if_pos h])
end
end
section
/-! Checker: places, rounds -/
/-- states, alarms, changed, known and found -/
abbrev CS : Type := (Nat → Int32) × (Nat → Int32) × Int32 × KF
def sCS (z : Sg) (s : CS) : Sg := sC z s.1 s.2.1 s.2.2.1 s.2.2.2.1 s.2.2.2.2
/-- the ways of a program: they are places -/
def KPr (z : Sg) (n : Nat) (u v : Nat → Nat) : Prop := ∀ p, p ≤ n → (z 2 p = 1 ∨ z 2 p = 2 ∨ z 2 p = 3 ∨ z 2 p = 5 → z 7 p = nI (u p) ∧ u p < 65) ∧ (z 2 p = 5 → z 8 p = nI (v p) ∧ v p < 65)
/-- the work at a place: states and changed, known and found -/
def cWk (z : Sg) (u v : Nat → Nat) (solid : Int32) (p : Nat) (sc : SC) : SC × KF :=
  if z 2 p = 1 then (cTo (u p) (cWr (z 3 p) (z 4 p) (z 5 p) (z 6 p) solid (sc.1 p, 0)).1 sc, cWr (z 3 p) (z 4 p) (z 5 p) (z 6 p) solid (sc.1 p, 0))
  else if z 2 p = 2 then (cTo (u p) (sc.1 p) sc, (sc.1 p, 0))
  else if z 2 p = 3 then (cTo (u p) (sc.1 p &&& -993) sc, (sc.1 p &&& -993, 0))
  else if z 2 p = 5 then (cTo (v p) (cAt (z 3 p) (z 4 p) (sc.1 p, 0)).2.1 (cTo (u p) ((cAt (z 3 p) (z 4 p) (sc.1 p, 0)).2.1 ||| (cAt (z 3 p) (z 4 p) (sc.1 p, 0)).1) sc), (cAt (z 3 p) (z 4 p) (sc.1 p, 0)).2)
  else (sc, (sc.1 p, 0))
def cFl (z : Sg) (u v : Nat → Nat) (solid : Int32) (p : Nat) (s : CS) : CS :=
  ((cWk z u v solid p (s.1, s.2.2.1)).1.1, upd s.2.1 p (cWk z u v solid p (s.1, s.2.2.1)).2.2, (cWk z u v solid p (s.1, s.2.2.1)).1.2, (cWk z u v solid p (s.1, s.2.2.1)).2)
section
variable (l : Launch) (z : Sg) (r : List va_E)
set_option maxRecDepth 100000 in
set_option maxHeartbeats 1000000 in
theorem c_K_flowFrom (n : Nat) (u v : Nat → Nat) (hk : KPr z n u v) (hn : n ≤ 64) (s : CS) (p : Nat) (hp : p ≤ n) (solid : Int32) : XMet l 4 q_K_flowFrom [.ref 13, .ref 0, .int (nI p), .int solid] (wQ (sCS z s) r) none (wQ (sCS z (cFl z u v solid p s)) r) := by
  obtain ⟨S, A, ch, k0, f0⟩ := s
  refine xm_intro (by decide +kernel) (Nat.le_of_ble_eq_true rfl) ?_
  generalize hg : cWk z u v solid p (S, ch) = g
  have hfl : cFl z u v solid p (S, A, ch, k0, f0) = (g.1.1, upd A p g.2.2, g.1.2, g.2) := by rw [← hg]; rfl
  rw [hfl]
  have j : ∀ (sc : SC) (q : KF), g = (sc, q) → XW l 4 q_K_flowFrom (fun a b => a = none ∧ b = wQ (sCS z (g.1.1, upd A p g.2.2, g.1.2, g.2)) r) 127 [(0, .ref 13), (2, .int (nI p))] [] (wQ (sC z sc.1 A sc.2 q.1 q.2) r) := by
    intro sc q e
    subst e
    refine xw_go xcls ok_K_flowFrom 40 [] ?_
    refine And.intro (in_nI (by omega) (by omega)) ?_
    rw [cl_nI (by omega)]
    exact And.intro rfl ⟨rfl, rfl⟩
  obtain ⟨hk1, hk2⟩ := hk p hp
  refine xw_go xcls ok_K_flowFrom 60 [(127, [0, 2])] ?_
  refine And.intro (in_nI (by omega) (by omega)) ?_
  rw [cl_nI (by omega)]
  refine And.intro trivial ?_
  refine And.intro trivial ?_
  refine And.intro (in_nI (by omega) (by omega)) ?_
  rw [cl_nI (by omega)]
  refine And.intro (fun h => ?_) (fun h1 => ?_)
  · have h : z 2 p = 1 := h
    obtain ⟨e1, e2⟩ := hk1 (Or.inl h)
    refine ⟨3, _, _, by decide, c_K_write l z r S A ch (S p, 0) p (by omega) solid, ?_⟩
    refine And.intro (in_nI (by omega) (by omega)) ?_
    rw [cl_nI (by omega)]
    refine ⟨0, _, _, by decide, c_K_flowTo l z r A (S, ch) (cWr (z 3 p) (z 4 p) (z 5 p) (z 6 p) solid (S p, 0)).1 (cWr (z 3 p) (z 4 p) (z 5 p) (z 6 p) solid (S p, 0)).2 (u p) e2 _ e1, ?_⟩
    exact j _ _ (by rw [← hg, cWk, if_pos h] <;> rfl)
  · have h1 : ¬ z 2 p = 1 := h1
    refine And.intro (fun h => ?_) (fun h2 => ?_)
    · have h : z 2 p = 2 := h
      obtain ⟨e1, e2⟩ := hk1 (Or.inr (Or.inl h))
      refine And.intro (in_nI (by omega) (by omega)) ?_
      rw [cl_nI (by omega)]
      refine ⟨0, _, _, by decide, c_K_flowTo l z r A (S, ch) (S p) 0 (u p) e2 _ e1, ?_⟩
      exact j _ (S p, 0) (by rw [← hg, cWk, if_neg h1, if_pos h] <;> rfl)
    · have h2 : ¬ z 2 p = 2 := h2
      refine And.intro (fun h => ?_) (fun h3 => ?_)
      · have h : z 2 p = 3 := h
        obtain ⟨e1, e2⟩ := hk1 (Or.inr (Or.inr (Or.inl h)))
        refine ⟨0, _, _, by decide, c_K_unlinkAll l z r S A ch (S p) 0, ?_⟩
        refine And.intro (in_nI (by omega) (by omega)) ?_
        rw [cl_nI (by omega)]
        refine ⟨0, _, _, by decide, c_K_flowTo l z r A (S, ch) (S p &&& -993) 0 (u p) e2 _ e1, ?_⟩
        exact j _ (S p &&& -993, 0) (by rw [← hg, cWk, if_neg h1, if_neg h2, if_pos h] <;> rfl)
      · have h3 : ¬ z 2 p = 3 := h3
        refine And.intro (fun h => ?_) (fun h4 => ?_)
        · have h : z 2 p = 4 := h
          exact j (S, ch) (S p, 0) (by rw [← hg, cWk, if_neg h1, if_neg h2, if_neg h3, if_neg (by rw [h]; decide)])
        · refine And.intro (fun h => ?_) (fun h5 => ?_)
          · have h : z 2 p = 5 := h
            obtain ⟨e1, e2⟩ := hk1 (Or.inr (Or.inr (Or.inr h)))
            obtain ⟨e3, e4⟩ := hk2 h
            refine ⟨2, _, _, by decide, c_K_flowFromAtom l z r A (S, ch) (S p, 0) p (by omega) (u p) (v p) e1 e3 e2 e4, ?_⟩
            exact j _ _ (by rw [← hg, cWk, if_neg h1, if_neg h2, if_neg h3, if_pos h])
          · have h5 : ¬ z 2 p = 5 := h5
            exact j (S, ch) (S p, 0) (by rw [← hg, cWk, if_neg h1, if_neg h2, if_neg h3, if_neg h5])
set_option maxRecDepth 100000 in
theorem c_K_isReached (s : CS) (p : Nat) (hp : p < 65) {x : Int32} (hx : x = nI p := by rfl) : XMet l 0 q_K_isReached [.ref 13, .int x] (wQ (sCS z s) r) (some (.int (bI (¬ s.1 p = -1)))) (wQ (sCS z s) r) := by
  subst hx
  refine xm_intro (by decide +kernel) (Nat.le_of_ble_eq_true rfl) ?_
  refine xw_go xcls ok_K_isReached 40 [] ?_
  refine And.intro (in_nI (by omega) (by omega)) ?_
  rw [cl_nI (by omega)]
  refine And.intro (fun h => ?_) (fun h => ?_)
  · have h : s.1 p = -1 := h
    exact And.intro (Or.inl rfl) ⟨by simp [bI, h], rfl⟩
  · have h : ¬ s.1 p = -1 := h
    exact And.intro (Or.inr rfl) ⟨by simp [bI, h], rfl⟩
set_option maxRecDepth 100000 in
theorem c_K_isSureAt (s : CS) (p : Nat) (hp : p < 65) (v : Int32) {x : Int32} (hx : x = nI p := by rfl) : XMet l 1 q_K_isSureAt [.ref 13, .int x, .int v] (wQ (sCS z s) r) (some (.int (bI (¬ s.1 p &&& sB v = 0)))) (wQ (sCS z s) r) := by
  subst hx
  refine xm_intro (by decide +kernel) (Nat.le_of_ble_eq_true rfl) ?_
  refine xw_go xcls ok_K_isSureAt 40 [] ?_
  refine And.intro (in_nI (by omega) (by omega)) ?_
  rw [cl_nI (by omega)]
  refine ⟨0, _, _, by decide, c_K_sureBit l _ v, ?_⟩
  refine And.intro (fun h => ?_) (fun h => ?_)
  · have h : s.1 p &&& sB v = 0 := h
    exact And.intro (Or.inl rfl) ⟨by simp [bI, h], rfl⟩
  · have h : ¬ s.1 p &&& sB v = 0 := h
    exact And.intro (Or.inr rfl) ⟨by simp [bI, h], rfl⟩
set_option maxRecDepth 100000 in
theorem c_K_isLinkedAt (s : CS) (p : Nat) (hp : p < 65) (v : Int32) {x : Int32} (hx : x = nI p := by rfl) : XMet l 1 q_K_isLinkedAt [.ref 13, .int x, .int v] (wQ (sCS z s) r) (some (.int (bI (¬ s.1 p &&& lB v = 0)))) (wQ (sCS z s) r) := by
  subst hx
  refine xm_intro (by decide +kernel) (Nat.le_of_ble_eq_true rfl) ?_
  refine xw_go xcls ok_K_isLinkedAt 40 [] ?_
  refine And.intro (in_nI (by omega) (by omega)) ?_
  rw [cl_nI (by omega)]
  refine ⟨0, _, _, by decide, c_K_linkedBit l _ v, ?_⟩
  refine And.intro (fun h => ?_) (fun h => ?_)
  · have h : s.1 p &&& lB v = 0 := h
    exact And.intro (Or.inl rfl) ⟨by simp [bI, h], rfl⟩
  · have h : ¬ s.1 p &&& lB v = 0 := h
    exact And.intro (Or.inr rfl) ⟨by simp [bI, h], rfl⟩
/-- how many of the first k places have an alarm -/
def cAl (A : Nat → Int32) : Nat → Nat
  | 0 => 0
  | k + 1 => cAl A k + if A k = 0 then 0 else 1
theorem cAl_le (A : Nat → Int32) : ∀ k, cAl A k ≤ k
  | 0 => Nat.le_refl _
  | k + 1 => by have := cAl_le A k; simp only [cAl]; split <;> omega
set_option maxRecDepth 100000 in
set_option maxHeartbeats 1000000 in
theorem lp_K_countAlarms (s : CS) : ∀ (m k : Nat), k + m = 65 → XW l 0 q_K_countAlarms (fun a b => a = some (.int (nI (cAl s.2.1 65))) ∧ b = wQ (sCS z s) r) 4 [(0, .ref 13), (1, .int (nI (cAl s.2.1 k))), (2, .int (nI k))] [] (wQ (sCS z s) r)
  | 0, k, hk => by
    have hk : k = 65 := hk
    subst hk
    refine xw_go xcls ok_K_countAlarms 40 [] ?_
    refine And.intro (fun h => ?_) (fun h => absurd (by decide) h)
    exact And.intro trivial ⟨rfl, rfl⟩
  | m + 1, k, hk => by
    have ih := lp_K_countAlarms s m (k + 1) (by omega)
    refine xw_go xcls ok_K_countAlarms 40 [(4, [0, 1, 2])] ?_
    refine And.intro (fun h => absurd h (by rw [show (65 : Int32) = nI 65 from rfl, nI_le' (by omega) (by omega)]; omega)) (fun h => ?_)
    refine And.intro (in_nI (by omega) (by omega)) ?_
    rw [cl_nI (by omega)]
    refine And.intro (fun h2 => ?_) (fun h2 => ?_)
    · have h2 : s.2.1 k = 0 := h2
      rw [show nI (cAl s.2.1 (k + 1)) = nI (cAl s.2.1 k) + 0 by rw [show (0 : Int32) = nI 0 from rfl, nI_add]; simp [cAl, h2], ← nI_p1] at ih
      exact ih
    · have h2 : ¬ s.2.1 k = 0 := h2
      rw [show nI (cAl s.2.1 (k + 1)) = nI (cAl s.2.1 k) + 1 by rw [nI_p1]; simp [cAl, h2], ← nI_p1 k] at ih
      exact ih
set_option maxRecDepth 100000 in
theorem c_K_countAlarms (s : CS) : XMet l 0 q_K_countAlarms [.ref 13] (wQ (sCS z s) r) (some (.int (nI (cAl s.2.1 65)))) (wQ (sCS z s) r) := by
  refine xm_intro (by decide +kernel) (Nat.le_of_ble_eq_true rfl) ?_
  refine xw_go xcls ok_K_countAlarms 40 [(4, [0, 1, 2])] ?_
  exact lp_K_countAlarms l z r s 65 0 (by omega)
/-- one round: m places from p on -/
def cIn (z : Sg) (u v : Nat → Nat) (solid : Int32) : Nat → Nat → CS → CS
  | 0, _, s => s
  | m + 1, p, s => cIn z u v solid m (p + 1) (if s.1 p = -1 then s else cFl z u v solid p s)
def cOut (z : Sg) (u v : Nat → Nat) (solid : Int32) (n : Nat) : Nat → CS → CS
  | 0, s => s
  | m + 1, s => if s.2.2.1 = 0 then s else cOut z u v solid n m (cIn z u v solid (n + 1) 0 (s.1, s.2.1, 0, s.2.2.2))
set_option maxRecDepth 100000 in
set_option maxHeartbeats 1000000 in
theorem lp_K_in (n : Nat) (u v : Nat → Nat) (hk : KPr z n u v) (hn : n ≤ 64) (hz : z 0 1 = nI n) (solid rd : Int32) (Rt : Option Value → List va_E → Prop) : ∀ (m p : Nat) (s : CS), p + m = n + 1 →
    XW l 5 q_K_check Rt 84 [(0, .ref 13), (1, .ref 0), (2, .int solid), (3, .int rd)] [] (wQ (sCS z (cIn z u v solid m p s)) r) →
    XW l 5 q_K_check Rt 52 [(0, .ref 13), (1, .ref 0), (2, .int solid), (3, .int rd), (4, .int (nI p))] [] (wQ (sCS z s) r)
  | 0, p, s, hp, K => by
    refine xw_go xcls ok_K_check 40 [(84, [0, 1, 2, 3])] ?_
    refine And.intro (fun h => ?_) (fun h => ?_)
    · exact K
    · have h : ¬ z 0 1 < nI p := h
      rw [hz, nI_lt' (by omega) (by omega)] at h
      omega
  | m + 1, p, s, hp, K => by
    refine xw_go xcls ok_K_check 40 [(84, [0, 1, 2, 3]), (52, [0, 1, 2, 3, 4])] ?_
    refine And.intro (fun h => ?_) (fun h => ?_)
    · have h : z 0 1 < nI p := h
      rw [hz, nI_lt' (by omega) (by omega)] at h
      omega
    · refine ⟨0, _, _, by decide, c_K_isReached l z r s p (by omega), ?_⟩
      by_cases hs : s.1 p = -1
      · rw [show bI (¬ s.1 p = -1) = 0 by simp [bI, hs]]
        refine And.intro (fun h2 => ?_) (fun h2 => absurd rfl h2)
        have ih := lp_K_in n u v hk hn hz solid rd Rt m (p + 1) s (by omega) (by simp only [cIn, if_pos hs] at K; exact K)
        rw [← nI_p1] at ih
        exact ih
      · rw [show bI (¬ s.1 p = -1) = 1 by simp [bI, hs]]
        refine And.intro (fun h2 => absurd h2 (by decide)) (fun h2 => ?_)
        refine ⟨4, _, _, by decide, c_K_flowFrom l z r n u v hk hn s p (by omega) solid, ?_⟩
        have ih := lp_K_in n u v hk hn hz solid rd Rt m (p + 1) (cFl z u v solid p s) (by omega) (by simp only [cIn, if_neg hs] at K; exact K)
        rw [← nI_p1] at ih
        exact ih
set_option maxRecDepth 100000 in
set_option maxHeartbeats 1000000 in
theorem lp_K_out (n : Nat) (u v : Nat → Nat) (hk : KPr z n u v) (hn : n ≤ 64) (hz : z 0 1 = nI n) (solid : Int32) : ∀ (m : Nat) (s : CS), m ≤ 716 →
    XW l 5 q_K_check (fun a b => a = none ∧ b = wQ (sCS z (cOut z u v solid n m s)) r) 30 [(0, .ref 13), (1, .ref 0), (2, .int solid), (3, .int (nI (716 - m)))] [] (wQ (sCS z s) r)
  | 0, s, hm => by
    refine xw_go xcls ok_K_check 40 [] ?_
    refine And.intro (fun h => ?_) (fun h => absurd (by decide) h)
    exact And.intro rfl ⟨rfl, rfl⟩
  | m + 1, s, hm => by
    refine xw_go xcls ok_K_check 40 [(52, [0, 1, 2, 3, 4])] ?_
    refine And.intro (fun h => absurd h (by rw [show (716 : Int32) = nI 716 from rfl, nI_le' (by omega) (by omega)]; omega)) (fun h => ?_)
    refine And.intro (fun h2 => ?_) (fun h2 => ?_)
    · have h2 : s.2.2.1 = 0 := h2
      exact And.intro rfl ⟨rfl, by simp only [cOut, if_pos h2]⟩
    · have h2 : ¬ s.2.2.1 = 0 := h2
      refine And.intro (Or.inl rfl) ?_
      have e : cOut z u v solid n (m + 1) s = cOut z u v solid n m (cIn z u v solid (n + 1) 0 (s.1, s.2.1, 0, s.2.2.2)) := by simp only [cOut, if_neg h2]
      rw [e]
      refine lp_K_in l z r n u v hk hn hz solid (nI (716 - (m + 1))) _ (n + 1) 0 (s.1, s.2.1, 0, s.2.2.2) (by omega) ?_
      refine xw_go xcls ok_K_check 40 [(30, [0, 1, 2, 3])] ?_
      have ih := lp_K_out n u v hk hn hz solid m (cIn z u v solid (n + 1) 0 (s.1, s.2.1, 0, s.2.2.2)) (by omega)
      rw [show nI (716 - m) = nI (716 - (m + 1)) + 1 by rw [nI_p1]; congr 1; omega] at ih
      exact ih
set_option maxRecDepth 100000 in
set_option maxHeartbeats 1000000 in
theorem c_K_check (n : Nat) (u v : Nat → Nat) (hk : KPr z n u v) (hn : n ≤ 64) (hz : z 0 1 = nI n) (solid : Int32) (s : CS) : XMet l 5 q_K_check [.ref 13, .ref 0, .int solid] (wQ (sCS z s) r) none (wQ (sCS z (cOut z u v solid n 716 (upd (fFill 65 s.1 (-1) 65) 0 solid, fFill 65 s.2.1 0 65, 1, s.2.2.2))) r) := by
  refine xm_intro (by decide +kernel) (Nat.le_of_ble_eq_true rfl) ?_
  refine xw_go xcls ok_K_check 40 [(30, [0, 1, 2, 3])] ?_
  refine ⟨0, _, _, by decide, c_JA_fill l (wQ (sCS z s) r) 14 65 s.1 (-1) rfl (by decide), ?_⟩
  refine ⟨0, _, _, by decide, c_JA_fill l _ 15 65 s.2.1 0 rfl (by decide), ?_⟩
  refine And.intro (in_nI (i := 0) (by omega) (by omega)) ?_
  refine And.intro (Or.inr rfl) ?_
  exact lp_K_out l z r n u v hk hn hz solid 716 (upd (fFill 65 s.1 (-1) 65) 0 solid, fFill 65 s.2.1 0 65, 1, s.2.2.2) (by omega)
end
end
section
/-! bits of longs (from kit/laws/BITS.to-paste), bits of the oracle -/
theorem wb_tb (n : Nat) : (lN n).toBitVec = BitVec.ofNat 64 n := rfl
theorem wb_inj {a b : Int64} (h : a.toBitVec = b.toBitVec) : a = b := Int64.toBitVec_inj.mp h
theorem wb_tn {n : Nat} (h : n < 2 ^ 64) : (lN n).toBitVec.toNat = n := by rw [wb_tb, BitVec.toNat_ofNat, Nat.mod_eq_of_lt h]
theorem wb_of (x : Int64) : ∃ n, n < 2 ^ 64 ∧ x = lN n := ⟨x.toBitVec.toNat, x.toBitVec.isLt, wb_inj (by rw [wb_tb]; simp)⟩
theorem wb_of32 (x : Int32) : ∃ n, n < 2 ^ 32 ∧ x = nI n := ⟨x.toBitVec.toNat, x.toBitVec.isLt, Int32.toBitVec_inj.mp (by show _ = BitVec.ofNat 32 _; simp)⟩
theorem wb_c : ∀ k, k < 64 → ((nI k).toInt64 &&& 63) = lN k := by decide +kernel
theorem wb_cu : ∀ k, k < 64 → ((nI k).toInt64.toUInt64 &&& Int64.toUInt64 63) = UInt64.ofNat k := by decide +kernel
theorem wb_sm : ∀ k, k < 64 → (BitVec.ofNat 64 k).smod 64 = BitVec.ofNat 64 k := by decide +kernel
theorem wb_pw {a b : Nat} (h : a ≤ b) : 2 ^ b = 2 ^ a * 2 ^ (b - a) := by rw [← Nat.pow_add]; congr 1; omega
theorem wb_lt2 {a b : Nat} (h : a < b) : 2 ^ a < 2 ^ b := Nat.pow_lt_pow_right (by decide) h
theorem wb_mod (n : Nat) : lN n = lN (n % 2 ^ 64) := wb_inj (by rw [wb_tb, wb_tb]; apply BitVec.eq_of_toNat_eq; rw [BitVec.toNat_ofNat, BitVec.toNat_ofNat, Nat.mod_mod])
theorem wb_shr {n k : Nat} (hn : n < 2 ^ 64) (hk : k < 64) : ((lN n).toUInt64 >>> ((nI k).toInt64.toUInt64 &&& Int64.toUInt64 63)).toInt64 = lN (n / 2 ^ k) := by
  rw [wb_cu k hk]
  apply wb_inj
  apply BitVec.eq_of_toNat_eq
  show ((lN n).toUInt64 >>> UInt64.ofNat k).toNat = (BitVec.ofNat 64 _).toNat
  have h1 : (UInt64.ofNat k).toNat = k := by
    show (BitVec.ofNat 64 k).toNat = k
    rw [BitVec.toNat_ofNat, Nat.mod_eq_of_lt (by omega)]
  have h2 : (lN n).toUInt64.toNat = n := wb_tn hn
  rw [UInt64.toNat_shiftRight, h1, h2, Nat.mod_eq_of_lt hk, Nat.shiftRight_eq_div_pow, BitVec.toNat_ofNat, Nat.mod_eq_of_lt (Nat.lt_of_le_of_lt (Nat.div_le_self _ _) hn)]
theorem wb_and {a b : Nat} (ha : a < 2 ^ 64) (hb : b < 2 ^ 64) : lN a &&& lN b = lN (a &&& b) := by
  apply wb_inj
  rw [Int64.toBitVec_and, wb_tb, wb_tb, wb_tb]
  apply BitVec.eq_of_toNat_eq
  rw [BitVec.toNat_and, BitVec.toNat_ofNat, BitVec.toNat_ofNat, BitVec.toNat_ofNat, Nat.mod_eq_of_lt ha, Nat.mod_eq_of_lt hb, Nat.mod_eq_of_lt (Nat.and_lt_two_pow _ hb)]
theorem wb_mask {n k : Nat} (hn : n < 2 ^ 64) (hk : k < 64) : lN n &&& lN (2 ^ k - 1) = lN (n % 2 ^ k) := by
  rw [wb_and hn (by have := wb_lt2 hk; omega), Nat.and_two_pow_sub_one_eq_mod]
/-- the oracle's lowest bits, and what is left of it -/
def tkN (n : Nat) (b : Int64) : Nat := b.toBitVec.toNat % 2 ^ n
def shB (n : Nat) (b : Int64) : Int64 := (b.toUInt64 >>> ((nI n).toInt64.toUInt64 &&& Int64.toUInt64 63)).toInt64
theorem tk_and (n : Nat) (b : Int64) (hn : n < 31) : (b &&& lN (2 ^ n - 1)).toInt32 = nI (tkN n b) := by
  obtain ⟨m, hm, rfl⟩ := wb_of b
  rw [wb_mask hm (by omega), lN_i]
  unfold tkN
  rw [wb_tn hm]
theorem tk_1 (b : Int64) : (b &&& (((1 : Int32) <<< ((1 : Int32) &&& 31)) - 1).toInt64).toInt32 = nI (tkN 1 b) := tk_and 1 b (by decide)
theorem tk_2 (b : Int64) : (b &&& (((1 : Int32) <<< ((2 : Int32) &&& 31)) - 1).toInt64).toInt32 = nI (tkN 2 b) := tk_and 2 b (by decide)
theorem tkN_1 (b : Int64) : tkN 1 b < 2 := Nat.mod_lt _ (by decide)
theorem tkN_2 (b : Int64) : tkN 2 b < 4 := Nat.mod_lt _ (by decide)
end
section
/-! Machine: objects, the oracle, values -/
/-- what the names hold, the fields g and h, how many objects, the oracle -/
abbrev MSt : Type := (Nat → Option Nat) × (Nat → Nat) × (Nat → Option Nat) × Nat × Int64
def sM (z : Sg) (m : MSt) (sc e : Int32) : Sg := uc (uc (uc (us (us (us z 16 3 (nI m.2.2.2.1)) 16 4 sc) 16 6 e) 17 (fun v => oI (m.1 v))) 18 (fun o => nI (m.2.1 o))) 19 (fun o => oI (m.2.2.1 o))
def wM (z : Sg) (m : MSt) (sc e : Int32) (r : List va_E) : List va_E := wP z (wC z (wH (sM z m sc e) m.2.2.2.2 r))
def MInv (m : MSt) : Prop := (∀ v o, m.1 v = some o → o < 8) ∧ (∀ o, m.2.1 o < 8) ∧ (∀ o q, m.2.2.1 o = some q → q < 8) ∧ 1 ≤ m.2.2.2.1 ∧ m.2.2.2.1 ≤ 8
/-- a function set anew at a place -/
def fu {α : Type} (f : Nat → α) (k : Nat) (x : α) : Nat → α := fun j => if j = k then x else f j
theorem fu_oI (f : Nat → Option Nat) (k : Nat) (x : Option Nat) : upd (fun v => oI (f v)) k (oI x) = fun v => oI (fu f k x v) := by
  funext j; unfold upd fu; split <;> rfl
theorem fu_nI (f : Nat → Nat) (k : Nat) (x : Nat) : upd (fun v => nI (f v)) k (nI x) = fun v => nI (fu f k x v) := by
  funext j; unfold upd fu; split <;> rfl
theorem wM_i {z z' : Sg} {m : MSt} {sc e : Int32} {r : List va_E} (h3 : z' 16 3 = nI m.2.2.2.1) (h4 : z' 16 4 = sc) (h6 : z' 16 6 = e) (h17 : z' 17 = fun v => oI (m.1 v)) (h18 : z' 18 = fun o => nI (m.2.1 o)) (h19 : z' 19 = fun o => oI (m.2.2.1 o)) : wP z (wC z (wH z' m.2.2.2.2 r)) = wM z m sc e r := by
  simp only [wM, wH]
  rw [h3, h4, h6, h17, h18, h19]
  rfl
section
variable (l : Launch) (z : Sg) (r : List va_E) (sc e : Int32)
def mTk (n : Nat) (m : MSt) : MSt := (m.1, m.2.1, m.2.2.1, m.2.2.2.1, shB n m.2.2.2.2)
set_option maxRecDepth 100000 in
theorem c_H_takeBits (m : MSt) (n : Nat) (hn : n = 1 ∨ n = 2) {x : Int32} (hx : x = nI n := by rfl) : XMet l 0 q_H_takeBits [.ref 16, .int x] (wM z m sc e r) (some (.int (nI (tkN n m.2.2.2.2)))) (wM z (mTk n m) sc e r) := by
  subst hx
  refine xm_intro (by decide +kernel) (Nat.le_of_ble_eq_true rfl) ?_
  refine xw_go xcls ok_H_takeBits 40 [] ?_
  refine And.intro trivial (And.intro trivial ⟨?_, rfl⟩)
  rcases hn with rfl | rfl
  · exact congrArg (fun x => some (Value.int x)) (tk_1 _)
  · exact congrArg (fun x => some (Value.int x)) (tk_2 _)
set_option maxRecDepth 100000 in
theorem c_H_existing (m : MSt) (hm : MInv m) (k : Nat) (hk : k < 1000) {x : Int32} (hx : x = nI k := by rfl) : XMet l 1 q_H_existing [.ref 16, .int x] (wM z m sc e r) (some (.int (nI (min k (m.2.2.2.1 - 1))))) (wM z m sc e r) := by
  obtain ⟨-, -, -, h1, h8⟩ := hm
  refine xm_intro (by decide +kernel) (Nat.le_of_ble_eq_true rfl) ?_
  refine xw_go xcls ok_H_existing 40 [] ?_
  refine And.intro trivial ⟨?_, rfl⟩
  show some (Value.int (if nI m.2.2.2.1 - nI 1 < x then nI m.2.2.2.1 - nI 1 else x)) = _
  rw [pk_sub h1, hx]
  by_cases q : m.2.2.2.1 - 1 < k
  · rw [if_pos ((nI_lt' (by omega) (by omega)).mpr q), Nat.min_eq_right (by omega)]
  · rw [if_neg (fun c => q ((nI_lt' (by omega) (by omega)).mp c)), Nat.min_eq_left (by omega)]
def mAsk (m : MSt) : Option Nat := if tkN 2 m.2.2.2.2 = 0 then none else some (min (tkN 2 m.2.2.2.2 - 1) (m.2.2.2.1 - 1))
set_option maxRecDepth 100000 in
theorem c_H_askOracle (m : MSt) (hm : MInv m) : XMet l 2 q_H_askOracle [.ref 16] (wM z m sc e r) (some (.int (oI (mAsk m)))) (wM z (mTk 2 m) sc e r) := by
  refine xm_intro (by decide +kernel) (Nat.le_of_ble_eq_true rfl) ?_
  refine xw_go xcls ok_H_askOracle 40 [] ?_
  refine ⟨0, _, _, by decide, c_H_takeBits l z r sc e m 2 (Or.inr rfl), ?_⟩
  have h4 := tkN_2 m.2.2.2.2
  refine And.intro (fun h => ?_) (fun h => ?_)
  · rw [show (0 : Int32) = nI 0 from rfl, nI_eq' (by omega) (by omega)] at h
    refine ⟨1, _, _, by decide, c_H_existing l z r sc e (mTk 2 m) hm (tkN 2 m.2.2.2.2 - 1) (by omega) (pk_sub (b := 1) (by omega)), ?_⟩
    exact And.intro trivial ⟨by simp [mAsk, h, oI, mTk], rfl⟩
  · rw [show (0 : Int32) = nI 0 from rfl, nI_eq' (by omega) (by omega)] at h
    exact And.intro trivial ⟨by simp [mAsk, h, oI], rfl⟩
def mMk (m : MSt) : Nat × MSt := if m.2.2.2.1 < 8 then (m.2.2.2.1, (m.1, fu m.2.1 m.2.2.2.1 m.2.2.2.1, fu m.2.2.1 m.2.2.2.1 none, m.2.2.2.1 + 1, m.2.2.2.2)) else (7, m)
set_option maxRecDepth 100000 in
set_option maxHeartbeats 1000000 in
theorem c_H_makeObject (m : MSt) (hm : m.2.2.2.1 ≤ 8) : XMet l 0 q_H_makeObject [.ref 16] (wM z m sc e r) (some (.int (nI (mMk m).1))) (wM z (mMk m).2 sc e r) := by
  obtain ⟨ho, g, h, k, b⟩ := m
  have hm : k ≤ 8 := hm
  refine xm_intro (by decide +kernel) (Nat.le_of_ble_eq_true rfl) ?_
  refine xw_go xcls ok_H_makeObject 40 [] ?_
  refine And.intro (fun q => ?_) (fun q => ?_)
  · have q : nI k < 8 := q
    rw [show (8 : Int32) = nI 8 from rfl, nI_lt' (by omega) (by omega)] at q
    have e0 : mMk (ho, g, h, k, b) = (k, (ho, fu g k k, fu h k none, k + 1, b)) := by simp [mMk, q]
    rw [e0]
    have e3 : sM z (ho, g, h, k, b) sc e 16 3 = nI k := rfl
    refine And.intro (by rw [e3]; exact in_nI (by omega) (by omega)) ?_
    rw [e3, cl_nI (by omega)]
    refine And.intro (by exact in_nI (by omega) (by omega)) ?_
    rw [cl_nI (by omega)]
    refine And.intro trivial (And.intro trivial ⟨rfl, ?_⟩)
    exact wM_i (z' := us (us (us (sM z (ho, g, h, k, b) sc e) 18 k (nI k)) 19 k (-1)) 16 3 (nI k + 1)) (m := (ho, fu g k k, fu h k none, k + 1, b)) (nI_p1 k) rfl rfl rfl (fu_nI g k k) (fu_oI h k none)
  · have q : ¬ nI k < 8 := q
    rw [show (8 : Int32) = nI 8 from rfl, nI_lt' (by omega) (by omega)] at q
    have e0 : mMk (ho, g, h, k, b) = (7, (ho, g, h, k, b)) := by simp [mMk, q]
    rw [e0]
    exact And.intro trivial ⟨rfl, rfl⟩
end
end
section
/-! Machine: values, writes, atoms -/
def mRead (prt : Int32) (v : Nat) (m : MSt) (e : Int32) : Option Nat × Int32 := if prt = 0 then (m.1 v, e) else match m.1 v with
  | none => (none, 1)
  | some o => (if prt = 1 then some (m.2.1 o) else m.2.2.1 o, e)
section
variable (l : Launch) (z : Sg) (r : List va_E) (sc : Int32)
set_option maxRecDepth 100000 in
set_option maxHeartbeats 1000000 in
theorem c_H_read (m : MSt) (hm : MInv m) (e : Int32) (prt : Int32) (v : Nat) (hv : v < 5) {x : Int32} (hx : x = nI v := by rfl) : XMet l 0 q_H_read [.ref 16, .int prt, .int x] (wM z m sc e r) (some (.int (oI (mRead prt v m e).1))) (wM z m sc (mRead prt v m e).2 r) := by
  subst hx
  obtain ⟨i1, i2, i3, i4, i5⟩ := hm
  refine xm_intro (by decide +kernel) (Nat.le_of_ble_eq_true rfl) ?_
  refine xw_go xcls ok_H_read 40 [] ?_
  refine And.intro (in_nI (by omega) (by omega)) ?_
  rw [cl_nI (by omega)]
  have e17 : sM z m sc e 17 v = oI (m.1 v) := rfl
  refine And.intro (fun h => ?_) (fun h => ?_)
  · cases ho : m.1 v with
    | none =>
      have e0 : mRead prt v m e = (none, 1) := by simp [mRead, h, ho]
      rw [e0]
      refine And.intro (fun h2 => absurd (show sM z m sc e 17 v = -1 by rw [e17, ho]; rfl) h2) (fun h2 => ?_)
      exact And.intro trivial (And.intro trivial ⟨rfl, rfl⟩)
    | some o =>
      have e18 : sM z m sc e 17 v = nI o := by rw [e17, ho]; rfl
      have ho8 := i1 v o ho
      have e0 : mRead prt v m e = (if prt = 1 then some (m.2.1 o) else m.2.2.1 o, e) := by simp [mRead, h, ho]
      rw [e0]
      refine And.intro (fun h2 => ?_) (fun h2 => absurd (e18.symm.trans h2) (nI_nm1 (by omega)))
      refine And.intro (fun h3 => ?_) (fun h3 => ?_)
      · refine And.intro (by show vp_in (sM z m sc e 17 v) 8; rw [e18]; exact in_nI (by omega) (by omega)) ?_
        rw [e18, cl_nI (by omega)]
        exact And.intro trivial ⟨by rw [if_neg h3]; rfl, rfl⟩
      · refine And.intro (by show vp_in (sM z m sc e 17 v) 8; rw [e18]; exact in_nI (by omega) (by omega)) ?_
        rw [e18, cl_nI (by omega)]
        exact And.intro trivial ⟨by rw [if_pos h3]; rfl, rfl⟩
  · have e0 : mRead prt v m e = (m.1 v, e) := by simp [mRead, h]
    rw [e0]
    exact And.intro trivial ⟨rfl, rfl⟩
/-- a value: the object, what it leaves, how the run stands -/
def mFind (val : Int32) (s : Nat) (m : MSt) (e : Int32) : Option Nat × MSt × Int32 := if val = 3 then (none, m, e) else if val = 4 then (some (mMk m).1, (mMk m).2, e) else if val = 5 then (mAsk m, mTk 2 m, e) else ((mRead val s m e).1, m, (mRead val s m e).2)
set_option maxRecDepth 100000 in
set_option maxHeartbeats 1000000 in
theorem c_H_findValue (m : MSt) (hm : MInv m) (e : Int32) (val src : Int32) (s : Nat) (hs : ¬ val = 3 → ¬ val = 4 → ¬ val = 5 → src = nI s ∧ s < 5) : XMet l 3 q_H_findValue [.ref 16, .int val, .int src] (wM z m sc e r) (some (.int (oI (mFind val s m e).1))) (wM z (mFind val s m e).2.1 sc (mFind val s m e).2.2 r) := by
  refine xm_intro (by decide +kernel) (Nat.le_of_ble_eq_true rfl) ?_
  refine xw_go xcls ok_H_findValue 40 [] ?_
  refine And.intro (fun h => ?_) (fun h3 => ?_)
  · have e0 : mFind val s m e = (none, m, e) := by simp [mFind, h]
    rw [e0]
    exact And.intro trivial ⟨rfl, rfl⟩
  · refine And.intro (fun h => ?_) (fun h4 => ?_)
    · have e0 : mFind val s m e = (some (mMk m).1, (mMk m).2, e) := by simp [mFind, h]
      rw [e0]
      refine ⟨0, _, _, by decide, c_H_makeObject l z r sc e m hm.2.2.2.2, ?_⟩
      exact And.intro trivial ⟨rfl, rfl⟩
    · refine And.intro (fun h => ?_) (fun h5 => ?_)
      · have e0 : mFind val s m e = (mAsk m, mTk 2 m, e) := by simp [mFind, h]
        rw [e0]
        refine ⟨2, _, _, by decide, c_H_askOracle l z r sc e m hm, ?_⟩
        exact And.intro trivial ⟨rfl, rfl⟩
      · have e0 : mFind val s m e = ((mRead val s m e).1, m, (mRead val s m e).2) := by simp [mFind, h3, h4, h5]
        rw [e0]
        obtain ⟨q1, q2⟩ := hs h3 h4 h5
        refine ⟨0, _, _, by decide, c_H_read l z r sc m hm e val s q2 q1, ?_⟩
        exact And.intro trivial ⟨rfl, rfl⟩
def mLoc (v : Nat) (x : Option Nat) (m : MSt) : MSt := (fu m.1 v x, m.2)
def mG (o x : Nat) (m : MSt) : MSt := (m.1, fu m.2.1 o x, m.2.2)
def mH (o : Nat) (x : Option Nat) (m : MSt) : MSt := (m.1, m.2.1, fu m.2.2.1 o x, m.2.2.2)
theorem w_mLoc {m : MSt} {e : Int32} {v : Nat} {x : Option Nat} : wP z (wC z (wH (us (sM z m sc e) 17 v (oI x)) m.2.2.2.2 r)) = wM z (mLoc v x m) sc e r := wM_i (m := mLoc v x m) rfl rfl rfl (fu_oI _ _ _) rfl rfl
theorem w_mG {m : MSt} {e : Int32} {o x : Nat} : wP z (wC z (wH (us (sM z m sc e) 18 o (nI x)) m.2.2.2.2 r)) = wM z (mG o x m) sc e r := wM_i (m := mG o x m) rfl rfl rfl rfl (fu_nI _ _ _) rfl
theorem w_mH {m : MSt} {e : Int32} {o : Nat} {x : Option Nat} : wP z (wC z (wH (us (sM z m sc e) 19 o (oI x)) m.2.2.2.2 r)) = wM z (mH o x m) sc e r := wM_i (m := mH o x m) rfl rfl rfl rfl rfl (fu_oI _ _ _)
/-- a name gets a value -/
def mWL (v : Nat) (x : Option Nat) (so : Int32) (m : MSt) (e : Int32) : MSt × Int32 := if ¬ so = 0 ∧ x = none then (m, 2) else (mLoc v x m, e)
theorem oI_n {x : Option Nat} (h : ∀ o, x = some o → o < 8) : oI x = -1 ↔ x = none := oI_m1 (fun y hy => by have := h y hy; omega)
set_option maxRecDepth 100000 in
set_option maxHeartbeats 1000000 in
theorem c_H_writeLocal (m : MSt) (e : Int32) (v : Nat) (hv : v < 5) (x : Option Nat) (hx : ∀ o, x = some o → o < 8) (so : Int32) : XMet l 0 q_H_writeLocal [.ref 16, .int (nI v), .int (oI x), .int so] (wM z m sc e r) none (wM z (mWL v x so m e).1 sc (mWL v x so m e).2 r) := by
  refine xm_intro (by decide +kernel) (Nat.le_of_ble_eq_true rfl) ?_
  have j : ¬ (¬ so = 0 ∧ x = none) → XW l 0 q_H_writeLocal (fun a b => a = none ∧ b = wM z (mWL v x so m e).1 sc (mWL v x so m e).2 r) 17 [(0, .ref 16), (1, .int (nI v)), (2, .int (oI x))] [] (wM z m sc e r) := by
    intro hc
    rw [show mWL v x so m e = (mLoc v x m, e) by rw [mWL, if_neg hc]]
    refine xw_go xcls ok_H_writeLocal 40 [] ?_
    refine And.intro (in_nI (by omega) (by omega)) ?_
    rw [cl_nI (by omega)]
    exact And.intro rfl ⟨rfl, w_mLoc z r sc⟩
  refine xw_go xcls ok_H_writeLocal 40 [(17, [0, 1, 2])] ?_
  refine And.intro (fun h => j (fun c => c.1 h)) (fun h => ?_)
  refine And.intro (fun h2 => j (fun c => h2 (by rw [c.2]; rfl))) (fun h2 => ?_)
  rw [show mWL v x so m e = (m, 2) by rw [mWL, if_pos ⟨h, (oI_n hx).mp h2⟩]]
  exact And.intro trivial (And.intro rfl ⟨rfl, rfl⟩)
theorem MInv_mk {m : MSt} (h : MInv m) : MInv (mMk m).2 ∧ (mMk m).1 < 8 := by
  obtain ⟨i1, i2, i3, i4, i5⟩ := h
  unfold mMk; split
  · rename_i hk
    refine ⟨⟨i1, fun o => ?_, fun o q hq => ?_, by show 1 ≤ m.2.2.2.1 + 1; omega, by show m.2.2.2.1 + 1 ≤ 8; omega⟩, hk⟩
    · show fu m.2.1 m.2.2.2.1 m.2.2.2.1 o < 8
      unfold fu; split
      · omega
      · exact i2 o
    · have hq : fu m.2.2.1 m.2.2.2.1 none o = some q := hq
      unfold fu at hq; split at hq
      · cases hq
      · exact i3 o q hq
  · exact ⟨⟨i1, i2, i3, i4, i5⟩, by omega⟩
theorem mFind_inv {m : MSt} {e val : Int32} {s : Nat} (h : MInv m) : MInv (mFind val s m e).2.1 ∧ ∀ o, (mFind val s m e).1 = some o → o < 8 := by
  obtain ⟨i1, i2, i3, i4, i5⟩ := id h
  unfold mFind; split
  · exact ⟨h, fun o ho => by cases ho⟩
  · split
    · have := MInv_mk h
      exact ⟨this.1, fun o ho => by have ho := Option.some.inj ho; omega⟩
    · split
      · refine ⟨h, fun o ho => ?_⟩
        have ho : mAsk m = some o := ho
        unfold mAsk at ho; split at ho
        · cases ho
        · have ho := Option.some.inj ho
          have := Nat.min_le_right (tkN 2 m.2.2.2.2 - 1) (m.2.2.2.1 - 1)
          omega
      · refine ⟨h, fun o ho => ?_⟩
        have ho : (mRead val s m e).1 = some o := ho
        unfold mRead at ho; split at ho
        · exact i1 s o ho
        · split at ho
          · cases ho
          · rename_i q _
            have ho : (if val = 1 then some (m.2.1 q) else m.2.2.1 q) = some o := ho
            split at ho
            · have ho := Option.some.inj ho
              have := i2 q; omega
            · exact i3 q o ho
/-- a write done -/
def mWr (prt val solid : Int32) (v s : Nat) (m : MSt) : MSt × Int32 :=
  if ¬ (mFind val s m (-1)).2.2 = -1 then (mFind val s m (-1)).2
  else if prt = 0 then mWL v (mFind val s m (-1)).1 (bI (¬ (solid >>> (nI v &&& 31)) &&& 1 = 0)) (mFind val s m (-1)).2.1 (-1)
  else match (mFind val s m (-1)).2.1.1 v with
    | none => ((mFind val s m (-1)).2.1, 1)
    | some o => if prt = 2 then (mH o (mFind val s m (-1)).1 (mFind val s m (-1)).2.1, -1) else match (mFind val s m (-1)).1 with
      | none => ((mFind val s m (-1)).2.1, 2)
      | some x => (mG o x (mFind val s m (-1)).2.1, -1)
set_option maxRecDepth 100000 in
set_option maxHeartbeats 2000000 in
theorem c_H_write (m : MSt) (hm : MInv m) (p : Nat) (hp : p < 65) (solid : Int32) (v s : Nat) (hv : z 3 p = nI v) (hv5 : v < 5) (hs : ¬ z 5 p = 3 → ¬ z 5 p = 4 → ¬ z 5 p = 5 → z 6 p = nI s ∧ s < 5) : XMet l 4 q_H_write [.ref 16, .ref 0, .int (nI p), .int solid] (wM z m sc (-1) r) none (wM z (mWr (z 4 p) (z 5 p) solid v s m).1 sc (mWr (z 4 p) (z 5 p) solid v s m).2 r) := by
  refine xm_intro (by decide +kernel) (Nat.le_of_ble_eq_true rfl) ?_
  generalize hres : mWr (z 4 p) (z 5 p) solid v s m = res
  obtain ⟨hf1, hf2⟩ := mFind_inv (e := -1) (val := z 5 p) (s := s) hm
  generalize hf : mFind (z 5 p) s m (-1) = f at hf1 hf2
  obtain ⟨x, m1, e1⟩ := f
  have hf1 : MInv m1 := hf1
  have hf2 : ∀ o, x = some o → o < 8 := hf2
  have lst : ∀ b : Int32, e1 = -1 → z 4 p = 0 → b = bI (¬ (solid >>> (nI v &&& 31)) &&& 1 = 0) → XW l 4 q_H_write (fun a b => a = none ∧ b = wM z res.1 sc res.2 r) 63 [] [.int b, .int (oI x), .int (nI v), .ref 16] (wM z m1 sc (-1) r) := by
    intro b h1 h2 hb
    refine xw_go xcls ok_H_write 40 [] ?_
    refine ⟨0, _, _, by decide, c_H_writeLocal l z r sc m1 (-1) v hv5 x hf2 b, ?_⟩
    refine And.intro rfl ⟨rfl, ?_⟩
    rw [← hres, mWr, hf]
    simp only [h1, h2, hb]
    simp
  refine xw_go xcls ok_H_write 60 [(63, [])] ?_
  refine And.intro (in_nI (by omega) (by omega)) ?_
  rw [cl_nI (by omega)]
  refine And.intro (in_nI (by omega) (by omega)) ?_
  rw [cl_nI (by omega)]
  refine And.intro (in_nI (by omega) (by omega)) ?_
  rw [cl_nI (by omega)]
  refine ⟨3, _, _, by decide, c_H_findValue l z r sc m hm (-1) (z 5 p) (z 6 p) s hs, ?_⟩
  rw [hf]
  rw [show z 3 p = nI v from hv]
  refine And.intro (fun h => ?_) (fun h => ?_)
  · have h : e1 = -1 := h
    subst h
    refine And.intro (in_nI (by omega) (by omega)) ?_
    rw [cl_nI (by omega)]
    refine And.intro (fun h4 => ?_) (fun h4 => ?_)
    · have h4 : ¬ z 4 p = 0 := h4
      refine And.intro (in_nI (by omega) (by omega)) ?_
      rw [cl_nI (by omega)]
      have e17 : sM z m1 sc (-1) 17 v = oI (m1.1 v) := rfl
      cases ho : m1.1 v with
      | none =>
        refine And.intro (fun h5 => absurd (show sM z m1 sc (-1) 17 v = -1 by rw [e17, ho]; rfl) h5) (fun h5 => ?_)
        refine And.intro trivial (And.intro rfl ⟨rfl, ?_⟩)
        have e0 : mWr (z 4 p) (z 5 p) solid v s m = (m1, 1) := by simp [mWr, hf, h4, ho]
        rw [← hres, e0]
        rfl
      | some o =>
        have e18 : sM z m1 sc (-1) 17 v = nI o := by rw [e17, ho]; rfl
        have ho8 := hf1.1 v o ho
        refine And.intro (fun h5 => ?_) (fun h5 => absurd (e18.symm.trans h5) (nI_nm1 (by omega)))
        refine And.intro (in_nI (by omega) (by omega)) ?_
        rw [cl_nI (by omega)]
        refine And.intro (fun h6 => ?_) (fun h6 => ?_)
        · have h6 : ¬ z 4 p = 2 := h6
          refine And.intro (fun h7 => ?_) (fun h7 => ?_)
          · cases x with
            | none => exact absurd rfl h7
            | some q =>
              refine And.intro (in_nI (by omega) (by omega)) ?_
              rw [cl_nI (by omega)]
              refine And.intro (by show vp_in (sM z m1 sc (-1) 17 v) 8; rw [e18]; exact in_nI (by omega) (by omega)) ?_
              rw [e18, cl_nI (by omega)]
              refine And.intro rfl ⟨rfl, ?_⟩
              have e0 : mWr (z 4 p) (z 5 p) solid v s m = (mG o q m1, -1) := by simp [mWr, hf, h4, ho, h6]
              rw [← hres, e0]
              exact w_mG z r sc
          · have hx : x = none := (oI_n hf2).mp h7
            have e0 : mWr (z 4 p) (z 5 p) solid v s m = (m1, 2) := by simp [mWr, hf, h4, ho, h6, hx]
            refine And.intro trivial (And.intro rfl ⟨rfl, ?_⟩)
            rw [← hres, e0]
            rfl
        · have h6 : z 4 p = 2 := h6
          refine And.intro (in_nI (by omega) (by omega)) ?_
          rw [cl_nI (by omega)]
          refine And.intro (by show vp_in (sM z m1 sc (-1) 17 v) 8; rw [e18]; exact in_nI (by omega) (by omega)) ?_
          rw [e18, cl_nI (by omega)]
          refine And.intro rfl ⟨rfl, ?_⟩
          have e0 : mWr (z 4 p) (z 5 p) solid v s m = (mH o x m1, -1) := by simp [mWr, hf, ho, h6]
          rw [← hres, e0]
          exact w_mH z r sc
    · have h4 : z 4 p = 0 := h4
      refine And.intro (fun h5 => ?_) (fun h5 => ?_)
      · exact lst 0 rfl h4 (by simp [bI, h5])
      · exact lst 1 rfl h4 (by simp [bI, h5])
  · have h : ¬ e1 = -1 := h
    refine And.intro rfl ⟨rfl, ?_⟩
    have e0 : mWr (z 4 p) (z 5 p) solid v s m = (m1, e1) := by simp [mWr, hf, h]
    rw [← hres, e0]
theorem mWr_inv {m : MSt} {prt val solid : Int32} {v s : Nat} (h : MInv m) : MInv (mWr prt val solid v s m).1 := by
  obtain ⟨hf1, hf2⟩ := mFind_inv (e := -1) (val := val) (s := s) h
  unfold mWr
  generalize mFind val s m (-1) = f at hf1 hf2 ⊢
  obtain ⟨x, m1, e1⟩ := f
  obtain ⟨i1, i2, i3, i4, i5⟩ := id hf1
  have hf2 : ∀ o, x = some o → o < 8 := hf2
  split
  · exact hf1
  · split
    · unfold mWL; split
      · exact hf1
      · refine ⟨fun w o ho => ?_, i2, i3, i4, i5⟩
        have ho : fu m1.1 v x w = some o := ho
        unfold fu at ho; split at ho
        · exact hf2 o ho
        · exact i1 w o ho
    · split
      · exact hf1
      · rename_i o _
        split
        · refine ⟨i1, i2, fun w q hq => ?_, i4, i5⟩
          have hq : fu m1.2.2.1 o x w = some q := hq
          unfold fu at hq; split at hq
          · exact hf2 q hq
          · exact i3 w q hq
        · split
          · exact hf1
          · rename_i y hy
            have hy : x = some y := hy
            refine ⟨i1, fun w => ?_, i3, i4, i5⟩
            show fu m1.2.1 o y w < 8
            unfold fu; split
            · exact hf2 y hy
            · exact i2 w
/-- is the atom true; what it leaves -/
def mTrue (prt : Int32) (v : Nat) (m : MSt) : Bool × MSt × Int32 := if prt = 6 then (decide (tkN 1 m.2.2.2.2 = 1), mTk 1 m, -1) else ((mRead prt v m (-1)).1.isSome, m, (mRead prt v m (-1)).2)
def b01 (b : Bool) : Int32 := if b then 1 else 0
set_option maxRecDepth 100000 in
set_option maxHeartbeats 1000000 in
theorem c_H_isTrue (m : MSt) (hm : MInv m) (prt loc : Int32) (v : Nat) (hv : ¬ prt = 6 → loc = nI v ∧ v < 5) : XMet l 1 q_H_isTrue [.ref 16, .int prt, .int loc] (wM z m sc (-1) r) (some (.int (b01 (mTrue prt v m).1))) (wM z (mTrue prt v m).2.1 sc (mTrue prt v m).2.2 r) := by
  refine xm_intro (by decide +kernel) (Nat.le_of_ble_eq_true rfl) ?_
  refine xw_go xcls ok_H_isTrue 40 [] ?_
  refine And.intro (fun h => ?_) (fun h => ?_)
  · obtain ⟨q1, q2⟩ := hv h
    have e0 : mTrue prt v m = ((mRead prt v m (-1)).1.isSome, m, (mRead prt v m (-1)).2) := by simp [mTrue, h]
    rw [e0]
    refine ⟨0, _, _, by decide, c_H_read l z r sc m hm (-1) prt v q2 q1, ?_⟩
    have hb : ∀ o, (mRead prt v m (-1)).1 = some o → o < 8 := fun o ho => by
      have := (mFind_inv (e := -1) (val := prt) (s := v) hm).2
      unfold mRead at ho; split at ho
      · exact hm.1 v o ho
      · split at ho
        · cases ho
        · rename_i q _
          have ho : (if prt = 1 then some (m.2.1 q) else m.2.2.1 q) = some o := ho
          split at ho
          · have ho := Option.some.inj ho
            have := hm.2.1 q; omega
          · exact hm.2.2.1 q o ho
    refine And.intro (fun h2 => ?_) (fun h2 => ?_)
    · have h2 := (oI_n hb).mp h2
      exact And.intro (Or.inl rfl) ⟨by simp [h2, b01], rfl⟩
    · have h2 : ¬ (mRead prt v m (-1)).1 = none := fun c => h2 ((oI_n hb).mpr c)
      have h3 : (mRead prt v m (-1)).1.isSome = true := Option.isSome_iff_ne_none.mpr h2
      exact And.intro (Or.inr rfl) ⟨by simp [h3, b01], rfl⟩
  · have e0 : mTrue prt v m = (decide (tkN 1 m.2.2.2.2 = 1), mTk 1 m, -1) := by simp [mTrue, h]
    rw [e0]
    have h4 := tkN_1 m.2.2.2.2
    refine ⟨0, _, _, by decide, c_H_takeBits l z r sc (-1) m 1 (Or.inl rfl), ?_⟩
    refine And.intro (fun h2 => ?_) (fun h2 => ?_)
    · rw [show (1 : Int32) = nI 1 from rfl, nI_eq' (by omega) (by omega)] at h2
      exact And.intro (Or.inl rfl) ⟨by simp [h2, b01], rfl⟩
    · rw [show (1 : Int32) = nI 1 from rfl, nI_eq' (by omega) (by omega)] at h2
      exact And.intro (Or.inr rfl) ⟨by simp [h2, b01], rfl⟩
end
end
section
/-! Machine: a visit, the start, a run -/
/-- what the places name, in numbers -/
def RPr (z : Sg) (n : Nat) (lo so : Nat → Nat) : Prop := ∀ p, p ≤ n → (z 2 p = 1 → z 3 p = nI (lo p) ∧ lo p < 5 ∧ (¬ z 5 p = 3 → ¬ z 5 p = 4 → ¬ z 5 p = 5 → z 6 p = nI (so p) ∧ so p < 5)) ∧ (z 2 p = 5 → ¬ z 4 p = 6 → z 3 p = nI (lo p) ∧ lo p < 5)
/-- the ways stay in the text -/
def KN (z : Sg) (n : Nat) (u v : Nat → Nat) : Prop := ∀ p, p ≤ n → (z 2 p = 1 ∨ z 2 p = 2 ∨ z 2 p = 3 ∨ z 2 p = 5 → u p ≤ n) ∧ (z 2 p = 5 → v p ≤ n)
/-- the next place, what is left, how the run stands -/
def mVis (z : Sg) (u v lo so : Nat → Nat) (solid : Int32) (p : Nat) (m : MSt) : Nat × MSt × Int32 :=
  if z 2 p = 1 then (u p, mWr (z 4 p) (z 5 p) solid (lo p) (so p) m)
  else if z 2 p = 2 then (u p, m, -1)
  else if z 2 p = 3 then (u p, mH (min (tkN 2 m.2.2.2.2) (m.2.2.2.1 - 1)) none (mTk 2 m), -1)
  else if z 2 p = 5 then (if (mTrue (z 4 p) (lo p) m).1 then u p else v p, (mTrue (z 4 p) (lo p) m).2)
  else (p, m, 0)
section
variable (l : Launch) (z : Sg) (r : List va_E)
set_option maxRecDepth 100000 in
set_option maxHeartbeats 2000000 in
theorem c_H_visit (sc : Int32) (n : Nat) (u v lo so : Nat → Nat) (hk : KPr z n u v) (hr : RPr z n lo so) (hn : n ≤ 64) (m : MSt) (hm : MInv m) (p : Nat) (hp : p ≤ n) (solid : Int32) : XMet l 5 q_H_visit [.ref 16, .ref 0, .int (nI p), .int solid] (wM z m sc (-1) r) (some (.int (nI (mVis z u v lo so solid p m).1))) (wM z (mVis z u v lo so solid p m).2.1 sc (mVis z u v lo so solid p m).2.2 r) := by
  refine xm_intro (by decide +kernel) (Nat.le_of_ble_eq_true rfl) ?_
  obtain ⟨hk1, hk2⟩ := hk p hp
  obtain ⟨hr1, hr2⟩ := hr p hp
  refine xw_go xcls ok_H_visit 60 [] ?_
  refine And.intro (in_nI (by omega) (by omega)) ?_
  rw [cl_nI (by omega)]
  refine And.intro (fun h => ?_) (fun h1 => ?_)
  · have h : z 2 p = 1 := h
    obtain ⟨e1, e2⟩ := hk1 (Or.inl h)
    obtain ⟨f1, f2, f3⟩ := hr1 h
    rw [show mVis z u v lo so solid p m = (u p, mWr (z 4 p) (z 5 p) solid (lo p) (so p) m) by rw [mVis, if_pos h]]
    refine ⟨4, _, _, by decide, c_H_write l z r sc m hm p (by omega) solid (lo p) (so p) f1 f2 f3, ?_⟩
    refine And.intro (in_nI (by omega) (by omega)) ?_
    rw [cl_nI (by omega)]
    exact And.intro trivial ⟨congrArg (fun x => some (Value.int x)) e1, rfl⟩
  · have h1 : ¬ z 2 p = 1 := h1
    refine And.intro (fun h => ?_) (fun h2 => ?_)
    · have h : z 2 p = 2 := h
      obtain ⟨e1, e2⟩ := hk1 (Or.inr (Or.inl h))
      rw [show mVis z u v lo so solid p m = (u p, m, -1) by rw [mVis, if_neg h1, if_pos h]]
      refine And.intro (in_nI (by omega) (by omega)) ?_
      rw [cl_nI (by omega)]
      exact And.intro trivial ⟨congrArg (fun x => some (Value.int x)) e1, rfl⟩
    · have h2 : ¬ z 2 p = 2 := h2
      refine And.intro (fun h => ?_) (fun h3 => ?_)
      · have h : z 2 p = 3 := h
        obtain ⟨e1, e2⟩ := hk1 (Or.inr (Or.inr (Or.inl h)))
        rw [show mVis z u v lo so solid p m = (u p, mH (min (tkN 2 m.2.2.2.2) (m.2.2.2.1 - 1)) none (mTk 2 m), -1) by rw [mVis, if_neg h1, if_neg h2, if_pos h]]
        have h4 := tkN_2 m.2.2.2.2
        have h8 := hm.2.2.2.2
        refine ⟨0, _, _, by decide, c_H_takeBits l z r sc (-1) m 2 (Or.inr rfl), ?_⟩
        refine ⟨1, _, _, by decide, c_H_existing l z r sc (-1) (mTk 2 m) hm (tkN 2 m.2.2.2.2) (by omega), ?_⟩
        have hmn : min (tkN 2 m.2.2.2.2) (m.2.2.2.1 - 1) < 8 := by have := Nat.min_le_right (tkN 2 m.2.2.2.2) (m.2.2.2.1 - 1); omega
        refine And.intro (in_nI hmn (by omega)) ?_
        rw [show (nI (min (tkN 2 m.2.2.2.2) ((mTk 2 m).2.2.2.1 - 1))).toNatClampNeg = min (tkN 2 m.2.2.2.2) (m.2.2.2.1 - 1) from cl_nI (by omega)]
        refine And.intro (in_nI (by omega) (by omega)) ?_
        rw [cl_nI (by omega)]
        exact And.intro trivial ⟨congrArg (fun x => some (Value.int x)) e1, w_mH z r sc (m := mTk 2 m) (x := none)⟩
      · have h3 : ¬ z 2 p = 3 := h3
        refine And.intro (fun h => ?_) (fun h4 => ?_)
        · have h : z 2 p = 4 := h
          rw [show mVis z u v lo so solid p m = (p, m, 0) by rw [mVis, if_neg h1, if_neg h2, if_neg h3, if_neg (by rw [h]; decide)]]
          exact And.intro trivial (And.intro trivial ⟨rfl, rfl⟩)
        · refine And.intro (fun h => ?_) (fun h5 => ?_)
          · have h : z 2 p = 5 := h
            obtain ⟨e1, e2⟩ := hk1 (Or.inr (Or.inr (Or.inr h)))
            obtain ⟨e3, e4⟩ := hk2 h
            rw [show mVis z u v lo so solid p m = (if (mTrue (z 4 p) (lo p) m).1 then u p else v p, (mTrue (z 4 p) (lo p) m).2) by rw [mVis, if_neg h1, if_neg h2, if_neg h3, if_pos h]]
            refine And.intro (in_nI (by omega) (by omega)) ?_
            rw [cl_nI (by omega)]
            refine And.intro (in_nI (by omega) (by omega)) ?_
            rw [cl_nI (by omega)]
            refine ⟨1, _, _, by decide, c_H_isTrue l z r sc m hm (z 4 p) (z 3 p) (lo p) (hr2 h), ?_⟩
            cases hb : (mTrue (z 4 p) (lo p) m).1 with
            | true =>
              refine And.intro (fun q => absurd q (by decide)) (fun q => ?_)
              refine And.intro (in_nI (by omega) (by omega)) ?_
              rw [cl_nI (by omega)]
              exact And.intro trivial ⟨congrArg (fun x => some (Value.int x)) e1, rfl⟩
            | false =>
              refine And.intro (fun q => ?_) (fun q => absurd rfl q)
              refine And.intro (in_nI (by omega) (by omega)) ?_
              rw [cl_nI (by omega)]
              exact And.intro trivial ⟨congrArg (fun x => some (Value.int x)) e3, rfl⟩
          · have h5 : ¬ z 2 p = 5 := h5
            rw [show mVis z u v lo so solid p m = (p, m, 0) by rw [mVis, if_neg h1, if_neg h2, if_neg h3, if_neg h5]]
            exact And.intro trivial (And.intro trivial ⟨rfl, rfl⟩)
theorem mVis_inv {n : Nat} {u v lo so : Nat → Nat} {solid : Int32} {p : Nat} {m : MSt} (hkn : KN z n u v) (hm : MInv m) (hp : p ≤ n) : MInv (mVis z u v lo so solid p m).2.1 ∧ (mVis z u v lo so solid p m).1 ≤ n := by
  obtain ⟨k1, k2⟩ := hkn p hp
  unfold mVis; split
  · rename_i h
    exact ⟨mWr_inv hm, k1 (Or.inl h)⟩
  · split
    · rename_i h
      exact ⟨hm, k1 (Or.inr (Or.inl h))⟩
    · split
      · rename_i h
        refine ⟨?_, k1 (Or.inr (Or.inr (Or.inl h)))⟩
        obtain ⟨i1, i2, i3, i4, i5⟩ := hm
        refine ⟨i1, i2, fun w q hq => ?_, i4, i5⟩
        have hq : fu m.2.2.1 (min (tkN 2 m.2.2.2.2) (m.2.2.2.1 - 1)) none w = some q := hq
        unfold fu at hq; split at hq
        · cases hq
        · exact i3 w q hq
      · split
        · rename_i h
          refine ⟨?_, ?_⟩
          · show MInv (mTrue (z 4 p) (lo p) m).2.1
            unfold mTrue; split
            · exact hm
            · exact hm
          · show (if (mTrue (z 4 p) (lo p) m).1 then u p else v p) ≤ n
            split
            · exact k1 (Or.inr (Or.inr (Or.inr h)))
            · exact k2 h
        · exact ⟨hm, hp⟩
/-- what the names hold as a run begins -/
def mH0 (hold : Int32) (k : Nat) (f : Nat → Option Nat) : Nat → Option Nat := fun v => if v < k then (if (hold >>> (nI v &&& 31)) &&& 1 = 0 then none else some 0) else f v
theorem mH0_s {hold : Int32} {k : Nat} {f : Nat → Option Nat} : fu (mH0 hold k f) k (if (hold >>> (nI k &&& 31)) &&& 1 = 0 then none else some 0) = mH0 hold (k + 1) f := by
  funext j
  unfold fu mH0
  by_cases h : j = k
  · subst h; simp
  · have : j < k + 1 ↔ j < k := by omega
    simp [h, this]
def mSt (m : MSt) : MSt := (m.1, fu m.2.1 0 0, fu m.2.2.1 0 none, 1, m.2.2.2.2)
def mPrep (hold : Int32) (b : Int64) (m : MSt) : MSt := (mH0 hold 5 m.1, fu m.2.1 0 0, fu m.2.2.1 0 none, 1, b)
set_option maxRecDepth 100000 in
set_option maxHeartbeats 1000000 in
theorem lp_H_prepare (sc e : Int32) (hold : Int32) (b : Int64) (m : MSt) : ∀ (j k : Nat), k + j = 5 → XW l 1 q_H_prepare (fun u w => u = none ∧ w = wM z (mPrep hold b m) sc (-1) r) 14 [(0, .ref 16), (1, .int hold), (2, .long b), (4, .int (nI 0)), (5, .int (nI k))] [] (wM z (mH0 hold k m.1, (mSt m).2) sc e r)
  | 0, k, hk => by
    have hk : k = 5 := hk
    subst hk
    refine xw_go xcls ok_H_prepare 40 [] ?_
    refine And.intro (fun h => ?_) (fun h => absurd (by decide) h)
    exact And.intro trivial (And.intro trivial (And.intro rfl ⟨rfl, rfl⟩))
  | j + 1, k, hk => by
    have ih := lp_H_prepare sc e hold b m j (k + 1) (by omega)
    rw [← nI_p1] at ih
    refine xw_go xcls ok_H_prepare 40 [(14, [0, 1, 2, 4, 5])] ?_
    refine And.intro (fun h => absurd h (by rw [show (5 : Int32) = nI 5 from rfl, nI_le' (by omega) (by omega)]; omega)) (fun h => ?_)
    have e0 : ∀ x : Option Nat, x = (if (hold >>> (nI k &&& 31)) &&& 1 = 0 then none else some 0) → mLoc k x (mH0 hold k m.1, (mSt m).2) = (mH0 hold (k + 1) m.1, (mSt m).2) := by
      intro x hx
      show (fu (mH0 hold k m.1) k x, (mSt m).2) = _
      rw [hx, mH0_s]
    refine And.intro (fun h2 => ?_) (fun h2 => ?_)
    · refine And.intro (in_nI (by omega) (by omega)) ?_
      rw [cl_nI (by omega)]
      rw [← e0 none (by rw [if_pos h2]), ← w_mLoc z r sc] at ih
      exact ih
    · refine And.intro (in_nI (by omega) (by omega)) ?_
      rw [cl_nI (by omega)]
      rw [← e0 (some 0) (by rw [if_neg h2]), ← w_mLoc z r sc] at ih
      exact ih
set_option maxRecDepth 100000 in
set_option maxHeartbeats 1000000 in
theorem c_H_prepare (sc e : Int32) (hold : Int32) (b : Int64) (m : MSt) : XMet l 1 q_H_prepare [.ref 16, .int hold, .long b] (wM z m sc e r) none (wM z (mPrep hold b m) sc (-1) r) := by
  refine xm_intro (by decide +kernel) (Nat.le_of_ble_eq_true rfl) ?_
  refine xw_go xcls ok_H_prepare 40 [(14, [0, 1, 2, 4, 5])] ?_
  refine And.intro trivial ?_
  refine ⟨0, _, _, by decide, c_H_makeObject l z r sc e (m.1, m.2.1, m.2.2.1, 0, m.2.2.2.2) (by show 0 ≤ 8; omega), ?_⟩
  have h := lp_H_prepare l z r sc e hold b m 5 0 (by omega)
  rw [show mH0 hold 0 m.1 = m.1 from by funext v; simp [mH0]] at h
  exact h
/-- a run: the answer, what is left, how many steps, how it ended -/
def mRun (z : Sg) (u v lo so : Nat → Nat) (solid : Int32) : Nat → Nat → Nat → MSt → Int32 × MSt × Nat × Int32
  | 0, k, p, m => (4 * nI p + 3, m, k, -1)
  | f + 1, k, p, m => if (mVis z u v lo so solid p m).2.2 = -1 then mRun z u v lo so solid f (k + 1) (mVis z u v lo so solid p m).1 (mVis z u v lo so solid p m).2.1 else (4 * nI p + (mVis z u v lo so solid p m).2.2, (mVis z u v lo so solid p m).2.1, k, (mVis z u v lo so solid p m).2.2)
set_option maxRecDepth 100000 in
set_option maxHeartbeats 1000000 in
theorem lp_H_execute (n : Nat) (u v lo so : Nat → Nat) (hk : KPr z n u v) (hkn : KN z n u v) (hr : RPr z n lo so) (hn : n ≤ 64) (solid : Int32) : ∀ (f k p : Nat) (m : MSt), k + f = 200 → p ≤ n → MInv m →
    XW l 6 q_H_execute (fun a w => a = some (.int (mRun z u v lo so solid f k p m).1) ∧ w = wM z (mRun z u v lo so solid f k p m).2.1 (nI (mRun z u v lo so solid f k p m).2.2.1) (mRun z u v lo so solid f k p m).2.2.2 r) 17 [(0, .ref 16), (1, .ref 0), (2, .int solid), (6, .int (nI p))] [] (wM z m (nI k) (-1) r)
  | 0, k, p, m, hf, hp, hm => by
    have hf : k = 200 := hf
    subst hf
    refine xw_go xcls ok_H_execute 40 [] ?_
    refine And.intro (fun h => ?_) (fun h => absurd (show nI 200 ≥ 200 from by decide) h)
    exact And.intro trivial ⟨rfl, rfl⟩
  | f + 1, k, p, m, hf, hp, hm => by
    have hi := mVis_inv z (lo := lo) (so := so) (solid := solid) hkn hm hp
    refine xw_go xcls ok_H_execute 40 [(17, [0, 1, 2, 6])] ?_
    refine And.intro (fun h => ?_) (fun h => ?_)
    · have h : (200 : Int32) ≤ nI k := h
      rw [show (200 : Int32) = nI 200 from rfl, nI_le' (by omega) (by omega)] at h
      omega
    · refine ⟨5, _, _, by decide, c_H_visit l z r (nI k) n u v lo so hk hr hn m hm p hp solid, ?_⟩
      refine And.intro (fun h2 => ?_) (fun h2 => ?_)
      · have h2 : (mVis z u v lo so solid p m).2.2 = -1 := h2
        rw [show mRun z u v lo so solid (f + 1) k p m = mRun z u v lo so solid f (k + 1) (mVis z u v lo so solid p m).1 (mVis z u v lo so solid p m).2.1 by rw [mRun, if_pos h2]]
        refine And.intro trivial ?_
        have ih := lp_H_execute n u v lo so hk hkn hr hn solid f (k + 1) (mVis z u v lo so solid p m).1 (mVis z u v lo so solid p m).2.1 (by omega) hi.2 hi.1
        rw [show wM z (mVis z u v lo so solid p m).2.1 (nI (k + 1)) (-1) r = wM z (mVis z u v lo so solid p m).2.1 (nI k + 1) (mVis z u v lo so solid p m).2.2 r by rw [h2, nI_p1]] at ih
        exact ih
      · have h2 : ¬ (mVis z u v lo so solid p m).2.2 = -1 := h2
        rw [show mRun z u v lo so solid (f + 1) k p m = (4 * nI p + (mVis z u v lo so solid p m).2.2, (mVis z u v lo so solid p m).2.1, k, (mVis z u v lo so solid p m).2.2) by rw [mRun, if_neg h2]]
        exact And.intro trivial ⟨rfl, rfl⟩
/-- bounds that hold between runs, too -/
def MI0 (m : MSt) : Prop := (∀ v o, m.1 v = some o → o < 8) ∧ (∀ o, m.2.1 o < 8) ∧ (∀ o q, m.2.2.1 o = some q → q < 8) ∧ m.2.2.2.1 ≤ 8
theorem mPrep_inv {hold : Int32} {b : Int64} {m : MSt} (h : MI0 m) : MInv (mPrep hold b m) := by
  obtain ⟨i1, i2, i3, i4⟩ := h
  refine ⟨fun v o ho => ?_, fun o => ?_, fun o q hq => ?_, Nat.le_refl 1, by show 1 ≤ 8; decide⟩
  · have ho : mH0 hold 5 m.1 v = some o := ho
    unfold mH0 at ho; split at ho
    · split at ho
      · cases ho
      · cases ho; decide
    · exact i1 v o ho
  · show fu m.2.1 0 0 o < 8
    unfold fu; split
    · decide
    · exact i2 o
  · have hq : fu m.2.2.1 0 none o = some q := hq
    unfold fu at hq; split at hq
    · cases hq
    · exact i3 o q hq
set_option maxRecDepth 100000 in
set_option maxHeartbeats 1000000 in
theorem c_H_execute (n : Nat) (u v lo so : Nat → Nat) (hk : KPr z n u v) (hkn : KN z n u v) (hr : RPr z n lo so) (hn : n ≤ 64) (solid start : Int32) (b : Int64) (m : MSt) (hm : MI0 m) (sc e : Int32) : XMet l 6 q_H_execute [.ref 16, .ref 0, .int solid, .int start, .long b] (wM z m sc e r) (some (.int (mRun z u v lo so solid 200 0 0 (mPrep (solid ||| start) b m)).1)) (wM z (mRun z u v lo so solid 200 0 0 (mPrep (solid ||| start) b m)).2.1 (nI (mRun z u v lo so solid 200 0 0 (mPrep (solid ||| start) b m)).2.2.1) (mRun z u v lo so solid 200 0 0 (mPrep (solid ||| start) b m)).2.2.2 r) := by
  refine xm_intro (by decide +kernel) (Nat.le_of_ble_eq_true rfl) ?_
  refine xw_go xcls ok_H_execute 40 [(17, [0, 1, 2, 6])] ?_
  refine ⟨1, _, _, by decide, c_H_prepare l z r sc e (solid ||| start) b m, ?_⟩
  refine And.intro trivial ?_
  exact lp_H_execute l z r n u v lo so hk hkn hr hn solid 200 0 0 (mPrep (solid ||| start) b m) (by omega) (by omega) (mPrep_inv hm)
end
end
section
/-! NullGuard: its methods -/
/-- the whole class: program, checker, machine, the solid names, whether checked -/
def wA (z : Sg) (s : CS) (m : MSt) (sc e so ck : Int32) : List va_E := wP z (wC (sCS z s) (wH (sM z m sc e) m.2.2.2.2 (wN (us (us z 20 3 so) 20 4 ck) [])))
section
variable (l : Launch) (z : Sg) (s : CS) (m : MSt) (sc e so ck : Int32)
def rA : List va_E := wC (sCS z s) (wH (sM z m sc e) m.2.2.2.2 (wN (us (us z 20 3 so) 20 4 ck) []))
def rB : List va_E := wH (sM z m sc e) m.2.2.2.2 (wN (us (us z 20 3 so) 20 4 ck) [])
def rC : List va_E := wN (us (us z 20 3 so) 20 4 ck) []
/-- what reading the text leaves -/
def zPar (t : Nat → Int32) (n : Nat) (z : Sg) (ex wy ow : Nat → Nat) : Sg := if (xPar t n z).1 = some n ∧ (xPar t n z).2.2 = [] then fLd (chr t n) ex wy ow (us (us (xPar t n z).2.1 0 2 1) 2 n 6) n else us (xPar t n z).2.1 0 2 0
def hPar (t : Nat → Int32) (n : Nat) (z : Sg) (ex wy ow : Nat → Nat) : Prop := (xPar t n z).1 = some n → (xPar t n z).2.2 = [] → (∀ p, chr t n p = 125 → (xPar t n z).2.1 9 p = nI (ex p) ∧ ex p < 65) ∧ (∀ p, p < n → ¬ (xPar t n z).2.1 2 p = 0 → (xPar t n z).2.1 7 p = nI (wy p) ∧ wy p < 900) ∧ (∀ p, p < n → (xPar t n z).2.1 2 p = 5 → (xPar t n z).2.1 8 p = nI (ow p) ∧ ow p < 900)
set_option maxRecDepth 100000 in
set_option maxHeartbeats 1000000 in
theorem c_N_type (x : Int64) {t : Nat → Int32} {n : Nat} (hp : PT z t n) (hc : canApp x n) (hp' : PT (sT z (fApp x 8 t n)) (fApp x 8 t n).1 (fApp x 8 t n).2) (ex wy ow : Nat → Nat) (hv : hPar (fApp x 8 t n).1 (fApp x 8 t n).2 (sT z (fApp x 8 t n)) ex wy ow) : XMet l 6 q_N_type [.ref 20, .long x] (wA z s m sc e so ck) (some (.int 1)) (wA (zPar (fApp x 8 t n).1 (fApp x 8 t n).2 (sT z (fApp x 8 t n)) ex wy ow) s m sc e so 0) := by
  refine xm_intro (by decide +kernel) (Nat.le_of_ble_eq_true rfl) ?_
  refine xw_go xcls ok_N_type 40 [] ?_
  refine ⟨2, _, _, by decide, c_P_append l z (rA z s m sc e so ck) x hp hc, ?_⟩
  refine And.intro (fun h => ?_) (fun h => absurd h (by decide))
  refine ⟨5, _, _, by decide, c_P_parse l (sT z (fApp x 8 t n)) (rA z s m sc e so ck) hp' ex wy ow hv, ?_⟩
  exact And.intro (Or.inl rfl) (And.intro (Or.inr rfl) ⟨rfl, rfl⟩)
set_option maxRecDepth 100000 in
set_option maxHeartbeats 1000000 in
theorem c_N_typeN (x : Int64) {t : Nat → Int32} {n : Nat} (hp : PT z t n) (hc : ¬ canApp x n) : XMet l 6 q_N_type [.ref 20, .long x] (wA z s m sc e so ck) (some (.int 0)) (wA z s m sc e so ck) := by
  refine xm_intro (by decide +kernel) (Nat.le_of_ble_eq_true rfl) ?_
  refine xw_go xcls ok_N_type 40 [] ?_
  refine ⟨2, _, _, by decide, c_P_appendN l z (rA z s m sc e so ck) x hp hc, ?_⟩
  refine And.intro (fun h => absurd rfl h) (fun h => ?_)
  exact And.intro (Or.inl rfl) ⟨rfl, rfl⟩
set_option maxRecDepth 100000 in
set_option maxHeartbeats 1000000 in
theorem c_N_wipe {t : Nat → Int32} (hp' : PT (us z 0 1 0) t 0) (ex wy ow : Nat → Nat) (hv : hPar t 0 (us z 0 1 0) ex wy ow) : XMet l 6 q_N_wipe [.ref 20] (wA z s m sc e so ck) none (wA (zPar t 0 (us z 0 1 0) ex wy ow) s m sc e so 0) := by
  refine xm_intro (by decide +kernel) (Nat.le_of_ble_eq_true rfl) ?_
  refine xw_go xcls ok_N_wipe 40 [] ?_
  refine ⟨0, _, _, by decide, c_P_clear l z (rA z s m sc e so ck), ?_⟩
  refine ⟨5, _, _, by decide, c_P_parse l (us z 0 1 0) (rA z s m sc e so ck) hp' ex wy ow hv, ?_⟩
  exact And.intro (Or.inl rfl) (And.intro rfl ⟨rfl, rfl⟩)
set_option maxRecDepth 100000 in
theorem c_N_length : XMet l 6 q_N_length [.ref 20] (wA z s m sc e so ck) (some (.int (z 0 1))) (wA z s m sc e so ck) := by
  refine xm_intro (by decide +kernel) (Nat.le_of_ble_eq_true rfl) ?_
  refine xw_go xcls ok_N_length 40 [] ?_
  exact And.intro trivial ⟨rfl, rfl⟩
/-- the number of a name -/
def isL (v : Int32) : Prop := 0 ≤ v ∧ v < 5
set_option maxRecDepth 100000 in
theorem c_N_isLocal (w : List va_E) (v b : Int32) (hb : (isL v ∧ b = 1) ∨ (¬ isL v ∧ b = 0)) : XMet l 0 q_N_isLocal [.int v] w (some (.int b)) w := by
  refine xm_intro (by decide +kernel) (Nat.le_of_ble_eq_true rfl) ?_
  refine xw_go xcls ok_N_isLocal 40 [] ?_
  refine And.intro (fun h => ?_) (fun h => ?_)
  · rcases hb with ⟨h1, -⟩ | ⟨-, rfl⟩
    · exact absurd h1.1 (Int32.not_le.mpr h)
    · exact And.intro (Or.inl rfl) ⟨rfl, rfl⟩
  · refine And.intro (fun h2 => ?_) (fun h2 => ?_)
    · rcases hb with ⟨h1, -⟩ | ⟨-, rfl⟩
      · exact absurd h1.2 (Int32.not_lt.mpr h2)
      · exact And.intro (Or.inl rfl) ⟨rfl, rfl⟩
    · rcases hb with ⟨-, rfl⟩ | ⟨h1, -⟩
      · exact And.intro (Or.inr rfl) ⟨rfl, rfl⟩
      · exact absurd ⟨Int32.not_lt.mp h, Int32.not_le.mp h2⟩ h1
set_option maxRecDepth 100000 in
set_option maxHeartbeats 1000000 in
theorem c_N_declare (v on : Int32) (hv : isL v) : XMet l 6 q_N_declare [.ref 20, .int v, .int on] (wA z s m sc e so ck) (some (.int 1)) (wA z s m sc e (cSet (sB v) on so) 0) := by
  refine xm_intro (by decide +kernel) (Nat.le_of_ble_eq_true rfl) ?_
  refine xw_go xcls ok_N_declare 40 [] ?_
  refine ⟨0, _, _, by decide, c_N_isLocal l _ v 1 (Or.inl ⟨hv, rfl⟩), ?_⟩
  refine And.intro (fun h => ?_) (fun h => absurd h (by decide))
  refine And.intro (fun h2 => ?_) (fun h2 => ?_)
  · exact And.intro trivial (And.intro (Or.inl rfl) (And.intro (Or.inr rfl) ⟨rfl, by simp only [cSet, if_pos h2]; rfl⟩))
  · exact And.intro trivial (And.intro (Or.inl rfl) (And.intro (Or.inr rfl) ⟨rfl, by simp only [cSet, if_neg h2]; rfl⟩))
set_option maxRecDepth 100000 in
set_option maxHeartbeats 1000000 in
theorem c_N_declareN (v on : Int32) (hv : ¬ isL v) : XMet l 6 q_N_declare [.ref 20, .int v, .int on] (wA z s m sc e so ck) (some (.int 0)) (wA z s m sc e so ck) := by
  refine xm_intro (by decide +kernel) (Nat.le_of_ble_eq_true rfl) ?_
  refine xw_go xcls ok_N_declare 40 [] ?_
  refine ⟨0, _, _, by decide, c_N_isLocal l _ v 0 (Or.inr ⟨hv, rfl⟩), ?_⟩
  refine And.intro (fun h => absurd rfl h) (fun h => ?_)
  exact And.intro (Or.inl rfl) ⟨rfl, rfl⟩
set_option maxRecDepth 100000 in
theorem c_N_statements : XMet l 6 q_N_statements [.ref 20] (wA z s m sc e so ck) (some (.int (if z 0 2 = 0 then -1 else z 0 3))) (wA z s m sc e so ck) := by
  refine xm_intro (by decide +kernel) (Nat.le_of_ble_eq_true rfl) ?_
  refine xw_go xcls ok_N_statements 40 [] ?_
  refine And.intro (fun h => ?_) (fun h => ?_)
  · have h : z 0 2 = 0 := h
    exact And.intro trivial ⟨by rw [if_pos h], rfl⟩
  · have h : ¬ z 0 2 = 0 := h
    exact And.intro trivial ⟨by rw [if_neg h], rfl⟩
/-- what is known of a program: checked once -/
def kn (z : Sg) (u v : Nat → Nat) (so : Int32) (n : Nat) (s : CS) : CS := cOut z u v so n 716 (upd (fFill 65 s.1 (-1) 65) 0 so, fFill 65 s.2.1 0 65, 1, s.2.2.2)
def knC (z : Sg) (u v : Nat → Nat) (so ck : Int32) (n : Nat) (s : CS) : CS := if ck = 0 then kn z u v so n s else s
set_option maxRecDepth 100000 in
set_option maxHeartbeats 1000000 in
theorem c_N_knowledge (n : Nat) (u v : Nat → Nat) (hk : KPr z n u v) (hn : n ≤ 64) (hz : z 0 1 = nI n) (hck : ck = 0 ∨ ck = 1) : XMet l 6 q_N_knowledge [.ref 20] (wA z s m sc e so ck) (some (.ref 13)) (wA z (knC z u v so ck n s) m sc e so 1) := by
  refine xm_intro (by decide +kernel) (Nat.le_of_ble_eq_true rfl) ?_
  refine xw_go xcls ok_N_knowledge 40 [] ?_
  refine And.intro (fun h => ?_) (fun h => ?_)
  · have h : ¬ ck = 0 := h
    have h1 : ck = 1 := hck.resolve_left h
    subst h1
    exact And.intro trivial ⟨rfl, by simp only [knC, if_neg h]⟩
  · have h : ck = 0 := h
    subst h
    refine ⟨5, _, _, by decide, c_K_check l z (rB z m sc e so 0) n u v hk hn hz so s, ?_⟩
    refine And.intro (Or.inr rfl) ?_
    exact And.intro trivial ⟨rfl, by simp only [knC, if_true]; rfl⟩
set_option maxRecDepth 100000 in
set_option maxHeartbeats 1000000 in
theorem c_N_alarms (n : Nat) (u v : Nat → Nat) (hk : KPr z n u v) (hn : n ≤ 64) (hz : z 0 1 = nI n) (hck : ck = 0 ∨ ck = 1) (hv : ¬ z 0 2 = 0) : XMet l 7 q_N_alarms [.ref 20] (wA z s m sc e so ck) (some (.int (nI (cAl (knC z u v so ck n s).2.1 65)))) (wA z (knC z u v so ck n s) m sc e so 1) := by
  refine xm_intro (by decide +kernel) (Nat.le_of_ble_eq_true rfl) ?_
  refine xw_go xcls ok_N_alarms 40 [] ?_
  refine And.intro (fun h => absurd h hv) (fun h => ?_)
  refine ⟨6, _, _, by decide, c_N_knowledge l z s m sc e so ck n u v hk hn hz hck, ?_⟩
  refine ⟨0, _, _, by decide, c_K_countAlarms l z (rB z m sc e so 1) (knC z u v so ck n s), ?_⟩
  exact And.intro trivial ⟨rfl, rfl⟩
set_option maxRecDepth 100000 in
theorem c_N_alarmsN (hv : z 0 2 = 0) : XMet l 7 q_N_alarms [.ref 20] (wA z s m sc e so ck) (some (.int (-1))) (wA z s m sc e so ck) := by
  refine xm_intro (by decide +kernel) (Nat.le_of_ble_eq_true rfl) ?_
  refine xw_go xcls ok_N_alarms 40 [] ?_
  refine And.intro (fun h => ?_) (fun h => absurd hv h)
  exact And.intro trivial ⟨rfl, rfl⟩
theorem le_nI {p : Int32} {n : Nat} (h0 : 0 ≤ p) (h1 : p ≤ nI n) (hn : n < 1000) : ∃ j, j ≤ n ∧ p = nI j := by
  obtain ⟨j, h2, rfl⟩ := nI_of (Int32.not_lt.mpr h0)
  rw [nI_leI (by omega) (by omega)] at h1
  exact ⟨j, h1, rfl⟩
set_option maxRecDepth 100000 in
set_option maxHeartbeats 1000000 in
theorem c_N_alarm {t : Nat → Int32} (n : Nat) (u v : Nat → Nat) (hp : PT z t n) (hk : KPr z n u v) (hck : ck = 0 ∨ ck = 1) (p : Int32) (hv : cntP z n p) : XMet l 7 q_N_alarm [.ref 20, .int p] (wA z s m sc e so ck) (some (.int ((knC z u v so ck n s).2.1 p.toNatClampNeg))) (wA z (knC z u v so ck n s) m sc e so 1) := by
  obtain ⟨j, hj, rfl⟩ := le_nI hv.2.1 hv.2.2.1 (by have := hp.2.1; omega)
  have hn := hp.2.1
  refine xm_intro (by decide +kernel) (Nat.le_of_ble_eq_true rfl) ?_
  refine xw_go xcls ok_N_alarm 40 [] ?_
  refine ⟨0, _, _, by decide, c_P_counts l z (rA z s m sc e so ck) (nI j) hp 1 (Or.inl ⟨hv, rfl⟩), ?_⟩
  refine And.intro (fun h => absurd h (by decide)) (fun h => ?_)
  refine ⟨6, _, _, by decide, c_N_knowledge l z s m sc e so ck n u v hk hn hp.1 hck, ?_⟩
  refine And.intro (in_nI (by omega) (by omega)) ?_
  exact And.intro trivial ⟨rfl, rfl⟩
set_option maxRecDepth 100000 in
theorem c_N_alarmN {t : Nat → Int32} (n : Nat) (hp : PT z t n) (p : Int32) (hv : ¬ cntP z n p) : XMet l 7 q_N_alarm [.ref 20, .int p] (wA z s m sc e so ck) (some (.int (-1))) (wA z s m sc e so ck) := by
  refine xm_intro (by decide +kernel) (Nat.le_of_ble_eq_true rfl) ?_
  refine xw_go xcls ok_N_alarm 40 [] ?_
  refine ⟨0, _, _, by decide, c_P_counts l z (rA z s m sc e so ck) p hp 0 (Or.inr ⟨hv, rfl⟩), ?_⟩
  refine And.intro (fun h => ?_) (fun h => absurd rfl h)
  exact And.intro trivial ⟨rfl, rfl⟩
theorem knC_1 {u v : Nat → Nat} {n : Nat} : knC z u v so 1 n s = s := by simp [knC]
set_option maxRecDepth 100000 in
set_option maxHeartbeats 1000000 in
theorem c_N_sure {t : Nat → Int32} (n : Nat) (u v : Nat → Nat) (hp : PT z t n) (hk : KPr z n u v) (hck : ck = 0 ∨ ck = 1) (p w : Int32) (hv : cntP z n p) (hw : isL w) : XMet l 7 q_N_sure [.ref 20, .int p, .int w] (wA z s m sc e so ck) (some (.int (if (knC z u v so ck n s).1 p.toNatClampNeg = -1 then 0 else if (knC z u v so ck n s).1 p.toNatClampNeg &&& sB w = 0 then 1 else 2))) (wA z (knC z u v so ck n s) m sc e so 1) := by
  obtain ⟨j, hj, rfl⟩ := le_nI hv.2.1 hv.2.2.1 (by have := hp.2.1; omega)
  have hn := hp.2.1
  rw [cl_nI (by omega)]
  refine xm_intro (by decide +kernel) (Nat.le_of_ble_eq_true rfl) ?_
  refine xw_go xcls ok_N_sure 40 [] ?_
  refine ⟨0, _, _, by decide, c_P_counts l z (rA z s m sc e so ck) (nI j) hp 1 (Or.inl ⟨hv, rfl⟩), ?_⟩
  refine And.intro (fun h => absurd h (by decide)) (fun h => ?_)
  refine ⟨0, _, _, by decide, c_N_isLocal l _ w 1 (Or.inl ⟨hw, rfl⟩), ?_⟩
  refine And.intro (fun h => ?_) (fun h => absurd h (by decide))
  refine ⟨6, _, _, by decide, c_N_knowledge l z s m sc e so ck n u v hk hn hp.1 hck, ?_⟩
  refine ⟨0, _, _, by decide, c_K_isReached l z (rB z m sc e so 1) (knC z u v so ck n s) j (by omega), ?_⟩
  by_cases q : (knC z u v so ck n s).1 j = -1
  · rw [show bI (¬ (knC z u v so ck n s).1 j = -1) = 0 by simp [bI, q], if_pos q]
    refine And.intro (fun h => absurd rfl h) (fun h => ?_)
    exact And.intro trivial ⟨rfl, rfl⟩
  · rw [show bI (¬ (knC z u v so ck n s).1 j = -1) = 1 by simp [bI, q], if_neg q]
    refine And.intro (fun h => ?_) (fun h => absurd h (by decide))
    refine ⟨6, _, _, by decide, c_N_knowledge l z (knC z u v so ck n s) m sc e so 1 n u v hk hn hp.1 (Or.inr rfl), ?_⟩
    rw [knC_1]
    refine ⟨1, _, _, by decide, c_K_isSureAt l z (rB z m sc e so 1) (knC z u v so ck n s) j (by omega) w, ?_⟩
    by_cases q2 : (knC z u v so ck n s).1 j &&& sB w = 0
    · rw [show bI (¬ (knC z u v so ck n s).1 j &&& sB w = 0) = 0 by simp [bI, q2], if_pos q2]
      refine And.intro (fun h => ?_) (fun h => absurd rfl h)
      exact And.intro trivial ⟨rfl, rfl⟩
    · rw [show bI (¬ (knC z u v so ck n s).1 j &&& sB w = 0) = 1 by simp [bI, q2], if_neg q2]
      refine And.intro (fun h => absurd h (by decide)) (fun h => ?_)
      exact And.intro trivial ⟨rfl, rfl⟩
set_option maxRecDepth 100000 in
set_option maxHeartbeats 1000000 in
theorem c_N_sureN {t : Nat → Int32} (n : Nat) (hp : PT z t n) (p w : Int32) (hv : ¬ (cntP z n p ∧ isL w)) : XMet l 7 q_N_sure [.ref 20, .int p, .int w] (wA z s m sc e so ck) (some (.int (-1))) (wA z s m sc e so ck) := by
  refine xm_intro (by decide +kernel) (Nat.le_of_ble_eq_true rfl) ?_
  refine xw_go xcls ok_N_sure 40 [] ?_
  by_cases q : cntP z n p
  · refine ⟨0, _, _, by decide, c_P_counts l z (rA z s m sc e so ck) p hp 1 (Or.inl ⟨q, rfl⟩), ?_⟩
    refine And.intro (fun h => absurd h (by decide)) (fun h => ?_)
    refine ⟨0, _, _, by decide, c_N_isLocal l _ w 0 (Or.inr ⟨fun c => hv ⟨q, c⟩, rfl⟩), ?_⟩
    refine And.intro (fun h => absurd rfl h) (fun h => ?_)
    exact And.intro trivial ⟨rfl, rfl⟩
  · refine ⟨0, _, _, by decide, c_P_counts l z (rA z s m sc e so ck) p hp 0 (Or.inr ⟨q, rfl⟩), ?_⟩
    refine And.intro (fun h => ?_) (fun h => absurd rfl h)
    exact And.intro trivial ⟨rfl, rfl⟩
set_option maxRecDepth 100000 in
set_option maxHeartbeats 1000000 in
theorem c_N_linked {t : Nat → Int32} (n : Nat) (u v : Nat → Nat) (hp : PT z t n) (hk : KPr z n u v) (hck : ck = 0 ∨ ck = 1) (p w : Int32) (hv : cntP z n p) (hw : isL w) : XMet l 7 q_N_linked [.ref 20, .int p, .int w] (wA z s m sc e so ck) (some (.int (if (knC z u v so ck n s).1 p.toNatClampNeg = -1 then 0 else if (knC z u v so ck n s).1 p.toNatClampNeg &&& lB w = 0 then 0 else 1))) (wA z (knC z u v so ck n s) m sc e so 1) := by
  obtain ⟨j, hj, rfl⟩ := le_nI hv.2.1 hv.2.2.1 (by have := hp.2.1; omega)
  have hn := hp.2.1
  rw [cl_nI (by omega)]
  refine xm_intro (by decide +kernel) (Nat.le_of_ble_eq_true rfl) ?_
  refine xw_go xcls ok_N_linked 40 [] ?_
  refine ⟨0, _, _, by decide, c_P_counts l z (rA z s m sc e so ck) (nI j) hp 1 (Or.inl ⟨hv, rfl⟩), ?_⟩
  refine And.intro (fun h => absurd h (by decide)) (fun h => ?_)
  refine ⟨0, _, _, by decide, c_N_isLocal l _ w 1 (Or.inl ⟨hw, rfl⟩), ?_⟩
  refine And.intro (fun h => absurd h (by decide)) (fun h => ?_)
  refine ⟨6, _, _, by decide, c_N_knowledge l z s m sc e so ck n u v hk hn hp.1 hck, ?_⟩
  refine ⟨0, _, _, by decide, c_K_isReached l z (rB z m sc e so 1) (knC z u v so ck n s) j (by omega), ?_⟩
  by_cases q : (knC z u v so ck n s).1 j = -1
  · rw [show bI (¬ (knC z u v so ck n s).1 j = -1) = 0 by simp [bI, q], if_pos q]
    refine And.intro (fun h => ?_) (fun h => absurd rfl h)
    exact And.intro (Or.inl rfl) ⟨rfl, rfl⟩
  · rw [show bI (¬ (knC z u v so ck n s).1 j = -1) = 1 by simp [bI, q], if_neg q]
    refine And.intro (fun h => absurd h (by decide)) (fun h => ?_)
    refine ⟨6, _, _, by decide, c_N_knowledge l z (knC z u v so ck n s) m sc e so 1 n u v hk hn hp.1 (Or.inr rfl), ?_⟩
    rw [knC_1]
    refine ⟨1, _, _, by decide, c_K_isLinkedAt l z (rB z m sc e so 1) (knC z u v so ck n s) j (by omega) w, ?_⟩
    by_cases q2 : (knC z u v so ck n s).1 j &&& lB w = 0
    · rw [show bI (¬ (knC z u v so ck n s).1 j &&& lB w = 0) = 0 by simp [bI, q2], if_pos q2]
      refine And.intro (fun h => ?_) (fun h => absurd rfl h)
      exact And.intro (Or.inl rfl) ⟨rfl, rfl⟩
    · rw [show bI (¬ (knC z u v so ck n s).1 j &&& lB w = 0) = 1 by simp [bI, q2], if_neg q2]
      refine And.intro (fun h => absurd h (by decide)) (fun h => ?_)
      exact And.intro (Or.inr rfl) ⟨rfl, rfl⟩
set_option maxRecDepth 100000 in
set_option maxHeartbeats 1000000 in
theorem c_N_linkedN {t : Nat → Int32} (n : Nat) (hp : PT z t n) (p w : Int32) (hv : ¬ (cntP z n p ∧ isL w)) : XMet l 7 q_N_linked [.ref 20, .int p, .int w] (wA z s m sc e so ck) (some (.int 0)) (wA z s m sc e so ck) := by
  refine xm_intro (by decide +kernel) (Nat.le_of_ble_eq_true rfl) ?_
  refine xw_go xcls ok_N_linked 40 [] ?_
  by_cases q : cntP z n p
  · refine ⟨0, _, _, by decide, c_P_counts l z (rA z s m sc e so ck) p hp 1 (Or.inl ⟨q, rfl⟩), ?_⟩
    refine And.intro (fun h => absurd h (by decide)) (fun h => ?_)
    refine ⟨0, _, _, by decide, c_N_isLocal l _ w 0 (Or.inr ⟨fun c => hv ⟨q, c⟩, rfl⟩), ?_⟩
    refine And.intro (fun h => ?_) (fun h => absurd rfl h)
    exact And.intro (Or.inl rfl) ⟨rfl, rfl⟩
  · refine ⟨0, _, _, by decide, c_P_counts l z (rA z s m sc e so ck) p hp 0 (Or.inr ⟨q, rfl⟩), ?_⟩
    refine And.intro (fun h => ?_) (fun h => absurd rfl h)
    exact And.intro (Or.inl rfl) ⟨rfl, rfl⟩
theorem mRun_c {z z' : Sg} {u v lo so : Nat → Nat} {solid : Int32} (h2 : z' 2 = z 2) (h4 : z' 4 = z 4) (h5 : z' 5 = z 5) : ∀ (f k p : Nat) (m : MSt), mRun z' u v lo so solid f k p m = mRun z u v lo so solid f k p m := by
  have hv : ∀ p m, mVis z' u v lo so solid p m = mVis z u v lo so solid p m := fun p m => by simp only [mVis, h2, h4, h5]
  intro f
  induction f with
  | zero => intro k p m; rfl
  | succ f ih => intro k p m; simp only [mRun, hv, ih]
set_option maxRecDepth 100000 in
set_option maxHeartbeats 1000000 in
theorem c_N_run (n : Nat) (u v lo sr : Nat → Nat) (hk : KPr z n u v) (hkn : KN z n u v) (hr : RPr z n lo sr) (hn : n ≤ 64) (hm : MI0 m) (start : Int32) (b : Int64) (hv : ¬ z 0 2 = 0) : XMet l 7 q_N_run [.ref 20, .int start, .long b] (wA z s m sc e so ck) (some (.int (mRun z u v lo sr so 200 0 0 (mPrep (so ||| start) b m)).1)) (wA z s (mRun z u v lo sr so 200 0 0 (mPrep (so ||| start) b m)).2.1 (nI (mRun z u v lo sr so 200 0 0 (mPrep (so ||| start) b m)).2.2.1) (mRun z u v lo sr so 200 0 0 (mPrep (so ||| start) b m)).2.2.2 so ck) := by
  rw [← mRun_c (z' := sCS z s) (z := z) rfl rfl rfl]
  refine xm_intro (by decide +kernel) (Nat.le_of_ble_eq_true rfl) ?_
  refine xw_go xcls ok_N_run 40 [] ?_
  refine And.intro (fun h => absurd h hv) (fun h => ?_)
  generalize hg : mRun (sCS z s) u v lo sr so 200 0 0 (mPrep (so ||| start) b m) = g
  have hx := c_H_execute l (sCS z s) (rC z so ck) n u v lo sr hk hkn hr hn so start b m hm sc e
  rw [hg] at hx
  refine ⟨6, _, _, by decide, hx, ?_⟩
  exact And.intro trivial ⟨rfl, rfl⟩
set_option maxRecDepth 100000 in
theorem c_N_runN (start : Int32) (b : Int64) (hv : z 0 2 = 0) : XMet l 7 q_N_run [.ref 20, .int start, .long b] (wA z s m sc e so ck) (some (.int (-1))) (wA z s m sc e so ck) := by
  refine xm_intro (by decide +kernel) (Nat.le_of_ble_eq_true rfl) ?_
  refine xw_go xcls ok_N_run 40 [] ?_
  refine And.intro (fun h => ?_) (fun h => absurd hv h)
  exact And.intro trivial ⟨rfl, rfl⟩
theorem isL_n {v : Int32} (h : isL v) : ∃ j, j < 5 ∧ v = nI j := by
  obtain ⟨j, h2, rfl⟩ := nI_of (Int32.not_lt.mpr h.1)
  have := h.2
  rw [show (5 : Int32) = nI 5 from rfl, nI_ltI (by omega) (by omega)] at this
  exact ⟨j, this, rfl⟩
set_option maxRecDepth 100000 in
theorem c_N_held (v : Int32) (hv : isL v) : XMet l 7 q_N_held [.ref 20, .int v] (wA z s m sc e so ck) (some (.int (oI (m.1 v.toNatClampNeg)))) (wA z s m sc e so ck) := by
  obtain ⟨j, hj, rfl⟩ := isL_n hv
  refine xm_intro (by decide +kernel) (Nat.le_of_ble_eq_true rfl) ?_
  refine xw_go xcls ok_N_held 40 [] ?_
  refine ⟨0, _, _, by decide, c_N_isLocal l _ (nI j) 1 (Or.inl ⟨hv, rfl⟩), ?_⟩
  refine And.intro (fun h => absurd h (by decide)) (fun h => ?_)
  refine And.intro (in_nI (by omega) (by omega)) ?_
  exact And.intro trivial ⟨rfl, rfl⟩
set_option maxRecDepth 100000 in
theorem c_N_heldN (v : Int32) (hv : ¬ isL v) : XMet l 7 q_N_held [.ref 20, .int v] (wA z s m sc e so ck) (some (.int (-1))) (wA z s m sc e so ck) := by
  refine xm_intro (by decide +kernel) (Nat.le_of_ble_eq_true rfl) ?_
  refine xw_go xcls ok_N_held 40 [] ?_
  refine ⟨0, _, _, by decide, c_N_isLocal l _ v 0 (Or.inr ⟨hv, rfl⟩), ?_⟩
  refine And.intro (fun h => ?_) (fun h => absurd rfl h)
  exact And.intro trivial ⟨rfl, rfl⟩
def isO (m : MSt) (o : Int32) : Prop := 0 ≤ o ∧ o < nI m.2.2.2.1
theorem isO_n {m : MSt} {o : Int32} (hm : m.2.2.2.1 ≤ 8) (h : isO m o) : ∃ j, j < m.2.2.2.1 ∧ o = nI j := by
  obtain ⟨j, h2, rfl⟩ := nI_of (Int32.not_lt.mpr h.1)
  have := h.2
  rw [nI_ltI (by omega) (by omega)] at this
  exact ⟨j, this, rfl⟩
set_option maxRecDepth 100000 in
set_option maxHeartbeats 1000000 in
theorem c_N_field (hm : m.2.2.2.1 ≤ 8) (o f : Int32) (ho : isO m o) : XMet l 7 q_N_field [.ref 20, .int o, .int f] (wA z s m sc e so ck) (some (.int (if f = 0 then nI (m.2.1 o.toNatClampNeg) else if f = 1 then oI (m.2.2.1 o.toNatClampNeg) else -1))) (wA z s m sc e so ck) := by
  obtain ⟨j, hj, rfl⟩ := isO_n hm ho
  refine xm_intro (by decide +kernel) (Nat.le_of_ble_eq_true rfl) ?_
  refine xw_go xcls ok_N_field 40 [] ?_
  refine And.intro (fun h => absurd h (nI_n0 (by omega))) (fun h => ?_)
  refine And.intro (fun h2 => ?_) (fun h2 => absurd ho.2 h2)
  refine And.intro (fun h3 => ?_) (fun h3 => ?_)
  · refine And.intro (fun h4 => ?_) (fun h4 => ?_)
    · exact And.intro trivial ⟨by rw [if_neg h3, if_neg h4], rfl⟩
    · refine And.intro (in_nI (by omega) (by omega)) ?_
      exact And.intro trivial ⟨by rw [if_neg h3, if_pos h4]; rfl, rfl⟩
  · refine And.intro (in_nI (by omega) (by omega)) ?_
    exact And.intro trivial ⟨by rw [if_pos h3]; rfl, rfl⟩
set_option maxRecDepth 100000 in
set_option maxHeartbeats 1000000 in
theorem c_N_fieldN (o f : Int32) (ho : ¬ isO m o) : XMet l 7 q_N_field [.ref 20, .int o, .int f] (wA z s m sc e so ck) (some (.int (-1))) (wA z s m sc e so ck) := by
  refine xm_intro (by decide +kernel) (Nat.le_of_ble_eq_true rfl) ?_
  refine xw_go xcls ok_N_field 40 [] ?_
  refine And.intro (fun h => ?_) (fun h => ?_)
  · exact And.intro trivial ⟨rfl, rfl⟩
  · refine And.intro (fun h2 => absurd ⟨Int32.not_lt.mp h, h2⟩ ho) (fun h2 => ?_)
    exact And.intro trivial ⟨rfl, rfl⟩
set_option maxRecDepth 100000 in
theorem c_N_objects : XMet l 7 q_N_objects [.ref 20] (wA z s m sc e so ck) (some (.int (nI m.2.2.2.1))) (wA z s m sc e so ck) := by
  refine xm_intro (by decide +kernel) (Nat.le_of_ble_eq_true rfl) ?_
  refine xw_go xcls ok_N_objects 40 [] ?_
  exact And.intro trivial ⟨rfl, rfl⟩
set_option maxRecDepth 100000 in
theorem c_N_steps : XMet l 7 q_N_steps [.ref 20] (wA z s m sc e so ck) (some (.int sc)) (wA z s m sc e so ck) := by
  refine xm_intro (by decide +kernel) (Nat.le_of_ble_eq_true rfl) ?_
  refine xw_go xcls ok_N_steps 40 [] ?_
  exact And.intro trivial ⟨rfl, rfl⟩
end
end
section
/-! The reference. Its cells: 0 the object, 1 text, 2 solid, 3 role, 4 owner, 5 body, 6 other, 7 behind, 8 blocks, 9 reached, 10 sures, 11 links, 12 alarmed, 13 names, 14 g, 15 h -/
def vM (y : Sg) (b : Int64) : List va_E :=
  .inr (4, [.ref 1, .int (y 0 1), .ref 2, .ref 3, .ref 4, .ref 5, .ref 6, .ref 7, .int (y 0 8), .int (y 0 9), .ref 8, .ref 9, .ref 10, .ref 11, .ref 12, .int (y 0 15), .int (y 0 16), .int (y 0 17), .int (y 0 18), .int (y 0 19), .ref 13, .int (y 0 21), .ref 14, .ref 15, .int (y 0 24), .long b, .int (y 0 26)])
  :: .inl (0, 64, .inl (y 1)) :: .inl (2, 5, .inl (y 2)) :: .inl (0, 65, .inl (y 3)) :: .inl (0, 65, .inl (y 4)) :: .inl (0, 65, .inl (y 5)) :: .inl (0, 65, .inl (y 6)) :: .inl (0, 65, .inl (y 7)) :: .inl (0, 6, .inl (y 8))
  :: .inl (2, 65, .inl (y 9)) :: .inl (0, 65, .inl (y 10)) :: .inl (0, 65, .inl (y 11)) :: .inl (0, 65, .inl (y 12)) :: .inl (0, 5, .inl (y 13)) :: .inl (0, 8, .inl (y 14)) :: .inl (0, 8, .inl (y 15)) :: []
/-- the text of the reference -/
def MT (y : Sg) (t : Nat → Int32) (n : Nat) : Prop := y 0 1 = nI n ∧ n ≤ 64 ∧ y 1 = t
abbrev lcP (x : Int32) : Prop := 97 ≤ x ∧ x ≤ 101
abbrev fdP (c : Nat → Int32) (i : Nat) : Prop := c i = 46 ∧ (c (i + 1) = 103 ∨ c (i + 1) = 104)
section
variable (l : Launch) (y : Sg) (b : Int64) {t : Nat → Int32} {n : Nat}
set_option maxRecDepth 100000 in
set_option maxHeartbeats 1000000 in
theorem c_M_at (i : Nat) (hp : MT y t n) (hi : i < 1000) {x : Int32} (hx : x = nI i := by rfl) : XMet l 0 q_M_at [.ref 0, .int x] (vM y b) (some (.int (chr t n i))) (vM y b) := by
  obtain ⟨hz, hn, rfl⟩ := hp
  subst hx
  refine xm_intro (by decide +kernel) (Nat.le_of_ble_eq_true rfl) ?_
  refine xw_go xcls ok_M_at 40 [] ?_
  refine And.intro (fun h => ?_) (fun h => ?_)
  · have h : y 0 1 ≤ nI i := h
    rw [hz, nI_le' (by omega) (by omega)] at h
    exact And.intro trivial ⟨by simp [chr, Nat.not_lt.mpr h], rfl⟩
  · have h : ¬ y 0 1 ≤ nI i := h
    rw [hz, nI_le' (by omega) (by omega)] at h
    refine And.intro (in_nI (by omega) (by omega)) ?_
    rw [cl_nI (by omega)]
    exact And.intro trivial ⟨by simp [chr, Nat.not_le.mp h], rfl⟩
set_option maxRecDepth 100000 in
set_option maxHeartbeats 1000000 in
theorem c_M_isLocal (i : Nat) (hp : MT y t n) (hi : i < 1000) {x : Int32} (hx : x = nI i := by rfl) : XMet l 1 q_M_isLocal [.ref 0, .int x] (vM y b) (some (.int (bI (lcP (chr t n i))))) (vM y b) := by
  refine xm_intro (by decide +kernel) (Nat.le_of_ble_eq_true rfl) ?_
  refine xw_go xcls ok_M_isLocal 40 [] ?_
  refine ⟨0, _, _, by decide, c_M_at l y b i hp hi hx, ?_⟩
  refine And.intro (fun h => ?_) (fun h => ?_)
  · exact And.intro (Or.inl rfl) ⟨by rw [bI, if_neg (fun c => Int32.not_le.mpr h c.1)], rfl⟩
  · refine ⟨0, _, _, by decide, c_M_at l y b i hp hi hx, ?_⟩
    refine And.intro (fun h2 => ?_) (fun h2 => ?_)
    · exact And.intro (Or.inl rfl) ⟨by rw [bI, if_neg (fun c => Int32.not_le.mpr h2 c.2)], rfl⟩
    · exact And.intro (Or.inr rfl) ⟨by rw [bI, if_pos ⟨Int32.not_lt.mp h, Int32.not_lt.mp h2⟩], rfl⟩
set_option maxRecDepth 100000 in
set_option maxHeartbeats 1000000 in
theorem c_M_isField (i : Nat) (hp : MT y t n) (hi : i < 900) {x : Int32} (hx : x = nI i := by rfl) : XMet l 1 q_M_isField [.ref 0, .int x] (vM y b) (some (.int (bI (fdP (chr t n) i)))) (vM y b) := by
  subst hx
  refine xm_intro (by decide +kernel) (Nat.le_of_ble_eq_true rfl) ?_
  refine xw_go xcls ok_M_isField 40 [] ?_
  refine ⟨0, _, _, by decide, c_M_at l y b i hp (by omega), ?_⟩
  refine And.intro (fun h => ?_) (fun h => ?_)
  · exact And.intro (Or.inl rfl) ⟨by rw [bI, if_neg (fun c => h c.1)], rfl⟩
  · refine ⟨0, _, _, by decide, c_M_at l y b (i + 1) hp (by omega) (nI_p1 i), ?_⟩
    refine And.intro (fun h2 => ?_) (fun h2 => ?_)
    · exact And.intro (Or.inr rfl) ⟨by rw [bI, if_pos ⟨h, Or.inl h2⟩], rfl⟩
    · refine ⟨0, _, _, by decide, c_M_at l y b (i + 1) hp (by omega) (nI_p1 i), ?_⟩
      refine And.intro (fun h3 => ?_) (fun h3 => ?_)
      · exact And.intro (Or.inl rfl) ⟨by rw [bI, if_neg (fun c => c.2.elim h2 h3)], rfl⟩
      · exact And.intro (Or.inr rfl) ⟨by rw [bI, if_pos ⟨h, Or.inr h3⟩], rfl⟩
/-- behind a name, with or without a field -/
def mE (c : Nat → Int32) (k : Nat) : Option Nat := if lcP (c k) then some (if fdP c (k + 1) then k + 3 else k + 1) else none
def mVal (c : Nat → Int32) (i : Nat) : Option Nat := if c i = 110 ∨ c i = 78 ∨ c i = 64 then some (i + 1) else mE c i
def mAtm (c : Nat → Int32) (i : Nat) : Option Nat := if c i = 37 then some (i + 1) else mE c (aNm c i)
theorem mE_le {c : Nat → Int32} {k j : Nat} (h : mE c k = some j) : k < j ∧ j ≤ k + 3 := by
  unfold mE at h; split at h
  · have h := Option.some.inj h
    split at h <;> omega
  · cases h
theorem mAtm_le {c : Nat → Int32} {i j : Nat} (h : mAtm c i = some j) : i < j ∧ j ≤ i + 4 := by
  have h3 : i ≤ aNm c i ∧ aNm c i ≤ i + 1 := by unfold aNm; split <;> omega
  unfold mAtm at h; split at h
  · have h := Option.some.inj h; omega
  · have := mE_le h; omega
theorem mVal_le {c : Nat → Int32} {i j : Nat} (h : mVal c i = some j) : i < j ∧ j ≤ i + 3 := by
  unfold mVal at h; split at h
  · have h := Option.some.inj h; omega
  · exact mE_le h
set_option maxRecDepth 100000 in
set_option maxHeartbeats 1000000 in
theorem c_M_value (i : Nat) (hp : MT y t n) (hi : i < 800) {x : Int32} (hx : x = nI i := by rfl) : XMet l 2 q_M_value [.ref 0, .int x] (vM y b) (some (.int (oI (mVal (chr t n) i)))) (vM y b) := by
  subst hx
  refine xm_intro (by decide +kernel) (Nat.le_of_ble_eq_true rfl) ?_
  have j30 : (chr t n i = 110 ∨ chr t n i = 78 ∨ chr t n i = 64) → XW l 2 q_M_value (fun u w => u = some (.int (oI (mVal (chr t n) i))) ∧ w = vM y b) 30 [(1, .int (nI i))] [] (vM y b) := by
    intro h
    refine xw_go xcls ok_M_value 40 [] ?_
    exact And.intro trivial ⟨by rw [mVal, if_pos h, nI_p1]; rfl, rfl⟩
  refine xw_go xcls ok_M_value 40 [(30, [1])] ?_
  refine ⟨0, _, _, by decide, c_M_at l y b i hp (by omega), ?_⟩
  refine And.intro (fun h => j30 (Or.inl h)) (fun h => ?_)
  refine ⟨0, _, _, by decide, c_M_at l y b i hp (by omega), ?_⟩
  refine And.intro (fun h2 => j30 (Or.inr (Or.inl h2))) (fun h2 => ?_)
  refine ⟨0, _, _, by decide, c_M_at l y b i hp (by omega), ?_⟩
  refine And.intro (fun h3 => ?_) (fun h3 => j30 (Or.inr (Or.inr h3)))
  have e0 : mVal (chr t n) i = mE (chr t n) i := by rw [mVal, if_neg (fun c => c.elim h (fun c => c.elim h2 h3))]
  rw [e0]
  refine ⟨1, _, _, by decide, c_M_isLocal l y b i hp (by omega), ?_⟩
  by_cases q : lcP (chr t n i)
  · rw [show bI (lcP (chr t n i)) = 1 by rw [bI, if_pos q]]
    refine And.intro (fun _ => ?_) (fun c => absurd c (by decide))
    refine ⟨1, _, _, by decide, c_M_isField l y b (i + 1) hp (by omega) (nI_p1 i), ?_⟩
    by_cases q2 : fdP (chr t n) (i + 1)
    · rw [show bI (fdP (chr t n) (i + 1)) = 1 by rw [bI, if_pos q2]]
      refine And.intro (fun c => absurd c (by decide)) (fun _ => ?_)
      exact And.intro trivial ⟨by rw [mE, if_pos q, if_pos q2, nI_p3]; rfl, rfl⟩
    · rw [show bI (fdP (chr t n) (i + 1)) = 0 by rw [bI, if_neg q2]]
      refine And.intro (fun _ => ?_) (fun c => absurd rfl c)
      exact And.intro trivial ⟨by rw [mE, if_pos q, if_neg q2, nI_p1]; rfl, rfl⟩
  · rw [show bI (lcP (chr t n i)) = 0 by rw [bI, if_neg q]]
    refine And.intro (fun c => absurd rfl c) (fun _ => ?_)
    exact And.intro trivial ⟨by rw [mE, if_neg q]; rfl, rfl⟩
set_option maxRecDepth 100000 in
set_option maxHeartbeats 1000000 in
theorem c_M_atom (i : Nat) (hp : MT y t n) (hi : i < 800) {x : Int32} (hx : x = nI i := by rfl) : XMet l 2 q_M_atom [.ref 0, .int x] (vM y b) (some (.int (oI (mAtm (chr t n) i)))) (vM y b) := by
  subst hx
  refine xm_intro (by decide +kernel) (Nat.le_of_ble_eq_true rfl) ?_
  have hnm : i ≤ aNm (chr t n) i ∧ aNm (chr t n) i ≤ i + 1 := by unfold aNm; split <;> omega
  have j17 : ∀ (k : Nat) (x : Int32), x = nI k → k = aNm (chr t n) i → XW l 2 q_M_atom (fun u w => u = some (.int (oI (mAtm (chr t n) i))) ∧ w = vM y b) 17 [(0, .ref 0), (1, .int (nI i))] [.int x] (vM y b) := by
    intro k x hx hk
    subst hx
    refine xw_go xcls ok_M_atom 40 [] ?_
    refine ⟨0, _, _, by decide, c_M_at l y b i hp (by omega), ?_⟩
    refine And.intro (fun h => ?_) (fun h => ?_)
    · have e0 : mAtm (chr t n) i = mE (chr t n) k := by rw [mAtm, if_neg h, hk]
      rw [e0]
      refine ⟨1, _, _, by decide, c_M_isLocal l y b k hp (by omega), ?_⟩
      by_cases q : lcP (chr t n k)
      · rw [show bI (lcP (chr t n k)) = 1 by rw [bI, if_pos q]]
        refine And.intro (fun _ => ?_) (fun c => absurd c (by decide))
        refine ⟨1, _, _, by decide, c_M_isField l y b (k + 1) hp (by omega) (nI_p1 k), ?_⟩
        by_cases q2 : fdP (chr t n) (k + 1)
        · rw [show bI (fdP (chr t n) (k + 1)) = 1 by rw [bI, if_pos q2]]
          refine And.intro (fun c => absurd c (by decide)) (fun _ => ?_)
          exact And.intro trivial ⟨by rw [mE, if_pos q, if_pos q2, nI_p3]; rfl, rfl⟩
        · rw [show bI (fdP (chr t n) (k + 1)) = 0 by rw [bI, if_neg q2]]
          refine And.intro (fun _ => ?_) (fun c => absurd rfl c)
          exact And.intro trivial ⟨by rw [mE, if_pos q, if_neg q2, nI_p1]; rfl, rfl⟩
      · rw [show bI (lcP (chr t n k)) = 0 by rw [bI, if_neg q]]
        refine And.intro (fun c => absurd rfl c) (fun _ => ?_)
        exact And.intro trivial ⟨by rw [mE, if_neg q]; rfl, rfl⟩
    · exact And.intro trivial ⟨by rw [mAtm, if_pos h, nI_p1]; rfl, rfl⟩
  refine xw_go xcls ok_M_atom 40 [(17, [0, 1])] ?_
  refine ⟨0, _, _, by decide, c_M_at l y b i hp (by omega), ?_⟩
  refine And.intro (fun h => ?_) (fun h => ?_)
  · exact j17 i _ rfl (by rw [aNm, if_neg h])
  · exact j17 (i + 1) _ (nI_p1 i) (by rw [aNm, if_pos h])
end
/-- a condition, read from its first atom on -/
def mCd (c : Nat → Int32) (p : Nat) : Nat → Sg → Nat → Option Nat × Sg
  | 0, y, _ => (none, y)
  | k + 1, y, i => match mAtm c i with
    | none => (none, y)
    | some j => if c j = 38 ∨ c j = 124 then mCd c p k (us (us y 3 i 7) 4 i (nI p)) (j + 1) else (if c j = 123 then some (j + 1) else none, us (us y 3 i 7) 4 i (nI p))
section
variable (l : Launch) (b : Int64) {t : Nat → Int32} {n : Nat}
set_option maxRecDepth 100000 in
set_option maxHeartbeats 1000000 in
theorem lp_M_condition (p : Nat) : ∀ (m : Nat) (y : Sg) (i : Nat), MT y t n → m ≤ 64 → i < 65 →
    XW l 3 q_M_condition (fun u w => u = some (.int (oI (mCd (chr t n) p m y i).1)) ∧ w = vM (mCd (chr t n) p m y i).2 b) 6 [(0, .ref 0), (1, .int (nI p)), (2, .int (nI i)), (3, .int (nI (64 - m)))] [] (vM y b)
  | 0, y, i, hp, hm, hi => by
    refine xw_go xcls ok_M_condition 60 [] ?_
    refine And.intro (fun h => ?_) (fun h => absurd (by decide) h)
    exact And.intro trivial ⟨rfl, rfl⟩
  | m + 1, y, i, hp, hm, hi => by
    have hn := hp.2.1
    have hp2 : MT (us (us y 3 i 7) 4 i (nI p)) t n := hp
    refine xw_go xcls ok_M_condition 60 [(6, [0, 1, 2, 3]), (83, [0, 1, 3, 4])] ?_
    refine And.intro (fun h => absurd h (by rw [show (64 : Int32) = nI 64 from rfl, nI_le' (by omega) (by omega)]; omega)) (fun h => ?_)
    refine ⟨2, _, _, by decide, c_M_atom l y b i hp (by omega), ?_⟩
    cases hj : mAtm (chr t n) i with
    | none =>
      refine And.intro (fun c => absurd c (by decide)) (fun _ => ?_)
      exact And.intro trivial ⟨by simp [mCd, hj, oI], by simp [mCd, hj]⟩
    | some j =>
      have hjl := mAtm_le hj
      refine And.intro (fun _ => ?_) (fun c => absurd (nI_g0 (by omega)) c)
      refine And.intro (in_nI (by omega) (by omega)) ?_
      rw [cl_nI (by omega)]
      refine And.intro (in_nI (by omega) (by omega)) ?_
      rw [cl_nI (by omega)]
      have j83 : chr t n j = 38 ∨ chr t n j = 124 → XW l 3 q_M_condition (fun u w => u = some (.int (oI (mCd (chr t n) p (m + 1) y i).1)) ∧ w = vM (mCd (chr t n) p (m + 1) y i).2 b) 83 [(0, .ref 0), (1, .int (nI p)), (3, .int (nI (64 - (m + 1)))), (4, .int (nI j))] [] (vM (us (us y 3 i 7) 4 i (nI p)) b) := by
        intro hc
        have hjn : j < n := by rcases hc with hc | hc <;> exact chr_lt hc (by decide)
        have e0 : mCd (chr t n) p (m + 1) y i = mCd (chr t n) p m (us (us y 3 i 7) 4 i (nI p)) (j + 1) := by simp only [mCd, hj]; rw [if_pos hc]
        rw [e0]
        refine xw_go xcls ok_M_condition 60 [(6, [0, 1, 2, 3])] ?_
        have ih := lp_M_condition p m (us (us y 3 i 7) 4 i (nI p)) (j + 1) hp2 (by omega) (by omega)
        rw [show nI (64 - m) = nI (64 - (m + 1)) + 1 by rw [nI_p1]; congr 1; omega, ← nI_p1 j] at ih
        exact ih
      refine ⟨0, _, _, by decide, c_M_at l (us (us y 3 i 7) 4 i (nI p)) b j hp2 (by omega), ?_⟩
      refine And.intro (fun h2 => j83 (Or.inl h2)) (fun h2 => ?_)
      refine ⟨0, _, _, by decide, c_M_at l (us (us y 3 i 7) 4 i (nI p)) b j hp2 (by omega), ?_⟩
      refine And.intro (fun h3 => j83 (Or.inr h3)) (fun h3 => ?_)
      refine ⟨0, _, _, by decide, c_M_at l (us (us y 3 i 7) 4 i (nI p)) b j hp2 (by omega), ?_⟩
      have e0 : mCd (chr t n) p (m + 1) y i = (if chr t n j = 123 then some (j + 1) else none, us (us y 3 i 7) 4 i (nI p)) := by simp only [mCd, hj]; rw [if_neg (fun c => c.elim h2 h3)]
      rw [e0]
      refine And.intro (fun h4 => ?_) (fun h4 => ?_)
      · exact And.intro trivial ⟨by rw [if_neg h4]; rfl, rfl⟩
      · exact And.intro trivial ⟨by rw [if_pos h4]; exact congrArg (fun x => some (Value.int x)) (nI_p1 j), rfl⟩
set_option maxRecDepth 100000 in
set_option maxHeartbeats 1000000 in
theorem c_M_condition (y : Sg) (p : Nat) (hp : MT y t n) (hi : p < 64) : XMet l 3 q_M_condition [.ref 0, .int (nI p)] (vM y b) (some (.int (oI (mCd (chr t n) p 64 y (p + 1)).1))) (vM (mCd (chr t n) p 64 y (p + 1)).2 b) := by
  refine xm_intro (by decide +kernel) (Nat.le_of_ble_eq_true rfl) ?_
  refine xw_go xcls ok_M_condition 60 [(6, [0, 1, 2, 3])] ?_
  have ih := lp_M_condition l b p 64 y (p + 1) hp (by omega) (by omega)
  rw [← nI_p1 p] at ih
  exact ih
end
end
section
/-! The reference: blocks, parts of the text -/
def RBk (y : Sg) : List Nat → Prop
  | [] => True
  | h :: r => y 8 r.length = nI h ∧ h < 65 ∧ RBk y r
def MStk (y : Sg) (k : List Nat) : Prop := y 0 9 = nI k.length ∧ k.length ≤ 6 ∧ RBk y k
theorem RBk_c {y y' : Sg} : ∀ (k : List Nat), (∀ j, j < k.length → y' 8 j = y 8 j) → RBk y k → RBk y' k
  | [], _, _ => trivial
  | h :: r, hh, hR => ⟨(hh r.length (by simp)).trans hR.1, hR.2.1, RBk_c r (fun j hj => hh j (by simp; omega)) hR.2.2⟩
theorem MT_c {z z' : Sg} {t : Nat → Int32} {n : Nat} (h : MT z t n) (h0 : z' 0 1 = z 0 1) (h1 : z' 1 = z 1) : MT z' t n := ⟨h0.trans h.1, h.2.1, h1.trans h.2.2⟩
section
variable (l : Launch) (y : Sg) (b : Int64) {t : Nat → Int32} {n : Nat}
set_option maxRecDepth 100000 in
set_option maxHeartbeats 1000000 in
theorem c_M_open (d p : Nat) (hd : y 0 9 = nI d) (hd6 : d < 6) : XMet l 0 q_M_open [.ref 0, .int (nI p)] (vM y b) (some (.int 1)) (vM (us (us y 8 d (nI p)) 0 9 (nI (d + 1))) b) := by
  refine xm_intro (by decide +kernel) (Nat.le_of_ble_eq_true rfl) ?_
  refine xw_go xcls ok_M_open 40 [] ?_
  refine And.intro (fun h => ?_) (fun h => ?_)
  · refine And.intro (by show vp_in (y 0 9) 6; rw [hd]; exact in_nI (by omega) (by omega)) ?_
    rw [hd, cl_nI (by omega)]
    refine And.intro trivial ?_
    rw [hd, nI_p1]
    exact And.intro (Or.inr rfl) ⟨rfl, rfl⟩
  · have h : y 0 9 = 6 := h
    rw [hd, show (6 : Int32) = nI 6 from rfl, nI_eq' (by omega) (by omega)] at h
    omega
set_option maxRecDepth 100000 in
set_option maxHeartbeats 1000000 in
theorem c_M_openN (p : Nat) (hd : y 0 9 = nI 6) : XMet l 0 q_M_open [.ref 0, .int (nI p)] (vM y b) (some (.int 0)) (vM y b) := by
  refine xm_intro (by decide +kernel) (Nat.le_of_ble_eq_true rfl) ?_
  refine xw_go xcls ok_M_open 40 [] ?_
  refine And.intro (fun h => absurd hd h) (fun h => ?_)
  exact And.intro (Or.inl rfl) ⟨rfl, rfl⟩
/-- a '}' begun: depth, owner, behind -/
def mCl1 (y : Sg) (i h d : Nat) : Sg := us (us (us y 0 9 (nI d)) 4 i (nI h)) 7 h (nI (i + 1))
def mClose (c : Nat → Int32) (y : Sg) (i : Nat) : List Nat → Option Nat × Sg × List Nat
  | [] => (none, y, [])
  | h :: r => if y 3 h = 3 ∧ y 6 h = 0 ∧ c (i + 1) = 123 then (some (i + 2), us (us (us (mCl1 y i h r.length) 6 h (nI (i + 2))) 8 r.length (nI h)) 0 9 (nI (r.length + 1)), h :: r) else (some (i + 1), mCl1 y i h r.length, r)
set_option maxRecDepth 100000 in
set_option maxHeartbeats 1000000 in
theorem c_M_close (i : Nat) (k : List Nat) (hp : MT y t n) (hi : i < 64) (hs : MStk y k) : XMet l 1 q_M_close [.ref 0, .int (nI i)] (vM y b) (some (.int (oI (mClose (chr t n) y i k).1))) (vM (mClose (chr t n) y i k).2.1 b) := by
  refine xm_intro (by decide +kernel) (Nat.le_of_ble_eq_true rfl) ?_
  obtain ⟨hd, hd6, hR⟩ := hs
  cases k with
  | nil =>
    refine xw_go xcls ok_M_close 60 [] ?_
    refine And.intro (fun h1 => absurd hd h1) (fun h1 => ?_)
    exact And.intro trivial ⟨rfl, rfl⟩
  | cons h k =>
    obtain ⟨h8, h65, hR⟩ := hR
    have hd : y 0 9 = nI (k.length + 1) := hd
    have hk : k.length < 6 := by have : k.length + 1 ≤ 6 := hd6; omega
    have j101 : ¬ (y 3 h = 3 ∧ y 6 h = 0 ∧ chr t n (i + 1) = 123) → XW l 1 q_M_close (fun u w => u = some (.int (oI (mClose (chr t n) y i (h :: k)).1)) ∧ w = vM (mClose (chr t n) y i (h :: k)).2.1 b) 101 [(1, .int (nI i))] [] (vM (mCl1 y i h k.length) b) := by
      intro hc
      rw [show mClose (chr t n) y i (h :: k) = (some (i + 1), mCl1 y i h k.length, k) by simp only [mClose]; rw [if_neg hc]]
      refine xw_go xcls ok_M_close 60 [] ?_
      exact And.intro trivial ⟨by rw [nI_p1]; rfl, rfl⟩
    refine xw_go xcls ok_M_close 60 [(101, [1])] ?_
    refine And.intro (fun h1 => ?_) (fun h1 => absurd (hd.symm.trans h1) (by rw [show (0 : Int32) = nI 0 from rfl, nI_eq' (by omega) (by omega)]; omega))
    refine And.intro trivial ?_
    rw [hd, nI_p]
    refine And.intro (in_nI (by omega) (by omega)) ?_
    rw [cl_nI (by omega), h8]
    refine And.intro (in_nI (by omega) (by omega)) ?_
    rw [cl_nI (by omega)]
    refine And.intro (in_nI (by omega) (by omega)) ?_
    rw [cl_nI (by omega), nI_p1]
    refine And.intro (in_nI (by omega) (by omega)) ?_
    rw [cl_nI (by omega)]
    refine And.intro (fun h2 => j101 (fun c => h2 c.1)) (fun h2 => ?_)
    refine And.intro (in_nI (by omega) (by omega)) ?_
    rw [cl_nI (by omega)]
    refine And.intro (fun h3 => j101 (fun c => h3 c.2.1)) (fun h3 => ?_)
    refine ⟨0, _, _, by decide, c_M_at l (mCl1 y i h k.length) b (i + 1) hp (by omega) (nI_p1 i), ?_⟩
    refine And.intro (fun h4 => j101 (fun c => h4 c.2.2)) (fun h4 => ?_)
    rw [show mClose (chr t n) y i (h :: k) = (some (i + 2), us (us (us (mCl1 y i h k.length) 6 h (nI (i + 2))) 8 k.length (nI h)) 0 9 (nI (k.length + 1)), h :: k) by simp only [mClose]; rw [if_pos ⟨h2, h3, h4⟩]]
    refine And.intro (in_nI (by omega) (by omega)) ?_
    rw [cl_nI (by omega), nI_p2]
    refine ⟨0, _, _, by decide, c_M_open l (us (mCl1 y i h k.length) 6 h (nI (i + 2))) b k.length h rfl hk, ?_⟩
    refine And.intro (fun c => absurd c (by decide)) (fun _ => ?_)
    exact And.intro trivial ⟨by rw [nI_p2]; rfl, rfl⟩
theorem mCd_n {c : Nat → Int32} {p a : Nat} (h3 : a ≠ 3) (h4 : a ≠ 4) : ∀ (k : Nat) (y : Sg) (i : Nat), (mCd c p k y i).2 a = y a
  | 0, y, i => rfl
  | k + 1, y, i => by
    unfold mCd; split
    · rfl
    · split
      · rw [mCd_n h3 h4 k]; simp [us, h3, h4]
      · simp [us, h3, h4]
theorem mCd_b {t : Nat → Int32} {n p : Nat} (hn : n ≤ 64) : ∀ (k : Nat) (y : Sg) (i j : Nat), (mCd (chr t n) p k y i).1 = some j → i < j ∧ j < 66
  | 0, y, i, j, h => by cases h
  | k + 1, y, i, j, h => by
    unfold mCd at h
    cases hq : mAtm (chr t n) i with
    | none => rw [hq] at h; cases h
    | some q =>
      rw [hq] at h
      have hl := mAtm_le hq
      simp only at h
      split at h
      · have := mCd_b hn k _ _ j h; omega
      · split at h
        · rename_i h2
          have h := Option.some.inj h
          have := chr_lt h2 (by decide)
          omega
        · cases h
/-- what stands at i, read -/
def mIf (c : Nat → Int32) (y : Sg) (i : Nat) (k : List Nat) : Option Nat × Sg × List Nat :=
  match (mCd c i 64 (us (us (us y 0 8 (y 0 8 + 1)) 3 i (if c i = 63 then 3 else 4)) 6 i 0) (i + 1)).1 with
  | none => (none, us (mCd c i 64 (us (us (us y 0 8 (y 0 8 + 1)) 3 i (if c i = 63 then 3 else 4)) 6 i 0) (i + 1)).2 5 i (-1), k)
  | some j => if k.length = 6 then (none, us (mCd c i 64 (us (us (us y 0 8 (y 0 8 + 1)) 3 i (if c i = 63 then 3 else 4)) 6 i 0) (i + 1)).2 5 i (nI j), k)
    else (some j, us (us (us (mCd c i 64 (us (us (us y 0 8 (y 0 8 + 1)) 3 i (if c i = 63 then 3 else 4)) 6 i 0) (i + 1)).2 5 i (nI j)) 8 k.length (nI i)) 0 9 (nI (k.length + 1)), i :: k)
def mW1 (c : Nat → Int32) (i : Nat) : Nat := if fdP c (i + 1) then i + 3 else i + 1
def mWt (c : Nat → Int32) (y : Sg) (i : Nat) (k : List Nat) : Option Nat × Sg × List Nat :=
  if ¬ lcP (c i) ∨ ¬ c (mW1 c i) = 61 then (none, us y 0 8 (y 0 8 + 1), k)
  else match mVal c (mW1 c i + 1) with
    | none => (none, us (us (us y 0 8 (y 0 8 + 1)) 3 i (if fdP c (i + 1) then 2 else 1)) 7 i 0, k)
    | some q => (if c q = 59 then some (q + 1) else none, us (us (us y 0 8 (y 0 8 + 1)) 3 i (if fdP c (i + 1) then 2 else 1)) 7 i (nI (q + 1)), k)
def mPart (c : Nat → Int32) (y : Sg) (i : Nat) (k : List Nat) : Option Nat × Sg × List Nat :=
  if c i = 125 then mClose c y i k
  else if c i = 33 ∨ c i = 94 then (if c (i + 1) = 59 then some (i + 2) else none, us (us (us y 0 8 (y 0 8 + 1)) 3 i (if c i = 33 then 5 else 6)) 7 i (nI (i + 2)), k)
  else if c i = 63 ∨ c i = 42 then mIf c y i k
  else mWt c y i k
set_option maxRecDepth 100000 in
set_option maxHeartbeats 2000000 in
theorem c_M_part (i : Nat) (k : List Nat) (hp : MT y t n) (hi : i < 64) (hs : MStk y k) : XMet l 4 q_M_part [.ref 0, .int (nI i)] (vM y b) (some (.int (oI (mPart (chr t n) y i k).1))) (vM (mPart (chr t n) y i k).2.1 b) := by
  have hn := hp.2.1
  refine xm_intro (by decide +kernel) (Nat.le_of_ble_eq_true rfl) ?_
  generalize hres : mPart (chr t n) y i k = res
  have hp1 : MT (us y 0 8 (y 0 8 + 1)) t n := hp
  -- a sign
  have sg : ∀ x : Int32, ¬ chr t n i = 125 → (chr t n i = 33 ∨ chr t n i = 94) → x = (if chr t n i = 33 then 5 else 6) → XW l 4 q_M_part (fun u w => u = some (.int (oI res.1)) ∧ w = vM res.2.1 b) 57 [(0, .ref 0), (1, .int (nI i))] [.int x, .int (nI i), .ref 3] (vM (us y 0 8 (y 0 8 + 1)) b) := by
    intro x h0 h1 hx
    subst hx
    rw [← hres, mPart, if_neg h0, if_pos h1]
    refine xw_go xcls ok_M_part 60 [] ?_
    refine And.intro (in_nI (by omega) (by omega)) ?_
    rw [cl_nI (by omega)]
    refine And.intro (in_nI (by omega) (by omega)) ?_
    rw [cl_nI (by omega), nI_p2]
    refine ⟨0, _, _, by decide, c_M_at l (us (us (us y 0 8 (y 0 8 + 1)) 3 i (if chr t n i = 33 then 5 else 6)) 7 i (nI (i + 2))) b (i + 1) hp (by omega) (nI_p1 i), ?_⟩
    refine And.intro (fun h => ?_) (fun h => ?_)
    · exact And.intro trivial ⟨by rw [if_neg h]; rfl, rfl⟩
    · exact And.intro trivial ⟨by rw [if_pos h, nI_p2]; rfl, rfl⟩
  have sg0 : ¬ chr t n i = 125 → (chr t n i = 33 ∨ chr t n i = 94) → XW l 4 q_M_part (fun u w => u = some (.int (oI res.1)) ∧ w = vM res.2.1 b) 40 [(0, .ref 0), (1, .int (nI i)), (2, .int (chr t n i))] [] (vM (us y 0 8 (y 0 8 + 1)) b) := by
    intro h0 h1
    refine xw_go xcls ok_M_part 60 [(57, [0, 1])] ?_
    refine And.intro (fun h => ?_) (fun h => ?_)
    · exact sg 6 h0 h1 (by rw [if_neg h])
    · exact sg 5 h0 h1 (by rw [if_pos h])
  -- a condition
  have cd : ∀ x : Int32, ¬ chr t n i = 125 → ¬ (chr t n i = 33 ∨ chr t n i = 94) → (chr t n i = 63 ∨ chr t n i = 42) → x = (if chr t n i = 63 then 3 else 4) → XW l 4 q_M_part (fun u w => u = some (.int (oI res.1)) ∧ w = vM res.2.1 b) 115 [(0, .ref 0), (1, .int (nI i))] [.int x, .int (nI i), .ref 3] (vM (us y 0 8 (y 0 8 + 1)) b) := by
    intro x h0 h1 h2 hx
    subst hx
    rw [← hres, mPart, if_neg h0, if_neg h1, if_pos h2]
    have hb2 := mCd_b (t := t) (p := i) hn 64 (us (us (us y 0 8 (y 0 8 + 1)) 3 i (if chr t n i = 63 then 3 else 4)) 6 i 0) (i + 1)
    have hn9 : (mCd (chr t n) i 64 (us (us (us y 0 8 (y 0 8 + 1)) 3 i (if chr t n i = 63 then 3 else 4)) 6 i 0) (i + 1)).2 0 = (us y 0 8 (y 0 8 + 1)) 0 := by rw [mCd_n (by decide) (by decide)]; rfl
    have cc := c_M_condition l b (us (us (us y 0 8 (y 0 8 + 1)) 3 i (if chr t n i = 63 then 3 else 4)) 6 i 0) i hp hi
    unfold mIf
    generalize mCd (chr t n) i 64 (us (us (us y 0 8 (y 0 8 + 1)) 3 i (if chr t n i = 63 then 3 else 4)) 6 i 0) (i + 1) = q at hb2 hn9 cc ⊢
    obtain ⟨o, q⟩ := q
    have hq9 : q 0 9 = nI k.length := (congrFun hn9 9).trans hs.1
    refine xw_go xcls ok_M_part 60 [] ?_
    refine And.intro (in_nI (by omega) (by omega)) ?_
    rw [cl_nI (by omega)]
    refine And.intro (in_nI (by omega) (by omega)) ?_
    rw [cl_nI (by omega)]
    refine ⟨3, _, _, by decide, cc, ?_⟩
    refine And.intro (in_nI (by omega) (by omega)) ?_
    rw [cl_nI (by omega)]
    refine And.intro (in_nI (by omega) (by omega)) ?_
    rw [cl_nI (by omega)]
    have eu : ∀ x : Int32, upd (q 5) i x i = x := fun x => pk_us
    rw [eu]
    cases o with
    | none =>
      refine And.intro (fun h => ?_) (fun h => absurd (show (-1 : Int32) < 0 by decide) h)
      exact And.intro trivial ⟨rfl, rfl⟩
    | some j =>
      have hj := hb2 j rfl
      refine And.intro (fun h => absurd h (nI_n0 (by omega))) (fun h => ?_)
      by_cases h6 : k.length = 6
      · refine ⟨0, _, _, by decide, c_M_openN l (us q 5 i (nI j)) b i (by rw [← h6]; exact hq9), ?_⟩
        refine And.intro (fun h => ?_) (fun h => absurd rfl h)
        exact And.intro trivial ⟨by simp only [if_pos h6]; rfl, by simp only [if_pos h6]⟩
      · refine ⟨0, _, _, by decide, c_M_open l (us q 5 i (nI j)) b k.length i hq9 (by have := hs.2.1; omega), ?_⟩
        refine And.intro (fun h => absurd h (by decide)) (fun h => ?_)
        refine And.intro (in_nI (by omega) (by omega)) ?_
        rw [cl_nI (by omega)]
        refine And.intro trivial ⟨?_, by simp only [if_neg h6]⟩
        simp only [if_neg h6]
        exact congrArg (fun x => some (Value.int x)) (eu (nI j))
  have cd0 : ¬ chr t n i = 125 → ¬ (chr t n i = 33 ∨ chr t n i = 94) → (chr t n i = 63 ∨ chr t n i = 42) → XW l 4 q_M_part (fun u w => u = some (.int (oI res.1)) ∧ w = vM res.2.1 b) 99 [(0, .ref 0), (1, .int (nI i)), (2, .int (chr t n i))] [] (vM (us y 0 8 (y 0 8 + 1)) b) := by
    intro h0 h1 h2
    refine xw_go xcls ok_M_part 60 [(115, [0, 1])] ?_
    refine And.intro (fun h => ?_) (fun h => ?_)
    · exact cd 4 h0 h1 h2 (by rw [if_neg h])
    · exact cd 3 h0 h1 h2 (by rw [if_pos h])
  -- a write
  have wr2 : ∀ x : Int32, res = mWt (chr t n) y i k → lcP (chr t n i) → chr t n (mW1 (chr t n) i) = 61 → x = (if fdP (chr t n) (i + 1) then 2 else 1) → XW l 4 q_M_part (fun u w => u = some (.int (oI res.1)) ∧ w = vM res.2.1 b) 220 [(0, .ref 0), (1, .int (nI i)), (4, .int (nI (mW1 (chr t n) i)))] [.int x, .int (nI i), .ref 3] (vM (us y 0 8 (y 0 8 + 1)) b) := by
    intro x h0 h1 h2 hx
    subst hx
    have hw1 : mW1 (chr t n) i ≤ i + 3 := by unfold mW1; split <;> omega
    have e1 : ¬ (¬ lcP (chr t n i) ∨ ¬ chr t n (mW1 (chr t n) i) = 61) := fun c => c.elim (fun c => c h1) (fun c => c h2)
    rw [h0, mWt, if_neg e1]
    refine xw_go xcls ok_M_part 60 [] ?_
    refine And.intro (in_nI (by omega) (by omega)) ?_
    rw [cl_nI (by omega)]
    refine ⟨2, _, _, by decide, c_M_value l (us (us y 0 8 (y 0 8 + 1)) 3 i (if fdP (chr t n) (i + 1) then 2 else 1)) b (mW1 (chr t n) i + 1) hp (by omega) (nI_p1 _), ?_⟩
    refine And.intro (in_nI (by omega) (by omega)) ?_
    rw [cl_nI (by omega)]
    cases hv : mVal (chr t n) (mW1 (chr t n) i + 1) with
    | none =>
      refine And.intro (fun h => ?_) (fun h => absurd (by decide) h)
      exact And.intro trivial ⟨rfl, rfl⟩
    | some q =>
      have hq := mVal_le hv
      refine And.intro (fun h => absurd h (nI_n0 (by omega))) (fun h => ?_)
      rw [show oI (some q) + 1 = nI (q + 1) from nI_p1 q]
      refine ⟨0, _, _, by decide, c_M_at l (us (us (us y 0 8 (y 0 8 + 1)) 3 i (if fdP (chr t n) (i + 1) then 2 else 1)) 7 i (nI (q + 1))) b q hp (by omega), ?_⟩
      refine And.intro (fun h3 => ?_) (fun h3 => ?_)
      · exact And.intro trivial ⟨by simp only [if_neg h3]; rfl, rfl⟩
      · exact And.intro trivial ⟨by simp only [if_pos h3]; exact congrArg (fun x => some (Value.int x)) (nI_p1 q), rfl⟩
  have wr : ∀ (f : Int32) (e : Nat) (x : Int32), f = bI (fdP (chr t n) (i + 1)) → x = nI e → e = mW1 (chr t n) i → res = mWt (chr t n) y i k → XW l 4 q_M_part (fun u w => u = some (.int (oI res.1)) ∧ w = vM res.2.1 b) 183 [(0, .ref 0), (1, .int (nI i)), (3, .int f)] [.int x] (vM (us y 0 8 (y 0 8 + 1)) b) := by
    intro f e x hf hx he h0
    subst hx
    subst he
    have hw1 : mW1 (chr t n) i ≤ i + 3 := by unfold mW1; split <;> omega
    refine xw_go xcls ok_M_part 60 [(220, [0, 1, 4])] ?_
    refine ⟨1, _, _, by decide, c_M_isLocal l (us y 0 8 (y 0 8 + 1)) b i hp (by omega), ?_⟩
    by_cases q : lcP (chr t n i)
    · rw [show bI (lcP (chr t n i)) = 1 by rw [bI, if_pos q]]
      refine And.intro (fun c => absurd c (by decide)) (fun _ => ?_)
      refine ⟨0, _, _, by decide, c_M_at l (us y 0 8 (y 0 8 + 1)) b (mW1 (chr t n) i) hp (by omega), ?_⟩
      refine And.intro (fun h1 => ?_) (fun h1 => ?_)
      · by_cases q2 : fdP (chr t n) (i + 1)
        · rw [hf, show bI (fdP (chr t n) (i + 1)) = 1 by rw [bI, if_pos q2]]
          refine And.intro (fun c => absurd c (by decide)) (fun _ => ?_)
          exact wr2 2 h0 q h1 (by rw [if_pos q2])
        · rw [hf, show bI (fdP (chr t n) (i + 1)) = 0 by rw [bI, if_neg q2]]
          refine And.intro (fun _ => ?_) (fun c => absurd rfl c)
          exact wr2 1 h0 q h1 (by rw [if_neg q2])
      · rw [h0, mWt, if_pos (Or.inr h1)]
        exact And.intro trivial ⟨rfl, rfl⟩
    · rw [show bI (lcP (chr t n i)) = 0 by rw [bI, if_neg q]]
      refine And.intro (fun _ => ?_) (fun c => absurd rfl c)
      rw [h0, mWt, if_pos (Or.inl q)]
      exact And.intro trivial ⟨rfl, rfl⟩
  refine xw_go xcls ok_M_part 60 [(40, [0, 1, 2]), (99, [0, 1, 2]), (183, [0, 1, 3])] ?_
  refine ⟨0, _, _, by decide, c_M_at l y b i hp (by omega), ?_⟩
  refine And.intro (fun h0 => ?_) (fun h0 => ?_)
  · refine And.intro trivial ?_
    refine And.intro (fun h1 => sg0 h0 (Or.inl h1)) (fun h1 => ?_)
    refine And.intro (fun h2 => ?_) (fun h2 => sg0 h0 (Or.inr h2))
    have h12 : ¬ (chr t n i = 33 ∨ chr t n i = 94) := fun c => c.elim h1 h2
    refine And.intro (fun h3 => cd0 h0 h12 (Or.inl h3)) (fun h3 => ?_)
    refine And.intro (fun h4 => ?_) (fun h4 => cd0 h0 h12 (Or.inr h4))
    have h34 : ¬ (chr t n i = 63 ∨ chr t n i = 42) := fun c => c.elim h3 h4
    have er : res = mWt (chr t n) y i k := by rw [← hres, mPart, if_neg h0, if_neg h12, if_neg h34]
    refine ⟨1, _, _, by decide, c_M_isField l (us y 0 8 (y 0 8 + 1)) b (i + 1) hp (by omega) (nI_p1 i), ?_⟩
    by_cases q2 : fdP (chr t n) (i + 1)
    · rw [show bI (fdP (chr t n) (i + 1)) = 1 by rw [bI, if_pos q2]]
      refine And.intro (fun c => absurd c (by decide)) (fun _ => ?_)
      exact wr 1 (i + 3) _ (by rw [bI, if_pos q2]) (nI_p3 i) (by rw [mW1, if_pos q2]) er
    · rw [show bI (fdP (chr t n) (i + 1)) = 0 by rw [bI, if_neg q2]]
      refine And.intro (fun _ => ?_) (fun c => absurd rfl c)
      exact wr 0 (i + 1) _ (by rw [bI, if_neg q2]) (nI_p1 i) (by rw [mW1, if_neg q2]) er
  · refine ⟨1, _, _, by decide, c_M_close l y b i k hp hi hs, ?_⟩
    have er : res = mClose (chr t n) y i k := by rw [← hres, mPart, if_pos h0]
    exact And.intro trivial ⟨by rw [er], by rw [er]⟩
end
end
section
/-! The reference: the whole text -/
theorem mPart_MT {t : Nat → Int32} {n : Nat} {y : Sg} {i : Nat} {k : List Nat} (hp : MT y t n) : MT (mPart (chr t n) y i k).2.1 t n := by
  unfold mPart; split
  · cases k with
    | nil => exact hp
    | cons h k =>
      simp only [mClose]; split
      · exact hp
      · exact hp
  · split
    · exact hp
    · split
      · unfold mIf
        have h0 : (mCd (chr t n) i 64 (us (us (us y 0 8 (y 0 8 + 1)) 3 i (if chr t n i = 63 then 3 else 4)) 6 i 0) (i + 1)).2 0 = (us y 0 8 (y 0 8 + 1)) 0 := by rw [mCd_n (by decide) (by decide)]; rfl
        have h1 : (mCd (chr t n) i 64 (us (us (us y 0 8 (y 0 8 + 1)) 3 i (if chr t n i = 63 then 3 else 4)) 6 i 0) (i + 1)).2 1 = y 1 := by rw [mCd_n (by decide) (by decide)]; rfl
        generalize mCd (chr t n) i 64 (us (us (us y 0 8 (y 0 8 + 1)) 3 i (if chr t n i = 63 then 3 else 4)) 6 i 0) (i + 1) = q at h0 h1 ⊢
        have e0 : q.2 0 1 = y 0 1 := congrFun h0 1
        split
        · exact MT_c hp e0 h1
        · split
          · exact MT_c hp e0 h1
          · exact MT_c hp e0 h1
      · unfold mWt; split
        · exact hp
        · split
          · exact hp
          · exact hp
theorem mPart_ok {t : Nat → Int32} {n : Nat} {y : Sg} {i j : Nat} {k : List Nat} (hp : MT y t n) (hi : i < 64) (hs : MStk y k) (h : (mPart (chr t n) y i k).1 = some j) : MStk (mPart (chr t n) y i k).2.1 (mPart (chr t n) y i k).2.2 ∧ j < 900 ∧ i < j := by
  have hn := hp.2.1
  obtain ⟨hd, hd6, hR⟩ := hs
  unfold mPart at h ⊢
  split
  · rename_i hc
    rw [if_pos hc] at h
    cases k with
    | nil => cases h
    | cons hh k =>
      obtain ⟨h8, h65, hR⟩ := hR
      have hk : k.length + 1 ≤ 6 := hd6
      simp only [mClose] at h ⊢
      split at h
      · rename_i hc2
        rw [if_pos hc2]
        have h : i + 2 = j := Option.some.inj h
        refine ⟨⟨?_, hd6, ?_, h65, RBk_c (y := y) k (fun q hq => ?_) hR⟩, by omega, by omega⟩
        · rfl
        · show upd (y 8) k.length (nI hh) k.length = nI hh
          rw [pk_us]
        · show upd (y 8) k.length (nI hh) q = y 8 q
          rw [pk_un (by omega)]
      · rename_i hc2
        rw [if_neg hc2]
        have h : i + 1 = j := Option.some.inj h
        refine ⟨⟨?_, Nat.le_of_succ_le hk, RBk_c (y := y) k (fun q hq => rfl) hR⟩, by omega, by omega⟩
        show upd (y 0) 9 (nI k.length) 9 = nI k.length
        rw [pk_us]
  · rename_i hc
    rw [if_neg hc] at h
    split
    · rename_i hc2
      rw [if_pos hc2] at h
      have h : (if chr t n (i + 1) = 59 then some (i + 2) else none) = some j := h
      split at h
      · have h := Option.some.inj h
        exact ⟨⟨hd, hd6, RBk_c (y := y) k (fun q hq => rfl) hR⟩, by omega, by omega⟩
      · cases h
    · rename_i hc2
      rw [if_neg hc2] at h
      split
      · rename_i hc3
        rw [if_pos hc3] at h
        unfold mIf at h ⊢
        have hb2 := mCd_b (t := t) (p := i) hn 64 (us (us (us y 0 8 (y 0 8 + 1)) 3 i (if chr t n i = 63 then 3 else 4)) 6 i 0) (i + 1)
        have h8 : (mCd (chr t n) i 64 (us (us (us y 0 8 (y 0 8 + 1)) 3 i (if chr t n i = 63 then 3 else 4)) 6 i 0) (i + 1)).2 8 = y 8 := by rw [mCd_n (by decide) (by decide)]; rfl
        generalize mCd (chr t n) i 64 (us (us (us y 0 8 (y 0 8 + 1)) 3 i (if chr t n i = 63 then 3 else 4)) 6 i 0) (i + 1) = q at h h8 hb2 ⊢
        obtain ⟨o, q⟩ := q
        cases o with
        | none => cases h
        | some p =>
          have hp2 := hb2 p rfl
          simp only at h ⊢
          split at h
          · cases h
          · rename_i h6
            rw [if_neg h6]
            have h : p = j := Option.some.inj h
            refine ⟨⟨?_, ?_, ?_, by omega, RBk_c (y := y) k (fun m hm => ?_) hR⟩, by omega, by omega⟩
            · show upd (q 0) 9 (nI (k.length + 1)) 9 = nI (k.length + 1)
              rw [pk_us]
            · show k.length + 1 ≤ 6
              omega
            · show upd (q 8) k.length (nI i) k.length = nI i
              rw [pk_us]
            · show upd (q 8) k.length (nI i) m = y 8 m
              rw [pk_un (by omega)]; exact congrFun h8 m
      · rename_i hc3
        rw [if_neg hc3] at h
        unfold mWt at h ⊢
        have hw1 : i < mW1 (chr t n) i ∧ mW1 (chr t n) i ≤ i + 3 := by unfold mW1; split <;> omega
        split at h
        · cases h
        · rename_i hc4
          rw [if_neg hc4]
          cases hv : mVal (chr t n) (mW1 (chr t n) i + 1) with
          | none => rw [hv] at h; cases h
          | some q =>
            rw [hv] at h
            have hq := mVal_le hv
            have h : (if chr t n q = 59 then some (q + 1) else none) = some j := h
            split at h
            · have h := Option.some.inj h
              exact ⟨⟨hd, hd6, RBk_c (y := y) k (fun q hq => rfl) hR⟩, by omega, by omega⟩
            · cases h
def mLoop (c : Nat → Int32) (n : Nat) : Nat → Option Nat → Sg → List Nat → Option Nat × Sg × List Nat
  | 0, o, y, k => (o, y, k)
  | _ + 1, none, y, k => (none, y, k)
  | m + 1, some i, y, k => if i < n then mLoop c n m (mPart c y i k).1 (mPart c y i k).2.1 (mPart c y i k).2.2 else (some i, y, k)
section
variable (l : Launch) (b : Int64) {t : Nat → Int32} {n : Nat}
set_option maxRecDepth 100000 in
set_option maxHeartbeats 1000000 in
theorem lp_M_program (Rt : Option Value → List va_E → Prop) : ∀ (m : Nat) (o : Option Nat) (y : Sg) (k : List Nat), MT y t n → m ≤ 65 → (∀ i, o = some i → i < 900 ∧ MStk y k) →
    (∀ (i : Option Nat) (y' : Sg) (k' : List Nat), (i, y', k') = mLoop (chr t n) n m o y k → MT y' t n → (∀ j, i = some j → j < 900 ∧ MStk y' k') → XW l 5 q_M_program Rt 65 [(0, .ref 0), (1, .int (oI i))] [] (vM y' b)) →
    XW l 5 q_M_program Rt 35 [(0, .ref 0), (1, .int (oI o)), (2, .int (nI (65 - m)))] [] (vM y b)
  | 0, o, y, k, hp, hm, hs, K => by
    refine xw_go xcls ok_M_program 60 [(65, [0, 1])] ?_
    refine And.intro (fun h => ?_) (fun h => absurd (by decide) h)
    exact K o y k rfl hp hs
  | m + 1, o, y, k, hp, hm, hs, K => by
    have hn := hp.2.1
    refine xw_go xcls ok_M_program 80 [(65, [0, 1]), (35, [0, 1, 2])] ?_
    refine And.intro (fun h => absurd h (by rw [show (65 : Int32) = nI 65 from rfl, nI_le' (by omega) (by omega)]; omega)) (fun h => ?_)
    refine And.intro (fun h2 => ?_) (fun h2 => ?_)
    · cases o with
      | none => exact K none y k rfl hp hs
      | some i => exact absurd h2 (nI_n0 (by have := (hs i rfl).1; omega))
    · cases o with
      | none => exact absurd (by decide) h2
      | some i =>
        obtain ⟨hi, hst⟩ := hs i rfl
        have e64 : nI (65 - (m + 1)) + 1 = nI (65 - m) := by rw [nI_p1]; congr 1; omega
        refine And.intro (fun h3 => ?_) (fun h3 => ?_)
        · have h3 : y 0 1 ≤ nI i := h3
          rw [hp.1, nI_le' (by omega) (by omega)] at h3
          exact K (some i) y k (by simp [mLoop, Nat.not_lt.mpr h3]) hp hs
        · have h3 : ¬ y 0 1 ≤ nI i := h3
          rw [hp.1, nI_le' (by omega) (by omega)] at h3
          have h3 : i < n := Nat.not_le.mp h3
          refine ⟨4, _, _, by decide, c_M_part l y b i k hp (by omega) hst, ?_⟩
          have ih := lp_M_program Rt m (mPart (chr t n) y i k).1 (mPart (chr t n) y i k).2.1 (mPart (chr t n) y i k).2.2 (mPart_MT hp) (by omega) (fun j hj => by have := mPart_ok hp (by omega) hst hj; exact ⟨this.2.1, this.1⟩) (fun i' y' k' e => K i' y' k' (by rw [e]; simp [mLoop, h3]))
          rw [← e64] at ih
          exact ih
def y0 (y : Sg) : Sg := us (us (uc y 3 (fFill 65 (y 3) 0 65)) 0 8 0) 0 9 0
def mPar (t : Nat → Int32) (n : Nat) (y : Sg) : Option Nat × Sg × List Nat := mLoop (chr t n) n 65 (some 0) (y0 y) []
def mOk (t : Nat → Int32) (n : Nat) (y : Sg) : Prop := (mPar t n y).1.isSome = true ∧ (mPar t n y).2.2 = []
set_option maxRecDepth 100000 in
set_option maxHeartbeats 1000000 in
theorem lp_M_role (y : Sg) (Rt : Option Value → List va_E → Prop) (K : XW l 5 q_M_program Rt 21 [(0, .ref 0)] [] (vM (uc y 3 (fFill 65 (y 3) 0 65)) b)) : ∀ (m k : Nat), k + m = 65 → XW l 5 q_M_program Rt 2 [(0, .ref 0), (1, .int (nI k))] [] (vM (uc y 3 (fFill 65 (y 3) 0 k)) b)
  | 0, k, hk => by
    have hk : k = 65 := hk
    subst hk
    refine xw_go xcls ok_M_program 40 [(21, [0])] ?_
    refine And.intro (fun h => ?_) (fun h => absurd (by decide) h)
    exact K
  | m + 1, k, hk => by
    have ih := lp_M_role y Rt K m (k + 1) (by omega)
    rw [← nI_p1 k, ← fFill_s] at ih
    refine xw_go xcls ok_M_program 40 [(21, [0]), (2, [0, 1])] ?_
    refine And.intro (fun h => absurd h (by rw [show (65 : Int32) = nI 65 from rfl, nI_le' (by omega) (by omega)]; omega)) (fun h => ?_)
    refine And.intro (in_nI (by omega) (by omega)) ?_
    rw [cl_nI (by omega)]
    exact ih
set_option maxRecDepth 100000 in
set_option maxHeartbeats 1000000 in
theorem c_M_program (y : Sg) (hp : MT y t n) : (mOk t n y → XMet l 5 q_M_program [.ref 0] (vM y b) (some (.int 1)) (vM (us (mPar t n y).2.1 3 n 8) b)) ∧ (¬ mOk t n y → XMet l 5 q_M_program [.ref 0] (vM y b) (some (.int 0)) (vM (mPar t n y).2.1 b)) := by
  have hn := hp.2.1
  have key : ∀ (v : Int32) (yy : Sg), (mOk t n y → v = 1 ∧ yy = us (mPar t n y).2.1 3 n 8) → (¬ mOk t n y → v = 0 ∧ yy = (mPar t n y).2.1) → XMet l 5 q_M_program [.ref 0] (vM y b) (some (.int v)) (vM yy b) := by
    intro v yy k1 k2
    refine xm_intro (by decide +kernel) (Nat.le_of_ble_eq_true rfl) ?_
    refine xw_go xcls ok_M_program 60 [(2, [0, 1])] ?_
    have hr := lp_M_role l b y (fun a c => a = some (.int v) ∧ c = vM yy b) ?_ 65 0 (by omega)
    · rw [show uc y 3 (fFill 65 (y 3) 0 0) = y from by
        funext a
        by_cases h : a = 3
        · subst h; rw [uc_s]; funext i; simp [fFill]
        · rw [uc_n h]] at hr
      exact hr
    · refine xw_go xcls ok_M_program 60 [(35, [0, 1, 2])] ?_
      refine And.intro trivial ?_
      refine And.intro trivial ?_
      refine lp_M_program l b _ 65 (some 0) (y0 y) [] hp (by omega) (fun i hi => by cases hi; exact ⟨by omega, rfl, by decide, trivial⟩) (fun i y' k' e hp' hs' => ?_)
      have e : (i, y', k') = mPar t n y := e
      unfold mOk at k1 k2
      rw [← e] at k1 k2
      refine xw_go xcls ok_M_program 60 [] ?_
      cases i with
      | none =>
        refine And.intro (fun _ => ?_) (fun c => absurd (by decide) c)
        obtain ⟨rfl, rfl⟩ := k2 (fun c => by cases c.1)
        exact And.intro (Or.inl rfl) ⟨rfl, rfl⟩
      | some j =>
        obtain ⟨hj, hst⟩ := hs' j rfl
        refine And.intro (fun c => absurd c (nI_n0 (by omega))) (fun _ => ?_)
        have e9 : y' 0 9 = nI k'.length := hst.1
        have l6 := hst.2.1
        refine And.intro (fun c => ?_) (fun c => ?_)
        · have c : y' 0 9 ≤ 0 := c
          rw [e9, show (0 : Int32) = nI 0 from rfl, nI_le' (by omega) (by omega)] at c
          have hk : k' = [] := List.length_eq_zero_iff.mp (by omega)
          obtain ⟨rfl, rfl⟩ := k1 ⟨rfl, hk⟩
          have ez : y' 0 1 = nI n := hp'.1
          refine And.intro (by show vp_in (y' 0 1) 65; rw [ez]; exact in_nI (by omega) (by omega)) ?_
          rw [show (y' 0 1).toNatClampNeg = n by rw [ez, cl_nI (by omega)]]
          exact And.intro (Or.inr rfl) ⟨rfl, rfl⟩
        · have c : ¬ y' 0 9 ≤ 0 := c
          rw [e9, show (0 : Int32) = nI 0 from rfl, nI_le' (by omega) (by omega)] at c
          obtain ⟨rfl, rfl⟩ := k2 (fun q => c (by rw [show k' = [] from q.2]; exact Nat.le_refl 0))
          exact And.intro (Or.inl rfl) ⟨rfl, rfl⟩
  exact ⟨fun h => key 1 _ (fun _ => ⟨rfl, rfl⟩) (fun c => absurd h c), fun h => key 0 _ (fun c => absurd c h) (fun _ => ⟨rfl, rfl⟩)⟩
end
end
section
/-! The reference: what is known at a place -/
/-- reached, sures, links, alarmed, changed -/
abbrev MD : Type := (Nat → Int32) × (Nat → Int32) × (Nat → Int32) × (Nat → Int32) × Int32
/-- sure, linked, alarm -/
abbrev ML : Type := Int32 × Int32 × Int32
def sD (y : Sg) (D : MD) (q : ML) : Sg := us (us (us (us (uc (uc (uc (uc y 9 D.1) 10 D.2.1) 11 D.2.2.1) 12 D.2.2.2.1) 0 18 D.2.2.2.2) 0 15 q.1) 0 16 q.2.1) 0 17 q.2.2
abbrev hsP (x v : Int32) : Prop := (x >>> (v &&& 31)) &&& 1 = 1
def sb (v : Int32) : Int32 := 1 <<< (v &&& 31)
def mUse (v : Int32) (q : ML) : ML := (q.1 ||| sb v, q.2.1, if hsP q.1 v then q.2.2 else q.2.2 ||| 1)
section
variable (l : Launch) (y : Sg) (b : Int64) (D : MD) {t : Nat → Int32} {n : Nat}
set_option maxRecDepth 100000 in
theorem c_M_has (w : List va_E) (x v : Int32) : XMet l 0 q_M_has [.int x, .int v] w (some (.int (bI (hsP x v)))) w := by
  refine xm_intro (by decide +kernel) (Nat.le_of_ble_eq_true rfl) ?_
  refine xw_go xcls ok_M_has 40 [] ?_
  refine And.intro (fun h => ?_) (fun h => ?_)
  · exact And.intro (Or.inl rfl) ⟨by rw [bI, if_neg h], rfl⟩
  · exact And.intro (Or.inr rfl) ⟨by rw [bI, if_pos h], rfl⟩
set_option maxRecDepth 100000 in
set_option maxHeartbeats 1000000 in
theorem c_M_use (q : ML) (v : Int32) : XMet l 1 q_M_use [.ref 0, .int v] (vM (sD y D q) b) none (vM (sD y D (mUse v q)) b) := by
  refine xm_intro (by decide +kernel) (Nat.le_of_ble_eq_true rfl) ?_
  refine xw_go xcls ok_M_use 40 [] ?_
  refine ⟨0, _, _, by decide, c_M_has l _ q.1 v, ?_⟩
  by_cases h : hsP q.1 v
  · rw [show bI (hsP q.1 v) = 1 by rw [bI, if_pos h]]
    refine And.intro (fun c => absurd c (by decide)) (fun _ => ?_)
    refine And.intro trivial (And.intro trivial (And.intro rfl ⟨rfl, ?_⟩))
    rw [mUse, if_pos h]; rfl
  · rw [show bI (hsP q.1 v) = 0 by rw [bI, if_neg h]]
    refine And.intro (fun _ => ?_) (fun c => absurd rfl c)
    refine And.intro trivial (And.intro trivial (And.intro rfl ⟨rfl, ?_⟩))
    rw [mUse, if_neg h]; rfl
/-- is a value sure; what taking it leaves -/
def mSV (c : Nat → Int32) (i : Nat) (q : ML) : Int32 × ML :=
  if ¬ lcP (c i) then (bI (c i = 78), if c i = 64 then (q.1, 0, q.2.2) else q)
  else if ¬ fdP c (i + 1) then (bI (hsP q.1 (c i - 97)), q)
  else (bI (c (i + 2) = 103 ∨ hsP q.2.1 (c i - 97)), mUse (c i - 97) q)
theorem lc_64 {x : Int32} (h : lcP x) : ¬ x = 64 := fun e => by rw [e] at h; exact absurd h.1 (by decide)
theorem mUse_l {v : Int32} {q : ML} : (mUse v q).2.1 = q.2.1 := rfl
set_option maxRecDepth 100000 in
set_option maxHeartbeats 1000000 in
theorem c_M_sureValue (q : ML) (i : Nat) (hp : MT y t n) (hi : i < 800) {x : Int32} (hx : x = nI i := by rfl) : XMet l 2 q_M_sureValue [.ref 0, .int x] (vM (sD y D q) b) (some (.int (mSV (chr t n) i q).1)) (vM (sD y D (mSV (chr t n) i q).2) b) := by
  subst hx
  refine xm_intro (by decide +kernel) (Nat.le_of_ble_eq_true rfl) ?_
  generalize hres : mSV (chr t n) i q = res
  have j17 : ∀ q' : ML, q' = (if chr t n i = 64 then (q.1, 0, q.2.2) else q) → XW l 2 q_M_sureValue (fun u w => u = some (.int res.1) ∧ w = vM (sD y D res.2) b) 17 [(0, .ref 0), (1, .int (nI i)), (2, .int (chr t n i))] [] (vM (sD y D q') b) := by
    intro q' hq'
    refine xw_go xcls ok_M_sureValue 60 [(89, []), (93, [])] ?_
    refine ⟨1, _, _, by decide, c_M_isLocal l (sD y D q') b i hp (by omega), ?_⟩
    by_cases h1 : lcP (chr t n i)
    · have e1 : q' = q := by rw [hq', if_neg (lc_64 h1)]
      subst e1
      rw [show bI (lcP (chr t n i)) = 1 by rw [bI, if_pos h1]]
      refine And.intro (fun _ => ?_) (fun c => absurd c (by decide))
      refine ⟨1, _, _, by decide, c_M_isField l (sD y D q') b (i + 1) hp (by omega) (nI_p1 i), ?_⟩
      by_cases h2 : fdP (chr t n) (i + 1)
      · rw [show bI (fdP (chr t n) (i + 1)) = 1 by rw [bI, if_pos h2]]
        refine And.intro (fun _ => ?_) (fun c => absurd c (by decide))
        refine ⟨1, _, _, by decide, c_M_use l y b D q' (chr t n i - 97), ?_⟩
        have er : res = (bI (chr t n (i + 2) = 103 ∨ hsP q'.2.1 (chr t n i - 97)), mUse (chr t n i - 97) q') := by rw [← hres, mSV, if_neg (fun c => c h1), if_neg (fun c => c h2)]
        refine ⟨0, _, _, by decide, c_M_at l (sD y D (mUse (chr t n i - 97) q')) b (i + 2) hp (by omega) (nI_p2 i), ?_⟩
        have yes : (chr t n (i + 2) = 103 ∨ hsP q'.2.1 (chr t n i - 97)) → XW l 2 q_M_sureValue (fun u w => u = some (.int res.1) ∧ w = vM (sD y D res.2) b) 89 [] [] (vM (sD y D (mUse (chr t n i - 97) q')) b) := by
          intro hc
          rw [er]
          refine xw_go xcls ok_M_sureValue 60 [] ?_
          exact And.intro (Or.inr rfl) ⟨by rw [bI, if_pos hc], rfl⟩
        refine And.intro (fun h3 => yes (Or.inl h3)) (fun h3 => ?_)
        refine ⟨0, _, _, by decide, c_M_has l _ q'.2.1 (chr t n i - 97), ?_⟩
        by_cases h4 : hsP q'.2.1 (chr t n i - 97)
        · rw [show bI (hsP q'.2.1 (chr t n i - 97)) = 1 by rw [bI, if_pos h4]]
          refine And.intro (fun c => absurd c (by decide)) (fun _ => yes (Or.inr h4))
        · rw [show bI (hsP q'.2.1 (chr t n i - 97)) = 0 by rw [bI, if_neg h4]]
          refine And.intro (fun _ => ?_) (fun c => absurd rfl c)
          rw [er]
          refine xw_go xcls ok_M_sureValue 60 [] ?_
          exact And.intro (Or.inl rfl) ⟨by rw [bI, if_neg (fun c => c.elim h3 h4)], rfl⟩
      · rw [show bI (fdP (chr t n) (i + 1)) = 0 by rw [bI, if_neg h2]]
        refine And.intro (fun c => absurd rfl c) (fun _ => ?_)
        refine ⟨0, _, _, by decide, c_M_has l _ q'.1 (chr t n i - 97), ?_⟩
        have er : res = (bI (hsP q'.1 (chr t n i - 97)), q') := by rw [← hres, mSV, if_neg (fun c => c h1), if_pos h2]
        rw [er]
        exact And.intro (bI_01 _) ⟨rfl, rfl⟩
    · rw [show bI (lcP (chr t n i)) = 0 by rw [bI, if_neg h1]]
      refine And.intro (fun c => absurd rfl c) (fun _ => ?_)
      have er : res = (bI (chr t n i = 78), q') := by rw [← hres, mSV, if_pos h1, hq']
      rw [er]
      refine And.intro (fun h2 => ?_) (fun h2 => ?_)
      · exact And.intro (Or.inl rfl) ⟨by rw [bI, if_neg h2], rfl⟩
      · exact And.intro (Or.inr rfl) ⟨by rw [bI, if_pos h2], rfl⟩
  refine xw_go xcls ok_M_sureValue 60 [(17, [0, 1, 2])] ?_
  refine ⟨0, _, _, by decide, c_M_at l (sD y D q) b i hp (by omega), ?_⟩
  refine And.intro (fun h => ?_) (fun h => ?_)
  · exact j17 q (by rw [if_neg h])
  · refine And.intro trivial ?_
    exact j17 (q.1, 0, q.2.2) (by rw [if_pos h])
/-- a name written: its place in the text, whether it is solid -/
def mAs (c : Nat → Int32) (so : Nat → Int32) (p : Nat) (q : ML) : ML :=
  (if (mSV c (p + 2) q).1 = 0 ∧ ¬ so (c p - 97).toNatClampNeg = 0 then (mSV c (p + 2) q).2.1 else cSet (sb (c p - 97)) (mSV c (p + 2) q).1 (mSV c (p + 2) q).2.1,
   cSet (sb (c p - 97)) (bI (lcP (c (p + 2)) ∧ ¬ fdP c (p + 3) ∧ hsP (mSV c (p + 2) q).2.2.1 (c (p + 2) - 97))) (mSV c (p + 2) q).2.2.1,
   if (mSV c (p + 2) q).1 = 0 ∧ ¬ so (c p - 97).toNatClampNeg = 0 then (mSV c (p + 2) q).2.2.2 ||| 2 else (mSV c (p + 2) q).2.2.2)
set_option maxRecDepth 100000 in
set_option maxHeartbeats 2000000 in
theorem c_M_assign (q : ML) (p : Nat) (hp : MT y t n) (hi : p < 700) (hv : vp_in (chr t n p - 97) 5) : XMet l 3 q_M_assign [.ref 0, .int (nI p)] (vM (sD y D q) b) none (vM (sD y D (mAs (chr t n) (y 2) p q)) b) := by
  refine xm_intro (by decide +kernel) (Nat.le_of_ble_eq_true rfl) ?_
  generalize hres : mAs (chr t n) (y 2) p q = res
  have hm : res = (if (mSV (chr t n) (p + 2) q).1 = 0 ∧ ¬ y 2 (chr t n p - 97).toNatClampNeg = 0 then (mSV (chr t n) (p + 2) q).2.1 else cSet (sb (chr t n p - 97)) (mSV (chr t n) (p + 2) q).1 (mSV (chr t n) (p + 2) q).2.1, cSet (sb (chr t n p - 97)) (bI (lcP (chr t n (p + 2)) ∧ ¬ fdP (chr t n) (p + 3) ∧ hsP (mSV (chr t n) (p + 2) q).2.2.1 (chr t n (p + 2) - 97))) (mSV (chr t n) (p + 2) q).2.2.1, if (mSV (chr t n) (p + 2) q).1 = 0 ∧ ¬ y 2 (chr t n p - 97).toNatClampNeg = 0 then (mSV (chr t n) (p + 2) q).2.2.2 ||| 2 else (mSV (chr t n) (p + 2) q).2.2.2) := by rw [← hres]; rfl
  have csv := c_M_sureValue l y b D q (p + 2) hp (by omega) (nI_p2 p)
  generalize mSV (chr t n) (p + 2) q = f at hm csv
  obtain ⟨sv, q1⟩ := f
  simp only at hm csv
  -- the end
  have j131 : ∀ (q2 : ML) (li : Int32), q2 = (if sv = 0 ∧ ¬ y 2 (chr t n p - 97).toNatClampNeg = 0 then q1.1 else cSet (sb (chr t n p - 97)) sv q1.1, q1.2.1, if sv = 0 ∧ ¬ y 2 (chr t n p - 97).toNatClampNeg = 0 then q1.2.2 ||| 2 else q1.2.2) → li = bI (lcP (chr t n (p + 2)) ∧ ¬ fdP (chr t n) (p + 3) ∧ hsP q1.2.1 (chr t n (p + 2) - 97)) → XW l 3 q_M_assign (fun u w => u = none ∧ w = vM (sD y D res) b) 131 [(0, .ref 0), (2, .int (chr t n p - 97)), (5, .int li)] [] (vM (sD y D q2) b) := by
    intro q2 li h1 h2
    subst h1
    refine xw_go xcls ok_M_assign 60 [] ?_
    refine And.intro (fun h => ?_) (fun h => ?_)
    · refine And.intro trivial (And.intro rfl ⟨rfl, ?_⟩)
      rw [hm, ← h2, show cSet (sb (chr t n p - 97)) li q1.2.1 = q1.2.1 &&& (sb (chr t n p - 97) ^^^ -1) by rw [cSet, if_pos h]]; rfl
    · refine And.intro trivial (And.intro rfl ⟨rfl, ?_⟩)
      rw [hm, ← h2, show cSet (sb (chr t n p - 97)) li q1.2.1 = q1.2.1 ||| sb (chr t n p - 97) by rw [cSet, if_neg h]]; rfl
  have j102 : ∀ li : Int32, ¬ (sv = 0 ∧ ¬ y 2 (chr t n p - 97).toNatClampNeg = 0) → li = bI (lcP (chr t n (p + 2)) ∧ ¬ fdP (chr t n) (p + 3) ∧ hsP q1.2.1 (chr t n (p + 2) - 97)) → XW l 3 q_M_assign (fun u w => u = none ∧ w = vM (sD y D res) b) 102 [(0, .ref 0), (2, .int (chr t n p - 97)), (3, .int sv), (5, .int li)] [] (vM (sD y D q1) b) := by
    intro li hc h2
    refine xw_go xcls ok_M_assign 60 [(131, [0, 2, 5])] ?_
    refine And.intro (fun h => ?_) (fun h => ?_)
    · refine And.intro trivial ?_
      exact j131 (cSet (sb (chr t n p - 97)) sv q1.1, q1.2.1, q1.2.2) li (by rw [if_neg hc, if_neg hc]) h2 |> fun k => by
        rw [show cSet (sb (chr t n p - 97)) sv q1.1 = q1.1 &&& (sb (chr t n p - 97) ^^^ -1) by rw [cSet, if_pos h]] at k
        exact k
    · refine And.intro trivial ?_
      exact j131 (cSet (sb (chr t n p - 97)) sv q1.1, q1.2.1, q1.2.2) li (by rw [if_neg hc, if_neg hc]) h2 |> fun k => by
        rw [show cSet (sb (chr t n p - 97)) sv q1.1 = q1.1 ||| sb (chr t n p - 97) by rw [cSet, if_neg h]] at k
        exact k
  have j74 : ∀ li : Int32, li = bI (lcP (chr t n (p + 2)) ∧ ¬ fdP (chr t n) (p + 3) ∧ hsP q1.2.1 (chr t n (p + 2) - 97)) → XW l 3 q_M_assign (fun u w => u = none ∧ w = vM (sD y D res) b) 74 [(0, .ref 0), (2, .int (chr t n p - 97)), (3, .int sv)] [.int li] (vM (sD y D q1) b) := by
    intro li h2
    refine xw_go xcls ok_M_assign 60 [(131, [0, 2, 5]), (102, [0, 2, 3, 5])] ?_
    refine And.intro (fun h => j102 li (fun c => h c.1) h2) (fun h => ?_)
    refine And.intro hv ?_
    refine And.intro (fun h3 => j102 li (fun c => c.2 h3) h2) (fun h3 => ?_)
    refine And.intro trivial ?_
    exact j131 (q1.1, q1.2.1, q1.2.2 ||| 2) li (by rw [if_pos ⟨h, h3⟩, if_pos ⟨h, h3⟩]) h2
  have j73 : ¬ (lcP (chr t n (p + 2)) ∧ ¬ fdP (chr t n) (p + 3) ∧ hsP q1.2.1 (chr t n (p + 2) - 97)) → XW l 3 q_M_assign (fun u w => u = none ∧ w = vM (sD y D res) b) 73 [(0, .ref 0), (2, .int (chr t n p - 97)), (3, .int sv)] [] (vM (sD y D q1) b) := by
    intro hc
    refine xw_go xcls ok_M_assign 60 [(74, [0, 2, 3])] ?_
    exact j74 0 (by rw [bI, if_neg hc])
  have j42 : ∀ pl : Int32, (pl = 1 ∧ lcP (chr t n (p + 2)) ∧ ¬ fdP (chr t n) (p + 3)) ∨ (pl = 0 ∧ ¬ (lcP (chr t n (p + 2)) ∧ ¬ fdP (chr t n) (p + 3))) → XW l 3 q_M_assign (fun u w => u = none ∧ w = vM (sD y D res) b) 42 [(0, .ref 0), (1, .int (nI p)), (2, .int (chr t n p - 97)), (3, .int sv)] [.int pl] (vM (sD y D q1) b) := by
    intro pl hpl
    refine xw_go xcls ok_M_assign 60 [(73, [0, 2, 3]), (74, [0, 2, 3])] ?_
    rcases hpl with ⟨rfl, h1, h2⟩ | ⟨rfl, hc⟩
    · refine And.intro (fun c => absurd c (by decide)) (fun _ => ?_)
      refine ⟨0, _, _, by decide, c_M_at l (sD y D q1) b (p + 2) hp (by omega) (nI_p2 p), ?_⟩
      refine ⟨0, _, _, by decide, c_M_has l _ q1.2.1 (chr t n (p + 2) - 97), ?_⟩
      by_cases h3 : hsP q1.2.1 (chr t n (p + 2) - 97)
      · rw [show bI (hsP q1.2.1 (chr t n (p + 2) - 97)) = 1 by rw [bI, if_pos h3]]
        refine And.intro (fun c => absurd c (by decide)) (fun _ => ?_)
        exact j74 1 (by rw [bI, if_pos ⟨h1, h2, h3⟩])
      · rw [show bI (hsP q1.2.1 (chr t n (p + 2) - 97)) = 0 by rw [bI, if_neg h3]]
        refine And.intro (fun _ => ?_) (fun c => absurd rfl c)
        exact j73 (fun c => h3 c.2.2)
    · refine And.intro (fun _ => ?_) (fun c => absurd rfl c)
      exact j73 (fun c => hc ⟨c.1, c.2.1⟩)
  refine xw_go xcls ok_M_assign 60 [(42, [0, 1, 2, 3])] ?_
  refine ⟨0, _, _, by decide, c_M_at l (sD y D q) b p hp (by omega), ?_⟩
  refine ⟨2, _, _, by decide, csv, ?_⟩
  refine ⟨1, _, _, by decide, c_M_isLocal l (sD y D q1) b (p + 2) hp (by omega) (nI_p2 p), ?_⟩
  by_cases h1 : lcP (chr t n (p + 2))
  · rw [show bI (lcP (chr t n (p + 2))) = 1 by rw [bI, if_pos h1]]
    refine And.intro (fun c => absurd c (by decide)) (fun _ => ?_)
    refine ⟨1, _, _, by decide, c_M_isField l (sD y D q1) b (p + 3) hp (by omega) (nI_p3 p), ?_⟩
    by_cases h2 : fdP (chr t n) (p + 3)
    · rw [show bI (fdP (chr t n) (p + 3)) = 1 by rw [bI, if_pos h2]]
      refine And.intro (fun _ => ?_) (fun c => absurd c (by decide))
      exact j42 0 (Or.inr ⟨rfl, fun c => c.2 h2⟩)
    · rw [show bI (fdP (chr t n) (p + 3)) = 0 by rw [bI, if_neg h2]]
      refine And.intro (fun c => absurd rfl c) (fun _ => ?_)
      exact j42 1 (Or.inl ⟨rfl, h1, h2⟩)
  · rw [show bI (lcP (chr t n (p + 2))) = 0 by rw [bI, if_neg h1]]
    refine And.intro (fun _ => ?_) (fun c => absurd rfl c)
    exact j42 0 (Or.inr ⟨rfl, fun c => h1 c.1⟩)
/-- a field written -/
def mSto (c : Nat → Int32) (p : Nat) (q : ML) : ML :=
  ((mUse (c p - 97) (mSV c (p + 4) q).2).1,
   if c (p + 2) = 103 then (mSV c (p + 4) q).2.2.1 else if (mSV c (p + 4) q).1 = 0 then 0 else (mSV c (p + 4) q).2.2.1 ||| sb (c p - 97),
   if c (p + 2) = 103 ∧ (mSV c (p + 4) q).1 = 0 then (mUse (c p - 97) (mSV c (p + 4) q).2).2.2 ||| 2 else (mUse (c p - 97) (mSV c (p + 4) q).2).2.2)
theorem nI_p4 (i : Nat) : nI i + 4 = nI (i + 4) := nI_add i 4
set_option maxRecDepth 100000 in
set_option maxHeartbeats 2000000 in
theorem c_M_store (q : ML) (p : Nat) (hp : MT y t n) (hi : p < 700) : XMet l 3 q_M_store [.ref 0, .int (nI p)] (vM (sD y D q) b) none (vM (sD y D (mSto (chr t n) p q)) b) := by
  refine xm_intro (by decide +kernel) (Nat.le_of_ble_eq_true rfl) ?_
  refine xw_go xcls ok_M_store 60 [] ?_
  refine ⟨0, _, _, by decide, c_M_at l (sD y D q) b p hp (by omega), ?_⟩
  refine ⟨2, _, _, by decide, c_M_sureValue l y b D q (p + 4) hp (by omega) (nI_p4 p), ?_⟩
  unfold mSto
  generalize mSV (chr t n) (p + 4) q = f
  obtain ⟨sv, q1⟩ := f
  refine ⟨1, _, _, by decide, c_M_use l y b D q1 (chr t n p - 97), ?_⟩
  refine ⟨0, _, _, by decide, c_M_at l (sD y D (mUse (chr t n p - 97) q1)) b (p + 2) hp (by omega) (nI_p2 p), ?_⟩
  refine And.intro (fun h => ?_) (fun h => ?_)
  · refine And.intro (fun h2 => ?_) (fun h2 => ?_)
    · refine And.intro trivial (And.intro rfl ⟨rfl, ?_⟩)
      simp only [if_neg h, if_pos h2, if_neg (fun c : chr t n (p + 2) = 103 ∧ sv = 0 => h c.1)]; rfl
    · refine And.intro trivial (And.intro rfl ⟨rfl, ?_⟩)
      simp only [if_neg h, if_neg h2, if_neg (fun c : chr t n (p + 2) = 103 ∧ sv = 0 => h c.1)]; rfl
  · refine And.intro (fun h2 => ?_) (fun h2 => ?_)
    · refine And.intro trivial (And.intro rfl ⟨rfl, ?_⟩)
      simp only [if_pos h, if_pos (show chr t n (p + 2) = 103 ∧ sv = 0 from ⟨h, h2⟩)]; rfl
    · refine And.intro trivial (And.intro rfl ⟨rfl, ?_⟩)
      simp only [if_pos h, if_neg (fun c : chr t n (p + 2) = 103 ∧ sv = 0 => h2 c.2)]; rfl
end
end
section
/-! The reference: where ways go, joins -/
/-- from a on, at most f steps: the place where one comes -/
def Go (ro ow bh : Nat → Int32) (n : Nat) : Nat → Nat → Nat → Prop
  | 0, _, _ => False
  | f + 1, a, r => a ≤ n ∧ ((0 < ro a ∧ r = a) ∨ (¬ 0 < ro a ∧ ∃ p, p < 65 ∧ ow a = nI p ∧ ((ro p = 4 ∧ r = p + 1) ∨ (¬ ro p = 4 ∧ ∃ q, bh p = nI q ∧ Go ro ow bh n f q r))))
section
variable (l : Launch) (y : Sg) (b : Int64) {t : Nat → Int32} {n : Nat}
set_option maxRecDepth 100000 in
set_option maxHeartbeats 1000000 in
theorem lp_M_goes (hn : n ≤ 64) : ∀ (f a r : Nat), f ≤ 65 → Go (y 3) (y 4) (y 7) n f a r → XW l 0 q_M_goes (fun u w => u = some (.int (nI r)) ∧ w = vM y b) 4 [(0, .ref 0), (2, .int (nI a)), (3, .int (nI (65 - f)))] [] (vM y b)
  | 0, a, r, hf, h => h.elim
  | f + 1, a, r, hf, h => by
    obtain ⟨ha, h⟩ := h
    refine xw_go xcls ok_M_goes 60 [(4, [0, 2, 3])] ?_
    refine And.intro (fun q => absurd q (by rw [show (65 : Int32) = nI 65 from rfl, nI_le' (by omega) (by omega)]; omega)) (fun q => ?_)
    refine And.intro (in_nI (by omega) (by omega)) ?_
    rw [cl_nI (by omega)]
    rcases h with ⟨h1, rfl⟩ | ⟨h1, p, hp, e4, h⟩
    · refine And.intro (fun q => absurd h1 (Int32.not_lt.mpr q)) (fun q => ?_)
      exact And.intro trivial ⟨rfl, rfl⟩
    · refine And.intro (fun q => ?_) (fun q => absurd (Int32.not_lt.mp h1) q)
      refine And.intro (in_nI (by omega) (by omega)) ?_
      rw [cl_nI (by omega), e4]
      refine And.intro (in_nI (by omega) (by omega)) ?_
      rw [cl_nI (by omega)]
      rcases h with ⟨h2, rfl⟩ | ⟨h2, q2, e7, h⟩
      · refine And.intro (fun q => absurd h2 q) (fun q => ?_)
        exact And.intro trivial ⟨by rw [nI_p1], rfl⟩
      · refine And.intro (fun q => ?_) (fun q => absurd q h2)
        refine And.intro (in_nI (by omega) (by omega)) ?_
        rw [cl_nI (by omega), e7]
        have ih := lp_M_goes hn f q2 r (by omega) h
        rw [show nI (65 - f) = nI (65 - (f + 1)) + 1 by rw [nI_p1]; congr 1; omega] at ih
        exact ih
set_option maxRecDepth 100000 in
set_option maxHeartbeats 1000000 in
theorem c_M_goes (hn : n ≤ 64) (a r : Nat) (h : Go (y 3) (y 4) (y 7) n 65 a r) {x : Int32} (hx : x = nI a := by rfl) : XMet l 0 q_M_goes [.ref 0, .int x] (vM y b) (some (.int (nI r))) (vM y b) := by
  subst hx
  refine xm_intro (by decide +kernel) (Nat.le_of_ble_eq_true rfl) ?_
  refine xw_go xcls ok_M_goes 60 [(4, [0, 2, 3])] ?_
  exact lp_M_goes l y b hn 65 a r (by omega) h
/-- over atoms joined by &, to the last one's end -/
def Fs (c : Nat → Int32) : Nat → Nat → Nat → Prop
  | 0, j, r => r = j ∧ ¬ c j = 38
  | f + 1, j, r => (¬ c j = 38 ∧ r = j) ∨ (c j = 38 ∧ ∃ q, mAtm c (j + 1) = some q ∧ Fs c f q r)
/-- where an atom leads to -/
def Tr (c : Nat → Int32) (ro ow bo ot bh : Nat → Int32) (n p : Nat) (yes : Bool) (r : Nat) : Prop :=
  ∃ j o, mAtm c p = some j ∧ ow p = nI o ∧ o < 65 ∧ (match yes with
    | true => (c j = 38 ∧ r = j + 1) ∨ (¬ c j = 38 ∧ ∃ q, bo o = nI q ∧ Go ro ow bh n 65 q r)
    | false => ∃ k, Fs c 64 j k ∧ k < 900 ∧ ((c k = 124 ∧ r = k + 1) ∨ (¬ c k = 124 ∧ ((ro o = 3 ∧ 0 < ot o ∧ ∃ q, ot o = nI q ∧ Go ro ow bh n 65 q r) ∨ (¬ (ro o = 3 ∧ 0 < ot o) ∧ ∃ q, bh o = nI q ∧ Go ro ow bh n 65 q r)))))
set_option maxRecDepth 100000 in
set_option maxHeartbeats 1000000 in
theorem lp_M_turn (hp : MT y t n) (o : Nat) (Rt : Option Value → List va_E → Prop) (k : Nat) (K : XW l 3 q_M_turn Rt 80 [(0, .ref 0), (3, .int (nI k)), (4, .int (nI o))] [] (vM y b)) : ∀ (f j : Nat), f ≤ 64 → j < 700 → Fs (chr t n) f j k → XW l 3 q_M_turn Rt 49 [(0, .ref 0), (3, .int (nI j)), (4, .int (nI o)), (5, .int (nI (64 - f)))] [] (vM y b)
  | 0, j, hf, hj, h => by
    obtain ⟨rfl, h⟩ := h
    refine xw_go xcls ok_M_turn 60 [(80, [0, 3, 4])] ?_
    refine And.intro (fun q => K) (fun q => absurd (by decide) q)
  | f + 1, j, hf, hj, h => by
    have hn := hp.2.1
    refine xw_go xcls ok_M_turn 60 [(80, [0, 3, 4]), (49, [0, 3, 4, 5])] ?_
    refine And.intro (fun q => absurd q (by rw [show (64 : Int32) = nI 64 from rfl, nI_le' (by omega) (by omega)]; omega)) (fun q => ?_)
    refine ⟨0, _, _, by decide, c_M_at l y b j hp (by omega), ?_⟩
    rcases h with ⟨h, rfl⟩ | ⟨h, q2, e, h3⟩
    · refine And.intro (fun q => K) (fun q => absurd q h)
    · refine And.intro (fun q => absurd h q) (fun q => ?_)
      have hjn := chr_lt h (by decide)
      have hl := mAtm_le e
      have cm := c_M_atom l y b (j + 1) hp (by omega) (nI_p1 j)
      rw [e] at cm
      refine ⟨2, _, _, by decide, cm, ?_⟩
      have ih := lp_M_turn hp o Rt k K f q2 (by omega) (by omega) h3
      rw [show nI (64 - f) = nI (64 - (f + 1)) + 1 by rw [nI_p1]; congr 1; omega] at ih
      exact ih
set_option maxRecDepth 100000 in
set_option maxHeartbeats 1000000 in
theorem c_M_turn (hp : MT y t n) (p r : Nat) (hpn : p ≤ n) (yes : Bool) (h : Tr (chr t n) (y 3) (y 4) (y 5) (y 6) (y 7) n p yes r) {v : Int32} (hv : v = b01 yes := by rfl) : XMet l 3 q_M_turn [.ref 0, .int (nI p), .int v] (vM y b) (some (.int (nI r))) (vM y b) := by
  subst hv
  have hn := hp.2.1
  obtain ⟨j, o, e1, e2, ho, h⟩ := h
  have hl := mAtm_le e1
  have cm := c_M_atom l y b p hp (by omega)
  rw [e1] at cm
  refine xm_intro (by decide +kernel) (Nat.le_of_ble_eq_true rfl) ?_
  refine xw_go xcls ok_M_turn 60 [(49, [0, 3, 4, 5])] ?_
  refine ⟨2, _, _, by decide, cm, ?_⟩
  refine And.intro (in_nI (by omega) (by omega)) ?_
  rw [cl_nI (by omega), e2]
  cases yes with
  | true =>
    refine And.intro (fun q => absurd q (by decide)) (fun _ => ?_)
    refine ⟨0, _, _, by decide, c_M_at l y b j hp (by omega), ?_⟩
    rcases h with ⟨h, rfl⟩ | ⟨h, q2, e5, hg⟩
    · refine And.intro (fun q => absurd h q) (fun q => ?_)
      exact And.intro trivial ⟨congrArg (fun x => some (Value.int x)) (nI_p1 j), rfl⟩
    · refine And.intro (fun q => ?_) (fun q => absurd q h)
      refine And.intro (in_nI (by omega) (by omega)) ?_
      rw [cl_nI (by omega)]
      refine ⟨0, _, _, by decide, c_M_goes l y b hn q2 r hg e5, ?_⟩
      exact And.intro trivial ⟨rfl, rfl⟩
  | false =>
    refine And.intro (fun _ => ?_) (fun q => absurd rfl q)
    obtain ⟨k, hfs, hk, h⟩ := h
    refine lp_M_turn l y b hp o _ k ?_ 64 j (by omega) (by omega) hfs
    refine xw_go xcls ok_M_turn 60 [(126, [0, 4])] ?_
    refine ⟨0, _, _, by decide, c_M_at l y b k hp (by omega), ?_⟩
    rcases h with ⟨h, rfl⟩ | ⟨h, h2⟩
    · refine And.intro (fun q => absurd h q) (fun q => ?_)
      exact And.intro trivial ⟨by rw [nI_p1], rfl⟩
    · refine And.intro (fun q => ?_) (fun q => absurd q h)
      refine And.intro (in_nI (by omega) (by omega)) ?_
      rw [cl_nI (by omega)]
      rcases h2 with ⟨g1, g2, q2, e6, h2⟩ | ⟨g, q2, e7, h2⟩
      · refine And.intro (fun q => absurd g1 q) (fun q => ?_)
        refine And.intro (in_nI (by omega) (by omega)) ?_
        rw [cl_nI (by omega)]
        refine And.intro (fun q => absurd g2 (Int32.not_lt.mpr q)) (fun q => ?_)
        refine And.intro (in_nI (by omega) (by omega)) ?_
        rw [cl_nI (by omega)]
        refine ⟨0, _, _, by decide, c_M_goes l y b hn q2 r h2 e6, ?_⟩
        exact And.intro trivial ⟨rfl, rfl⟩
      · have j126 : XW l 3 q_M_turn (fun u w => u = some (.int (nI r)) ∧ w = vM y b) 126 [(0, .ref 0), (4, .int (nI o))] [.ref 0] (vM y b) := by
          refine xw_go xcls ok_M_turn 60 [] ?_
          refine And.intro (in_nI (by omega) (by omega)) ?_
          rw [cl_nI (by omega)]
          refine ⟨0, _, _, by decide, c_M_goes l y b hn q2 r h2 e7, ?_⟩
          exact And.intro trivial ⟨rfl, rfl⟩
        refine And.intro (fun q => j126) (fun q => ?_)
        refine And.intro (in_nI (by omega) (by omega)) ?_
        rw [cl_nI (by omega)]
        refine And.intro (fun q3 => j126) (fun q3 => ?_)
        exact absurd ⟨q, Int32.not_le.mp q3⟩ g
end
end
section
/-! The reference: joins, the work at a place, rounds -/
/-- a state joined at a place -/
def mJn (p : Nat) (q : ML) (D : MD) : MD :=
  (upd D.1 p 1, upd D.2.1 p (if D.1 p = 0 then q.1 else D.2.1 p &&& q.1), upd D.2.2.1 p (if D.1 p = 0 then q.2.1 else D.2.2.1 p &&& q.2.1), D.2.2.2.1,
   if ¬ D.2.2.2.2 = 0 ∨ D.1 p = 0 ∨ ¬ (if D.1 p = 0 then q.1 else D.2.1 p &&& q.1) = D.2.1 p ∨ ¬ (if D.1 p = 0 then q.2.1 else D.2.2.1 p &&& q.2.1) = D.2.2.1 p then 1 else 0)
section
variable (l : Launch) (y : Sg) (b : Int64) {t : Nat → Int32} {n : Nat}
set_option maxRecDepth 100000 in
set_option maxHeartbeats 2000000 in
theorem c_M_join (D : MD) (q : ML) (p : Nat) (hp : p < 65) {x : Int32} (hx : x = nI p := by rfl) : XMet l 0 q_M_join [.ref 0, .int x] (vM (sD y D q) b) none (vM (sD y (mJn p q D) q) b) := by
  subst hx
  refine xm_intro (by decide +kernel) (Nat.le_of_ble_eq_true rfl) ?_
  generalize ha : (if D.1 p = 0 then q.1 else D.2.1 p &&& q.1) = av
  generalize hb : (if D.1 p = 0 then q.2.1 else D.2.2.1 p &&& q.2.1) = bv
  generalize hc : (if ¬ D.2.2.2.2 = 0 ∨ D.1 p = 0 ∨ ¬ av = D.2.1 p ∨ ¬ bv = D.2.2.1 p then (1 : Int32) else 0) = cv
  have hm : mJn p q D = (upd D.1 p 1, upd D.2.1 p av, upd D.2.2.1 p bv, D.2.2.2.1, cv) := by rw [← hc, ← ha, ← hb]; rfl
  rw [hm]
  have j92 : ∀ c : Int32, c = cv → XW l 0 q_M_join (fun u w => u = none ∧ w = vM (sD y (upd D.1 p 1, upd D.2.1 p av, upd D.2.2.1 p bv, D.2.2.2.1, cv) q) b) 92 [(0, .ref 0), (1, .int (nI p)), (3, .int av), (4, .int bv)] [.int c, .ref 0] (vM (sD y D q) b) := by
    intro c hcc
    subst hcc
    refine xw_go xcls ok_M_join 60 [] ?_
    refine And.intro (by rw [← hc]; split <;> simp [xfit]) ?_
    refine And.intro (in_nI (by omega) (by omega)) ?_
    rw [cl_nI (by omega)]
    refine And.intro (in_nI (by omega) (by omega)) ?_
    rw [cl_nI (by omega)]
    refine And.intro (in_nI (by omega) (by omega)) ?_
    rw [cl_nI (by omega)]
    exact And.intro rfl ⟨rfl, rfl⟩
  have j87 : (¬ D.2.2.2.2 = 0 ∨ D.1 p = 0 ∨ ¬ av = D.2.1 p ∨ ¬ bv = D.2.2.1 p) → XW l 0 q_M_join (fun u w => u = none ∧ w = vM (sD y (upd D.1 p 1, upd D.2.1 p av, upd D.2.2.1 p bv, D.2.2.2.1, cv) q) b) 87 [(0, .ref 0), (1, .int (nI p)), (3, .int av), (4, .int bv)] [.ref 0] (vM (sD y D q) b) := by
    intro h
    refine xw_go xcls ok_M_join 60 [(92, [0, 1, 3, 4])] ?_
    exact j92 1 (by rw [← hc, if_pos h])
  have j52 : ∀ x : Int32, x = bv → XW l 0 q_M_join (fun u w => u = none ∧ w = vM (sD y (upd D.1 p 1, upd D.2.1 p av, upd D.2.2.1 p bv, D.2.2.2.1, cv) q) b) 52 [(0, .ref 0), (1, .int (nI p)), (2, .int (D.1 p)), (3, .int av)] [.int x] (vM (sD y D q) b) := by
    intro x hx
    subst hx
    refine xw_go xcls ok_M_join 60 [(92, [0, 1, 3, 4]), (87, [0, 1, 3, 4])] ?_
    refine And.intro (fun h => j87 (Or.inl h)) (fun h => ?_)
    refine And.intro (fun h2 => j87 (Or.inr (Or.inl h2))) (fun h2 => ?_)
    refine And.intro (in_nI (by omega) (by omega)) ?_
    rw [cl_nI (by omega)]
    refine And.intro (fun h3 => j87 (Or.inr (Or.inr (Or.inl h3)))) (fun h3 => ?_)
    refine And.intro (in_nI (by omega) (by omega)) ?_
    rw [cl_nI (by omega)]
    refine And.intro (fun h4 => ?_) (fun h4 => j87 (Or.inr (Or.inr (Or.inr h4))))
    exact j92 0 (by rw [← hc, if_neg (fun c => c.elim (fun c => c h) (fun c => c.elim h2 (fun c => c.elim (fun c => c h3) (fun c => c h4))))])
  have j29 : ∀ x : Int32, x = av → XW l 0 q_M_join (fun u w => u = none ∧ w = vM (sD y (upd D.1 p 1, upd D.2.1 p av, upd D.2.2.1 p bv, D.2.2.2.1, cv) q) b) 29 [(0, .ref 0), (1, .int (nI p)), (2, .int (D.1 p))] [.int x] (vM (sD y D q) b) := by
    intro x hx
    subst hx
    refine xw_go xcls ok_M_join 60 [(52, [0, 1, 2, 3])] ?_
    refine And.intro (fun h => ?_) (fun h => ?_)
    · exact j52 q.2.1 (by rw [← hb, if_pos h])
    · refine And.intro (in_nI (by omega) (by omega)) ?_
      rw [cl_nI (by omega)]
      exact j52 (D.2.2.1 p &&& q.2.1) (by rw [← hb, if_neg h])
  refine xw_go xcls ok_M_join 60 [(29, [0, 1, 2])] ?_
  refine And.intro (in_nI (by omega) (by omega)) ?_
  rw [cl_nI (by omega)]
  refine And.intro (fun h => ?_) (fun h => ?_)
  · have h : D.1 p = 0 := h
    exact j29 q.1 (by rw [← ha, if_pos h])
  · refine And.intro (in_nI (by omega) (by omega)) ?_
    rw [cl_nI (by omega)]
    have h : ¬ D.1 p = 0 := h
    exact j29 (D.2.1 p &&& q.1) (by rw [← ha, if_neg h])
/-- at an atom: behind a use; then what is known on the other way -/
def mB1 (c : Nat → Int32) (p : Nat) (q : ML) : ML := if fdP c (aNm c p + 1) then mUse (c (aNm c p) - 97) q else q
def mB2 (c : Nat → Int32) (p : Nat) (q : ML) : ML := if c (aNm c p) = 37 then q else
  (if fdP c (aNm c p + 1) then q.1 else q.1 ||| sb (c (aNm c p) - 97), if fdP c (aNm c p + 1) ∧ c (aNm c p + 2) = 104 then q.2.1 ||| sb (c (aNm c p) - 97) else q.2.1, q.2.2)
/-- u: where one goes if what the atom names holds an object; v: if it holds nothing -/
def mBr (c : Nat → Int32) (p u v : Nat) (q : ML) (D : MD) : MD × ML := (mJn u (mB2 c p (mB1 c p q)) (mJn v (mB1 c p q) D), mB2 c p (mB1 c p q))
set_option maxRecDepth 100000 in
set_option maxHeartbeats 4000000 in
theorem c_M_branch (D : MD) (q : ML) (hp : MT y t n) (p u v : Nat) (hpn : p ≤ n) (hu : u < 65) (hv : v < 65) (h1 : Tr (chr t n) (y 3) (y 4) (y 5) (y 6) (y 7) n p (decide (¬ chr t n p = 126)) u) (h0 : Tr (chr t n) (y 3) (y 4) (y 5) (y 6) (y 7) n p (decide (chr t n p = 126)) v) : XMet l 4 q_M_branch [.ref 0, .int (nI p)] (vM (sD y D q) b) none (vM (sD y (mBr (chr t n) p u v q D).1 (mBr (chr t n) p u v q D).2) b) := by
  have hn := hp.2.1
  have hnm : p ≤ aNm (chr t n) p ∧ aNm (chr t n) p ≤ p + 1 := by unfold aNm; split <;> omega
  refine xm_intro (by decide +kernel) (Nat.le_of_ble_eq_true rfl) ?_
  generalize hq1 : mB1 (chr t n) p q = q1
  generalize hq2 : mB2 (chr t n) p q1 = q2
  have hmb : mBr (chr t n) p u v q D = (mJn u q2 (mJn v q1 D), q2) := by unfold mBr; rw [hq1, hq2]
  rw [hmb]
  have j159 : ∀ x : Int32, x = b01 (decide (¬ chr t n p = 126)) → XW l 4 q_M_branch (fun a w => a = none ∧ w = vM (sD y (mJn u q2 (mJn v q1 D)) q2) b) 159 [(0, .ref 0)] [.int x, .int (nI p), .ref 0] (vM (sD y (mJn v q1 D) q2) b) := by
    intro x hx
    refine xw_go xcls ok_M_branch 60 [] ?_
    refine ⟨3, _, _, by decide, c_M_turn l (sD y (mJn v q1 D) q2) b hp p u hpn _ h1 hx, ?_⟩
    refine ⟨0, _, _, by decide, c_M_join l y b (mJn v q1 D) q2 u hu, ?_⟩
    exact And.intro rfl ⟨rfl, rfl⟩
  have j148 : XW l 4 q_M_branch (fun a w => a = none ∧ w = vM (sD y (mJn u q2 (mJn v q1 D)) q2) b) 148 [(0, .ref 0), (1, .int (nI p)), (2, .int (b01 (decide (chr t n p = 126))))] [] (vM (sD y (mJn v q1 D) q2) b) := by
    refine xw_go xcls ok_M_branch 60 [(159, [0])] ?_
    by_cases h : chr t n p = 126
    · refine And.intro (fun _ => ?_) (fun c => absurd c (by simp [b01, h]))
      exact j159 0 (by simp [b01, h])
    · refine And.intro (fun c => absurd (show b01 (decide (chr t n p = 126)) = 0 by simp [b01, h]) c) (fun _ => ?_)
      exact j159 1 (by simp [b01, h])
  have jl : ∀ (x s0 : Int32) (q3 : ML), ¬ chr t n (aNm (chr t n) p) = 37 → q3 = (s0, q1.2.1, q1.2.2) → s0 = q2.1 → x = q2.2.1 → XW l 4 q_M_branch (fun a w => a = none ∧ w = vM (sD y (mJn u q2 (mJn v q1 D)) q2) b) 145 [(0, .ref 0), (1, .int (nI p)), (2, .int (b01 (decide (chr t n p = 126))))] [.int x, .ref 0] (vM (sD y (mJn v q1 D) q3) b) := by
    intro x s0 q3 hc h1 h2 h3
    subst h1
    refine xw_go xcls ok_M_branch 60 [(148, [0, 1, 2])] ?_
    refine And.intro trivial ?_
    have e : q2 = (s0, x, q1.2.2) := by
      rw [h2, h3, ← hq2, mB2, if_neg hc]
    rw [e] at j148 ⊢
    exact j148
  have j112 : ∀ s0 : Int32, ¬ chr t n (aNm (chr t n) p) = 37 → s0 = q2.1 → XW l 4 q_M_branch (fun a w => a = none ∧ w = vM (sD y (mJn u q2 (mJn v q1 D)) q2) b) 112 [(0, .ref 0), (1, .int (nI p)), (2, .int (b01 (decide (chr t n p = 126)))), (3, .int (nI (aNm (chr t n) p))), (4, .int (chr t n (aNm (chr t n) p) - 97)), (5, .int (bI (fdP (chr t n) (aNm (chr t n) p + 1)))), (7, .int q1.2.1)] [.int s0, .ref 0] (vM (sD y (mJn v q1 D) q1) b) := by
    intro s0 hc h2
    refine xw_go xcls ok_M_branch 60 [(145, [0, 1, 2])] ?_
    refine And.intro trivial ?_
    have e2 : q2.2.1 = if fdP (chr t n) (aNm (chr t n) p + 1) ∧ chr t n (aNm (chr t n) p + 2) = 104 then q1.2.1 ||| sb (chr t n (aNm (chr t n) p) - 97) else q1.2.1 := by rw [← hq2, mB2, if_neg hc]
    by_cases hf : fdP (chr t n) (aNm (chr t n) p + 1)
    · rw [show bI (fdP (chr t n) (aNm (chr t n) p + 1)) = 1 by rw [bI, if_pos hf]]
      refine And.intro (fun c => absurd c (by decide)) (fun _ => ?_)
      refine ⟨0, _, _, by decide, c_M_at l (sD y (mJn v q1 D) (s0, q1.2.1, q1.2.2)) b (aNm (chr t n) p + 2) hp (by omega) (nI_p2 _), ?_⟩
      refine And.intro (fun h4 => ?_) (fun h4 => ?_)
      · exact jl q1.2.1 s0 _ hc rfl h2 (by rw [e2, if_neg (fun c => h4 c.2)])
      · exact jl (q1.2.1 ||| sb (chr t n (aNm (chr t n) p) - 97)) s0 _ hc rfl h2 (by rw [e2, if_pos ⟨hf, h4⟩])
    · rw [show bI (fdP (chr t n) (aNm (chr t n) p + 1)) = 0 by rw [bI, if_neg hf]]
      refine And.intro (fun _ => ?_) (fun c => absurd rfl c)
      exact jl q1.2.1 s0 _ hc rfl h2 (by rw [e2, if_neg (fun c => hf c.1)])
  have j58 : XW l 4 q_M_branch (fun a w => a = none ∧ w = vM (sD y (mJn u q2 (mJn v q1 D)) q2) b) 58 [(0, .ref 0), (1, .int (nI p)), (2, .int (b01 (decide (chr t n p = 126)))), (3, .int (nI (aNm (chr t n) p))), (4, .int (chr t n (aNm (chr t n) p) - 97)), (5, .int (bI (fdP (chr t n) (aNm (chr t n) p + 1))))] [] (vM (sD y D q1) b) := by
    refine xw_go xcls ok_M_branch 60 [(148, [0, 1, 2]), (112, [0, 1, 2, 3, 4, 5, 7])] ?_
    refine ⟨3, _, _, by decide, c_M_turn l (sD y D q1) b hp p v hpn _ h0, ?_⟩
    refine ⟨0, _, _, by decide, c_M_join l y b D q1 v hv, ?_⟩
    refine ⟨0, _, _, by decide, c_M_at l (sD y (mJn v q1 D) q1) b (aNm (chr t n) p) hp (by omega), ?_⟩
    refine And.intro (fun h => ?_) (fun h => ?_)
    · have e : q2 = q1 := by rw [← hq2, mB2, if_pos h]
      rw [e] at j148 ⊢
      exact j148
    · have e1 : q2.1 = if fdP (chr t n) (aNm (chr t n) p + 1) then q1.1 else q1.1 ||| sb (chr t n (aNm (chr t n) p) - 97) := by rw [← hq2, mB2, if_neg h]
      by_cases hf : fdP (chr t n) (aNm (chr t n) p + 1)
      · rw [show bI (fdP (chr t n) (aNm (chr t n) p + 1)) = 1 by rw [bI, if_pos hf]] at j112 ⊢
        refine And.intro (fun c => absurd c (by decide)) (fun _ => ?_)
        exact j112 q1.1 h (by rw [e1, if_pos hf])
      · rw [show bI (fdP (chr t n) (aNm (chr t n) p + 1)) = 0 by rw [bI, if_neg hf]] at j112 ⊢
        refine And.intro (fun _ => ?_) (fun c => absurd rfl c)
        exact j112 (q1.1 ||| sb (chr t n (aNm (chr t n) p) - 97)) h (by rw [e1, if_neg hf])
  have j27 : ∀ x : Int32, x = nI (aNm (chr t n) p) → XW l 4 q_M_branch (fun a w => a = none ∧ w = vM (sD y (mJn u q2 (mJn v q1 D)) q2) b) 27 [(0, .ref 0), (1, .int (nI p)), (2, .int (b01 (decide (chr t n p = 126))))] [.int x] (vM (sD y D q) b) := by
    intro x hx
    subst hx
    refine xw_go xcls ok_M_branch 60 [(58, [0, 1, 2, 3, 4, 5])] ?_
    refine ⟨0, _, _, by decide, c_M_at l (sD y D q) b (aNm (chr t n) p) hp (by omega), ?_⟩
    refine ⟨1, _, _, by decide, c_M_isField l (sD y D q) b (aNm (chr t n) p + 1) hp (by omega) (nI_p1 _), ?_⟩
    by_cases hf : fdP (chr t n) (aNm (chr t n) p + 1)
    · have e : q1 = mUse (chr t n (aNm (chr t n) p) - 97) q := by rw [← hq1, mB1, if_pos hf]
      rw [show bI (fdP (chr t n) (aNm (chr t n) p + 1)) = 1 by rw [bI, if_pos hf]] at j58 ⊢
      refine And.intro (fun c => absurd c (by decide)) (fun _ => ?_)
      refine ⟨1, _, _, by decide, c_M_use l y b D q (chr t n (aNm (chr t n) p) - 97), ?_⟩
      rw [← e]
      exact j58
    · have e : q1 = q := by rw [← hq1, mB1, if_neg hf]
      rw [show bI (fdP (chr t n) (aNm (chr t n) p + 1)) = 0 by rw [bI, if_neg hf]] at j58 ⊢
      refine And.intro (fun _ => ?_) (fun c => absurd rfl c)
      rw [e] at j58 ⊢
      exact j58
  refine xw_go xcls ok_M_branch 60 [(27, [0, 1, 2])] ?_
  refine ⟨0, _, _, by decide, c_M_at l (sD y D q) b p hp (by omega), ?_⟩
  by_cases h : chr t n p = 126
  · rw [show b01 (decide (chr t n p = 126)) = 1 by simp [b01, h]] at j27
    refine And.intro (fun c => absurd h c) (fun _ => ?_)
    refine And.intro (fun c => absurd c (by decide)) (fun _ => ?_)
    exact j27 _ (by rw [nI_p1, aNm, if_pos h])
  · rw [show b01 (decide (chr t n p = 126)) = 0 by simp [b01, h]] at j27
    refine And.intro (fun _ => ?_) (fun c => absurd c h)
    refine And.intro (fun _ => ?_) (fun c => absurd rfl c)
    exact j27 _ (by rw [aNm, if_neg h])
end
end
section
/-! The reference: flow, study -/
abbrev DQ : Type := MD × ML
/-- where the ways go: w behind a statement; u, v from an atom -/
def MPr (y : Sg) (c : Nat → Int32) (n : Nat) (w u v : Nat → Nat) : Prop := ∀ p, p ≤ n →
  (y 3 p = 7 → Tr c (y 3) (y 4) (y 5) (y 6) (y 7) n p (decide (¬ c p = 126)) (u p) ∧ Tr c (y 3) (y 4) (y 5) (y 6) (y 7) n p (decide (c p = 126)) (v p) ∧ u p ≤ n ∧ v p ≤ n) ∧
  (y 3 p = 3 ∨ y 3 p = 4 → p + 1 ≤ n) ∧
  (y 3 p = 1 ∨ y 3 p = 2 ∨ y 3 p = 5 → ∃ q, y 7 p = nI q ∧ Go (y 3) (y 4) (y 7) n 65 q (w p) ∧ w p ≤ n) ∧
  (y 3 p = 1 → vp_in (c p - 97) 5) ∧ (∃ k, k ≤ 8 ∧ y 3 p = nI k)
def mWk (y : Sg) (c : Nat → Int32) (w u v : Nat → Nat) (p : Nat) (D : MD) : DQ :=
  if y 3 p = 7 then mBr c p (u p) (v p) (D.2.1 p, D.2.2.1 p, 0) D
  else if y 3 p = 3 ∨ y 3 p = 4 then (mJn (p + 1) (D.2.1 p, D.2.2.1 p, 0) D, (D.2.1 p, D.2.2.1 p, 0))
  else if y 3 p = 1 then (mJn (w p) (mAs c (y 2) p (D.2.1 p, D.2.2.1 p, 0)) D, mAs c (y 2) p (D.2.1 p, D.2.2.1 p, 0))
  else if y 3 p = 2 then (mJn (w p) (mSto c p (D.2.1 p, D.2.2.1 p, 0)) D, mSto c p (D.2.1 p, D.2.2.1 p, 0))
  else if y 3 p = 5 then (mJn (w p) (D.2.1 p, 0, 0) D, (D.2.1 p, 0, 0))
  else (D, (D.2.1 p, D.2.2.1 p, 0))
def mFl (y : Sg) (c : Nat → Int32) (w u v : Nat → Nat) (p : Nat) (s : DQ) : DQ :=
  (((mWk y c w u v p s.1).1.1, (mWk y c w u v p s.1).1.2.1, (mWk y c w u v p s.1).1.2.2.1, upd (mWk y c w u v p s.1).1.2.2.2.1 p (mWk y c w u v p s.1).2.2.2, (mWk y c w u v p s.1).1.2.2.2.2), (mWk y c w u v p s.1).2)
section
variable (l : Launch) (y : Sg) (b : Int64) {t : Nat → Int32} {n : Nat}
set_option maxRecDepth 100000 in
set_option maxHeartbeats 2000000 in
theorem c_M_flow (w u v : Nat → Nat) (hp : MT y t n) (hm : MPr y (chr t n) n w u v) (s : DQ) (p : Nat) (hpn : p ≤ n) (hr0 : 0 < y 3 p) : XMet l 5 q_M_flow [.ref 0, .int (nI p)] (vM (sD y s.1 s.2) b) none (vM (sD y (mFl y (chr t n) w u v p s).1 (mFl y (chr t n) w u v p s).2) b) := by
  have hn := hp.2.1
  obtain ⟨D, q⟩ := s
  obtain ⟨m1, m2, m3, m4, k8, hk8, ek8⟩ := hm p hpn
  refine xm_intro (by decide +kernel) (Nat.le_of_ble_eq_true rfl) ?_
  unfold mFl
  generalize hg : mWk y (chr t n) w u v p D = g
  have j : ∀ (D' : MD) (q' : ML), g = (D', q') → XW l 5 q_M_flow (fun a x => a = none ∧ x = vM (sD y (g.1.1, g.1.2.1, g.1.2.2.1, upd g.1.2.2.2.1 p g.2.2.2, g.1.2.2.2.2) g.2) b) 142 [(0, .ref 0), (1, .int (nI p))] [] (vM (sD y D' q') b) := by
    intro D' q' e
    subst e
    refine xw_go xcls ok_M_flow 60 [] ?_
    refine And.intro (in_nI (by omega) (by omega)) ?_
    rw [cl_nI (by omega)]
    exact And.intro rfl ⟨rfl, rfl⟩
  have j126 : ∀ (q' : ML), (y 3 p = 1 ∨ y 3 p = 2 ∨ y 3 p = 5) → g = (mJn (w p) q' D, q') → XW l 5 q_M_flow (fun a x => a = none ∧ x = vM (sD y (g.1.1, g.1.2.1, g.1.2.2.1, upd g.1.2.2.2.1 p g.2.2.2, g.1.2.2.2.2) g.2) b) 126 [(0, .ref 0), (1, .int (nI p))] [] (vM (sD y D q') b) := by
    intro q' hr e
    obtain ⟨z, e7, hgo, hw⟩ := m3 hr
    refine xw_go xcls ok_M_flow 60 [(142, [0, 1])] ?_
    refine And.intro (in_nI (by omega) (by omega)) ?_
    rw [cl_nI (by omega)]
    refine ⟨0, _, _, by decide, c_M_goes l (sD y D q') b hn z (w p) hgo e7, ?_⟩
    refine ⟨0, _, _, by decide, c_M_join l y b D q' (w p) (by omega), ?_⟩
    exact j _ _ e
  have j64 : (y 3 p = 3 ∨ y 3 p = 4) → ¬ y 3 p = 7 → XW l 5 q_M_flow (fun a x => a = none ∧ x = vM (sD y (g.1.1, g.1.2.1, g.1.2.2.1, upd g.1.2.2.2.1 p g.2.2.2, g.1.2.2.2.2) g.2) b) 64 [(0, .ref 0), (1, .int (nI p))] [] (vM (sD y D (D.2.1 p, D.2.2.1 p, 0)) b) := by
    intro hr h7
    have hp1 := m2 hr
    refine xw_go xcls ok_M_flow 60 [(142, [0, 1])] ?_
    refine ⟨0, _, _, by decide, c_M_join l y b D (D.2.1 p, D.2.2.1 p, 0) (p + 1) (by omega) (nI_p1 p), ?_⟩
    exact j _ _ (by rw [← hg, mWk, if_neg h7, if_pos hr])
  refine xw_go xcls ok_M_flow 60 [(142, [0, 1]), (126, [0, 1]), (64, [0, 1])] ?_
  refine And.intro (in_nI (by omega) (by omega)) ?_
  rw [cl_nI (by omega)]
  refine And.intro trivial ?_
  refine And.intro (in_nI (by omega) (by omega)) ?_
  rw [cl_nI (by omega)]
  refine And.intro trivial ?_
  refine And.intro trivial ?_
  refine And.intro (in_nI (by omega) (by omega)) ?_
  rw [cl_nI (by omega)]
  refine And.intro (fun h => ?_) (fun h => ?_)
  · have h7 : ¬ y 3 p = 7 := h
    refine And.intro (in_nI (by omega) (by omega)) ?_
    rw [cl_nI (by omega)]
    refine And.intro (fun h => j64 (Or.inl h) h7) (fun h => ?_)
    have h3 : ¬ y 3 p = 3 := h
    refine And.intro (in_nI (by omega) (by omega)) ?_
    rw [cl_nI (by omega)]
    refine And.intro (fun h => ?_) (fun h => j64 (Or.inr h) h7)
    have h4 : ¬ y 3 p = 4 := h
    have h34 : ¬ (y 3 p = 3 ∨ y 3 p = 4) := fun c => c.elim h3 h4
    refine And.intro (in_nI (by omega) (by omega)) ?_
    rw [cl_nI (by omega)]
    refine And.intro (fun h => ?_) (fun h => ?_)
    · have h6 : (6 : Int32) ≤ y 3 p := h
      have n1 : ¬ y 3 p = 1 := fun c => by rw [c] at h6; exact absurd h6 (by decide)
      have n2 : ¬ y 3 p = 2 := fun c => by rw [c] at h6; exact absurd h6 (by decide)
      have n5 : ¬ y 3 p = 5 := fun c => by rw [c] at h6; exact absurd h6 (by decide)
      exact j D (D.2.1 p, D.2.2.1 p, 0) (by rw [← hg, mWk, if_neg h7, if_neg h34, if_neg n1, if_neg n2, if_neg n5])
    · have h6 : ¬ (6 : Int32) ≤ y 3 p := h
      refine And.intro (in_nI (by omega) (by omega)) ?_
      rw [cl_nI (by omega)]
      refine And.intro (fun h => ?_) (fun h => ?_)
      · have n1 : ¬ y 3 p = 1 := h
        refine And.intro (in_nI (by omega) (by omega)) ?_
        rw [cl_nI (by omega)]
        refine And.intro (fun h => ?_) (fun h => ?_)
        · have n2 : ¬ y 3 p = 2 := h
          refine And.intro trivial ?_
          by_cases h5 : y 3 p = 5
          · exact j126 (D.2.1 p, 0, 0) (Or.inr (Or.inr h5)) (by rw [← hg, mWk, if_neg h7, if_neg h34, if_neg n1, if_neg n2, if_pos h5])
          · exfalso
            rw [ek8, show (7 : Int32) = nI 7 from rfl, nI_eq' (by omega) (by omega)] at h7
            rw [ek8, show (3 : Int32) = nI 3 from rfl, nI_eq' (by omega) (by omega)] at h3
            rw [ek8, show (4 : Int32) = nI 4 from rfl, nI_eq' (by omega) (by omega)] at h4
            rw [ek8, show (1 : Int32) = nI 1 from rfl, nI_eq' (by omega) (by omega)] at n1
            rw [ek8, show (2 : Int32) = nI 2 from rfl, nI_eq' (by omega) (by omega)] at n2
            rw [ek8, show (5 : Int32) = nI 5 from rfl, nI_eq' (by omega) (by omega)] at h5
            rw [ek8, show (6 : Int32) = nI 6 from rfl, nI_le' (by omega) (by omega)] at h6
            rw [ek8, show (0 : Int32) = nI 0 from rfl, nI_lt' (by omega) (by omega)] at hr0
            omega
        · have h2 : y 3 p = 2 := h
          have n1' := n1
          refine ⟨3, _, _, by decide, c_M_store l y b D (D.2.1 p, D.2.2.1 p, 0) p hp (by omega), ?_⟩
          exact j126 _ (Or.inr (Or.inl h2)) (by rw [← hg, mWk, if_neg h7, if_neg h34, if_neg n1, if_pos h2])
      · have h1 : y 3 p = 1 := h
        refine ⟨3, _, _, by decide, c_M_assign l y b D (D.2.1 p, D.2.2.1 p, 0) p hp (by omega) (m4 h1), ?_⟩
        exact j126 _ (Or.inl h1) (by rw [← hg, mWk, if_neg h7, if_neg h34, if_pos h1])
  · have h7 : y 3 p = 7 := h
    obtain ⟨t1, t0, hu, hv⟩ := m1 h7
    refine ⟨4, _, _, by decide, c_M_branch l y b D (D.2.1 p, D.2.2.1 p, 0) hp p (u p) (v p) hpn (by omega) (by omega) t1 t0, ?_⟩
    exact j _ _ (by rw [← hg, mWk, if_pos h7])
/-- one round: m places from p on -/
def mIn (y : Sg) (c : Nat → Int32) (w u v : Nat → Nat) : Nat → Nat → DQ → DQ
  | 0, _, s => s
  | m + 1, p, s => mIn y c w u v m (p + 1) (if ¬ s.1.1 p = 0 ∧ 0 < y 3 p then mFl y c w u v p s else s)
def d0 (s : DQ) (ch : Int32) : DQ := ((s.1.1, s.1.2.1, s.1.2.2.1, s.1.2.2.2.1, ch), s.2)
def mOut (y : Sg) (c : Nat → Int32) (w u v : Nat → Nat) (n : Nat) : Nat → DQ → DQ
  | 0, s => s
  | m + 1, s => if s.1.2.2.2.2 = 0 then s else mOut y c w u v n m (mIn y c w u v (n + 1) 0 (d0 s 0))
set_option maxRecDepth 100000 in
set_option maxHeartbeats 1000000 in
theorem lp_M_in (w u v : Nat → Nat) (hp : MT y t n) (hm : MPr y (chr t n) n w u v) (rd : Int32) (Rt : Option Value → List va_E → Prop) : ∀ (m p : Nat) (s : DQ), p + m = n + 1 →
    XW l 6 q_M_study Rt 149 [(0, .ref 0), (1, .int rd)] [] (vM (sD y (mIn y (chr t n) w u v m p s).1 (mIn y (chr t n) w u v m p s).2) b) →
    XW l 6 q_M_study Rt 112 [(0, .ref 0), (1, .int rd), (2, .int (nI p))] [] (vM (sD y s.1 s.2) b)
  | 0, p, s, hpm, K => by
    have hn := hp.2.1
    refine xw_go xcls ok_M_study 40 [(149, [0, 1])] ?_
    refine And.intro (fun h => K) (fun h => ?_)
    have h : ¬ y 0 1 < nI p := h
    rw [hp.1, nI_lt' (by omega) (by omega)] at h
    omega
  | m + 1, p, s, hpm, K => by
    have hn := hp.2.1
    have stp : ∀ s' : DQ, s' = (if ¬ s.1.1 p = 0 ∧ 0 < y 3 p then mFl y (chr t n) w u v p s else s) → XW l 6 q_M_study Rt 143 [(0, .ref 0), (1, .int rd), (2, .int (nI p))] [] (vM (sD y s'.1 s'.2) b) := by
      intro s' hs
      subst hs
      have ih := lp_M_in w u v hp hm rd Rt m (p + 1) _ (by omega) K
      rw [← nI_p1] at ih
      refine xw_go xcls ok_M_study 40 [(112, [0, 1, 2])] ?_
      exact ih
    refine xw_go xcls ok_M_study 40 [(149, [0, 1]), (143, [0, 1, 2])] ?_
    refine And.intro (fun h => ?_) (fun h => ?_)
    · have h : y 0 1 < nI p := h
      rw [hp.1, nI_lt' (by omega) (by omega)] at h
      omega
    · refine And.intro (in_nI (by omega) (by omega)) ?_
      rw [cl_nI (by omega)]
      refine And.intro (fun h2 => ?_) (fun h2 => ?_)
      · have h2 : s.1.1 p = 0 := h2
        exact stp s (by rw [if_neg (fun c => c.1 h2)])
      · have h2 : ¬ s.1.1 p = 0 := h2
        refine And.intro (in_nI (by omega) (by omega)) ?_
        rw [cl_nI (by omega)]
        refine And.intro (fun h3 => ?_) (fun h3 => ?_)
        · have h3 : y 3 p ≤ 0 := h3
          exact stp s (by rw [if_neg (fun c => Int32.not_lt.mpr h3 c.2)])
        · have h3 : 0 < y 3 p := Int32.not_le.mp h3
          refine ⟨5, _, _, by decide, c_M_flow l y b w u v hp hm s p (by omega) h3, ?_⟩
          exact stp _ (by rw [if_pos ⟨h2, h3⟩])
set_option maxRecDepth 100000 in
set_option maxHeartbeats 1000000 in
theorem lp_M_out (w u v : Nat → Nat) (hp : MT y t n) (hm : MPr y (chr t n) n w u v) : ∀ (m : Nat) (s : DQ), m ≤ 1000 →
    XW l 6 q_M_study (fun a x => a = none ∧ x = vM (sD y (mOut y (chr t n) w u v n m s).1 (mOut y (chr t n) w u v n m s).2) b) 91 [(0, .ref 0), (1, .int (nI (1000 - m)))] [] (vM (sD y s.1 s.2) b)
  | 0, s, hmm => by
    refine xw_go xcls ok_M_study 40 [] ?_
    refine And.intro (fun h => ?_) (fun h => absurd (by decide) h)
    exact And.intro rfl ⟨rfl, rfl⟩
  | m + 1, ((Rc, Su, Li, Al, ch), q), hmm => by
    refine xw_go xcls ok_M_study 40 [(112, [0, 1, 2])] ?_
    refine And.intro (fun h => absurd h (by rw [show (1000 : Int32) = nI 1000 from rfl, nI_le' (by omega) (by omega)]; omega)) (fun h => ?_)
    refine And.intro (fun h2 => ?_) (fun h2 => ?_)
    · have h2 : ch = 0 := h2
      exact And.intro rfl ⟨rfl, by simp only [mOut, if_pos h2]⟩
    · have h2 : ¬ ch = 0 := h2
      refine And.intro (Or.inl rfl) ?_
      have e : mOut y (chr t n) w u v n (m + 1) ((Rc, Su, Li, Al, ch), q) = mOut y (chr t n) w u v n m (mIn y (chr t n) w u v (n + 1) 0 ((Rc, Su, Li, Al, 0), q)) := by simp only [mOut, if_neg h2]; rfl
      rw [e]
      have K : XW l 6 q_M_study (fun a x => a = none ∧ x = vM (sD y (mOut y (chr t n) w u v n m (mIn y (chr t n) w u v (n + 1) 0 ((Rc, Su, Li, Al, 0), q))).1 (mOut y (chr t n) w u v n m (mIn y (chr t n) w u v (n + 1) 0 ((Rc, Su, Li, Al, 0), q))).2) b) 149 [(0, .ref 0), (1, .int (nI (1000 - (m + 1))))] [] (vM (sD y (mIn y (chr t n) w u v (n + 1) 0 ((Rc, Su, Li, Al, 0), q)).1 (mIn y (chr t n) w u v (n + 1) 0 ((Rc, Su, Li, Al, 0), q)).2) b) := by
        have ih := lp_M_out w u v hp hm m (mIn y (chr t n) w u v (n + 1) 0 ((Rc, Su, Li, Al, 0), q)) (by omega)
        generalize mIn y (chr t n) w u v (n + 1) 0 ((Rc, Su, Li, Al, 0), q) = s2 at ih ⊢
        refine xw_go xcls ok_M_study 40 [(91, [0, 1])] ?_
        rw [show nI (1000 - m) = nI (1000 - (m + 1)) + 1 by rw [nI_p1]; congr 1; omega] at ih
        exact ih
      generalize mOut y (chr t n) w u v n m (mIn y (chr t n) w u v (n + 1) 0 ((Rc, Su, Li, Al, 0), q)) = s3 at K ⊢
      exact lp_M_in l y b w u v hp hm (nI (1000 - (m + 1))) _ (n + 1) 0 ((Rc, Su, Li, Al, 0), q) (by omega) K
/-- the solid names as bits -/
def mSol (so : Nat → Int32) : Nat → Int32
  | 0 => 0
  | k + 1 => if so k = 0 then mSol so k else mSol so k ||| sb (nI k)
/-- what study begins with -/
def mS0 (y : Sg) (s : DQ) : DQ := d0 (mJn 0 (mSol (y 2) 5, 0, s.2.2.2) (fFill 65 s.1.1 0 65, s.1.2.1, s.1.2.2.1, fFill 65 s.1.2.2.2.1 0 65, s.1.2.2.2.2), (mSol (y 2) 5, 0, s.2.2.2)) 1
set_option maxRecDepth 100000 in
set_option maxHeartbeats 1000000 in
theorem lp_M_sol (D : MD) (a : Int32) (Rt : Option Value → List va_E → Prop) (K : XW l 6 q_M_study Rt 79 [(0, .ref 0)] [] (vM (sD y D (mSol (y 2) 5, 0, a)) b)) : ∀ (m k : Nat), k + m = 5 → XW l 6 q_M_study Rt 40 [(0, .ref 0), (1, .int (nI k))] [] (vM (sD y D (mSol (y 2) k, 0, a)) b)
  | 0, k, hk => by
    have hk : k = 5 := hk
    subst hk
    refine xw_go xcls ok_M_study 40 [(79, [0])] ?_
    refine And.intro (fun h => K) (fun h => absurd (by decide) h)
  | m + 1, k, hk => by
    have ih := lp_M_sol D a Rt K m (k + 1) (by omega)
    rw [← nI_p1 k] at ih
    refine xw_go xcls ok_M_study 40 [(40, [0, 1])] ?_
    refine And.intro (fun h => absurd h (by rw [show (5 : Int32) = nI 5 from rfl, nI_le' (by omega) (by omega)]; omega)) (fun h => ?_)
    refine And.intro (in_nI (by omega) (by omega)) ?_
    rw [cl_nI (by omega)]
    refine And.intro (fun h2 => ?_) (fun h2 => ?_)
    · have h2 : y 2 k = 0 := h2
      refine And.intro trivial ?_
      rw [show mSol (y 2) (k + 1) = mSol (y 2) k by simp only [mSol, if_pos h2]] at ih
      exact ih
    · have h2 : ¬ y 2 k = 0 := h2
      refine And.intro trivial ?_
      rw [show mSol (y 2) (k + 1) = mSol (y 2) k ||| sb (nI k) by simp only [mSol, if_neg h2]] at ih
      exact ih
set_option maxRecDepth 100000 in
set_option maxHeartbeats 1000000 in
theorem lp_M_clr (s : DQ) (Rt : Option Value → List va_E → Prop) (K : XW l 6 q_M_study Rt 28 [(0, .ref 0)] [] (vM (sD y (fFill 65 s.1.1 0 65, s.1.2.1, s.1.2.2.1, fFill 65 s.1.2.2.2.1 0 65, s.1.2.2.2.2) s.2) b)) : ∀ (m k : Nat), k + m = 65 → XW l 6 q_M_study Rt 2 [(0, .ref 0), (1, .int (nI k))] [] (vM (sD y (fFill 65 s.1.1 0 k, s.1.2.1, s.1.2.2.1, fFill 65 s.1.2.2.2.1 0 k, s.1.2.2.2.2) s.2) b)
  | 0, k, hk => by
    have hk : k = 65 := hk
    subst hk
    refine xw_go xcls ok_M_study 40 [(28, [0])] ?_
    refine And.intro (fun h => K) (fun h => absurd (by decide) h)
  | m + 1, k, hk => by
    have ih := lp_M_clr s Rt K m (k + 1) (by omega)
    rw [← nI_p1 k, ← fFill_s, ← fFill_s] at ih
    refine xw_go xcls ok_M_study 40 [(2, [0, 1])] ?_
    refine And.intro (fun h => absurd h (by rw [show (65 : Int32) = nI 65 from rfl, nI_le' (by omega) (by omega)]; omega)) (fun h => ?_)
    refine And.intro (in_nI (by omega) (by omega)) ?_
    rw [cl_nI (by omega)]
    refine And.intro (in_nI (by omega) (by omega)) ?_
    rw [cl_nI (by omega)]
    exact ih
def mStd (y : Sg) (c : Nat → Int32) (w u v : Nat → Nat) (n : Nat) (s : DQ) : DQ := mOut y c w u v n 1000 (mS0 y s)
set_option maxRecDepth 100000 in
set_option maxHeartbeats 1000000 in
theorem c_M_study (w u v : Nat → Nat) (hp : MT y t n) (hm : MPr y (chr t n) n w u v) (s : DQ) : XMet l 6 q_M_study [.ref 0] (vM (sD y s.1 s.2) b) none (vM (sD y (mStd y (chr t n) w u v n s).1 (mStd y (chr t n) w u v n s).2) b) := by
  refine xm_intro (by decide +kernel) (Nat.le_of_ble_eq_true rfl) ?_
  refine xw_go xcls ok_M_study 40 [(2, [0, 1])] ?_
  have hc := lp_M_clr l y b s (fun a x => a = none ∧ x = vM (sD y (mStd y (chr t n) w u v n s).1 (mStd y (chr t n) w u v n s).2) b) ?_ 65 0 (by omega)
  · rw [show fFill 65 s.1.1 0 0 = s.1.1 from by funext i; simp [fFill], show fFill 65 s.1.2.2.2.1 0 0 = s.1.2.2.2.1 from by funext i; simp [fFill]] at hc
    exact hc
  · refine xw_go xcls ok_M_study 40 [(40, [0, 1])] ?_
    refine And.intro trivial ?_
    refine And.intro trivial ?_
    refine lp_M_sol l y b (fFill 65 s.1.1 0 65, s.1.2.1, s.1.2.2.1, fFill 65 s.1.2.2.2.1 0 65, s.1.2.2.2.2) s.2.2.2 _ ?_ 5 0 (by omega)
    refine xw_go xcls ok_M_study 40 [(91, [0, 1])] ?_
    refine ⟨0, _, _, by decide, c_M_join l y b (fFill 65 s.1.1 0 65, s.1.2.1, s.1.2.2.1, fFill 65 s.1.2.2.2.1 0 65, s.1.2.2.2.2) (mSol (y 2) 5, 0, s.2.2.2) 0 (by omega), ?_⟩
    refine And.intro (Or.inr rfl) ?_
    have ih := lp_M_out l y b w u v hp hm 1000 (mS0 y s) (by omega)
    have em : mOut y (chr t n) w u v n 1000 (mS0 y s) = mStd y (chr t n) w u v n s := rfl
    rw [em] at ih
    generalize mStd y (chr t n) w u v n s = s4 at ih ⊢
    exact ih
end
end
section
/-! The reference: its public questions about the text -/
/-- behind a good reading of the text -/
def yP (t : Nat → Int32) (n : Nat) (y : Sg) : Sg := us (mPar t n y).2.1 3 n 8
def dOf (y : Sg) : DQ := ((y 9, y 10, y 11, y 12, y 0 18), (y 0 15, y 0 16, y 0 17))
theorem vM_d (y : Sg) (b : Int64) : vM (sD y (dOf y).1 (dOf y).2) b = vM y b := rfl
/-- a cell that reading leaves as it was -/
theorem mPart_n {c : Nat → Int32} {y : Sg} {i a : Nat} {k : List Nat} (h0 : a ≠ 0) (h3 : a ≠ 3) (h4 : a ≠ 4) (h5 : a ≠ 5) (h6 : a ≠ 6) (h7 : a ≠ 7) (h8 : a ≠ 8) : (mPart c y i k).2.1 a = y a := by
  unfold mPart; split
  · cases k with
    | nil => rfl
    | cons h k =>
      simp only [mClose]; split
      · simp [us, mCl1, h0, h4, h6, h7, h8]
      · simp [us, mCl1, h0, h4, h7]
  · split
    · simp [us, h0, h3, h7]
    · split
      · unfold mIf
        have hq : (mCd c i 64 (us (us (us y 0 8 (y 0 8 + 1)) 3 i (if c i = 63 then 3 else 4)) 6 i 0) (i + 1)).2 a = y a := by rw [mCd_n h3 h4]; simp [us, h0, h3, h6]
        generalize mCd c i 64 (us (us (us y 0 8 (y 0 8 + 1)) 3 i (if c i = 63 then 3 else 4)) 6 i 0) (i + 1) = q at hq ⊢
        split
        · simp [us, h5, hq]
        · split
          · simp [us, h5, hq]
          · simp [us, h0, h5, h8, hq]
      · unfold mWt; split
        · simp [us, h0]
        · split
          · simp [us, h0, h3, h7]
          · simp [us, h0, h3, h7]
theorem mPart_0 {c : Nat → Int32} {y : Sg} {i j : Nat} {k : List Nat} (h8 : j ≠ 8) (h9 : j ≠ 9) : (mPart c y i k).2.1 0 j = y 0 j := by
  unfold mPart; split
  · cases k with
    | nil => rfl
    | cons h k =>
      simp only [mClose]; split
      · simp [us, upd, mCl1, h9]
      · simp [us, upd, mCl1, h9]
  · split
    · simp [us, upd, h8]
    · split
      · unfold mIf
        have hq : (mCd c i 64 (us (us (us y 0 8 (y 0 8 + 1)) 3 i (if c i = 63 then 3 else 4)) 6 i 0) (i + 1)).2 0 j = y 0 j := by rw [mCd_n (by decide) (by decide)]; simp [us, upd, h8]
        generalize mCd c i 64 (us (us (us y 0 8 (y 0 8 + 1)) 3 i (if c i = 63 then 3 else 4)) 6 i 0) (i + 1) = q at hq ⊢
        split
        · simp [us, hq]
        · split
          · simp [us, hq]
          · simp [us, upd, h9, hq]
      · unfold mWt; split
        · simp [us, upd, h8]
        · split
          · simp [us, upd, h8]
          · simp [us, upd, h8]
theorem mLoop_n {c : Nat → Int32} {n a : Nat} (h0 : a ≠ 0) (h3 : a ≠ 3) (h4 : a ≠ 4) (h5 : a ≠ 5) (h6 : a ≠ 6) (h7 : a ≠ 7) (h8 : a ≠ 8) : ∀ (m : Nat) (o : Option Nat) (y : Sg) (k : List Nat), (mLoop c n m o y k).2.1 a = y a
  | 0, o, y, k => rfl
  | m + 1, none, y, k => rfl
  | m + 1, some i, y, k => by
    unfold mLoop; split
    · rw [mLoop_n h0 h3 h4 h5 h6 h7 h8 m, mPart_n h0 h3 h4 h5 h6 h7 h8]
    · rfl
theorem mLoop_0 {c : Nat → Int32} {n j : Nat} (h8 : j ≠ 8) (h9 : j ≠ 9) : ∀ (m : Nat) (o : Option Nat) (y : Sg) (k : List Nat), (mLoop c n m o y k).2.1 0 j = y 0 j
  | 0, o, y, k => rfl
  | m + 1, none, y, k => rfl
  | m + 1, some i, y, k => by
    unfold mLoop; split
    · rw [mLoop_0 h8 h9 m, mPart_0 h8 h9]
    · rfl
theorem mPar_n {t : Nat → Int32} {n a : Nat} {y : Sg} (h0 : a ≠ 0) (h3 : a ≠ 3) (h4 : a ≠ 4) (h5 : a ≠ 5) (h6 : a ≠ 6) (h7 : a ≠ 7) (h8 : a ≠ 8) : (mPar t n y).2.1 a = y a := by
  unfold mPar; rw [mLoop_n h0 h3 h4 h5 h6 h7 h8]; simp [y0, us, uc, h0, h3]
theorem mPar_0 {t : Nat → Int32} {n j : Nat} {y : Sg} (h8 : j ≠ 8) (h9 : j ≠ 9) : (mPar t n y).2.1 0 j = y 0 j := by
  unfold mPar; rw [mLoop_0 h8 h9]; simp [y0, us, uc, upd, h8, h9]
theorem yP_n {t : Nat → Int32} {n a : Nat} {y : Sg} (h0 : a ≠ 0) (h3 : a ≠ 3) (h4 : a ≠ 4) (h5 : a ≠ 5) (h6 : a ≠ 6) (h7 : a ≠ 7) (h8 : a ≠ 8) : yP t n y a = y a := by
  unfold yP; rw [us_n h3, mPar_n h0 h3 h4 h5 h6 h7 h8]
theorem yP_0 {t : Nat → Int32} {n j : Nat} {y : Sg} (h8 : j ≠ 8) (h9 : j ≠ 9) : yP t n y 0 j = y 0 j := by
  unfold yP; rw [us_n (by decide), mPar_0 h8 h9]
theorem MT_yP {t : Nat → Int32} {n : Nat} {y : Sg} (h : MT y t n) : MT (yP t n y) t n := MT_c h (yP_0 (by decide) (by decide)) (yP_n (by decide) (by decide) (by decide) (by decide) (by decide) (by decide) (by decide))
theorem MT_mPar {t : Nat → Int32} {n : Nat} {y : Sg} (h : MT y t n) : MT (mPar t n y).2.1 t n := MT_c h (mPar_0 (by decide) (by decide)) (mPar_n (by decide) (by decide) (by decide) (by decide) (by decide) (by decide) (by decide))
section
variable (l : Launch) (y : Sg) (b : Int64) {t : Nat → Int32} {n : Nat}
theorem c_M_progY (hp : MT y t n) (h : mOk t n y) : XMet l 5 q_M_program [.ref 0] (vM y b) (some (.int 1)) (vM (yP t n y) b) := (c_M_program l b y hp).1 h
theorem c_M_progN (hp : MT y t n) (h : ¬ mOk t n y) : XMet l 5 q_M_program [.ref 0] (vM y b) (some (.int 0)) (vM (mPar t n y).2.1 b) := (c_M_program l b y hp).2 h
set_option maxRecDepth 100000 in
theorem c_M_statements (hp : MT y t n) (h : mOk t n y) : XMet l 6 q_M_statements [.ref 0] (vM y b) (some (.int (yP t n y 0 8))) (vM (yP t n y) b) := by
  refine xm_intro (by decide +kernel) (Nat.le_of_ble_eq_true rfl) ?_
  refine xw_go xcls ok_M_statements 40 [] ?_
  refine ⟨5, _, _, by decide, c_M_progY l y b hp h, ?_⟩
  refine And.intro (fun c => absurd c (by decide)) (fun _ => ?_)
  exact And.intro trivial ⟨rfl, rfl⟩
set_option maxRecDepth 100000 in
theorem c_M_statementsN (hp : MT y t n) (h : ¬ mOk t n y) : XMet l 6 q_M_statements [.ref 0] (vM y b) (some (.int (-1))) (vM (mPar t n y).2.1 b) := by
  refine xm_intro (by decide +kernel) (Nat.le_of_ble_eq_true rfl) ?_
  refine xw_go xcls ok_M_statements 40 [] ?_
  refine ⟨5, _, _, by decide, c_M_progN l y b hp h, ?_⟩
  refine And.intro (fun _ => ?_) (fun c => absurd rfl c)
  exact And.intro trivial ⟨rfl, rfl⟩
/-- a place that is in the text or just behind it -/
def inT (n : Nat) (p : Int32) : Prop := 0 ≤ p ∧ p ≤ nI n
set_option maxRecDepth 100000 in
theorem c_M_countsO (hp : MT y t n) (p : Int32) (h : ¬ inT n p) : XMet l 6 q_M_counts [.ref 0, .int p] (vM y b) (some (.int 0)) (vM y b) := by
  refine xm_intro (by decide +kernel) (Nat.le_of_ble_eq_true rfl) ?_
  refine xw_go xcls ok_M_counts 40 [] ?_
  refine And.intro (fun _ => ?_) (fun h1 => ?_)
  · exact And.intro (Or.inl rfl) ⟨rfl, rfl⟩
  · refine And.intro (fun _ => ?_) (fun h2 => ?_)
    · exact And.intro (Or.inl rfl) ⟨rfl, rfl⟩
    · have h2 : ¬ y 0 1 < p := h2
      rw [hp.1] at h2
      exact absurd ⟨Int32.not_lt.mp h1, Int32.not_lt.mp h2⟩ h
set_option maxRecDepth 100000 in
theorem c_M_countsN (hp : MT y t n) (p : Int32) (h : inT n p) (hv : ¬ mOk t n y) : XMet l 6 q_M_counts [.ref 0, .int p] (vM y b) (some (.int 0)) (vM (mPar t n y).2.1 b) := by
  refine xm_intro (by decide +kernel) (Nat.le_of_ble_eq_true rfl) ?_
  refine xw_go xcls ok_M_counts 40 [] ?_
  refine And.intro (fun h1 => absurd h.1 (Int32.not_le.mpr h1)) (fun h1 => ?_)
  refine And.intro (fun h2 => absurd (show p ≤ y 0 1 by rw [hp.1]; exact h.2) (Int32.not_le.mpr h2)) (fun h2 => ?_)
  refine ⟨5, _, _, by decide, c_M_progN l y b hp hv, ?_⟩
  refine And.intro (fun _ => ?_) (fun c => absurd rfl c)
  exact And.intro (Or.inl rfl) ⟨rfl, rfl⟩
set_option maxRecDepth 100000 in
theorem c_M_counts (hp : MT y t n) (p : Nat) (h : p ≤ n) (hv : mOk t n y) : XMet l 6 q_M_counts [.ref 0, .int (nI p)] (vM y b) (some (.int (bI (0 < yP t n y 3 p)))) (vM (yP t n y) b) := by
  have hn := hp.2.1
  refine xm_intro (by decide +kernel) (Nat.le_of_ble_eq_true rfl) ?_
  refine xw_go xcls ok_M_counts 40 [] ?_
  refine And.intro (fun h1 => absurd h1 (nI_n0 (by omega))) (fun h1 => ?_)
  refine And.intro (fun h2 => absurd (show nI p ≤ y 0 1 by rw [hp.1]; exact (nI_le' (by omega) (by omega)).mpr h) (Int32.not_le.mpr h2)) (fun h2 => ?_)
  refine ⟨5, _, _, by decide, c_M_progY l y b hp hv, ?_⟩
  refine And.intro (fun c => absurd c (by decide)) (fun _ => ?_)
  refine And.intro (in_nI (by omega) (by omega)) ?_
  rw [cl_nI (by omega)]
  refine And.intro (fun h3 => ?_) (fun h3 => ?_)
  · exact And.intro (Or.inl rfl) ⟨by rw [bI, if_neg (Int32.not_lt.mpr h3)], rfl⟩
  · exact And.intro (Or.inr rfl) ⟨by rw [bI, if_pos (Int32.not_le.mp h3)], rfl⟩
/-- what study makes of the text -/
def yS (t : Nat → Int32) (n : Nat) (w u v : Nat → Nat) (y : Sg) : DQ := mStd (yP t n y) (chr t n) w u v n (dOf (yP t n y))
def yE (t : Nat → Int32) (n : Nat) (w u v : Nat → Nat) (y : Sg) : Sg := sD (yP t n y) (yS t n w u v y).1 (yS t n w u v y).2
theorem c_M_studyP (w u v : Nat → Nat) (hp : MT y t n) (hm : MPr (yP t n y) (chr t n) n w u v) : XMet l 6 q_M_study [.ref 0] (vM (yP t n y) b) none (vM (yE t n w u v y) b) := c_M_study l (yP t n y) b w u v (MT_yP hp) hm (dOf (yP t n y))
def mAl (A : Nat → Int32) : Nat → Nat
  | 0 => 0
  | k + 1 => mAl A k + if 0 < A k then 1 else 0
set_option maxRecDepth 100000 in
set_option maxHeartbeats 1000000 in
theorem lp_M_alarms (z : Sg) (hp : MT z t n) : ∀ (m k : Nat), k + m = n + 1 → XW l 7 q_M_alarms (fun a x => a = some (.int (nI (mAl (z 12) (n + 1)))) ∧ x = vM z b) 17 [(0, .ref 0), (1, .int (nI (mAl (z 12) k))), (2, .int (nI k))] [] (vM z b)
  | 0, k, hk => by
    have hn := hp.2.1
    have hk : k = n + 1 := hk
    subst hk
    refine xw_go xcls ok_M_alarms 40 [] ?_
    refine And.intro (fun h => ?_) (fun h => ?_)
    · exact And.intro trivial ⟨rfl, rfl⟩
    · have h : ¬ z 0 1 < nI (n + 1) := h
      rw [hp.1, nI_lt' (by omega) (by omega)] at h
      omega
  | m + 1, k, hk => by
    have hn := hp.2.1
    have ih := lp_M_alarms z hp m (k + 1) (by omega)
    refine xw_go xcls ok_M_alarms 40 [(17, [0, 1, 2])] ?_
    refine And.intro (fun h => ?_) (fun h => ?_)
    · have h : z 0 1 < nI k := h
      rw [hp.1, nI_lt' (by omega) (by omega)] at h
      omega
    · refine And.intro (in_nI (by omega) (by omega)) ?_
      rw [cl_nI (by omega)]
      refine And.intro (fun h2 => ?_) (fun h2 => ?_)
      · have h2 : z 12 k ≤ 0 := h2
        rw [show nI (mAl (z 12) (k + 1)) = nI (mAl (z 12) k) + 0 by rw [show (0 : Int32) = nI 0 from rfl, nI_add]; simp only [mAl]; rw [if_neg (Int32.not_lt.mpr h2)], ← nI_p1] at ih
        exact ih
      · have h2 : ¬ z 12 k ≤ 0 := h2
        rw [show nI (mAl (z 12) (k + 1)) = nI (mAl (z 12) k) + 1 by rw [nI_p1]; simp only [mAl]; rw [if_pos (Int32.not_le.mp h2)], ← nI_p1 k] at ih
        exact ih
set_option maxRecDepth 100000 in
set_option maxHeartbeats 1000000 in
theorem c_M_alarms (w u v : Nat → Nat) (hp : MT y t n) (hv : mOk t n y) (hm : MPr (yP t n y) (chr t n) n w u v) : XMet l 7 q_M_alarms [.ref 0] (vM y b) (some (.int (nI (mAl (yE t n w u v y 12) (n + 1))))) (vM (yE t n w u v y) b) := by
  have hpE : MT (yE t n w u v y) t n := MT_yP hp
  have hs := c_M_studyP l y b w u v hp hm
  refine xm_intro (by decide +kernel) (Nat.le_of_ble_eq_true rfl) ?_
  refine xw_go xcls ok_M_alarms 40 [(17, [0, 1, 2])] ?_
  refine ⟨5, _, _, by decide, c_M_progY l y b hp hv, ?_⟩
  refine And.intro (fun _ => ?_) (fun c => absurd c (by decide))
  refine ⟨6, _, _, by decide, hs, ?_⟩
  generalize yE t n w u v y = z at hpE ⊢
  exact lp_M_alarms l b z hpE (n + 1) 0 (by omega)
set_option maxRecDepth 100000 in
theorem c_M_alarmsN (hp : MT y t n) (hv : ¬ mOk t n y) : XMet l 7 q_M_alarms [.ref 0] (vM y b) (some (.int (-1))) (vM (mPar t n y).2.1 b) := by
  refine xm_intro (by decide +kernel) (Nat.le_of_ble_eq_true rfl) ?_
  refine xw_go xcls ok_M_alarms 40 [] ?_
  refine ⟨5, _, _, by decide, c_M_progN l y b hp hv, ?_⟩
  refine And.intro (fun c => absurd rfl c) (fun _ => ?_)
  exact And.intro trivial ⟨rfl, rfl⟩
end
end
section
/-! The reference: alarm, sure, linked, type, wipe, length, declare -/
def cntM (t : Nat → Int32) (n : Nat) (y : Sg) (p : Int32) : Prop := inT n p ∧ mOk t n y ∧ 0 < yP t n y 3 p.toNatClampNeg
/-- what a question leaves that is not answered -/
noncomputable def yF (t : Nat → Int32) (n : Nat) (y : Sg) (p : Int32) : Sg := by
  classical exact if ¬ inT n p then y else if ¬ mOk t n y then (mPar t n y).2.1 else yP t n y
section
variable (l : Launch) (y : Sg) (b : Int64) {t : Nat → Int32} {n : Nat}
theorem c_M_cntF (hp : MT y t n) (p : Int32) (h : ¬ cntM t n y p) : XMet l 6 q_M_counts [.ref 0, .int p] (vM y b) (some (.int 0)) (vM (yF t n y p) b) := by
  unfold yF
  by_cases h1 : inT n p
  · rw [if_neg (fun c => c h1)]
    by_cases h2 : mOk t n y
    · rw [if_neg (fun c => c h2)]
      obtain ⟨j, hj, rfl⟩ := le_nI h1.1 h1.2 (by have := hp.2.1; omega)
      have hc := c_M_counts l y b hp j hj h2
      have hn := hp.2.1
      rw [show bI (0 < yP t n y 3 j) = 0 by rw [bI, if_neg (fun c => h ⟨h1, h2, by rw [cl_nI (by omega)]; exact c⟩)]] at hc
      exact hc
    · rw [if_pos h2]
      exact c_M_countsN l y b hp p h1 h2
  · rw [if_pos h1]
    exact c_M_countsO l y b hp p h1
theorem c_M_cntY (hp : MT y t n) (p : Nat) (h : cntM t n y (nI p)) (hpn : p ≤ n) : XMet l 6 q_M_counts [.ref 0, .int (nI p)] (vM y b) (some (.int 1)) (vM (yP t n y) b) := by
  have hn := hp.2.1
  have hc := c_M_counts l y b hp p hpn h.2.1
  have h3 := h.2.2
  rw [cl_nI (by omega)] at h3
  rw [show bI (0 < yP t n y 3 p) = 1 by rw [bI, if_pos h3]] at hc
  exact hc
set_option maxRecDepth 100000 in
theorem c_M_alarmN (hp : MT y t n) (p : Int32) (h : ¬ cntM t n y p) : XMet l 7 q_M_alarm [.ref 0, .int p] (vM y b) (some (.int (-1))) (vM (yF t n y p) b) := by
  refine xm_intro (by decide +kernel) (Nat.le_of_ble_eq_true rfl) ?_
  refine xw_go xcls ok_M_alarm 40 [] ?_
  refine ⟨6, _, _, by decide, c_M_cntF l y b hp p h, ?_⟩
  refine And.intro (fun c => absurd rfl c) (fun _ => ?_)
  exact And.intro trivial ⟨rfl, rfl⟩
set_option maxRecDepth 100000 in
set_option maxHeartbeats 1000000 in
theorem c_M_alarm (w u v : Nat → Nat) (hp : MT y t n) (p : Nat) (hpn : p ≤ n) (h : cntM t n y (nI p)) (hm : MPr (yP t n y) (chr t n) n w u v) : XMet l 7 q_M_alarm [.ref 0, .int (nI p)] (vM y b) (some (.int (yE t n w u v y 12 p))) (vM (yE t n w u v y) b) := by
  have hn := hp.2.1
  have hs := c_M_studyP l y b w u v hp hm
  refine xm_intro (by decide +kernel) (Nat.le_of_ble_eq_true rfl) ?_
  refine xw_go xcls ok_M_alarm 40 [] ?_
  refine ⟨6, _, _, by decide, c_M_cntY l y b hp p h hpn, ?_⟩
  refine And.intro (fun _ => ?_) (fun c => absurd c (by decide))
  refine ⟨6, _, _, by decide, hs, ?_⟩
  generalize yE t n w u v y = z
  refine And.intro (in_nI (by omega) (by omega)) ?_
  rw [cl_nI (by omega)]
  exact And.intro trivial ⟨rfl, rfl⟩
theorem isL_4 {v : Int32} : isL v ↔ 0 ≤ v ∧ v ≤ 4 := by
  constructor
  · intro h
    obtain ⟨j, hj, rfl⟩ := isL_n h
    exact ⟨h.1, by rw [show (4 : Int32) = nI 4 from rfl, nI_le' (by omega) (by omega)]; omega⟩
  · intro h
    obtain ⟨j, hj, rfl⟩ := le_nI h.1 (by rw [show nI 4 = (4 : Int32) from rfl]; exact h.2) (by omega)
    exact ⟨h.1, by rw [show (5 : Int32) = nI 5 from rfl, nI_lt' (by omega) (by omega)]; omega⟩
set_option maxRecDepth 100000 in
theorem c_M_sureO (x v : Int32) (h : ¬ isL v) : XMet l 7 q_M_sure [.ref 0, .int x, .int v] (vM y b) (some (.int (-1))) (vM y b) := by
  refine xm_intro (by decide +kernel) (Nat.le_of_ble_eq_true rfl) ?_
  refine xw_go xcls ok_M_sure 40 [] ?_
  refine And.intro (fun _ => ?_) (fun h1 => ?_)
  · exact And.intro trivial ⟨rfl, rfl⟩
  · refine And.intro (fun _ => ?_) (fun h2 => ?_)
    · exact And.intro trivial ⟨rfl, rfl⟩
    · exact absurd (isL_4.mpr ⟨Int32.not_lt.mp h1, Int32.not_lt.mp h2⟩) h
set_option maxRecDepth 100000 in
theorem c_M_sureN (hp : MT y t n) (x v : Int32) (hv : isL v) (h : ¬ cntM t n y x) : XMet l 7 q_M_sure [.ref 0, .int x, .int v] (vM y b) (some (.int (-1))) (vM (yF t n y x) b) := by
  have h4 := isL_4.mp hv
  refine xm_intro (by decide +kernel) (Nat.le_of_ble_eq_true rfl) ?_
  refine xw_go xcls ok_M_sure 40 [] ?_
  refine And.intro (fun c => absurd h4.1 (Int32.not_le.mpr c)) (fun _ => ?_)
  refine And.intro (fun c => absurd h4.2 (Int32.not_le.mpr c)) (fun _ => ?_)
  refine ⟨6, _, _, by decide, c_M_cntF l y b hp x h, ?_⟩
  refine And.intro (fun c => absurd rfl c) (fun _ => ?_)
  exact And.intro trivial ⟨rfl, rfl⟩
set_option maxRecDepth 100000 in
set_option maxHeartbeats 1000000 in
theorem c_M_sure (w u v : Nat → Nat) (hp : MT y t n) (p : Nat) (hpn : p ≤ n) (x : Int32) (hx : isL x) (h : cntM t n y (nI p)) (hm : MPr (yP t n y) (chr t n) n w u v) : XMet l 7 q_M_sure [.ref 0, .int (nI p), .int x] (vM y b) (some (.int (if yE t n w u v y 9 p = 0 then 0 else if hsP (yE t n w u v y 10 p) x then 2 else 1))) (vM (yE t n w u v y) b) := by
  have hn := hp.2.1
  have h4 := isL_4.mp hx
  have hs := c_M_studyP l y b w u v hp hm
  refine xm_intro (by decide +kernel) (Nat.le_of_ble_eq_true rfl) ?_
  refine xw_go xcls ok_M_sure 40 [] ?_
  refine And.intro (fun c => absurd h4.1 (Int32.not_le.mpr c)) (fun _ => ?_)
  refine And.intro (fun c => absurd h4.2 (Int32.not_le.mpr c)) (fun _ => ?_)
  refine ⟨6, _, _, by decide, c_M_cntY l y b hp p h hpn, ?_⟩
  refine And.intro (fun _ => ?_) (fun c => absurd c (by decide))
  refine ⟨6, _, _, by decide, hs, ?_⟩
  generalize yE t n w u v y = z
  refine And.intro (in_nI (by omega) (by omega)) ?_
  rw [cl_nI (by omega)]
  refine And.intro (fun h1 => ?_) (fun h1 => ?_)
  · have h1 : ¬ z 9 p = 0 := h1
    refine And.intro (in_nI (by omega) (by omega)) ?_
    rw [cl_nI (by omega)]
    refine ⟨0, _, _, by decide, c_M_has l _ (z 10 p) x, ?_⟩
    by_cases h2 : hsP (z 10 p) x
    · rw [show bI (hsP (z 10 p) x) = 1 by rw [bI, if_pos h2]]
      refine And.intro (fun c => absurd c (by decide)) (fun _ => ?_)
      exact And.intro trivial ⟨by rw [if_neg h1, if_pos h2], rfl⟩
    · rw [show bI (hsP (z 10 p) x) = 0 by rw [bI, if_neg h2]]
      refine And.intro (fun _ => ?_) (fun c => absurd rfl c)
      exact And.intro trivial ⟨by rw [if_neg h1, if_neg h2], rfl⟩
  · have h1 : z 9 p = 0 := h1
    exact And.intro trivial ⟨by rw [if_pos h1], rfl⟩
set_option maxRecDepth 100000 in
theorem c_M_linkedO (x v : Int32) (h : ¬ isL v) : XMet l 7 q_M_linked [.ref 0, .int x, .int v] (vM y b) (some (.int 0)) (vM y b) := by
  refine xm_intro (by decide +kernel) (Nat.le_of_ble_eq_true rfl) ?_
  refine xw_go xcls ok_M_linked 40 [] ?_
  refine And.intro (fun _ => ?_) (fun h1 => ?_)
  · exact And.intro (Or.inl rfl) ⟨rfl, rfl⟩
  · refine And.intro (fun _ => ?_) (fun h2 => ?_)
    · exact And.intro (Or.inl rfl) ⟨rfl, rfl⟩
    · exact absurd (isL_4.mpr ⟨Int32.not_lt.mp h1, Int32.not_lt.mp h2⟩) h
set_option maxRecDepth 100000 in
theorem c_M_linkedN (hp : MT y t n) (x v : Int32) (hv : isL v) (h : ¬ cntM t n y x) : XMet l 7 q_M_linked [.ref 0, .int x, .int v] (vM y b) (some (.int 0)) (vM (yF t n y x) b) := by
  have h4 := isL_4.mp hv
  refine xm_intro (by decide +kernel) (Nat.le_of_ble_eq_true rfl) ?_
  refine xw_go xcls ok_M_linked 40 [] ?_
  refine And.intro (fun c => absurd h4.1 (Int32.not_le.mpr c)) (fun _ => ?_)
  refine And.intro (fun c => absurd h4.2 (Int32.not_le.mpr c)) (fun _ => ?_)
  refine ⟨6, _, _, by decide, c_M_cntF l y b hp x h, ?_⟩
  refine And.intro (fun c => absurd rfl c) (fun _ => ?_)
  exact And.intro (Or.inl rfl) ⟨rfl, rfl⟩
set_option maxRecDepth 100000 in
set_option maxHeartbeats 1000000 in
theorem c_M_linked (w u v : Nat → Nat) (hp : MT y t n) (p : Nat) (hpn : p ≤ n) (x : Int32) (hx : isL x) (h : cntM t n y (nI p)) (hm : MPr (yP t n y) (chr t n) n w u v) : XMet l 7 q_M_linked [.ref 0, .int (nI p), .int x] (vM y b) (some (.int (if yE t n w u v y 9 p = 0 then 0 else if hsP (yE t n w u v y 11 p) x then 1 else 0))) (vM (yE t n w u v y) b) := by
  have hn := hp.2.1
  have h4 := isL_4.mp hx
  have hs := c_M_studyP l y b w u v hp hm
  refine xm_intro (by decide +kernel) (Nat.le_of_ble_eq_true rfl) ?_
  refine xw_go xcls ok_M_linked 40 [] ?_
  refine And.intro (fun c => absurd h4.1 (Int32.not_le.mpr c)) (fun _ => ?_)
  refine And.intro (fun c => absurd h4.2 (Int32.not_le.mpr c)) (fun _ => ?_)
  refine ⟨6, _, _, by decide, c_M_cntY l y b hp p h hpn, ?_⟩
  refine And.intro (fun _ => ?_) (fun c => absurd c (by decide))
  refine ⟨6, _, _, by decide, hs, ?_⟩
  generalize yE t n w u v y = z
  refine And.intro (in_nI (by omega) (by omega)) ?_
  rw [cl_nI (by omega)]
  refine And.intro (fun h1 => ?_) (fun h1 => ?_)
  · have h1 : z 9 p = 0 := h1
    exact And.intro (Or.inl rfl) ⟨by rw [if_pos h1], rfl⟩
  · have h1 : ¬ z 9 p = 0 := h1
    refine And.intro (in_nI (by omega) (by omega)) ?_
    rw [cl_nI (by omega)]
    refine ⟨0, _, _, by decide, c_M_has l _ (z 11 p) x, ?_⟩
    by_cases h2 : hsP (z 11 p) x
    · rw [show bI (hsP (z 11 p) x) = 1 by rw [bI, if_pos h2]]
      refine And.intro (fun c => absurd c (by decide)) (fun _ => ?_)
      exact And.intro (Or.inr rfl) ⟨by rw [if_neg h1, if_pos h2], rfl⟩
    · rw [show bI (hsP (z 11 p) x) = 0 by rw [bI, if_neg h2]]
      refine And.intro (fun _ => ?_) (fun c => absurd rfl c)
      exact And.intro (Or.inl rfl) ⟨by rw [if_neg h1, if_neg h2], rfl⟩
set_option maxRecDepth 100000 in
theorem c_M_wipe : XMet l 7 q_M_wipe [.ref 0] (vM y b) none (vM (us y 0 1 0) b) := by
  refine xm_intro (by decide +kernel) (Nat.le_of_ble_eq_true rfl) ?_
  refine xw_go xcls ok_M_wipe 40 [] ?_
  exact And.intro trivial (And.intro rfl ⟨rfl, rfl⟩)
set_option maxRecDepth 100000 in
theorem c_M_length : XMet l 7 q_M_length [.ref 0] (vM y b) (some (.int (y 0 1))) (vM y b) := by
  refine xm_intro (by decide +kernel) (Nat.le_of_ble_eq_true rfl) ?_
  refine xw_go xcls ok_M_length 40 [] ?_
  exact And.intro trivial ⟨rfl, rfl⟩
set_option maxRecDepth 100000 in
theorem c_M_declare (v on : Int32) (hv : isL v) : XMet l 7 q_M_declare [.ref 0, .int v, .int on] (vM y b) (some (.int 1)) (vM (us y 2 v.toNatClampNeg (vp_nar .boolean on)) b) := by
  have h4 := isL_4.mp hv
  obtain ⟨j, hj, rfl⟩ := isL_n hv
  refine xm_intro (by decide +kernel) (Nat.le_of_ble_eq_true rfl) ?_
  refine xw_go xcls ok_M_declare 40 [] ?_
  refine And.intro (fun c => absurd h4.1 (Int32.not_le.mpr c)) (fun _ => ?_)
  refine And.intro (fun _ => ?_) (fun c => absurd h4.2 c)
  refine And.intro (in_nI (by omega) (by omega)) ?_
  exact And.intro (Or.inr rfl) ⟨rfl, rfl⟩
set_option maxRecDepth 100000 in
theorem c_M_declareN (v on : Int32) (hv : ¬ isL v) : XMet l 7 q_M_declare [.ref 0, .int v, .int on] (vM y b) (some (.int 0)) (vM y b) := by
  refine xm_intro (by decide +kernel) (Nat.le_of_ble_eq_true rfl) ?_
  refine xw_go xcls ok_M_declare 40 [] ?_
  refine And.intro (fun _ => ?_) (fun h1 => ?_)
  · exact And.intro (Or.inl rfl) ⟨rfl, rfl⟩
  · refine And.intro (fun h2 => absurd (isL_4.mpr ⟨Int32.not_lt.mp h1, h2⟩) hv) (fun _ => ?_)
    exact And.intro (Or.inl rfl) ⟨rfl, rfl⟩
end
/-- a byte of a long, by the reference -/
def mB (x : Int64) (k : Nat) : Int32 := (x >>> (((8 : Int32) * nI k).toInt64 &&& 63)).toInt32 &&& 255
def mCt (x : Int64) : Nat → Nat → Nat → Option Nat
  | 0, _, a => some a
  | m + 1, k, a => if ¬ mB x k = 0 ∧ (mB x k < 33 ∨ 126 < mB x k) then none else mCt x m (k + 1) (a + if mB x k = 0 then 0 else 1)
def mAp (x : Int64) : Nat → (Nat → Int32) → Nat → (Nat → Int32) × Nat
  | 0, t, n => (t, n)
  | m + 1, t, n => if mB x m = 0 then mAp x m t n else mAp x m (upd t n (mB x m)) (n + 1)
def mN (x : Int64) : Nat → Nat
  | 0 => 0
  | m + 1 => (if mB x m = 0 then 0 else 1) + mN x m
theorem mul8 (k : Nat) : (8 : Int32) * nI k = nI (8 * k) := pk_mul 8 k
section
variable (l : Launch) (y : Sg) (b : Int64) {t : Nat → Int32} {n : Nat}
set_option maxRecDepth 100000 in
set_option maxHeartbeats 1000000 in
theorem lp_M_type1 (x : Int64) : ∀ (m k a : Nat), k + m = 8 → (mCt x m k a = none → XW l 7 q_M_type (fun u w => u = some (.int 0) ∧ w = vM y b) 5 [(0, .ref 0), (1, .long x), (3, .int (nI a)), (4, .int (nI k))] [] (vM y b)) ∧
    ∀ (Rt : Option Value → List va_E → Prop) (c : Nat), mCt x m k a = some c → XW l 7 q_M_type Rt 66 [(0, .ref 0), (1, .long x), (3, .int (nI c))] [] (vM y b) → XW l 7 q_M_type Rt 5 [(0, .ref 0), (1, .long x), (3, .int (nI a)), (4, .int (nI k))] [] (vM y b)
  | 0, k, a, hk => by
    have hk : k = 8 := hk
    subst hk
    refine ⟨fun h => absurd h (by simp [mCt]), fun Rt c h K => ?_⟩
    have h : a = c := Option.some.inj h
    subst h
    refine xw_go xcls ok_M_type 60 [(66, [0, 1, 3])] ?_
    refine And.intro (fun _ => K) (fun c => absurd (by decide) c)
  | m + 1, k, a, hk => by
    obtain ⟨ih1, ih2⟩ := lp_M_type1 x m (k + 1) (a + if mB x k = 0 then 0 else 1) (by omega)
    have j47 : ∀ (Rt : Option Value → List va_E → Prop), XW l 7 q_M_type Rt 5 [(0, .ref 0), (1, .long x), (3, .int (nI (a + if mB x k = 0 then 0 else 1))), (4, .int (nI (k + 1)))] [] (vM y b) → XW l 7 q_M_type Rt 47 [(0, .ref 0), (1, .long x), (3, .int (nI a)), (4, .int (nI k)), (5, .int (mB x k))] [] (vM y b) := by
      intro Rt K
      rw [← nI_p1 k] at K
      refine xw_go xcls ok_M_type 60 [(5, [0, 1, 3, 4])] ?_
      refine And.intro (fun h => ?_) (fun h => ?_)
      · rw [if_neg h, ← nI_p1 a] at K
        exact K
      · rw [if_pos h, show nI (a + 0) = nI a + 0 from (nI_add a 0).symm] at K
        exact K
    refine ⟨fun h => ?_, fun Rt c h K => ?_⟩
    · refine xw_go xcls ok_M_type 60 [(47, [0, 1, 3, 4, 5])] ?_
      refine And.intro (fun h2 => absurd h2 (by rw [show (8 : Int32) = nI 8 from rfl, nI_le' (by omega) (by omega)]; omega)) (fun _ => ?_)
      by_cases hb : ¬ mB x k = 0 ∧ (mB x k < 33 ∨ 126 < mB x k)
      · refine And.intro (fun c => absurd c hb.1) (fun _ => ?_)
        refine And.intro (fun _ => ?_) (fun h3 => ?_)
        · exact And.intro (Or.inl rfl) ⟨rfl, rfl⟩
        · refine And.intro (fun c => absurd (hb.2.resolve_left h3) (Int32.not_lt.mpr c)) (fun _ => ?_)
          exact And.intro (Or.inl rfl) ⟨rfl, rfl⟩
      · have K := j47 _ (ih1 (by simp only [mCt, if_neg hb] at h; exact h))
        refine And.intro (fun _ => K) (fun c => ?_)
        refine And.intro (fun c2 => absurd ⟨c, Or.inl c2⟩ hb) (fun _ => ?_)
        refine And.intro (fun _ => K) (fun c2 => absurd ⟨c, Or.inr (Int32.not_le.mp c2)⟩ hb)
    · refine xw_go xcls ok_M_type 60 [(47, [0, 1, 3, 4, 5])] ?_
      refine And.intro (fun h2 => absurd h2 (by rw [show (8 : Int32) = nI 8 from rfl, nI_le' (by omega) (by omega)]; omega)) (fun _ => ?_)
      by_cases hb : ¬ mB x k = 0 ∧ (mB x k < 33 ∨ 126 < mB x k)
      · simp only [mCt, if_pos hb] at h; cases h
      · have K := j47 _ (ih2 Rt c (by simp only [mCt, if_neg hb] at h; exact h) K)
        refine And.intro (fun _ => K) (fun c => ?_)
        refine And.intro (fun c2 => absurd ⟨c, Or.inl c2⟩ hb) (fun _ => ?_)
        refine And.intro (fun _ => K) (fun c2 => absurd ⟨c, Or.inr (Int32.not_le.mp c2)⟩ hb)
theorem mCt_eq {x : Int64} : ∀ (m k a c : Nat), mCt x m k a = some c → c ≤ a + m
  | 0, k, a, c, h => by have h : a = c := Option.some.inj h; omega
  | m + 1, k, a, c, h => by
    simp only [mCt] at h
    split at h
    · cases h
    · have := mCt_eq m _ _ c h
      split at this <;> omega
set_option maxRecDepth 100000 in
set_option maxHeartbeats 1000000 in
theorem lp_M_type2 (x : Int64) : ∀ (m : Nat) (t : Nat → Int32) (n : Nat), m ≤ 8 → n + mN x m ≤ 64 → XW l 7 q_M_type (fun u w => u = some (.int 1) ∧ w = vM (sT y (mAp x m t n)) b) 83 [(0, .ref 0), (1, .long x), (4, .int (nI m - 1))] [] (vM (sT y (t, n)) b)
  | 0, t, n, hm, hn => by
    refine xw_go xcls ok_M_type 60 [] ?_
    refine And.intro (fun h => ?_) (fun h => absurd (by decide) h)
    exact And.intro (Or.inr rfl) ⟨rfl, rfl⟩
  | m + 1, t, n, hm, hn => by
    rw [nI_p]
    simp only [mN] at hn
    have m1 : nI m + (-1) = nI m - 1 := (Int32.sub_eq_add_neg (nI m) 1).symm
    refine xw_go xcls ok_M_type 60 [(83, [0, 1, 4])] ?_
    refine And.intro (fun h => absurd h (nI_n0 (by omega))) (fun h => ?_)
    refine And.intro (fun q => ?_) (fun q => ?_)
    · have q : mB x m = 0 := q
      have e : mAp x (m + 1) t n = mAp x m t n := by simp [mAp, q]
      rw [e]
      have ih := lp_M_type2 x m t n (by omega) (by rw [if_pos q] at hn; omega)
      rw [← m1] at ih
      exact ih
    · have q : ¬ mB x m = 0 := q
      rw [if_neg q] at hn
      have e : mAp x (m + 1) t n = mAp x m (upd t n (mB x m)) (n + 1) := by simp [mAp, q]
      rw [e]
      have e01 : sT y (t, n) 0 1 = nI n := rfl
      refine And.intro (by rw [e01]; exact in_nI (by omega) (by omega)) ?_
      rw [e01, cl_nI (by omega)]
      refine And.intro trivial ?_
      rw [e01, nI_p1]
      have ih := lp_M_type2 x m (upd t n (mB x m)) (n + 1) (by omega) (by omega)
      rw [← m1] at ih
      exact ih
set_option maxRecDepth 100000 in
set_option maxHeartbeats 1000000 in
theorem c_M_type (x : Int64) (hp : MT y t n) (a : Nat) (ha : mCt x 8 0 0 = some a) (hna : n + a ≤ 64) (hnn : n + mN x 8 ≤ 64) : XMet l 7 q_M_type [.ref 0, .long x] (vM y b) (some (.int 1)) (vM (sT y (mAp x 8 t n)) b) := by
  obtain ⟨hz, hn, rfl⟩ := hp
  refine xm_intro (by decide +kernel) (Nat.le_of_ble_eq_true rfl) ?_
  refine xw_go xcls ok_M_type 60 [(5, [0, 1, 3, 4])] ?_
  refine (lp_M_type1 l y b x 8 0 0 (by omega)).2 _ a ha ?_
  have h8 := mCt_eq _ _ _ _ ha
  refine xw_go xcls ok_M_type 60 [(83, [0, 1, 4])] ?_
  refine And.intro (fun q2 => ?_) (fun q2 => ?_)
  · have ih := lp_M_type2 l y b x 8 (y 1) n (by omega) hnn
    have e : vM (sT y (y 1, n)) b = vM y b := by
      show vM (us (uc y 1 (y 1)) 0 1 (nI n)) b = _
      rw [← hz]; rfl
    rw [e] at ih
    exact ih
  · have q2 : ¬ y 0 1 + nI a ≤ 64 := q2
    rw [hz, nI_add, show (64 : Int32) = nI 64 from rfl, nI_le' (by omega) (by omega)] at q2
    omega
set_option maxRecDepth 100000 in
set_option maxHeartbeats 1000000 in
theorem c_M_typeN (x : Int64) (hp : MT y t n) (h : ∀ a, mCt x 8 0 0 = some a → 64 < n + a) : XMet l 7 q_M_type [.ref 0, .long x] (vM y b) (some (.int 0)) (vM y b) := by
  obtain ⟨hz, hn, rfl⟩ := hp
  refine xm_intro (by decide +kernel) (Nat.le_of_ble_eq_true rfl) ?_
  refine xw_go xcls ok_M_type 60 [(5, [0, 1, 3, 4])] ?_
  cases ha : mCt x 8 0 0 with
  | none => exact (lp_M_type1 l y b x 8 0 0 (by omega)).1 ha
  | some a =>
    refine (lp_M_type1 l y b x 8 0 0 (by omega)).2 _ a ha ?_
    have h8 := mCt_eq _ _ _ _ ha
    have hh := h a ha
    refine xw_go xcls ok_M_type 60 [] ?_
    refine And.intro (fun q2 => ?_) (fun q2 => ?_)
    · have q2 : y 0 1 + nI a ≤ 64 := q2
      rw [hz, nI_add, show (64 : Int32) = nI 64 from rfl, nI_le' (by omega) (by omega)] at q2
      omega
    · exact And.intro (Or.inl rfl) ⟨rfl, rfl⟩
end
end
section
/-! The reference: runs -/
def sR (y : Sg) (m : MSt) (vs : Int32) : Sg := uc (uc (uc (us (us y 0 21 (nI m.2.2.2.1)) 0 24 vs) 13 (fun v => oI (m.1 v))) 14 (fun o => nI (m.2.1 o))) 15 (fun o => oI (m.2.2.1 o))
def vR (y : Sg) (m : MSt) (vs : Int32) : List va_E := vM (sR y m vs) m.2.2.2.2
theorem vR_i {y y' : Sg} {m : MSt} {vs : Int32} (hc : ∀ a, a < 13 → a ≠ 0 → y' a = y a) (hf : ∀ j, j ≠ 21 → j ≠ 24 → y' 0 j = y 0 j) (h21 : y' 0 21 = nI m.2.2.2.1) (h24 : y' 0 24 = vs) (h13 : y' 13 = fun v => oI (m.1 v)) (h14 : y' 14 = fun o => nI (m.2.1 o)) (h15 : y' 15 = fun o => oI (m.2.2.1 o)) : vM y' m.2.2.2.2 = vR y m vs := by
  unfold vM
  rw [h21, h24, h13, h14, h15, hc 1 (by decide) (by decide), hc 2 (by decide) (by decide), hc 3 (by decide) (by decide), hc 4 (by decide) (by decide), hc 5 (by decide) (by decide), hc 6 (by decide) (by decide), hc 7 (by decide) (by decide), hc 8 (by decide) (by decide), hc 9 (by decide) (by decide), hc 10 (by decide) (by decide), hc 11 (by decide) (by decide), hc 12 (by decide) (by decide)]
  rw [hf 1 (by decide) (by decide), hf 8 (by decide) (by decide), hf 9 (by decide) (by decide), hf 15 (by decide) (by decide), hf 16 (by decide) (by decide), hf 17 (by decide) (by decide), hf 18 (by decide) (by decide), hf 19 (by decide) (by decide), hf 26 (by decide) (by decide)]
  rfl
theorem tkM (n : Nat) (b : Int64) (hn : n = 1 ∨ n = 2) : b.toInt32 &&& (((1 : Int32) <<< (nI n &&& 31)) - 1) = nI (tkN n b) := by
  obtain ⟨k, hk, rfl⟩ := wb_of b
  rw [lN_i]
  unfold tkN
  rw [wb_tn hk]
  have ht : (nI k).toBitVec.toNat = k % 2 ^ 32 := by
    show (BitVec.ofNat 32 k).toNat = _
    rw [BitVec.toNat_ofNat]
  rcases hn with rfl | rfl
  · rw [show ((1 : Int32) <<< (nI 1 &&& 31)) - 1 = 1 by decide, pk_and (nI k) 1 (by decide), ht, Nat.mod_mod_of_dvd _ (by decide)]
  · rw [show ((1 : Int32) <<< (nI 2 &&& 31)) - 1 = 3 by decide, pk_and (nI k) 2 (by decide), ht, Nat.mod_mod_of_dvd _ (by decide)]
section
variable (l : Launch) (y : Sg) (vs : Int32) {t : Nat → Int32} {n : Nat}
theorem w_rLoc {m : MSt} {v : Nat} {x : Option Nat} : vM (us (sR y m vs) 13 v (oI x)) m.2.2.2.2 = vR y (mLoc v x m) vs := vR_i (y := y) (m := mLoc v x m) (fun a h h0 => by simp [us, uc, sR, h0, show a ≠ 13 by omega, show a ≠ 14 by omega, show a ≠ 15 by omega]) (fun j h1 h2 => by simp [us, uc, upd, sR, h1, h2]) rfl rfl (fu_oI _ _ _) rfl rfl
theorem w_rG {m : MSt} {o x : Nat} : vM (us (sR y m vs) 14 o (nI x)) m.2.2.2.2 = vR y (mG o x m) vs := vR_i (y := y) (m := mG o x m) (fun a h h0 => by simp [us, uc, sR, h0, show a ≠ 13 by omega, show a ≠ 14 by omega, show a ≠ 15 by omega]) (fun j h1 h2 => by simp [us, uc, upd, sR, h1, h2]) rfl rfl rfl (fu_nI _ _ _) rfl
theorem w_rH {m : MSt} {o : Nat} {x : Option Nat} : vM (us (sR y m vs) 15 o (oI x)) m.2.2.2.2 = vR y (mH o x m) vs := vR_i (y := y) (m := mH o x m) (fun a h h0 => by simp [us, uc, sR, h0, show a ≠ 13 by omega, show a ≠ 14 by omega, show a ≠ 15 by omega]) (fun j h1 h2 => by simp [us, uc, upd, sR, h1, h2]) rfl rfl rfl rfl (fu_oI _ _ _)
set_option maxRecDepth 100000 in
set_option maxHeartbeats 1000000 in
theorem c_M_take (m : MSt) (k : Nat) (hk : k = 1 ∨ k = 2) {x : Int32} (hx : x = nI k := by rfl) : XMet l 0 q_M_take [.ref 0, .int x] (vR y m vs) (some (.int (nI (tkN k m.2.2.2.2)))) (vR y (mTk k m) vs) := by
  subst hx
  refine xm_intro (by decide +kernel) (Nat.le_of_ble_eq_true rfl) ?_
  refine xw_go xcls ok_M_take 40 [] ?_
  refine And.intro trivial (And.intro trivial ⟨?_, rfl⟩)
  exact congrArg (fun x => some (Value.int x)) (tkM k m.2.2.2.2 hk)
set_option maxRecDepth 100000 in
set_option maxHeartbeats 1000000 in
theorem c_M_create (m : MSt) (hm : m.2.2.2.1 ≤ 8) : XMet l 0 q_M_create [.ref 0] (vR y m vs) (some (.int (nI (mMk m).1))) (vR y (mMk m).2 vs) := by
  obtain ⟨ho, g, h, k, b⟩ := m
  have hm : k ≤ 8 := hm
  refine xm_intro (by decide +kernel) (Nat.le_of_ble_eq_true rfl) ?_
  refine xw_go xcls ok_M_create 40 [] ?_
  refine And.intro (fun q => ?_) (fun q => ?_)
  · have q : ¬ nI k = 8 := q
    rw [show (8 : Int32) = nI 8 from rfl, nI_eq' (by omega) (by omega)] at q
    have hk : k < 8 := by omega
    rw [show mMk (ho, g, h, k, b) = (k, (ho, fu g k k, fu h k none, k + 1, b)) by simp [mMk, hk]]
    have e3 : sR y (ho, g, h, k, b) vs 0 21 = nI k := rfl
    refine And.intro (by rw [e3]; exact in_nI (by omega) (by omega)) ?_
    rw [e3, cl_nI (by omega)]
    refine And.intro (by exact in_nI (by omega) (by omega)) ?_
    rw [show (sR y (ho, g, h, k, b) vs 0 21).toNatClampNeg = k from cl_nI (by omega)]
    refine And.intro trivial ?_
    refine And.intro trivial ⟨?_, ?_⟩
    · show some (Value.int (nI k + 1 - 1)) = _
      rw [nI_p1, nI_p]
    · exact vR_i (y := y) (m := (ho, fu g k k, fu h k none, k + 1, b)) (y' := us (us (us (sR y (ho, g, h, k, b) vs) 14 k (nI k)) 15 k (-1)) 0 21 (nI k + 1)) (fun a h h0 => by simp [us, uc, sR, h0, show a ≠ 13 by omega, show a ≠ 14 by omega, show a ≠ 15 by omega]) (fun j h1 h2 => by simp [us, uc, upd, sR, h1, h2]) (nI_p1 k) rfl rfl (fu_nI g k k) (fu_oI h k none)
  · have q : nI k = 8 := q
    rw [show (8 : Int32) = nI 8 from rfl, nI_eq' (by omega) (by omega)] at q
    rw [show mMk (ho, g, h, k, b) = (7, (ho, g, h, k, b)) by simp [mMk, q]]
    exact And.intro trivial ⟨rfl, rfl⟩
/-- what a value is found to be: none if nothing was used -/
def mFd (c : Nat → Int32) (i : Nat) (m : MSt) : Option (Option Nat) × MSt :=
  if c i = 78 then (some (some (mMk m).1), (mMk m).2)
  else if c i = 64 then (some (mAsk m), mTk 2 m)
  else if ¬ lcP (c i) then (some none, m)
  else if ¬ fdP c (i + 1) then (some (m.1 (c i - 97).toNatClampNeg), m)
  else match m.1 (c i - 97).toNatClampNeg with
    | none => (none, m)
    | some o => (some (if c (i + 2) = 103 then some (m.2.1 o) else m.2.2.1 o), m)
def rI : Option (Option Nat) → Int32
  | none => -2
  | some o => oI o
theorem lc_in {x : Int32} (h : lcP x) : vp_in (x - 97) 5 := by
  obtain ⟨h1, h2⟩ := h
  obtain ⟨j, hj, e⟩ := nI_of (x := x) (Int32.not_lt.mpr (Int32.le_trans (by decide) h1))
  rw [e, show (97 : Int32) = nI 97 from rfl, nI_leI (by omega) (by omega)] at h1
  rw [e, show (101 : Int32) = nI 101 from rfl, nI_leI (by omega) (by omega)] at h2
  rw [e, show (97 : Int32) = nI 97 from rfl, pk_sub h1]
  exact in_nI (by omega) (by omega)
theorem oI_ge {o : Option Nat} (h : ∀ q, o = some q → q < 8) : 0 ≤ oI o ↔ ∃ q, o = some q := by
  cases o with
  | none => exact ⟨fun c => absurd c (by decide), fun ⟨q, c⟩ => by cases c⟩
  | some q => exact ⟨fun _ => ⟨q, rfl⟩, fun _ => nI_g0 (by have := h q rfl; omega)⟩
set_option maxRecDepth 100000 in
set_option maxHeartbeats 2000000 in
theorem c_M_found (m : MSt) (hm : MInv m) (hp : MT y t n) (i : Nat) (hi : i < 800) {x : Int32} (hx : x = nI i := by rfl) : XMet l 2 q_M_found [.ref 0, .int x] (vR y m vs) (some (.int (rI (mFd (chr t n) i m).1))) (vR y (mFd (chr t n) i m).2 vs) := by
  subst hx
  obtain ⟨i1, i2, i3, i4, i5⟩ := id hm
  have hpR : ∀ m', MT (sR y m' vs) t n := fun _ => hp
  refine xm_intro (by decide +kernel) (Nat.le_of_ble_eq_true rfl) ?_
  refine xw_go xcls ok_M_found 60 [] ?_
  refine ⟨0, _, _, by decide, c_M_at l (sR y m vs) m.2.2.2.2 i (hpR m) (by omega), ?_⟩
  refine And.intro (fun h1 => ?_) (fun h1 => ?_)
  · refine And.intro (fun h2 => ?_) (fun h2 => ?_)
    · refine ⟨1, _, _, by decide, c_M_isLocal l (sR y m vs) m.2.2.2.2 i (hpR m) (by omega), ?_⟩
      by_cases h3 : lcP (chr t n i)
      · rw [show bI (lcP (chr t n i)) = 1 by rw [bI, if_pos h3]]
        refine And.intro (fun _ => ?_) (fun c => absurd c (by decide))
        refine And.intro (lc_in h3) ?_
        generalize hv : (chr t n i - 97).toNatClampNeg = v
        refine ⟨1, _, _, by decide, c_M_isField l (sR y m vs) m.2.2.2.2 (i + 1) (hpR m) (by omega) (nI_p1 i), ?_⟩
        by_cases h4 : fdP (chr t n) (i + 1)
        · rw [show bI (fdP (chr t n) (i + 1)) = 1 by rw [bI, if_pos h4]]
          refine And.intro (fun _ => ?_) (fun c => absurd c (by decide))
          have e13 : sR y m vs 13 v = oI (m.1 v) := rfl
          cases ho : m.1 v with
          | none =>
            refine And.intro (fun c => absurd c (by rw [e13, ho]; decide)) (fun _ => ?_)
            rw [show mFd (chr t n) i m = (none, m) by simp only [mFd]; rw [if_neg h1, if_neg h2, if_neg (fun c => c h3), if_neg (fun c => c h4), hv, ho]]
            exact And.intro trivial ⟨rfl, rfl⟩
          | some o =>
            have ho8 := i1 v o ho
            have e14 : sR y m vs 13 v = nI o := by rw [e13, ho]; rfl
            refine And.intro (fun _ => ?_) (fun c => absurd (by rw [e14]; exact nI_g0 (by omega)) c)
            rw [show mFd (chr t n) i m = (some (if chr t n (i + 2) = 103 then some (m.2.1 o) else m.2.2.1 o), m) by simp only [mFd]; rw [if_neg h1, if_neg h2, if_neg (fun c => c h3), if_neg (fun c => c h4), hv, ho]]
            refine ⟨0, _, _, by decide, c_M_at l (sR y m vs) m.2.2.2.2 (i + 2) (hpR m) (by omega) (nI_p2 i), ?_⟩
            refine And.intro (fun h5 => ?_) (fun h5 => ?_)
            · refine And.intro (by show vp_in (sR y m vs 13 v) 8; rw [e14]; exact in_nI (by omega) (by omega)) ?_
              rw [e14, cl_nI (by omega)]
              exact And.intro trivial ⟨by rw [if_neg h5]; rfl, rfl⟩
            · refine And.intro (by show vp_in (sR y m vs 13 v) 8; rw [e14]; exact in_nI (by omega) (by omega)) ?_
              rw [e14, cl_nI (by omega)]
              exact And.intro trivial ⟨by rw [if_pos h5]; rfl, rfl⟩
        · rw [show bI (fdP (chr t n) (i + 1)) = 0 by rw [bI, if_neg h4]]
          refine And.intro (fun c => absurd rfl c) (fun _ => ?_)
          rw [show mFd (chr t n) i m = (some (m.1 v), m) by simp only [mFd]; rw [if_neg h1, if_neg h2, if_neg (fun c => c h3), if_pos h4, hv]]
          exact And.intro trivial ⟨rfl, rfl⟩
      · rw [show bI (lcP (chr t n i)) = 0 by rw [bI, if_neg h3]]
        refine And.intro (fun c => absurd rfl c) (fun _ => ?_)
        rw [show mFd (chr t n) i m = (some none, m) by simp only [mFd]; rw [if_neg h1, if_neg h2, if_pos h3]]
        exact And.intro trivial ⟨rfl, rfl⟩
    · rw [show mFd (chr t n) i m = (some (mAsk m), mTk 2 m) by simp only [mFd]; rw [if_neg h1, if_pos h2]]
      refine ⟨0, _, _, by decide, c_M_take l y vs m 2 (Or.inr rfl), ?_⟩
      have h4 := tkN_2 m.2.2.2.2
      by_cases h0 : tkN 2 m.2.2.2.2 = 0
      · rw [h0]
        refine And.intro (fun c => absurd c ?_) (fun _ => ?_)
        · show ¬ nI m.2.2.2.1 ≤ nI 0 - 1
          rw [show nI 0 - 1 = (-1 : Int32) by decide]
          intro c
          exact absurd (Int32.le_trans (nI_g0 (by omega)) c) (by decide)
        · exact And.intro trivial ⟨by simp [mAsk, h0, rI, oI]; decide, rfl⟩
      · have es : nI (tkN 2 m.2.2.2.2) - 1 = nI (tkN 2 m.2.2.2.2 - 1) := pk_sub (b := 1) (by omega)
        have ea : mAsk m = some (min (tkN 2 m.2.2.2.2 - 1) (m.2.2.2.1 - 1)) := by simp [mAsk, h0]
        refine And.intro (fun c => ?_) (fun c => ?_)
        · have c : nI m.2.2.2.1 ≤ nI (tkN 2 m.2.2.2.2) - 1 := c
          rw [es, nI_le' (by omega) (by omega)] at c
          refine And.intro trivial ⟨?_, rfl⟩
          show some (Value.int (nI m.2.2.2.1 - nI 1)) = _
          rw [pk_sub i4, ea, Nat.min_eq_right (by omega)]; rfl
        · have c : ¬ nI m.2.2.2.1 ≤ nI (tkN 2 m.2.2.2.2) - 1 := c
          rw [es, nI_le' (by omega) (by omega)] at c
          refine And.intro trivial ⟨?_, rfl⟩
          show some (Value.int (nI (tkN 2 m.2.2.2.2) - 1)) = _
          rw [es, ea, Nat.min_eq_left (by omega)]; rfl
  · rw [show mFd (chr t n) i m = (some (some (mMk m).1), (mMk m).2) by simp only [mFd]; rw [if_pos h1]]
    refine ⟨0, _, _, by decide, c_M_create l y vs m i5, ?_⟩
    exact And.intro trivial ⟨rfl, rfl⟩
end
end
section
/-! The reference: the steps of a run -/
theorem mFd_inv {c : Nat → Int32} {i : Nat} {m : MSt} (h : MInv m) : MInv (mFd c i m).2 ∧ ∀ x o, (mFd c i m).1 = some x → x = some o → o < 8 := by
  obtain ⟨i1, i2, i3, i4, i5⟩ := id h
  unfold mFd; split
  · have := MInv_mk h
    exact ⟨this.1, fun x o hx ho => by have hx := Option.some.inj hx; rw [← hx] at ho; have ho := Option.some.inj ho; omega⟩
  · split
    · refine ⟨h, fun x o hx ho => ?_⟩
      have hx : mAsk m = x := Option.some.inj hx
      rw [← hx] at ho
      unfold mAsk at ho; split at ho
      · cases ho
      · have ho := Option.some.inj ho
        have := Nat.min_le_right (tkN 2 m.2.2.2.2 - 1) (m.2.2.2.1 - 1)
        omega
    · split
      · exact ⟨h, fun x o hx ho => by have hx := Option.some.inj hx; rw [← hx] at ho; cases ho⟩
      · split
        · exact ⟨h, fun x o hx ho => by have hx := Option.some.inj hx; rw [← hx] at ho; exact i1 _ o ho⟩
        · split
          · exact ⟨h, fun x o hx ho => by cases hx⟩
          · rename_i q _
            refine ⟨h, fun x o hx ho => ?_⟩
            have hx : (if c (i + 2) = 103 then some (m.2.1 q) else m.2.2.1 q) = x := Option.some.inj hx
            rw [← hx] at ho
            split at ho
            · have ho := Option.some.inj ho
              have := i2 q; omega
            · exact i3 q o ho
theorem oI_ne2 {o : Option Nat} (h : ∀ q, o = some q → q < 8) : ¬ oI o = -2 := by
  cases o with
  | none => decide
  | some q => exact fun c => nI_n0 (show q < 2000 by have := h q rfl; omega) (by show nI q < 0; rw [show nI q = -2 from c]; decide)
def mPt (c : Nat → Int32) (so : Nat → Int32) (p : Nat) (m : MSt) : MSt × Int32 := match (mFd c (p + 2) m).1 with
  | none => ((mFd c (p + 2) m).2, 1)
  | some o => if o = none ∧ ¬ so (c p - 97).toNatClampNeg = 0 then ((mFd c (p + 2) m).2, 2) else (mLoc (c p - 97).toNatClampNeg o (mFd c (p + 2) m).2, 0)
def mKp (c : Nat → Int32) (p : Nat) (m : MSt) : MSt × Int32 := match (mFd c (p + 4) m).1 with
  | none => ((mFd c (p + 4) m).2, 1)
  | some o => match (mFd c (p + 4) m).2.1 (c p - 97).toNatClampNeg with
    | none => ((mFd c (p + 4) m).2, 1)
    | some q => if c (p + 2) = 104 then (mH q o (mFd c (p + 4) m).2, 0) else match o with
      | none => ((mFd c (p + 4) m).2, 2)
      | some x => (mG q x (mFd c (p + 4) m).2, 0)
section
variable (l : Launch) (y : Sg) (vs : Int32) {t : Nat → Int32} {n : Nat}
set_option maxRecDepth 100000 in
set_option maxHeartbeats 2000000 in
theorem c_M_put (m : MSt) (hm : MInv m) (hp : MT y t n) (p : Nat) (hi : p < 700) (hv : vp_in (chr t n p - 97) 5) : XMet l 3 q_M_put [.ref 0, .int (nI p)] (vR y m vs) (some (.int (mPt (chr t n) (y 2) p m).2)) (vR y (mPt (chr t n) (y 2) p m).1 vs) := by
  have cf := c_M_found l y vs m hm hp (p + 2) (by omega) (nI_p2 p)
  obtain ⟨f1, f2⟩ := mFd_inv (c := chr t n) (i := p + 2) hm
  refine xm_intro (by decide +kernel) (Nat.le_of_ble_eq_true rfl) ?_
  unfold mPt
  generalize mFd (chr t n) (p + 2) m = f at cf f1 f2 ⊢
  obtain ⟨o, m1⟩ := f
  refine xw_go xcls ok_M_put 60 [(40, [0, 2, 3])] ?_
  refine ⟨0, _, _, by decide, c_M_at l (sR y m vs) m.2.2.2.2 p hp (by omega), ?_⟩
  refine ⟨2, _, _, by decide, cf, ?_⟩
  cases o with
  | none =>
    refine And.intro (fun c => absurd rfl c) (fun _ => ?_)
    exact And.intro trivial ⟨rfl, rfl⟩
  | some o =>
    have ho : ∀ q, o = some q → q < 8 := fun q hq => f2 o q rfl hq
    refine And.intro (fun _ => ?_) (fun c => absurd c (oI_ne2 ho))
    have j40 : ∀ a m2, (a, m2) = (if o = none ∧ ¬ y 2 (chr t n p - 97).toNatClampNeg = 0 then (m1, (2 : Int32)) else (mLoc (chr t n p - 97).toNatClampNeg o m1, 0)) → ¬ (o = none ∧ ¬ y 2 (chr t n p - 97).toNatClampNeg = 0) → XW l 3 q_M_put (fun u w => u = some (.int m2) ∧ w = vR y a vs) 40 [(0, .ref 0), (2, .int (chr t n p - 97)), (3, .int (oI o))] [] (vR y m1 vs) := by
      intro a m2 e hc
      rw [if_neg hc] at e
      cases e
      refine xw_go xcls ok_M_put 60 [] ?_
      refine And.intro hv ?_
      exact And.intro trivial ⟨rfl, w_rLoc y vs⟩
    refine And.intro (fun h1 => ?_) (fun h1 => ?_)
    · have h1 : 0 ≤ oI o := h1
      obtain ⟨q, hq⟩ := (oI_ge ho).mp h1
      exact j40 _ _ rfl (fun c => by rw [hq] at c; cases c.1)
    · have h1 : ¬ 0 ≤ oI o := h1
      have hn : o = none := by
        cases o with
        | none => rfl
        | some q => exact absurd ((oI_ge ho).mpr ⟨q, rfl⟩) h1
      refine And.intro hv ?_
      refine And.intro (fun h2 => ?_) (fun h2 => ?_)
      · have h2 : y 2 (chr t n p - 97).toNatClampNeg = 0 := h2
        exact j40 _ _ rfl (fun c => c.2 h2)
      · have h2 : ¬ y 2 (chr t n p - 97).toNatClampNeg = 0 := h2
        simp only [if_pos (show o = none ∧ ¬ y 2 (chr t n p - 97).toNatClampNeg = 0 from ⟨hn, h2⟩)]
        exact And.intro trivial ⟨rfl, rfl⟩
set_option maxRecDepth 100000 in
set_option maxHeartbeats 2000000 in
theorem c_M_keep (m : MSt) (hm : MInv m) (hp : MT y t n) (p : Nat) (hi : p < 700) (hv : vp_in (chr t n p - 97) 5) : XMet l 3 q_M_keep [.ref 0, .int (nI p)] (vR y m vs) (some (.int (mKp (chr t n) p m).2)) (vR y (mKp (chr t n) p m).1 vs) := by
  have cf := c_M_found l y vs m hm hp (p + 4) (by omega) (nI_p4 p)
  obtain ⟨f1, f2⟩ := mFd_inv (c := chr t n) (i := p + 4) hm
  refine xm_intro (by decide +kernel) (Nat.le_of_ble_eq_true rfl) ?_
  unfold mKp
  generalize mFd (chr t n) (p + 4) m = f at cf f1 f2 ⊢
  obtain ⟨o, m1⟩ := f
  refine xw_go xcls ok_M_keep 60 [] ?_
  refine ⟨2, _, _, by decide, cf, ?_⟩
  refine ⟨0, _, _, by decide, c_M_at l (sR y m1 vs) m1.2.2.2.2 p hp (by omega), ?_⟩
  refine And.intro hv ?_
  generalize hvv : (chr t n p - 97).toNatClampNeg = v
  have e13 : sR y m1 vs 13 v = oI (m1.1 v) := rfl
  cases o with
  | none =>
    refine And.intro (fun _ => ?_) (fun c => absurd rfl c)
    exact And.intro trivial ⟨rfl, rfl⟩
  | some o =>
    have ho : ∀ q, o = some q → q < 8 := fun q hq => f2 o q rfl hq
    refine And.intro (fun c => absurd c (oI_ne2 ho)) (fun _ => ?_)
    cases hto : m1.1 v with
    | none =>
      refine And.intro (fun c => absurd (show 0 ≤ sR y m1 vs 13 v from c) (by rw [e13, hto]; decide)) (fun _ => ?_)
      exact And.intro trivial ⟨by simp only [hto], by simp only [hto]; rfl⟩
    | some q =>
      have hq8 := f1.1 v q hto
      have e14 : sR y m1 vs 13 v = nI q := by rw [e13, hto]; rfl
      refine And.intro (fun _ => ?_) (fun c => absurd (show 0 ≤ sR y m1 vs 13 v by rw [e14]; exact nI_g0 (by omega)) c)
      refine ⟨0, _, _, by decide, c_M_at l (sR y m1 vs) m1.2.2.2.2 (p + 2) hp (by omega) (nI_p2 p), ?_⟩
      refine And.intro (fun h1 => ?_) (fun h1 => ?_)
      · cases o with
        | none =>
          refine And.intro (fun c => absurd (show (0 : Int32) ≤ -1 from c) (by decide)) (fun _ => ?_)
          exact And.intro trivial ⟨by simp only [hto, if_neg h1], by simp only [hto, if_neg h1]; rfl⟩
        | some x =>
          refine And.intro (fun _ => ?_) (fun c => absurd (nI_g0 (by have := ho x rfl; omega)) c)
          refine And.intro (by show vp_in (sR y m1 vs 13 v) 8; rw [e14]; exact in_nI (by omega) (by omega)) ?_
          rw [e14, cl_nI (by omega)]
          refine And.intro trivial ⟨by simp only [hto, if_neg h1], ?_⟩
          simp only [hto, if_neg h1]
          exact w_rG y vs
      · refine And.intro (by show vp_in (sR y m1 vs 13 v) 8; rw [e14]; exact in_nI (by omega) (by omega)) ?_
        rw [e14, cl_nI (by omega)]
        refine And.intro trivial ⟨by simp only [hto, if_pos h1], ?_⟩
        simp only [hto, if_pos h1]
        exact w_rH y vs
/-- the next place, what is left, how the run stands -/
def mCh (c : Nat → Int32) (p u v : Nat) (m : MSt) : Nat × MSt × Int32 :=
  if c p = 37 then (if tkN 1 m.2.2.2.2 = 1 then u else v, mTk 1 m, -1)
  else match (mFd c (aNm c p) m).1 with
    | none => (p, (mFd c (aNm c p) m).2, 1)
    | some o => (if o.isSome then u else v, (mFd c (aNm c p) m).2, -1)
def vI (q : Nat × MSt × Int32) : Int32 := if q.2.2 = -1 then nI q.1 else -1 - q.2.2
theorem vI_e {p : Nat} {m : MSt} {e : Int32} (h : ¬ e = -1) : vI (p, m, e) = -1 - e := by simp [vI, h]
set_option maxRecDepth 100000 in
set_option maxHeartbeats 4000000 in
theorem c_M_choose (m : MSt) (hm : MInv m) (hp : MT y t n) (p u v : Nat) (hpn : p ≤ n) (h1 : Tr (chr t n) (y 3) (y 4) (y 5) (y 6) (y 7) n p (decide (¬ chr t n p = 126)) u) (h0 : Tr (chr t n) (y 3) (y 4) (y 5) (y 6) (y 7) n p (decide (chr t n p = 126)) v) : XMet l 4 q_M_choose [.ref 0, .int (nI p)] (vR y m vs) (some (.int (vI (mCh (chr t n) p u v m)))) (vR y (mCh (chr t n) p u v m).2.1 vs) := by
  have hn := hp.2.1
  have hnm : p ≤ aNm (chr t n) p ∧ aNm (chr t n) p ≤ p + 1 := by unfold aNm; split <;> omega
  have cf := c_M_found l y vs m hm hp (aNm (chr t n) p) (by omega)
  obtain ⟨f1, f2⟩ := mFd_inv (c := chr t n) (i := aNm (chr t n) p) hm
  refine xm_intro (by decide +kernel) (Nat.le_of_ble_eq_true rfl) ?_
  generalize hres : mCh (chr t n) p u v m = res
  generalize hf : mFd (chr t n) (aNm (chr t n) p) m = f at cf f1 f2
  obtain ⟨o, m1⟩ := f
  have j93 : ∀ (x : Int32) (yes : Bool) (m2 : MSt) (r : Nat), x = b01 yes → Tr (chr t n) (y 3) (y 4) (y 5) (y 6) (y 7) n p yes r → res = (r, m2, -1) → XW l 4 q_M_choose (fun a w => a = some (.int (vI res)) ∧ w = vR y res.2.1 vs) 93 [] [.int x, .int (nI p), .ref 0] (vR y m2 vs) := by
    intro x yes m2 r hx ht e
    rw [e]
    refine xw_go xcls ok_M_choose 60 [] ?_
    refine ⟨3, _, _, by decide, c_M_turn l (sR y m2 vs) m2.2.2.2.2 hp p r hpn yes ht hx, ?_⟩
    exact And.intro trivial ⟨rfl, rfl⟩
  have j44 : ∀ (x : Int32) (yes : Bool) (m2 : MSt) (r : Nat), x = b01 yes → Tr (chr t n) (y 3) (y 4) (y 5) (y 6) (y 7) n p yes r → res = (r, m2, -1) → XW l 4 q_M_choose (fun a w => a = some (.int (vI res)) ∧ w = vR y res.2.1 vs) 44 [] [.int x, .int (nI p), .ref 0] (vR y m2 vs) := by
    intro x yes m2 r hx ht e
    rw [e]
    refine xw_go xcls ok_M_choose 60 [] ?_
    refine ⟨3, _, _, by decide, c_M_turn l (sR y m2 vs) m2.2.2.2.2 hp p r hpn yes ht hx, ?_⟩
    exact And.intro trivial ⟨rfl, rfl⟩
  have j60 : ∀ (nt x : Int32), nt = b01 (decide (chr t n p = 126)) → x = nI (aNm (chr t n) p) → ¬ chr t n p = 37 → XW l 4 q_M_choose (fun a w => a = some (.int (vI res)) ∧ w = vR y res.2.1 vs) 60 [(0, .ref 0), (1, .int (nI p)), (2, .int nt)] [.int x, .ref 0] (vR y m vs) := by
    intro nt x hnt hx h37
    subst hx
    refine xw_go xcls ok_M_choose 60 [(93, [])] ?_
    refine ⟨2, _, _, by decide, cf, ?_⟩
    cases o with
    | none =>
      have er : res = (p, m1, 1) := by rw [← hres, mCh, if_neg h37]; simp only [hf]
      refine And.intro (fun c => absurd rfl c) (fun _ => ?_)
      rw [er]
      exact And.intro trivial ⟨congrArg (fun x => some (Value.int x)) (show (-2 : Int32) = vI (p, m1, 1) by rw [vI_e (by decide)]; decide), rfl⟩
    | some o =>
      have ho : ∀ q, o = some q → q < 8 := fun q hq => f2 o q rfl hq
      refine And.intro (fun _ => ?_) (fun c => absurd c (oI_ne2 ho))
      cases o with
      | none =>
        have er : res = (v, m1, -1) := by rw [← hres, mCh, if_neg h37]; simp only [hf]; rfl
        refine And.intro (fun _ => ?_) (fun c => absurd (show oI none < 0 by decide) c)
        by_cases h : chr t n p = 126
        · have e1 : nt = 1 := by rw [hnt]; simp [b01, h]
          subst e1
          refine And.intro (fun c => absurd c (by decide)) (fun _ => ?_)
          exact j93 1 _ m1 v (by simp [b01, h]) h0 er
        · have e1 : nt = 0 := by rw [hnt]; simp [b01, h]
          subst e1
          refine And.intro (fun _ => ?_) (fun c => absurd rfl c)
          exact j93 0 _ m1 v (by simp [b01, h]) h0 er
      | some q =>
        have er : res = (u, m1, -1) := by rw [← hres, mCh, if_neg h37]; simp only [hf]; rfl
        refine And.intro (fun c => absurd c (nI_n0 (by have := ho q rfl; omega))) (fun _ => ?_)
        by_cases h : chr t n p = 126
        · have e1 : nt = 1 := by rw [hnt]; simp [b01, h]
          subst e1
          refine And.intro (fun _ => ?_) (fun c => absurd rfl c)
          exact j93 0 _ m1 u (by simp [b01, h]) h1 er
        · have e1 : nt = 0 := by rw [hnt]; simp [b01, h]
          subst e1
          refine And.intro (fun c => absurd c (by decide)) (fun _ => ?_)
          exact j93 1 _ m1 u (by simp [b01, h]) h1 er
  have j15 : ∀ nt : Int32, nt = b01 (decide (chr t n p = 126)) → XW l 4 q_M_choose (fun a w => a = some (.int (vI res)) ∧ w = vR y res.2.1 vs) 15 [(0, .ref 0), (1, .int (nI p))] [.int nt] (vR y m vs) := by
    intro nt hnt
    refine xw_go xcls ok_M_choose 60 [(60, [0, 1, 2]), (44, [])] ?_
    refine ⟨0, _, _, by decide, c_M_at l (sR y m vs) m.2.2.2.2 p hp (by omega), ?_⟩
    refine And.intro (fun h37 => ?_) (fun h37 => ?_)
    · by_cases h : chr t n p = 126
      · have e1 : nt = 1 := by rw [hnt]; simp [b01, h]
        refine And.intro (fun c => absurd (e1.symm.trans c) (by decide)) (fun _ => ?_)
        exact j60 nt _ hnt (by rw [nI_p1, aNm, if_pos h]) h37
      · have e1 : nt = 0 := by rw [hnt]; simp [b01, h]
        refine And.intro (fun _ => ?_) (fun c => absurd e1 c)
        exact j60 nt _ hnt (by rw [aNm, if_neg h]) h37
    · have hn126 : ¬ chr t n p = 126 := by rw [h37]; decide
      have h2 := tkN_1 m.2.2.2.2
      have er : res = (if tkN 1 m.2.2.2.2 = 1 then u else v, mTk 1 m, -1) := by rw [← hres, mCh, if_pos h37]
      refine ⟨0, _, _, by decide, c_M_take l y vs m 1 (Or.inl rfl), ?_⟩
      refine And.intro (fun h => ?_) (fun h => ?_)
      · rw [show (1 : Int32) = nI 1 from rfl, nI_eq' (by omega) (by omega)] at h
        rw [if_neg h] at er
        exact j44 0 _ _ v (by simp [b01, hn126]) h0 er
      · rw [show (1 : Int32) = nI 1 from rfl, nI_eq' (by omega) (by omega)] at h
        rw [if_pos h] at er
        exact j44 1 _ _ u (by simp [b01, hn126]) h1 er
  refine xw_go xcls ok_M_choose 60 [(15, [0, 1])] ?_
  refine ⟨0, _, _, by decide, c_M_at l (sR y m vs) m.2.2.2.2 p hp (by omega), ?_⟩
  refine And.intro (fun h => ?_) (fun h => ?_)
  · exact j15 0 (by simp [b01, h])
  · exact j15 1 (by simp [b01, h])
end
end
section
/-! The reference: a visit, a run, what it leaves -/
def mVm (y : Sg) (c : Nat → Int32) (w u v : Nat → Nat) (p : Nat) (m : MSt) : Nat × MSt × Int32 :=
  if y 3 p = 8 ∨ y 3 p = 6 then (p, m, 0)
  else if y 3 p = 3 ∨ y 3 p = 4 then (p + 1, m, -1)
  else if y 3 p = 7 then mCh c p (u p) (v p) m
  else if y 3 p = 5 then (w p, mH (min (tkN 2 m.2.2.2.2) (m.2.2.2.1 - 1)) none (mTk 2 m), -1)
  else if y 3 p = 1 then (if (mPt c (y 2) p m).2 = 0 then (w p, (mPt c (y 2) p m).1, -1) else (p, mPt c (y 2) p m))
  else (if (mKp c p m).2 = 0 then (w p, (mKp c p m).1, -1) else (p, mKp c p m))
theorem mPt_e {c : Nat → Int32} {so : Nat → Int32} {p : Nat} {m : MSt} : (mPt c so p m).2 = 0 ∨ (mPt c so p m).2 = 1 ∨ (mPt c so p m).2 = 2 := by
  unfold mPt; split
  · exact Or.inr (Or.inl rfl)
  · split
    · exact Or.inr (Or.inr rfl)
    · exact Or.inl rfl
theorem mKp_e {c : Nat → Int32} {p : Nat} {m : MSt} : (mKp c p m).2 = 0 ∨ (mKp c p m).2 = 1 ∨ (mKp c p m).2 = 2 := by
  unfold mKp; split
  · exact Or.inr (Or.inl rfl)
  · split
    · exact Or.inr (Or.inl rfl)
    · split
      · exact Or.inl rfl
      · split
        · exact Or.inr (Or.inr rfl)
        · exact Or.inl rfl
section
variable (l : Launch) (y : Sg) (vs : Int32) {t : Nat → Int32} {n : Nat}
set_option maxRecDepth 100000 in
set_option maxHeartbeats 4000000 in
theorem c_M_visit (w u v : Nat → Nat) (hm : MPr y (chr t n) n w u v) (hs : ∀ p, p ≤ n → y 3 p = 2 → vp_in (chr t n p - 97) 5) (hp : MT y t n) (m : MSt) (hi : MInv m) (p : Nat) (hpn : p ≤ n) (hr : 0 < y 3 p) : XMet l 5 q_M_visit [.ref 0, .int (nI p)] (vR y m vs) (some (.int (vI (mVm y (chr t n) w u v p m)))) (vR y (mVm y (chr t n) w u v p m).2.1 vs) := by
  have hn := hp.2.1
  obtain ⟨m1, m2, m3, m4, k8, hk8, ek8⟩ := hm p hpn
  refine xm_intro (by decide +kernel) (Nat.le_of_ble_eq_true rfl) ?_
  generalize hres : mVm y (chr t n) w u v p m = res
  -- the end: how it ended, or on
  have j114 : ∀ (e : Int32) (m' : MSt), (y 3 p = 1 ∨ y 3 p = 2 ∨ y 3 p = 5) → (e = 0 ∨ e = 1 ∨ e = 2) → res = (if e = 0 then (w p, m', -1) else (p, m', e)) → XW l 5 q_M_visit (fun a x => a = some (.int (vI res)) ∧ x = vR y res.2.1 vs) 114 [(0, .ref 0), (1, .int (nI p)), (3, .int e)] [] (vR y m' vs) := by
    intro e m' hrr he er
    refine xw_go xcls ok_M_visit 60 [] ?_
    rcases he with rfl | rfl | rfl
    · rw [if_pos rfl] at er
      obtain ⟨z, e7, hgo, hw⟩ := m3 hrr
      refine And.intro (fun _ => ?_) (fun c => absurd (by decide) c)
      refine And.intro (in_nI (by omega) (by omega)) ?_
      rw [cl_nI (by omega)]
      refine ⟨0, _, _, by decide, c_M_goes l (sR y m' vs) m'.2.2.2.2 hn z (w p) hgo e7, ?_⟩
      rw [er]
      exact And.intro trivial ⟨rfl, rfl⟩
    · rw [if_neg (by decide)] at er
      refine And.intro (fun c => absurd c (by decide)) (fun _ => ?_)
      rw [er, vI_e (by decide)]
      exact And.intro trivial ⟨rfl, rfl⟩
    · rw [if_neg (by decide)] at er
      refine And.intro (fun c => absurd c (by decide)) (fun _ => ?_)
      rw [er, vI_e (by decide)]
      exact And.intro trivial ⟨rfl, rfl⟩
  have j19 : (y 3 p = 8 ∨ y 3 p = 6) → XW l 5 q_M_visit (fun a x => a = some (.int (vI res)) ∧ x = vR y res.2.1 vs) 19 [] [] (vR y m vs) := by
    intro h
    refine xw_go xcls ok_M_visit 60 [] ?_
    rw [← hres, mVm, if_pos h, vI_e (by decide)]
    exact And.intro trivial ⟨rfl, rfl⟩
  have j31 : ¬ (y 3 p = 8 ∨ y 3 p = 6) → (y 3 p = 3 ∨ y 3 p = 4) → XW l 5 q_M_visit (fun a x => a = some (.int (vI res)) ∧ x = vR y res.2.1 vs) 31 [(1, .int (nI p))] [] (vR y m vs) := by
    intro h0 h
    refine xw_go xcls ok_M_visit 60 [] ?_
    rw [← hres, mVm, if_neg h0, if_pos h]
    exact And.intro trivial ⟨congrArg (fun x => some (Value.int x)) (nI_p1 p), rfl⟩
  refine xw_go xcls ok_M_visit 60 [(19, []), (31, [1]), (114, [0, 1, 3]), (81, [0, 1, 3])] ?_
  refine And.intro (in_nI (by omega) (by omega)) ?_
  rw [cl_nI (by omega)]
  refine And.intro (fun h => j19 (Or.inl h)) (fun h8 => ?_)
  refine And.intro (fun h6 => ?_) (fun h => j19 (Or.inr h))
  have h86 : ¬ (y 3 p = 8 ∨ y 3 p = 6) := fun c => c.elim h8 h6
  refine And.intro (fun h => j31 h86 (Or.inl h)) (fun h3 => ?_)
  refine And.intro (fun h4 => ?_) (fun h => j31 h86 (Or.inr h))
  have h34 : ¬ (y 3 p = 3 ∨ y 3 p = 4) := fun c => c.elim h3 h4
  refine And.intro (fun h7 => ?_) (fun h7 => ?_)
  · have h7 : ¬ y 3 p = 7 := h7
    refine And.intro (fun h5 => ?_) (fun h5 => ?_)
    · have h5 : ¬ y 3 p = 5 := h5
      refine And.intro (fun h1 => ?_) (fun h1 => ?_)
      · have h1 : ¬ y 3 p = 1 := h1
        have h2 : y 3 p = 2 := by
          have h8 : ¬ y 3 p = 8 := h8
          have h6 : ¬ y 3 p = 6 := h6
          have h3 : ¬ y 3 p = 3 := h3
          have h4 : ¬ y 3 p = 4 := h4
          rw [ek8, show (7 : Int32) = nI 7 from rfl, nI_eq' (by omega) (by omega)] at h7
          rw [ek8, show (8 : Int32) = nI 8 from rfl, nI_eq' (by omega) (by omega)] at h8
          rw [ek8, show (6 : Int32) = nI 6 from rfl, nI_eq' (by omega) (by omega)] at h6
          rw [ek8, show (3 : Int32) = nI 3 from rfl, nI_eq' (by omega) (by omega)] at h3
          rw [ek8, show (4 : Int32) = nI 4 from rfl, nI_eq' (by omega) (by omega)] at h4
          rw [ek8, show (5 : Int32) = nI 5 from rfl, nI_eq' (by omega) (by omega)] at h5
          rw [ek8, show (1 : Int32) = nI 1 from rfl, nI_eq' (by omega) (by omega)] at h1
          rw [ek8, show (0 : Int32) = nI 0 from rfl, nI_lt' (by omega) (by omega)] at hr
          rw [ek8, show (2 : Int32) = nI 2 from rfl, nI_eq' (by omega) (by omega)]
          omega
        refine ⟨3, _, _, by decide, c_M_keep l y vs m hi hp p (by omega) (hs p hpn h2), ?_⟩
        exact j114 _ _ (Or.inr (Or.inl h2)) mKp_e (by rw [← hres, mVm, if_neg h86, if_neg h34, if_neg h7, if_neg h5, if_neg h1])
      · have h1 : y 3 p = 1 := h1
        refine ⟨3, _, _, by decide, c_M_put l y vs m hi hp p (by omega) (m4 h1), ?_⟩
        exact j114 _ _ (Or.inl h1) mPt_e (by rw [← hres, mVm, if_neg h86, if_neg h34, if_neg h7, if_neg h5, if_pos h1])
    · have h5 : y 3 p = 5 := h5
      have ht := tkN_2 m.2.2.2.2
      have i4 := hi.2.2.2.1
      have i5 := hi.2.2.2.2
      refine ⟨0, _, _, by decide, c_M_take l y vs m 2 (Or.inr rfl), ?_⟩
      have j81 : ∀ x : Int32, x = nI (min (tkN 2 m.2.2.2.2) (m.2.2.2.1 - 1)) → XW l 5 q_M_visit (fun a x => a = some (.int (vI res)) ∧ x = vR y res.2.1 vs) 81 [(0, .ref 0), (1, .int (nI p)), (3, .int 0)] [.int x] (vR y (mTk 2 m) vs) := by
        intro x hx
        subst hx
        have hmn : min (tkN 2 m.2.2.2.2) (m.2.2.2.1 - 1) < 8 := by have := Nat.min_le_right (tkN 2 m.2.2.2.2) (m.2.2.2.1 - 1); omega
        refine xw_go xcls ok_M_visit 60 [(114, [0, 1, 3])] ?_
        refine And.intro (in_nI hmn (by omega)) ?_
        rw [cl_nI (by omega)]
        have k := j114 0 (mH (min (tkN 2 m.2.2.2.2) (m.2.2.2.1 - 1)) none (mTk 2 m)) (Or.inr (Or.inr h5)) (Or.inl rfl) (by rw [← hres, mVm, if_neg h86, if_neg h34, if_neg h7, if_pos h5, if_pos rfl])
        rw [← w_rH y vs] at k
        exact k
      refine And.intro (fun c => ?_) (fun c => ?_)
      · have c : nI m.2.2.2.1 ≤ nI (tkN 2 m.2.2.2.2) := c
        rw [nI_le' (by omega) (by omega)] at c
        exact j81 _ (by show nI m.2.2.2.1 - nI 1 = _; rw [pk_sub i4, Nat.min_eq_right (by omega)])
      · have c : ¬ nI m.2.2.2.1 ≤ nI (tkN 2 m.2.2.2.2) := c
        rw [nI_le' (by omega) (by omega)] at c
        exact j81 _ (by rw [Nat.min_eq_left (by omega)])
  · have h7 : y 3 p = 7 := h7
    obtain ⟨t1, t0, hu, hv⟩ := m1 h7
    refine ⟨4, _, _, by decide, c_M_choose l y vs m hi hp p (u p) (v p) hpn t1 t0, ?_⟩
    have er : res = mCh (chr t n) p (u p) (v p) m := by rw [← hres, mVm, if_neg h86, if_neg h34, if_pos h7]
    rw [er]
    exact And.intro trivial ⟨rfl, rfl⟩
end
end
section
/-! The reference: run, held, field, objects, steps -/
def mRm (y : Sg) (c : Nat → Int32) (w u v : Nat → Nat) : Nat → Nat → Nat → MSt → Int32 × MSt × Nat
  | 0, k, p, m => (4 * nI p + 3, m, k)
  | f + 1, k, p, m => if (mVm y c w u v p m).2.2 = -1 then mRm y c w u v f (k + 1) (mVm y c w u v p m).1 (mVm y c w u v p m).2.1 else (4 * nI p - 1 - (-1 - (mVm y c w u v p m).2.2), (mVm y c w u v p m).2.1, k)
/-- a step stays among the places, and keeps the bounds -/
def MNx (y : Sg) (c : Nat → Int32) (n : Nat) (w u v : Nat → Nat) : Prop := ∀ p m, MInv m → p ≤ n → 0 < y 3 p → MInv (mVm y c w u v p m).2.1 ∧ ((mVm y c w u v p m).2.2 = -1 → (mVm y c w u v p m).1 ≤ n ∧ 0 < y 3 (mVm y c w u v p m).1) ∧ ((mVm y c w u v p m).2.2 = -1 ∨ (mVm y c w u v p m).2.2 = 0 ∨ (mVm y c w u v p m).2.2 = 1 ∨ (mVm y c w u v p m).2.2 = 2)
/-- what the names hold as a run of the reference begins -/
def mR0 (so : Nat → Int32) (st : Int32) (k : Nat) (f : Nat → Option Nat) : Nat → Option Nat := fun v => if v < k then (if ¬ so v = 0 ∨ (st >>> (nI v &&& 31)) &&& 1 = 1 then some 0 else none) else f v
theorem mR0_s {so : Nat → Int32} {st : Int32} {k : Nat} {f : Nat → Option Nat} : fu (mR0 so st k f) k (if ¬ so k = 0 ∨ (st >>> (nI k &&& 31)) &&& 1 = 1 then some 0 else none) = mR0 so st (k + 1) f := by
  funext j
  unfold fu mR0
  by_cases h : j = k
  · subst h; simp
  · have : j < k + 1 ↔ j < k := by omega
    simp [h, this]
def mPr (so : Nat → Int32) (st : Int32) (b : Int64) (m : MSt) : MSt := (mR0 so st 5 m.1, fu m.2.1 0 0, fu m.2.2.1 0 none, 1, b)
def RepM (y : Sg) (m : MSt) (vs : Int32) : Prop := y 0 21 = nI m.2.2.2.1 ∧ y 0 24 = vs ∧ y 13 = (fun v => oI (m.1 v)) ∧ y 14 = (fun o => nI (m.2.1 o)) ∧ y 15 = (fun o => oI (m.2.2.1 o))
theorem RepM.eq {y : Sg} {m : MSt} {vs : Int32} (h : RepM y m vs) : vM y m.2.2.2.2 = vR y m vs := vR_i (fun _ _ _ => rfl) (fun _ _ _ => rfl) h.1 h.2.1 h.2.2.1 h.2.2.2.1 h.2.2.2.2
section
variable (l : Launch) (y : Sg) {t : Nat → Int32} {n : Nat}
set_option maxRecDepth 100000 in
set_option maxHeartbeats 1000000 in
theorem lp_M_run (w u v : Nat → Nat) (hm : MPr y (chr t n) n w u v) (hs : ∀ p, p ≤ n → y 3 p = 2 → vp_in (chr t n p - 97) 5) (hp : MT y t n) (hN : MNx y (chr t n) n w u v) : ∀ (f k p : Nat) (m : MSt), k + f = 200 → p ≤ n → 0 < y 3 p → MInv m →
    XW l 7 q_M_run (fun a x => a = some (.int (mRm y (chr t n) w u v f k p m).1) ∧ x = vR y (mRm y (chr t n) w u v f k p m).2.1 (nI (mRm y (chr t n) w u v f k p m).2.2)) 93 [(0, .ref 0), (5, .int (nI p)), (6, .int (nI k))] [] (vR y m (nI k))
  | 0, k, p, m, hf, hpn, hr, hi => by
    have hf : k = 200 := hf
    subst hf
    refine xw_go xcls ok_M_run 40 [] ?_
    refine And.intro (fun h => ?_) (fun h => absurd (by decide) h)
    exact And.intro trivial ⟨rfl, rfl⟩
  | f + 1, k, p, m, hf, hpn, hr, hi => by
    have hn := hp.2.1
    obtain ⟨g1, g2, g3⟩ := hN p m hi hpn hr
    have cv := c_M_visit l y (nI k) w u v hm hs hp m hi p hpn hr
    have ihf := lp_M_run w u v hm hs hp hN f (k + 1)
    simp only [mRm]
    generalize mVm y (chr t n) w u v p m = q at g1 g2 g3 cv ⊢
    obtain ⟨p2, m2, e⟩ := q
    refine xw_go xcls ok_M_run 40 [(93, [0, 5, 6])] ?_
    refine And.intro (fun h => absurd h (by rw [show (200 : Int32) = nI 200 from rfl, nI_le' (by omega) (by omega)]; omega)) (fun h => ?_)
    refine ⟨5, _, _, by decide, cv, ?_⟩
    by_cases he : e = -1
    · subst he
      obtain ⟨k1, k2⟩ := g2 rfl
      have k1 : p2 ≤ n := k1
      have ev : vI (p2, m2, -1) = nI p2 := by simp [vI]
      rw [ev]
      refine And.intro (fun _ => ?_) (fun c => absurd (nI_g0 (by omega)) c)
      refine And.intro trivial ?_
      have ih := ihf p2 m2 (by omega) k1 k2 g1
      simp only [if_true]
      rw [← nI_p1 k] at ih
      exact ih
    · have ev : vI (p2, m2, e) = -1 - e := vI_e he
      have g3 : e = 0 ∨ e = 1 ∨ e = 2 := g3.resolve_left he
      rw [ev]
      have hlt : ¬ (0 : Int32) ≤ -1 - e := by rcases g3 with rfl | rfl | rfl <;> decide
      refine And.intro (fun c => absurd c hlt) (fun _ => ?_)
      simp only [if_neg he]
      exact And.intro trivial ⟨rfl, rfl⟩
set_option maxRecDepth 100000 in
set_option maxHeartbeats 1000000 in
theorem lp_M_loc (m : MSt) (vs : Int32) (st : Int32) (b : Int64) (Rt : Option Value → List va_E → Prop) (K : XW l 7 q_M_run Rt 73 [(0, .ref 0), (2, .long b)] [] (vR y (mR0 (y 2) st 5 m.1, (mSt m).2) vs)) : ∀ (j k : Nat), k + j = 5 → XW l 7 q_M_run Rt 28 [(0, .ref 0), (1, .int st), (2, .long b), (4, .int (nI 0)), (5, .int (nI k))] [] (vR y (mR0 (y 2) st k m.1, (mSt m).2) vs)
  | 0, k, hk => by
    have hk : k = 5 := hk
    subst hk
    refine xw_go xcls ok_M_run 40 [(73, [0, 2])] ?_
    refine And.intro (fun h => K) (fun h => absurd (by decide) h)
  | j + 1, k, hk => by
    have ih := lp_M_loc m vs st b Rt K j (k + 1) (by omega)
    rw [← nI_p1] at ih
    have e0 : ∀ x : Option Nat, x = (if ¬ y 2 k = 0 ∨ (st >>> (nI k &&& 31)) &&& 1 = 1 then some 0 else none) → mLoc k x (mR0 (y 2) st k m.1, (mSt m).2) = (mR0 (y 2) st (k + 1) m.1, (mSt m).2) := by
      intro x hx
      show (fu (mR0 (y 2) st k m.1) k x, (mSt m).2) = _
      rw [hx, mR0_s]
    have j66 : ∀ (x : Option Nat) (z : Int32), z = oI x → x = (if ¬ y 2 k = 0 ∨ (st >>> (nI k &&& 31)) &&& 1 = 1 then some 0 else none) → XW l 7 q_M_run Rt 66 [(0, .ref 0), (1, .int st), (2, .long b), (4, .int (nI 0)), (5, .int (nI k))] [.int z, .int (nI k), .ref 13] (vR y (mR0 (y 2) st k m.1, (mSt m).2) vs) := by
      intro x z hz hx
      subst hz
      refine xw_go xcls ok_M_run 40 [(28, [0, 1, 2, 4, 5])] ?_
      refine And.intro (in_nI (by omega) (by omega)) ?_
      rw [cl_nI (by omega)]
      rw [← e0 x hx, ← w_rLoc y vs] at ih
      exact ih
    have j60 : (¬ y 2 k = 0 ∨ (st >>> (nI k &&& 31)) &&& 1 = 1) → XW l 7 q_M_run Rt 60 [(0, .ref 0), (1, .int st), (2, .long b), (4, .int (nI 0)), (5, .int (nI k))] [.int (nI k), .ref 13] (vR y (mR0 (y 2) st k m.1, (mSt m).2) vs) := by
      intro h
      refine xw_go xcls ok_M_run 40 [(66, [0, 1, 2, 4, 5])] ?_
      exact j66 (some 0) (nI 0) rfl (by rw [if_pos h])
    refine xw_go xcls ok_M_run 40 [(66, [0, 1, 2, 4, 5]), (60, [0, 1, 2, 4, 5])] ?_
    refine And.intro (fun h => absurd h (by rw [show (5 : Int32) = nI 5 from rfl, nI_le' (by omega) (by omega)]; omega)) (fun h => ?_)
    refine And.intro (in_nI (by omega) (by omega)) ?_
    rw [cl_nI (by omega)]
    refine And.intro (fun h2 => j60 (Or.inl h2)) (fun h2 => ?_)
    have h2 : y 2 k = 0 := h2
    refine And.intro (fun h3 => ?_) (fun h3 => j60 (Or.inr h3))
    exact j66 none (-1) rfl (by rw [if_neg (fun c => c.elim (fun c => c h2) h3)])
theorem RepM.yP {m : MSt} {vs : Int32} (h : RepM y m vs) : RepM (yP t n y) m vs := by
  obtain ⟨h1, h2, h3, h4, h5⟩ := h
  refine ⟨(yP_0 (by decide) (by decide)).trans h1, (yP_0 (by decide) (by decide)).trans h2, (yP_n (by decide) (by decide) (by decide) (by decide) (by decide) (by decide) (by decide)).trans h3, (yP_n (by decide) (by decide) (by decide) (by decide) (by decide) (by decide) (by decide)).trans h4, (yP_n (by decide) (by decide) (by decide) (by decide) (by decide) (by decide) (by decide)).trans h5⟩
/-- the reference behind the beginning of a run -/
def yR (t : Nat → Int32) (n : Nat) (y : Sg) : Sg := us (yP t n y) 0 19 1
set_option maxRecDepth 100000 in
set_option maxHeartbeats 2000000 in
theorem c_M_run (w u v : Nat → Nat) (hp : MT y t n) (hv : mOk t n y) (m : MSt) (vs : Int32) (hR : RepM y m vs) (hi : MInv (mPr (yR t n y 2) 0 0 m) → True) (st : Int32) (b : Int64)
    (hm : MPr (yR t n y) (chr t n) n w u v) (hs : ∀ p, p ≤ n → yR t n y 3 p = 2 → vp_in (chr t n p - 97) 5) (hN : MNx (yR t n y) (chr t n) n w u v) (h0 : 0 < yR t n y 3 0) (hm0 : MInv (mPr (yR t n y 2) st b m)) :
    XMet l 7 q_M_run [.ref 0, .int st, .long b] (vR y m vs) (some (.int (mRm (yR t n y) (chr t n) w u v 200 0 0 (mPr (yR t n y 2) st b m)).1)) (vR (yR t n y) (mRm (yR t n y) (chr t n) w u v 200 0 0 (mPr (yR t n y 2) st b m)).2.1 (nI (mRm (yR t n y) (chr t n) w u v 200 0 0 (mPr (yR t n y 2) st b m)).2.2)) := by
  have hn := hp.2.1
  have hpR : MT (yR t n y) t n := MT_yP hp
  have cp := c_M_progY l y m.2.2.2.2 hp hv
  rw [hR.eq, (hR.yP y (t := t) (n := n)).eq] at cp
  have lr := lp_M_run l (yR t n y) w u v hm hs hpR hN 200 0 0 (mPr (yR t n y 2) st b m) (by omega) (by omega) h0 hm0
  have hgo : Go (yR t n y 3) (yR t n y 4) (yR t n y 7) n 65 0 0 := ⟨by omega, Or.inl ⟨h0, rfl⟩⟩
  generalize hz : yR t n y = z at lr hgo hpR ⊢
  have hzy : vR (yP t n y) m vs = vR (yP t n y) m vs := rfl
  generalize mRm z (chr t n) w u v 200 0 0 (mPr (z 2) st b m) = fin at lr ⊢
  refine xm_intro (by decide +kernel) (Nat.le_of_ble_eq_true rfl) ?_
  refine xw_go xcls ok_M_run 60 [(28, [0, 1, 2, 4, 5])] ?_
  refine ⟨5, _, _, by decide, cp, ?_⟩
  refine And.intro (fun _ => ?_) (fun c => absurd c (by decide))
  refine And.intro (Or.inr rfl) ?_
  refine And.intro trivial ?_
  have cc := c_M_create l z vs (m.1, m.2.1, m.2.2.1, 0, m.2.2.2.2) (by show 0 ≤ 8; omega)
  subst hz
  refine ⟨0, _, _, by decide, cc, ?_⟩
  generalize yR t n y = z at lr hgo hpR ⊢
  have ll := lp_M_loc l z m vs st b (fun a x => a = some (.int fin.1) ∧ x = vR z fin.2.1 (nI fin.2.2)) ?_ 5 0 (by omega)
  · rw [show mR0 (z 2) st 0 m.1 = m.1 from by funext v; simp [mR0]] at ll
    exact ll
  · refine xw_go xcls ok_M_run 60 [(93, [0, 5, 6])] ?_
    refine And.intro trivial ?_
    refine And.intro trivial ?_
    refine ⟨0, _, _, by decide, c_M_goes l (sR z (mPr (z 2) st b m) (nI 0)) b hn 0 0 hgo, ?_⟩
    exact lr
set_option maxRecDepth 100000 in
set_option maxHeartbeats 1000000 in
theorem c_M_runN (hp : MT y t n) (hv : ¬ mOk t n y) (b0 : Int64) (st : Int32) (b : Int64) : XMet l 7 q_M_run [.ref 0, .int st, .long b] (vM y b0) (some (.int (-1))) (vM (mPar t n y).2.1 b0) := by
  refine xm_intro (by decide +kernel) (Nat.le_of_ble_eq_true rfl) ?_
  refine xw_go xcls ok_M_run 60 [] ?_
  refine ⟨5, _, _, by decide, c_M_progN l y b0 hp hv, ?_⟩
  refine And.intro (fun c => absurd rfl c) (fun _ => ?_)
  exact And.intro trivial ⟨rfl, rfl⟩
variable (b : Int64)
set_option maxRecDepth 100000 in
theorem c_M_held (v : Int32) (hv : isL v) : XMet l 7 q_M_held [.ref 0, .int v] (vM y b) (some (.int (if y 0 19 = 0 then -1 else y 13 v.toNatClampNeg))) (vM y b) := by
  obtain ⟨j, hj, rfl⟩ := isL_n hv
  refine xm_intro (by decide +kernel) (Nat.le_of_ble_eq_true rfl) ?_
  refine xw_go xcls ok_M_held 40 [] ?_
  refine And.intro (fun h => ?_) (fun h => ?_)
  · have h : y 0 19 = 0 := h
    exact And.intro trivial ⟨by rw [if_pos h], rfl⟩
  · have h : ¬ y 0 19 = 0 := h
    refine And.intro (fun c => absurd c (nI_n0 (by omega))) (fun _ => ?_)
    refine And.intro (fun c => absurd hv.2 (Int32.not_lt.mpr c)) (fun _ => ?_)
    refine And.intro (in_nI (by omega) (by omega)) ?_
    exact And.intro trivial ⟨by rw [if_neg h], rfl⟩
set_option maxRecDepth 100000 in
theorem c_M_heldN (v : Int32) (hv : ¬ isL v) : XMet l 7 q_M_held [.ref 0, .int v] (vM y b) (some (.int (-1))) (vM y b) := by
  refine xm_intro (by decide +kernel) (Nat.le_of_ble_eq_true rfl) ?_
  refine xw_go xcls ok_M_held 40 [] ?_
  refine And.intro (fun h => ?_) (fun h => ?_)
  · exact And.intro trivial ⟨rfl, rfl⟩
  · refine And.intro (fun _ => ?_) (fun h1 => ?_)
    · exact And.intro trivial ⟨rfl, rfl⟩
    · refine And.intro (fun _ => ?_) (fun h2 => absurd ⟨Int32.not_lt.mp h1, Int32.not_le.mp h2⟩ hv)
      exact And.intro trivial ⟨rfl, rfl⟩
set_option maxRecDepth 100000 in
set_option maxHeartbeats 1000000 in
theorem c_M_field (k : Nat) (hk : y 0 21 = nI k) (hk8 : k ≤ 8) (o f : Int32) (r : Int32) (hr : r = (if y 0 19 = 0 then -1 else if 0 ≤ o ∧ o < nI k then (if f = 0 then y 14 o.toNatClampNeg else if f = 1 then y 15 o.toNatClampNeg else -1) else -1)) : XMet l 7 q_M_field [.ref 0, .int o, .int f] (vM y b) (some (.int r)) (vM y b) := by
  refine xm_intro (by decide +kernel) (Nat.le_of_ble_eq_true rfl) ?_
  have j28 : r = -1 → XW l 7 q_M_field (fun u w => u = some (.int r) ∧ w = vM y b) 28 [] [] (vM y b) := by
    intro h
    rw [h]
    refine xw_go xcls ok_M_field 40 [] ?_
    exact And.intro trivial ⟨rfl, rfl⟩
  refine xw_go xcls ok_M_field 40 [(28, [])] ?_
  refine And.intro (fun h => j28 (by rw [hr, if_pos h])) (fun h => ?_)
  have h : ¬ y 0 19 = 0 := h
  rw [if_neg h] at hr
  refine And.intro (fun h1 => j28 (by rw [hr, if_neg (fun c => Int32.not_le.mpr h1 c.1)])) (fun h1 => ?_)
  refine And.intro (fun h2 => j28 (by rw [hr, if_neg (fun c => Int32.not_lt.mpr (show nI k ≤ o by rw [← hk]; exact h2) c.2)])) (fun h2 => ?_)
  have h2 : o < nI k := by rw [← hk]; exact Int32.not_le.mp h2
  rw [if_pos ⟨Int32.not_lt.mp h1, h2⟩] at hr
  obtain ⟨j, hj, e⟩ := nI_of h1
  rw [e, nI_ltI (by omega) (by omega)] at h2
  refine And.intro (fun h3 => j28 (by rw [hr, if_neg (fun c => by rw [c] at h3; exact absurd h3 (by decide)), if_neg (fun c => by rw [c] at h3; exact absurd h3 (by decide))])) (fun h3 => ?_)
  have h3 : ¬ f < 0 := h3
  refine And.intro (fun h4 => ?_) (fun h4 => ?_)
  · have h4 : f ≤ 1 := h4
    refine And.intro (fun h5 => ?_) (fun h5 => ?_)
    · have h5 : ¬ f = 0 := h5
      have h6 : f = 1 := by
        obtain ⟨i, hi, rfl⟩ := nI_of h3
        rw [show (1 : Int32) = nI 1 from rfl, nI_leI (by omega) (by omega)] at h4
        rw [show (0 : Int32) = nI 0 from rfl, nI_eq (by omega) (by omega)] at h5
        rw [show (1 : Int32) = nI 1 from rfl, nI_eq (by omega) (by omega)]
        omega
      refine And.intro (by rw [e]; exact in_nI (by omega) (by omega)) ?_
      exact And.intro trivial ⟨by rw [hr, if_neg h5, if_pos h6], rfl⟩
    · refine And.intro (by rw [e]; exact in_nI (by omega) (by omega)) ?_
      exact And.intro trivial ⟨by rw [hr, if_pos h5], rfl⟩
  · have h4 : ¬ f ≤ 1 := h4
    exact j28 (by rw [hr, if_neg (fun c => by rw [c] at h4; exact h4 (by decide)), if_neg (fun c => by rw [c] at h4; exact h4 (by decide))])
set_option maxRecDepth 100000 in
theorem c_M_objects : XMet l 7 q_M_objects [.ref 0] (vM y b) (some (.int (if y 0 19 = 0 then 0 else y 0 21))) (vM y b) := by
  refine xm_intro (by decide +kernel) (Nat.le_of_ble_eq_true rfl) ?_
  refine xw_go xcls ok_M_objects 40 [] ?_
  refine And.intro (fun h => ?_) (fun h => ?_)
  · have h : y 0 19 = 0 := h
    exact And.intro trivial ⟨by rw [if_pos h], rfl⟩
  · have h : ¬ y 0 19 = 0 := h
    exact And.intro trivial ⟨by rw [if_neg h], rfl⟩
set_option maxRecDepth 100000 in
theorem c_M_steps : XMet l 7 q_M_steps [.ref 0] (vM y b) (some (.int (if y 0 19 = 0 then -1 else y 0 24))) (vM y b) := by
  refine xm_intro (by decide +kernel) (Nat.le_of_ble_eq_true rfl) ?_
  refine xw_go xcls ok_M_steps 40 [] ?_
  refine And.intro (fun h => ?_) (fun h => ?_)
  · have h : y 0 19 = 0 := h
    exact And.intro trivial ⟨by rw [if_pos h], rfl⟩
  · have h : ¬ y 0 19 = 0 := h
    exact And.intro trivial ⟨by rw [if_neg h], rfl⟩
end
end
section
/-! Constructors: an array made and laid into a final field -/
section MkArr
variable {p : Program} {l : Launch} {e : Env} {R : Room} {s : State} {m : MethodId} {args : Array Value} {below : List Frame} {meth : Method} {c : Code} {H : Heap} {locs : List Loc} {cells slots : Nat} {Q : State → Prop} {cc : ByteArray} {D : va_G} {tc : Nat → ClassId} {A : Nat → Prop}
/-- the array of a class is the one that is known -/
theorem ya_same {tys : List (ClassId × FieldType)} {cA cB : ClassId} {ty : FieldType} {i j : Nat} (hty : ∀ C, ty ≠ .object C) (hK : va_K D vwCl tys s) (h1 : tys[i]? = some (cA, ty)) (h2 : tys[j]? = some (cB, ty)) : cA = cB := by
  have a := (hK.2 i _ h1).2
  have b := (hK.2 j _ h2).2
  cases ty with
  | object C => exact absurd rfl (hty C)
  | _ => exact Option.some.inj (Eq.trans (Eq.symm a) b)
set_option maxHeartbeats 1000000 in
theorem mk_arr {own C : String} {T : u_T} {N ci : Nat} {a : Nat} {fs : List Value} {ws : va_W} {la : Array Slot} {p0 p1 p2 p3 p4 idx k t0 nn : Nat} {atype : ArrayType} {n : Int32} {ty : FieldType}
    (hx : p.tables.exec = Jvm.exec) (hb : c.code = cc) (hts : ∀ w ∈ wsG, w.before args s = true) (hown : s.vm.findClass own = some m.cls) (hin : meth.name = "<init>") (hK : va_K D vwCl (xt tc) s) (hA : ∀ q, s.heap.size ≤ q → A q)
    (hP : va_P D vwCl ((a, .inr (ci, fs)) :: ws) H) (hD : va_D A ((a, .inr (ci, fs)) :: ws)) (hS : va_S A s.heap H locs) (hl : la[0]? = some (.val (.ref a)))
    (hc : vwCl[ci]? = some (C, T, N)) (hk : k < N) (hlink : Cond.fieldLink own idx (T k).1 (T k).2.1 (T k).2.2.1 ∈ wsG) (hfin : (T k).2.2.2 = true) (hdecl : (T k).1 = own) (hfd : parseFieldDescriptor (T k).2.2.1 = some (.array ty))
    (harr : Cond.arrayClass ty ∈ wsG) (hty : newarray.typeOf atype = ty) (hto : ∀ C, ty ≠ .object C) (ht0 : (xt tc)[t0]? = some (tc t0, ty)) (hz : defaultValue ty = .int 0) (hn : ¬ n < 0) (hN : n.toNatClampNeg = nn) (hbytes : nn * componentBytes ty ≤ 536870912) (hcl : cells + 1 ≤ R.cells) (hsl : slots + nn ≤ R.slots)
    (hlf : k < fs.length)
    (d0 : decode cc p0 = .ok (.aload_n 0, 1)) (e1 : p1 = p0 + 1) (hpush : W p l e R s m args below meth c H locs cells slots Q (F0 m p2 la [.int n, .ref a]) → W p l e R s m args below meth c H locs cells slots Q (F0 m p1 la [.ref a])) (d2 : decode cc p2 = .ok (.newarray atype, 2)) (e3 : p3 = p2 + 2) (d3 : decode cc p3 = .ok (.putfield idx, 3)) (e4 : p4 = p3 + 3)
    (kk : ∀ (q : Nat) (H1 : Heap) (locs1 : List Loc), va_P D vwCl ((a, .inr (ci, fs.set k (.ref q))) :: (ws ++ [(q, .inl (tc t0, nn, .inl (fun _ => 0)))])) H1 → va_D A ((a, .inr (ci, fs.set k (.ref q))) :: (ws ++ [(q, .inl (tc t0, nn, .inl (fun _ => 0)))])) → va_S A s.heap H1 locs1 → W p l e R s m args below meth c H1 locs1 (cells + 1) (slots + nn) Q (F0 m p4 la [])) :
    W p l e R s m args below meth c H locs cells slots Q (F0 m p0 la []) := by
  subst e1; subst e3; subst e4
  obtain ⟨cls1, cls2, ty0, cls3⟩ := xcls ci C T N hc
  refine lv_aload_n hx hb d0 rfl hl ?_
  refine hpush ?_
  subst hty
  refine va_newa (N' := nn) (a0 := (nn, .inl (fun _ => 0))) hx hb (hts _ harr) rfl hK hP hD hS hA (fun cA => by rw [vp_cell_i, hz]) hn hN hbytes hcl hsl d2 (fun q cA H1 hK1 hP1 hD1 hS1 => ?_)
  have ec : cA = tc t0 := by
    have hlen : t0 < (xt tc).length := (List.getElem?_eq_some_iff.mp ht0).1
    refine ya_same (i := (xt tc).length) (j := t0) hto hK1 ?_ ?_
    · rw [List.getElem?_append_right (Nat.le_refl _), Nat.sub_self]; rfl
    · rw [List.getElem?_append_left hlen]; exact ht0
  subst ec
  exact va_putF (D := D) (v := .ref q) (ty := .array (newarray.typeOf atype)) hx hb hts cls1 ty0 cls3 cls2 hown hK hP1 hD1 hS1 0 rfl hc k hk (hts _ hlink) (fun _ h9 => h9) hfin hin hdecl hfd rfl rfl hlf d3 (fun H2 locs2 hP2 hD2 hS2 => kk q H2 locs2 hP2 hD2 hS2)
end MkArr
end
section
/-! Constructors, by program (wip/whole/genctor.py) -/
def cQ (D : va_G) (tc : Nat → ClassId) (a : Nat) (A : Nat → Prop) (w : List va_E) : Array Value → State → Outcome → State → Prop := fun _ st oc t => ∃ ad : Nat → Nat, ad 0 = a ∧ oc = .returned none ∧ va_P D vwCl (xz tc ad 0 w) t.heap ∧ va_D A (xz tc ad 0 w) ∧ va_K D vwCl (xt tc) t ∧ va_F A st t
set_option maxRecDepth 100000 in
set_option maxHeartbeats 4000000 in
theorem c_M_init (l : Launch) (D : va_G) (tc : Nat → ClassId) (a sz : Nat) : Met l q_M_init.1 (xW q_M_init) { frames := 1, cells := 15, slots := 681, locals := 40 } (va_Pc [.ref a] (fun U => U.heap.size = sz ∧ va_P D vwCl [(a, .inr (4, [.null, .int 0, .null, .null, .null, .null, .null, .null, .int 0, .int 0, .null, .null, .null, .null, .null, .int 0, .int 0, .int 0, .int 0, .int 0, .null, .int 0, .null, .null, .int 0, .long 0, .int 0]))] U.heap ∧ va_K D vwCl (xt tc) U ∧ va_D (fun _ => True) [(a, .inr (4, [.null, .int 0, .null, .null, .null, .null, .null, .null, .int 0, .int 0, .null, .null, .null, .null, .null, .int 0, .int 0, .int 0, .int 0, .int 0, .null, .int 0, .null, .null, .int 0, .long 0, .int 0]))])) (cQ D tc a (va_A [(a, .inr (4, [.null, .int 0, .null, .null, .null, .null, .null, .null, .int 0, .int 0, .null, .null, .null, .null, .null, .int 0, .int 0, .int 0, .int 0, .int 0, .null, .int 0, .null, .null, .int 0, .long 0, .int 0]))] sz) (vM (fun _ _ => 0) 0)) 15 681 (va_A [(a, .inr (4, [.null, .int 0, .null, .null, .null, .null, .null, .null, .int 0, .int 0, .null, .null, .null, .null, .null, .int 0, .int 0, .int 0, .int 0, .int 0, .null, .int 0, .null, .null, .int 0, .long 0, .int 0]))] sz) := by
  refine Met.ofW (cc := q_M_init.2.1) (maxL := 1) (ret := none) (by decide +kernel) rfl ?_
  intro p e s m args below meth c s₁ B hml hv
  obtain ⟨rfl, hsz, hP, hK, hD0⟩ := hv
  have hx := B.exec
  have hb := B.bytes
  have hr := B.returns
  have hts0 := atoms_spec (ws := xW q_M_init) B.pre
  have hts : ∀ w ∈ wsG, w.before ([Value.ref a] : List Value).toArray s = true := fun w hw => hts0 w (List.mem_cons_of_mem _ hw)
  have hown : s.vm.findClass "NullGuardModel" = some m.cls := findClass_of_methodNamed B.named
  have hlocks := B.notSynchronized
  have hin : meth.name = "<init>" := (name_of_methodNamed B.named B.method).1
  subst hsz
  have hD := hD0.self (sz := s.heap.size)
  generalize hAe : va_A [(a, .inr (4, [.null, .int 0, .null, .null, .null, .null, .null, .null, .int 0, .int 0, .null, .null, .null, .null, .null, .int 0, .int 0, .int 0, .int 0, .int 0, .null, .int 0, .null, .null, .int 0, .long 0, .int 0]))] s.heap.size = A at hD ⊢
  have hA : ∀ q : Nat, s.heap.size ≤ q → A q := fun q h => by rw [← hAe]; exact Or.inr h
  have hS : va_S A s.heap s.heap [] := va_S.rf
  have hl := lv_entry ([.ref a]) (n := 1) (Nat.le_of_ble_eq_true rfl)
  rw [lg_entry_eq]
  generalize (lg_sl ([.ref a]) ++ List.replicate (1 - (lg_sl ([.ref a])).length) Slot.unset).toArray = la at hl ⊢
  have hl : lv_has la 1 [(0, .ref a)] := hl
  refine lv_aload_n (k := 0) hx hb (show decode q_M_init.2.1 0 = .ok (.aload_n 0, 1) by decide +kernel) rfl (lv_at hl 0 rfl) ?_
  refine W.objInit hx hb hown (hts _ (tb2 (i := 199) rfl rfl)) (hts _ (tb1 (i := 14) rfl rfl)) (hts _ (tb1 (i := 15) rfl rfl)) rfl (by rw [hml]; exact hl.1) rfl (show decode q_M_init.2.1 1 = .ok (.invokespecial 1, 3) by decide +kernel) (Nat.le_of_ble_eq_true rfl) (Nat.le_of_ble_eq_true rfl) ?_
  refine W.eq (g2 := F0 m 4 la []) rfl ?_
  refine mk_arr (p0 := 4) (p1 := 5) (p2 := 7) (p3 := 9) (p4 := 12) (k := 0) (t0 := 0) (nn := 64) (n := 64) (ty := .int) (C := R_M) (T := F_M) (N := 27) (idx := 7) (atype := .int) hx hb hts hown hin hK hA hP hD hS (lv_at hl 0 rfl) rfl (by decide) (tb2 (i := 200) rfl rfl) rfl rfl (t_M_ok 0 (by decide)) (tb1 (i := 155) rfl rfl) rfl (fun C h => by cases h) rfl rfl (by decide) (by decide) (by decide) (by decide) (by decide) (Nat.le_of_ble_eq_true rfl) (by decide +kernel) rfl (fun k => lv_bipush hx hb (show decode q_M_init.2.1 5 = .ok (.bipush 64, 2) by decide +kernel) (by decide) k) (by decide +kernel) rfl (by decide +kernel) rfl (fun q1 H locs hP hD hS => ?_)
  replace hP : va_P D vwCl [(a, .inr (4, [.ref q1, .int 0, .null, .null, .null, .null, .null, .null, .int 0, .int 0, .null, .null, .null, .null, .null, .int 0, .int 0, .int 0, .int 0, .int 0, .null, .int 0, .null, .null, .int 0, .long 0, .int 0])), (q1, .inl (tc 0, 64, .inl (fun _ => 0)))] H := hP
  replace hD : va_D A [(a, .inr (4, [.ref q1, .int 0, .null, .null, .null, .null, .null, .null, .int 0, .int 0, .null, .null, .null, .null, .null, .int 0, .int 0, .int 0, .int 0, .int 0, .null, .int 0, .null, .null, .int 0, .long 0, .int 0])), (q1, .inl (tc 0, 64, .inl (fun _ => 0)))] := hD
  refine mk_arr (p0 := 12) (p1 := 13) (p2 := 14) (p3 := 16) (p4 := 19) (k := 2) (t0 := 2) (nn := 5) (n := 5) (ty := .boolean) (C := R_M) (T := F_M) (N := 27) (idx := 13) (atype := .boolean) hx hb hts hown hin hK hA hP hD hS (lv_at hl 0 rfl) rfl (by decide) (tb2 (i := 202) rfl rfl) rfl rfl (t_M_ok 2 (by decide)) (tb3 (i := 41) rfl rfl) rfl (fun C h => by cases h) rfl rfl (by decide) (by decide) (by decide) (by decide) (by decide) (Nat.le_of_ble_eq_true rfl) (by decide +kernel) rfl (fun k => lv_iconst hx hb (show decode q_M_init.2.1 13 = .ok (.iconst 5, 1) by decide +kernel) (by decide) k) (by decide +kernel) rfl (by decide +kernel) rfl (fun q2 H locs hP hD hS => ?_)
  replace hP : va_P D vwCl [(a, .inr (4, [.ref q1, .int 0, .ref q2, .null, .null, .null, .null, .null, .int 0, .int 0, .null, .null, .null, .null, .null, .int 0, .int 0, .int 0, .int 0, .int 0, .null, .int 0, .null, .null, .int 0, .long 0, .int 0])), (q1, .inl (tc 0, 64, .inl (fun _ => 0))), (q2, .inl (tc 2, 5, .inl (fun _ => 0)))] H := hP
  replace hD : va_D A [(a, .inr (4, [.ref q1, .int 0, .ref q2, .null, .null, .null, .null, .null, .int 0, .int 0, .null, .null, .null, .null, .null, .int 0, .int 0, .int 0, .int 0, .int 0, .null, .int 0, .null, .null, .int 0, .long 0, .int 0])), (q1, .inl (tc 0, 64, .inl (fun _ => 0))), (q2, .inl (tc 2, 5, .inl (fun _ => 0)))] := hD
  refine mk_arr (p0 := 19) (p1 := 20) (p2 := 22) (p3 := 24) (p4 := 27) (k := 3) (t0 := 0) (nn := 65) (n := 65) (ty := .int) (C := R_M) (T := F_M) (N := 27) (idx := 17) (atype := .int) hx hb hts hown hin hK hA hP hD hS (lv_at hl 0 rfl) rfl (by decide) (tb2 (i := 203) rfl rfl) rfl rfl (t_M_ok 3 (by decide)) (tb1 (i := 155) rfl rfl) rfl (fun C h => by cases h) rfl rfl (by decide) (by decide) (by decide) (by decide) (by decide) (Nat.le_of_ble_eq_true rfl) (by decide +kernel) rfl (fun k => lv_bipush hx hb (show decode q_M_init.2.1 20 = .ok (.bipush 65, 2) by decide +kernel) (by decide) k) (by decide +kernel) rfl (by decide +kernel) rfl (fun q3 H locs hP hD hS => ?_)
  replace hP : va_P D vwCl [(a, .inr (4, [.ref q1, .int 0, .ref q2, .ref q3, .null, .null, .null, .null, .int 0, .int 0, .null, .null, .null, .null, .null, .int 0, .int 0, .int 0, .int 0, .int 0, .null, .int 0, .null, .null, .int 0, .long 0, .int 0])), (q1, .inl (tc 0, 64, .inl (fun _ => 0))), (q2, .inl (tc 2, 5, .inl (fun _ => 0))), (q3, .inl (tc 0, 65, .inl (fun _ => 0)))] H := hP
  replace hD : va_D A [(a, .inr (4, [.ref q1, .int 0, .ref q2, .ref q3, .null, .null, .null, .null, .int 0, .int 0, .null, .null, .null, .null, .null, .int 0, .int 0, .int 0, .int 0, .int 0, .null, .int 0, .null, .null, .int 0, .long 0, .int 0])), (q1, .inl (tc 0, 64, .inl (fun _ => 0))), (q2, .inl (tc 2, 5, .inl (fun _ => 0))), (q3, .inl (tc 0, 65, .inl (fun _ => 0)))] := hD
  refine mk_arr (p0 := 27) (p1 := 28) (p2 := 30) (p3 := 32) (p4 := 35) (k := 4) (t0 := 0) (nn := 65) (n := 65) (ty := .int) (C := R_M) (T := F_M) (N := 27) (idx := 20) (atype := .int) hx hb hts hown hin hK hA hP hD hS (lv_at hl 0 rfl) rfl (by decide) (tb2 (i := 204) rfl rfl) rfl rfl (t_M_ok 4 (by decide)) (tb1 (i := 155) rfl rfl) rfl (fun C h => by cases h) rfl rfl (by decide) (by decide) (by decide) (by decide) (by decide) (Nat.le_of_ble_eq_true rfl) (by decide +kernel) rfl (fun k => lv_bipush hx hb (show decode q_M_init.2.1 28 = .ok (.bipush 65, 2) by decide +kernel) (by decide) k) (by decide +kernel) rfl (by decide +kernel) rfl (fun q4 H locs hP hD hS => ?_)
  replace hP : va_P D vwCl [(a, .inr (4, [.ref q1, .int 0, .ref q2, .ref q3, .ref q4, .null, .null, .null, .int 0, .int 0, .null, .null, .null, .null, .null, .int 0, .int 0, .int 0, .int 0, .int 0, .null, .int 0, .null, .null, .int 0, .long 0, .int 0])), (q1, .inl (tc 0, 64, .inl (fun _ => 0))), (q2, .inl (tc 2, 5, .inl (fun _ => 0))), (q3, .inl (tc 0, 65, .inl (fun _ => 0))), (q4, .inl (tc 0, 65, .inl (fun _ => 0)))] H := hP
  replace hD : va_D A [(a, .inr (4, [.ref q1, .int 0, .ref q2, .ref q3, .ref q4, .null, .null, .null, .int 0, .int 0, .null, .null, .null, .null, .null, .int 0, .int 0, .int 0, .int 0, .int 0, .null, .int 0, .null, .null, .int 0, .long 0, .int 0])), (q1, .inl (tc 0, 64, .inl (fun _ => 0))), (q2, .inl (tc 2, 5, .inl (fun _ => 0))), (q3, .inl (tc 0, 65, .inl (fun _ => 0))), (q4, .inl (tc 0, 65, .inl (fun _ => 0)))] := hD
  refine mk_arr (p0 := 35) (p1 := 36) (p2 := 38) (p3 := 40) (p4 := 43) (k := 5) (t0 := 0) (nn := 65) (n := 65) (ty := .int) (C := R_M) (T := F_M) (N := 27) (idx := 23) (atype := .int) hx hb hts hown hin hK hA hP hD hS (lv_at hl 0 rfl) rfl (by decide) (tb2 (i := 205) rfl rfl) rfl rfl (t_M_ok 5 (by decide)) (tb1 (i := 155) rfl rfl) rfl (fun C h => by cases h) rfl rfl (by decide) (by decide) (by decide) (by decide) (by decide) (Nat.le_of_ble_eq_true rfl) (by decide +kernel) rfl (fun k => lv_bipush hx hb (show decode q_M_init.2.1 36 = .ok (.bipush 65, 2) by decide +kernel) (by decide) k) (by decide +kernel) rfl (by decide +kernel) rfl (fun q5 H locs hP hD hS => ?_)
  replace hP : va_P D vwCl [(a, .inr (4, [.ref q1, .int 0, .ref q2, .ref q3, .ref q4, .ref q5, .null, .null, .int 0, .int 0, .null, .null, .null, .null, .null, .int 0, .int 0, .int 0, .int 0, .int 0, .null, .int 0, .null, .null, .int 0, .long 0, .int 0])), (q1, .inl (tc 0, 64, .inl (fun _ => 0))), (q2, .inl (tc 2, 5, .inl (fun _ => 0))), (q3, .inl (tc 0, 65, .inl (fun _ => 0))), (q4, .inl (tc 0, 65, .inl (fun _ => 0))), (q5, .inl (tc 0, 65, .inl (fun _ => 0)))] H := hP
  replace hD : va_D A [(a, .inr (4, [.ref q1, .int 0, .ref q2, .ref q3, .ref q4, .ref q5, .null, .null, .int 0, .int 0, .null, .null, .null, .null, .null, .int 0, .int 0, .int 0, .int 0, .int 0, .null, .int 0, .null, .null, .int 0, .long 0, .int 0])), (q1, .inl (tc 0, 64, .inl (fun _ => 0))), (q2, .inl (tc 2, 5, .inl (fun _ => 0))), (q3, .inl (tc 0, 65, .inl (fun _ => 0))), (q4, .inl (tc 0, 65, .inl (fun _ => 0))), (q5, .inl (tc 0, 65, .inl (fun _ => 0)))] := hD
  refine mk_arr (p0 := 43) (p1 := 44) (p2 := 46) (p3 := 48) (p4 := 51) (k := 6) (t0 := 0) (nn := 65) (n := 65) (ty := .int) (C := R_M) (T := F_M) (N := 27) (idx := 26) (atype := .int) hx hb hts hown hin hK hA hP hD hS (lv_at hl 0 rfl) rfl (by decide) (tb2 (i := 206) rfl rfl) rfl rfl (t_M_ok 6 (by decide)) (tb1 (i := 155) rfl rfl) rfl (fun C h => by cases h) rfl rfl (by decide) (by decide) (by decide) (by decide) (by decide) (Nat.le_of_ble_eq_true rfl) (by decide +kernel) rfl (fun k => lv_bipush hx hb (show decode q_M_init.2.1 44 = .ok (.bipush 65, 2) by decide +kernel) (by decide) k) (by decide +kernel) rfl (by decide +kernel) rfl (fun q6 H locs hP hD hS => ?_)
  replace hP : va_P D vwCl [(a, .inr (4, [.ref q1, .int 0, .ref q2, .ref q3, .ref q4, .ref q5, .ref q6, .null, .int 0, .int 0, .null, .null, .null, .null, .null, .int 0, .int 0, .int 0, .int 0, .int 0, .null, .int 0, .null, .null, .int 0, .long 0, .int 0])), (q1, .inl (tc 0, 64, .inl (fun _ => 0))), (q2, .inl (tc 2, 5, .inl (fun _ => 0))), (q3, .inl (tc 0, 65, .inl (fun _ => 0))), (q4, .inl (tc 0, 65, .inl (fun _ => 0))), (q5, .inl (tc 0, 65, .inl (fun _ => 0))), (q6, .inl (tc 0, 65, .inl (fun _ => 0)))] H := hP
  replace hD : va_D A [(a, .inr (4, [.ref q1, .int 0, .ref q2, .ref q3, .ref q4, .ref q5, .ref q6, .null, .int 0, .int 0, .null, .null, .null, .null, .null, .int 0, .int 0, .int 0, .int 0, .int 0, .null, .int 0, .null, .null, .int 0, .long 0, .int 0])), (q1, .inl (tc 0, 64, .inl (fun _ => 0))), (q2, .inl (tc 2, 5, .inl (fun _ => 0))), (q3, .inl (tc 0, 65, .inl (fun _ => 0))), (q4, .inl (tc 0, 65, .inl (fun _ => 0))), (q5, .inl (tc 0, 65, .inl (fun _ => 0))), (q6, .inl (tc 0, 65, .inl (fun _ => 0)))] := hD
  refine mk_arr (p0 := 51) (p1 := 52) (p2 := 54) (p3 := 56) (p4 := 59) (k := 7) (t0 := 0) (nn := 65) (n := 65) (ty := .int) (C := R_M) (T := F_M) (N := 27) (idx := 29) (atype := .int) hx hb hts hown hin hK hA hP hD hS (lv_at hl 0 rfl) rfl (by decide) (tb2 (i := 207) rfl rfl) rfl rfl (t_M_ok 7 (by decide)) (tb1 (i := 155) rfl rfl) rfl (fun C h => by cases h) rfl rfl (by decide) (by decide) (by decide) (by decide) (by decide) (Nat.le_of_ble_eq_true rfl) (by decide +kernel) rfl (fun k => lv_bipush hx hb (show decode q_M_init.2.1 52 = .ok (.bipush 65, 2) by decide +kernel) (by decide) k) (by decide +kernel) rfl (by decide +kernel) rfl (fun q7 H locs hP hD hS => ?_)
  replace hP : va_P D vwCl [(a, .inr (4, [.ref q1, .int 0, .ref q2, .ref q3, .ref q4, .ref q5, .ref q6, .ref q7, .int 0, .int 0, .null, .null, .null, .null, .null, .int 0, .int 0, .int 0, .int 0, .int 0, .null, .int 0, .null, .null, .int 0, .long 0, .int 0])), (q1, .inl (tc 0, 64, .inl (fun _ => 0))), (q2, .inl (tc 2, 5, .inl (fun _ => 0))), (q3, .inl (tc 0, 65, .inl (fun _ => 0))), (q4, .inl (tc 0, 65, .inl (fun _ => 0))), (q5, .inl (tc 0, 65, .inl (fun _ => 0))), (q6, .inl (tc 0, 65, .inl (fun _ => 0))), (q7, .inl (tc 0, 65, .inl (fun _ => 0)))] H := hP
  replace hD : va_D A [(a, .inr (4, [.ref q1, .int 0, .ref q2, .ref q3, .ref q4, .ref q5, .ref q6, .ref q7, .int 0, .int 0, .null, .null, .null, .null, .null, .int 0, .int 0, .int 0, .int 0, .int 0, .null, .int 0, .null, .null, .int 0, .long 0, .int 0])), (q1, .inl (tc 0, 64, .inl (fun _ => 0))), (q2, .inl (tc 2, 5, .inl (fun _ => 0))), (q3, .inl (tc 0, 65, .inl (fun _ => 0))), (q4, .inl (tc 0, 65, .inl (fun _ => 0))), (q5, .inl (tc 0, 65, .inl (fun _ => 0))), (q6, .inl (tc 0, 65, .inl (fun _ => 0))), (q7, .inl (tc 0, 65, .inl (fun _ => 0)))] := hD
  refine mk_arr (p0 := 59) (p1 := 60) (p2 := 62) (p3 := 64) (p4 := 67) (k := 10) (t0 := 0) (nn := 6) (n := 6) (ty := .int) (C := R_M) (T := F_M) (N := 27) (idx := 32) (atype := .int) hx hb hts hown hin hK hA hP hD hS (lv_at hl 0 rfl) rfl (by decide) (tb2 (i := 210) rfl rfl) rfl rfl (t_M_ok 10 (by decide)) (tb1 (i := 155) rfl rfl) rfl (fun C h => by cases h) rfl rfl (by decide) (by decide) (by decide) (by decide) (by decide) (Nat.le_of_ble_eq_true rfl) (by decide +kernel) rfl (fun k => lv_bipush hx hb (show decode q_M_init.2.1 60 = .ok (.bipush 6, 2) by decide +kernel) (by decide) k) (by decide +kernel) rfl (by decide +kernel) rfl (fun q8 H locs hP hD hS => ?_)
  replace hP : va_P D vwCl [(a, .inr (4, [.ref q1, .int 0, .ref q2, .ref q3, .ref q4, .ref q5, .ref q6, .ref q7, .int 0, .int 0, .ref q8, .null, .null, .null, .null, .int 0, .int 0, .int 0, .int 0, .int 0, .null, .int 0, .null, .null, .int 0, .long 0, .int 0])), (q1, .inl (tc 0, 64, .inl (fun _ => 0))), (q2, .inl (tc 2, 5, .inl (fun _ => 0))), (q3, .inl (tc 0, 65, .inl (fun _ => 0))), (q4, .inl (tc 0, 65, .inl (fun _ => 0))), (q5, .inl (tc 0, 65, .inl (fun _ => 0))), (q6, .inl (tc 0, 65, .inl (fun _ => 0))), (q7, .inl (tc 0, 65, .inl (fun _ => 0))), (q8, .inl (tc 0, 6, .inl (fun _ => 0)))] H := hP
  replace hD : va_D A [(a, .inr (4, [.ref q1, .int 0, .ref q2, .ref q3, .ref q4, .ref q5, .ref q6, .ref q7, .int 0, .int 0, .ref q8, .null, .null, .null, .null, .int 0, .int 0, .int 0, .int 0, .int 0, .null, .int 0, .null, .null, .int 0, .long 0, .int 0])), (q1, .inl (tc 0, 64, .inl (fun _ => 0))), (q2, .inl (tc 2, 5, .inl (fun _ => 0))), (q3, .inl (tc 0, 65, .inl (fun _ => 0))), (q4, .inl (tc 0, 65, .inl (fun _ => 0))), (q5, .inl (tc 0, 65, .inl (fun _ => 0))), (q6, .inl (tc 0, 65, .inl (fun _ => 0))), (q7, .inl (tc 0, 65, .inl (fun _ => 0))), (q8, .inl (tc 0, 6, .inl (fun _ => 0)))] := hD
  refine mk_arr (p0 := 67) (p1 := 68) (p2 := 70) (p3 := 72) (p4 := 75) (k := 11) (t0 := 2) (nn := 65) (n := 65) (ty := .boolean) (C := R_M) (T := F_M) (N := 27) (idx := 35) (atype := .boolean) hx hb hts hown hin hK hA hP hD hS (lv_at hl 0 rfl) rfl (by decide) (tb2 (i := 211) rfl rfl) rfl rfl (t_M_ok 11 (by decide)) (tb3 (i := 41) rfl rfl) rfl (fun C h => by cases h) rfl rfl (by decide) (by decide) (by decide) (by decide) (by decide) (Nat.le_of_ble_eq_true rfl) (by decide +kernel) rfl (fun k => lv_bipush hx hb (show decode q_M_init.2.1 68 = .ok (.bipush 65, 2) by decide +kernel) (by decide) k) (by decide +kernel) rfl (by decide +kernel) rfl (fun q9 H locs hP hD hS => ?_)
  replace hP : va_P D vwCl [(a, .inr (4, [.ref q1, .int 0, .ref q2, .ref q3, .ref q4, .ref q5, .ref q6, .ref q7, .int 0, .int 0, .ref q8, .ref q9, .null, .null, .null, .int 0, .int 0, .int 0, .int 0, .int 0, .null, .int 0, .null, .null, .int 0, .long 0, .int 0])), (q1, .inl (tc 0, 64, .inl (fun _ => 0))), (q2, .inl (tc 2, 5, .inl (fun _ => 0))), (q3, .inl (tc 0, 65, .inl (fun _ => 0))), (q4, .inl (tc 0, 65, .inl (fun _ => 0))), (q5, .inl (tc 0, 65, .inl (fun _ => 0))), (q6, .inl (tc 0, 65, .inl (fun _ => 0))), (q7, .inl (tc 0, 65, .inl (fun _ => 0))), (q8, .inl (tc 0, 6, .inl (fun _ => 0))), (q9, .inl (tc 2, 65, .inl (fun _ => 0)))] H := hP
  replace hD : va_D A [(a, .inr (4, [.ref q1, .int 0, .ref q2, .ref q3, .ref q4, .ref q5, .ref q6, .ref q7, .int 0, .int 0, .ref q8, .ref q9, .null, .null, .null, .int 0, .int 0, .int 0, .int 0, .int 0, .null, .int 0, .null, .null, .int 0, .long 0, .int 0])), (q1, .inl (tc 0, 64, .inl (fun _ => 0))), (q2, .inl (tc 2, 5, .inl (fun _ => 0))), (q3, .inl (tc 0, 65, .inl (fun _ => 0))), (q4, .inl (tc 0, 65, .inl (fun _ => 0))), (q5, .inl (tc 0, 65, .inl (fun _ => 0))), (q6, .inl (tc 0, 65, .inl (fun _ => 0))), (q7, .inl (tc 0, 65, .inl (fun _ => 0))), (q8, .inl (tc 0, 6, .inl (fun _ => 0))), (q9, .inl (tc 2, 65, .inl (fun _ => 0)))] := hD
  refine mk_arr (p0 := 75) (p1 := 76) (p2 := 78) (p3 := 80) (p4 := 83) (k := 12) (t0 := 0) (nn := 65) (n := 65) (ty := .int) (C := R_M) (T := F_M) (N := 27) (idx := 38) (atype := .int) hx hb hts hown hin hK hA hP hD hS (lv_at hl 0 rfl) rfl (by decide) (tb2 (i := 212) rfl rfl) rfl rfl (t_M_ok 12 (by decide)) (tb1 (i := 155) rfl rfl) rfl (fun C h => by cases h) rfl rfl (by decide) (by decide) (by decide) (by decide) (by decide) (Nat.le_of_ble_eq_true rfl) (by decide +kernel) rfl (fun k => lv_bipush hx hb (show decode q_M_init.2.1 76 = .ok (.bipush 65, 2) by decide +kernel) (by decide) k) (by decide +kernel) rfl (by decide +kernel) rfl (fun q10 H locs hP hD hS => ?_)
  replace hP : va_P D vwCl [(a, .inr (4, [.ref q1, .int 0, .ref q2, .ref q3, .ref q4, .ref q5, .ref q6, .ref q7, .int 0, .int 0, .ref q8, .ref q9, .ref q10, .null, .null, .int 0, .int 0, .int 0, .int 0, .int 0, .null, .int 0, .null, .null, .int 0, .long 0, .int 0])), (q1, .inl (tc 0, 64, .inl (fun _ => 0))), (q2, .inl (tc 2, 5, .inl (fun _ => 0))), (q3, .inl (tc 0, 65, .inl (fun _ => 0))), (q4, .inl (tc 0, 65, .inl (fun _ => 0))), (q5, .inl (tc 0, 65, .inl (fun _ => 0))), (q6, .inl (tc 0, 65, .inl (fun _ => 0))), (q7, .inl (tc 0, 65, .inl (fun _ => 0))), (q8, .inl (tc 0, 6, .inl (fun _ => 0))), (q9, .inl (tc 2, 65, .inl (fun _ => 0))), (q10, .inl (tc 0, 65, .inl (fun _ => 0)))] H := hP
  replace hD : va_D A [(a, .inr (4, [.ref q1, .int 0, .ref q2, .ref q3, .ref q4, .ref q5, .ref q6, .ref q7, .int 0, .int 0, .ref q8, .ref q9, .ref q10, .null, .null, .int 0, .int 0, .int 0, .int 0, .int 0, .null, .int 0, .null, .null, .int 0, .long 0, .int 0])), (q1, .inl (tc 0, 64, .inl (fun _ => 0))), (q2, .inl (tc 2, 5, .inl (fun _ => 0))), (q3, .inl (tc 0, 65, .inl (fun _ => 0))), (q4, .inl (tc 0, 65, .inl (fun _ => 0))), (q5, .inl (tc 0, 65, .inl (fun _ => 0))), (q6, .inl (tc 0, 65, .inl (fun _ => 0))), (q7, .inl (tc 0, 65, .inl (fun _ => 0))), (q8, .inl (tc 0, 6, .inl (fun _ => 0))), (q9, .inl (tc 2, 65, .inl (fun _ => 0))), (q10, .inl (tc 0, 65, .inl (fun _ => 0)))] := hD
  refine mk_arr (p0 := 83) (p1 := 84) (p2 := 86) (p3 := 88) (p4 := 91) (k := 13) (t0 := 0) (nn := 65) (n := 65) (ty := .int) (C := R_M) (T := F_M) (N := 27) (idx := 41) (atype := .int) hx hb hts hown hin hK hA hP hD hS (lv_at hl 0 rfl) rfl (by decide) (tb2 (i := 213) rfl rfl) rfl rfl (t_M_ok 13 (by decide)) (tb1 (i := 155) rfl rfl) rfl (fun C h => by cases h) rfl rfl (by decide) (by decide) (by decide) (by decide) (by decide) (Nat.le_of_ble_eq_true rfl) (by decide +kernel) rfl (fun k => lv_bipush hx hb (show decode q_M_init.2.1 84 = .ok (.bipush 65, 2) by decide +kernel) (by decide) k) (by decide +kernel) rfl (by decide +kernel) rfl (fun q11 H locs hP hD hS => ?_)
  replace hP : va_P D vwCl [(a, .inr (4, [.ref q1, .int 0, .ref q2, .ref q3, .ref q4, .ref q5, .ref q6, .ref q7, .int 0, .int 0, .ref q8, .ref q9, .ref q10, .ref q11, .null, .int 0, .int 0, .int 0, .int 0, .int 0, .null, .int 0, .null, .null, .int 0, .long 0, .int 0])), (q1, .inl (tc 0, 64, .inl (fun _ => 0))), (q2, .inl (tc 2, 5, .inl (fun _ => 0))), (q3, .inl (tc 0, 65, .inl (fun _ => 0))), (q4, .inl (tc 0, 65, .inl (fun _ => 0))), (q5, .inl (tc 0, 65, .inl (fun _ => 0))), (q6, .inl (tc 0, 65, .inl (fun _ => 0))), (q7, .inl (tc 0, 65, .inl (fun _ => 0))), (q8, .inl (tc 0, 6, .inl (fun _ => 0))), (q9, .inl (tc 2, 65, .inl (fun _ => 0))), (q10, .inl (tc 0, 65, .inl (fun _ => 0))), (q11, .inl (tc 0, 65, .inl (fun _ => 0)))] H := hP
  replace hD : va_D A [(a, .inr (4, [.ref q1, .int 0, .ref q2, .ref q3, .ref q4, .ref q5, .ref q6, .ref q7, .int 0, .int 0, .ref q8, .ref q9, .ref q10, .ref q11, .null, .int 0, .int 0, .int 0, .int 0, .int 0, .null, .int 0, .null, .null, .int 0, .long 0, .int 0])), (q1, .inl (tc 0, 64, .inl (fun _ => 0))), (q2, .inl (tc 2, 5, .inl (fun _ => 0))), (q3, .inl (tc 0, 65, .inl (fun _ => 0))), (q4, .inl (tc 0, 65, .inl (fun _ => 0))), (q5, .inl (tc 0, 65, .inl (fun _ => 0))), (q6, .inl (tc 0, 65, .inl (fun _ => 0))), (q7, .inl (tc 0, 65, .inl (fun _ => 0))), (q8, .inl (tc 0, 6, .inl (fun _ => 0))), (q9, .inl (tc 2, 65, .inl (fun _ => 0))), (q10, .inl (tc 0, 65, .inl (fun _ => 0))), (q11, .inl (tc 0, 65, .inl (fun _ => 0)))] := hD
  refine mk_arr (p0 := 91) (p1 := 92) (p2 := 94) (p3 := 96) (p4 := 99) (k := 14) (t0 := 0) (nn := 65) (n := 65) (ty := .int) (C := R_M) (T := F_M) (N := 27) (idx := 44) (atype := .int) hx hb hts hown hin hK hA hP hD hS (lv_at hl 0 rfl) rfl (by decide) (tb2 (i := 214) rfl rfl) rfl rfl (t_M_ok 14 (by decide)) (tb1 (i := 155) rfl rfl) rfl (fun C h => by cases h) rfl rfl (by decide) (by decide) (by decide) (by decide) (by decide) (Nat.le_of_ble_eq_true rfl) (by decide +kernel) rfl (fun k => lv_bipush hx hb (show decode q_M_init.2.1 92 = .ok (.bipush 65, 2) by decide +kernel) (by decide) k) (by decide +kernel) rfl (by decide +kernel) rfl (fun q12 H locs hP hD hS => ?_)
  replace hP : va_P D vwCl [(a, .inr (4, [.ref q1, .int 0, .ref q2, .ref q3, .ref q4, .ref q5, .ref q6, .ref q7, .int 0, .int 0, .ref q8, .ref q9, .ref q10, .ref q11, .ref q12, .int 0, .int 0, .int 0, .int 0, .int 0, .null, .int 0, .null, .null, .int 0, .long 0, .int 0])), (q1, .inl (tc 0, 64, .inl (fun _ => 0))), (q2, .inl (tc 2, 5, .inl (fun _ => 0))), (q3, .inl (tc 0, 65, .inl (fun _ => 0))), (q4, .inl (tc 0, 65, .inl (fun _ => 0))), (q5, .inl (tc 0, 65, .inl (fun _ => 0))), (q6, .inl (tc 0, 65, .inl (fun _ => 0))), (q7, .inl (tc 0, 65, .inl (fun _ => 0))), (q8, .inl (tc 0, 6, .inl (fun _ => 0))), (q9, .inl (tc 2, 65, .inl (fun _ => 0))), (q10, .inl (tc 0, 65, .inl (fun _ => 0))), (q11, .inl (tc 0, 65, .inl (fun _ => 0))), (q12, .inl (tc 0, 65, .inl (fun _ => 0)))] H := hP
  replace hD : va_D A [(a, .inr (4, [.ref q1, .int 0, .ref q2, .ref q3, .ref q4, .ref q5, .ref q6, .ref q7, .int 0, .int 0, .ref q8, .ref q9, .ref q10, .ref q11, .ref q12, .int 0, .int 0, .int 0, .int 0, .int 0, .null, .int 0, .null, .null, .int 0, .long 0, .int 0])), (q1, .inl (tc 0, 64, .inl (fun _ => 0))), (q2, .inl (tc 2, 5, .inl (fun _ => 0))), (q3, .inl (tc 0, 65, .inl (fun _ => 0))), (q4, .inl (tc 0, 65, .inl (fun _ => 0))), (q5, .inl (tc 0, 65, .inl (fun _ => 0))), (q6, .inl (tc 0, 65, .inl (fun _ => 0))), (q7, .inl (tc 0, 65, .inl (fun _ => 0))), (q8, .inl (tc 0, 6, .inl (fun _ => 0))), (q9, .inl (tc 2, 65, .inl (fun _ => 0))), (q10, .inl (tc 0, 65, .inl (fun _ => 0))), (q11, .inl (tc 0, 65, .inl (fun _ => 0))), (q12, .inl (tc 0, 65, .inl (fun _ => 0)))] := hD
  refine mk_arr (p0 := 99) (p1 := 100) (p2 := 101) (p3 := 103) (p4 := 106) (k := 20) (t0 := 0) (nn := 5) (n := 5) (ty := .int) (C := R_M) (T := F_M) (N := 27) (idx := 47) (atype := .int) hx hb hts hown hin hK hA hP hD hS (lv_at hl 0 rfl) rfl (by decide) (tb2 (i := 220) rfl rfl) rfl rfl (t_M_ok 20 (by decide)) (tb1 (i := 155) rfl rfl) rfl (fun C h => by cases h) rfl rfl (by decide) (by decide) (by decide) (by decide) (by decide) (Nat.le_of_ble_eq_true rfl) (by decide +kernel) rfl (fun k => lv_iconst hx hb (show decode q_M_init.2.1 100 = .ok (.iconst 5, 1) by decide +kernel) (by decide) k) (by decide +kernel) rfl (by decide +kernel) rfl (fun q13 H locs hP hD hS => ?_)
  replace hP : va_P D vwCl [(a, .inr (4, [.ref q1, .int 0, .ref q2, .ref q3, .ref q4, .ref q5, .ref q6, .ref q7, .int 0, .int 0, .ref q8, .ref q9, .ref q10, .ref q11, .ref q12, .int 0, .int 0, .int 0, .int 0, .int 0, .ref q13, .int 0, .null, .null, .int 0, .long 0, .int 0])), (q1, .inl (tc 0, 64, .inl (fun _ => 0))), (q2, .inl (tc 2, 5, .inl (fun _ => 0))), (q3, .inl (tc 0, 65, .inl (fun _ => 0))), (q4, .inl (tc 0, 65, .inl (fun _ => 0))), (q5, .inl (tc 0, 65, .inl (fun _ => 0))), (q6, .inl (tc 0, 65, .inl (fun _ => 0))), (q7, .inl (tc 0, 65, .inl (fun _ => 0))), (q8, .inl (tc 0, 6, .inl (fun _ => 0))), (q9, .inl (tc 2, 65, .inl (fun _ => 0))), (q10, .inl (tc 0, 65, .inl (fun _ => 0))), (q11, .inl (tc 0, 65, .inl (fun _ => 0))), (q12, .inl (tc 0, 65, .inl (fun _ => 0))), (q13, .inl (tc 0, 5, .inl (fun _ => 0)))] H := hP
  replace hD : va_D A [(a, .inr (4, [.ref q1, .int 0, .ref q2, .ref q3, .ref q4, .ref q5, .ref q6, .ref q7, .int 0, .int 0, .ref q8, .ref q9, .ref q10, .ref q11, .ref q12, .int 0, .int 0, .int 0, .int 0, .int 0, .ref q13, .int 0, .null, .null, .int 0, .long 0, .int 0])), (q1, .inl (tc 0, 64, .inl (fun _ => 0))), (q2, .inl (tc 2, 5, .inl (fun _ => 0))), (q3, .inl (tc 0, 65, .inl (fun _ => 0))), (q4, .inl (tc 0, 65, .inl (fun _ => 0))), (q5, .inl (tc 0, 65, .inl (fun _ => 0))), (q6, .inl (tc 0, 65, .inl (fun _ => 0))), (q7, .inl (tc 0, 65, .inl (fun _ => 0))), (q8, .inl (tc 0, 6, .inl (fun _ => 0))), (q9, .inl (tc 2, 65, .inl (fun _ => 0))), (q10, .inl (tc 0, 65, .inl (fun _ => 0))), (q11, .inl (tc 0, 65, .inl (fun _ => 0))), (q12, .inl (tc 0, 65, .inl (fun _ => 0))), (q13, .inl (tc 0, 5, .inl (fun _ => 0)))] := hD
  refine mk_arr (p0 := 106) (p1 := 107) (p2 := 109) (p3 := 111) (p4 := 114) (k := 22) (t0 := 0) (nn := 8) (n := 8) (ty := .int) (C := R_M) (T := F_M) (N := 27) (idx := 50) (atype := .int) hx hb hts hown hin hK hA hP hD hS (lv_at hl 0 rfl) rfl (by decide) (tb2 (i := 222) rfl rfl) rfl rfl (t_M_ok 22 (by decide)) (tb1 (i := 155) rfl rfl) rfl (fun C h => by cases h) rfl rfl (by decide) (by decide) (by decide) (by decide) (by decide) (Nat.le_of_ble_eq_true rfl) (by decide +kernel) rfl (fun k => lv_bipush hx hb (show decode q_M_init.2.1 107 = .ok (.bipush 8, 2) by decide +kernel) (by decide) k) (by decide +kernel) rfl (by decide +kernel) rfl (fun q14 H locs hP hD hS => ?_)
  replace hP : va_P D vwCl [(a, .inr (4, [.ref q1, .int 0, .ref q2, .ref q3, .ref q4, .ref q5, .ref q6, .ref q7, .int 0, .int 0, .ref q8, .ref q9, .ref q10, .ref q11, .ref q12, .int 0, .int 0, .int 0, .int 0, .int 0, .ref q13, .int 0, .ref q14, .null, .int 0, .long 0, .int 0])), (q1, .inl (tc 0, 64, .inl (fun _ => 0))), (q2, .inl (tc 2, 5, .inl (fun _ => 0))), (q3, .inl (tc 0, 65, .inl (fun _ => 0))), (q4, .inl (tc 0, 65, .inl (fun _ => 0))), (q5, .inl (tc 0, 65, .inl (fun _ => 0))), (q6, .inl (tc 0, 65, .inl (fun _ => 0))), (q7, .inl (tc 0, 65, .inl (fun _ => 0))), (q8, .inl (tc 0, 6, .inl (fun _ => 0))), (q9, .inl (tc 2, 65, .inl (fun _ => 0))), (q10, .inl (tc 0, 65, .inl (fun _ => 0))), (q11, .inl (tc 0, 65, .inl (fun _ => 0))), (q12, .inl (tc 0, 65, .inl (fun _ => 0))), (q13, .inl (tc 0, 5, .inl (fun _ => 0))), (q14, .inl (tc 0, 8, .inl (fun _ => 0)))] H := hP
  replace hD : va_D A [(a, .inr (4, [.ref q1, .int 0, .ref q2, .ref q3, .ref q4, .ref q5, .ref q6, .ref q7, .int 0, .int 0, .ref q8, .ref q9, .ref q10, .ref q11, .ref q12, .int 0, .int 0, .int 0, .int 0, .int 0, .ref q13, .int 0, .ref q14, .null, .int 0, .long 0, .int 0])), (q1, .inl (tc 0, 64, .inl (fun _ => 0))), (q2, .inl (tc 2, 5, .inl (fun _ => 0))), (q3, .inl (tc 0, 65, .inl (fun _ => 0))), (q4, .inl (tc 0, 65, .inl (fun _ => 0))), (q5, .inl (tc 0, 65, .inl (fun _ => 0))), (q6, .inl (tc 0, 65, .inl (fun _ => 0))), (q7, .inl (tc 0, 65, .inl (fun _ => 0))), (q8, .inl (tc 0, 6, .inl (fun _ => 0))), (q9, .inl (tc 2, 65, .inl (fun _ => 0))), (q10, .inl (tc 0, 65, .inl (fun _ => 0))), (q11, .inl (tc 0, 65, .inl (fun _ => 0))), (q12, .inl (tc 0, 65, .inl (fun _ => 0))), (q13, .inl (tc 0, 5, .inl (fun _ => 0))), (q14, .inl (tc 0, 8, .inl (fun _ => 0)))] := hD
  refine mk_arr (p0 := 114) (p1 := 115) (p2 := 117) (p3 := 119) (p4 := 122) (k := 23) (t0 := 0) (nn := 8) (n := 8) (ty := .int) (C := R_M) (T := F_M) (N := 27) (idx := 53) (atype := .int) hx hb hts hown hin hK hA hP hD hS (lv_at hl 0 rfl) rfl (by decide) (tb2 (i := 223) rfl rfl) rfl rfl (t_M_ok 23 (by decide)) (tb1 (i := 155) rfl rfl) rfl (fun C h => by cases h) rfl rfl (by decide) (by decide) (by decide) (by decide) (by decide) (Nat.le_of_ble_eq_true rfl) (by decide +kernel) rfl (fun k => lv_bipush hx hb (show decode q_M_init.2.1 115 = .ok (.bipush 8, 2) by decide +kernel) (by decide) k) (by decide +kernel) rfl (by decide +kernel) rfl (fun q15 H locs hP hD hS => ?_)
  replace hP : va_P D vwCl [(a, .inr (4, [.ref q1, .int 0, .ref q2, .ref q3, .ref q4, .ref q5, .ref q6, .ref q7, .int 0, .int 0, .ref q8, .ref q9, .ref q10, .ref q11, .ref q12, .int 0, .int 0, .int 0, .int 0, .int 0, .ref q13, .int 0, .ref q14, .ref q15, .int 0, .long 0, .int 0])), (q1, .inl (tc 0, 64, .inl (fun _ => 0))), (q2, .inl (tc 2, 5, .inl (fun _ => 0))), (q3, .inl (tc 0, 65, .inl (fun _ => 0))), (q4, .inl (tc 0, 65, .inl (fun _ => 0))), (q5, .inl (tc 0, 65, .inl (fun _ => 0))), (q6, .inl (tc 0, 65, .inl (fun _ => 0))), (q7, .inl (tc 0, 65, .inl (fun _ => 0))), (q8, .inl (tc 0, 6, .inl (fun _ => 0))), (q9, .inl (tc 2, 65, .inl (fun _ => 0))), (q10, .inl (tc 0, 65, .inl (fun _ => 0))), (q11, .inl (tc 0, 65, .inl (fun _ => 0))), (q12, .inl (tc 0, 65, .inl (fun _ => 0))), (q13, .inl (tc 0, 5, .inl (fun _ => 0))), (q14, .inl (tc 0, 8, .inl (fun _ => 0))), (q15, .inl (tc 0, 8, .inl (fun _ => 0)))] H := hP
  replace hD : va_D A [(a, .inr (4, [.ref q1, .int 0, .ref q2, .ref q3, .ref q4, .ref q5, .ref q6, .ref q7, .int 0, .int 0, .ref q8, .ref q9, .ref q10, .ref q11, .ref q12, .int 0, .int 0, .int 0, .int 0, .int 0, .ref q13, .int 0, .ref q14, .ref q15, .int 0, .long 0, .int 0])), (q1, .inl (tc 0, 64, .inl (fun _ => 0))), (q2, .inl (tc 2, 5, .inl (fun _ => 0))), (q3, .inl (tc 0, 65, .inl (fun _ => 0))), (q4, .inl (tc 0, 65, .inl (fun _ => 0))), (q5, .inl (tc 0, 65, .inl (fun _ => 0))), (q6, .inl (tc 0, 65, .inl (fun _ => 0))), (q7, .inl (tc 0, 65, .inl (fun _ => 0))), (q8, .inl (tc 0, 6, .inl (fun _ => 0))), (q9, .inl (tc 2, 65, .inl (fun _ => 0))), (q10, .inl (tc 0, 65, .inl (fun _ => 0))), (q11, .inl (tc 0, 65, .inl (fun _ => 0))), (q12, .inl (tc 0, 65, .inl (fun _ => 0))), (q13, .inl (tc 0, 5, .inl (fun _ => 0))), (q14, .inl (tc 0, 8, .inl (fun _ => 0))), (q15, .inl (tc 0, 8, .inl (fun _ => 0)))] := hD
  exact W.vret hx hb hr (fun t ht hW => ⟨fun i => [a, q1, q2, q3, q4, q5, q6, q7, q8, q9, q10, q11, q12, q13, q14, q15].getD i 0, rfl, rfl, by rw [ht]; exact hP, hD, va_K.moved hW.alike hK, hS.F ht⟩) hS.2.2 (by decide +kernel)
end
section
/-! Constructors of the class, by program (wip/whole/genctor.py) -/
theorem xcbR {R : Room} {s : State} {args : Array Value} {own : String} {index d' : Nat} {q : XK} (hts : ∀ w ∈ wsG, w.before args s = true) (hc : xcok own index q) (h1 : d' + 1 ≤ R.frames) (h2 : 8 + (q.1.2.2.1 + 11) + 40 * d' ≤ R.locals) : CallB R s args own index q.1.1 q.1.2.1 q.1.2.2.1 q.1.2.2.2 (xW q.1) (xR d') 0 0 q.2.2.1 := by
  obtain ⟨g1, g2, g3, g4, g5, -⟩ := hc
  refine callB_of (ws' := wsG) q.2.2.1 hts ?_ rfl rfl rfl (hts _ g2) (hts _ g5) g3 ⟨h1, h2⟩
  intro w hw
  rcases List.mem_cons.mp hw with h | h
  · rw [h]; exact ⟨g1, wsG_good g1⟩
  · exact ⟨h, wsG_good h⟩
set_option maxRecDepth 100000 in
set_option maxHeartbeats 4000000 in
theorem c_K_init (l : Launch) (D : va_G) (tc : Nat → ClassId) (a sz : Nat) : Met l q_K_init.1 (xW q_K_init) { frames := 1, cells := 2, slots := 130, locals := 40 } (va_Pc [.ref a] (fun U => U.heap.size = sz ∧ va_P D vwCl [(a, .inr (1, [.null, .null, .int 0, .int 0, .int 0]))] U.heap ∧ va_K D vwCl (xt tc) U ∧ va_D (fun _ => True) [(a, .inr (1, [.null, .null, .int 0, .int 0, .int 0]))])) (cQ D tc a (va_A [(a, .inr (1, [.null, .null, .int 0, .int 0, .int 0]))] sz) [.inr (1, [.ref 1, .ref 2, .int 0, .int 0, .int 0]), .inl (0, 65, .inl (fun _ => 0)), .inl (0, 65, .inl (fun _ => 0))]) 2 130 (va_A [(a, .inr (1, [.null, .null, .int 0, .int 0, .int 0]))] sz) := by
  refine Met.ofW (cc := q_K_init.2.1) (maxL := 1) (ret := none) (by decide +kernel) rfl ?_
  intro p e s m args below meth c s₁ B hml hv
  obtain ⟨rfl, hsz, hP, hK, hD0⟩ := hv
  have hx := B.exec
  have hb := B.bytes
  have hr := B.returns
  have hts0 := atoms_spec (ws := xW q_K_init) B.pre
  have hts : ∀ w ∈ wsG, w.before ([Value.ref a] : List Value).toArray s = true := fun w hw => hts0 w (List.mem_cons_of_mem _ hw)
  have hown : s.vm.findClass "NullGuard$Checker" = some m.cls := findClass_of_methodNamed B.named
  have hlocks := B.notSynchronized
  have hin : meth.name = "<init>" := (name_of_methodNamed B.named B.method).1
  subst hsz
  have hD := hD0.self (sz := s.heap.size)
  generalize hAe : va_A [(a, .inr (1, [.null, .null, .int 0, .int 0, .int 0]))] s.heap.size = A at hD ⊢
  have hA : ∀ q : Nat, s.heap.size ≤ q → A q := fun q h => by rw [← hAe]; exact Or.inr h
  have hS : va_S A s.heap s.heap [] := va_S.rf
  have hl := lv_entry ([.ref a]) (n := 1) (Nat.le_of_ble_eq_true rfl)
  rw [lg_entry_eq]
  generalize (lg_sl ([.ref a]) ++ List.replicate (1 - (lg_sl ([.ref a])).length) Slot.unset).toArray = la at hl ⊢
  have hl : lv_has la 1 [(0, .ref a)] := hl
  refine lv_aload_n (k := 0) hx hb (show decode q_K_init.2.1 0 = .ok (.aload_n 0, 1) by decide +kernel) rfl (lv_at hl 0 rfl) ?_
  refine W.objInit hx hb hown (hts _ (tb1 (i := 161) rfl rfl)) (hts _ (tb1 (i := 14) rfl rfl)) (hts _ (tb1 (i := 15) rfl rfl)) rfl (by rw [hml]; exact hl.1) rfl (show decode q_K_init.2.1 1 = .ok (.invokespecial 3, 3) by decide +kernel) (Nat.le_of_ble_eq_true rfl) (Nat.le_of_ble_eq_true rfl) ?_
  refine W.eq (g2 := F0 m 4 la []) rfl ?_
  refine mk_arr (p0 := 4) (p1 := 5) (p2 := 7) (p3 := 9) (p4 := 12) (k := 0) (t0 := 0) (nn := 65) (n := 65) (ty := .int) (C := R_K) (T := F_K) (N := 5) (idx := 9) (atype := .int) hx hb hts hown hin hK hA hP hD hS (lv_at hl 0 rfl) rfl (by decide) (tb1 (i := 162) rfl rfl) rfl rfl (t_K_ok 0 (by decide)) (tb1 (i := 155) rfl rfl) rfl (fun C h => by cases h) rfl rfl (by decide) (by decide) (by decide) (by decide) (by decide) (Nat.le_of_ble_eq_true rfl) (by decide +kernel) rfl (fun k => lv_bipush hx hb (show decode q_K_init.2.1 5 = .ok (.bipush 65, 2) by decide +kernel) (by decide) k) (by decide +kernel) rfl (by decide +kernel) rfl (fun q1 H locs hP hD hS => ?_)
  replace hP : va_P D vwCl [(a, .inr (1, [.ref q1, .null, .int 0, .int 0, .int 0])), (q1, .inl (tc 0, 65, .inl (fun _ => 0)))] H := hP
  replace hD : va_D A [(a, .inr (1, [.ref q1, .null, .int 0, .int 0, .int 0])), (q1, .inl (tc 0, 65, .inl (fun _ => 0)))] := hD
  refine mk_arr (p0 := 12) (p1 := 13) (p2 := 15) (p3 := 17) (p4 := 20) (k := 1) (t0 := 0) (nn := 65) (n := 65) (ty := .int) (C := R_K) (T := F_K) (N := 5) (idx := 15) (atype := .int) hx hb hts hown hin hK hA hP hD hS (lv_at hl 0 rfl) rfl (by decide) (tb1 (i := 163) rfl rfl) rfl rfl (t_K_ok 1 (by decide)) (tb1 (i := 155) rfl rfl) rfl (fun C h => by cases h) rfl rfl (by decide) (by decide) (by decide) (by decide) (by decide) (Nat.le_of_ble_eq_true rfl) (by decide +kernel) rfl (fun k => lv_bipush hx hb (show decode q_K_init.2.1 13 = .ok (.bipush 65, 2) by decide +kernel) (by decide) k) (by decide +kernel) rfl (by decide +kernel) rfl (fun q2 H locs hP hD hS => ?_)
  replace hP : va_P D vwCl [(a, .inr (1, [.ref q1, .ref q2, .int 0, .int 0, .int 0])), (q1, .inl (tc 0, 65, .inl (fun _ => 0))), (q2, .inl (tc 0, 65, .inl (fun _ => 0)))] H := hP
  replace hD : va_D A [(a, .inr (1, [.ref q1, .ref q2, .int 0, .int 0, .int 0])), (q1, .inl (tc 0, 65, .inl (fun _ => 0))), (q2, .inl (tc 0, 65, .inl (fun _ => 0)))] := hD
  exact W.vret hx hb hr (fun t ht hW => ⟨fun i => [a, q1, q2].getD i 0, rfl, rfl, by rw [ht]; exact hP, hD, va_K.moved hW.alike hK, hS.F ht⟩) hS.2.2 (by decide +kernel)
set_option maxRecDepth 100000 in
set_option maxHeartbeats 4000000 in
theorem c_H_init (l : Launch) (D : va_G) (tc : Nat → ClassId) (a sz : Nat) : Met l q_H_init.1 (xW q_H_init) { frames := 1, cells := 3, slots := 21, locals := 40 } (va_Pc [.ref a] (fun U => U.heap.size = sz ∧ va_P D vwCl [(a, .inr (2, [.null, .null, .null, .int 0, .int 0, .long 0, .int 0]))] U.heap ∧ va_K D vwCl (xt tc) U ∧ va_D (fun _ => True) [(a, .inr (2, [.null, .null, .null, .int 0, .int 0, .long 0, .int 0]))])) (cQ D tc a (va_A [(a, .inr (2, [.null, .null, .null, .int 0, .int 0, .long 0, .int 0]))] sz) [.inr (2, [.ref 1, .ref 2, .ref 3, .int 0, .int (-1), .long 0, .int 0]), .inl (0, 5, .inl (fFill 5 (fun _ => 0) (-1) 5)), .inl (0, 8, .inl (fun _ => 0)), .inl (0, 8, .inl (fun _ => 0))]) 3 21 (va_A [(a, .inr (2, [.null, .null, .null, .int 0, .int 0, .long 0, .int 0]))] sz) := by
  refine Met.ofW (cc := q_H_init.2.1) (maxL := 1) (ret := none) (by decide +kernel) rfl ?_
  intro p e s m args below meth c s₁ B hml hv
  obtain ⟨rfl, hsz, hP, hK, hD0⟩ := hv
  have hx := B.exec
  have hb := B.bytes
  have hr := B.returns
  have hts0 := atoms_spec (ws := xW q_H_init) B.pre
  have hts : ∀ w ∈ wsG, w.before ([Value.ref a] : List Value).toArray s = true := fun w hw => hts0 w (List.mem_cons_of_mem _ hw)
  have hown : s.vm.findClass "NullGuard$Machine" = some m.cls := findClass_of_methodNamed B.named
  have hlocks := B.notSynchronized
  have hin : meth.name = "<init>" := (name_of_methodNamed B.named B.method).1
  subst hsz
  have hD := hD0.self (sz := s.heap.size)
  generalize hAe : va_A [(a, .inr (2, [.null, .null, .null, .int 0, .int 0, .long 0, .int 0]))] s.heap.size = A at hD ⊢
  have hA : ∀ q : Nat, s.heap.size ≤ q → A q := fun q h => by rw [← hAe]; exact Or.inr h
  have hS : va_S A s.heap s.heap [] := va_S.rf
  have hl := lv_entry ([.ref a]) (n := 1) (Nat.le_of_ble_eq_true rfl)
  rw [lg_entry_eq]
  generalize (lg_sl ([.ref a]) ++ List.replicate (1 - (lg_sl ([.ref a])).length) Slot.unset).toArray = la at hl ⊢
  have hl : lv_has la 1 [(0, .ref a)] := hl
  refine lv_aload_n (k := 0) hx hb (show decode q_H_init.2.1 0 = .ok (.aload_n 0, 1) by decide +kernel) rfl (lv_at hl 0 rfl) ?_
  refine W.objInit hx hb hown (hts _ (tb1 (i := 184) rfl rfl)) (hts _ (tb1 (i := 14) rfl rfl)) (hts _ (tb1 (i := 15) rfl rfl)) rfl (by rw [hml]; exact hl.1) rfl (show decode q_H_init.2.1 1 = .ok (.invokespecial 3, 3) by decide +kernel) (Nat.le_of_ble_eq_true rfl) (Nat.le_of_ble_eq_true rfl) ?_
  refine W.eq (g2 := F0 m 4 la []) rfl ?_
  refine mk_arr (p0 := 4) (p1 := 5) (p2 := 6) (p3 := 8) (p4 := 11) (k := 0) (t0 := 0) (nn := 5) (n := 5) (ty := .int) (C := R_H) (T := F_H) (N := 7) (idx := 9) (atype := .int) hx hb hts hown hin hK hA hP hD hS (lv_at hl 0 rfl) rfl (by decide) (tb1 (i := 186) rfl rfl) rfl rfl (t_H_ok 0 (by decide)) (tb1 (i := 155) rfl rfl) rfl (fun C h => by cases h) rfl rfl (by decide) (by decide) (by decide) (by decide) (by decide) (Nat.le_of_ble_eq_true rfl) (by decide +kernel) rfl (fun k => lv_iconst hx hb (show decode q_H_init.2.1 5 = .ok (.iconst 5, 1) by decide +kernel) (by decide) k) (by decide +kernel) rfl (by decide +kernel) rfl (fun q1 H locs hP hD hS => ?_)
  replace hP : va_P D vwCl [(a, .inr (2, [.ref q1, .null, .null, .int 0, .int 0, .long 0, .int 0])), (q1, .inl (tc 0, 5, .inl (fun _ => 0)))] H := hP
  replace hD : va_D A [(a, .inr (2, [.ref q1, .null, .null, .int 0, .int 0, .long 0, .int 0])), (q1, .inl (tc 0, 5, .inl (fun _ => 0)))] := hD
  refine mk_arr (p0 := 11) (p1 := 12) (p2 := 14) (p3 := 16) (p4 := 19) (k := 1) (t0 := 0) (nn := 8) (n := 8) (ty := .int) (C := R_H) (T := F_H) (N := 7) (idx := 15) (atype := .int) hx hb hts hown hin hK hA hP hD hS (lv_at hl 0 rfl) rfl (by decide) (tb1 (i := 188) rfl rfl) rfl rfl (t_H_ok 1 (by decide)) (tb1 (i := 155) rfl rfl) rfl (fun C h => by cases h) rfl rfl (by decide) (by decide) (by decide) (by decide) (by decide) (Nat.le_of_ble_eq_true rfl) (by decide +kernel) rfl (fun k => lv_bipush hx hb (show decode q_H_init.2.1 12 = .ok (.bipush 8, 2) by decide +kernel) (by decide) k) (by decide +kernel) rfl (by decide +kernel) rfl (fun q2 H locs hP hD hS => ?_)
  replace hP : va_P D vwCl [(a, .inr (2, [.ref q1, .ref q2, .null, .int 0, .int 0, .long 0, .int 0])), (q1, .inl (tc 0, 5, .inl (fun _ => 0))), (q2, .inl (tc 0, 8, .inl (fun _ => 0)))] H := hP
  replace hD : va_D A [(a, .inr (2, [.ref q1, .ref q2, .null, .int 0, .int 0, .long 0, .int 0])), (q1, .inl (tc 0, 5, .inl (fun _ => 0))), (q2, .inl (tc 0, 8, .inl (fun _ => 0)))] := hD
  refine mk_arr (p0 := 19) (p1 := 20) (p2 := 22) (p3 := 24) (p4 := 27) (k := 2) (t0 := 0) (nn := 8) (n := 8) (ty := .int) (C := R_H) (T := F_H) (N := 7) (idx := 18) (atype := .int) hx hb hts hown hin hK hA hP hD hS (lv_at hl 0 rfl) rfl (by decide) (tb1 (i := 190) rfl rfl) rfl rfl (t_H_ok 2 (by decide)) (tb1 (i := 155) rfl rfl) rfl (fun C h => by cases h) rfl rfl (by decide) (by decide) (by decide) (by decide) (by decide) (Nat.le_of_ble_eq_true rfl) (by decide +kernel) rfl (fun k => lv_bipush hx hb (show decode q_H_init.2.1 20 = .ok (.bipush 8, 2) by decide +kernel) (by decide) k) (by decide +kernel) rfl (by decide +kernel) rfl (fun q3 H locs hP hD hS => ?_)
  replace hP : va_P D vwCl [(a, .inr (2, [.ref q1, .ref q2, .ref q3, .int 0, .int 0, .long 0, .int 0])), (q1, .inl (tc 0, 5, .inl (fun _ => 0))), (q2, .inl (tc 0, 8, .inl (fun _ => 0))), (q3, .inl (tc 0, 8, .inl (fun _ => 0)))] H := hP
  replace hD : va_D A [(a, .inr (2, [.ref q1, .ref q2, .ref q3, .int 0, .int 0, .long 0, .int 0])), (q1, .inl (tc 0, 5, .inl (fun _ => 0))), (q2, .inl (tc 0, 8, .inl (fun _ => 0))), (q3, .inl (tc 0, 8, .inl (fun _ => 0)))] := hD
  have hcf : xcok "NullGuard$Machine" 21 (q_JA_fill, false, 2, 0) := ⟨tb1 (i := 28) rfl rfl, tb1 (i := 3) rfl rfl, ⟨by decide, by decide, by decide +kernel⟩, by decide, tb1 (i := 185) rfl rfl, tb1 (i := 27) rfl rfl, fun h => absurd h (by decide)⟩
  obtain ⟨ad, had⟩ : ∃ ad : Nat → Nat, ad = fun i => [a, q1, q2, q3].getD i 0 := ⟨_, rfl⟩
  have hPx : va_P D vwCl (xz tc ad 0 [.inr (2, [.ref 1, .ref 2, .ref 3, .int 0, .int 0, .long 0, .int 0]), .inl (0, 5, .inl (fun _ => 0)), .inl (0, 8, .inl (fun _ => 0)), .inl (0, 8, .inl (fun _ => 0))]) H := by rw [had]; exact hP
  have hDx : va_D A (xz tc ad 0 [.inr (2, [.ref 1, .ref 2, .ref 3, .int 0, .int 0, .long 0, .int 0]), .inl (0, 5, .inl (fun _ => 0)), .inl (0, 8, .inl (fun _ => 0)), .inl (0, 8, .inl (fun _ => 0))]) := by rw [had]; exact hD
  have ea : ad 0 = a := by rw [had]; rfl
  clear had
  subst ea
  refine lv_aload_n (k := 0) hx hb (show decode q_H_init.2.1 27 = .ok (.aload_n 0, 1) by decide +kernel) rfl (lv_at hl 0 rfl) ?_
  refine va_get (D := D) (ci := 2) (v := .ref (ad 1)) (C := R_H) (T := F_H) (N := 7) hx hb hts u_H hown hK hPx 0 rfl rfl 0 (by decide) (hts _ (tb1 (i := 186) rfl rfl)) (fun _ h9 => h9) rfl (show decode q_H_init.2.1 28 = .ok (.getfield 9, 3) by decide +kernel) ?_
  refine lv_iconst (v := -1) hx hb (show decode q_H_init.2.1 31 = .ok (.iconst (-1), 1) by decide +kernel) (by decide) ?_
  refine xcall (A := A) (va_runS (As := [Value.ref 1, Value.int (-1)].map (xv ad)) (rest := []) ⟨hx, hb, hml, hown, hts⟩ (c_JA_fill l [.inr (2, [.ref 1, .ref 2, .ref 3, .int 0, .int 0, .long 0, .int 0]), .inl (0, 5, .inl (fun _ => 0)), .inl (0, 8, .inl (fun _ => 0)), .inl (0, 8, .inl (fun _ => 0))] 1 5 (fun _ => 0) (-1) rfl (by decide) D tc ad H.size) ⟨xcbR (R := (headSpec (xW q_H_init) { frames := 1, cells := 3, slots := 21, locals := 40 }).room) hts hcf (by decide) (by decide), hts _ hcf.2.2.2.2.2.1⟩ ⟨xblind, xpre hK hPx hDx⟩ rfl rfl hl.1 rfl (lv_room (Nat.le_of_ble_eq_true rfl)) (show decode q_H_init.2.1 32 = .ok (.invokestatic 21, 3) by decide +kernel) ⟨by decide, by decide⟩) hS (xfree hDx hS hA) (fun v1 w1 H locs hR hP hD hS => ?_)
  obtain ⟨rfl, rfl⟩ := hR
  refine W.eq (g2 := F0 m 35 la []) rfl ?_
  refine lv_aload_n (k := 0) hx hb (show decode q_H_init.2.1 35 = .ok (.aload_n 0, 1) by decide +kernel) rfl (lv_at hl 0 rfl) ?_
  refine lv_iconst (v := -1) hx hb (show decode q_H_init.2.1 36 = .ok (.iconst (-1), 1) by decide +kernel) (by decide) ?_
  refine va_put (D := D) (ci := 2) (v := .int (-1)) (ty := .int) (C := R_H) (T := F_H) (N := 7) hx hb hts u_H t_H t_H_ok n_H hown hK hP hD hS 0 rfl rfl 4 (by decide) (hts _ (tb1 (i := 194) rfl rfl)) (fun _ h9 => h9) rfl (t_H_ok 4 (by decide)) rfl rfl (Nat.le_of_ble_eq_true rfl) (show decode q_H_init.2.1 37 = .ok (.putfield 27, 3) by decide +kernel) (fun H locs hP hD hS => ?_)
  exact W.vret hx hb hr (fun t ht hW => ⟨ad, rfl, rfl, by rw [ht]; exact hP, hD, va_K.moved hW.alike hK, hS.F ht⟩) hS.2.2 (show decode q_H_init.2.1 40 = .ok (.return_, 1) by decide +kernel)
/-- the program as it begins: an empty text -/
def zI : Sg := zPar (fun _ => 0) 0 (fun _ _ => 0) (fun _ => 0) (fun _ => 0) (fun _ => 0)
set_option maxRecDepth 100000 in
set_option maxHeartbeats 4000000 in
theorem c_P_init (l : Launch) (D : va_G) (tc : Nat → ClassId) (a sz : Nat) : Met l q_P_init.1 (xW q_P_init) { frames := 6, cells := 12, slots := 602, locals := 240 } (va_Pc [.ref a] (fun U => U.heap.size = sz ∧ va_P D vwCl [(a, .inr (0, [.null, .int 0, .int 0, .int 0, .null, .null, .null, .null, .null, .null, .null, .null, .null, .null, .null, .int 0]))] U.heap ∧ va_K D vwCl (xt tc) U ∧ va_D (fun _ => True) [(a, .inr (0, [.null, .int 0, .int 0, .int 0, .null, .null, .null, .null, .null, .null, .null, .null, .null, .null, .null, .int 0]))])) (cQ D tc a (va_A [(a, .inr (0, [.null, .int 0, .int 0, .int 0, .null, .null, .null, .null, .null, .null, .null, .null, .null, .null, .null, .int 0]))] sz) (wP zI [])) 12 602 (va_A [(a, .inr (0, [.null, .int 0, .int 0, .int 0, .null, .null, .null, .null, .null, .null, .null, .null, .null, .null, .null, .int 0]))] sz) := by
  refine Met.ofW (cc := q_P_init.2.1) (maxL := 1) (ret := none) (by decide +kernel) rfl ?_
  intro p e s m args below meth c s₁ B hml hv
  obtain ⟨rfl, hsz, hP, hK, hD0⟩ := hv
  have hx := B.exec
  have hb := B.bytes
  have hr := B.returns
  have hts0 := atoms_spec (ws := xW q_P_init) B.pre
  have hts : ∀ w ∈ wsG, w.before ([Value.ref a] : List Value).toArray s = true := fun w hw => hts0 w (List.mem_cons_of_mem _ hw)
  have hown : s.vm.findClass "NullGuard$Program" = some m.cls := findClass_of_methodNamed B.named
  have hlocks := B.notSynchronized
  have hin : meth.name = "<init>" := (name_of_methodNamed B.named B.method).1
  subst hsz
  have hD := hD0.self (sz := s.heap.size)
  generalize hAe : va_A [(a, .inr (0, [.null, .int 0, .int 0, .int 0, .null, .null, .null, .null, .null, .null, .null, .null, .null, .null, .null, .int 0]))] s.heap.size = A at hD ⊢
  have hA : ∀ q : Nat, s.heap.size ≤ q → A q := fun q h => by rw [← hAe]; exact Or.inr h
  have hS : va_S A s.heap s.heap [] := va_S.rf
  have hl := lv_entry ([.ref a]) (n := 1) (Nat.le_of_ble_eq_true rfl)
  rw [lg_entry_eq]
  generalize (lg_sl ([.ref a]) ++ List.replicate (1 - (lg_sl ([.ref a])).length) Slot.unset).toArray = la at hl ⊢
  have hl : lv_has la 1 [(0, .ref a)] := hl
  refine lv_aload_n (k := 0) hx hb (show decode q_P_init.2.1 0 = .ok (.aload_n 0, 1) by decide +kernel) rfl (lv_at hl 0 rfl) ?_
  refine W.objInit hx hb hown (hts _ (tb1 (i := 21) rfl rfl)) (hts _ (tb1 (i := 14) rfl rfl)) (hts _ (tb1 (i := 15) rfl rfl)) rfl (by rw [hml]; exact hl.1) rfl (show decode q_P_init.2.1 1 = .ok (.invokespecial 3, 3) by decide +kernel) (Nat.le_of_ble_eq_true rfl) (Nat.le_of_ble_eq_true rfl) ?_
  refine W.eq (g2 := F0 m 4 la []) rfl ?_
  refine mk_arr (p0 := 4) (p1 := 5) (p2 := 7) (p3 := 9) (p4 := 12) (k := 0) (t0 := 1) (nn := 64) (n := 64) (ty := .char) (C := R_P) (T := F_P) (N := 16) (idx := 9) (atype := .char) hx hb hts hown hin hK hA hP hD hS (lv_at hl 0 rfl) rfl (by decide) (tb1 (i := 87) rfl rfl) rfl rfl (t_P_ok 0 (by decide)) (tb1 (i := 154) rfl rfl) rfl (fun C h => by cases h) rfl rfl (by decide) (by decide) (by decide) (by decide) (by decide) (Nat.le_of_ble_eq_true rfl) (by decide +kernel) rfl (fun k => lv_bipush hx hb (show decode q_P_init.2.1 5 = .ok (.bipush 64, 2) by decide +kernel) (by decide) k) (by decide +kernel) rfl (by decide +kernel) rfl (fun q1 H locs hP hD hS => ?_)
  replace hP : va_P D vwCl [(a, .inr (0, [.ref q1, .int 0, .int 0, .int 0, .null, .null, .null, .null, .null, .null, .null, .null, .null, .null, .null, .int 0])), (q1, .inl (tc 1, 64, .inl (fun _ => 0)))] H := hP
  replace hD : va_D A [(a, .inr (0, [.ref q1, .int 0, .int 0, .int 0, .null, .null, .null, .null, .null, .null, .null, .null, .null, .null, .null, .int 0])), (q1, .inl (tc 1, 64, .inl (fun _ => 0)))] := hD
  refine mk_arr (p0 := 12) (p1 := 13) (p2 := 15) (p3 := 17) (p4 := 20) (k := 4) (t0 := 0) (nn := 65) (n := 65) (ty := .int) (C := R_P) (T := F_P) (N := 16) (idx := 15) (atype := .int) hx hb hts hown hin hK hA hP hD hS (lv_at hl 0 rfl) rfl (by decide) (tb1 (i := 95) rfl rfl) rfl rfl (t_P_ok 4 (by decide)) (tb1 (i := 155) rfl rfl) rfl (fun C h => by cases h) rfl rfl (by decide) (by decide) (by decide) (by decide) (by decide) (Nat.le_of_ble_eq_true rfl) (by decide +kernel) rfl (fun k => lv_bipush hx hb (show decode q_P_init.2.1 13 = .ok (.bipush 65, 2) by decide +kernel) (by decide) k) (by decide +kernel) rfl (by decide +kernel) rfl (fun q2 H locs hP hD hS => ?_)
  replace hP : va_P D vwCl [(a, .inr (0, [.ref q1, .int 0, .int 0, .int 0, .ref q2, .null, .null, .null, .null, .null, .null, .null, .null, .null, .null, .int 0])), (q1, .inl (tc 1, 64, .inl (fun _ => 0))), (q2, .inl (tc 0, 65, .inl (fun _ => 0)))] H := hP
  replace hD : va_D A [(a, .inr (0, [.ref q1, .int 0, .int 0, .int 0, .ref q2, .null, .null, .null, .null, .null, .null, .null, .null, .null, .null, .int 0])), (q1, .inl (tc 1, 64, .inl (fun _ => 0))), (q2, .inl (tc 0, 65, .inl (fun _ => 0)))] := hD
  refine mk_arr (p0 := 20) (p1 := 21) (p2 := 23) (p3 := 25) (p4 := 28) (k := 5) (t0 := 0) (nn := 65) (n := 65) (ty := .int) (C := R_P) (T := F_P) (N := 16) (idx := 19) (atype := .int) hx hb hts hown hin hK hA hP hD hS (lv_at hl 0 rfl) rfl (by decide) (tb1 (i := 98) rfl rfl) rfl rfl (t_P_ok 5 (by decide)) (tb1 (i := 155) rfl rfl) rfl (fun C h => by cases h) rfl rfl (by decide) (by decide) (by decide) (by decide) (by decide) (Nat.le_of_ble_eq_true rfl) (by decide +kernel) rfl (fun k => lv_bipush hx hb (show decode q_P_init.2.1 21 = .ok (.bipush 65, 2) by decide +kernel) (by decide) k) (by decide +kernel) rfl (by decide +kernel) rfl (fun q3 H locs hP hD hS => ?_)
  replace hP : va_P D vwCl [(a, .inr (0, [.ref q1, .int 0, .int 0, .int 0, .ref q2, .ref q3, .null, .null, .null, .null, .null, .null, .null, .null, .null, .int 0])), (q1, .inl (tc 1, 64, .inl (fun _ => 0))), (q2, .inl (tc 0, 65, .inl (fun _ => 0))), (q3, .inl (tc 0, 65, .inl (fun _ => 0)))] H := hP
  replace hD : va_D A [(a, .inr (0, [.ref q1, .int 0, .int 0, .int 0, .ref q2, .ref q3, .null, .null, .null, .null, .null, .null, .null, .null, .null, .int 0])), (q1, .inl (tc 1, 64, .inl (fun _ => 0))), (q2, .inl (tc 0, 65, .inl (fun _ => 0))), (q3, .inl (tc 0, 65, .inl (fun _ => 0)))] := hD
  refine mk_arr (p0 := 28) (p1 := 29) (p2 := 31) (p3 := 33) (p4 := 36) (k := 6) (t0 := 0) (nn := 65) (n := 65) (ty := .int) (C := R_P) (T := F_P) (N := 16) (idx := 22) (atype := .int) hx hb hts hown hin hK hA hP hD hS (lv_at hl 0 rfl) rfl (by decide) (tb1 (i := 101) rfl rfl) rfl rfl (t_P_ok 6 (by decide)) (tb1 (i := 155) rfl rfl) rfl (fun C h => by cases h) rfl rfl (by decide) (by decide) (by decide) (by decide) (by decide) (Nat.le_of_ble_eq_true rfl) (by decide +kernel) rfl (fun k => lv_bipush hx hb (show decode q_P_init.2.1 29 = .ok (.bipush 65, 2) by decide +kernel) (by decide) k) (by decide +kernel) rfl (by decide +kernel) rfl (fun q4 H locs hP hD hS => ?_)
  replace hP : va_P D vwCl [(a, .inr (0, [.ref q1, .int 0, .int 0, .int 0, .ref q2, .ref q3, .ref q4, .null, .null, .null, .null, .null, .null, .null, .null, .int 0])), (q1, .inl (tc 1, 64, .inl (fun _ => 0))), (q2, .inl (tc 0, 65, .inl (fun _ => 0))), (q3, .inl (tc 0, 65, .inl (fun _ => 0))), (q4, .inl (tc 0, 65, .inl (fun _ => 0)))] H := hP
  replace hD : va_D A [(a, .inr (0, [.ref q1, .int 0, .int 0, .int 0, .ref q2, .ref q3, .ref q4, .null, .null, .null, .null, .null, .null, .null, .null, .int 0])), (q1, .inl (tc 1, 64, .inl (fun _ => 0))), (q2, .inl (tc 0, 65, .inl (fun _ => 0))), (q3, .inl (tc 0, 65, .inl (fun _ => 0))), (q4, .inl (tc 0, 65, .inl (fun _ => 0)))] := hD
  refine mk_arr (p0 := 36) (p1 := 37) (p2 := 39) (p3 := 41) (p4 := 44) (k := 7) (t0 := 0) (nn := 65) (n := 65) (ty := .int) (C := R_P) (T := F_P) (N := 16) (idx := 25) (atype := .int) hx hb hts hown hin hK hA hP hD hS (lv_at hl 0 rfl) rfl (by decide) (tb1 (i := 104) rfl rfl) rfl rfl (t_P_ok 7 (by decide)) (tb1 (i := 155) rfl rfl) rfl (fun C h => by cases h) rfl rfl (by decide) (by decide) (by decide) (by decide) (by decide) (Nat.le_of_ble_eq_true rfl) (by decide +kernel) rfl (fun k => lv_bipush hx hb (show decode q_P_init.2.1 37 = .ok (.bipush 65, 2) by decide +kernel) (by decide) k) (by decide +kernel) rfl (by decide +kernel) rfl (fun q5 H locs hP hD hS => ?_)
  replace hP : va_P D vwCl [(a, .inr (0, [.ref q1, .int 0, .int 0, .int 0, .ref q2, .ref q3, .ref q4, .ref q5, .null, .null, .null, .null, .null, .null, .null, .int 0])), (q1, .inl (tc 1, 64, .inl (fun _ => 0))), (q2, .inl (tc 0, 65, .inl (fun _ => 0))), (q3, .inl (tc 0, 65, .inl (fun _ => 0))), (q4, .inl (tc 0, 65, .inl (fun _ => 0))), (q5, .inl (tc 0, 65, .inl (fun _ => 0)))] H := hP
  replace hD : va_D A [(a, .inr (0, [.ref q1, .int 0, .int 0, .int 0, .ref q2, .ref q3, .ref q4, .ref q5, .null, .null, .null, .null, .null, .null, .null, .int 0])), (q1, .inl (tc 1, 64, .inl (fun _ => 0))), (q2, .inl (tc 0, 65, .inl (fun _ => 0))), (q3, .inl (tc 0, 65, .inl (fun _ => 0))), (q4, .inl (tc 0, 65, .inl (fun _ => 0))), (q5, .inl (tc 0, 65, .inl (fun _ => 0)))] := hD
  refine mk_arr (p0 := 44) (p1 := 45) (p2 := 47) (p3 := 49) (p4 := 52) (k := 8) (t0 := 0) (nn := 65) (n := 65) (ty := .int) (C := R_P) (T := F_P) (N := 16) (idx := 28) (atype := .int) hx hb hts hown hin hK hA hP hD hS (lv_at hl 0 rfl) rfl (by decide) (tb1 (i := 107) rfl rfl) rfl rfl (t_P_ok 8 (by decide)) (tb1 (i := 155) rfl rfl) rfl (fun C h => by cases h) rfl rfl (by decide) (by decide) (by decide) (by decide) (by decide) (Nat.le_of_ble_eq_true rfl) (by decide +kernel) rfl (fun k => lv_bipush hx hb (show decode q_P_init.2.1 45 = .ok (.bipush 65, 2) by decide +kernel) (by decide) k) (by decide +kernel) rfl (by decide +kernel) rfl (fun q6 H locs hP hD hS => ?_)
  replace hP : va_P D vwCl [(a, .inr (0, [.ref q1, .int 0, .int 0, .int 0, .ref q2, .ref q3, .ref q4, .ref q5, .ref q6, .null, .null, .null, .null, .null, .null, .int 0])), (q1, .inl (tc 1, 64, .inl (fun _ => 0))), (q2, .inl (tc 0, 65, .inl (fun _ => 0))), (q3, .inl (tc 0, 65, .inl (fun _ => 0))), (q4, .inl (tc 0, 65, .inl (fun _ => 0))), (q5, .inl (tc 0, 65, .inl (fun _ => 0))), (q6, .inl (tc 0, 65, .inl (fun _ => 0)))] H := hP
  replace hD : va_D A [(a, .inr (0, [.ref q1, .int 0, .int 0, .int 0, .ref q2, .ref q3, .ref q4, .ref q5, .ref q6, .null, .null, .null, .null, .null, .null, .int 0])), (q1, .inl (tc 1, 64, .inl (fun _ => 0))), (q2, .inl (tc 0, 65, .inl (fun _ => 0))), (q3, .inl (tc 0, 65, .inl (fun _ => 0))), (q4, .inl (tc 0, 65, .inl (fun _ => 0))), (q5, .inl (tc 0, 65, .inl (fun _ => 0))), (q6, .inl (tc 0, 65, .inl (fun _ => 0)))] := hD
  refine mk_arr (p0 := 52) (p1 := 53) (p2 := 55) (p3 := 57) (p4 := 60) (k := 9) (t0 := 0) (nn := 65) (n := 65) (ty := .int) (C := R_P) (T := F_P) (N := 16) (idx := 31) (atype := .int) hx hb hts hown hin hK hA hP hD hS (lv_at hl 0 rfl) rfl (by decide) (tb1 (i := 110) rfl rfl) rfl rfl (t_P_ok 9 (by decide)) (tb1 (i := 155) rfl rfl) rfl (fun C h => by cases h) rfl rfl (by decide) (by decide) (by decide) (by decide) (by decide) (Nat.le_of_ble_eq_true rfl) (by decide +kernel) rfl (fun k => lv_bipush hx hb (show decode q_P_init.2.1 53 = .ok (.bipush 65, 2) by decide +kernel) (by decide) k) (by decide +kernel) rfl (by decide +kernel) rfl (fun q7 H locs hP hD hS => ?_)
  replace hP : va_P D vwCl [(a, .inr (0, [.ref q1, .int 0, .int 0, .int 0, .ref q2, .ref q3, .ref q4, .ref q5, .ref q6, .ref q7, .null, .null, .null, .null, .null, .int 0])), (q1, .inl (tc 1, 64, .inl (fun _ => 0))), (q2, .inl (tc 0, 65, .inl (fun _ => 0))), (q3, .inl (tc 0, 65, .inl (fun _ => 0))), (q4, .inl (tc 0, 65, .inl (fun _ => 0))), (q5, .inl (tc 0, 65, .inl (fun _ => 0))), (q6, .inl (tc 0, 65, .inl (fun _ => 0))), (q7, .inl (tc 0, 65, .inl (fun _ => 0)))] H := hP
  replace hD : va_D A [(a, .inr (0, [.ref q1, .int 0, .int 0, .int 0, .ref q2, .ref q3, .ref q4, .ref q5, .ref q6, .ref q7, .null, .null, .null, .null, .null, .int 0])), (q1, .inl (tc 1, 64, .inl (fun _ => 0))), (q2, .inl (tc 0, 65, .inl (fun _ => 0))), (q3, .inl (tc 0, 65, .inl (fun _ => 0))), (q4, .inl (tc 0, 65, .inl (fun _ => 0))), (q5, .inl (tc 0, 65, .inl (fun _ => 0))), (q6, .inl (tc 0, 65, .inl (fun _ => 0))), (q7, .inl (tc 0, 65, .inl (fun _ => 0)))] := hD
  refine mk_arr (p0 := 60) (p1 := 61) (p2 := 63) (p3 := 65) (p4 := 68) (k := 10) (t0 := 0) (nn := 65) (n := 65) (ty := .int) (C := R_P) (T := F_P) (N := 16) (idx := 34) (atype := .int) hx hb hts hown hin hK hA hP hD hS (lv_at hl 0 rfl) rfl (by decide) (tb1 (i := 113) rfl rfl) rfl rfl (t_P_ok 10 (by decide)) (tb1 (i := 155) rfl rfl) rfl (fun C h => by cases h) rfl rfl (by decide) (by decide) (by decide) (by decide) (by decide) (Nat.le_of_ble_eq_true rfl) (by decide +kernel) rfl (fun k => lv_bipush hx hb (show decode q_P_init.2.1 61 = .ok (.bipush 65, 2) by decide +kernel) (by decide) k) (by decide +kernel) rfl (by decide +kernel) rfl (fun q8 H locs hP hD hS => ?_)
  replace hP : va_P D vwCl [(a, .inr (0, [.ref q1, .int 0, .int 0, .int 0, .ref q2, .ref q3, .ref q4, .ref q5, .ref q6, .ref q7, .ref q8, .null, .null, .null, .null, .int 0])), (q1, .inl (tc 1, 64, .inl (fun _ => 0))), (q2, .inl (tc 0, 65, .inl (fun _ => 0))), (q3, .inl (tc 0, 65, .inl (fun _ => 0))), (q4, .inl (tc 0, 65, .inl (fun _ => 0))), (q5, .inl (tc 0, 65, .inl (fun _ => 0))), (q6, .inl (tc 0, 65, .inl (fun _ => 0))), (q7, .inl (tc 0, 65, .inl (fun _ => 0))), (q8, .inl (tc 0, 65, .inl (fun _ => 0)))] H := hP
  replace hD : va_D A [(a, .inr (0, [.ref q1, .int 0, .int 0, .int 0, .ref q2, .ref q3, .ref q4, .ref q5, .ref q6, .ref q7, .ref q8, .null, .null, .null, .null, .int 0])), (q1, .inl (tc 1, 64, .inl (fun _ => 0))), (q2, .inl (tc 0, 65, .inl (fun _ => 0))), (q3, .inl (tc 0, 65, .inl (fun _ => 0))), (q4, .inl (tc 0, 65, .inl (fun _ => 0))), (q5, .inl (tc 0, 65, .inl (fun _ => 0))), (q6, .inl (tc 0, 65, .inl (fun _ => 0))), (q7, .inl (tc 0, 65, .inl (fun _ => 0))), (q8, .inl (tc 0, 65, .inl (fun _ => 0)))] := hD
  refine mk_arr (p0 := 68) (p1 := 69) (p2 := 71) (p3 := 73) (p4 := 76) (k := 11) (t0 := 0) (nn := 65) (n := 65) (ty := .int) (C := R_P) (T := F_P) (N := 16) (idx := 37) (atype := .int) hx hb hts hown hin hK hA hP hD hS (lv_at hl 0 rfl) rfl (by decide) (tb1 (i := 116) rfl rfl) rfl rfl (t_P_ok 11 (by decide)) (tb1 (i := 155) rfl rfl) rfl (fun C h => by cases h) rfl rfl (by decide) (by decide) (by decide) (by decide) (by decide) (Nat.le_of_ble_eq_true rfl) (by decide +kernel) rfl (fun k => lv_bipush hx hb (show decode q_P_init.2.1 69 = .ok (.bipush 65, 2) by decide +kernel) (by decide) k) (by decide +kernel) rfl (by decide +kernel) rfl (fun q9 H locs hP hD hS => ?_)
  replace hP : va_P D vwCl [(a, .inr (0, [.ref q1, .int 0, .int 0, .int 0, .ref q2, .ref q3, .ref q4, .ref q5, .ref q6, .ref q7, .ref q8, .ref q9, .null, .null, .null, .int 0])), (q1, .inl (tc 1, 64, .inl (fun _ => 0))), (q2, .inl (tc 0, 65, .inl (fun _ => 0))), (q3, .inl (tc 0, 65, .inl (fun _ => 0))), (q4, .inl (tc 0, 65, .inl (fun _ => 0))), (q5, .inl (tc 0, 65, .inl (fun _ => 0))), (q6, .inl (tc 0, 65, .inl (fun _ => 0))), (q7, .inl (tc 0, 65, .inl (fun _ => 0))), (q8, .inl (tc 0, 65, .inl (fun _ => 0))), (q9, .inl (tc 0, 65, .inl (fun _ => 0)))] H := hP
  replace hD : va_D A [(a, .inr (0, [.ref q1, .int 0, .int 0, .int 0, .ref q2, .ref q3, .ref q4, .ref q5, .ref q6, .ref q7, .ref q8, .ref q9, .null, .null, .null, .int 0])), (q1, .inl (tc 1, 64, .inl (fun _ => 0))), (q2, .inl (tc 0, 65, .inl (fun _ => 0))), (q3, .inl (tc 0, 65, .inl (fun _ => 0))), (q4, .inl (tc 0, 65, .inl (fun _ => 0))), (q5, .inl (tc 0, 65, .inl (fun _ => 0))), (q6, .inl (tc 0, 65, .inl (fun _ => 0))), (q7, .inl (tc 0, 65, .inl (fun _ => 0))), (q8, .inl (tc 0, 65, .inl (fun _ => 0))), (q9, .inl (tc 0, 65, .inl (fun _ => 0)))] := hD
  refine mk_arr (p0 := 76) (p1 := 77) (p2 := 79) (p3 := 81) (p4 := 84) (k := 12) (t0 := 0) (nn := 6) (n := 6) (ty := .int) (C := R_P) (T := F_P) (N := 16) (idx := 40) (atype := .int) hx hb hts hown hin hK hA hP hD hS (lv_at hl 0 rfl) rfl (by decide) (tb1 (i := 117) rfl rfl) rfl rfl (t_P_ok 12 (by decide)) (tb1 (i := 155) rfl rfl) rfl (fun C h => by cases h) rfl rfl (by decide) (by decide) (by decide) (by decide) (by decide) (Nat.le_of_ble_eq_true rfl) (by decide +kernel) rfl (fun k => lv_bipush hx hb (show decode q_P_init.2.1 77 = .ok (.bipush 6, 2) by decide +kernel) (by decide) k) (by decide +kernel) rfl (by decide +kernel) rfl (fun q10 H locs hP hD hS => ?_)
  replace hP : va_P D vwCl [(a, .inr (0, [.ref q1, .int 0, .int 0, .int 0, .ref q2, .ref q3, .ref q4, .ref q5, .ref q6, .ref q7, .ref q8, .ref q9, .ref q10, .null, .null, .int 0])), (q1, .inl (tc 1, 64, .inl (fun _ => 0))), (q2, .inl (tc 0, 65, .inl (fun _ => 0))), (q3, .inl (tc 0, 65, .inl (fun _ => 0))), (q4, .inl (tc 0, 65, .inl (fun _ => 0))), (q5, .inl (tc 0, 65, .inl (fun _ => 0))), (q6, .inl (tc 0, 65, .inl (fun _ => 0))), (q7, .inl (tc 0, 65, .inl (fun _ => 0))), (q8, .inl (tc 0, 65, .inl (fun _ => 0))), (q9, .inl (tc 0, 65, .inl (fun _ => 0))), (q10, .inl (tc 0, 6, .inl (fun _ => 0)))] H := hP
  replace hD : va_D A [(a, .inr (0, [.ref q1, .int 0, .int 0, .int 0, .ref q2, .ref q3, .ref q4, .ref q5, .ref q6, .ref q7, .ref q8, .ref q9, .ref q10, .null, .null, .int 0])), (q1, .inl (tc 1, 64, .inl (fun _ => 0))), (q2, .inl (tc 0, 65, .inl (fun _ => 0))), (q3, .inl (tc 0, 65, .inl (fun _ => 0))), (q4, .inl (tc 0, 65, .inl (fun _ => 0))), (q5, .inl (tc 0, 65, .inl (fun _ => 0))), (q6, .inl (tc 0, 65, .inl (fun _ => 0))), (q7, .inl (tc 0, 65, .inl (fun _ => 0))), (q8, .inl (tc 0, 65, .inl (fun _ => 0))), (q9, .inl (tc 0, 65, .inl (fun _ => 0))), (q10, .inl (tc 0, 6, .inl (fun _ => 0)))] := hD
  refine mk_arr (p0 := 84) (p1 := 85) (p2 := 87) (p3 := 89) (p4 := 92) (k := 13) (t0 := 0) (nn := 6) (n := 6) (ty := .int) (C := R_P) (T := F_P) (N := 16) (idx := 43) (atype := .int) hx hb hts hown hin hK hA hP hD hS (lv_at hl 0 rfl) rfl (by decide) (tb1 (i := 118) rfl rfl) rfl rfl (t_P_ok 13 (by decide)) (tb1 (i := 155) rfl rfl) rfl (fun C h => by cases h) rfl rfl (by decide) (by decide) (by decide) (by decide) (by decide) (Nat.le_of_ble_eq_true rfl) (by decide +kernel) rfl (fun k => lv_bipush hx hb (show decode q_P_init.2.1 85 = .ok (.bipush 6, 2) by decide +kernel) (by decide) k) (by decide +kernel) rfl (by decide +kernel) rfl (fun q11 H locs hP hD hS => ?_)
  replace hP : va_P D vwCl [(a, .inr (0, [.ref q1, .int 0, .int 0, .int 0, .ref q2, .ref q3, .ref q4, .ref q5, .ref q6, .ref q7, .ref q8, .ref q9, .ref q10, .ref q11, .null, .int 0])), (q1, .inl (tc 1, 64, .inl (fun _ => 0))), (q2, .inl (tc 0, 65, .inl (fun _ => 0))), (q3, .inl (tc 0, 65, .inl (fun _ => 0))), (q4, .inl (tc 0, 65, .inl (fun _ => 0))), (q5, .inl (tc 0, 65, .inl (fun _ => 0))), (q6, .inl (tc 0, 65, .inl (fun _ => 0))), (q7, .inl (tc 0, 65, .inl (fun _ => 0))), (q8, .inl (tc 0, 65, .inl (fun _ => 0))), (q9, .inl (tc 0, 65, .inl (fun _ => 0))), (q10, .inl (tc 0, 6, .inl (fun _ => 0))), (q11, .inl (tc 0, 6, .inl (fun _ => 0)))] H := hP
  replace hD : va_D A [(a, .inr (0, [.ref q1, .int 0, .int 0, .int 0, .ref q2, .ref q3, .ref q4, .ref q5, .ref q6, .ref q7, .ref q8, .ref q9, .ref q10, .ref q11, .null, .int 0])), (q1, .inl (tc 1, 64, .inl (fun _ => 0))), (q2, .inl (tc 0, 65, .inl (fun _ => 0))), (q3, .inl (tc 0, 65, .inl (fun _ => 0))), (q4, .inl (tc 0, 65, .inl (fun _ => 0))), (q5, .inl (tc 0, 65, .inl (fun _ => 0))), (q6, .inl (tc 0, 65, .inl (fun _ => 0))), (q7, .inl (tc 0, 65, .inl (fun _ => 0))), (q8, .inl (tc 0, 65, .inl (fun _ => 0))), (q9, .inl (tc 0, 65, .inl (fun _ => 0))), (q10, .inl (tc 0, 6, .inl (fun _ => 0))), (q11, .inl (tc 0, 6, .inl (fun _ => 0)))] := hD
  refine mk_arr (p0 := 92) (p1 := 93) (p2 := 95) (p3 := 97) (p4 := 100) (k := 14) (t0 := 0) (nn := 6) (n := 6) (ty := .int) (C := R_P) (T := F_P) (N := 16) (idx := 46) (atype := .int) hx hb hts hown hin hK hA hP hD hS (lv_at hl 0 rfl) rfl (by decide) (tb1 (i := 119) rfl rfl) rfl rfl (t_P_ok 14 (by decide)) (tb1 (i := 155) rfl rfl) rfl (fun C h => by cases h) rfl rfl (by decide) (by decide) (by decide) (by decide) (by decide) (Nat.le_of_ble_eq_true rfl) (by decide +kernel) rfl (fun k => lv_bipush hx hb (show decode q_P_init.2.1 93 = .ok (.bipush 6, 2) by decide +kernel) (by decide) k) (by decide +kernel) rfl (by decide +kernel) rfl (fun q12 H locs hP hD hS => ?_)
  replace hP : va_P D vwCl [(a, .inr (0, [.ref q1, .int 0, .int 0, .int 0, .ref q2, .ref q3, .ref q4, .ref q5, .ref q6, .ref q7, .ref q8, .ref q9, .ref q10, .ref q11, .ref q12, .int 0])), (q1, .inl (tc 1, 64, .inl (fun _ => 0))), (q2, .inl (tc 0, 65, .inl (fun _ => 0))), (q3, .inl (tc 0, 65, .inl (fun _ => 0))), (q4, .inl (tc 0, 65, .inl (fun _ => 0))), (q5, .inl (tc 0, 65, .inl (fun _ => 0))), (q6, .inl (tc 0, 65, .inl (fun _ => 0))), (q7, .inl (tc 0, 65, .inl (fun _ => 0))), (q8, .inl (tc 0, 65, .inl (fun _ => 0))), (q9, .inl (tc 0, 65, .inl (fun _ => 0))), (q10, .inl (tc 0, 6, .inl (fun _ => 0))), (q11, .inl (tc 0, 6, .inl (fun _ => 0))), (q12, .inl (tc 0, 6, .inl (fun _ => 0)))] H := hP
  replace hD : va_D A [(a, .inr (0, [.ref q1, .int 0, .int 0, .int 0, .ref q2, .ref q3, .ref q4, .ref q5, .ref q6, .ref q7, .ref q8, .ref q9, .ref q10, .ref q11, .ref q12, .int 0])), (q1, .inl (tc 1, 64, .inl (fun _ => 0))), (q2, .inl (tc 0, 65, .inl (fun _ => 0))), (q3, .inl (tc 0, 65, .inl (fun _ => 0))), (q4, .inl (tc 0, 65, .inl (fun _ => 0))), (q5, .inl (tc 0, 65, .inl (fun _ => 0))), (q6, .inl (tc 0, 65, .inl (fun _ => 0))), (q7, .inl (tc 0, 65, .inl (fun _ => 0))), (q8, .inl (tc 0, 65, .inl (fun _ => 0))), (q9, .inl (tc 0, 65, .inl (fun _ => 0))), (q10, .inl (tc 0, 6, .inl (fun _ => 0))), (q11, .inl (tc 0, 6, .inl (fun _ => 0))), (q12, .inl (tc 0, 6, .inl (fun _ => 0)))] := hD
  have hcf : xcok "NullGuard$Program" 49 (q_P_parse, true, 0, 0) := ⟨tb1 (i := 25) rfl rfl, tb1 (i := 2) rfl rfl, ⟨by decide, by decide, by decide +kernel⟩, by decide, tb1 (i := 22) rfl rfl, tb1 (i := 23) rfl rfl, tb1 (i := 24) rfl rfl, F_P, 16, rfl⟩
  obtain ⟨ad, had⟩ : ∃ ad : Nat → Nat, ad = fun i => [a, q1, q2, q3, q4, q5, q6, q7, q8, q9, q10, q11, q12].getD i 0 := ⟨_, rfl⟩
  have hPx : va_P D vwCl (xz tc ad 0 (wP (fun _ _ => 0) [])) H := by rw [had]; exact hP
  have hDx : va_D A (xz tc ad 0 (wP (fun _ _ => 0) [])) := by rw [had]; exact hD
  have ea : ad 0 = a := by rw [had]; rfl
  clear had
  subst ea
  have hpt : PT (fun _ _ => 0) (fun _ => 0) 0 := ⟨rfl, by decide, rfl, fun _ => okc_0⟩
  have hpar : hPar (fun _ => 0) 0 (fun _ _ => 0) (fun _ => 0) (fun _ => 0) (fun _ => 0) := fun _ _ => ⟨fun p h => absurd h (by simp [chr]), fun p h => absurd h (by omega), fun p h => absurd h (by omega)⟩
  refine lv_aload_n (k := 0) hx hb (show decode q_P_init.2.1 100 = .ok (.aload_n 0, 1) by decide +kernel) rfl (lv_at hl 0 rfl) ?_
  refine xcall (A := A) (va_runV (As := ([] : List Value).map (xv ad)) (rest := []) (b := ad 0) ⟨hx, hb, hml, hown, hts⟩ (c_P_parse l (fun _ _ => 0) [] hpt (fun _ => 0) (fun _ => 0) (fun _ => 0) hpar D tc ad H.size) ⟨xcbR (R := (headSpec (xW q_P_init) { frames := 6, cells := 12, slots := 602, locals := 240 }).room) hts hcf (by decide) (by decide), hts _ hcf.2.2.2.2.2.1, hts _ hcf.2.2.2.2.2.2.1⟩ ⟨xblind, va_recv hK hPx (show vwCl[0]? = some (R_P, F_P, 16) from rfl) (show (xz tc ad 0 (wP (fun _ _ => 0) []))[0]? = some (ad 0, .inr (0, _)) from rfl), xpre (as := [.ref 0]) hK hPx hDx⟩ rfl rfl hl.1 rfl (lv_room (Nat.le_of_ble_eq_true rfl)) (show decode q_P_init.2.1 101 = .ok (.invokevirtual 49, 3) by decide +kernel) ⟨by decide, by decide⟩) hS (xfree hDx hS hA) (fun v1 w1 H locs hR hP hD hS => ?_)
  obtain ⟨rfl, rfl⟩ := hR
  refine W.eq (g2 := F0 m 104 la []) rfl ?_
  exact W.vret hx hb hr (fun t ht hW => ⟨ad, rfl, rfl, by rw [ht]; exact hP, hD, va_K.moved hW.alike hK, hS.F ht⟩) hS.2.2 (show decode q_P_init.2.1 104 = .ok (.return_, 1) by decide +kernel)
end
section
/-! NullGuard(), by program (wip/whole/genctor.py) -/
section YCall
variable {p : Program} {l : Launch} {e : Env} {R : Room} {s : State} {m : MethodId} {args : Array Value} {below : List Frame} {meth : Method} {c : Code} {H : Heap} {locs : List Loc} {Q : State → Prop} {D : va_G} {tc : Nat → ClassId} {A A1 : Nat → Prop}
/-- behind a constructor -/
theorem ycall {pc b mc ms : Nat} {la : Array Slot} {rest st0 : List Value} {a : Array Value} {w : List va_E} {cells slots : Nat}
    (hr : va_Run p l e R s m args below meth c H locs cells slots mc ms (F0 m pc la st0) rest (cQ D tc b A1 w a) A1) (hS : va_S A s.heap H locs) (hA : ∀ q, A1 q → A q)
    (kk : ∀ (ad : Nat → Nat) (H1 : Heap) (locs1 : List Loc), ad 0 = b → va_P D vwCl (xz tc ad 0 w) H1 → va_D A1 (xz tc ad 0 w) → (∀ q, q < H.size → ¬ A1 q → H1[q]? = H[q]?) → va_S A s.heap H1 locs1 → W p l e R s m args below meth c H1 locs1 (cells + mc) (slots + ms) Q (F0 m (pc + 3) la rest)) : W p l e R s m args below meth c H locs cells slots Q (F0 m pc la st0) := by
  intro T hT X
  obtain ⟨v, st₀, t, T', L, h0, X', hL, e1, e2, ⟨ad, had, hv, hP', hD', -, hz, hk⟩, st⟩ := hr T hT X
  have hv : v = none := Outcome.returned.inj hv
  subst hv
  rw [h0] at hz hk
  rw [← e1] at hP'
  obtain ⟨t2, a1, b1⟩ := kk ad T'.heap (locs ++ L) had hP' hD' (fun q h1 h2 => by rw [e1]; exact hk q h1 h2)
    ⟨Nat.le_trans hS.1 (by rw [e1]; exact hz), fun q h1 h2 => by rw [e1, hk q (Nat.lt_of_lt_of_le h1 hS.1) (fun z => h2 (hA q z))]; exact hS.2.1 q h1 h2, fun q hq => by
      rcases List.mem_append.mp hq with h | h
      · exact hS.2.2 q h
      · exact hA _ (hL q h)⟩ T' rfl X'
  exact ⟨t2, st t2 a1, b1⟩
end YCall
theorem yblind {D : va_G} {tc : Nat → ClassId} {av : List Value} {sz : Nat} {ws : va_W} : FrameBlind (va_Pc av (fun U => U.heap.size = sz ∧ va_P D vwCl ws U.heap ∧ va_K D vwCl (xt tc) U ∧ va_D (fun _ => True) ws)) :=
  fun a U g mk q => by obtain ⟨q0, q1, qP, qK, qD⟩ := q; exact ⟨q0, q1, qP, va_K.moved (u := U) (U := U.calling g mk a) (Vm.Alike.refl U.vm) qK, qD⟩
theorem ypre {D : va_G} {tc : Nat → ClassId} {av : List Value} {s : State} {H : Heap} {ws : va_W} {A : Nat → Prop} (hK : va_K D vwCl (xt tc) s) (hP : va_P D vwCl ws H) (hD : va_D A ws) : ∀ U : State, U.heap = H → s.WarmedH U.vm → va_Pc av (fun U => U.heap.size = H.size ∧ va_P D vwCl ws U.heap ∧ va_K D vwCl (xt tc) U ∧ va_D (fun _ => True) ws) av.toArray U :=
  fun U hU hW => ⟨rfl, by rw [hU], by rw [hU]; exact hP, va_K.moved hW.alike hK, hD.weaken (fun _ _ _ _ => trivial)⟩
theorem ygood {q : XI} (h : Cond.code q.1 q.2.1 q.2.2.1 q.2.2.2 ∈ wsG) : GoodIn wsG (xW q) := by
  intro w hw
  rcases List.mem_cons.mp hw with h1 | h1
  · rw [h1]; exact ⟨h, wsG_good h⟩
  · exact ⟨h1, wsG_good h1⟩
def s0 : CS := (fun _ => 0, fun _ => 0, 0, 0, 0)
def m0 : MSt := (fun v => if v < 5 then none else some 0, fun _ => 0, fun _ => some 0, 0, 0)
theorem m0_f : fFill 5 (fun _ => 0) (-1) 5 = fun v => oI (m0.1 v) := by
  funext v
  unfold fFill m0
  by_cases h : v < 5
  · simp [h, oI]
  · simp only [h, if_false]; rfl
set_option maxRecDepth 100000 in
set_option maxHeartbeats 4000000 in
theorem c_N_init (l : Launch) (D : va_G) (tc : Nat → ClassId) (a sz : Nat) : Met l q_N_init.1 (xW q_N_init) { frames := 7, cells := 20, slots := 781, locals := 280 } (va_Pc [.ref a] (fun U => (U.heap.size = sz ∧ va_P D vwCl [(a, .inr (3, [.null, .null, .null, .int 0, .int 0]))] U.heap ∧ va_K D vwCl (xt tc) U ∧ va_D (fun _ => True) [(a, .inr (3, [.null, .null, .null, .int 0, .int 0]))]) ∧ va_Nw (Cond.methodLinkNest "NullGuard" 18 q_K_init.1 "NullGuard") U)) (fun _ st oc t => ∃ ad : Nat → Nat, ad 20 = a ∧ oc = .returned none ∧ va_P D vwCl (xz tc ad 0 (wA zI s0 m0 (-1) 0 0 0)) t.heap ∧ va_D (va_A [(a, .inr (3, [.null, .null, .null, .int 0, .int 0]))] sz) (xz tc ad 0 (wA zI s0 m0 (-1) 0 0 0)) ∧ va_K D vwCl (xt tc) t ∧ va_F (va_A [(a, .inr (3, [.null, .null, .null, .int 0, .int 0]))] sz) st t) 20 781 (va_A [(a, .inr (3, [.null, .null, .null, .int 0, .int 0]))] sz) := by
  refine Met.ofW (cc := q_N_init.2.1) (maxL := 1) (ret := none) (by decide +kernel) rfl ?_
  intro p e s m args below meth c s₁ B hml hv
  obtain ⟨rfl, ⟨hsz, hP, hK, hD0⟩, hNw⟩ := hv
  have hx := B.exec
  have hb := B.bytes
  have hr := B.returns
  have hts0 := atoms_spec (ws := xW q_N_init) B.pre
  have hts : ∀ w ∈ wsG, w.before ([Value.ref a] : List Value).toArray s = true := fun w hw => hts0 w (List.mem_cons_of_mem _ hw)
  have hown : s.vm.findClass "NullGuard" = some m.cls := findClass_of_methodNamed B.named
  have hlocks := B.notSynchronized
  have hin : meth.name = "<init>" := (name_of_methodNamed B.named B.method).1
  subst hsz
  have hD := hD0.self (sz := s.heap.size)
  generalize hAe : va_A [(a, .inr (3, [.null, .null, .null, .int 0, .int 0]))] s.heap.size = A at hD ⊢
  have hA : ∀ q : Nat, s.heap.size ≤ q → A q := fun q h => by rw [← hAe]; exact Or.inr h
  have hS : va_S A s.heap s.heap [] := va_S.rf
  have hl := lv_entry ([.ref a]) (n := 1) (Nat.le_of_ble_eq_true rfl)
  rw [lg_entry_eq]
  generalize (lg_sl ([.ref a]) ++ List.replicate (1 - (lg_sl ([.ref a])).length) Slot.unset).toArray = la at hl ⊢
  have hl : lv_has la 1 [(0, .ref a)] := hl
  refine lv_aload_n (k := 0) hx hb (show decode q_N_init.2.1 0 = .ok (.aload_n 0, 1) by decide +kernel) rfl (lv_at hl 0 rfl) ?_
  refine W.objInit hx hb hown (hts _ (tb1 (i := 13) rfl rfl)) (hts _ (tb1 (i := 14) rfl rfl)) (hts _ (tb1 (i := 15) rfl rfl)) rfl (by rw [hml]; exact hl.1) rfl (show decode q_N_init.2.1 1 = .ok (.invokespecial 3, 3) by decide +kernel) (Nat.le_of_ble_eq_true rfl) (Nat.le_of_ble_eq_true rfl) ?_
  refine W.eq (g2 := F0 m 4 la []) rfl ?_
  refine lv_aload_n (k := 0) hx hb (show decode q_N_init.2.1 4 = .ok (.aload_n 0, 1) by decide +kernel) rfl (lv_at hl 0 rfl) ?_
  refine va_new (ci := 0) (fs := [.null, .int 0, .int 0, .int 0, .null, .null, .null, .null, .null, .null, .null, .null, .null, .null, .null, .int 0]) (C := R_P) (T := F_P) (N := 16) hx hb hts u_P t_P t_P_ok hown (hts _ (tb1 (i := 16) rfl rfl)) (hts _ (tb1 (i := 17) rfl rfl)) (hts _ (tb1 (i := 2) rfl rfl)) hK hP hD hS hA rfl (fun j hj => by have hj : j < 16 := hj; match j, hj with | 0, _ => rfl | 1, _ => rfl | 2, _ => rfl | 3, _ => rfl | 4, _ => rfl | 5, _ => rfl | 6, _ => rfl | 7, _ => rfl | 8, _ => rfl | 9, _ => rfl | 10, _ => rfl | 11, _ => rfl | 12, _ => rfl | 13, _ => rfl | 14, _ => rfl | 15, _ => rfl | j + 16, hj => exact absurd hj (by omega)) (by decide) (by decide) (show decode q_N_init.2.1 5 = .ok (.new 9, 3) by decide +kernel) (fun q1 H hP hD hS => ?_)
  refine lv_dup hx hb (show decode q_N_init.2.1 8 = .ok (.dup, 1) by decide +kernel) rfl ?_
  have hPs : va_P D vwCl [(q1, .inr (0, [.null, .int 0, .int 0, .int 0, .null, .null, .null, .null, .null, .null, .null, .null, .null, .null, .null, .int 0]))] H := hP.sub [1] rfl
  have hDs : va_D A [(q1, .inr (0, [.null, .int 0, .int 0, .int 0, .null, .null, .null, .null, .null, .null, .null, .null, .null, .null, .null, .int 0]))] := hD.sub [1] rfl rfl
  have hF : ∀ q, va_A [(q1, .inr (0, [.null, .int 0, .int 0, .int 0, .null, .null, .null, .null, .null, .null, .null, .null, .null, .null, .null, .int 0]))] H.size q → A q := fun q h => h.elim (fun ⟨k, e, he⟩ => hDs.2 k (q, e) he) (fun h => hA q (Nat.le_trans hS.1 h))
  refine ycall (A := A) (va_runI (As := []) (rest := [.ref q1, .ref a]) (b := q1) ⟨hx, hb, hml, hown, hts⟩ (c_P_init l D tc q1 H.size) ⟨callB_of (R := (headSpec (xW q_N_init) { frames := 7, cells := 20, slots := 781, locals := 280 }).room) (rm := { frames := 6, cells := 12, slots := 602, locals := 240 }) (ws' := wsG) 0 hts (ygood (tb1 (i := 20) rfl rfl)) rfl rfl rfl (hts _ (tb1 (i := 2) rfl rfl)) (hts _ (tb1 (i := 18) rfl rfl)) ⟨by decide, by decide, by decide +kernel⟩ ⟨by decide, by decide⟩, rfl, hts _ (tb1 (i := 19) rfl rfl)⟩ ⟨yblind, ypre hK hPs hDs⟩ rfl rfl hl.1 rfl (lv_room (Nat.le_of_ble_eq_true rfl)) (show decode q_N_init.2.1 9 = .ok (.invokespecial 11, 3) by decide +kernel) ⟨by decide, by decide⟩) hS hF (fun ad1 H1 locs1 had hP1 hD1 hk hS1 => ?_)
  have hJ := va_join (wr := [(a, .inr (3, [.null, .null, .null, .int 0, .int 0]))]) hP hD [1] [0] rfl rfl rfl (by decide) hk hF hP1 hD1
  clear hP hD hPs hDs hF hk hP1 hD1 hS
  obtain ⟨hP, hD⟩ := hJ
  subst had
  refine W.eq (g2 := F0 m 12 la [.ref (ad1 0), .ref a]) rfl ?_
  refine va_putF (D := D) (ci := 3) (v := .ref (ad1 0)) (ty := .object "NullGuard$Program") (C := R_N) (T := F_N) (N := 5) hx hb hts u_N t_N t_N_ok n_N hown hK hP hD hS1 0 rfl rfl 0 (by decide) (hts _ (tb1 (i := 213) rfl rfl)) (fun _ h9 => h9) rfl hin rfl (t_N_ok 0 (by decide)) rfl rfl (Nat.le_of_ble_eq_true rfl) (show decode q_N_init.2.1 12 = .ok (.putfield 12, 3) by decide +kernel) (fun H locs hP hD hS => ?_)
  replace hP : va_P D vwCl ([(a, .inr (3, [.ref (ad1 0), .null, .null, .int 0, .int 0]))] ++ xz tc ad1 0 (wP zI [])) H := hP
  replace hD : va_D A ([(a, .inr (3, [.ref (ad1 0), .null, .null, .int 0, .int 0]))] ++ xz tc ad1 0 (wP zI [])) := hD
  clear hS1
  refine lv_aload_n (k := 0) hx hb (show decode q_N_init.2.1 15 = .ok (.aload_n 0, 1) by decide +kernel) rfl (lv_at hl 0 rfl) ?_
  refine va_new (ci := 1) (fs := [.null, .null, .int 0, .int 0, .int 0]) (C := R_K) (T := F_K) (N := 5) hx hb hts u_K t_K t_K_ok hown (hts _ (tb1 (i := 156) rfl rfl)) (hts _ (tb1 (i := 157) rfl rfl)) (hts _ (tb1 (i := 4) rfl rfl)) hK hP hD hS hA rfl (fun j hj => by have hj : j < 5 := hj; match j, hj with | 0, _ => rfl | 1, _ => rfl | 2, _ => rfl | 3, _ => rfl | 4, _ => rfl | j + 5, hj => exact absurd hj (by omega)) (by decide) (by decide) (show decode q_N_init.2.1 16 = .ok (.new 16, 3) by decide +kernel) (fun q2 H hP hD hS => ?_)
  refine lv_dup hx hb (show decode q_N_init.2.1 19 = .ok (.dup, 1) by decide +kernel) rfl ?_
  have hPs : va_P D vwCl [(q2, .inr (1, [.null, .null, .int 0, .int 0, .int 0]))] H := hP.sub [14] rfl
  have hDs : va_D A [(q2, .inr (1, [.null, .null, .int 0, .int 0, .int 0]))] := hD.sub [14] rfl rfl
  have hF : ∀ q, va_A [(q2, .inr (1, [.null, .null, .int 0, .int 0, .int 0]))] H.size q → A q := fun q h => h.elim (fun ⟨k, e, he⟩ => hDs.2 k (q, e) he) (fun h => hA q (Nat.le_trans hS.1 h))
  refine ycall (A := A) (va_runIN (As := []) (rest := [.ref q2, .ref a]) (b := q2) ⟨hx, hb, hml, hown, hts⟩ (c_K_init l D tc q2 H.size) ⟨va_cnB (R := (headSpec (xW q_N_init) { frames := 7, cells := 20, slots := 781, locals := 280 }).room) (rm := { frames := 1, cells := 2, slots := 130, locals := 40 }) (ws' := wsG) 0 hts (ygood (tb1 (i := 160) rfl rfl)) rfl rfl rfl hNw (hts _ (tb1 (i := 4) rfl rfl)) ⟨by decide, by decide, by decide +kernel⟩ ⟨by decide, by decide⟩, rfl, hts _ (tb1 (i := 159) rfl rfl)⟩ ⟨yblind, ypre hK hPs hDs⟩ rfl rfl hl.1 rfl (lv_room (Nat.le_of_ble_eq_true rfl)) (show decode q_N_init.2.1 20 = .ok (.invokespecial 18, 3) by decide +kernel) ⟨by decide, by decide⟩) hS hF (fun ad2 H1 locs1 had hP1 hD1 hk hS1 => ?_)
  have hJ := va_join (wr := [(a, .inr (3, [.ref (ad1 0), .null, .null, .int 0, .int 0]))] ++ xz tc ad1 0 (wP zI [])) hP hD [14] [0, 1, 2, 3, 4, 5, 6, 7, 8, 9, 10, 11, 12, 13] rfl rfl rfl (by decide) hk hF hP1 hD1
  clear hP hD hPs hDs hF hk hP1 hD1 hS
  obtain ⟨hP, hD⟩ := hJ
  subst had
  refine W.eq (g2 := F0 m 23 la [.ref (ad2 0), .ref a]) rfl ?_
  refine va_putF (D := D) (ci := 3) (v := .ref (ad2 0)) (ty := .object "NullGuard$Checker") (C := R_N) (T := F_N) (N := 5) hx hb hts u_N t_N t_N_ok n_N hown hK hP hD hS1 0 rfl rfl 1 (by decide) (hts _ (tb1 (i := 214) rfl rfl)) (fun _ h9 => h9) rfl hin rfl (t_N_ok 1 (by decide)) rfl rfl (Nat.le_of_ble_eq_true rfl) (show decode q_N_init.2.1 23 = .ok (.putfield 19, 3) by decide +kernel) (fun H locs hP hD hS => ?_)
  replace hP : va_P D vwCl ([(a, .inr (3, [.ref (ad1 0), .ref (ad2 0), .null, .int 0, .int 0]))] ++ xz tc ad1 0 (wP zI []) ++ xz tc ad2 0 [.inr (1, [.ref 1, .ref 2, .int 0, .int 0, .int 0]), .inl (0, 65, .inl (fun _ => 0)), .inl (0, 65, .inl (fun _ => 0))]) H := hP
  replace hD : va_D A ([(a, .inr (3, [.ref (ad1 0), .ref (ad2 0), .null, .int 0, .int 0]))] ++ xz tc ad1 0 (wP zI []) ++ xz tc ad2 0 [.inr (1, [.ref 1, .ref 2, .int 0, .int 0, .int 0]), .inl (0, 65, .inl (fun _ => 0)), .inl (0, 65, .inl (fun _ => 0))]) := hD
  clear hS1
  refine lv_aload_n (k := 0) hx hb (show decode q_N_init.2.1 26 = .ok (.aload_n 0, 1) by decide +kernel) rfl (lv_at hl 0 rfl) ?_
  refine va_new (ci := 2) (fs := [.null, .null, .null, .int 0, .int 0, .long 0, .int 0]) (C := R_H) (T := F_H) (N := 7) hx hb hts u_H t_H t_H_ok hown (hts _ (tb1 (i := 179) rfl rfl)) (hts _ (tb1 (i := 180) rfl rfl)) (hts _ (tb1 (i := 5) rfl rfl)) hK hP hD hS hA rfl (fun j hj => by have hj : j < 7 := hj; match j, hj with | 0, _ => rfl | 1, _ => rfl | 2, _ => rfl | 3, _ => rfl | 4, _ => rfl | 5, _ => rfl | 6, _ => rfl | j + 7, hj => exact absurd hj (by omega)) (by decide) (by decide) (show decode q_N_init.2.1 27 = .ok (.new 23, 3) by decide +kernel) (fun q3 H hP hD hS => ?_)
  refine lv_dup hx hb (show decode q_N_init.2.1 30 = .ok (.dup, 1) by decide +kernel) rfl ?_
  have hPs : va_P D vwCl [(q3, .inr (2, [.null, .null, .null, .int 0, .int 0, .long 0, .int 0]))] H := hP.sub [17] rfl
  have hDs : va_D A [(q3, .inr (2, [.null, .null, .null, .int 0, .int 0, .long 0, .int 0]))] := hD.sub [17] rfl rfl
  have hF : ∀ q, va_A [(q3, .inr (2, [.null, .null, .null, .int 0, .int 0, .long 0, .int 0]))] H.size q → A q := fun q h => h.elim (fun ⟨k, e, he⟩ => hDs.2 k (q, e) he) (fun h => hA q (Nat.le_trans hS.1 h))
  refine ycall (A := A) (va_runI (As := []) (rest := [.ref q3, .ref a]) (b := q3) ⟨hx, hb, hml, hown, hts⟩ (c_H_init l D tc q3 H.size) ⟨callB_of (R := (headSpec (xW q_N_init) { frames := 7, cells := 20, slots := 781, locals := 280 }).room) (rm := { frames := 1, cells := 3, slots := 21, locals := 40 }) (ws' := wsG) 0 hts (ygood (tb1 (i := 183) rfl rfl)) rfl rfl rfl (hts _ (tb1 (i := 5) rfl rfl)) (hts _ (tb1 (i := 181) rfl rfl)) ⟨by decide, by decide, by decide +kernel⟩ ⟨by decide, by decide⟩, rfl, hts _ (tb1 (i := 182) rfl rfl)⟩ ⟨yblind, ypre hK hPs hDs⟩ rfl rfl hl.1 rfl (lv_room (Nat.le_of_ble_eq_true rfl)) (show decode q_N_init.2.1 31 = .ok (.invokespecial 25, 3) by decide +kernel) ⟨by decide, by decide⟩) hS hF (fun ad3 H1 locs1 had hP1 hD1 hk hS1 => ?_)
  have hJ := va_join (wr := [(a, .inr (3, [.ref (ad1 0), .ref (ad2 0), .null, .int 0, .int 0]))] ++ xz tc ad1 0 (wP zI []) ++ xz tc ad2 0 [.inr (1, [.ref 1, .ref 2, .int 0, .int 0, .int 0]), .inl (0, 65, .inl (fun _ => 0)), .inl (0, 65, .inl (fun _ => 0))]) hP hD [17] [0, 1, 2, 3, 4, 5, 6, 7, 8, 9, 10, 11, 12, 13, 14, 15, 16] rfl rfl rfl (by decide) hk hF hP1 hD1
  clear hP hD hPs hDs hF hk hP1 hD1 hS
  obtain ⟨hP, hD⟩ := hJ
  subst had
  refine W.eq (g2 := F0 m 34 la [.ref (ad3 0), .ref a]) rfl ?_
  refine va_putF (D := D) (ci := 3) (v := .ref (ad3 0)) (ty := .object "NullGuard$Machine") (C := R_N) (T := F_N) (N := 5) hx hb hts u_N t_N t_N_ok n_N hown hK hP hD hS1 0 rfl rfl 2 (by decide) (hts _ (tb1 (i := 215) rfl rfl)) (fun _ h9 => h9) rfl hin rfl (t_N_ok 2 (by decide)) rfl rfl (Nat.le_of_ble_eq_true rfl) (show decode q_N_init.2.1 34 = .ok (.putfield 26, 3) by decide +kernel) (fun H locs hP hD hS => ?_)
  replace hP : va_P D vwCl ([(a, .inr (3, [.ref (ad1 0), .ref (ad2 0), .ref (ad3 0), .int 0, .int 0]))] ++ xz tc ad1 0 (wP zI []) ++ xz tc ad2 0 [.inr (1, [.ref 1, .ref 2, .int 0, .int 0, .int 0]), .inl (0, 65, .inl (fun _ => 0)), .inl (0, 65, .inl (fun _ => 0))] ++ xz tc ad3 0 [.inr (2, [.ref 1, .ref 2, .ref 3, .int 0, .int (-1), .long 0, .int 0]), .inl (0, 5, .inl (fFill 5 (fun _ => 0) (-1) 5)), .inl (0, 8, .inl (fun _ => 0)), .inl (0, 8, .inl (fun _ => 0))]) H := hP
  replace hD : va_D A ([(a, .inr (3, [.ref (ad1 0), .ref (ad2 0), .ref (ad3 0), .int 0, .int 0]))] ++ xz tc ad1 0 (wP zI []) ++ xz tc ad2 0 [.inr (1, [.ref 1, .ref 2, .int 0, .int 0, .int 0]), .inl (0, 65, .inl (fun _ => 0)), .inl (0, 65, .inl (fun _ => 0))] ++ xz tc ad3 0 [.inr (2, [.ref 1, .ref 2, .ref 3, .int 0, .int (-1), .long 0, .int 0]), .inl (0, 5, .inl (fFill 5 (fun _ => 0) (-1) 5)), .inl (0, 8, .inl (fun _ => 0)), .inl (0, 8, .inl (fun _ => 0))]) := hD
  clear hS1
  rw [m0_f] at hP hD
  obtain ⟨ad, had⟩ : ∃ ad : Nat → Nat, ad = fun i => if i < 13 then ad1 i else if i < 16 then ad2 (i - 13) else if i < 20 then ad3 (i - 16) else a := ⟨_, rfl⟩
  have hPx : va_P D vwCl (xz tc ad 0 (wA zI s0 m0 (-1) 0 0 0)) H := by rw [had]; exact hP.sub [1, 2, 3, 4, 5, 6, 7, 8, 9, 10, 11, 12, 13, 14, 15, 16, 17, 18, 19, 20, 0] rfl
  have hDx : va_D A (xz tc ad 0 (wA zI s0 m0 (-1) 0 0 0)) := by rw [had]; exact hD.sub [1, 2, 3, 4, 5, 6, 7, 8, 9, 10, 11, 12, 13, 14, 15, 16, 17, 18, 19, 20, 0] rfl rfl
  exact W.vret hx hb hr (fun t ht hW => ⟨ad, by rw [had]; rfl, rfl, by rw [ht]; exact hPx, hDx, va_K.moved hW.alike hK, hS.F ht⟩) hS.2.2 (show decode q_N_init.2.1 37 = .ok (.return_, 1) by decide +kernel)
end
section
-- ===== end of PART A; then your names; then what follows =====
/-! THE CLAIM OUT OF ONE WALK OF THE LAW'S BODY. Your part is whole_start (and what it stands on); all else here is the same for every law, but numbers. -/
def R_law : String := "NullGuardLaw"
def lw_P (b : Addr) (xs : List Int32) (args : Array Value) (s : State) : Prop := args = #[.ref b] ∧ s.IntsAt b xs ∧ xs.length ≤ 2048 ∧ (Jvm.Cond.and given_1 narrow_1).before args s = true
def lw_Q (_ : Array Value) (s : State) (o : Outcome) (t : State) : Prop := o = .returned (some (.int 1)) ∧ Framed s o t [] 37 1494
def lw_Z (below : List Frame) (a : Array Value) (s : State) : State → Prop := fun t => ∃ o, t.status = .running ∧ Ended t below o ∧ lw_Q a s o t
/-- the law's own end, with 1 on the stack, nothing written that was there before, its room as the claim has it -/
theorem lw_ret {p : Program} {l : Launch} {e : Env} {s : State} {m : MethodId} {below : List Frame} {meth : Method} {c : Code} {b : Nat} (hx : p.tables.exec = Jvm.exec) (hb : c.code = code) (hr : meth.sig.returnType = ret) (hlocks : meth.locks = false) {pc : Nat} {H : Heap} {ls : Array Slot} (hdg : decode code pc = .ok (.ireturn, 1)) : W p l e room_1 s m #[Value.ref b] below meth c H [] 37 1494 (lw_Z below #[Value.ref b] s) (F0 m pc ls [.int 1]) := by
  intro T hT X
  obtain ⟨fs, hret, hrun, hended, hW, hframe⟩ := X.leave (v := some (.int 1)) (hlocks := hlocks) (fun h => by rw [hr] at h; cases h)
  have hmeth' : T.vm.method? m = some meth := X.method'
  refine ⟨T.setFrames fs, ?_, .returned (some (.int 1)), hrun, hended, rfl, ⟨_, rfl⟩, hW, hframe⟩
  jvm_step X.here [X.here.top, hx, hb, hdg, hmeth', hr, ret, narrow_b1]
  (try refine ⟨rfl, ?_⟩); (try refine ⟨rfl, ?_⟩)
  first | (intro acts; rw [hret _ acts rfl rfl rfl]) | rw [hret _ _ rfl rfl rfl]
  exact Steps.refl _
/-- what holds at the law's entry: the machine, the code, the tables' words (any of lw_tbl by 'hts w (by decide +kernel)'), the script of L ints xs at the cell b, what the Statement gives of the start (any of its parts by flat_of_before) -/
def lw_At (p : Program) (s : State) (m : MethodId) (meth : Method) (c : Code) (b L : Nat) (xs : Nat → Int32) : Prop :=
  p.tables.exec = Jvm.exec ∧ c.code = code ∧ meth.sig.returnType = ret ∧ c.maxLocals = 4 ∧ s.vm.findClass R_law = some m.cls ∧ (∀ w ∈ lw_tbl, w.before #[Value.ref b] s = true) ∧ va_X b L xs s s.heap ∧ b < s.heap.size ∧ meth.locks = false ∧ (Jvm.Cond.and given_1 narrow_1).before #[Value.ref b] s = true
end
section
/-! The law: helpers -/
theorem lj {D : va_G} {cl : List vw_C} {A : Nat → Prop} {U V U1 : va_W} {H H1 : Heap} (hP : va_P D cl (U ++ V) H) (hD : va_D A (U ++ V)) (hk : ∀ q : Nat, q < H.size → ¬ va_A U H.size q → H1[q]? = H[q]?) (hF : ∀ q, va_A U H.size q → A q) (hP1 : va_P D cl U1 H1) (hD1 : va_D (va_A U H.size) U1) : va_P D cl (V ++ U1) H1 ∧ va_D A (V ++ U1) := by
  have hV : ∀ (k : Nat) (q : Nat × va_E), V[k]? = some q → (U ++ V)[U.length + k]? = some q := by
    intro k q h
    rw [List.getElem?_append_right (Nat.le_add_right _ _), Nat.add_sub_cancel_left]; exact h
  have hU : ∀ (k : Nat) (q : Nat × va_E), U[k]? = some q → k < U.length ∧ (U ++ V)[k]? = some q := by
    intro k q h
    have hl : k < U.length := (List.getElem?_eq_some_iff.mp h).1
    exact ⟨hl, by rw [List.getElem?_append_left hl]; exact h⟩
  have apart : ∀ (k : Nat) (q : Nat × va_E), V[k]? = some q → q.1 < H.size ∧ ¬ va_A U H.size q.1 := by
    intro k q hq
    have hl := (hP _ q (hV k q hq)).lt
    refine ⟨hl, fun h => ?_⟩
    rcases h with ⟨k2, e, h⟩ | h
    · obtain ⟨h3, h4⟩ := hU k2 (q.1, e) h
      have := hD.1 _ _ q (q.1, e) (hV k q hq) h4 rfl
      omega
    · omega
  refine ⟨va_P.app (fun k q hq => ?_) hP1, va_D.app ⟨fun i j x y hi hj h => ?_, fun k q h => hD.2 _ q (hV k q h)⟩ (hD1.weaken (fun k q _ h => hF q.1 h)) (fun i j x y hx hy hxy => ?_)⟩
  · obtain ⟨g1, g2⟩ := apart k q hq
    exact (hP _ q (hV k q hq)).kept (hk q.1 g1 g2)
  · have := hD.1 _ _ x y (hV i x hi) (hV j y hj) h
    omega
  · exact (apart i x hx).2 (by rw [hxy]; exact hD1.2 j y hy)
theorem lsP {D : va_G} {cl : List vw_C} {U V : va_W} {H : Heap} (hP : va_P D cl (U ++ V) H) : va_P D cl U H := fun k q h => hP k q (by rw [List.getElem?_append_left (List.getElem?_eq_some_iff.mp h).1]; exact h)
theorem lsD {A : Nat → Prop} {U V : va_W} (hD : va_D A (U ++ V)) : va_D A U :=
  ⟨fun i j x y hi hj h => hD.1 i j x y (by rw [List.getElem?_append_left (List.getElem?_eq_some_iff.mp hi).1]; exact hi) (by rw [List.getElem?_append_left (List.getElem?_eq_some_iff.mp hj).1]; exact hj) h, fun k q h => hD.2 k q (by rw [List.getElem?_append_left (List.getElem?_eq_some_iff.mp h).1]; exact h)⟩
/-- what stands fast in the law -/
def LC (p : Program) (s : State) (m : MethodId) (args : Array Value) (meth : Method) (c : Code) (b L : Nat) (xs : Nat → Int32) (D : va_G) (tc : Nat → ClassId) : Prop :=
  p.tables.exec = Jvm.exec ∧ c.code = code ∧ meth.sig.returnType = ret ∧ c.maxLocals = 4 ∧ s.vm.findClass "NullGuardLaw" = some m.cls ∧ (∀ w ∈ wsG, w.before args s = true) ∧ va_X b L xs s s.heap ∧ b < s.heap.size ∧ meth.locks = false ∧ va_K D vwCl (xt tc) s ∧ L ≤ 2048
def lA (s : State) : Nat → Prop := fun q => s.heap.size ≤ q
section Law
variable {p : Program} {l : Launch} {e : Env} {s : State} {m : MethodId} {args : Array Value} {below : List Frame} {meth : Method} {c : Code} {H : Heap} {locs : List Loc} {Q : State → Prop} {b L : Nat} {xs : Nat → Int32} {D : va_G} {tc ad : Nat → Nat}
abbrev lW (p : Program) (l : Launch) (e : Env) (s : State) (m : MethodId) (args : Array Value) (below : List Frame) (meth : Method) (c : Code) (H : Heap) (locs : List Loc) (Q : State → Prop) (pc : Nat) (la : Array Slot) (st : List Value) : Prop := W p l e room_1 s m args below meth c H locs 37 1494 Q (F0 m pc la st)
/-- one number of the script -/
theorem larg {la : Array Slot} {st : List Value} {i k pc : Nat} {lvs : List (Nat × Value)} (C0 : LC p s m args meth c b L xs D tc) (hS : va_S (lA s) s.heap H locs) (hl : lv_has la 4 ((3, .int (nI i)) :: lvs)) (hl0 : la[0]? = some (.val (.ref b))) (hi : i + k < L) (d0 : decode code pc = .ok (.aload_n 0, 1)) (d1 : decode code (pc + 1) = .ok (.iload_n 3, 1)) (d2 : decode code (pc + 2) = .ok (.iconst k, 1)) (d3 : decode code (pc + 3) = .ok (.iadd, 1)) (d4 : decode code (pc + 4) = .ok (.iaload, 1))
    (kk : lW p l e s m args below meth c H locs Q (pc + 5) la (.int (xs (i + k)) :: st)) : lW p l e s m args below meth c H locs Q pc la st := by
  obtain ⟨hx, hb, -, -, -, -, hX, hbl, -, -, hL⟩ := C0
  refine lv_aload_n (k := 0) hx hb d0 rfl hl0 ?_
  refine lv_iload_n (k := 3) hx hb d1 rfl (lv_at hl 0 rfl) ?_
  refine lv_iconst (v := nI k) hx hb d2 ?_ ?_
  · rfl
  refine lv_iadd hx hb d3 ?_
  rw [nI_add]
  refine va_sld hx hb hX hbl (fun h => absurd hbl (Nat.not_lt.mpr h)) hS (vp_in_nI hi (by omega)) d4 ?_
  rw [nI_clamp (by omega)]
  exact kk
theorem larg0 {la : Array Slot} {st : List Value} {i pc : Nat} {lvs : List (Nat × Value)} (C0 : LC p s m args meth c b L xs D tc) (hS : va_S (lA s) s.heap H locs) (hl : lv_has la 4 ((3, .int (nI i)) :: lvs)) (hl0 : la[0]? = some (.val (.ref b))) (hi : i < L) (d0 : decode code pc = .ok (.aload_n 0, 1)) (d1 : decode code (pc + 1) = .ok (.iload_n 3, 1)) (d4 : decode code (pc + 2) = .ok (.iaload, 1))
    (kk : lW p l e s m args below meth c H locs Q (pc + 3) la (.int (xs i) :: st)) : lW p l e s m args below meth c H locs Q pc la st := by
  obtain ⟨hx, hb, -, -, -, -, hX, hbl, -, -, hL⟩ := C0
  refine lv_aload_n (k := 0) hx hb d0 rfl hl0 ?_
  refine lv_iload_n (k := 3) hx hb d1 rfl (lv_at hl 0 rfl) ?_
  refine va_sld hx hb hX hbl (fun h => absurd hbl (Nat.not_lt.mpr h)) hS (vp_in_nI hi (by omega)) d4 ?_
  rw [nI_clamp (by omega)]
  exact kk
def lLong (x y : Int32) : Int64 := (x.toInt64 <<< ((32 : Int32).toInt64 &&& 63)) ||| (y.toInt64 &&& 4294967295)
theorem llong {la : Array Slot} {st : List Value} {i k pc : Nat} {lvs : List (Nat × Value)} (C0 : LC p s m args meth c b L xs D tc) (hS : va_S (lA s) s.heap H locs) (hl : lv_has la 4 ((3, .int (nI i)) :: lvs)) (hl0 : la[0]? = some (.val (.ref b))) (hi : i + (k + 1) < L) (d0 : decode code pc = .ok (.aload_n 0, 1)) (d1 : decode code (pc + 1) = .ok (.iload_n 3, 1)) (d2 : decode code (pc + 2) = .ok (.iconst k, 1)) (d3 : decode code (pc + 3) = .ok (.iadd, 1)) (d4 : decode code (pc + 4) = .ok (.iaload, 1))
    (d5 : decode code (pc + 5) = .ok (.i2l, 1)) (d6 : decode code (pc + 6) = .ok (.bipush 32, 2)) (d8 : decode code (pc + 8) = .ok (.lshl, 1)) (e0 : decode code (pc + 9) = .ok (.aload_n 0, 1)) (e1 : decode code (pc + 10) = .ok (.iload_n 3, 1)) (e2 : decode code (pc + 11) = .ok (.iconst (k + 1 : Nat), 1)) (e3 : decode code (pc + 12) = .ok (.iadd, 1)) (e4 : decode code (pc + 13) = .ok (.iaload, 1)) (e5 : decode code (pc + 14) = .ok (.i2l, 1)) (e6 : decode code (pc + 15) = .ok (.ldc2_w 13, 3)) (e7 : decode code (pc + 18) = .ok (.land, 1)) (e8 : decode code (pc + 19) = .ok (.lor, 1))
    (kk : lW p l e s m args below meth c H locs Q (pc + 20) la (.long (lLong (xs (i + k)) (xs (i + (k + 1)))) :: st)) : lW p l e s m args below meth c H locs Q pc la st := by
  refine larg C0 hS hl hl0 (by omega) d0 d1 d2 d3 d4 ?_
  have hx := C0.1
  have hb := C0.2.1
  refine lv_i2l hx hb d5 rfl ?_
  refine lv_bipush (v := 32) hx hb d6 (by decide) ?_
  refine lv_lshl hx hb d8 rfl ?_
  refine larg C0 hS hl hl0 hi e0 e1 e2 e3 e4 ?_
  refine lv_i2l hx hb e5 rfl ?_
  refine lv_ldc2 (own := "NullGuardLaw") (v := 4294967295) hx hb C0.2.2.2.2.1 (C0.2.2.2.2.2.1 _ (tb3 (i := 213) rfl rfl)) e6 ?_
  refine lv_land hx hb e7 ?_
  refine lv_lor hx hb e8 ?_
  exact kk
/-- a call of the law, in the first of two worlds -/
theorem lop {pc idx d' n ci k : Nat} {q : XI} {as st rest : List Value} {la : Array Slot} {w w' : List va_E} {r : Option Value} {V : va_W} {fs : List Value} {lvs : List (Nat × Value)} (C0 : LC p s m args meth c b L xs D tc) (hl : lv_has la 4 lvs) (hS : va_S (lA s) s.heap H locs) (hP : va_P D vwCl (xz tc ad 0 w ++ V) H) (hD : va_D (lA s) (xz tc ad 0 w ++ V)) (hM : XMet l d' q (.ref k :: as) w r w') (hd : d' ≤ 7) (hk : w[k]? = some (.inr (ci, fs))) (hc : xcok "NullGuardLaw" idx (q, true, n, ci)) (hn : (as.map (xv ad)).length = n) (hst : st = (as.map (xv ad)).reverse ++ .ref (ad k) :: rest) (hrm : (rest.map fun v => v.category).sum ≤ 8) (hdg : decode code pc = .ok (.invokevirtual idx, 3))
    (kk : ∀ (H1 : Heap) (locs1 : List Loc), va_P D vwCl (V ++ xz tc ad 0 w') H1 → va_D (lA s) (V ++ xz tc ad 0 w') → va_S (lA s) s.heap H1 locs1 → lW p l e s m args below meth c H1 locs1 Q (pc + 3) la ((r.map (xv ad)).toList ++ rest)) : lW p l e s m args below meth c H locs Q pc la st := by
  obtain ⟨hx, hb, -, hml, hown, hts, -, -, -, hK, -⟩ := C0
  have hc0 := hc
  obtain ⟨h1, h2, h3, h4, h5, h6, h7, T, N, h8⟩ := hc
  have hPw := lsP hP
  have hDw := lsD hD
  have hF := xfree hDw hS (fun z h => h)
  have he : (xz tc ad 0 w)[k]? = some (ad k, .inr (ci, fs.map (xv ad))) := by
    rw [xz_get, hk, Nat.zero_add]; rfl
  have hR := va_runV (p := p) (l := l) (e := e) (R := room_1) (m := m) (args := args) (below := below) (meth := meth) (c := c) (H := H) (locs := locs) (cells := 37) (slots := 1494) (As := as.map (xv ad)) (rest := rest) (b := ad k) (g := F0 m pc la st) (n := n) (index := idx) ⟨hx, hb, hml, hown, hts⟩ (hM D tc ad H.size) ⟨xcbR (R := room_1) hts hc0 (show d' + 1 ≤ 10 by omega) (show 8 + (q.2.2.1 + 11) + 40 * d' ≤ 370 by have : q.2.2.1 ≤ 21 := h4; omega), hts _ h6, hts _ h7⟩ ⟨xblind, va_recv hK hPw h8 he, xpre (as := .ref k :: as) hK hPw hDw⟩ rfl hn hl.1 hst (lv_room hrm) hdg ⟨Nat.le_refl _, Nat.le_refl _⟩
  intro T0 hT X
  obtain ⟨v, st₀, t, T', Lc, h0, X', hL, e1, e2, ⟨r', w1, ⟨rfl, rfl⟩, hv, hP', hD', -, hz, hk'⟩, sst⟩ := hR T0 hT X
  have hv := Outcome.returned.inj hv
  subst hv
  rw [h0] at hz hk'
  rw [← e1] at hP'
  obtain ⟨hP2, hD2⟩ := lj hP hD (H1 := T'.heap) (fun q h1 h2 => by rw [e1]; exact hk' q h1 h2) hF hP' hD'
  obtain ⟨t2, a1, b1⟩ := kk T'.heap (locs ++ Lc) hP2 hD2
    ⟨Nat.le_trans hS.1 (by rw [e1]; exact hz), fun q h1 h2 => by rw [e1, hk' q (Nat.lt_of_lt_of_le h1 hS.1) (fun z => h2 (hF q z))]; exact hS.2.1 q h1 h2, fun q hq => by
      rcases List.mem_append.mp hq with h | h
      · exact hS.2.2 q h
      · exact hF _ (hL q h)⟩ T' rfl X'
  exact ⟨t2, sst t2 a1, b1⟩
end Law
end
section
/-! The law: its cases and its loop -/
theorem lbool {p : Program} {l : Launch} {e : Env} {s : State} {m : MethodId} {args : Array Value} {below : List Frame} {meth : Method} {c : Code} {H : Heap} {locs : List Loc} {Q : State → Prop} {la : Array Slot} {st : List Value} {pc : Nat} {x : Int32} (hx : p.tables.exec = Jvm.exec) (hb : c.code = code) (d0 : decode code pc = .ok (.ifCond .eq 7, 3)) (d3 : decode code (pc + 3) = .ok (.iconst 1, 1)) (d4 : decode code (pc + 4) = .ok (.goto 4, 3)) (d7 : decode code (pc + 7) = .ok (.iconst 0, 1))
    (kk : lW p l e s m args below meth c H locs Q (pc + 8) la (.int (if x = 0 then 0 else 1) :: st)) : lW p l e s m args below meth c H locs Q pc la (.int x :: st) := by
  refine lv_if_eq (tgt := pc + 7) hx hb d0 rfl (fun h => ?_) (fun h => ?_)
  · rw [if_pos h] at kk
    exact lv_iconst (v := 0) hx hb d7 rfl kk
  · rw [if_neg h] at kk
    refine lv_iconst (v := 1) hx hb d3 rfl ?_
    exact lv_goto (tgt := pc + 8) hx hb d4 rfl kk
/-- one call, on both sides, with one answer -/
def JOp (l : Launch) (J : List va_E → List va_E → Prop) (qx qm : XI) (as : List Value) (K : Option Value → Prop) : Prop := ∀ X Y, J X Y → ∃ (dx dm : Nat) (r : Option Value) (X' Y' : List va_E), (dx ≤ 7 ∧ dm ≤ 7) ∧ XMet l dx qx (.ref 20 :: as) X r X' ∧ XMet l dm qm (.ref 0 :: as) Y r Y' ∧ J X' Y' ∧ K r
def isI (r : Option Value) : Prop := ∃ k : Int32, r = some (.int k)

def LawOps (l : Launch) (J : List va_E → List va_E → Prop) : Prop := (∀ X Y, J X Y → ∃ fs, X[20]? = some (.inr (3, fs))) ∧ (∀ X Y, J X Y → ∃ fs, Y[0]? = some (.inr (4, fs))) ∧ (∀ (a0 : Int64), JOp l J q_N_type q_M_type [.long a0] isI) ∧ (JOp l J q_N_wipe q_M_wipe [] (fun r => r = none)) ∧ (JOp l J q_N_length q_M_length [] isI) ∧ (∀ (a0 : Int32) (a1 : Int32), (a1 = 0 ∨ a1 = 1) → JOp l J q_N_declare q_M_declare [.int a0, .int a1] isI) ∧ (JOp l J q_N_statements q_M_statements [] isI) ∧ (JOp l J q_N_alarms q_M_alarms [] isI) ∧ (∀ (a0 : Int32), JOp l J q_N_alarm q_M_alarm [.int a0] isI) ∧ (∀ (a0 : Int32) (a1 : Int32), JOp l J q_N_sure q_M_sure [.int a0, .int a1] isI) ∧ (∀ (a0 : Int32) (a1 : Int32), JOp l J q_N_linked q_M_linked [.int a0, .int a1] isI) ∧ (∀ (a0 : Int32) (a1 : Int64), JOp l J q_N_run q_M_run [.int a0, .long a1] isI) ∧ (∀ (a0 : Int32), JOp l J q_N_held q_M_held [.int a0] isI) ∧ (∀ (a0 : Int32) (a1 : Int32), JOp l J q_N_field q_M_field [.int a0, .int a1] isI) ∧ (JOp l J q_N_objects q_M_objects [] isI) ∧ (JOp l J q_N_steps q_M_steps [] isI)
section Law2
variable {p : Program} {l : Launch} {e : Env} {s : State} {m : MethodId} {args : Array Value} {below : List Frame} {meth : Method} {c : Code} {Q : State → Prop} {b L : Nat} {xs : Nat → Int32} {D : va_G} {tc adX adM : Nat → Nat} {J : List va_E → List va_E → Prop}
abbrev lI (tc adX adM : Nat → Nat) (D : va_G) (s : State) (X Y : List va_E) (H : Heap) (locs : List Loc) : Prop := va_P D vwCl (xz tc adX 0 X ++ xz tc adM 0 Y) H ∧ va_D (lA s) (xz tc adX 0 X ++ xz tc adM 0 Y) ∧ va_S (lA s) s.heap H locs
set_option maxHeartbeats 1000000 in
theorem lc_type {X Y : List va_E} {H : Heap} {locs : List Loc} {la : Array Slot} {i : Nat} (C0 : LC p s m args meth c b L xs D tc) (O : LawOps l J) (hl : lv_has la 4 [(3, .int (nI i)), (2, .ref (adM 0)), (1, .ref (adX 20)), (0, .ref b)]) (hi : i + 4 ≤ L) (hJ : J X Y) (hI : lI tc adX adM D s X Y H locs) (hN : ∀ (X Y : List va_E) (H : Heap) (locs : List Loc), J X Y → lI tc adX adM D s X Y H locs → lW p l e s m args below meth c H locs Q 490 la []) : lW p l e s m args below meth c H locs Q 104 la [] := by
  obtain ⟨hP, hD, hS⟩ := hI
  have hx := C0.1
  have hb := C0.2.1
  have hl0 := lv_at hl 3 rfl
  obtain ⟨fx, hfx⟩ := O.1 X Y hJ
  obtain ⟨fy, hfy⟩ := O.2.1 X Y hJ
  obtain ⟨dx, dm, r, X1, Y1, ⟨hdx, hdm⟩, hMx, hMm, hJ1, hr⟩ := O.2.2.1 (lLong (xs (i + 1)) (xs (i + 2))) X Y hJ
  obtain ⟨k, rfl⟩ := hr
  refine lv_aload_n (k := 1) hx hb (show decode code 104 = .ok (.aload_n 1, 1) by decide +kernel) rfl (lv_at hl 2 rfl) ?_
  refine llong (k := 1) C0 hS hl hl0 (by omega) (show decode code 105 = .ok (.aload_n 0, 1) by decide +kernel) (show decode code 106 = .ok (.iload_n 3, 1) by decide +kernel) (show decode code 107 = .ok (.iconst 1, 1) by decide +kernel) (show decode code 108 = .ok (.iadd, 1) by decide +kernel) (show decode code 109 = .ok (.iaload, 1) by decide +kernel) (show decode code 110 = .ok (.i2l, 1) by decide +kernel) (show decode code 111 = .ok (.bipush 32, 2) by decide +kernel) (show decode code 113 = .ok (.lshl, 1) by decide +kernel) (show decode code 114 = .ok (.aload_n 0, 1) by decide +kernel) (show decode code 115 = .ok (.iload_n 3, 1) by decide +kernel) (show decode code 116 = .ok (.iconst 2, 1) by decide +kernel) (show decode code 117 = .ok (.iadd, 1) by decide +kernel) (show decode code 118 = .ok (.iaload, 1) by decide +kernel) (show decode code 119 = .ok (.i2l, 1) by decide +kernel) (show decode code 120 = .ok (.ldc2_w 13, 3) by decide +kernel) (show decode code 123 = .ok (.land, 1) by decide +kernel) (show decode code 124 = .ok (.lor, 1) by decide +kernel) ?_
  refine lop (ad := adX) (n := 1) (idx := 15) (k := 20) (rest := []) C0 hl hS hP hD hMx hdx hfx (⟨tb1 (i := 232) rfl rfl, tb1 (i := 1) rfl rfl, ⟨by decide, by decide, by decide +kernel⟩, by decide, tb1 (i := 229) rfl rfl, tb1 (i := 230) rfl rfl, tb1 (i := 231) rfl rfl, F_N, 5, rfl⟩) rfl rfl (Nat.le_of_ble_eq_true rfl) (show decode code 125 = .ok (.invokevirtual 15, 3) by decide +kernel) (fun H1 locs1 hP1 hD1 hS1 => ?_)
  refine lv_aload_n (k := 2) hx hb (show decode code 128 = .ok (.aload_n 2, 1) by decide +kernel) rfl (lv_at hl 1 rfl) ?_
  refine llong (k := 1) C0 hS1 hl hl0 (by omega) (show decode code 129 = .ok (.aload_n 0, 1) by decide +kernel) (show decode code 130 = .ok (.iload_n 3, 1) by decide +kernel) (show decode code 131 = .ok (.iconst 1, 1) by decide +kernel) (show decode code 132 = .ok (.iadd, 1) by decide +kernel) (show decode code 133 = .ok (.iaload, 1) by decide +kernel) (show decode code 134 = .ok (.i2l, 1) by decide +kernel) (show decode code 135 = .ok (.bipush 32, 2) by decide +kernel) (show decode code 137 = .ok (.lshl, 1) by decide +kernel) (show decode code 138 = .ok (.aload_n 0, 1) by decide +kernel) (show decode code 139 = .ok (.iload_n 3, 1) by decide +kernel) (show decode code 140 = .ok (.iconst 2, 1) by decide +kernel) (show decode code 141 = .ok (.iadd, 1) by decide +kernel) (show decode code 142 = .ok (.iaload, 1) by decide +kernel) (show decode code 143 = .ok (.i2l, 1) by decide +kernel) (show decode code 144 = .ok (.ldc2_w 13, 3) by decide +kernel) (show decode code 147 = .ok (.land, 1) by decide +kernel) (show decode code 148 = .ok (.lor, 1) by decide +kernel) ?_
  refine lop (ad := adM) (n := 1) (idx := 19) (k := 0) (rest := [.int k]) C0 hl hS1 hP1 hD1 hMm hdm hfy (⟨tb3 (i := 45) rfl rfl, tb1 (i := 6) rfl rfl, ⟨by decide, by decide, by decide +kernel⟩, by decide, tb3 (i := 42) rfl rfl, tb3 (i := 43) rfl rfl, tb3 (i := 44) rfl rfl, F_M, 27, rfl⟩) rfl rfl (Nat.le_of_ble_eq_true rfl) (show decode code 149 = .ok (.invokevirtual 19, 3) by decide +kernel) (fun H2 locs2 hP2 hD2 hS2 => ?_)
  exact lv_icmp_eq (tgt := 490) hx hb (show decode code 152 = .ok (.if_icmp .eq 338, 3) by decide +kernel) rfl (fun _ => hN _ _ _ _ hJ1 ⟨hP2, hD2, hS2⟩) (fun h => absurd rfl h)
set_option maxHeartbeats 1000000 in
theorem lc_wipe {X Y : List va_E} {H : Heap} {locs : List Loc} {la : Array Slot} {i : Nat} (C0 : LC p s m args meth c b L xs D tc) (O : LawOps l J) (hl : lv_has la 4 [(3, .int (nI i)), (2, .ref (adM 0)), (1, .ref (adX 20)), (0, .ref b)]) (hi : i + 4 ≤ L) (hJ : J X Y) (hI : lI tc adX adM D s X Y H locs) (hN : ∀ (X Y : List va_E) (H : Heap) (locs : List Loc), J X Y → lI tc adX adM D s X Y H locs → lW p l e s m args below meth c H locs Q 490 la []) : lW p l e s m args below meth c H locs Q 157 la [] := by
  obtain ⟨hP, hD, hS⟩ := hI
  have hx := C0.1
  have hb := C0.2.1
  have hl0 := lv_at hl 3 rfl
  obtain ⟨fx, hfx⟩ := O.1 X Y hJ
  obtain ⟨fy, hfy⟩ := O.2.1 X Y hJ
  obtain ⟨dx, dm, r, X1, Y1, ⟨hdx, hdm⟩, hMx, hMm, hJ1, hr⟩ := O.2.2.2.1  X Y hJ
  subst hr
  refine lv_aload_n (k := 1) hx hb (show decode code 157 = .ok (.aload_n 1, 1) by decide +kernel) rfl (lv_at hl 2 rfl) ?_
  refine lop (ad := adX) (n := 0) (idx := 20) (k := 20) (rest := []) C0 hl hS hP hD hMx hdx hfx (⟨tb2 (i := 7) rfl rfl, tb1 (i := 1) rfl rfl, ⟨by decide, by decide, by decide +kernel⟩, by decide, tb2 (i := 4) rfl rfl, tb2 (i := 5) rfl rfl, tb2 (i := 6) rfl rfl, F_N, 5, rfl⟩) rfl rfl (Nat.le_of_ble_eq_true rfl) (show decode code 158 = .ok (.invokevirtual 20, 3) by decide +kernel) (fun H1 locs1 hP1 hD1 hS1 => ?_)
  refine lv_aload_n (k := 2) hx hb (show decode code 161 = .ok (.aload_n 2, 1) by decide +kernel) rfl (lv_at hl 1 rfl) ?_
  refine lop (ad := adM) (n := 0) (idx := 23) (k := 0) (rest := []) C0 hl hS1 hP1 hD1 hMm hdm hfy (⟨tb3 (i := 49) rfl rfl, tb1 (i := 6) rfl rfl, ⟨by decide, by decide, by decide +kernel⟩, by decide, tb3 (i := 46) rfl rfl, tb3 (i := 47) rfl rfl, tb3 (i := 48) rfl rfl, F_M, 27, rfl⟩) rfl rfl (Nat.le_of_ble_eq_true rfl) (show decode code 162 = .ok (.invokevirtual 23, 3) by decide +kernel) (fun H2 locs2 hP2 hD2 hS2 => ?_)
  exact lv_goto (tgt := 490) hx hb (show decode code 165 = .ok (.goto 325, 3) by decide +kernel) rfl (hN _ _ _ _ hJ1 ⟨hP2, hD2, hS2⟩)
set_option maxHeartbeats 1000000 in
theorem lc_length {X Y : List va_E} {H : Heap} {locs : List Loc} {la : Array Slot} {i : Nat} (C0 : LC p s m args meth c b L xs D tc) (O : LawOps l J) (hl : lv_has la 4 [(3, .int (nI i)), (2, .ref (adM 0)), (1, .ref (adX 20)), (0, .ref b)]) (hi : i + 4 ≤ L) (hJ : J X Y) (hI : lI tc adX adM D s X Y H locs) (hN : ∀ (X Y : List va_E) (H : Heap) (locs : List Loc), J X Y → lI tc adX adM D s X Y H locs → lW p l e s m args below meth c H locs Q 490 la []) : lW p l e s m args below meth c H locs Q 168 la [] := by
  obtain ⟨hP, hD, hS⟩ := hI
  have hx := C0.1
  have hb := C0.2.1
  have hl0 := lv_at hl 3 rfl
  obtain ⟨fx, hfx⟩ := O.1 X Y hJ
  obtain ⟨fy, hfy⟩ := O.2.1 X Y hJ
  obtain ⟨dx, dm, r, X1, Y1, ⟨hdx, hdm⟩, hMx, hMm, hJ1, hr⟩ := O.2.2.2.2.1  X Y hJ
  obtain ⟨k, rfl⟩ := hr
  refine lv_aload_n (k := 1) hx hb (show decode code 168 = .ok (.aload_n 1, 1) by decide +kernel) rfl (lv_at hl 2 rfl) ?_
  refine lop (ad := adX) (n := 0) (idx := 24) (k := 20) (rest := []) C0 hl hS hP hD hMx hdx hfx (⟨tb2 (i := 15) rfl rfl, tb1 (i := 1) rfl rfl, ⟨by decide, by decide, by decide +kernel⟩, by decide, tb2 (i := 12) rfl rfl, tb2 (i := 13) rfl rfl, tb2 (i := 14) rfl rfl, F_N, 5, rfl⟩) rfl rfl (Nat.le_of_ble_eq_true rfl) (show decode code 169 = .ok (.invokevirtual 24, 3) by decide +kernel) (fun H1 locs1 hP1 hD1 hS1 => ?_)
  refine lv_aload_n (k := 2) hx hb (show decode code 172 = .ok (.aload_n 2, 1) by decide +kernel) rfl (lv_at hl 1 rfl) ?_
  refine lop (ad := adM) (n := 0) (idx := 28) (k := 0) (rest := [.int k]) C0 hl hS1 hP1 hD1 hMm hdm hfy (⟨tb3 (i := 53) rfl rfl, tb1 (i := 6) rfl rfl, ⟨by decide, by decide, by decide +kernel⟩, by decide, tb3 (i := 50) rfl rfl, tb3 (i := 51) rfl rfl, tb3 (i := 52) rfl rfl, F_M, 27, rfl⟩) rfl rfl (Nat.le_of_ble_eq_true rfl) (show decode code 173 = .ok (.invokevirtual 28, 3) by decide +kernel) (fun H2 locs2 hP2 hD2 hS2 => ?_)
  exact lv_icmp_eq (tgt := 490) hx hb (show decode code 176 = .ok (.if_icmp .eq 314, 3) by decide +kernel) rfl (fun _ => hN _ _ _ _ hJ1 ⟨hP2, hD2, hS2⟩) (fun h => absurd rfl h)
set_option maxHeartbeats 1000000 in
theorem lc_declare {X Y : List va_E} {H : Heap} {locs : List Loc} {la : Array Slot} {i : Nat} (C0 : LC p s m args meth c b L xs D tc) (O : LawOps l J) (hl : lv_has la 4 [(3, .int (nI i)), (2, .ref (adM 0)), (1, .ref (adX 20)), (0, .ref b)]) (hi : i + 4 ≤ L) (hJ : J X Y) (hI : lI tc adX adM D s X Y H locs) (hN : ∀ (X Y : List va_E) (H : Heap) (locs : List Loc), J X Y → lI tc adX adM D s X Y H locs → lW p l e s m args below meth c H locs Q 490 la []) : lW p l e s m args below meth c H locs Q 181 la [] := by
  obtain ⟨hP, hD, hS⟩ := hI
  have hx := C0.1
  have hb := C0.2.1
  have hl0 := lv_at hl 3 rfl
  obtain ⟨fx, hfx⟩ := O.1 X Y hJ
  obtain ⟨fy, hfy⟩ := O.2.1 X Y hJ
  obtain ⟨dx, dm, r, X1, Y1, ⟨hdx, hdm⟩, hMx, hMm, hJ1, hr⟩ := O.2.2.2.2.2.1 (xs (i + 1)) (if xs (i + 2) = 0 then 0 else 1) (by by_cases h : xs (i + 2) = 0 <;> simp [h]) X Y hJ
  obtain ⟨k, rfl⟩ := hr
  refine lv_aload_n (k := 1) hx hb (show decode code 181 = .ok (.aload_n 1, 1) by decide +kernel) rfl (lv_at hl 2 rfl) ?_
  refine larg (k := 1) C0 hS hl hl0 (by omega) (show decode code 182 = .ok (.aload_n 0, 1) by decide +kernel) (show decode code 183 = .ok (.iload_n 3, 1) by decide +kernel) (show decode code 184 = .ok (.iconst 1, 1) by decide +kernel) (show decode code 185 = .ok (.iadd, 1) by decide +kernel) (show decode code 186 = .ok (.iaload, 1) by decide +kernel) ?_
  refine larg (k := 2) C0 hS hl hl0 (by omega) (show decode code 187 = .ok (.aload_n 0, 1) by decide +kernel) (show decode code 188 = .ok (.iload_n 3, 1) by decide +kernel) (show decode code 189 = .ok (.iconst 2, 1) by decide +kernel) (show decode code 190 = .ok (.iadd, 1) by decide +kernel) (show decode code 191 = .ok (.iaload, 1) by decide +kernel) ?_
  refine lbool hx hb (show decode code 192 = .ok (.ifCond .eq 7, 3) by decide +kernel) (show decode code 195 = .ok (.iconst 1, 1) by decide +kernel) (show decode code 196 = .ok (.goto 4, 3) by decide +kernel) (show decode code 199 = .ok (.iconst 0, 1) by decide +kernel) ?_
  refine lop (ad := adX) (n := 2) (idx := 29) (k := 20) (rest := []) C0 hl hS hP hD hMx hdx hfx (⟨tb2 (i := 19) rfl rfl, tb1 (i := 1) rfl rfl, ⟨by decide, by decide, by decide +kernel⟩, by decide, tb2 (i := 16) rfl rfl, tb2 (i := 17) rfl rfl, tb2 (i := 18) rfl rfl, F_N, 5, rfl⟩) rfl rfl (Nat.le_of_ble_eq_true rfl) (show decode code 200 = .ok (.invokevirtual 29, 3) by decide +kernel) (fun H1 locs1 hP1 hD1 hS1 => ?_)
  refine lv_aload_n (k := 2) hx hb (show decode code 203 = .ok (.aload_n 2, 1) by decide +kernel) rfl (lv_at hl 1 rfl) ?_
  refine larg (k := 1) C0 hS1 hl hl0 (by omega) (show decode code 204 = .ok (.aload_n 0, 1) by decide +kernel) (show decode code 205 = .ok (.iload_n 3, 1) by decide +kernel) (show decode code 206 = .ok (.iconst 1, 1) by decide +kernel) (show decode code 207 = .ok (.iadd, 1) by decide +kernel) (show decode code 208 = .ok (.iaload, 1) by decide +kernel) ?_
  refine larg (k := 2) C0 hS1 hl hl0 (by omega) (show decode code 209 = .ok (.aload_n 0, 1) by decide +kernel) (show decode code 210 = .ok (.iload_n 3, 1) by decide +kernel) (show decode code 211 = .ok (.iconst 2, 1) by decide +kernel) (show decode code 212 = .ok (.iadd, 1) by decide +kernel) (show decode code 213 = .ok (.iaload, 1) by decide +kernel) ?_
  refine lbool hx hb (show decode code 214 = .ok (.ifCond .eq 7, 3) by decide +kernel) (show decode code 217 = .ok (.iconst 1, 1) by decide +kernel) (show decode code 218 = .ok (.goto 4, 3) by decide +kernel) (show decode code 221 = .ok (.iconst 0, 1) by decide +kernel) ?_
  refine lop (ad := adM) (n := 2) (idx := 33) (k := 0) (rest := [.int k]) C0 hl hS1 hP1 hD1 hMm hdm hfy (⟨tb3 (i := 57) rfl rfl, tb1 (i := 6) rfl rfl, ⟨by decide, by decide, by decide +kernel⟩, by decide, tb3 (i := 54) rfl rfl, tb3 (i := 55) rfl rfl, tb3 (i := 56) rfl rfl, F_M, 27, rfl⟩) rfl rfl (Nat.le_of_ble_eq_true rfl) (show decode code 222 = .ok (.invokevirtual 33, 3) by decide +kernel) (fun H2 locs2 hP2 hD2 hS2 => ?_)
  exact lv_icmp_eq (tgt := 490) hx hb (show decode code 225 = .ok (.if_icmp .eq 265, 3) by decide +kernel) rfl (fun _ => hN _ _ _ _ hJ1 ⟨hP2, hD2, hS2⟩) (fun h => absurd rfl h)
set_option maxHeartbeats 1000000 in
theorem lc_statements {X Y : List va_E} {H : Heap} {locs : List Loc} {la : Array Slot} {i : Nat} (C0 : LC p s m args meth c b L xs D tc) (O : LawOps l J) (hl : lv_has la 4 [(3, .int (nI i)), (2, .ref (adM 0)), (1, .ref (adX 20)), (0, .ref b)]) (hi : i + 4 ≤ L) (hJ : J X Y) (hI : lI tc adX adM D s X Y H locs) (hN : ∀ (X Y : List va_E) (H : Heap) (locs : List Loc), J X Y → lI tc adX adM D s X Y H locs → lW p l e s m args below meth c H locs Q 490 la []) : lW p l e s m args below meth c H locs Q 230 la [] := by
  obtain ⟨hP, hD, hS⟩ := hI
  have hx := C0.1
  have hb := C0.2.1
  have hl0 := lv_at hl 3 rfl
  obtain ⟨fx, hfx⟩ := O.1 X Y hJ
  obtain ⟨fy, hfy⟩ := O.2.1 X Y hJ
  obtain ⟨dx, dm, r, X1, Y1, ⟨hdx, hdm⟩, hMx, hMm, hJ1, hr⟩ := O.2.2.2.2.2.2.1  X Y hJ
  obtain ⟨k, rfl⟩ := hr
  refine lv_aload_n (k := 1) hx hb (show decode code 230 = .ok (.aload_n 1, 1) by decide +kernel) rfl (lv_at hl 2 rfl) ?_
  refine lop (ad := adX) (n := 0) (idx := 34) (k := 20) (rest := []) C0 hl hS hP hD hMx hdx hfx (⟨tb2 (i := 26) rfl rfl, tb1 (i := 1) rfl rfl, ⟨by decide, by decide, by decide +kernel⟩, by decide, tb2 (i := 23) rfl rfl, tb2 (i := 24) rfl rfl, tb2 (i := 25) rfl rfl, F_N, 5, rfl⟩) rfl rfl (Nat.le_of_ble_eq_true rfl) (show decode code 231 = .ok (.invokevirtual 34, 3) by decide +kernel) (fun H1 locs1 hP1 hD1 hS1 => ?_)
  refine lv_aload_n (k := 2) hx hb (show decode code 234 = .ok (.aload_n 2, 1) by decide +kernel) rfl (lv_at hl 1 rfl) ?_
  refine lop (ad := adM) (n := 0) (idx := 37) (k := 0) (rest := [.int k]) C0 hl hS1 hP1 hD1 hMm hdm hfy (⟨tb3 (i := 61) rfl rfl, tb1 (i := 6) rfl rfl, ⟨by decide, by decide, by decide +kernel⟩, by decide, tb3 (i := 58) rfl rfl, tb3 (i := 59) rfl rfl, tb3 (i := 60) rfl rfl, F_M, 27, rfl⟩) rfl rfl (Nat.le_of_ble_eq_true rfl) (show decode code 235 = .ok (.invokevirtual 37, 3) by decide +kernel) (fun H2 locs2 hP2 hD2 hS2 => ?_)
  exact lv_icmp_eq (tgt := 490) hx hb (show decode code 238 = .ok (.if_icmp .eq 252, 3) by decide +kernel) rfl (fun _ => hN _ _ _ _ hJ1 ⟨hP2, hD2, hS2⟩) (fun h => absurd rfl h)
set_option maxHeartbeats 1000000 in
theorem lc_alarms {X Y : List va_E} {H : Heap} {locs : List Loc} {la : Array Slot} {i : Nat} (C0 : LC p s m args meth c b L xs D tc) (O : LawOps l J) (hl : lv_has la 4 [(3, .int (nI i)), (2, .ref (adM 0)), (1, .ref (adX 20)), (0, .ref b)]) (hi : i + 4 ≤ L) (hJ : J X Y) (hI : lI tc adX adM D s X Y H locs) (hN : ∀ (X Y : List va_E) (H : Heap) (locs : List Loc), J X Y → lI tc adX adM D s X Y H locs → lW p l e s m args below meth c H locs Q 490 la []) : lW p l e s m args below meth c H locs Q 243 la [] := by
  obtain ⟨hP, hD, hS⟩ := hI
  have hx := C0.1
  have hb := C0.2.1
  have hl0 := lv_at hl 3 rfl
  obtain ⟨fx, hfx⟩ := O.1 X Y hJ
  obtain ⟨fy, hfy⟩ := O.2.1 X Y hJ
  obtain ⟨dx, dm, r, X1, Y1, ⟨hdx, hdm⟩, hMx, hMm, hJ1, hr⟩ := O.2.2.2.2.2.2.2.1  X Y hJ
  obtain ⟨k, rfl⟩ := hr
  refine lv_aload_n (k := 1) hx hb (show decode code 243 = .ok (.aload_n 1, 1) by decide +kernel) rfl (lv_at hl 2 rfl) ?_
  refine lop (ad := adX) (n := 0) (idx := 38) (k := 20) (rest := []) C0 hl hS hP hD hMx hdx hfx (⟨tb2 (i := 30) rfl rfl, tb1 (i := 1) rfl rfl, ⟨by decide, by decide, by decide +kernel⟩, by decide, tb2 (i := 27) rfl rfl, tb2 (i := 28) rfl rfl, tb2 (i := 29) rfl rfl, F_N, 5, rfl⟩) rfl rfl (Nat.le_of_ble_eq_true rfl) (show decode code 244 = .ok (.invokevirtual 38, 3) by decide +kernel) (fun H1 locs1 hP1 hD1 hS1 => ?_)
  refine lv_aload_n (k := 2) hx hb (show decode code 247 = .ok (.aload_n 2, 1) by decide +kernel) rfl (lv_at hl 1 rfl) ?_
  refine lop (ad := adM) (n := 0) (idx := 41) (k := 0) (rest := [.int k]) C0 hl hS1 hP1 hD1 hMm hdm hfy (⟨tb3 (i := 105) rfl rfl, tb1 (i := 6) rfl rfl, ⟨by decide, by decide, by decide +kernel⟩, by decide, tb3 (i := 102) rfl rfl, tb3 (i := 103) rfl rfl, tb3 (i := 104) rfl rfl, F_M, 27, rfl⟩) rfl rfl (Nat.le_of_ble_eq_true rfl) (show decode code 248 = .ok (.invokevirtual 41, 3) by decide +kernel) (fun H2 locs2 hP2 hD2 hS2 => ?_)
  exact lv_icmp_eq (tgt := 490) hx hb (show decode code 251 = .ok (.if_icmp .eq 239, 3) by decide +kernel) rfl (fun _ => hN _ _ _ _ hJ1 ⟨hP2, hD2, hS2⟩) (fun h => absurd rfl h)
set_option maxHeartbeats 1000000 in
theorem lc_alarm {X Y : List va_E} {H : Heap} {locs : List Loc} {la : Array Slot} {i : Nat} (C0 : LC p s m args meth c b L xs D tc) (O : LawOps l J) (hl : lv_has la 4 [(3, .int (nI i)), (2, .ref (adM 0)), (1, .ref (adX 20)), (0, .ref b)]) (hi : i + 4 ≤ L) (hJ : J X Y) (hI : lI tc adX adM D s X Y H locs) (hN : ∀ (X Y : List va_E) (H : Heap) (locs : List Loc), J X Y → lI tc adX adM D s X Y H locs → lW p l e s m args below meth c H locs Q 490 la []) : lW p l e s m args below meth c H locs Q 256 la [] := by
  obtain ⟨hP, hD, hS⟩ := hI
  have hx := C0.1
  have hb := C0.2.1
  have hl0 := lv_at hl 3 rfl
  obtain ⟨fx, hfx⟩ := O.1 X Y hJ
  obtain ⟨fy, hfy⟩ := O.2.1 X Y hJ
  obtain ⟨dx, dm, r, X1, Y1, ⟨hdx, hdm⟩, hMx, hMm, hJ1, hr⟩ := O.2.2.2.2.2.2.2.2.1 (xs (i + 1)) X Y hJ
  obtain ⟨k, rfl⟩ := hr
  refine lv_aload_n (k := 1) hx hb (show decode code 256 = .ok (.aload_n 1, 1) by decide +kernel) rfl (lv_at hl 2 rfl) ?_
  refine larg (k := 1) C0 hS hl hl0 (by omega) (show decode code 257 = .ok (.aload_n 0, 1) by decide +kernel) (show decode code 258 = .ok (.iload_n 3, 1) by decide +kernel) (show decode code 259 = .ok (.iconst 1, 1) by decide +kernel) (show decode code 260 = .ok (.iadd, 1) by decide +kernel) (show decode code 261 = .ok (.iaload, 1) by decide +kernel) ?_
  refine lop (ad := adX) (n := 1) (idx := 42) (k := 20) (rest := []) C0 hl hS hP hD hMx hdx hfx (⟨tb2 (i := 101) rfl rfl, tb1 (i := 1) rfl rfl, ⟨by decide, by decide, by decide +kernel⟩, by decide, tb2 (i := 98) rfl rfl, tb2 (i := 99) rfl rfl, tb2 (i := 100) rfl rfl, F_N, 5, rfl⟩) rfl rfl (Nat.le_of_ble_eq_true rfl) (show decode code 262 = .ok (.invokevirtual 42, 3) by decide +kernel) (fun H1 locs1 hP1 hD1 hS1 => ?_)
  refine lv_aload_n (k := 2) hx hb (show decode code 265 = .ok (.aload_n 2, 1) by decide +kernel) rfl (lv_at hl 1 rfl) ?_
  refine larg (k := 1) C0 hS1 hl hl0 (by omega) (show decode code 266 = .ok (.aload_n 0, 1) by decide +kernel) (show decode code 267 = .ok (.iload_n 3, 1) by decide +kernel) (show decode code 268 = .ok (.iconst 1, 1) by decide +kernel) (show decode code 269 = .ok (.iadd, 1) by decide +kernel) (show decode code 270 = .ok (.iaload, 1) by decide +kernel) ?_
  refine lop (ad := adM) (n := 1) (idx := 46) (k := 0) (rest := [.int k]) C0 hl hS1 hP1 hD1 hMm hdm hfy (⟨tb3 (i := 152) rfl rfl, tb1 (i := 6) rfl rfl, ⟨by decide, by decide, by decide +kernel⟩, by decide, tb3 (i := 149) rfl rfl, tb3 (i := 150) rfl rfl, tb3 (i := 151) rfl rfl, F_M, 27, rfl⟩) rfl rfl (Nat.le_of_ble_eq_true rfl) (show decode code 271 = .ok (.invokevirtual 46, 3) by decide +kernel) (fun H2 locs2 hP2 hD2 hS2 => ?_)
  exact lv_icmp_eq (tgt := 490) hx hb (show decode code 274 = .ok (.if_icmp .eq 216, 3) by decide +kernel) rfl (fun _ => hN _ _ _ _ hJ1 ⟨hP2, hD2, hS2⟩) (fun h => absurd rfl h)
set_option maxHeartbeats 1000000 in
theorem lc_sure {X Y : List va_E} {H : Heap} {locs : List Loc} {la : Array Slot} {i : Nat} (C0 : LC p s m args meth c b L xs D tc) (O : LawOps l J) (hl : lv_has la 4 [(3, .int (nI i)), (2, .ref (adM 0)), (1, .ref (adX 20)), (0, .ref b)]) (hi : i + 4 ≤ L) (hJ : J X Y) (hI : lI tc adX adM D s X Y H locs) (hN : ∀ (X Y : List va_E) (H : Heap) (locs : List Loc), J X Y → lI tc adX adM D s X Y H locs → lW p l e s m args below meth c H locs Q 490 la []) : lW p l e s m args below meth c H locs Q 279 la [] := by
  obtain ⟨hP, hD, hS⟩ := hI
  have hx := C0.1
  have hb := C0.2.1
  have hl0 := lv_at hl 3 rfl
  obtain ⟨fx, hfx⟩ := O.1 X Y hJ
  obtain ⟨fy, hfy⟩ := O.2.1 X Y hJ
  obtain ⟨dx, dm, r, X1, Y1, ⟨hdx, hdm⟩, hMx, hMm, hJ1, hr⟩ := O.2.2.2.2.2.2.2.2.2.1 (xs (i + 1)) (xs (i + 2)) X Y hJ
  obtain ⟨k, rfl⟩ := hr
  refine lv_aload_n (k := 1) hx hb (show decode code 279 = .ok (.aload_n 1, 1) by decide +kernel) rfl (lv_at hl 2 rfl) ?_
  refine larg (k := 1) C0 hS hl hl0 (by omega) (show decode code 280 = .ok (.aload_n 0, 1) by decide +kernel) (show decode code 281 = .ok (.iload_n 3, 1) by decide +kernel) (show decode code 282 = .ok (.iconst 1, 1) by decide +kernel) (show decode code 283 = .ok (.iadd, 1) by decide +kernel) (show decode code 284 = .ok (.iaload, 1) by decide +kernel) ?_
  refine larg (k := 2) C0 hS hl hl0 (by omega) (show decode code 285 = .ok (.aload_n 0, 1) by decide +kernel) (show decode code 286 = .ok (.iload_n 3, 1) by decide +kernel) (show decode code 287 = .ok (.iconst 2, 1) by decide +kernel) (show decode code 288 = .ok (.iadd, 1) by decide +kernel) (show decode code 289 = .ok (.iaload, 1) by decide +kernel) ?_
  refine lop (ad := adX) (n := 2) (idx := 47) (k := 20) (rest := []) C0 hl hS hP hD hMx hdx hfx (⟨tb2 (i := 109) rfl rfl, tb1 (i := 1) rfl rfl, ⟨by decide, by decide, by decide +kernel⟩, by decide, tb2 (i := 106) rfl rfl, tb2 (i := 107) rfl rfl, tb2 (i := 108) rfl rfl, F_N, 5, rfl⟩) rfl rfl (Nat.le_of_ble_eq_true rfl) (show decode code 290 = .ok (.invokevirtual 47, 3) by decide +kernel) (fun H1 locs1 hP1 hD1 hS1 => ?_)
  refine lv_aload_n (k := 2) hx hb (show decode code 293 = .ok (.aload_n 2, 1) by decide +kernel) rfl (lv_at hl 1 rfl) ?_
  refine larg (k := 1) C0 hS1 hl hl0 (by omega) (show decode code 294 = .ok (.aload_n 0, 1) by decide +kernel) (show decode code 295 = .ok (.iload_n 3, 1) by decide +kernel) (show decode code 296 = .ok (.iconst 1, 1) by decide +kernel) (show decode code 297 = .ok (.iadd, 1) by decide +kernel) (show decode code 298 = .ok (.iaload, 1) by decide +kernel) ?_
  refine larg (k := 2) C0 hS1 hl hl0 (by omega) (show decode code 299 = .ok (.aload_n 0, 1) by decide +kernel) (show decode code 300 = .ok (.iload_n 3, 1) by decide +kernel) (show decode code 301 = .ok (.iconst 2, 1) by decide +kernel) (show decode code 302 = .ok (.iadd, 1) by decide +kernel) (show decode code 303 = .ok (.iaload, 1) by decide +kernel) ?_
  refine lop (ad := adM) (n := 2) (idx := 51) (k := 0) (rest := [.int k]) C0 hl hS1 hP1 hD1 hMm hdm hfy (⟨tb3 (i := 160) rfl rfl, tb1 (i := 6) rfl rfl, ⟨by decide, by decide, by decide +kernel⟩, by decide, tb3 (i := 157) rfl rfl, tb3 (i := 158) rfl rfl, tb3 (i := 159) rfl rfl, F_M, 27, rfl⟩) rfl rfl (Nat.le_of_ble_eq_true rfl) (show decode code 304 = .ok (.invokevirtual 51, 3) by decide +kernel) (fun H2 locs2 hP2 hD2 hS2 => ?_)
  exact lv_icmp_eq (tgt := 490) hx hb (show decode code 307 = .ok (.if_icmp .eq 183, 3) by decide +kernel) rfl (fun _ => hN _ _ _ _ hJ1 ⟨hP2, hD2, hS2⟩) (fun h => absurd rfl h)
set_option maxHeartbeats 1000000 in
theorem lc_linked {X Y : List va_E} {H : Heap} {locs : List Loc} {la : Array Slot} {i : Nat} (C0 : LC p s m args meth c b L xs D tc) (O : LawOps l J) (hl : lv_has la 4 [(3, .int (nI i)), (2, .ref (adM 0)), (1, .ref (adX 20)), (0, .ref b)]) (hi : i + 4 ≤ L) (hJ : J X Y) (hI : lI tc adX adM D s X Y H locs) (hN : ∀ (X Y : List va_E) (H : Heap) (locs : List Loc), J X Y → lI tc adX adM D s X Y H locs → lW p l e s m args below meth c H locs Q 490 la []) : lW p l e s m args below meth c H locs Q 312 la [] := by
  obtain ⟨hP, hD, hS⟩ := hI
  have hx := C0.1
  have hb := C0.2.1
  have hl0 := lv_at hl 3 rfl
  obtain ⟨fx, hfx⟩ := O.1 X Y hJ
  obtain ⟨fy, hfy⟩ := O.2.1 X Y hJ
  obtain ⟨dx, dm, r, X1, Y1, ⟨hdx, hdm⟩, hMx, hMm, hJ1, hr⟩ := O.2.2.2.2.2.2.2.2.2.2.1 (xs (i + 1)) (xs (i + 2)) X Y hJ
  obtain ⟨k, rfl⟩ := hr
  refine lv_aload_n (k := 1) hx hb (show decode code 312 = .ok (.aload_n 1, 1) by decide +kernel) rfl (lv_at hl 2 rfl) ?_
  refine larg (k := 1) C0 hS hl hl0 (by omega) (show decode code 313 = .ok (.aload_n 0, 1) by decide +kernel) (show decode code 314 = .ok (.iload_n 3, 1) by decide +kernel) (show decode code 315 = .ok (.iconst 1, 1) by decide +kernel) (show decode code 316 = .ok (.iadd, 1) by decide +kernel) (show decode code 317 = .ok (.iaload, 1) by decide +kernel) ?_
  refine larg (k := 2) C0 hS hl hl0 (by omega) (show decode code 318 = .ok (.aload_n 0, 1) by decide +kernel) (show decode code 319 = .ok (.iload_n 3, 1) by decide +kernel) (show decode code 320 = .ok (.iconst 2, 1) by decide +kernel) (show decode code 321 = .ok (.iadd, 1) by decide +kernel) (show decode code 322 = .ok (.iaload, 1) by decide +kernel) ?_
  refine lop (ad := adX) (n := 2) (idx := 52) (k := 20) (rest := []) C0 hl hS hP hD hMx hdx hfx (⟨tb2 (i := 118) rfl rfl, tb1 (i := 1) rfl rfl, ⟨by decide, by decide, by decide +kernel⟩, by decide, tb2 (i := 115) rfl rfl, tb2 (i := 116) rfl rfl, tb2 (i := 117) rfl rfl, F_N, 5, rfl⟩) rfl rfl (Nat.le_of_ble_eq_true rfl) (show decode code 323 = .ok (.invokevirtual 52, 3) by decide +kernel) (fun H1 locs1 hP1 hD1 hS1 => ?_)
  refine lv_aload_n (k := 2) hx hb (show decode code 326 = .ok (.aload_n 2, 1) by decide +kernel) rfl (lv_at hl 1 rfl) ?_
  refine larg (k := 1) C0 hS1 hl hl0 (by omega) (show decode code 327 = .ok (.aload_n 0, 1) by decide +kernel) (show decode code 328 = .ok (.iload_n 3, 1) by decide +kernel) (show decode code 329 = .ok (.iconst 1, 1) by decide +kernel) (show decode code 330 = .ok (.iadd, 1) by decide +kernel) (show decode code 331 = .ok (.iaload, 1) by decide +kernel) ?_
  refine larg (k := 2) C0 hS1 hl hl0 (by omega) (show decode code 332 = .ok (.aload_n 0, 1) by decide +kernel) (show decode code 333 = .ok (.iload_n 3, 1) by decide +kernel) (show decode code 334 = .ok (.iconst 2, 1) by decide +kernel) (show decode code 335 = .ok (.iadd, 1) by decide +kernel) (show decode code 336 = .ok (.iaload, 1) by decide +kernel) ?_
  refine lop (ad := adM) (n := 2) (idx := 56) (k := 0) (rest := [.int k]) C0 hl hS1 hP1 hD1 hMm hdm hfy (⟨tb3 (i := 164) rfl rfl, tb1 (i := 6) rfl rfl, ⟨by decide, by decide, by decide +kernel⟩, by decide, tb3 (i := 161) rfl rfl, tb3 (i := 162) rfl rfl, tb3 (i := 163) rfl rfl, F_M, 27, rfl⟩) rfl rfl (Nat.le_of_ble_eq_true rfl) (show decode code 337 = .ok (.invokevirtual 56, 3) by decide +kernel) (fun H2 locs2 hP2 hD2 hS2 => ?_)
  exact lv_icmp_eq (tgt := 490) hx hb (show decode code 340 = .ok (.if_icmp .eq 150, 3) by decide +kernel) rfl (fun _ => hN _ _ _ _ hJ1 ⟨hP2, hD2, hS2⟩) (fun h => absurd rfl h)
set_option maxHeartbeats 1000000 in
theorem lc_run {X Y : List va_E} {H : Heap} {locs : List Loc} {la : Array Slot} {i : Nat} (C0 : LC p s m args meth c b L xs D tc) (O : LawOps l J) (hl : lv_has la 4 [(3, .int (nI i)), (2, .ref (adM 0)), (1, .ref (adX 20)), (0, .ref b)]) (hi : i + 4 ≤ L) (hJ : J X Y) (hI : lI tc adX adM D s X Y H locs) (hN : ∀ (X Y : List va_E) (H : Heap) (locs : List Loc), J X Y → lI tc adX adM D s X Y H locs → lW p l e s m args below meth c H locs Q 490 la []) : lW p l e s m args below meth c H locs Q 345 la [] := by
  obtain ⟨hP, hD, hS⟩ := hI
  have hx := C0.1
  have hb := C0.2.1
  have hl0 := lv_at hl 3 rfl
  obtain ⟨fx, hfx⟩ := O.1 X Y hJ
  obtain ⟨fy, hfy⟩ := O.2.1 X Y hJ
  obtain ⟨dx, dm, r, X1, Y1, ⟨hdx, hdm⟩, hMx, hMm, hJ1, hr⟩ := O.2.2.2.2.2.2.2.2.2.2.2.1 (xs (i + 1)) (lLong (xs (i + 2)) (xs (i + 3))) X Y hJ
  obtain ⟨k, rfl⟩ := hr
  refine lv_aload_n (k := 1) hx hb (show decode code 345 = .ok (.aload_n 1, 1) by decide +kernel) rfl (lv_at hl 2 rfl) ?_
  refine larg (k := 1) C0 hS hl hl0 (by omega) (show decode code 346 = .ok (.aload_n 0, 1) by decide +kernel) (show decode code 347 = .ok (.iload_n 3, 1) by decide +kernel) (show decode code 348 = .ok (.iconst 1, 1) by decide +kernel) (show decode code 349 = .ok (.iadd, 1) by decide +kernel) (show decode code 350 = .ok (.iaload, 1) by decide +kernel) ?_
  refine llong (k := 2) C0 hS hl hl0 (by omega) (show decode code 351 = .ok (.aload_n 0, 1) by decide +kernel) (show decode code 352 = .ok (.iload_n 3, 1) by decide +kernel) (show decode code 353 = .ok (.iconst 2, 1) by decide +kernel) (show decode code 354 = .ok (.iadd, 1) by decide +kernel) (show decode code 355 = .ok (.iaload, 1) by decide +kernel) (show decode code 356 = .ok (.i2l, 1) by decide +kernel) (show decode code 357 = .ok (.bipush 32, 2) by decide +kernel) (show decode code 359 = .ok (.lshl, 1) by decide +kernel) (show decode code 360 = .ok (.aload_n 0, 1) by decide +kernel) (show decode code 361 = .ok (.iload_n 3, 1) by decide +kernel) (show decode code 362 = .ok (.iconst 3, 1) by decide +kernel) (show decode code 363 = .ok (.iadd, 1) by decide +kernel) (show decode code 364 = .ok (.iaload, 1) by decide +kernel) (show decode code 365 = .ok (.i2l, 1) by decide +kernel) (show decode code 366 = .ok (.ldc2_w 13, 3) by decide +kernel) (show decode code 369 = .ok (.land, 1) by decide +kernel) (show decode code 370 = .ok (.lor, 1) by decide +kernel) ?_
  refine lop (ad := adX) (n := 2) (idx := 57) (k := 20) (rest := []) C0 hl hS hP hD hMx hdx hfx (⟨tb2 (i := 126) rfl rfl, tb1 (i := 1) rfl rfl, ⟨by decide, by decide, by decide +kernel⟩, by decide, tb2 (i := 123) rfl rfl, tb2 (i := 124) rfl rfl, tb2 (i := 125) rfl rfl, F_N, 5, rfl⟩) rfl rfl (Nat.le_of_ble_eq_true rfl) (show decode code 371 = .ok (.invokevirtual 57, 3) by decide +kernel) (fun H1 locs1 hP1 hD1 hS1 => ?_)
  refine lv_aload_n (k := 2) hx hb (show decode code 374 = .ok (.aload_n 2, 1) by decide +kernel) rfl (lv_at hl 1 rfl) ?_
  refine larg (k := 1) C0 hS1 hl hl0 (by omega) (show decode code 375 = .ok (.aload_n 0, 1) by decide +kernel) (show decode code 376 = .ok (.iload_n 3, 1) by decide +kernel) (show decode code 377 = .ok (.iconst 1, 1) by decide +kernel) (show decode code 378 = .ok (.iadd, 1) by decide +kernel) (show decode code 379 = .ok (.iaload, 1) by decide +kernel) ?_
  refine llong (k := 2) C0 hS1 hl hl0 (by omega) (show decode code 380 = .ok (.aload_n 0, 1) by decide +kernel) (show decode code 381 = .ok (.iload_n 3, 1) by decide +kernel) (show decode code 382 = .ok (.iconst 2, 1) by decide +kernel) (show decode code 383 = .ok (.iadd, 1) by decide +kernel) (show decode code 384 = .ok (.iaload, 1) by decide +kernel) (show decode code 385 = .ok (.i2l, 1) by decide +kernel) (show decode code 386 = .ok (.bipush 32, 2) by decide +kernel) (show decode code 388 = .ok (.lshl, 1) by decide +kernel) (show decode code 389 = .ok (.aload_n 0, 1) by decide +kernel) (show decode code 390 = .ok (.iload_n 3, 1) by decide +kernel) (show decode code 391 = .ok (.iconst 3, 1) by decide +kernel) (show decode code 392 = .ok (.iadd, 1) by decide +kernel) (show decode code 393 = .ok (.iaload, 1) by decide +kernel) (show decode code 394 = .ok (.i2l, 1) by decide +kernel) (show decode code 395 = .ok (.ldc2_w 13, 3) by decide +kernel) (show decode code 398 = .ok (.land, 1) by decide +kernel) (show decode code 399 = .ok (.lor, 1) by decide +kernel) ?_
  refine lop (ad := adM) (n := 2) (idx := 61) (k := 0) (rest := [.int k]) C0 hl hS1 hP1 hD1 hMm hdm hfy (⟨tb3 (i := 168) rfl rfl, tb1 (i := 6) rfl rfl, ⟨by decide, by decide, by decide +kernel⟩, by decide, tb3 (i := 165) rfl rfl, tb3 (i := 166) rfl rfl, tb3 (i := 167) rfl rfl, F_M, 27, rfl⟩) rfl rfl (Nat.le_of_ble_eq_true rfl) (show decode code 400 = .ok (.invokevirtual 61, 3) by decide +kernel) (fun H2 locs2 hP2 hD2 hS2 => ?_)
  exact lv_icmp_eq (tgt := 490) hx hb (show decode code 403 = .ok (.if_icmp .eq 87, 3) by decide +kernel) rfl (fun _ => hN _ _ _ _ hJ1 ⟨hP2, hD2, hS2⟩) (fun h => absurd rfl h)
set_option maxHeartbeats 1000000 in
theorem lc_held {X Y : List va_E} {H : Heap} {locs : List Loc} {la : Array Slot} {i : Nat} (C0 : LC p s m args meth c b L xs D tc) (O : LawOps l J) (hl : lv_has la 4 [(3, .int (nI i)), (2, .ref (adM 0)), (1, .ref (adX 20)), (0, .ref b)]) (hi : i + 4 ≤ L) (hJ : J X Y) (hI : lI tc adX adM D s X Y H locs) (hN : ∀ (X Y : List va_E) (H : Heap) (locs : List Loc), J X Y → lI tc adX adM D s X Y H locs → lW p l e s m args below meth c H locs Q 490 la []) : lW p l e s m args below meth c H locs Q 408 la [] := by
  obtain ⟨hP, hD, hS⟩ := hI
  have hx := C0.1
  have hb := C0.2.1
  have hl0 := lv_at hl 3 rfl
  obtain ⟨fx, hfx⟩ := O.1 X Y hJ
  obtain ⟨fy, hfy⟩ := O.2.1 X Y hJ
  obtain ⟨dx, dm, r, X1, Y1, ⟨hdx, hdm⟩, hMx, hMm, hJ1, hr⟩ := O.2.2.2.2.2.2.2.2.2.2.2.2.1 (xs (i + 1)) X Y hJ
  obtain ⟨k, rfl⟩ := hr
  refine lv_aload_n (k := 1) hx hb (show decode code 408 = .ok (.aload_n 1, 1) by decide +kernel) rfl (lv_at hl 2 rfl) ?_
  refine larg (k := 1) C0 hS hl hl0 (by omega) (show decode code 409 = .ok (.aload_n 0, 1) by decide +kernel) (show decode code 410 = .ok (.iload_n 3, 1) by decide +kernel) (show decode code 411 = .ok (.iconst 1, 1) by decide +kernel) (show decode code 412 = .ok (.iadd, 1) by decide +kernel) (show decode code 413 = .ok (.iaload, 1) by decide +kernel) ?_
  refine lop (ad := adX) (n := 1) (idx := 62) (k := 20) (rest := []) C0 hl hS hP hD hMx hdx hfx (⟨tb2 (i := 181) rfl rfl, tb1 (i := 1) rfl rfl, ⟨by decide, by decide, by decide +kernel⟩, by decide, tb2 (i := 178) rfl rfl, tb2 (i := 179) rfl rfl, tb2 (i := 180) rfl rfl, F_N, 5, rfl⟩) rfl rfl (Nat.le_of_ble_eq_true rfl) (show decode code 414 = .ok (.invokevirtual 62, 3) by decide +kernel) (fun H1 locs1 hP1 hD1 hS1 => ?_)
  refine lv_aload_n (k := 2) hx hb (show decode code 417 = .ok (.aload_n 2, 1) by decide +kernel) rfl (lv_at hl 1 rfl) ?_
  refine larg (k := 1) C0 hS1 hl hl0 (by omega) (show decode code 418 = .ok (.aload_n 0, 1) by decide +kernel) (show decode code 419 = .ok (.iload_n 3, 1) by decide +kernel) (show decode code 420 = .ok (.iconst 1, 1) by decide +kernel) (show decode code 421 = .ok (.iadd, 1) by decide +kernel) (show decode code 422 = .ok (.iaload, 1) by decide +kernel) ?_
  refine lop (ad := adM) (n := 1) (idx := 65) (k := 0) (rest := [.int k]) C0 hl hS1 hP1 hD1 hMm hdm hfy (⟨tb3 (i := 200) rfl rfl, tb1 (i := 6) rfl rfl, ⟨by decide, by decide, by decide +kernel⟩, by decide, tb3 (i := 197) rfl rfl, tb3 (i := 198) rfl rfl, tb3 (i := 199) rfl rfl, F_M, 27, rfl⟩) rfl rfl (Nat.le_of_ble_eq_true rfl) (show decode code 423 = .ok (.invokevirtual 65, 3) by decide +kernel) (fun H2 locs2 hP2 hD2 hS2 => ?_)
  exact lv_icmp_eq (tgt := 490) hx hb (show decode code 426 = .ok (.if_icmp .eq 64, 3) by decide +kernel) rfl (fun _ => hN _ _ _ _ hJ1 ⟨hP2, hD2, hS2⟩) (fun h => absurd rfl h)
set_option maxHeartbeats 1000000 in
theorem lc_field {X Y : List va_E} {H : Heap} {locs : List Loc} {la : Array Slot} {i : Nat} (C0 : LC p s m args meth c b L xs D tc) (O : LawOps l J) (hl : lv_has la 4 [(3, .int (nI i)), (2, .ref (adM 0)), (1, .ref (adX 20)), (0, .ref b)]) (hi : i + 4 ≤ L) (hJ : J X Y) (hI : lI tc adX adM D s X Y H locs) (hN : ∀ (X Y : List va_E) (H : Heap) (locs : List Loc), J X Y → lI tc adX adM D s X Y H locs → lW p l e s m args below meth c H locs Q 490 la []) : lW p l e s m args below meth c H locs Q 431 la [] := by
  obtain ⟨hP, hD, hS⟩ := hI
  have hx := C0.1
  have hb := C0.2.1
  have hl0 := lv_at hl 3 rfl
  obtain ⟨fx, hfx⟩ := O.1 X Y hJ
  obtain ⟨fy, hfy⟩ := O.2.1 X Y hJ
  obtain ⟨dx, dm, r, X1, Y1, ⟨hdx, hdm⟩, hMx, hMm, hJ1, hr⟩ := O.2.2.2.2.2.2.2.2.2.2.2.2.2.1 (xs (i + 1)) (xs (i + 2)) X Y hJ
  obtain ⟨k, rfl⟩ := hr
  refine lv_aload_n (k := 1) hx hb (show decode code 431 = .ok (.aload_n 1, 1) by decide +kernel) rfl (lv_at hl 2 rfl) ?_
  refine larg (k := 1) C0 hS hl hl0 (by omega) (show decode code 432 = .ok (.aload_n 0, 1) by decide +kernel) (show decode code 433 = .ok (.iload_n 3, 1) by decide +kernel) (show decode code 434 = .ok (.iconst 1, 1) by decide +kernel) (show decode code 435 = .ok (.iadd, 1) by decide +kernel) (show decode code 436 = .ok (.iaload, 1) by decide +kernel) ?_
  refine larg (k := 2) C0 hS hl hl0 (by omega) (show decode code 437 = .ok (.aload_n 0, 1) by decide +kernel) (show decode code 438 = .ok (.iload_n 3, 1) by decide +kernel) (show decode code 439 = .ok (.iconst 2, 1) by decide +kernel) (show decode code 440 = .ok (.iadd, 1) by decide +kernel) (show decode code 441 = .ok (.iaload, 1) by decide +kernel) ?_
  refine lop (ad := adX) (n := 2) (idx := 66) (k := 20) (rest := []) C0 hl hS hP hD hMx hdx hfx (⟨tb2 (i := 185) rfl rfl, tb1 (i := 1) rfl rfl, ⟨by decide, by decide, by decide +kernel⟩, by decide, tb2 (i := 182) rfl rfl, tb2 (i := 183) rfl rfl, tb2 (i := 184) rfl rfl, F_N, 5, rfl⟩) rfl rfl (Nat.le_of_ble_eq_true rfl) (show decode code 442 = .ok (.invokevirtual 66, 3) by decide +kernel) (fun H1 locs1 hP1 hD1 hS1 => ?_)
  refine lv_aload_n (k := 2) hx hb (show decode code 445 = .ok (.aload_n 2, 1) by decide +kernel) rfl (lv_at hl 1 rfl) ?_
  refine larg (k := 1) C0 hS1 hl hl0 (by omega) (show decode code 446 = .ok (.aload_n 0, 1) by decide +kernel) (show decode code 447 = .ok (.iload_n 3, 1) by decide +kernel) (show decode code 448 = .ok (.iconst 1, 1) by decide +kernel) (show decode code 449 = .ok (.iadd, 1) by decide +kernel) (show decode code 450 = .ok (.iaload, 1) by decide +kernel) ?_
  refine larg (k := 2) C0 hS1 hl hl0 (by omega) (show decode code 451 = .ok (.aload_n 0, 1) by decide +kernel) (show decode code 452 = .ok (.iload_n 3, 1) by decide +kernel) (show decode code 453 = .ok (.iconst 2, 1) by decide +kernel) (show decode code 454 = .ok (.iadd, 1) by decide +kernel) (show decode code 455 = .ok (.iaload, 1) by decide +kernel) ?_
  refine lop (ad := adM) (n := 2) (idx := 69) (k := 0) (rest := [.int k]) C0 hl hS1 hP1 hD1 hMm hdm hfy (⟨tb3 (i := 204) rfl rfl, tb1 (i := 6) rfl rfl, ⟨by decide, by decide, by decide +kernel⟩, by decide, tb3 (i := 201) rfl rfl, tb3 (i := 202) rfl rfl, tb3 (i := 203) rfl rfl, F_M, 27, rfl⟩) rfl rfl (Nat.le_of_ble_eq_true rfl) (show decode code 456 = .ok (.invokevirtual 69, 3) by decide +kernel) (fun H2 locs2 hP2 hD2 hS2 => ?_)
  exact lv_icmp_eq (tgt := 490) hx hb (show decode code 459 = .ok (.if_icmp .eq 31, 3) by decide +kernel) rfl (fun _ => hN _ _ _ _ hJ1 ⟨hP2, hD2, hS2⟩) (fun h => absurd rfl h)
set_option maxHeartbeats 1000000 in
theorem lc_objects {X Y : List va_E} {H : Heap} {locs : List Loc} {la : Array Slot} {i : Nat} (C0 : LC p s m args meth c b L xs D tc) (O : LawOps l J) (hl : lv_has la 4 [(3, .int (nI i)), (2, .ref (adM 0)), (1, .ref (adX 20)), (0, .ref b)]) (hi : i + 4 ≤ L) (hJ : J X Y) (hI : lI tc adX adM D s X Y H locs) (hN : ∀ (X Y : List va_E) (H : Heap) (locs : List Loc), J X Y → lI tc adX adM D s X Y H locs → lW p l e s m args below meth c H locs Q 490 la []) : lW p l e s m args below meth c H locs Q 464 la [] := by
  obtain ⟨hP, hD, hS⟩ := hI
  have hx := C0.1
  have hb := C0.2.1
  have hl0 := lv_at hl 3 rfl
  obtain ⟨fx, hfx⟩ := O.1 X Y hJ
  obtain ⟨fy, hfy⟩ := O.2.1 X Y hJ
  obtain ⟨dx, dm, r, X1, Y1, ⟨hdx, hdm⟩, hMx, hMm, hJ1, hr⟩ := O.2.2.2.2.2.2.2.2.2.2.2.2.2.2.1  X Y hJ
  obtain ⟨k, rfl⟩ := hr
  refine lv_aload_n (k := 1) hx hb (show decode code 464 = .ok (.aload_n 1, 1) by decide +kernel) rfl (lv_at hl 2 rfl) ?_
  refine lop (ad := adX) (n := 0) (idx := 70) (k := 20) (rest := []) C0 hl hS hP hD hMx hdx hfx (⟨tb2 (i := 189) rfl rfl, tb1 (i := 1) rfl rfl, ⟨by decide, by decide, by decide +kernel⟩, by decide, tb2 (i := 186) rfl rfl, tb2 (i := 187) rfl rfl, tb2 (i := 188) rfl rfl, F_N, 5, rfl⟩) rfl rfl (Nat.le_of_ble_eq_true rfl) (show decode code 465 = .ok (.invokevirtual 70, 3) by decide +kernel) (fun H1 locs1 hP1 hD1 hS1 => ?_)
  refine lv_aload_n (k := 2) hx hb (show decode code 468 = .ok (.aload_n 2, 1) by decide +kernel) rfl (lv_at hl 1 rfl) ?_
  refine lop (ad := adM) (n := 0) (idx := 73) (k := 0) (rest := [.int k]) C0 hl hS1 hP1 hD1 hMm hdm hfy (⟨tb3 (i := 208) rfl rfl, tb1 (i := 6) rfl rfl, ⟨by decide, by decide, by decide +kernel⟩, by decide, tb3 (i := 205) rfl rfl, tb3 (i := 206) rfl rfl, tb3 (i := 207) rfl rfl, F_M, 27, rfl⟩) rfl rfl (Nat.le_of_ble_eq_true rfl) (show decode code 469 = .ok (.invokevirtual 73, 3) by decide +kernel) (fun H2 locs2 hP2 hD2 hS2 => ?_)
  exact lv_icmp_eq (tgt := 490) hx hb (show decode code 472 = .ok (.if_icmp .eq 18, 3) by decide +kernel) rfl (fun _ => hN _ _ _ _ hJ1 ⟨hP2, hD2, hS2⟩) (fun h => absurd rfl h)
set_option maxHeartbeats 1000000 in
theorem lc_steps {X Y : List va_E} {H : Heap} {locs : List Loc} {la : Array Slot} {i : Nat} (C0 : LC p s m args meth c b L xs D tc) (O : LawOps l J) (hl : lv_has la 4 [(3, .int (nI i)), (2, .ref (adM 0)), (1, .ref (adX 20)), (0, .ref b)]) (hi : i + 4 ≤ L) (hJ : J X Y) (hI : lI tc adX adM D s X Y H locs) (hN : ∀ (X Y : List va_E) (H : Heap) (locs : List Loc), J X Y → lI tc adX adM D s X Y H locs → lW p l e s m args below meth c H locs Q 490 la []) : lW p l e s m args below meth c H locs Q 477 la [] := by
  obtain ⟨hP, hD, hS⟩ := hI
  have hx := C0.1
  have hb := C0.2.1
  have hl0 := lv_at hl 3 rfl
  obtain ⟨fx, hfx⟩ := O.1 X Y hJ
  obtain ⟨fy, hfy⟩ := O.2.1 X Y hJ
  obtain ⟨dx, dm, r, X1, Y1, ⟨hdx, hdm⟩, hMx, hMm, hJ1, hr⟩ := O.2.2.2.2.2.2.2.2.2.2.2.2.2.2.2  X Y hJ
  obtain ⟨k, rfl⟩ := hr
  refine lv_aload_n (k := 1) hx hb (show decode code 477 = .ok (.aload_n 1, 1) by decide +kernel) rfl (lv_at hl 2 rfl) ?_
  refine lop (ad := adX) (n := 0) (idx := 74) (k := 20) (rest := []) C0 hl hS hP hD hMx hdx hfx (⟨tb2 (i := 193) rfl rfl, tb1 (i := 1) rfl rfl, ⟨by decide, by decide, by decide +kernel⟩, by decide, tb2 (i := 190) rfl rfl, tb2 (i := 191) rfl rfl, tb2 (i := 192) rfl rfl, F_N, 5, rfl⟩) rfl rfl (Nat.le_of_ble_eq_true rfl) (show decode code 478 = .ok (.invokevirtual 74, 3) by decide +kernel) (fun H1 locs1 hP1 hD1 hS1 => ?_)
  refine lv_aload_n (k := 2) hx hb (show decode code 481 = .ok (.aload_n 2, 1) by decide +kernel) rfl (lv_at hl 1 rfl) ?_
  refine lop (ad := adM) (n := 0) (idx := 77) (k := 0) (rest := [.int k]) C0 hl hS1 hP1 hD1 hMm hdm hfy (⟨tb3 (i := 212) rfl rfl, tb1 (i := 6) rfl rfl, ⟨by decide, by decide, by decide +kernel⟩, by decide, tb3 (i := 209) rfl rfl, tb3 (i := 210) rfl rfl, tb3 (i := 211) rfl rfl, F_M, 27, rfl⟩) rfl rfl (Nat.le_of_ble_eq_true rfl) (show decode code 482 = .ok (.invokevirtual 77, 3) by decide +kernel) (fun H2 locs2 hP2 hD2 hS2 => ?_)
  exact lv_icmp_eq (tgt := 490) hx hb (show decode code 485 = .ok (.if_icmp .eq 5, 3) by decide +kernel) rfl (fun _ => hN _ _ _ _ hJ1 ⟨hP2, hD2, hS2⟩) (fun h => absurd rfl h)
theorem lcmp {L i : Nat} (hL : L ≤ 2048) (hi : i ≤ 2052) : (Int32.ofNat L - 4 < nI i) ↔ L < i + 4 := by
  have h1 : (Int32.ofNat L - 4).toInt = (L : Int) - 4 := by
    rw [Int32.toInt_sub, show (Int32.ofNat L).toInt = (L : Int) from nI_toInt (by omega), show (4 : Int32).toInt = 4 from by decide]
    exact Int.bmod_eq_of_le (by omega) (by omega)
  rw [Int32.lt_iff_toInt_lt, h1, nI_toInt (by omega)]
  omega
theorem lsw : decode code 32 = .ok (.tableswitch 458 0 13 #[72, 125, 136, 149, 198, 211, 224, 247, 280, 313, 376, 399, 432, 445], 72) := by decide +kernel
set_option maxRecDepth 100000 in
set_option maxHeartbeats 2000000 in
theorem lloop (C0 : LC p s m #[Value.ref b] meth c b L xs D tc) (O : LawOps l J) : ∀ (n i : Nat), L ≤ i + n → i ≤ 2052 → ∀ (X Y : List va_E) (H : Heap) (locs : List Loc) (la : Array Slot), J X Y → lv_has la 4 [(3, .int (nI i)), (2, .ref (adM 0)), (1, .ref (adX 20)), (0, .ref b)] → lI tc adX adM D s X Y H locs → lW p l e s m #[Value.ref b] below meth c H locs (lw_Z below #[Value.ref b] s) 18 la [] := by
  intro n
  have hx := C0.1
  have hb := C0.2.1
  have hL := C0.2.2.2.2.2.2.2.2.2.2
  induction n with
  | zero => 
    intro i hn hi X Y H locs la hJ hl hI
    refine lv_iload_n (k := 3) hx hb (show decode code 18 = .ok (.iload_n 3, 1) by decide +kernel) rfl (lv_at hl 0 rfl) ?_
    refine lv_aload_n (k := 0) hx hb (show decode code 19 = .ok (.aload_n 0, 1) by decide +kernel) rfl (lv_at hl 3 rfl) ?_
    refine va_slen hx hb C0.2.2.2.2.2.2.1 C0.2.2.2.2.2.2.2.1 (fun h => absurd C0.2.2.2.2.2.2.2.1 (Nat.not_lt.mpr h)) hI.2.2 (show decode code 20 = .ok (.arraylength, 1) by decide +kernel) ?_
    refine lv_iconst (v := 4) hx hb (show decode code 21 = .ok (.iconst 4, 1) by decide +kernel) rfl ?_
    refine lv_isub hx hb (show decode code 22 = .ok (.isub, 1) by decide +kernel) ?_
    refine lv_icmp_gt (tgt := 496) hx hb (show decode code 23 = .ok (.if_icmp .gt 473, 3) by decide +kernel) rfl (fun h => ?_) (fun h => ?_)
    · refine va_forget (fun q hq => hI.2.2.2.2 q hq) ?_
      refine lv_iconst (v := 1) hx hb (show decode code 496 = .ok (.iconst 1, 1) by decide +kernel) rfl ?_
      exact lw_ret hx hb C0.2.2.1 C0.2.2.2.2.2.2.2.2.1 (show decode code 497 = .ok (.ireturn, 1) by decide +kernel)
    · rw [lcmp hL hi] at h
      omega
  | succ n ih => 
    intro i hn hi X Y H locs la hJ hl hI
    refine lv_iload_n (k := 3) hx hb (show decode code 18 = .ok (.iload_n 3, 1) by decide +kernel) rfl (lv_at hl 0 rfl) ?_
    refine lv_aload_n (k := 0) hx hb (show decode code 19 = .ok (.aload_n 0, 1) by decide +kernel) rfl (lv_at hl 3 rfl) ?_
    refine va_slen hx hb C0.2.2.2.2.2.2.1 C0.2.2.2.2.2.2.2.1 (fun h => absurd C0.2.2.2.2.2.2.2.1 (Nat.not_lt.mpr h)) hI.2.2 (show decode code 20 = .ok (.arraylength, 1) by decide +kernel) ?_
    refine lv_iconst (v := 4) hx hb (show decode code 21 = .ok (.iconst 4, 1) by decide +kernel) rfl ?_
    refine lv_isub hx hb (show decode code 22 = .ok (.isub, 1) by decide +kernel) ?_
    refine lv_icmp_gt (tgt := 496) hx hb (show decode code 23 = .ok (.if_icmp .gt 473, 3) by decide +kernel) rfl (fun h => ?_) (fun h => ?_)
    · refine va_forget (fun q hq => hI.2.2.2.2 q hq) ?_
      refine lv_iconst (v := 1) hx hb (show decode code 496 = .ok (.iconst 1, 1) by decide +kernel) rfl ?_
      exact lw_ret hx hb C0.2.2.1 C0.2.2.2.2.2.2.2.2.1 (show decode code 497 = .ok (.ireturn, 1) by decide +kernel)
    · rw [lcmp hL hi] at h
      have h4 : i + 4 ≤ L := by omega
      have hN : ∀ (X Y : List va_E) (H : Heap) (locs : List Loc), J X Y → lI tc adX adM D s X Y H locs → lW p l e s m #[Value.ref b] below meth c H locs (lw_Z below #[Value.ref b] s) 490 la [] := by
        intro X Y H locs hJ hI
        refine lv_iinc (k := 0) (v := nI (i + 4)) (lv' := [(3, .int (nI (i + 4))), (2, .ref (adM 0)), (1, .ref (adX 20)), (0, .ref b)]) hx hb (show decode code 490 = .ok (.iinc 3 4, 3) by decide +kernel) hl rfl (nI_add i 4) (by decide) rfl (fun la' hl' => ?_)
        exact lv_goto (tgt := 18) hx hb (show decode code 493 = .ok (.goto (-475), 3) by decide +kernel) rfl (ih (i + 4) (by omega) (by omega) X Y H locs la' hJ hl' hI)
      refine larg0 C0 hI.2.2 hl (lv_at hl 3 rfl) (by omega) (show decode code 26 = .ok (.aload_n 0, 1) by decide +kernel) (show decode code 27 = .ok (.iload_n 3, 1) by decide +kernel) (show decode code 28 = .ok (.iaload, 1) by decide +kernel) ?_
      refine lv_bipush (v := 15) hx hb (show decode code 29 = .ok (.bipush 15, 2) by decide +kernel) (by decide) ?_
      refine lv_iand hx hb (show decode code 31 = .ok (.iand, 1) by decide +kernel) ?_
      generalize xs i &&& 15 = x
      by_cases c0 : x.toInt = 0
      · exact lv_tableIn (tgt := 104) (off := 72) hx hb lsw (by omega) (by omega) (by rw [c0]; rfl) rfl (lc_type C0 O hl h4 hJ hI hN)
      by_cases c1 : x.toInt = 1
      · exact lv_tableIn (tgt := 157) (off := 125) hx hb lsw (by omega) (by omega) (by rw [c1]; rfl) rfl (lc_wipe C0 O hl h4 hJ hI hN)
      by_cases c2 : x.toInt = 2
      · exact lv_tableIn (tgt := 168) (off := 136) hx hb lsw (by omega) (by omega) (by rw [c2]; rfl) rfl (lc_length C0 O hl h4 hJ hI hN)
      by_cases c3 : x.toInt = 3
      · exact lv_tableIn (tgt := 181) (off := 149) hx hb lsw (by omega) (by omega) (by rw [c3]; rfl) rfl (lc_declare C0 O hl h4 hJ hI hN)
      by_cases c4 : x.toInt = 4
      · exact lv_tableIn (tgt := 230) (off := 198) hx hb lsw (by omega) (by omega) (by rw [c4]; rfl) rfl (lc_statements C0 O hl h4 hJ hI hN)
      by_cases c5 : x.toInt = 5
      · exact lv_tableIn (tgt := 243) (off := 211) hx hb lsw (by omega) (by omega) (by rw [c5]; rfl) rfl (lc_alarms C0 O hl h4 hJ hI hN)
      by_cases c6 : x.toInt = 6
      · exact lv_tableIn (tgt := 256) (off := 224) hx hb lsw (by omega) (by omega) (by rw [c6]; rfl) rfl (lc_alarm C0 O hl h4 hJ hI hN)
      by_cases c7 : x.toInt = 7
      · exact lv_tableIn (tgt := 279) (off := 247) hx hb lsw (by omega) (by omega) (by rw [c7]; rfl) rfl (lc_sure C0 O hl h4 hJ hI hN)
      by_cases c8 : x.toInt = 8
      · exact lv_tableIn (tgt := 312) (off := 280) hx hb lsw (by omega) (by omega) (by rw [c8]; rfl) rfl (lc_linked C0 O hl h4 hJ hI hN)
      by_cases c9 : x.toInt = 9
      · exact lv_tableIn (tgt := 345) (off := 313) hx hb lsw (by omega) (by omega) (by rw [c9]; rfl) rfl (lc_run C0 O hl h4 hJ hI hN)
      by_cases c10 : x.toInt = 10
      · exact lv_tableIn (tgt := 408) (off := 376) hx hb lsw (by omega) (by omega) (by rw [c10]; rfl) rfl (lc_held C0 O hl h4 hJ hI hN)
      by_cases c11 : x.toInt = 11
      · exact lv_tableIn (tgt := 431) (off := 399) hx hb lsw (by omega) (by omega) (by rw [c11]; rfl) rfl (lc_field C0 O hl h4 hJ hI hN)
      by_cases c12 : x.toInt = 12
      · exact lv_tableIn (tgt := 464) (off := 432) hx hb lsw (by omega) (by omega) (by rw [c12]; rfl) rfl (lc_objects C0 O hl h4 hJ hI hN)
      by_cases c13 : x.toInt = 13
      · exact lv_tableIn (tgt := 477) (off := 445) hx hb lsw (by omega) (by omega) (by rw [c13]; rfl) rfl (lc_steps C0 O hl h4 hJ hI hN)
      exact lv_tableOut (tgt := 490) hx hb lsw (by omega) rfl (hN X Y H locs hJ hI)
end Law2
end
section
/-! The law: from its entry to its loop -/
theorem ycallN {p : Program} {l : Launch} {e : Env} {R : Room} {s : State} {m : MethodId} {args : Array Value} {below : List Frame} {meth : Method} {c : Code} {H : Heap} {locs : List Loc} {Q : State → Prop} {D : va_G} {tc : Nat → ClassId} {A A1 : Nat → Prop} {pc b mc ms j : Nat} {la : Array Slot} {rest st0 : List Value} {w : List va_E} {cells slots : Nat}
    (hr : va_Run p l e R s m args below meth c H locs cells slots mc ms (F0 m pc la st0) rest (fun st oc t => ∃ ad : Nat → Nat, ad j = b ∧ oc = .returned none ∧ va_P D vwCl (xz tc ad 0 w) t.heap ∧ va_D A1 (xz tc ad 0 w) ∧ va_K D vwCl (xt tc) t ∧ va_F A1 st t) A1) (hS : va_S A s.heap H locs) (hA : ∀ q, A1 q → A q)
    (kk : ∀ (ad : Nat → Nat) (H1 : Heap) (locs1 : List Loc), ad j = b → va_P D vwCl (xz tc ad 0 w) H1 → va_D A1 (xz tc ad 0 w) → (∀ q, q < H.size → ¬ A1 q → H1[q]? = H[q]?) → va_S A s.heap H1 locs1 → W p l e R s m args below meth c H1 locs1 (cells + mc) (slots + ms) Q (F0 m (pc + 3) la rest)) : W p l e R s m args below meth c H locs cells slots Q (F0 m pc la st0) := by
  intro T hT X
  obtain ⟨v, st₀, t, T', L, h0, X', hL, e1, e2, ⟨ad, had, hv, hP', hD', -, hz, hk⟩, st⟩ := hr T hT X
  have hv : v = none := Outcome.returned.inj hv
  subst hv
  rw [h0] at hz hk
  rw [← e1] at hP'
  obtain ⟨t2, a1, b1⟩ := kk ad T'.heap (locs ++ L) had hP' hD' (fun q h1 h2 => by rw [e1]; exact hk q h1 h2)
    ⟨Nat.le_trans hS.1 (by rw [e1]; exact hz), fun q h1 h2 => by rw [e1, hk q (Nat.lt_of_lt_of_le h1 hS.1) (fun z => h2 (hA q z))]; exact hS.2.1 q h1 h2, fun q hq => by
      rcases List.mem_append.mp hq with h | h
      · exact hS.2.2 q h
      · exact hA _ (hL q h)⟩ T' rfl X'
  exact ⟨t2, st t2 a1, b1⟩
theorem yarr {args : Array Value} {s : State} {ty : FieldType} (hty : ∀ C, ty ≠ .object C) (h : (Cond.arrayClass ty).before args s = true) : ∃ c : ClassId, ArrOfT s c ty ∧ va_RA s c ty := by
  obtain ⟨c, k, comp, h1, h2, h3⟩ := Cond.arrayClass_spec h
  refine ⟨c, fun n z => ⟨fun k h => (by cases h), k, h2, comp, h3⟩, ?_⟩
  cases ty with
  | object C => exact absurd rfl (hty C)
  | _ => exact h1
set_option maxHeartbeats 1000000 in
theorem yK {args : Array Value} {s : State} (hts : ∀ w ∈ wsG, w.before args s = true) : ∃ (D : va_G) (tc : Nat → ClassId), va_K D vwCl (xt tc) s := by
  obtain ⟨cP, iP, hP⟩ := u_known hts u_P (hts _ (tb1 (i := 17) rfl rfl))
  obtain ⟨cK, iK, hK⟩ := u_known hts u_K (hts _ (tb1 (i := 157) rfl rfl))
  obtain ⟨cH, iH, hH⟩ := u_known hts u_H (hts _ (tb1 (i := 180) rfl rfl))
  obtain ⟨cN, iN, hN⟩ := u_known hts u_N (hts _ (tb1 (i := 9) rfl rfl))
  obtain ⟨cM, iM, hM⟩ := u_known hts u_M (hts _ (tb2 (i := 195) rfl rfl))
  obtain ⟨t0, ht0⟩ := yarr (fun C h => by cases h) (hts _ (tb1 (i := 155) rfl rfl))
  obtain ⟨t1, ht1⟩ := yarr (fun C h => by cases h) (hts _ (tb1 (i := 154) rfl rfl))
  obtain ⟨t2, ht2⟩ := yarr (fun C h => by cases h) (hts _ (tb3 (i := 41) rfl rfl))
  refine ⟨(fun | 0 => cP | 1 => cK | 2 => cH | 3 => cN | _ => cM, fun | 0 => iP | 1 => iK | 2 => iH | 3 => iN | _ => iM), (fun | 0 => t0 | 1 => t1 | _ => t2), ?_, ?_⟩
  · intro k q hq
    match k, hq with
    | 0, hq => cases hq; exact hP
    | 1, hq => cases hq; exact hK
    | 2, hq => cases hq; exact hH
    | 3, hq => cases hq; exact hN
    | 4, hq => cases hq; exact hM
    | k + 5, hq => cases hq
  · intro k q hq
    match k, hq with
    | 0, hq => cases hq; exact ht0
    | 1, hq => cases hq; exact ht1
    | 2, hq => cases hq; exact ht2
    | k + 3, hq => cases hq
set_option maxRecDepth 100000 in
set_option maxHeartbeats 4000000 in
theorem law_start {p : Program} {e : Env} {s : State} {m : MethodId} {below : List Frame} {meth : Method} {c : Code} (l : Launch) {b L : Nat} {xs : Nat → Int32} (J : List va_E → List va_E → Prop) (O : LawOps l J) (hJ0 : J (wA zI s0 m0 (-1) 0 0 0) (vM (fun _ _ => 0) 0)) (hL : L ≤ 2048) (C0 : lw_At p s m meth c b L xs) : W p l e room_1 s m #[Value.ref b] below meth c s.heap [] 0 0 (lw_Z below #[Value.ref b] s) (entryFrame m ([Value.ref b] : List Value).toArray 4) := by
  obtain ⟨hx, hb, hr, hml, hown, hts0, hX, hbl, hlocks, -⟩ := C0
  have hts : ∀ w ∈ wsG, w.before #[Value.ref b] s = true := fun w h => hts0 w (List.mem_filter.mp h).1
  replace hown : s.vm.findClass "NullGuardLaw" = some m.cls := hown
  obtain ⟨D, tc, hK⟩ := yK hts
  have hNw : va_Nw (Cond.methodLinkNest "NullGuard" 18 q_K_init.1 "NullGuard") s := va_Nw.of rfl (hts0 _ (show _ ∈ lw_tbl from List.mem_append_right _ (List.mem_append_left _ (List.mem_of_getElem? (i := 158) rfl))))
  have hl := lv_entry ([.ref b]) (n := 4) (Nat.le_of_ble_eq_true rfl)
  rw [lg_entry_eq]
  generalize (lg_sl ([.ref b]) ++ List.replicate (4 - (lg_sl ([.ref b])).length) Slot.unset).toArray = la at hl ⊢
  have hl : lv_has la 4 [(0, .ref b)] := hl
  have hP : va_P D vwCl [] s.heap := fun k q h => by cases h
  have hD : va_D (lA s) [] := ⟨fun i j x y h => by (cases h), fun k q h => by (cases h)⟩
  have hS : va_S (lA s) s.heap s.heap [] := va_S.rf
  refine va_new (ci := 3) (fs := [.null, .null, .null, .int 0, .int 0]) (C := R_N) (T := F_N) (N := 5) hx hb hts u_N t_N t_N_ok hown (hts _ (tb1 (i := 8) rfl rfl)) (hts _ (tb1 (i := 9) rfl rfl)) (hts _ (tb1 (i := 1) rfl rfl)) hK hP hD hS (fun q h => h) rfl (fun j hj => by have hj : j < 5 := hj; match j, hj with | 0, _ => rfl | 1, _ => rfl | 2, _ => rfl | 3, _ => rfl | 4, _ => rfl | j + 5, hj => exact absurd hj (by omega)) (by decide) (by decide) (show decode code 0 = .ok (.new 7, 3) by decide +kernel) (fun q1 H hP hD hS => ?_)
  replace hP : va_P D vwCl [(q1, .inr (3, [.null, .null, .null, .int 0, .int 0]))] H := hP
  replace hD : va_D (lA s) [(q1, .inr (3, [.null, .null, .null, .int 0, .int 0]))] := hD
  refine lv_dup hx hb (show decode code 3 = .ok (.dup, 1) by decide +kernel) rfl ?_
  have hF : ∀ q, va_A [(q1, .inr (3, [.null, .null, .null, .int 0, .int 0]))] H.size q → lA s q := fun q h => h.elim (fun ⟨k, e, he⟩ => hD.2 k (q, e) he) (fun h => Nat.le_trans hS.1 h)
  refine ycallN (A := lA s) (j := 20) (va_runI (As := []) (rest := [.ref q1]) (b := q1) ⟨hx, hb, hml, hown, hts⟩ (c_N_init l D tc q1 H.size) ⟨callB_of (R := room_1) (rm := { frames := 7, cells := 20, slots := 781, locals := 280 }) (ws' := wsG) 0 hts (ygood (tb1 (i := 12) rfl rfl)) rfl rfl rfl (hts _ (tb1 (i := 1) rfl rfl)) (hts _ (tb1 (i := 10) rfl rfl)) ⟨by decide, by decide, by decide +kernel⟩ ⟨by decide, by decide⟩, rfl, hts _ (tb1 (i := 11) rfl rfl)⟩ ⟨fun a U g mk q => ⟨q.1, ⟨q.2.1.1, q.2.1.2.1, va_K.moved (u := U) (U := U.calling g mk a) (Vm.Alike.refl U.vm) q.2.1.2.2.1, q.2.1.2.2.2⟩, va_Nw.same rfl rfl q.2.2⟩, fun U hU hW => ⟨rfl, ⟨by rw [hU], by rw [hU]; exact hP, va_K.moved hW.alike hK, hD.weaken (fun _ _ _ _ => trivial)⟩, va_Nw.warmM hW hNw⟩⟩ rfl rfl hl.1 rfl (lv_room (Nat.le_of_ble_eq_true rfl)) (show decode code 4 = .ok (.invokespecial 9, 3) by decide +kernel) ⟨by decide, by decide⟩) hS hF (fun ad1 H1 locs1 had hP1 hD1 hk hS1 => ?_)
  replace hD1 := hD1.weaken (fun k q _ h => hF q.1 h)
  clear hP hD hF hk hS
  subst had
  have hP := hP1
  have hD := hD1
  have hS := hS1
  clear hP1 hD1 hS1
  refine lv_astore_n (k := 1) (lv' := [(1, .ref (ad1 20)), (0, .ref b)]) hx hb (show decode code 7 = .ok (.astore_n 1, 1) by decide +kernel) rfl hl (by decide) rfl (fun la hl => ?_)
  refine va_new (ci := 4) (fs := [.null, .int 0, .null, .null, .null, .null, .null, .null, .int 0, .int 0, .null, .null, .null, .null, .null, .int 0, .int 0, .int 0, .int 0, .int 0, .null, .int 0, .null, .null, .int 0, .long 0, .int 0]) (C := R_M) (T := F_M) (N := 27) hx hb hts u_M t_M t_M_ok hown (hts _ (tb2 (i := 194) rfl rfl)) (hts _ (tb2 (i := 195) rfl rfl)) (hts _ (tb1 (i := 6) rfl rfl)) hK hP hD hS (fun q h => h) rfl (fun j hj => by have hj : j < 27 := hj; match j, hj with | 0, _ => rfl | 1, _ => rfl | 2, _ => rfl | 3, _ => rfl | 4, _ => rfl | 5, _ => rfl | 6, _ => rfl | 7, _ => rfl | 8, _ => rfl | 9, _ => rfl | 10, _ => rfl | 11, _ => rfl | 12, _ => rfl | 13, _ => rfl | 14, _ => rfl | 15, _ => rfl | 16, _ => rfl | 17, _ => rfl | 18, _ => rfl | 19, _ => rfl | 20, _ => rfl | 21, _ => rfl | 22, _ => rfl | 23, _ => rfl | 24, _ => rfl | 25, _ => rfl | 26, _ => rfl | j + 27, hj => exact absurd hj (by omega)) (by decide) (by decide) (show decode code 8 = .ok (.new 10, 3) by decide +kernel) (fun q2 H hP hD hS => ?_)
  refine lv_dup hx hb (show decode code 11 = .ok (.dup, 1) by decide +kernel) rfl ?_
  have hPs : va_P D vwCl [(q2, .inr (4, [.null, .int 0, .null, .null, .null, .null, .null, .null, .int 0, .int 0, .null, .null, .null, .null, .null, .int 0, .int 0, .int 0, .int 0, .int 0, .null, .int 0, .null, .null, .int 0, .long 0, .int 0]))] H := hP.sub [21] rfl
  have hDs : va_D (lA s) [(q2, .inr (4, [.null, .int 0, .null, .null, .null, .null, .null, .null, .int 0, .int 0, .null, .null, .null, .null, .null, .int 0, .int 0, .int 0, .int 0, .int 0, .null, .int 0, .null, .null, .int 0, .long 0, .int 0]))] := hD.sub [21] rfl rfl
  have hF : ∀ q, va_A [(q2, .inr (4, [.null, .int 0, .null, .null, .null, .null, .null, .null, .int 0, .int 0, .null, .null, .null, .null, .null, .int 0, .int 0, .int 0, .int 0, .int 0, .null, .int 0, .null, .null, .int 0, .long 0, .int 0]))] H.size q → lA s q := fun q h => h.elim (fun ⟨k, e, he⟩ => hDs.2 k (q, e) he) (fun h => Nat.le_trans hS.1 h)
  refine ycall (A := lA s) (va_runI (As := []) (rest := [.ref q2]) (b := q2) ⟨hx, hb, hml, hown, hts⟩ (c_M_init l D tc q2 H.size) ⟨callB_of (R := room_1) (rm := { frames := 1, cells := 15, slots := 681, locals := 40 }) (ws' := wsG) 0 hts (ygood (tb2 (i := 198) rfl rfl)) rfl rfl rfl (hts _ (tb1 (i := 6) rfl rfl)) (hts _ (tb2 (i := 196) rfl rfl)) ⟨by decide, by decide, by decide +kernel⟩ ⟨by decide, by decide⟩, rfl, hts _ (tb2 (i := 197) rfl rfl)⟩ ⟨yblind, ypre hK hPs hDs⟩ rfl rfl hl.1 rfl (lv_room (Nat.le_of_ble_eq_true rfl)) (show decode code 12 = .ok (.invokespecial 12, 3) by decide +kernel) ⟨by decide, by decide⟩) hS hF (fun ad2 H1 locs1 had hP1 hD1 hk hS1 => ?_)
  have hJ := va_join (wr := xz tc ad1 0 (wA zI s0 m0 (-1) 0 0 0)) hP hD [21] [0, 1, 2, 3, 4, 5, 6, 7, 8, 9, 10, 11, 12, 13, 14, 15, 16, 17, 18, 19, 20] rfl rfl rfl (by decide) hk hF hP1 hD1
  clear hP hD hPs hDs hF hk hP1 hD1 hS
  subst had
  refine lv_astore_n (k := 2) (lv' := [(2, .ref (ad2 0)), (1, .ref (ad1 20)), (0, .ref b)]) hx hb (show decode code 15 = .ok (.astore_n 2, 1) by decide +kernel) rfl hl (by decide) rfl (fun la hl => ?_)
  refine lv_iconst (v := nI 0) hx hb (show decode code 16 = .ok (.iconst 0, 1) by decide +kernel) rfl ?_
  refine lv_istore_n (k := 3) (lv' := [(3, .int (nI 0)), (2, .ref (ad2 0)), (1, .ref (ad1 20)), (0, .ref b)]) hx hb (show decode code 17 = .ok (.istore_n 3, 1) by decide +kernel) rfl hl (by decide) rfl (fun la hl => ?_)
  exact lloop (p := p) (e := e) (below := below) (J := J) (adX := ad1) (adM := ad2) ⟨hx, hb, hr, hml, hown, hts, hX, hbl, hlocks, hK, hL⟩ O L 0 (by omega) (by omega) (wA zI s0 m0 (-1) 0 0 0) (vM (fun _ _ => 0) 0) H1 locs1 la hJ0 hl ⟨hJ.1, hJ.2, hS1⟩
end
section
/-! The pure part: letters, parts of names, atoms -/
theorem lcP_cases {x : Int32} (h : lcP x) : x = 97 ∨ x = 98 ∨ x = 99 ∨ x = 100 ∨ x = 101 := by
  obtain ⟨h1, h2⟩ := h
  rw [Int32.le_iff_toInt_le] at h1 h2
  have e1 : (97 : Int32).toInt = 97 := by decide
  have e2 : (101 : Int32).toInt = 101 := by decide
  rw [e1] at h1; rw [e2] at h2
  have : x.toInt = 97 ∨ x.toInt = 98 ∨ x.toInt = 99 ∨ x.toInt = 100 ∨ x.toInt = 101 := by omega
  rcases this with h | h | h | h | h
  · exact Or.inl (Int32.toInt_inj.mp (h.trans (by decide)))
  · exact Or.inr (Or.inl (Int32.toInt_inj.mp (h.trans (by decide))))
  · exact Or.inr (Or.inr (Or.inl (Int32.toInt_inj.mp (h.trans (by decide)))))
  · exact Or.inr (Or.inr (Or.inr (Or.inl (Int32.toInt_inj.mp (h.trans (by decide))))))
  · exact Or.inr (Or.inr (Or.inr (Or.inr (Int32.toInt_inj.mp (h.trans (by decide))))))
theorem lcP_ne {x y : Int32} (h : lcP x) (hy : ¬ lcP y) : ¬ x = y := fun e => hy (e ▸ h)
theorem lcI_lc {x : Int32} (h : lcP x) : lcI x = x - 97 ∧ ¬ lcI x = -1 := by
  have e : lcI x = x - 97 := if_pos h
  refine ⟨e, ?_⟩
  rw [e]
  rcases lcP_cases h with h | h | h | h | h <;> rw [h] <;> decide
theorem lcI_n {x : Int32} (h : ¬ lcP x) : lcI x = -1 := if_neg h
theorem lcP_nat {x : Int32} (h : lcP x) : ∃ j, j < 5 ∧ x - 97 = nI j := by
  rcases lcP_cases h with h | h | h | h | h <;> rw [h]
  · exact ⟨0, by decide, by decide⟩
  · exact ⟨1, by decide, by decide⟩
  · exact ⟨2, by decide, by decide⟩
  · exact ⟨3, by decide, by decide⟩
  · exact ⟨4, by decide, by decide⟩
theorem fPart_cases (c : Nat → Int32) (k : Nat) : (fPart c k = -1 ∧ (¬ lcP (c k) ∨ (lcP (c k) ∧ c (k + 1) = 46 ∧ ¬ c (k + 2) = 103 ∧ ¬ c (k + 2) = 104))) ∨ (fPart c k = 0 ∧ lcP (c k) ∧ ¬ c (k + 1) = 46) ∨ (fPart c k = 1 ∧ lcP (c k) ∧ c (k + 1) = 46 ∧ c (k + 2) = 103) ∨ (fPart c k = 2 ∧ lcP (c k) ∧ c (k + 1) = 46 ∧ c (k + 2) = 104) := by
  unfold fPart
  by_cases h : lcP (c k)
  · rw [if_neg (lcI_lc h).2]
    by_cases h1 : c (k + 1) = 46
    · rw [if_pos h1]
      by_cases h2 : c (k + 2) = 103
      · rw [if_pos h2]; exact Or.inr (Or.inr (Or.inl ⟨rfl, h, h1, h2⟩))
      · rw [if_neg h2]
        by_cases h3 : c (k + 2) = 104
        · rw [if_pos h3]; exact Or.inr (Or.inr (Or.inr ⟨rfl, h, h1, h3⟩))
        · rw [if_neg h3]; exact Or.inl ⟨rfl, Or.inr ⟨h, h1, h2, h3⟩⟩
    · rw [if_neg h1]; exact Or.inr (Or.inl ⟨rfl, h, h1⟩)
  · rw [if_pos (lcI_n h)]; exact Or.inl ⟨rfl, Or.inl h⟩
theorem fBeh_0 (i : Nat) : fBeh i 0 = i + 1 := if_neg (by decide)
theorem fBeh_1 (i : Nat) : fBeh i 1 = i + 3 := if_pos (by decide)
theorem fBeh_2 (i : Nat) : fBeh i 2 = i + 3 := if_pos (by decide)
/-- a name or a field, read alike -/
theorem mE_some {c : Nat → Int32} {k : Nat} (h : ¬ fPart c k = -1) : mE c k = some (fBeh k (fPart c k)) ∧ lcP (c k) ∧ (fPart c k = 0 ↔ ¬ fdP c (k + 1)) := by
  unfold mE
  rcases fPart_cases c k with ⟨h1, h2⟩ | ⟨h1, h2, h3⟩ | ⟨h1, h2, h3, h4⟩ | ⟨h1, h2, h3, h4⟩
  · exact absurd h1 h
  · have hf : ¬ fdP c (k + 1) := fun q => h3 q.1
    rw [h1, fBeh_0, if_pos h2, if_neg hf]
    exact ⟨rfl, h2, fun _ => hf, fun _ => rfl⟩
  · have hf : fdP c (k + 1) := ⟨h3, Or.inl h4⟩
    rw [h1, fBeh_1, if_pos h2, if_pos hf]
    exact ⟨rfl, h2, fun q => absurd q (by decide), fun q => absurd hf q⟩
  · have hf : fdP c (k + 1) := ⟨h3, Or.inr h4⟩
    rw [h1, fBeh_2, if_pos h2, if_pos hf]
    exact ⟨rfl, h2, fun q => absurd q (by decide), fun q => absurd hf q⟩
theorem mE_none {c : Nat → Int32} {k : Nat} (h : fPart c k = -1) : mE c k = none ∨ ∃ j, mE c k = some j ∧ c j = 46 := by
  unfold mE
  rcases fPart_cases c k with ⟨h1, h2 | h2⟩ | ⟨h1, h2, h3⟩ | ⟨h1, h2, h3, h4⟩ | ⟨h1, h2, h3, h4⟩
  · exact Or.inl (if_neg h2)
  · right
    have hf : ¬ fdP c (k + 1) := fun q => q.2.elim h2.2.2.1 h2.2.2.2
    rw [if_pos h2.1, if_neg hf]
    exact ⟨k + 1, rfl, h2.2.1⟩
  · rw [h1] at h; exact absurd h (by decide)
  · rw [h1] at h; exact absurd h (by decide)
  · rw [h1] at h; exact absurd h (by decide)
/-- letters that stand inside names and fields -/
def plain (x : Int32) : Prop := ¬ x = 0 ∧ ¬ x = 38 ∧ ¬ x = 124 ∧ ¬ x = 125 ∧ ¬ x = 123 ∧ ¬ x = 59
theorem plain_lc {x : Int32} (h : lcP x) : plain x := by
  unfold plain
  rcases lcP_cases h with h | h | h | h | h <;> rw [h] <;> decide
theorem part_plain {c : Nat → Int32} {k : Nat} (h : ¬ fPart c k = -1) : ∀ p, k ≤ p → p < fBeh k (fPart c k) → plain (c p) := by
  intro p hp hq
  rcases fPart_cases c k with ⟨h1, h2⟩ | ⟨h1, h2, h3⟩ | ⟨h1, h2, h3, h4⟩ | ⟨h1, h2, h3, h4⟩
  · exact absurd h1 h
  · rw [h1, fBeh_0] at hq
    rw [show p = k by omega]; exact plain_lc h2
  · rw [h1, fBeh_1] at hq
    rcases (show p = k ∨ p = k + 1 ∨ p = k + 2 by omega) with e | e | e <;> rw [e]
    · exact plain_lc h2
    · rw [h3]; unfold plain; decide
    · rw [h4]; unfold plain; decide
  · rw [h1, fBeh_2] at hq
    rcases (show p = k ∨ p = k + 1 ∨ p = k + 2 by omega) with e | e | e <;> rw [e]
    · exact plain_lc h2
    · rw [h3]; unfold plain; decide
    · rw [h4]; unfold plain; decide
theorem fBeh_lt (i : Nat) (k : Int32) : i < fBeh i k ∧ fBeh i k ≤ i + 3 := by
  unfold fBeh
  split <;> omega
theorem aNm_le (c : Nat → Int32) (i : Nat) : i ≤ aNm c i ∧ aNm c i ≤ i + 1 := by
  unfold aNm
  split <;> omega
/-- atoms, read alike -/
theorem atm_some {c : Nat → Int32} {i j : Nat} (h : aEnd c i = some j) : mAtm c i = some j ∧ i < j ∧ (∀ p, i ≤ p → p < j → plain (c p)) ∧ ((c i = 37 ∧ j = i + 1) ∨ (¬ c i = 37 ∧ ¬ fPart c (aNm c i) = -1 ∧ lcP (c (aNm c i)) ∧ j = fBeh (aNm c i) (fPart c (aNm c i)))) := by
  unfold aEnd at h
  unfold mAtm
  by_cases h1 : c i = 37
  · rw [if_pos h1] at h ⊢
    have h := Option.some.inj h
    subst h
    refine ⟨rfl, by omega, fun p h2 h3 => ?_, Or.inl ⟨h1, rfl⟩⟩
    rw [show p = i by omega, h1]; unfold plain; decide
  · rw [if_neg h1] at h ⊢
    by_cases h2 : fPart c (aNm c i) = -1
    · rw [if_pos h2] at h; cases h
    · rw [if_neg h2] at h
      have h := Option.some.inj h
      subst h
      obtain ⟨e1, e2, -⟩ := mE_some h2
      have a1 := aNm_le c i
      have a2 := fBeh_lt (aNm c i) (fPart c (aNm c i))
      refine ⟨e1, by omega, fun p h3 h4 => ?_, Or.inr ⟨h1, h2, e2, rfl⟩⟩
      by_cases h5 : aNm c i ≤ p
      · exact part_plain h2 p h5 h4
      · have h6 : aNm c i = i + 1 := by omega
        have h7 : c i = 126 := by
          unfold aNm at h6
          by_cases h8 : c i = 126
          · exact h8
          · rw [if_neg h8] at h6; omega
        rw [show p = i by omega, h7]; unfold plain; decide
theorem atm_none {c : Nat → Int32} {i : Nat} (h : aEnd c i = none) : mAtm c i = none ∨ ∃ j, mAtm c i = some j ∧ c j = 46 := by
  unfold aEnd at h
  unfold mAtm
  by_cases h1 : c i = 37
  · rw [if_pos h1] at h; cases h
  · rw [if_neg h1] at h ⊢
    by_cases h2 : fPart c (aNm c i) = -1
    · exact mE_none h2
    · rw [if_neg h2] at h; cases h
/-- a chain of atoms from a to the brace at o -/
def Ch (c : Nat → Int32) : Nat → Nat → Nat → Prop
  | 0, _, _ => False
  | f + 1, a, o => ∃ j, aEnd c a = some j ∧ ((j = o ∧ c o = 123) ∨ ((c j = 38 ∨ c j = 124) ∧ Ch c f (j + 1) o))
def Cm (c : Nat → Int32) : Nat → Nat → Nat → Prop
  | 0, _, _ => False
  | f + 1, a, q => q = a ∨ ∃ j, aEnd c a = some j ∧ (c j = 38 ∨ c j = 124) ∧ Cm c f (j + 1) q
theorem Ch_lt {c : Nat → Int32} : ∀ (f a o : Nat), Ch c f a o → a < o ∧ c o = 123
  | 0, _, _, h => h.elim
  | f + 1, a, o, ⟨j, h1, h2⟩ => by
    have h3 := (atm_some h1).2.1
    rcases h2 with ⟨h4, h5⟩ | ⟨h4, h5⟩
    · exact ⟨by omega, h5⟩
    · have := Ch_lt f (j + 1) o h5
      exact ⟨by omega, this.2⟩
/-- what a chain's letters are not -/
def semi (x : Int32) : Prop := ¬ x = 0 ∧ ¬ x = 125 ∧ ¬ x = 123 ∧ ¬ x = 59
theorem semi_p {x : Int32} (h : plain x) : semi x := ⟨h.1, h.2.2.2.1, h.2.2.2.2.1, h.2.2.2.2.2⟩
theorem Ch_semi {c : Nat → Int32} : ∀ (f a o : Nat), Ch c f a o → ∀ p, a ≤ p → p < o → semi (c p)
  | 0, _, _, h => h.elim
  | f + 1, a, o, ⟨j, h1, h2⟩ => by
    intro p hp hq
    obtain ⟨-, h3, h4, -⟩ := atm_some h1
    rcases h2 with ⟨h5, h6⟩ | ⟨h5, h6⟩
    · exact semi_p (h4 p hp (by omega))
    · by_cases h7 : p < j
      · exact semi_p (h4 p hp h7)
      · by_cases h8 : p = j
        · rw [h8]; rcases h5 with h | h <;> rw [h] <;> (unfold semi; decide)
        · exact Ch_semi f (j + 1) o h6 p (by omega) hq
theorem Cm_in {c : Nat → Int32} : ∀ (f a o q : Nat), Ch c f a o → Cm c f a q → a ≤ q ∧ q < o
  | 0, _, _, _, h, _ => h.elim
  | f + 1, a, o, q, ⟨j, h1, h2⟩, hm => by
    have h3 := (atm_some h1).2.1
    have h4 := Ch_lt (f + 1) a o ⟨j, h1, h2⟩
    rcases hm with rfl | ⟨j', h5, h6, h7⟩
    · omega
    · have e : j' = j := Option.some.inj (h5.symm.trans h1)
      subst e
      rcases h2 with ⟨h8, h9⟩ | ⟨h8, h9⟩
      · rw [h8] at h6; rw [h9] at h6; exact absurd h6 (by decide)
      · have := Cm_in f (j' + 1) o q h9 h7
        omega
theorem Cm_a {c : Nat → Int32} {f a o : Nat} (h : Ch c f a o) : Cm c f a a := by
  cases f with
  | zero => exact h.elim
  | succ f => exact Or.inl rfl
theorem Cm_atm {c : Nat → Int32} : ∀ (f a o q : Nat), Ch c f a o → Cm c f a q → ∃ j, aEnd c q = some j ∧ j ≤ o
  | 0, _, _, _, h, _ => h.elim
  | f + 1, a, o, q, ⟨j, h1, h2⟩, hm => by
    rcases hm with rfl | ⟨j', h5, h6, h7⟩
    · refine ⟨j, h1, ?_⟩
      rcases h2 with ⟨h8, h9⟩ | ⟨h8, h9⟩
      · omega
      · have := Ch_lt f (j + 1) o h9; omega
    · have e : j' = j := Option.some.inj (h5.symm.trans h1)
      subst e
      rcases h2 with ⟨h8, h9⟩ | ⟨h8, h9⟩
      · rw [h8] at h6; rw [h9] at h6; exact absurd h6 (by decide)
      · exact Cm_atm f (j' + 1) o q h9 h7
end
section
/-! The pure part: conditions in lockstep; ways of atoms -/
theorem us_e (z : Sg) (c j : Nat) (x : Int32) (a p : Nat) : us z c j x a p = if a = c ∧ p = j then x else z a p := by
  unfold us
  by_cases h : a = c
  · subst h
    rw [if_pos rfl]
    by_cases h2 : p = j
    · subst h2; rw [if_pos ⟨rfl, rfl⟩]; simp [upd]
    · rw [if_neg (fun q => h2 q.2)]; simp [upd, h2]
  · rw [if_neg h, if_neg (fun q => h q.1)]
theorem us_hit {z : Sg} {c j : Nat} {x : Int32} : us z c j x c j = x := by rw [us_e, if_pos ⟨rfl, rfl⟩]
theorem us_p {z : Sg} {c j a p : Nat} {x : Int32} (h : ¬ p = j) : us z c j x a p = z a p := by rw [us_e, if_neg (fun q => h q.2)]
theorem us_c {z : Sg} {c j a p : Nat} {x : Int32} (h : ¬ a = c) : us z c j x a p = z a p := by rw [us_e, if_neg (fun q => h q.1)]
def AtC (c : Nat → Int32) (z : Sg) (p : Nat) : Prop := z 2 p = 5 ∧ ((c p = 37 ∧ z 4 p = 6) ∨ (¬ c p = 37 ∧ ¬ fPart c (aNm c p) = -1 ∧ lcP (c (aNm c p)) ∧ z 3 p = c (aNm c p) - 97 ∧ z 4 p = fPart c (aNm c p)))
theorem AtC.mono {c : Nat → Int32} {z z' : Sg} {p : Nat} (h : AtC c z p) (h2 : z' 2 p = z 2 p) (h3 : z' 3 p = z 3 p) (h4 : z' 4 p = z 4 p) : AtC c z' p := by
  unfold AtC at h ⊢
  rw [h2, h3, h4]; exact h
theorem aZ_eff {c : Nat → Int32} {z : Sg} {a j : Nat} (h : aEnd c a = some j) : AtC c (aZ c z a) a ∧ (∀ e p, ¬ p = a → aZ c z a e p = z e p) ∧ (∀ e p, ¬ (e = 2 ∨ e = 3 ∨ e = 4) → aZ c z a e p = z e p) := by
  obtain ⟨-, -, -, h1⟩ := atm_some h
  unfold aZ
  rcases h1 with ⟨h1, -⟩ | ⟨h1, h2, h3, -⟩
  · rw [if_pos h1]
    refine ⟨⟨by rw [us_c (by decide), us_hit], Or.inl ⟨h1, us_hit⟩⟩, fun e p hp => by rw [us_p hp, us_p hp], fun e p he => ?_⟩
    rw [us_c (fun q => he (Or.inr (Or.inr q))), us_c (fun q => he (Or.inl q))]
  · rw [if_neg h1, if_neg h2]
    refine ⟨⟨by rw [us_c (by decide), us_c (by decide), us_hit], Or.inr ⟨h1, h2, h3, by rw [us_c (by decide), us_hit, (lcI_lc h3).1], us_hit⟩⟩, fun e p hp => by rw [us_p hp, us_p hp, us_p hp], fun e p he => ?_⟩
    rw [us_c (fun q => he (Or.inr (Or.inr q))), us_c (fun q => he (Or.inr (Or.inl q))), us_c (fun q => he (Or.inl q))]
def CdE (c : Nat → Int32) (h f a : Nat) (z y z' y' : Sg) : Prop := ∀ p, (Cm c f a p → AtC c z' p ∧ y' 3 p = 7 ∧ y' 4 p = nI h) ∧ (¬ Cm c f a p → (∀ e, z' e p = z e p) ∧ (∀ e, y' e p = y e p)) ∧ (∀ e, ¬ (e = 2 ∨ e = 3 ∨ e = 4) → z' e p = z e p) ∧ (∀ e, ¬ (e = 3 ∨ e = 4) → y' e p = y e p)
theorem mCd_none {c : Nat → Int32} {h g a : Nat} {y : Sg} (ha : mAtm c a = none ∨ ∃ j, mAtm c a = some j ∧ ¬ (c j = 38 ∨ c j = 124) ∧ ¬ c j = 123) : (mCd c h g y a).1 = none := by
  cases g with
  | zero => rfl
  | succ g =>
    rcases ha with ha | ⟨j, ha, h1, h2⟩
    · simp only [mCd, ha]
    · simp only [mCd, ha, if_neg h1, if_neg h2]
theorem aEnd_0 {c : Nat → Int32} {a : Nat} (h : c a = 0) : aEnd c a = none := by
  unfold aEnd
  rw [h, if_neg (by decide)]
  have e : aNm c a = a := by unfold aNm; rw [h, if_neg (by decide)]
  rw [e]
  have : fPart c a = -1 := by unfold fPart; rw [h, if_pos (by decide)]
  rw [if_pos this]
theorem cd_lock {c : Nat → Int32} {n : Nat} (hc : ∀ i, n ≤ i → c i = 0) (h : Nat) : ∀ (f g a : Nat) (z y : Sg), n ≤ a + f → n < a + g →
    (∃ o, (fCL c f (aZ c z a) (aEnd c a)).1 = some o ∧ (mCd c h g y a).1 = some (o + 1) ∧ Ch c f a o ∧ CdE c h f a z y (fCL c f (aZ c z a) (aEnd c a)).2 (mCd c h g y a).2) ∨
    ((∀ o, (fCL c f (aZ c z a) (aEnd c a)).1 = some o → ¬ c o = 123) ∧ (mCd c h g y a).1 = none) := by
  have hnone : ∀ (f g a : Nat) (z y : Sg), aEnd c a = none → (∀ o, (fCL c f (aZ c z a) (aEnd c a)).1 = some o → ¬ c o = 123) ∧ (mCd c h g y a).1 = none := by
    intro f g a z y he
    rw [he]
    refine ⟨fun o ho => ?_, mCd_none ?_⟩
    · cases f with
      | zero => cases ho
      | succ f => cases ho
    · rcases atm_none he with h1 | ⟨j, h1, h2⟩
      · exact Or.inl h1
      · exact Or.inr ⟨j, h1, by rw [h2]; decide, by rw [h2]; decide⟩
  intro f
  induction f with
  | zero => intro g a z y h1 h2; exact Or.inr (hnone 0 g a z y (aEnd_0 (hc a (by omega))))
  | succ f ih =>
    intro g a z y h1 h2
    cases he : aEnd c a with
    | none => have := hnone (f + 1) g a z y he; rw [he] at this; exact Or.inr this
    | some j =>
      obtain ⟨e1, e2, e3, -⟩ := atm_some he
      obtain ⟨a1, a2, a3⟩ := aZ_eff (z := z) he
      cases g with
      | zero =>
        have h3 : c a = 0 := hc a (by omega)
        rw [aEnd_0 h3] at he; cases he
      | succ g =>
        by_cases hs : c j = 38 ∨ c j = 124
        · have x1 : fCL c (f + 1) (aZ c z a) (some j) = fCL c f (aZ c (aZ c z a) (j + 1)) (aEnd c (j + 1)) := by simp only [fCL, if_pos hs]
          have x2 : mCd c h (g + 1) y a = mCd c h g (us (us y 3 a 7) 4 a (nI h)) (j + 1) := by simp only [mCd, e1, if_pos hs]
          rw [x1, x2]
          rcases ih g (j + 1) (aZ c z a) (us (us y 3 a 7) 4 a (nI h)) (by omega) (by omega) with ⟨o, b1, b2, b3, b4⟩ | b
          · refine Or.inl ⟨o, b1, b2, ⟨j, he, Or.inr ⟨hs, b3⟩⟩, fun p => ?_⟩
            obtain ⟨c1, c2, c3, c4⟩ := b4 p
            refine ⟨fun hm => ?_, fun hm => ?_, fun e q => ?_, fun e q => ?_⟩
            · by_cases hp : Cm c f (j + 1) p
              · exact c1 hp
              · obtain ⟨d1, d2⟩ := c2 hp
                have hpa : p = a := by
                  rcases hm with hm | ⟨j', g1, -, g3⟩
                  · exact hm
                  · have ej : j' = j := Option.some.inj (g1.symm.trans he)
                    rw [ej] at g3; exact absurd g3 hp
                subst hpa
                refine ⟨a1.mono (d1 2) (d1 3) (d1 4), ?_, ?_⟩
                · rw [d2 3, us_c (by decide), us_hit]
                · rw [d2 4, us_hit]
            · have hp : ¬ Cm c f (j + 1) p := fun q => hm (Or.inr ⟨j, he, hs, q⟩)
              have hpa : ¬ p = a := fun q => hm (Or.inl q)
              obtain ⟨d1, d2⟩ := c2 hp
              exact ⟨fun e => by rw [d1 e, a2 e p hpa], fun e => by rw [d2 e, us_p hpa, us_p hpa]⟩
            · rw [c3 e q, a3 e p q]
            · rw [c4 e q, us_c (fun w => q (Or.inr w)), us_c (fun w => q (Or.inl w))]
          · exact Or.inr b
        · have x1 : fCL c (f + 1) (aZ c z a) (some j) = (some j, aZ c z a) := by simp only [fCL, if_neg hs]
          rw [x1]
          by_cases hb : c j = 123
          · have x2 : mCd c h (g + 1) y a = (some (j + 1), us (us y 3 a 7) 4 a (nI h)) := by simp only [mCd, e1, if_neg hs, if_pos hb]
            rw [x2]
            refine Or.inl ⟨j, rfl, rfl, ⟨j, he, Or.inl ⟨rfl, hb⟩⟩, fun p => ⟨fun hm => ?_, fun hm => ?_, fun e q => a3 e p q, fun e q => ?_⟩⟩
            · have hpa : p = a := by
                rcases hm with hm | ⟨j', g1, g2, g3⟩
                · exact hm
                · have ej : j' = j := Option.some.inj (g1.symm.trans he)
                  rw [ej] at g2; exact absurd g2 hs
              subst hpa
              exact ⟨a1, by show us (us y 3 p 7) 4 p (nI h) 3 p = 7; rw [us_c (by decide), us_hit], by show us (us y 3 p 7) 4 p (nI h) 4 p = nI h; rw [us_hit]⟩
            · have hpa : ¬ p = a := fun q => hm (Or.inl q)
              exact ⟨fun e => a2 e p hpa, fun e => by show us (us y 3 a 7) 4 a (nI h) e p = y e p; rw [us_p hpa, us_p hpa]⟩
            · show us (us y 3 a 7) 4 a (nI h) e p = y e p
              rw [us_c (fun w => q (Or.inr w)), us_c (fun w => q (Or.inl w))]
          · refine Or.inr ⟨fun o ho => ?_, mCd_none (Or.inr ⟨j, e1, hs, hb⟩)⟩
            have := Option.some.inj ho
            rw [← this]; exact hb
/-- ways of atoms, from behind -/
def Tt (c : Nat → Int32) (o a : Nat) : Nat := match aEnd c a with
  | some j => if c j = 38 then j + 1 else o + 1
  | none => o + 1
def FR (c : Nat → Int32) (o F0 f a r : Nat) : Prop := ∃ j k, aEnd c a = some j ∧ Fs c f j k ∧ k ≤ o ∧ r = if c k = 124 then k + 1 else F0
def LkE (c : Nat → Int32) (o F0 f a : Nat) (z z' : Sg) : Prop := (∀ e p, ¬ (e = 7 ∨ e = 8) → z' e p = z e p) ∧ (∀ p, ¬ Cm c f a p → ∀ e, z' e p = z e p) ∧ (∀ p, Cm c f a p → ∃ r, FR c o F0 f p r ∧ z' 7 p = nI (if c p = 126 then r else Tt c o p) ∧ z' 8 p = nI (if c p = 126 then Tt c o p else r))
theorem fLk_skip {c : Nat → Int32} {o h : Nat} {T F : Nat} {z : Sg} : ∀ (d m : Nat), (∀ q, h + m < q → q ≤ h + (m + d) → ¬ c q = 124 ∧ ¬ z 2 q = 5) → fLk c o h (m + d) z T F = fLk c o h m z T F
  | 0, m, _ => rfl
  | d + 1, m, hq => by
    have h1 := hq (h + (m + d + 1)) (by omega) (by omega)
    have e : fLk c o h (m + (d + 1)) z T F = fLk c o h (m + d) z T F := by
      show fLk c o h (m + d + 1) z T F = _
      simp only [fLk, if_neg h1.1, if_neg h1.2]
    rw [e]
    exact fLk_skip d m (fun q a b => hq q a (by omega))
theorem Fs_up {c : Nat → Int32} : ∀ (f j k : Nat), Fs c f j k → Fs c (f + 1) j k
  | 0, j, k, h => Or.inl ⟨h.2, h.1⟩
  | f + 1, j, k, h => by
    rcases h with h | ⟨h1, q, h2, h3⟩
    · exact Or.inl h
    · exact Or.inr ⟨h1, q, h2, Fs_up f q k h3⟩
theorem Fs_to {c : Nat → Int32} {f j k : Nat} (h : Fs c f j k) : ∀ g, f ≤ g → Fs c g j k := by
  intro g hg
  induction hg with
  | refl => exact h
  | step _ ih => exact Fs_up _ _ _ ih
theorem Fs_here {c : Nat → Int32} {f j : Nat} (h : ¬ c j = 38) : Fs c f j j := by
  cases f with
  | zero => exact ⟨rfl, h⟩
  | succ f => exact Or.inl ⟨h, rfl⟩
theorem FR_up {c : Nat → Int32} {o F0 f a r : Nat} (h : FR c o F0 f a r) : FR c o F0 (f + 1) a r := by
  obtain ⟨j, k, h1, h2, h3, h4⟩ := h
  exact ⟨j, k, h1, Fs_up _ _ _ h2, h3, h4⟩
/-- one atom at a: the step of fLk -/
theorem fLk_atom {c : Nat → Int32} {o h a j T F : Nat} {z : Sg} (he : aEnd c a = some j) (ha : h < a) (hz : z 2 a = 5) (hi : ∀ q, a < q → q < j → ¬ z 2 q = 5) : fLk c o h (j - 1 - h) z T F = fLk c o h (a - 1 - h) (us (us z 7 a (nI (if c a = 126 then F else T))) 8 a (nI (if c a = 126 then T else F))) a F := by
  obtain ⟨-, e2, e3, -⟩ := atm_some he
  have e : j - 1 - h = (a - h) + (j - 1 - a) := by omega
  rw [e, fLk_skip (j - 1 - a) (a - h) (fun q h1 h2 => ⟨(e3 q (by omega) (by omega)).2.2.1, hi q (by omega) (by omega)⟩)]
  have ea : a - h = (a - 1 - h) + 1 := by omega
  have eb : h + (a - 1 - h + 1) = a := by omega
  rw [ea]
  simp only [fLk, eb, if_neg (e3 a (Nat.le_refl _) e2).2.2.1, if_pos hz]
theorem LkE_atom {c : Nat → Int32} {o F0 f a T F : Nat} {z z1 : Sg} (f1 : Nat) (hT : T = Tt c o a) (hF : FR c o F0 (f + 1) a F) (h1 : LkE c o F0 f f1 z z1) (hin : ∀ p, Cm c (f + 1) a p ↔ p = a ∨ Cm c f f1 p) (hna : ¬ Cm c f f1 a) : LkE c o F0 (f + 1) a z (us (us z1 7 a (nI (if c a = 126 then F else T))) 8 a (nI (if c a = 126 then T else F))) := by
  obtain ⟨g1, g2, g3⟩ := h1
  refine ⟨fun e p he => ?_, fun p hp e => ?_, fun p hp => ?_⟩
  · rw [us_c (fun q => he (Or.inr q)), us_c (fun q => he (Or.inl q)), g1 e p he]
  · have hpa : ¬ p = a := fun q => hp ((hin p).mpr (Or.inl q))
    rw [us_p hpa, us_p hpa, g2 p (fun q => hp ((hin p).mpr (Or.inr q))) e]
  · rcases (hin p).mp hp with rfl | hp
    · refine ⟨F, hF, ?_, ?_⟩
      · rw [us_c (by decide), us_hit, hT]
      · rw [us_hit, hT]
    · have hpa : ¬ p = a := fun q => hna (q ▸ hp)
      obtain ⟨r, r1, r2, r3⟩ := g3 p hp
      exact ⟨r, FR_up r1, by rw [us_p hpa, us_p hpa, r2], by rw [us_p hpa, us_p hpa, r3]⟩
theorem lk_chain {c : Nat → Int32} {o h F0 : Nat} : ∀ (f a : Nat) (z : Sg), Ch c f a o → h < a → (∀ q, a ≤ q → q < o → (z 2 q = 5 ↔ Cm c f a q)) →
    ∃ z' r, fLk c o h (o - 1 - h) z (o + 1) F0 = fLk c o h (a - 1 - h) z' a r ∧ FR c o F0 f a r ∧ LkE c o F0 f a z z' := by
  intro f
  induction f with
  | zero => intro a z h1; exact h1.elim
  | succ f ih =>
    intro a z hC ha hz
    have hC0 := hC
    obtain ⟨j, he, hj⟩ := hC
    obtain ⟨m1, e2, e3, -⟩ := atm_some he
    have hlt := (Ch_lt (f + 1) a o hC0).1
    rcases hj with ⟨rfl, hb⟩ | ⟨hs, hC1⟩
    · have hin : ∀ p, Cm c (f + 1) a p ↔ p = a := fun p => ⟨fun q => by
        rcases q with q | ⟨j', g1, g2, g3⟩
        · exact q
        · rw [Option.some.inj (g1.symm.trans he), hb] at g2; exact absurd g2 (by decide), fun q => Or.inl q⟩
      have hF : FR c j F0 (f + 1) a F0 := ⟨j, j, he, Fs_here (by rw [hb]; decide), Nat.le_refl _, by rw [hb, if_neg (by decide)]⟩
      have hTt : j + 1 = Tt c j a := by unfold Tt; rw [he]; simp only [hb]; rw [if_neg (by decide)]
      refine ⟨_, F0, fLk_atom he ha ((hz a (Nat.le_refl _) hlt).mpr (Or.inl rfl)) (fun q h1 h2 h3 => ?_), hF, ?_⟩
      · have := (hin q).mp ((hz q (by omega) h2).mp h3); omega
      · refine ⟨fun e p hp => ?_, fun p hp e => ?_, fun p hp => ?_⟩
        · rw [us_c (fun q => hp (Or.inr q)), us_c (fun q => hp (Or.inl q))]
        · have hpa : ¬ p = a := fun q => hp (Or.inl q)
          rw [us_p hpa, us_p hpa]
        · have hpa := (hin p).mp hp
          subst hpa
          refine ⟨F0, hF, ?_, ?_⟩
          · rw [us_c (by decide), us_hit, ← hTt]
          · rw [us_hit, ← hTt]
    · have hin : ∀ p, Cm c (f + 1) a p ↔ p = a ∨ Cm c f (j + 1) p := fun p => ⟨fun q => by
        rcases q with q | ⟨j', g1, g2, g3⟩
        · exact Or.inl q
        · rw [Option.some.inj (g1.symm.trans he)] at g3; exact Or.inr g3, fun q => by
        rcases q with q | q
        · exact Or.inl q
        · exact Or.inr ⟨j, he, hs, q⟩⟩
      have hlo : ∀ q, Cm c f (j + 1) q → j + 1 ≤ q ∧ q < o := fun q => Cm_in f (j + 1) o q hC1
      have hjo := (Ch_lt f (j + 1) o hC1).1
      obtain ⟨z1, r1, x1, x2, x3⟩ := ih (j + 1) z hC1 (by omega) (fun q h1 h2 => by
        rw [hz q (by omega) h2, hin q]
        exact ⟨fun w => w.elim (fun w => by omega) id, Or.inr⟩)
      have z2 : ∀ p, z1 2 p = z 2 p := fun p => x3.1 2 p (by decide)
      have hna : ¬ Cm c f (j + 1) a := fun q => by have := hlo a q; omega
      have hz1 : z1 2 a = 5 := by rw [z2]; exact (hz a (Nat.le_refl _) hlt).mpr (Or.inl rfl)
      have hi : ∀ q, a < q → q < j → ¬ z1 2 q = 5 := fun q h1 h2 h3 => by
        rw [z2] at h3
        rcases (hin q).mp ((hz q (by omega) (by omega)).mp h3) with w | w
        · omega
        · have := hlo q w; omega
      have ej : j + 1 - 1 - h = (j - 1 - h) + 1 := by omega
      have eh : h + (j - 1 - h + 1) = j := by omega
      by_cases h124 : c j = 124
      · have step : fLk c o h (j + 1 - 1 - h) z1 (j + 1) r1 = fLk c o h (j - 1 - h) z1 (o + 1) (j + 1) := by
          rw [ej]; simp only [fLk, eh, if_pos h124]
        have hF : FR c o F0 (f + 1) a (j + 1) := ⟨j, j, he, Fs_here (by rw [h124]; decide), by omega, by rw [if_pos h124]⟩
        have hTt : o + 1 = Tt c o a := by unfold Tt; rw [he]; simp only [h124]; rw [if_neg (by decide)]
        exact ⟨_, j + 1, by rw [x1, step]; exact fLk_atom he ha hz1 hi, hF, LkE_atom (j + 1) hTt hF x3 hin hna⟩
      · have h38 : c j = 38 := hs.elim id (fun w => absurd w h124)
        have hnj : ¬ z1 2 j = 5 := fun h3 => by
          rw [z2] at h3
          rcases (hin j).mp ((hz j (by omega) (by omega)).mp h3) with w | w
          · omega
          · have := hlo j w; omega
        have step : fLk c o h (j + 1 - 1 - h) z1 (j + 1) r1 = fLk c o h (j - 1 - h) z1 (j + 1) r1 := by
          rw [ej]; simp only [fLk, eh, if_neg h124, if_neg hnj]
        have hF : FR c o F0 (f + 1) a r1 := by
          obtain ⟨j1, k, q1, q2, q3, q4⟩ := x2
          exact ⟨j, k, he, Or.inr ⟨h38, j1, (atm_some q1).1, q2⟩, q3, q4⟩
        have hTt : j + 1 = Tt c o a := by unfold Tt; rw [he]; simp only [h38]; rw [if_pos trivial]
        exact ⟨_, r1, by rw [x1, step]; exact fLk_atom he ha hz1 hi, hF, LkE_atom (j + 1) hTt hF x3 hin hna⟩
end
section
/-! The pure part: what both parses know at a place -/
def WrC (c : Nat → Int32) (z y : Sg) (p : Nat) : Prop := z 2 p = 1 ∧ ¬ fPart c p = -1 ∧ lcP (c p) ∧ y 3 p = (if fPart c p = 0 then 1 else 2) ∧ z 3 p = c p - 97 ∧ z 4 p = fPart c p ∧ z 5 p = fVal c (fBeh p (fPart c p) + 1) ∧ z 6 p = lcI (c (fBeh p (fPart c p) + 1)) ∧ ¬ fVal c (fBeh p (fPart c p) + 1) = -1
def Con (c : Nat → Int32) (z y : Sg) (p : Nat) : Prop :=
  (z 2 p = 0 ∧ y 3 p = 0) ∨ WrC c z y p ∨ (z 2 p = 2 ∧ z 7 p = nI (p + 1) ∧ ((c p = 63 ∧ y 3 p = 3) ∨ (c p = 42 ∧ y 3 p = 4))) ∨ (z 2 p = 3 ∧ c p = 33 ∧ y 3 p = 5) ∨ (z 2 p = 4 ∧ c p = 94 ∧ y 3 p = 6 ∧ z 7 p = nI (p + 2)) ∨ (AtC c z p ∧ y 3 p = 7 ∧ ∃ j, aEnd c p = some j)
def Land (c : Nat → Int32) (i : Nat) (z : Sg) (q : Nat) : Prop := q ≤ i ∧ (q < i → c q = 125 ∨ ¬ z 2 q = 0)
def FrI (c : Nat → Int32) (i : Nat) (z y : Sg) (dp : Nat → Nat) : List Fr → Prop
  | [] => True
  | (h, o, f) :: r => (c h = 63 ∨ c h = 42) ∧ h < o ∧ o < i ∧ Ch c 64 (h + 1) o ∧ z 2 h = 2 ∧ y 5 h = nI (o + 1) ∧ Land c i z (o + 1) ∧ (∀ q, h < q → q < o → (z 2 q = 5 ↔ Cm c 64 (h + 1) q)) ∧ (∀ q, Cm c 64 (h + 1) q → y 4 q = nI h) ∧
      (match f with
        | none => y 6 h = 0
        | some w => y 6 h = nI (w + 2) ∧ w < i ∧ c w = 125 ∧ c h = 63 ∧ y 4 w = nI h ∧ dp w = r.length + 1 ∧ Land c i z (w + 2)) ∧ (∀ fr ∈ r, fr.1 < h) ∧ FrI c i z y dp r
def hds (k : List Fr) : List Nat := k.map (fun f => f.1)
def HdF (c : Nat → Int32) (i : Nat) (z y : Sg) (h o e : Nat) (f : Option Nat) : Prop :=
  (c h = 63 ∨ c h = 42) ∧ h < o ∧ o < i ∧ Ch c 64 (h + 1) o ∧ z 2 h = 2 ∧ y 5 h = nI (o + 1) ∧ Land c i z (o + 1) ∧ y 7 h = nI e ∧ Land c i z e ∧ (∀ q, Cm c 64 (h + 1) q → z 2 q = 5) ∧
    (match f with
      | none => y 6 h = 0
      | some w => y 6 h = nI (w + 2) ∧ c h = 63 ∧ Land c i z (w + 2))
def BrF (c : Nat → Int32) (i : Nat) (z y : Sg) (dp : Nat → Nat) (k : List Fr) (p : Nat) : Prop :=
  ∃ h o e f, h ∉ hds k ∧ HdF c i z y h o e f ∧ y 4 p = nI h ∧ z 9 p = nI (if c h = 42 then h + 1 else e) ∧ (¬ c h = 42 → (e = i → k.length < dp p) ∧ (e < i → c e = 125 → dp e < dp p))
def F0f (e : Nat) : Option Nat → Nat
  | none => e
  | some w => w + 2
def AtF (c : Nat → Int32) (i : Nat) (z y : Sg) (k : List Fr) (p : Nat) : Prop :=
  ∃ h o e f, h ∉ hds k ∧ HdF c i z y h o e f ∧ y 4 p = nI h ∧ Cm c 64 (h + 1) p ∧ ∃ r, FR c o (F0f e f) 64 p r ∧ z 7 p = nI (if c p = 126 then r else Tt c o p) ∧ z 8 p = nI (if c p = 126 then Tt c o p else r)
def Inv (c : Nat → Int32) (n i : Nat) (z y : Sg) (k : List Fr) (dp : Nat → Nat) : Prop :=
  i ≤ n ∧ k.length ≤ 6 ∧ z 0 3 = y 0 8 ∧ (∀ p, i ≤ p → p < 65 → z 2 p = 0 ∧ y 3 p = 0) ∧ (∀ p, p < i → Con c z y p) ∧
  (∀ p, p < i → z 2 p = 1 ∨ z 2 p = 3 → ∃ q, z 7 p = nI q ∧ y 7 p = nI q ∧ Land c i z q) ∧ (∀ p, p < i → z 2 p = 2 → z 2 (p + 1) = 5 ∧ p + 1 < i) ∧ FrI c i z y dp k ∧
  (∀ p, p < i → c p = 125 → z 2 p = 0 ∧ (1 ≤ dp p ∧ dp p ≤ 6) ∧ ((∃ fr ∈ k, fr.2.2 = some p) ∨ BrF c i z y dp k p)) ∧
  (∀ p, p < i → z 2 p = 5 → (∃ fr ∈ k, Cm c 64 (fr.1 + 1) p) ∨ AtF c i z y k p)
/-- a move of both parses: what stays -/
def Mv (c : Nat → Int32) (i i' : Nat) (z y z' y' : Sg) (k k' : List Fr) (dp dp' : Nat → Nat) (X : Nat → Prop) : Prop :=
  i < i' ∧ (c i = 125 ∨ ¬ z' 2 i = 0) ∧ (∀ p e, p < i → 2 ≤ e → e ≤ 6 → z' e p = z e p) ∧ (∀ p, p < i → ¬ z 2 p = 5 → z' 7 p = z 7 p) ∧ (∀ p e, p < i → 3 ≤ e → e ≤ 5 → y' e p = y e p) ∧ (∀ p, p < i → ¬ X p → y' 6 p = y 6 p ∧ y' 7 p = y 7 p) ∧ (∀ p, X p → z 2 p = 2) ∧
  (∀ p, p < i → dp' p = dp p) ∧ (c i = 125 → dp' i ≤ k.length) ∧ (∀ h, h < i → h ∉ hds k → h ∉ hds k' ∧ ¬ X h)
section Move
variable {c : Nat → Int32} {i i' : Nat} {z y z' y' : Sg} {k k' : List Fr} {dp dp' : Nat → Nat} {X : Nat → Prop}
theorem Mv.land (M : Mv c i i' z y z' y' k k' dp dp' X) {q : Nat} (h : Land c i z q) : Land c i' z' q := by
  obtain ⟨m1, m2, m3, -⟩ := M
  refine ⟨by have := h.1; omega, fun _ => ?_⟩
  by_cases hq : q < i
  · rw [m3 q 2 hq (by decide) (by decide)]; exact h.2 hq
  · rw [show q = i by have := h.1; omega]; exact m2
theorem Mv.con (M : Mv c i i' z y z' y' k k' dp dp' X) {p : Nat} (hp : p < i) (h : Con c z y p) : Con c z' y' p := by
  obtain ⟨m1, m2, m3, m4, m5, -⟩ := M
  have e2 := m3 p 2 hp (by decide) (by decide)
  have e3 := m3 p 3 hp (by decide) (by decide)
  have e4 := m3 p 4 hp (by decide) (by decide)
  have e5 := m3 p 5 hp (by decide) (by decide)
  have e6 := m3 p 6 hp (by decide) (by decide)
  have y3 := m5 p 3 hp (by decide) (by decide)
  unfold Con WrC at h ⊢
  rw [e2, e3, e4, e5, e6, y3]
  rcases h with h | h | h | h | h | h
  · exact Or.inl h
  · exact Or.inr (Or.inl h)
  · refine Or.inr (Or.inr (Or.inl ⟨h.1, ?_, h.2.2⟩))
    rw [m4 p hp (by rw [h.1]; decide)]; exact h.2.1
  · exact Or.inr (Or.inr (Or.inr (Or.inl h)))
  · refine Or.inr (Or.inr (Or.inr (Or.inr (Or.inl ⟨h.1, h.2.1, h.2.2.1, ?_⟩))))
    rw [m4 p hp (by rw [h.1]; decide)]; exact h.2.2.2
  · exact Or.inr (Or.inr (Or.inr (Or.inr (Or.inr ⟨h.1.mono e2 e3 e4, h.2⟩))))
theorem Mv.way (M : Mv c i i' z y z' y' k k' dp dp' X) {p : Nat} (hp : p < i) (hk : z 2 p = 1 ∨ z 2 p = 3) (h : ∃ q, z 7 p = nI q ∧ y 7 p = nI q ∧ Land c i z q) : ∃ q, z' 7 p = nI q ∧ y' 7 p = nI q ∧ Land c i' z' q := by
  obtain ⟨q, h1, h2, h3⟩ := h
  have M0 := M
  obtain ⟨m1, m2, m3, m4, m5, m6, m7, -⟩ := M
  refine ⟨q, ?_, ?_, M0.land h3⟩
  · rw [m4 p hp (fun w => by rcases hk with hk | hk <;> rw [hk] at w <;> exact absurd w (by decide))]; exact h1
  · rw [(m6 p hp (fun w => by have := m7 p w; rcases hk with hk | hk <;> rw [hk] at this <;> exact absurd this (by decide))).2]; exact h2
theorem Mv.hdF (M : Mv c i i' z y z' y' k k' dp dp' X) {h o e : Nat} {f : Option Nat} (hX : ¬ X h) (H : HdF c i z y h o e f) : HdF c i' z' y' h o e f := by
  have M0 := M
  obtain ⟨m1, m2, m3, m4, m5, m6, m7, -⟩ := M
  obtain ⟨a1, a2, a3, a4, a5, a6, a7, a8, a9, a11, a10⟩ := H
  have hi : h < i := by omega
  refine ⟨a1, a2, by omega, a4, ?_, ?_, M0.land a7, ?_, M0.land a9, fun q hq => ?_, ?_⟩
  · rw [m3 h 2 hi (by decide) (by decide)]; exact a5
  · rw [m5 h 5 hi (by decide) (by decide)]; exact a6
  · rw [(m6 h hi hX).2]; exact a8
  · have := Cm_in 64 (h + 1) o q a4 hq
    rw [m3 q 2 (by omega) (by decide) (by decide)]; exact a11 q hq
  · cases f with
    | none => show y' 6 h = 0; rw [(m6 h hi hX).1]; exact a10
    | some w => exact ⟨by rw [(m6 h hi hX).1]; exact a10.1, a10.2.1, M0.land a10.2.2⟩
theorem Mv.brF (M : Mv c i i' z y z' y' k k' dp dp' X) {p : Nat} (hp : p < i) (h9 : ∀ h, h ∉ hds k → h < i → y 4 p = nI h → z' 9 p = z 9 p) (h : BrF c i z y dp k p) : BrF c i' z' y' dp' k' p := by
  have M0 := M
  obtain ⟨m1, m2, m3, m4, m5, m6, m7, m8, m9, m10⟩ := M
  obtain ⟨h, o, e, f, b1, b2, b3, b4, b5⟩ := h
  have hi : h < i := by have := b2.2.1; have := b2.2.2.1; omega
  have hX := m10 h hi b1
  have he := b2.2.2.2.2.2.2.2.2.1.1
  refine ⟨h, o, e, f, hX.1, M0.hdF hX.2 b2, ?_, ?_, fun hl => ⟨fun w => by omega, fun w1 w2 => ?_⟩⟩
  · rw [m5 p 4 hp (by decide) (by decide)]; exact b3
  · rw [h9 h b1 hi b3]; exact b4
  · rw [m8 p hp]
    by_cases hei : e < i
    · rw [m8 e hei]; exact (b5 hl).2 hei w2
    · have : e = i := by omega
      subst this
      exact Nat.lt_of_le_of_lt (m9 w2) ((b5 hl).1 rfl)
theorem Mv.atF (M : Mv c i i' z y z' y' k k' dp dp' X) {p : Nat} (hp : p < i) (h7 : ∀ h, h ∉ hds k → h < i → y 4 p = nI h → z' 7 p = z 7 p ∧ z' 8 p = z 8 p) (h : AtF c i z y k p) : AtF c i' z' y' k' p := by
  have M0 := M
  obtain ⟨m1, m2, m3, m4, m5, m6, m7, m8, m9, m10⟩ := M
  obtain ⟨h, o, e, f, b1, b2, b3, b4, r, b5, b6, b7⟩ := h
  have hi : h < i := by have := b2.2.1; have := b2.2.2.1; omega
  have hX := m10 h hi b1
  refine ⟨h, o, e, f, hX.1, M0.hdF hX.2 b2, ?_, b4, r, b5, ?_, ?_⟩
  · rw [m5 p 4 hp (by decide) (by decide)]; exact b3
  · rw [(h7 h b1 hi b3).1]; exact b6
  · rw [(h7 h b1 hi b3).2]; exact b7
theorem Mv.frI (M : Mv c i i' z y z' y' k k' dp dp' X) : ∀ (r : List Fr), (∀ fr ∈ r, ¬ X fr.1) → FrI c i z y dp r → FrI c i' z' y' dp' r
  | [], _, _ => trivial
  | (h, o, f) :: r, hX, H => by
    have M0 := M
    obtain ⟨m1, m2, m3, m4, m5, m6, m7, m8, m9, m10⟩ := M
    obtain ⟨a1, a2, a3, a4, a5, a6, a7, a8, a9, a10, a11, a12⟩ := H
    have hi : h < i := by omega
    have hx := hX (h, o, f) List.mem_cons_self
    refine ⟨a1, a2, by omega, a4, ?_, ?_, M0.land a7, fun q q1 q2 => ?_, fun q hq => ?_, ?_, a11, Mv.frI M0 r (fun fr hf => hX fr (List.mem_cons_of_mem _ hf)) a12⟩
    · rw [m3 h 2 hi (by decide) (by decide)]; exact a5
    · rw [m5 h 5 hi (by decide) (by decide)]; exact a6
    · rw [m3 q 2 (by omega) (by decide) (by decide)]; exact a8 q q1 q2
    · have := Cm_in 64 (h + 1) o q a4 hq
      rw [m5 q 4 (by omega) (by decide) (by decide)]; exact a9 q hq
    · cases f with
      | none => show y' 6 h = 0; rw [(m6 h hi hx).1]; exact a10
      | some w =>
        obtain ⟨w1, w2, w3, w4, w5, w6, w7⟩ := a10
        exact ⟨by rw [(m6 h hi hx).1]; exact w1, by omega, w3, w4, by rw [m5 w 4 w2 (by decide) (by decide)]; exact w5, by rw [m8 w w2]; exact w6, M0.land w7⟩
end Move
theorem FrI_hd {c : Nat → Int32} {i : Nat} {z y : Sg} {dp : Nat → Nat} : ∀ (k : List Fr), FrI c i z y dp k → ∀ fr ∈ k, fr.1 < i
  | [], _, fr, h => by cases h
  | (h, o, f) :: r, H, fr, hm => by
    rcases List.mem_cons.mp hm with rfl | hm
    · have := H.2.1; have := H.2.2.1; show h < i; omega
    · exact FrI_hd r H.2.2.2.2.2.2.2.2.2.2.2 fr hm
/-- a kind that is there stands at no closing brace -/
theorem Con.n125 {c : Nat → Int32} {z y : Sg} {p : Nat} (h : Con c z y p) (h0 : ¬ z 2 p = 0) : ¬ c p = 125 ∧ 0 < y 3 p := by
  rcases h with h | h | h | h | h | h
  · exact absurd h.1 h0
  · refine ⟨(plain_lc h.2.2.1).2.2.2.1, ?_⟩
    rw [h.2.2.2.1]; split <;> decide
  · rcases h.2.2 with ⟨h1, h2⟩ | ⟨h1, h2⟩ <;> rw [h1, h2] <;> decide
  · rw [h.2.1, h.2.2]; decide
  · rw [h.2.1, h.2.2.1]; decide
  · obtain ⟨-, h2, j, h3⟩ := h
    refine ⟨((atm_some h3).2.2.1 p (Nat.le_refl _) (atm_some h3).2.1).2.2.2.1, by rw [h2]; decide⟩
end
section
/-! The pure part: the moves of both parses -/
theorem inv_simple {c : Nat → Int32} {n i i' : Nat} {z y z' y' : Sg} {k : List Fr} {dp : Nat → Nat} (I : Inv c n i z y k dp) (hn : n ≤ 64) (hi : i < i') (hi' : i' ≤ n) (hz : ∀ p e, ¬ p = i → 1 ≤ e → z' e p = z e p) (hy : ∀ p e, ¬ p = i → 1 ≤ e → y' e p = y e p) (h03 : z' 0 3 = y' 0 8) (hC : Con c z' y' i) (h2 : z' 2 i = 1 ∨ z' 2 i = 3 ∨ z' 2 i = 4) (hw : z' 7 i = nI i' ∧ y' 7 i = nI i') (hch : ∀ p, i < p → p < i' → ¬ c p = 125) : Inv c n i' z' y' k dp := by
  obtain ⟨a1, a2, a3, a4, a5, a6, a7, a8, a9, a10⟩ := I
  have hk : ¬ z' 2 i = 0 := by rcases h2 with h | h | h <;> rw [h] <;> decide
  have hk2 : ¬ z' 2 i = 2 := by rcases h2 with h | h | h <;> rw [h] <;> decide
  have hk5 : ¬ z' 2 i = 5 := by rcases h2 with h | h | h <;> rw [h] <;> decide
  have h125 := (hC.n125 hk).1
  have M : Mv c i i' z y z' y' k k dp dp (fun _ => False) := ⟨hi, Or.inr hk, fun p e h1 h2 _ => hz p e (by omega) (by omega), fun p h1 _ => hz p 7 (by omega) (by decide), fun p e h1 h2 _ => hy p e (by omega) (by omega), fun p h1 _ => ⟨hy p 6 (by omega) (by decide), hy p 7 (by omega) (by decide)⟩, fun p h => h.elim, fun _ _ => rfl, fun h => absurd h h125, fun h _ h2 => ⟨h2, id⟩⟩
  have new0 : ∀ p, i < p → p < 65 → z' 2 p = 0 ∧ y' 3 p = 0 := fun p h1 h2 => by
    rw [hz p 2 (by omega) (by decide), hy p 3 (by omega) (by decide)]; exact a4 p (by omega) h2
  have old2 : ∀ p, p < i → z' 2 p = z 2 p := fun p h => hz p 2 (by omega) (by decide)
  refine ⟨hi', a2, h03, fun p h1 h2 => new0 p (by omega) h2, fun p hp => ?_, fun p hp hq => ?_, fun p hp hq => ?_, M.frI k (fun _ _ h => h) a8, fun p hp hq => ?_, fun p hp hq => ?_⟩
  · rcases Nat.lt_trichotomy p i with h | h | h
    · exact M.con h (a5 p h)
    · rw [h]; exact hC
    · exact Or.inl (new0 p h (by omega))
  · rcases Nat.lt_trichotomy p i with h | h | h
    · rw [old2 p h] at hq; exact M.way h hq (a6 p h hq)
    · rw [h]; exact ⟨i', hw.1, hw.2, Nat.le_refl _, fun q => absurd q (Nat.lt_irrefl _)⟩
    · rw [(new0 p h (by omega)).1] at hq; exact absurd hq (by decide)
  · rcases Nat.lt_trichotomy p i with h | h | h
    · rw [old2 p h] at hq
      have := a7 p h hq
      exact ⟨by rw [old2 (p + 1) this.2]; exact this.1, by omega⟩
    · rw [h] at hq; exact absurd hq hk2
    · rw [(new0 p h (by omega)).1] at hq; exact absurd hq (by decide)
  · rcases Nat.lt_trichotomy p i with h | h | h
    · obtain ⟨b1, b2, b3⟩ := a9 p h hq
      refine ⟨by rw [old2 p h]; exact b1, b2, b3.elim Or.inl (fun w => Or.inr (M.brF h (fun _ _ _ _ => hz p 9 (by omega) (by decide)) w))⟩
    · rw [h] at hq; exact absurd hq h125
    · exact absurd hq (hch p h hp)
  · rcases Nat.lt_trichotomy p i with h | h | h
    · rw [old2 p h] at hq
      exact (a10 p h hq).elim Or.inl (fun w => Or.inr (M.atF h (fun _ _ _ _ => ⟨hz p 7 (by omega) (by decide), hz p 8 (by omega) (by decide)⟩) w))
    · rw [h] at hq; exact absurd hq hk5
    · rw [(new0 p h (by omega)).1] at hq; exact absurd hq (by decide)
theorem inv_open {c : Nat → Int32} {n i o : Nat} {z y z' y' : Sg} {k : List Fr} {dp : Nat → Nat} (I : Inv c n i z y k dp) (hn : n ≤ 64) (hc : ∀ i, n ≤ i → c i = 0) (hci : c i = 63 ∨ c i = 42) (hC : Ch c 64 (i + 1) o) (hk6 : k.length < 6)
    (hz : ∀ p e, ¬ p = i → ¬ Cm c 64 (i + 1) p → 1 ≤ e → e ≤ 9 → z' e p = z e p) (hy : ∀ p e, ¬ p = i → ¬ Cm c 64 (i + 1) p → 3 ≤ e → e ≤ 7 → y' e p = y e p) (h03 : z' 0 3 = y' 0 8)
    (hm : ∀ p, Cm c 64 (i + 1) p → AtC c z' p ∧ y' 3 p = 7 ∧ y' 4 p = nI i) (h2 : z' 2 i = 2) (h7 : z' 7 i = nI (i + 1)) (h3 : (c i = 63 ∧ y' 3 i = 3) ∨ (c i = 42 ∧ y' 3 i = 4)) (h5 : y' 5 i = nI (o + 1)) (h6 : y' 6 i = 0) : Inv c n (o + 1) z' y' ((i, o, none) :: k) dp := by
  obtain ⟨a1, a2, a3, a4, a5, a6, a7, a8, a9, a10⟩ := I
  obtain ⟨hio, hco⟩ := Ch_lt 64 (i + 1) o hC
  have hon : o < n := Nat.not_le.mp (fun h => by rw [hc o h] at hco; exact absurd hco (by decide))
  have hmi : ∀ p, Cm c 64 (i + 1) p → i + 1 ≤ p ∧ p < o := fun p => Cm_in 64 (i + 1) o p hC
  have hold : ∀ p, p < i → ¬ p = i ∧ ¬ Cm c 64 (i + 1) p := fun p h => ⟨by omega, fun q => by have := hmi p q; omega⟩
  have h125 : ¬ c i = 125 := by rcases hci with h | h <;> rw [h] <;> decide
  have M : Mv c i (o + 1) z y z' y' k ((i, o, none) :: k) dp dp (fun _ => False) := ⟨by omega, Or.inr (by rw [h2]; decide), fun p e h1 h2 _ => hz p e (hold p h1).1 (hold p h1).2 (by omega) (by omega), fun p h1 _ => hz p 7 (hold p h1).1 (hold p h1).2 (by decide) (by decide), fun p e h1 h2 _ => hy p e (hold p h1).1 (hold p h1).2 (by omega) (by omega), fun p h1 _ => ⟨hy p 6 (hold p h1).1 (hold p h1).2 (by decide) (by decide), hy p 7 (hold p h1).1 (hold p h1).2 (by decide) (by decide)⟩, fun p h => h.elim, fun _ _ => rfl, fun h => absurd h h125, fun h h1 h2 => ⟨fun q => by
    rcases List.mem_cons.mp q with q | q
    · have q : h = i := q; omega
    · exact h2 q, id⟩⟩
  have new0 : ∀ p, i < p → p < 65 → ¬ Cm c 64 (i + 1) p → z' 2 p = 0 ∧ y' 3 p = 0 := fun p h1 h2 h3 => by
    rw [hz p 2 (by omega) h3 (by decide) (by decide), hy p 3 (by omega) h3 (by decide) (by decide)]; exact a4 p (by omega) h2
  have old2 : ∀ p, p < i → z' 2 p = z 2 p := fun p h => hz p 2 (hold p h).1 (hold p h).2 (by decide) (by decide)
  have hch : ∀ p, i < p → p < o + 1 → ¬ c p = 125 := fun p h1 h2 => by
    by_cases h : p = o
    · rw [h, hco]; decide
    · exact (Ch_semi 64 (i + 1) o hC p (by omega) (by omega)).2.1
  have at5 : ∀ p, i < p → p < o + 1 → (z' 2 p = 5 ↔ Cm c 64 (i + 1) p) := fun p h1 h2 => ⟨fun w => Classical.byContradiction fun hx => by
    rw [(new0 p h1 (by omega) hx).1] at w; exact absurd w (by decide), fun w => (hm p w).1.1⟩
  refine ⟨by omega, by simp only [List.length_cons]; omega, h03, fun p h1 h2 => new0 p (by omega) h2 (fun q => by have := hmi p q; omega), fun p hp => ?_, fun p hp hq => ?_, fun p hp hq => ?_, ?_, fun p hp hq => ?_, fun p hp hq => ?_⟩
  · rcases Nat.lt_trichotomy p i with h | h | h
    · exact M.con h (a5 p h)
    · rw [h]; exact Or.inr (Or.inr (Or.inl ⟨h2, h7, h3⟩))
    · by_cases hx : Cm c 64 (i + 1) p
      · obtain ⟨j, hj, -⟩ := Cm_atm 64 (i + 1) o p hC hx
        exact Or.inr (Or.inr (Or.inr (Or.inr (Or.inr ⟨(hm p hx).1, (hm p hx).2.1, j, hj⟩))))
      · exact Or.inl (new0 p h (by omega) hx)
  · rcases Nat.lt_trichotomy p i with h | h | h
    · rw [old2 p h] at hq; exact M.way h hq (a6 p h hq)
    · rw [h, h2] at hq; exact absurd hq (by decide)
    · by_cases hx : Cm c 64 (i + 1) p
      · rw [(hm p hx).1.1] at hq; exact absurd hq (by decide)
      · rw [(new0 p h (by omega) hx).1] at hq; exact absurd hq (by decide)
  · rcases Nat.lt_trichotomy p i with h | h | h
    · rw [old2 p h] at hq
      have := a7 p h hq
      exact ⟨by rw [old2 (p + 1) this.2]; exact this.1, by omega⟩
    · rw [h]; exact ⟨(hm (i + 1) (Cm_a hC)).1.1, by omega⟩
    · by_cases hx : Cm c 64 (i + 1) p
      · rw [(hm p hx).1.1] at hq; exact absurd hq (by decide)
      · rw [(new0 p h (by omega) hx).1] at hq; exact absurd hq (by decide)
  · exact ⟨hci, by omega, by omega, hC, h2, h5, ⟨Nat.le_refl _, fun q => absurd q (Nat.lt_irrefl _)⟩, fun q q1 q2 => at5 q q1 (by omega), fun q hq => (hm q hq).2.2, h6, fun fr hf => FrI_hd k a8 fr hf, M.frI k (fun _ _ h => h) a8⟩
  · rcases Nat.lt_trichotomy p i with h | h | h
    · obtain ⟨b1, b2, b3⟩ := a9 p h hq
      refine ⟨by rw [old2 p h]; exact b1, b2, b3.elim (fun ⟨fr, w1, w2⟩ => Or.inl ⟨fr, List.mem_cons_of_mem _ w1, w2⟩) (fun w => Or.inr (M.brF h (fun _ _ _ _ => hz p 9 (hold p h).1 (hold p h).2 (by decide) (by decide)) w))⟩
    · rw [h] at hq; exact absurd hq h125
    · exact absurd hq (hch p h hp)
  · rcases Nat.lt_trichotomy p i with h | h | h
    · rw [old2 p h] at hq
      exact (a10 p h hq).elim (fun ⟨fr, w1, w2⟩ => Or.inl ⟨fr, List.mem_cons_of_mem _ w1, w2⟩) (fun w => Or.inr (M.atF h (fun _ _ _ _ => ⟨hz p 7 (hold p h).1 (hold p h).2 (by decide) (by decide), hz p 8 (hold p h).1 (hold p h).2 (by decide) (by decide)⟩) w))
    · rw [h, h2] at hq; exact absurd hq (by decide)
    · exact Or.inl ⟨(i, o, none), List.mem_cons_self, (at5 p h hp).mp hq⟩
theorem fu_n {α : Type} {f : Nat → α} {k j : Nat} {x : α} (h : ¬ j = k) : fu f k x j = f j := if_neg h
theorem fu_s {α : Type} {f : Nat → α} {k : Nat} {x : α} : fu f k x k = x := if_pos rfl
theorem inv_else {c : Nat → Int32} {n i h o : Nat} {z y z' y' : Sg} {r : List Fr} {dp : Nat → Nat} (I : Inv c n i z y ((h, o, none) :: r) dp) (hn : n ≤ 64) (hc : ∀ i, n ≤ i → c i = 0) (hci : c i = 125) (hc1 : c (i + 1) = 123) (hch : c h = 63)
    (hz : ∀ p e, 1 ≤ e → e ≤ 9 → z' e p = z e p) (hz0 : z' 0 3 = z 0 3) (hy4 : y' 4 i = nI h) (hy6 : y' 6 h = nI (i + 2)) (hy : ∀ p e, p < 65 → 3 ≤ e → e ≤ 7 → ¬ (e = 4 ∧ p = i) → ¬ (e = 6 ∧ p = h) → ¬ (e = 7 ∧ p = h) → y' e p = y e p) (hy0 : y' 0 8 = y 0 8) : Inv c n (i + 2) z' y' ((h, o, some i) :: r) (fu dp i (r.length + 1)) := by
  obtain ⟨a1, a2, a3, a4, a5, a6, a7, a8, a9, a10⟩ := I
  have hin : i + 1 < n := Nat.not_le.mp (fun q => by rw [hc _ q] at hc1; exact absurd hc1 (by decide))
  obtain ⟨f1, f2, f3, f4, f5, f6, f7, f8, f9, f10, f11, f12⟩ := a8
  have M : Mv c i (i + 2) z y z' y' ((h, o, none) :: r) ((h, o, some i) :: r) dp (fu dp i (r.length + 1)) (fun q => q = h) := ⟨by omega, Or.inl hci, fun p e h1 h2 _ => hz p e (by omega) (by omega), fun p h1 _ => hz p 7 (by decide) (by decide), fun p e h1 h2 h3 => hy p e (by omega) (by omega) (by omega) (by omega) (by omega) (by omega), fun p h1 h2 => ⟨hy p 6 (by omega) (by decide) (by decide) (by omega) (fun q => h2 q.2) (by omega), hy p 7 (by omega) (by decide) (by decide) (by omega) (by omega) (fun q => h2 q.2)⟩, fun p q => by rw [q]; exact f5, fun p hp => fu_n (by omega), fun _ => by rw [fu_s]; exact Nat.le_refl _, fun q h1 h2 => ⟨h2, fun w => h2 (by rw [w]; exact List.mem_cons_self)⟩⟩
  have z2 : ∀ p, z' 2 p = z 2 p := fun p => hz p 2 (by decide) (by decide)
  have y3 : ∀ p, p < 65 → y' 3 p = y 3 p := fun p hp => hy p 3 hp (by decide) (by decide) (by omega) (by omega) (by omega)
  have new0 : ∀ p, i ≤ p → p < 65 → z' 2 p = 0 ∧ y' 3 p = 0 := fun p h1 h2 => by rw [z2, y3 p h2]; exact a4 p h1 h2
  refine ⟨by omega, a2, by rw [hz0, hy0]; exact a3, fun p h1 h2 => new0 p (by omega) h2, fun p hp => ?_, fun p hp hq => ?_, fun p hp hq => ?_, ?_, fun p hp hq => ?_, fun p hp hq => ?_⟩
  · by_cases hpi : p < i
    · exact M.con hpi (a5 p hpi)
    · exact Or.inl (new0 p (by omega) (by omega))
  · by_cases hpi : p < i
    · rw [z2] at hq; exact M.way hpi hq (a6 p hpi hq)
    · rw [(new0 p (by omega) (by omega)).1] at hq; exact absurd hq (by decide)
  · by_cases hpi : p < i
    · rw [z2] at hq ⊢
      have := a7 p hpi hq
      exact ⟨this.1, by omega⟩
    · rw [(new0 p (by omega) (by omega)).1] at hq; exact absurd hq (by decide)
  · have hhi : h < i := by omega
    refine ⟨f1, f2, by omega, f4, by rw [z2]; exact f5, by rw [hy h 5 (by omega) (by decide) (by decide) (by omega) (by omega) (by omega)]; exact f6, M.land f7, fun q q1 q2 => by rw [z2]; exact f8 q q1 q2, fun q hq => ?_, ⟨hy6, by omega, hci, hch, hy4, fu_s, Nat.le_refl _, fun q => absurd q (Nat.lt_irrefl _)⟩, f11, M.frI r (fun fr hf w => by have := f11 fr hf; omega) f12⟩
    have := Cm_in 64 (h + 1) o q f4 hq
    rw [hy q 4 (by omega) (by decide) (by decide) (by omega) (by omega) (by omega)]; exact f9 q hq
  · by_cases hpi : p < i
    · obtain ⟨b1, b2, b3⟩ := a9 p hpi hq
      refine ⟨by rw [z2]; exact b1, by rw [fu_n (by omega)]; exact b2, b3.elim (fun ⟨fr, w1, w2⟩ => ?_) (fun w => Or.inr (M.brF hpi (fun _ _ _ _ => hz p 9 (by decide) (by decide)) w))⟩
      rcases List.mem_cons.mp w1 with w1 | w1
      · rw [w1] at w2; cases w2
      · exact Or.inl ⟨fr, List.mem_cons_of_mem _ w1, w2⟩
    · by_cases hpe : p = i
      · rw [hpe]
        have hl : r.length + 1 ≤ 6 := a2
        exact ⟨(new0 i (Nat.le_refl _) (by omega)).1, by rw [fu_s]; omega, Or.inl ⟨(h, o, some i), List.mem_cons_self, rfl⟩⟩
      · have : p = i + 1 := by omega
        rw [this, hc1] at hq; exact absurd hq (by decide)
  · by_cases hpi : p < i
    · rw [z2] at hq
      refine (a10 p hpi hq).elim (fun ⟨fr, w1, w2⟩ => ?_) (fun w => Or.inr (M.atF hpi (fun _ _ _ _ => ⟨hz p 7 (by decide) (by decide), hz p 8 (by decide) (by decide)⟩) w))
      rcases List.mem_cons.mp w1 with w1 | w1
      · rw [w1] at w2; exact Or.inl ⟨(h, o, some i), List.mem_cons_self, w2⟩
      · exact Or.inl ⟨fr, List.mem_cons_of_mem _ w1, w2⟩
    · rw [(new0 p (by omega) (by omega)).1] at hq; exact absurd hq (by decide)
end
section
/-! The pure part: a block closes -/
theorem nI_i65 {a b : Nat} (ha : a < 65) (hb : b < 65) (h : nI a = nI b) : a = b := (nI_eq' (by omega) (by omega)).mp h
theorem inv_close {c : Nat → Int32} {n i h o : Nat} {f : Option Nat} {z y z1 z' y' : Sg} {r : List Fr} {dp : Nat → Nat} (I : Inv c n i z y ((h, o, f) :: r) dp) (hn : n ≤ 64) (hin : i < n) (hci : c i = 125)
    (hz : ∀ p e, 1 ≤ e → e ≤ 8 → z1 e p = z e p) (hz9 : ∀ p, ¬ p = i → ¬ f = some p → z1 9 p = z 9 p) (hz9i : z1 9 i = nI (if c h = 42 then h + 1 else i + 1)) (hz9w : ∀ w, f = some w → ¬ w = i → z1 9 w = nI (i + 1)) (hz0 : z1 0 3 = z 0 3) (hL : LkE c o (clF i f) 64 (h + 1) z1 z')
    (hy4 : y' 4 i = nI h) (hy7 : y' 7 h = nI (i + 1)) (hy : ∀ p e, p < 65 → 3 ≤ e → e ≤ 7 → ¬ (e = 4 ∧ p = i) → ¬ (e = 7 ∧ p = h) → y' e p = y e p) (hy0 : y' 0 8 = y 0 8) : Inv c n (i + 1) z' y' r (fu dp i (r.length + 1)) := by
  obtain ⟨a1, a2, a3, a4, a5, a6, a7, a8, a9, a10⟩ := I
  obtain ⟨f1, f2, f3, f4, f5, f6, f7, f8, f9, f10, f11, f12⟩ := a8
  obtain ⟨l1, l2, l3⟩ := hL
  have hhi : h < i := by omega
  have hl : r.length + 1 ≤ 6 := a2
  have z2 : ∀ p e, 1 ≤ e → e ≤ 6 → z' e p = z e p := fun p e h1 h2 => by rw [l1 e p (by omega)]; exact hz p e h1 (by omega)
  have z22 : ∀ p, z' 2 p = z 2 p := fun p => z2 p 2 (by decide) (by decide)
  have z9' : ∀ p, z' 9 p = z1 9 p := fun p => l1 9 p (by decide)
  have hcm : ∀ p, Cm c 64 (h + 1) p → h < p ∧ p < o ∧ z 2 p = 5 ∧ y 4 p = nI h := fun p q => by
    have := Cm_in 64 (h + 1) o p f4 q
    exact ⟨by omega, this.2, (f8 p (by omega) this.2).mpr q, f9 p q⟩
  have hnot : ∀ q, q ∉ hds ((h, o, f) :: r) → ¬ q = h := fun q w e => w (by rw [e]; exact List.mem_cons_self)
  have M : Mv c i (i + 1) z y z' y' ((h, o, f) :: r) r dp (fu dp i (r.length + 1)) (fun q => q = h) := ⟨by omega, Or.inl hci, fun p e h1 h2 h3 => z2 p e (by omega) h3, fun p h1 h2 => by
      rw [l2 p (fun q => h2 (hcm p q).2.2.1) 7]; exact hz p 7 (by decide) (by decide), fun p e h1 h2 h3 => hy p e (by omega) (by omega) (by omega) (by omega) (by omega), fun p h1 h2 => ⟨hy p 6 (by omega) (by decide) (by decide) (by omega) (by omega), hy p 7 (by omega) (by decide) (by decide) (by omega) (fun q => h2 q.2)⟩, fun p q => by rw [q]; exact f5, fun p hp => fu_n (by omega), fun _ => by rw [fu_s]; exact Nat.le_refl _, fun q h1 h2 => ⟨fun w => h2 (List.mem_cons_of_mem _ w), hnot q h2⟩⟩
  have new0 : ∀ p, i ≤ p → p < 65 → z' 2 p = 0 ∧ y' 3 p = 0 := fun p h1 h2 => by
    rw [z22, hy p 3 h2 (by decide) (by decide) (by omega) (by omega)]; exact a4 p h1 h2
  have hhr : h ∉ hds r := fun w => by
    obtain ⟨fr, w1, w2⟩ := List.mem_map.mp w
    have := f11 fr w1; omega
  have HF : HdF c (i + 1) z' y' h o (i + 1) f := by
    refine ⟨f1, f2, by omega, f4, by rw [z22]; exact f5, by rw [hy h 5 (by omega) (by decide) (by decide) (by omega) (by omega)]; exact f6, M.land f7, hy7, ⟨Nat.le_refl _, fun q => absurd q (Nat.lt_irrefl _)⟩, fun q hq => by rw [z22]; exact (hcm q hq).2.2.1, ?_⟩
    have e6 : y' 6 h = y 6 h := hy h 6 (by omega) (by decide) (by decide) (by omega) (by omega)
    cases f with
    | none => show y' 6 h = 0; rw [e6]; exact f10
    | some w => exact ⟨by rw [e6]; exact f10.1, f10.2.2.2.1, M.land f10.2.2.2.2.2.2⟩
  have old4 : ∀ p, p < i → y' 4 p = y 4 p := fun p hp => hy p 4 (by omega) (by decide) (by decide) (by omega) (by omega)
  refine ⟨by omega, by omega, by rw [l1 0 3 (by decide), hz0, hy0]; exact a3, fun p h1 h2 => new0 p (by omega) h2, fun p hp => ?_, fun p hp hq => ?_, fun p hp hq => ?_, M.frI r (fun fr hf w => by have := f11 fr hf; omega) f12, fun p hp hq => ?_, fun p hp hq => ?_⟩
  · by_cases hpi : p < i
    · exact M.con hpi (a5 p hpi)
    · exact Or.inl (new0 p (by omega) (by omega))
  · by_cases hpi : p < i
    · rw [z22] at hq; exact M.way hpi hq (a6 p hpi hq)
    · rw [(new0 p (by omega) (by omega)).1] at hq; exact absurd hq (by decide)
  · by_cases hpi : p < i
    · rw [z22] at hq ⊢
      have := a7 p hpi hq
      exact ⟨this.1, by omega⟩
    · rw [(new0 p (by omega) (by omega)).1] at hq; exact absurd hq (by decide)
  · by_cases hpi : p < i
    · obtain ⟨b1, b2, b3⟩ := a9 p hpi hq
      refine ⟨by rw [z22]; exact b1, by rw [fu_n (by omega)]; exact b2, ?_⟩
      rcases b3 with ⟨fr, w1, w2⟩ | w
      · rcases List.mem_cons.mp w1 with w1 | w1
        · rw [w1] at w2
          have w2 : f = some p := w2
          subst w2
          obtain ⟨g1, g2, g3, g4, g5, g6, g7⟩ := f10
          have hh42 : ¬ c h = 42 := by rw [g4]; decide
          refine Or.inr ⟨h, o, i + 1, some p, hhr, HF, by rw [old4 p hpi]; exact g5, ?_, fun _ => ⟨fun _ => ?_, fun w => absurd w (Nat.lt_irrefl _)⟩⟩
          · rw [z9', hz9w p rfl (by omega), if_neg hh42]
          · rw [fu_n (by omega), g6]; exact Nat.lt_succ_self _
        · exact Or.inl ⟨fr, w1, w2⟩
      · refine Or.inr (M.brF hpi (fun h' w1 w2 w3 => ?_) w)
        rw [z9']
        refine hz9 p (by omega) (fun w4 => ?_)
        subst w4
        have g5 := f10.2.2.2.2.1
        exact hnot h' w1 (nI_i65 (by omega) (by omega) (w3.symm.trans g5))
    · have hpe : p = i := by omega
      rw [hpe]
      refine ⟨(new0 i (Nat.le_refl _) (by omega)).1, by rw [fu_s]; omega, Or.inr ⟨h, o, i + 1, f, hhr, HF, hy4, by rw [z9']; exact hz9i, fun _ => ⟨fun _ => by rw [fu_s]; exact Nat.lt_succ_self _, fun w => absurd w (Nat.lt_irrefl _)⟩⟩⟩
  · by_cases hpi : p < i
    · rw [z22] at hq
      rcases a10 p hpi hq with ⟨fr, w1, w2⟩ | w
      · rcases List.mem_cons.mp w1 with w1 | w1
        · rw [w1] at w2
          obtain ⟨r9, q1, q2, q3⟩ := l3 p w2
          have eF : clF i f = F0f (i + 1) f := by cases f <;> rfl
          exact Or.inr ⟨h, o, i + 1, f, hhr, HF, by rw [old4 p hpi]; exact f9 p w2, w2, r9, by rw [← eF]; exact q1, q2, q3⟩
        · exact Or.inl ⟨fr, w1, w2⟩
      · refine Or.inr (M.atF hpi (fun h' w1 w2 w3 => ?_) w)
        have hnc : ¬ Cm c 64 (h + 1) p := fun q => hnot h' w1 (nI_i65 (by omega) (by omega) (w3.symm.trans (hcm p q).2.2.2))
        exact ⟨by rw [l2 p hnc 7]; exact hz p 7 (by decide) (by decide), by rw [l2 p hnc 8]; exact hz p 8 (by decide) (by decide)⟩
    · rw [(new0 p (by omega) (by omega)).1] at hq; exact absurd hq (by decide)
end
section
/-! The pure part: one step of both parses -/
theorem val_some {c : Nat → Int32} {i : Nat} (h : ¬ fVal c i = -1) : mVal c i = some (fBeh i (fVal c i)) ∧ (∀ p, i ≤ p → p < fBeh i (fVal c i) → ¬ c p = 125 ∧ ¬ c p = 0) := by
  unfold fVal at h ⊢
  unfold mVal
  have one : ∀ x : Int32, fBeh i x = i + 1 → c i = 110 ∨ c i = 78 ∨ c i = 64 → (if c i = 110 ∨ c i = 78 ∨ c i = 64 then some (i + 1) else mE c i) = some (fBeh i x) ∧ ∀ p, i ≤ p → p < fBeh i x → ¬ c p = 125 ∧ ¬ c p = 0 := by
    intro x hx hc
    rw [if_pos hc, hx]
    refine ⟨rfl, fun p h1 h2 => ?_⟩
    rw [show p = i by omega]
    rcases hc with h | h | h <;> rw [h] <;> decide
  by_cases h1 : c i = 110
  · rw [if_pos h1]; exact one 3 (if_neg (by decide)) (Or.inl h1)
  · rw [if_neg h1] at h ⊢
    by_cases h2 : c i = 78
    · rw [if_pos h2]; exact one 4 (if_neg (by decide)) (Or.inr (Or.inl h2))
    · rw [if_neg h2] at h ⊢
      by_cases h3 : c i = 64
      · rw [if_pos h3]; exact one 5 (if_neg (by decide)) (Or.inr (Or.inr h3))
      · rw [if_neg h3] at h ⊢
        have hno : ¬ (c i = 110 ∨ c i = 78 ∨ c i = 64) := fun q => q.elim h1 (fun q => q.elim h2 h3)
        rw [if_neg hno]
        exact ⟨(mE_some h).1, fun p q1 q2 => ⟨(part_plain h p q1 q2).2.2.2.1, (part_plain h p q1 q2).1⟩⟩
theorem val_none {c : Nat → Int32} {i : Nat} (h : fVal c i = -1) : mVal c i = none ∨ ∃ q, mVal c i = some q ∧ c q = 46 := by
  unfold fVal at h
  unfold mVal
  by_cases h1 : c i = 110
  · rw [if_pos h1] at h; exact absurd h (by decide)
  · rw [if_neg h1] at h
    by_cases h2 : c i = 78
    · rw [if_pos h2] at h; exact absurd h (by decide)
    · rw [if_neg h2] at h
      by_cases h3 : c i = 64
      · rw [if_pos h3] at h; exact absurd h (by decide)
      · rw [if_neg h3] at h
        rw [if_neg (fun q => q.elim h1 (fun q => q.elim h2 h3))]
        exact mE_none h
theorem mW1_eq {c : Nat → Int32} {i : Nat} (h : ¬ fPart c i = -1) : mW1 c i = fBeh i (fPart c i) := by
  obtain ⟨h1, h2, -⟩ := mE_some h
  unfold mE at h1
  rw [if_pos h2] at h1
  exact Option.some.inj h1
/-- both parses go on alike from i -/
def Step (c : Nat → Int32) (n i : Nat) (X : Option Nat × Sg × List Fr) (Q : Option Nat × Sg × List Nat) : Prop :=
  (X.1 = none ∧ Q.1 = none) ∨ ∃ i' dp', i < i' ∧ X.1 = some i' ∧ Q.1 = some i' ∧ Q.2.2 = hds X.2.2 ∧ Inv c n i' X.2.1 Q.2.1 X.2.2 dp'
theorem Step.go {c : Nat → Int32} {n i i' : Nat} {z' y' : Sg} {k' : List Fr} {ks' : List Nat} {dp' : Nat → Nat} (hi : i < i') (hk : ks' = hds k') (I : Inv c n i' z' y' k' dp') : Step c n i (some i', z', k') (some i', y', ks') := Or.inr ⟨i', dp', hi, rfl, rfl, hk, I⟩
section Steps
variable {c : Nat → Int32} {n i : Nat} {z y : Sg} {k : List Fr} {dp : Nat → Nat}
theorem st_sign (I : Inv c n i z y k dp) (hn : n ≤ 64) (hc : ∀ i, n ≤ i → c i = 0) (hin : i < n) {kd ro : Int32} (hch : (c i = 33 ∧ kd = 3 ∧ ro = 5) ∨ (c i = 94 ∧ kd = 4 ∧ ro = 6)) :
    Step c n i (if c (i + 1) = 59 then some (i + 2) else none, us (us (us z 0 3 (z 0 3 + 1)) 2 i kd) 7 i (nI (i + 2)), k) (if c (i + 1) = 59 then some (i + 2) else none, us (us (us y 0 8 (y 0 8 + 1)) 3 i ro) 7 i (nI (i + 2)), hds k) := by
  by_cases h : c (i + 1) = 59
  · rw [if_pos h]
    have hi1 : i + 1 < n := Nat.not_le.mp (fun q => by rw [hc _ q] at h; exact absurd h (by decide))
    have e2 : us (us (us z 0 3 (z 0 3 + 1)) 2 i kd) 7 i (nI (i + 2)) 2 i = kd := by rw [us_c (by decide), us_hit]
    have e7 : us (us (us z 0 3 (z 0 3 + 1)) 2 i kd) 7 i (nI (i + 2)) 7 i = nI (i + 2) := us_hit
    have f3 : us (us (us y 0 8 (y 0 8 + 1)) 3 i ro) 7 i (nI (i + 2)) 3 i = ro := by rw [us_c (by decide), us_hit]
    refine Step.go (dp' := dp) (by omega) rfl (inv_simple I hn (by omega) (by omega) (fun p e h1 h2 => by rw [us_p h1, us_p h1, us_c (by omega)]) (fun p e h1 h2 => by rw [us_p h1, us_p h1, us_c (by omega)]) ?_ ?_ ?_ ⟨e7, us_hit⟩ (fun p h1 h2 => ?_))
    · show us (us (us z 0 3 (z 0 3 + 1)) 2 i kd) 7 i (nI (i + 2)) 0 3 = us (us (us y 0 8 (y 0 8 + 1)) 3 i ro) 7 i (nI (i + 2)) 0 8
      rw [us_c (by decide), us_c (by decide), us_hit, us_c (by decide), us_c (by decide), us_hit, I.2.2.1]
    · rcases hch with ⟨h1, h2, h3⟩ | ⟨h1, h2, h3⟩
      · exact Or.inr (Or.inr (Or.inr (Or.inl ⟨e2.trans h2, h1, f3.trans h3⟩)))
      · exact Or.inr (Or.inr (Or.inr (Or.inr (Or.inl ⟨e2.trans h2, h1, f3.trans h3, e7⟩))))
    · rcases hch with ⟨h1, h2, h3⟩ | ⟨h1, h2, h3⟩
      · exact Or.inr (Or.inl (e2.trans h2))
      · exact Or.inr (Or.inr (e2.trans h2))
    · rw [show p = i + 1 by omega, h]; decide
  · rw [if_neg h]; exact Or.inl ⟨rfl, rfl⟩
theorem st_write (I : Inv c n i z y k dp) (hn : n ≤ 64) (hc : ∀ i, n ≤ i → c i = 0) (hin : i < n) :
    Step c n i ((fWrite c (us z 0 3 (z 0 3 + 1)) i).1, (fWrite c (us z 0 3 (z 0 3 + 1)) i).2, k) (mWt c y i (hds k)) := by
  unfold mWt
  by_cases hg : fPart c i = -1
  · have hx : (fWrite c (us z 0 3 (z 0 3 + 1)) i).1 = none := by simp only [fWrite, hg]; rfl
    left
    refine ⟨hx, ?_⟩
    have : ¬ lcP (c i) ∨ ¬ c (mW1 c i) = 61 := by
      rcases fPart_cases c i with ⟨-, h2 | h2⟩ | ⟨h1, -⟩ | ⟨h1, -⟩ | ⟨h1, -⟩
      · exact Or.inl h2
      · right
        have hf : ¬ fdP c (i + 1) := fun q => q.2.elim h2.2.2.1 h2.2.2.2
        have e : mW1 c i = i + 1 := if_neg hf
        rw [e, h2.2.1]; decide
      · rw [h1] at hg; exact absurd hg (by decide)
      · rw [h1] at hg; exact absurd hg (by decide)
      · rw [h1] at hg; exact absurd hg (by decide)
    rw [if_pos this]
  · obtain ⟨-, hlc, hfd⟩ := mE_some hg
    have hW := mW1_eq hg
    rw [hW]
    generalize hs : fBeh i (fPart c i) = s
    have hsi : i < s := by rw [← hs]; exact (fBeh_lt _ _).1
    by_cases h61 : c s = 61
    · rw [if_neg (fun q => q.elim (fun q => q hlc) (fun q => q h61))]
      by_cases hv : fVal c (s + 1) = -1
      · have hx : (fWrite c (us z 0 3 (z 0 3 + 1)) i).1 = none := by
          simp only [fWrite, hs, hv]
          rw [if_neg (fun q => q.elim hg (fun q => q h61))]; rfl
        left
        refine ⟨hx, ?_⟩
        rcases val_none hv with h1 | ⟨q, h1, h2⟩
        · rw [h1]
        · rw [h1]
          show (if c q = 59 then some (q + 1) else none) = none
          rw [h2]; rfl
      · obtain ⟨v1, v2⟩ := val_some hv
        rw [v1]
        generalize he : fBeh (s + 1) (fVal c (s + 1)) = e at v2
        have hes : s + 1 < e := by rw [← he]; exact (fBeh_lt _ _).1
        by_cases h59 : c e = 59
        · have hx : fWrite c (us z 0 3 (z 0 3 + 1)) i = (some (e + 1), us (us (us (us (us (us (us z 0 3 (z 0 3 + 1)) 2 i 1) 3 i (lcI (c i))) 4 i (fPart c i)) 5 i (fVal c (s + 1))) 6 i (lcI (c (s + 1)))) 7 i (nI (e + 1))) := by
            simp only [fWrite, hs, he]
            rw [if_neg (fun q => q.elim hg (fun q => q h61)), if_neg (fun q => q.elim hv (fun q => q h59))]
          rw [hx]
          have hen : e < n := Nat.not_le.mp (fun q => by rw [hc _ q] at h59; exact absurd h59 (by decide))
          show Step c n i (some (e + 1), us (us (us (us (us (us (us z 0 3 (z 0 3 + 1)) 2 i 1) 3 i (lcI (c i))) 4 i (fPart c i)) 5 i (fVal c (s + 1))) 6 i (lcI (c (s + 1)))) 7 i (nI (e + 1)), k) ((if c e = 59 then some (e + 1) else none), us (us (us y 0 8 (y 0 8 + 1)) 3 i (if fdP c (i + 1) then 2 else 1)) 7 i (nI (e + 1)), hds k)
          rw [if_pos h59]
          refine Step.go (dp' := dp) (by omega) rfl (inv_simple I hn (by omega) (by omega) (fun p a h1 h2 => by rw [us_p h1, us_p h1, us_p h1, us_p h1, us_p h1, us_p h1, us_c (by omega)]) (fun p a h1 h2 => by rw [us_p h1, us_p h1, us_c (by omega)]) ?_ ?_ ?_ ⟨us_hit, us_hit⟩ (fun p h1 h2 => ?_))
          · show us (us (us (us (us (us (us z 0 3 (z 0 3 + 1)) 2 i 1) 3 i (lcI (c i))) 4 i (fPart c i)) 5 i (fVal c (s + 1))) 6 i (lcI (c (s + 1)))) 7 i (nI (e + 1)) 0 3 = us (us (us y 0 8 (y 0 8 + 1)) 3 i (if fdP c (i + 1) then 2 else 1)) 7 i (nI (e + 1)) 0 8
            rw [us_c (by decide), us_c (by decide), us_c (by decide), us_c (by decide), us_c (by decide), us_c (by decide), us_hit, us_c (by decide), us_c (by decide), us_hit, I.2.2.1]
          · refine Or.inr (Or.inl ⟨?_, hg, hlc, ?_, ?_, ?_, ?_, ?_, by rw [hs]; exact hv⟩)
            · rw [us_c (by decide), us_c (by decide), us_c (by decide), us_c (by decide), us_c (by decide), us_hit]
            · rw [us_c (by decide), us_hit]
              by_cases hf : fdP c (i + 1)
              · rw [if_pos hf, if_neg (fun q => hfd.mp q hf)]
              · rw [if_neg hf, if_pos (hfd.mpr hf)]
            · rw [us_c (by decide), us_c (by decide), us_c (by decide), us_c (by decide), us_hit, (lcI_lc hlc).1]
            · rw [us_c (by decide), us_c (by decide), us_c (by decide), us_hit]
            · rw [us_c (by decide), us_c (by decide), us_hit, hs]
            · rw [us_c (by decide), us_hit, hs]
          · left
            show us (us (us (us (us (us (us z 0 3 (z 0 3 + 1)) 2 i 1) 3 i (lcI (c i))) 4 i (fPart c i)) 5 i (fVal c (s + 1))) 6 i (lcI (c (s + 1)))) 7 i (nI (e + 1)) 2 i = 1
            rw [us_c (by decide), us_c (by decide), us_c (by decide), us_c (by decide), us_c (by decide), us_hit]
          · by_cases q1 : p < s
            · exact (part_plain hg p (by omega) (by rw [hs]; exact q1)).2.2.2.1
            · by_cases q2 : p = s
              · rw [q2, h61]; decide
              · by_cases q3 : p = e
                · rw [q3, h59]; decide
                · exact (v2 p (by omega) (by omega)).1
        · have hx : (fWrite c (us z 0 3 (z 0 3 + 1)) i).1 = none := by
            simp only [fWrite, hs, he]
            rw [if_neg (fun q => q.elim hg (fun q => q h61)), if_pos (Or.inr h59)]
          left
          refine ⟨hx, ?_⟩
          show (if c e = 59 then some (e + 1) else none) = none
          rw [if_neg h59]
    · have hx : (fWrite c (us z 0 3 (z 0 3 + 1)) i).1 = none := by
        simp only [fWrite, hs]
        rw [if_pos (Or.inr h61)]
      rw [if_pos (Or.inr h61)]
      exact Or.inl ⟨hx, rfl⟩
end Steps
end
section
/-! The pure part: blocks open and close; the loops -/
theorem hds_len (k : List Fr) : (hds k).length = k.length := List.length_map _
section Steps2
variable {c : Nat → Int32} {n i : Nat} {z y : Sg} {k : List Fr} {dp : Nat → Nat}
theorem st_open (I : Inv c n i z y k dp) (hn : n ≤ 64) (hc : ∀ i, n ≤ i → c i = 0) (hin : i < n) (hci : c i = 63 ∨ c i = 42) :
    Step c n i ((fOpen c (fCond c (us z 0 3 (z 0 3 + 1)) i).2 k.length i (fCond c (us z 0 3 (z 0 3 + 1)) i).1).1, (fOpen c (fCond c (us z 0 3 (z 0 3 + 1)) i).2 k.length i (fCond c (us z 0 3 (z 0 3 + 1)) i).1).2, fPush i (fCond c (us z 0 3 (z 0 3 + 1)) i).1 (fOpen c (fCond c (us z 0 3 (z 0 3 + 1)) i).2 k.length i (fCond c (us z 0 3 (z 0 3 + 1)) i).1).1 k) (mIf c y i (hds k)) := by
  have L := cd_lock hc i 64 64 (i + 1) (us (us (us z 0 3 (z 0 3 + 1)) 2 i 2) 7 i (nI (i + 1))) (us (us (us y 0 8 (y 0 8 + 1)) 3 i (if c i = 63 then 3 else 4)) 6 i 0) (by omega) (by omega)
  have eF : fCL c 64 (aZ c (us (us (us z 0 3 (z 0 3 + 1)) 2 i 2) 7 i (nI (i + 1))) (i + 1)) (aEnd c (i + 1)) = fCond c (us z 0 3 (z 0 3 + 1)) i := rfl
  rw [eF] at L
  unfold mIf
  generalize fCond c (us z 0 3 (z 0 3 + 1)) i = F at L ⊢
  generalize mCd c i 64 (us (us (us y 0 8 (y 0 8 + 1)) 3 i (if c i = 63 then 3 else 4)) 6 i 0) (i + 1) = G at L ⊢
  obtain ⟨F1, F2⟩ := F
  obtain ⟨G1, G2⟩ := G
  rcases L with ⟨o, w1, w2, b3, w4⟩ | ⟨b1, b2⟩
  · have b1 : F1 = some o := w1
    have b2 : G1 = some (o + 1) := w2
    have b4 : CdE c i 64 (i + 1) (us (us (us z 0 3 (z 0 3 + 1)) 2 i 2) 7 i (nI (i + 1))) (us (us (us y 0 8 (y 0 8 + 1)) 3 i (if c i = 63 then 3 else 4)) 6 i 0) F2 G2 := w4
    clear w1 w2 w4
    subst b1; subst b2
    obtain ⟨hio, hco⟩ := Ch_lt 64 (i + 1) o b3
    have hni : ¬ Cm c 64 (i + 1) i := fun q => by have := Cm_in 64 (i + 1) o i b3 q; omega
    by_cases hk : k.length = 6
    · left
      refine ⟨?_, ?_⟩
      · show (fOpen c F2 k.length i (some o)).1 = none
        simp only [fOpen]; rw [if_neg (fun q => by omega)]
      · show (if (hds k).length = 6 then (none, us G2 5 i (nI (o + 1)), hds k) else _).1 = none
        rw [hds_len, if_pos hk]
    · have hk6 : k.length < 6 := by have := I.2.1; omega
      have hx : fOpen c F2 k.length i (some o) = (some (o + 1), us (us (us (us F2 10 k.length (nI i)) 11 k.length (nI o)) 12 k.length (-1)) 0 15 (nI (k.length + 1))) := by
        simp only [fOpen]; rw [if_pos ⟨hco, hk6⟩]
      show Step c n i ((fOpen c F2 k.length i (some o)).1, (fOpen c F2 k.length i (some o)).2, fPush i (some o) (fOpen c F2 k.length i (some o)).1 k) (if (hds k).length = 6 then (none, us G2 5 i (nI (o + 1)), hds k) else (some (o + 1), us (us (us G2 5 i (nI (o + 1))) 8 (hds k).length (nI i)) 0 9 (nI ((hds k).length + 1)), i :: hds k))
      rw [hx, hds_len, if_neg hk]
      show Step c n i (some (o + 1), us (us (us (us F2 10 k.length (nI i)) 11 k.length (nI o)) 12 k.length (-1)) 0 15 (nI (k.length + 1)), (i, o, none) :: k) (some (o + 1), us (us (us G2 5 i (nI (o + 1))) 8 k.length (nI i)) 0 9 (nI (k.length + 1)), i :: hds k)
      have zF : ∀ e p, 1 ≤ e → e ≤ 9 → us (us (us (us F2 10 k.length (nI i)) 11 k.length (nI o)) 12 k.length (-1)) 0 15 (nI (k.length + 1)) e p = F2 e p := fun e p h1 h2 => by
        rw [us_c (by omega), us_c (by omega), us_c (by omega), us_c (by omega)]
      have yG : ∀ e p, ¬ p = i ∨ ¬ e = 5 → 3 ≤ e → e ≤ 7 → us (us (us G2 5 i (nI (o + 1))) 8 k.length (nI i)) 0 9 (nI (k.length + 1)) e p = G2 e p := fun e p h0 h1 h2 => by
        rw [us_c (by omega), us_c (by omega)]
        rcases h0 with h0 | h0
        · rw [us_p h0]
        · rw [us_c h0]
      refine Step.go (dp' := dp) (by omega) rfl (inv_open I hn hc hci b3 hk6 (fun p e h1 h2 h3 h4 => ?_) (fun p e h1 h2 h3 h4 => ?_) ?_ (fun p hp => ?_) ?_ ?_ ?_ ?_ ?_)
      · rw [zF e p h3 h4, ((b4 p).2.1 h2).1 e, us_p h1, us_p h1, us_c (by omega)]
      · rw [yG e p (Or.inl h1) h3 h4, ((b4 p).2.1 h2).2 e, us_p h1, us_p h1, us_c (by omega)]
      · rw [us_p (by decide), us_c (by decide), us_c (by decide), us_c (by decide), (b4 3).2.2.1 0 (by decide), us_c (by decide), us_c (by decide), us_hit, us_p (by decide), us_c (by decide), us_c (by decide), (b4 8).2.2.2 0 (by decide), us_c (by decide), us_c (by decide), us_hit, I.2.2.1]
      · obtain ⟨d1, d2, d3⟩ := (b4 p).1 hp
        exact ⟨d1.mono (zF 2 p (by decide) (by decide)) (zF 3 p (by decide) (by decide)) (zF 4 p (by decide) (by decide)), by rw [yG 3 p (Or.inr (by decide)) (by decide) (by decide)]; exact d2, by rw [yG 4 p (Or.inr (by decide)) (by decide) (by decide)]; exact d3⟩
      · rw [zF 2 i (by decide) (by decide), ((b4 i).2.1 hni).1 2, us_c (by decide), us_hit]
      · rw [zF 7 i (by decide) (by decide), ((b4 i).2.1 hni).1 7, us_hit]
      · rw [yG 3 i (Or.inr (by decide)) (by decide) (by decide), ((b4 i).2.1 hni).2 3, us_c (by decide), us_hit]
        rcases hci with h | h
        · exact Or.inl ⟨h, by rw [if_pos h]⟩
        · exact Or.inr ⟨h, by rw [h]; rfl⟩
      · rw [us_c (by decide), us_c (by decide), us_hit]
      · rw [yG 6 i (Or.inr (by decide)) (by decide) (by decide), ((b4 i).2.1 hni).2 6, us_hit]
  · have b2 : G1 = none := b2
    subst b2
    left
    refine ⟨?_, rfl⟩
    cases F1 with
    | none => rfl
    | some j =>
      show (fOpen c F2 k.length i (some j)).1 = none
      simp only [fOpen]; rw [if_neg (fun q => b1 j rfl q.1)]
theorem st_close (I : Inv c n i z y k dp) (hn : n ≤ 64) (hc : ∀ i, n ≤ i → c i = 0) (hin : i < n) (hci : c i = 125) : Step c n i (fClose c z i k) (mClose c y i (hds k)) := by
  cases k with
  | nil => exact Or.inl ⟨rfl, rfl⟩
  | cons fr r =>
    obtain ⟨h, o, f⟩ := fr
    have FI := I.2.2.2.2.2.2.2.1
    obtain ⟨f1, f2, f3, f4, f5, f6, f7, f8, f9, f10, f11, f12⟩ := FI
    have hhi : h < i := by omega
    have hCh := I.2.2.2.2.1 h hhi
    have hr3 : (c h = 63 ∧ y 3 h = 3) ∨ (c h = 42 ∧ y 3 h = 4) := by
      rcases hCh with q | q | q | q | q | q
      · rw [f5] at q; exact absurd q.1 (by decide)
      · have := q.1; rw [f5] at this; exact absurd this (by decide)
      · exact q.2.2
      · rw [f5] at q; exact absurd q.1 (by decide)
      · rw [f5] at q; exact absurd q.1 (by decide)
      · have := q.1.1; rw [f5] at this; exact absurd this (by decide)
    have hf6 : f = none ↔ y 6 h = 0 := by
      cases f with
      | none => exact ⟨fun _ => f10, fun _ => rfl⟩
      | some w =>
        refine ⟨(fun q => by cases q), (fun q => ?_)⟩
        have g1 := f10.1
        have g2 := f10.2.1
        rw [q] at g1
        have : (0 : Nat) = w + 2 := (nI_eq' (by omega) (by omega)).mp g1
        omega
    have hiff : (¬ c h = 42 ∧ f = none ∧ c (i + 1) = 123) ↔ (y 3 h = 3 ∧ y 6 h = 0 ∧ c (i + 1) = 123) := by
      rw [hf6]
      have e : ¬ c h = 42 ↔ y 3 h = 3 := by
        rcases hr3 with ⟨q1, q2⟩ | ⟨q1, q2⟩ <;> rw [q1, q2] <;> decide
      rw [e]
    by_cases hE : ¬ c h = 42 ∧ f = none ∧ c (i + 1) = 123
    · obtain ⟨g1, g2, g3⟩ := hE
      subst g2
      have hx : fClose c z i ((h, o, none) :: r) = (some (i + 2), us z 12 r.length (nI i), (h, o, some i) :: r) := by
        simp only [fClose]; rw [if_pos ⟨g1, trivial, g3⟩]
      have hm : mClose c y i (hds ((h, o, none) :: r)) = (some (i + 2), us (us (us (mCl1 y i h (hds r).length) 6 h (nI (i + 2))) 8 (hds r).length (nI h)) 0 9 (nI ((hds r).length + 1)), h :: hds r) := by
        show mClose c y i (h :: hds r) = _
        simp only [mClose]; rw [if_pos (hiff.mp ⟨g1, rfl, g3⟩)]
      rw [hx, hm]
      have hch : c h = 63 := f1.elim id (fun q => absurd q g1)
      refine Step.go (dp' := fu dp i (r.length + 1)) (by omega) rfl (inv_else I hn hc hci g3 hch (fun p e h1 h2 => by rw [us_c (by omega)]) (by rw [us_c (by decide)]) ?_ ?_ (fun p e h0 h1 h2 h3 h4 h5 => ?_) ?_)
      · unfold mCl1
        rw [us_c (by decide), us_c (by decide), us_c (by decide), us_c (by decide), us_hit]
      · rw [us_c (by decide), us_c (by decide), us_hit]
      · unfold mCl1
        rw [us_c (by omega), us_c (by omega), us_e, if_neg h4, us_e, if_neg h5, us_e, if_neg h3, us_c (by omega)]
      · unfold mCl1
        rw [us_p (by decide), us_c (by decide), us_c (by decide), us_c (by decide), us_c (by decide), us_p (by decide)]
    · have hx : fClose c z i ((h, o, f) :: r) = (some (i + 1), fLk c o h (o - 1 - h) (clZ (us (us z 0 15 (nI r.length)) 9 i (nI (if c h = 42 then h + 1 else i + 1))) i f) (o + 1) (clF i f), r) := by
        simp only [fClose]; rw [if_neg hE]
      have hm : mClose c y i (hds ((h, o, f) :: r)) = (some (i + 1), mCl1 y i h (hds r).length, hds r) := by
        show mClose c y i (h :: hds r) = _
        simp only [mClose]; rw [if_neg (fun q => hE (hiff.mpr q))]
      rw [hx, hm]
      have zc : ∀ e p, ¬ e = 9 → ¬ e = 0 → clZ (us (us z 0 15 (nI r.length)) 9 i (nI (if c h = 42 then h + 1 else i + 1))) i f e p = z e p := by
        intro e p h1 h2
        cases f with
        | none => show us (us z 0 15 (nI r.length)) 9 i _ e p = z e p; rw [us_c h1, us_c h2]
        | some w => show us (us (us z 0 15 (nI r.length)) 9 i _) 9 w _ e p = z e p; rw [us_c h1, us_c h1, us_c h2]
      have hwi : ∀ w, f = some w → ¬ w = i := fun w q e => by
        subst q; have := f10.2.1; omega
      have z9i : clZ (us (us z 0 15 (nI r.length)) 9 i (nI (if c h = 42 then h + 1 else i + 1))) i f 9 i = nI (if c h = 42 then h + 1 else i + 1) := by
        cases f with
        | none => exact us_hit
        | some w => show us (us (us z 0 15 (nI r.length)) 9 i _) 9 w _ 9 i = _; rw [us_p (fun q => hwi w rfl q.symm), us_hit]
      have z9w : ∀ w, f = some w → clZ (us (us z 0 15 (nI r.length)) 9 i (nI (if c h = 42 then h + 1 else i + 1))) i f 9 w = nI (i + 1) := by
        intro w q; subst q; exact us_hit
      have z9p : ∀ p, ¬ p = i → ¬ f = some p → clZ (us (us z 0 15 (nI r.length)) 9 i (nI (if c h = 42 then h + 1 else i + 1))) i f 9 p = z 9 p := by
        intro p h1 h2
        cases f with
        | none => show us (us z 0 15 (nI r.length)) 9 i _ 9 p = z 9 p; rw [us_p h1, us_c (by decide)]
        | some w => show us (us (us z 0 15 (nI r.length)) 9 i _) 9 w _ 9 p = z 9 p; rw [us_p (fun q => h2 (by rw [q])), us_p h1, us_c (by decide)]
      have z03 : clZ (us (us z 0 15 (nI r.length)) 9 i (nI (if c h = 42 then h + 1 else i + 1))) i f 0 3 = z 0 3 := by
        cases f with
        | none => show us (us z 0 15 (nI r.length)) 9 i _ 0 3 = z 0 3; rw [us_c (by decide), us_p (by decide)]
        | some w => show us (us (us z 0 15 (nI r.length)) 9 i _) 9 w _ 0 3 = z 0 3; rw [us_c (by decide), us_c (by decide), us_p (by decide)]
      generalize clZ (us (us z 0 15 (nI r.length)) 9 i (nI (if c h = 42 then h + 1 else i + 1))) i f = z1 at zc z9i z9w z9p z03 ⊢
      obtain ⟨z', rr, e1, -, e3⟩ := lk_chain (h := h) (F0 := clF i f) 64 (h + 1) z1 f4 (by omega) (fun q h1 h2 => by rw [zc 2 q (by decide) (by decide)]; exact f8 q (by omega) h2)
      have e0 : fLk c o h (h + 1 - 1 - h) z' (h + 1) rr = z' := by
        rw [show h + 1 - 1 - h = 0 by omega]; rfl
      rw [e1, e0]
      refine Step.go (dp' := fu dp i (r.length + 1)) (by omega) rfl (inv_close I hn hin hci (fun p e h1 h2 => zc e p (by omega) (by omega)) z9p z9i (fun w q _ => z9w w q) z03 e3 ?_ ?_ (fun p e h0 h1 h2 h3 h5 => ?_) ?_)
      · unfold mCl1; rw [us_c (by decide), us_hit]
      · unfold mCl1; rw [us_hit]
      · unfold mCl1; rw [us_e, if_neg h5, us_e, if_neg h3, us_c (by omega)]
      · unfold mCl1; rw [us_c (by decide), us_c (by decide), us_p (by decide)]
theorem st_stmt (I : Inv c n i z y k dp) (hn : n ≤ 64) (hc : ∀ i, n ≤ i → c i = 0) (hin : i < n) (hci : ¬ c i = 125) : Step c n i (fStmt c z i k) (mPart c y i (hds k)) := by
  unfold fStmt mPart
  rw [if_neg hci]
  by_cases h1 : c i = 63 ∨ c i = 42
  · have h2 : ¬ (c i = 33 ∨ c i = 94) := by rcases h1 with h | h <;> rw [h] <;> decide
    rw [if_pos h1, if_neg h2, if_pos h1]
    exact st_open I hn hc hin h1
  · rw [if_neg h1]
    by_cases h2 : c i = 33
    · rw [if_pos h2, if_pos (Or.inl h2), if_pos h2]
      exact st_sign I hn hc hin (Or.inl ⟨h2, rfl, rfl⟩)
    · rw [if_neg h2]
      by_cases h3 : c i = 94
      · rw [if_pos h3, if_pos (Or.inr h3), if_neg h2]
        exact st_sign I hn hc hin (Or.inr ⟨h3, rfl, rfl⟩)
      · rw [if_neg h3, if_neg (fun q => q.elim h2 h3), if_neg h1]
        exact st_write I hn hc hin
end Steps2
/-- both loops end alike -/
theorem lock {c : Nat → Int32} {n : Nat} (hn : n ≤ 64) (hc : ∀ i, n ≤ i → c i = 0) : ∀ (m i : Nat) (z y : Sg) (k : List Fr) (dp : Nat → Nat), Inv c n i z y k dp → n - i ≤ m →
    ((xLoop c n m (some i) z k).1 = some n ∧ (mLoop c n (m + 1) (some i) y (hds k)).1 = some n ∧ (mLoop c n (m + 1) (some i) y (hds k)).2.2 = hds (xLoop c n m (some i) z k).2.2 ∧ ∃ dp', Inv c n n (xLoop c n m (some i) z k).2.1 (mLoop c n (m + 1) (some i) y (hds k)).2.1 (xLoop c n m (some i) z k).2.2 dp') ∨
    ((xLoop c n m (some i) z k).1 = none ∧ (mLoop c n (m + 1) (some i) y (hds k)).1 = none) := by
  have hend : ∀ (i : Nat) (z y : Sg) (k : List Fr) (dp : Nat → Nat), Inv c n i z y k dp → ¬ i < n → ((some i, z, k) : Option Nat × Sg × List Fr).1 = some n ∧ ((some i, y, hds k) : Option Nat × Sg × List Nat).1 = some n ∧ hds k = hds k ∧ ∃ dp', Inv c n n z y k dp' := by
    intro i z y k dp I h
    have e : i = n := by have := I.1; omega
    subst e
    exact ⟨rfl, rfl, rfl, dp, I⟩
  intro m
  induction m with
  | zero =>
    intro i z y k dp I h
    have hi : ¬ i < n := by omega
    have e2 : mLoop c n 1 (some i) y (hds k) = (some i, y, hds k) := by simp only [mLoop, if_neg hi]
    rw [e2]
    exact Or.inl (hend i z y k dp I hi)
  | succ m ih =>
    intro i z y k dp I h
    by_cases hi : i < n
    · have hS : Step c n i (if c i = 125 then fClose c z i k else fStmt c z i k) (mPart c y i (hds k)) := by
        by_cases h5 : c i = 125
        · rw [if_pos h5]
          unfold mPart
          rw [if_pos h5]
          exact st_close I hn hc hi h5
        · rw [if_neg h5]; exact st_stmt I hn hc hi h5
      have e1 : xLoop c n (m + 1) (some i) z k = xLoop c n m (if c i = 125 then fClose c z i k else fStmt c z i k).1 (if c i = 125 then fClose c z i k else fStmt c z i k).2.1 (if c i = 125 then fClose c z i k else fStmt c z i k).2.2 := by
        simp only [xLoop, if_pos hi]
        by_cases h5 : c i = 125
        · simp only [if_pos h5]
        · simp only [if_neg h5]
      have e2 : mLoop c n (m + 1 + 1) (some i) y (hds k) = mLoop c n (m + 1) (mPart c y i (hds k)).1 (mPart c y i (hds k)).2.1 (mPart c y i (hds k)).2.2 := by
        simp only [mLoop, if_pos hi]
      rw [e1, e2]
      generalize (if c i = 125 then fClose c z i k else fStmt c z i k) = X at hS ⊢
      generalize mPart c y i (hds k) = Q at hS ⊢
      obtain ⟨X1, X2, X3⟩ := X
      obtain ⟨Q1, Q2, Q3⟩ := Q
      rcases hS with ⟨s1, s2⟩ | ⟨i', dp', s0, s1, s2, s3, s4⟩
      · have s1 : X1 = none := s1
        have s2 : Q1 = none := s2
        subst s1; subst s2
        right
        refine ⟨?_, by simp only [mLoop]⟩
        cases m with
        | zero => rfl
        | succ m => simp only [xLoop]
      · have s1 : X1 = some i' := s1
        have s2 : Q1 = some i' := s2
        have s3 : Q3 = hds X3 := s3
        subst s1; subst s2; subst s3
        exact ih i' X2 Q2 X3 dp' s4 (by omega)
    · have e1 : xLoop c n (m + 1) (some i) z k = (some i, z, k) := by simp only [xLoop, if_neg hi]
      have e2 : mLoop c n (m + 1 + 1) (some i) y (hds k) = (some i, y, hds k) := by simp only [mLoop, if_neg hi]
      rw [e1, e2]
      exact Or.inl (hend i z y k dp I hi)
end
section
/-! The pure part: the whole text; ways out of blocks -/
theorem chr_0 (t : Nat → Int32) (n : Nat) : ∀ i, n ≤ i → chr t n i = 0 := fun i h => if_neg (by omega)
theorem inv_0 (c : Nat → Int32) (n : Nat) (z y : Sg) : Inv c n 0 (z0 z) (y0 y) [] (fun _ => 0) := by
  have ez : ∀ p, p < 65 → z0 z 2 p = 0 := fun p hp => by
    unfold z0
    rw [us_c (by decide), us_c (by decide), uc_s]; exact if_pos hp
  have ey : ∀ p, p < 65 → y0 y 3 p = 0 := fun p hp => by
    unfold y0
    rw [us_c (by decide), us_c (by decide), uc_s]; exact if_pos hp
  refine ⟨Nat.zero_le _, Nat.zero_le _, ?_, fun p _ hp => ⟨ez p hp, ey p hp⟩, fun p h => absurd h (Nat.not_lt_zero _), fun p h => absurd h (Nat.not_lt_zero _), fun p h => absurd h (Nat.not_lt_zero _), trivial, fun p h => absurd h (Nat.not_lt_zero _), fun p h => absurd h (Nat.not_lt_zero _)⟩
  unfold z0 y0
  rw [us_p (by decide), us_hit, us_p (by decide), us_hit]
/-- both parses of one text -/
theorem par_lock (t : Nat → Int32) (n : Nat) (hn : n ≤ 64) (z y : Sg) :
    (((xPar t n z).1 = some n ∧ (xPar t n z).2.2 = []) ∧ mOk t n y ∧ ∃ dp, Inv (chr t n) n n (xPar t n z).2.1 (mPar t n y).2.1 [] dp) ∨ (¬ ((xPar t n z).1 = some n ∧ (xPar t n z).2.2 = []) ∧ ¬ mOk t n y) := by
  have L := lock hn (chr_0 t n) 64 0 (z0 z) (y0 y) [] (fun _ => 0) (inv_0 (chr t n) n z y) (by omega)
  have e1 : xLoop (chr t n) n 64 (some 0) (z0 z) [] = xPar t n z := rfl
  have e2 : mLoop (chr t n) n (64 + 1) (some 0) (y0 y) (hds []) = mPar t n y := rfl
  rw [e1, e2] at L
  rcases L with ⟨h1, h2, h3, dp, h4⟩ | ⟨h1, h2⟩
  · by_cases hk : (xPar t n z).2.2 = []
    · rw [hk] at h3 h4
      exact Or.inl ⟨⟨h1, hk⟩, ⟨by rw [h2]; rfl, h3⟩, dp, h4⟩
    · refine Or.inr ⟨fun q => hk q.2, fun q => hk ?_⟩
      have q2 := q.2
      rw [h3] at q2
      exact List.map_eq_nil_iff.mp q2
  · refine Or.inr ⟨(fun q => by rw [h1] at q; cases q.1), (fun q => ?_)⟩
    have := q.1
    rw [h2] at this; cases this
def exF (Z : Sg) (p : Nat) : Nat := (Z 9 p).toNatClampNeg
def wyF (Z : Sg) (p : Nat) : Nat := (Z 7 p).toNatClampNeg
def owF (Z : Sg) (p : Nat) : Nat := (Z 8 p).toNatClampNeg
theorem fOut_n {c : Nat → Int32} {ex : Nat → Nat} {a : Nat} (h : ¬ c a = 125) : ∀ f, fOut c ex f a = a
  | 0 => rfl
  | f + 1 => if_neg h
section Final
variable {c : Nat → Int32} {n : Nat} {Z Y : Sg} {dp : Nat → Nat}
theorem fin_125 (hc : ∀ i, n ≤ i → c i = 0) {p : Nat} (h : c p = 125) : p < n := Nat.not_le.mp (fun q => by rw [hc p q] at h; exact absurd h (by decide))
theorem con_0 {p : Nat} (h : Con c Z Y p) (h0 : Z 2 p = 0) : Y 3 p = 0 := by
  rcases h with h | h | h | h | h | h
  · exact h.2
  · have := h.1; rw [h0] at this; exact absurd this (by decide)
  · have := h.1; rw [h0] at this; exact absurd this (by decide)
  · have := h.1; rw [h0] at this; exact absurd this (by decide)
  · have := h.1; rw [h0] at this; exact absurd this (by decide)
  · have := h.1.1; rw [h0] at this; exact absurd this (by decide)
theorem con_2 {p : Nat} (h : Con c Z Y p) (h0 : Z 2 p = 2) : Z 7 p = nI (p + 1) ∧ ((c p = 63 ∧ Y 3 p = 3) ∨ (c p = 42 ∧ Y 3 p = 4)) := by
  rcases h with h | h | h | h | h | h
  · have := h.1; rw [h0] at this; exact absurd this (by decide)
  · have := h.1; rw [h0] at this; exact absurd this (by decide)
  · exact h.2
  · have := h.1; rw [h0] at this; exact absurd this (by decide)
  · have := h.1; rw [h0] at this; exact absurd this (by decide)
  · have := h.1.1; rw [h0] at this; exact absurd this (by decide)
/-- a landing place that is no brace -/
theorem out_here (I : Inv c n n Z Y [] dp) (hc : ∀ i, n ≤ i → c i = 0) {a : Nat} (hL : Land c n Z a) (h5 : ¬ c a = 125) : (∀ f, fOut c (exF Z) f a = a) ∧ (∀ g, 0 < g → Go (us Y 3 n 8 3) (us Y 3 n 8 4) (us Y 3 n 8 7) n g a a) ∧ a ≤ n ∧ ¬ us Z 2 n 6 2 a = 0 := by
  have hro : 0 < us Y 3 n 8 3 a ∧ ¬ us Z 2 n 6 2 a = 0 := by
    by_cases ha : a = n
    · subst ha; rw [us_hit, us_hit]; decide
    · have hl : a < n := by have := hL.1; omega
      rw [us_p ha, us_p ha]
      have h2 := (hL.2 hl).elim (fun q => absurd q h5) id
      exact ⟨((I.2.2.2.2.1 a hl).n125 h2).2, h2⟩
  refine ⟨fOut_n h5, fun g hg => ?_, hL.1, hro.2⟩
  cases g with
  | zero => omega
  | succ g => exact ⟨hL.1, Or.inl ⟨hro.1, rfl⟩⟩
theorem out_ok (I : Inv c n n Z Y [] dp) (hn : n ≤ 64) (hc : ∀ i, n ≤ i → c i = 0) : ∀ (d a : Nat), Land c n Z a → (c a = 125 → dp a ≤ d) → ∃ r, (∀ f, d ≤ f → fOut c (exF Z) f a = r) ∧ (∀ g, d < g → Go (us Y 3 n 8 3) (us Y 3 n 8 4) (us Y 3 n 8 7) n g a r) ∧ r ≤ n ∧ ¬ us Z 2 n 6 2 r = 0 ∧ ¬ c r = 125 := by
  intro d
  induction d with
  | zero =>
    intro a hL hd
    have h5 : ¬ c a = 125 := fun q => by
      have := (I.2.2.2.2.2.2.2.2.1 a (fin_125 hc q) q).2.1.1
      have := hd q; omega
    obtain ⟨h1, h2, h3, h4⟩ := out_here I hc hL h5
    exact ⟨a, fun f _ => h1 f, h2, h3, h4, h5⟩
  | succ d ih =>
    intro a hL hd
    by_cases h5 : c a = 125
    · have ha := fin_125 hc h5
      obtain ⟨b1, b2, b3⟩ := I.2.2.2.2.2.2.2.2.1 a ha h5
      have hy3 : ¬ 0 < us Y 3 n 8 3 a := by
        rw [us_p (by omega), con_0 (I.2.2.2.2.1 a ha) b1]; decide
      rcases b3 with ⟨fr, w, -⟩ | ⟨h, o, e, f, -, g2, g3, g4, g5⟩
      · cases w
      · have hhn : h < n := by have := g2.2.1; have := g2.2.2.1; omega
        have hy4 : us Y 3 n 8 4 a = nI h := by rw [us_c (by decide)]; exact g3
        have h2 := con_2 (I.2.2.2.2.1 h hhn) g2.2.2.2.2.1
        have hro : us Y 3 n 8 3 h = Y 3 h := us_p (by omega)
        by_cases hl : c h = 42
        · have hr4 : us Y 3 n 8 3 h = 4 := by
            rw [hro]; rcases h2.2 with ⟨q, _⟩ | ⟨_, q⟩
            · rw [hl] at q; exact absurd q (by decide)
            · exact q
          have h7 := I.2.2.2.2.2.2.1 h hhn g2.2.2.2.2.1
          have hn5 : ¬ c (h + 1) = 125 := ((I.2.2.2.2.1 (h + 1) h7.2).n125 (by rw [h7.1]; decide)).1
          have hex : exF Z a = h + 1 := by
            unfold exF; rw [g4, if_pos hl]; exact cl_nI (by omega)
          refine ⟨h + 1, fun f hf => ?_, fun g hg => ?_, by omega, ?_, hn5⟩
          · cases f with
            | zero => omega
            | succ f => simp only [fOut, if_pos h5, hex]; exact fOut_n hn5 f
          · cases g with
            | zero => omega
            | succ g => exact ⟨by omega, Or.inr ⟨hy3, h, by omega, hy4, Or.inl ⟨hr4, rfl⟩⟩⟩
          · rw [us_p (by omega), h7.1]; decide
        · have hr3 : ¬ us Y 3 n 8 3 h = 4 := by
            rw [hro]; rcases h2.2 with ⟨_, q⟩ | ⟨q, _⟩
            · rw [q]; decide
            · exact absurd q hl
          have hbh : us Y 3 n 8 7 h = nI e := by rw [us_c (by decide)]; exact g2.2.2.2.2.2.2.2.1
          have hLe := g2.2.2.2.2.2.2.2.2.1
          have hex : exF Z a = e := by
            unfold exF; rw [g4, if_neg hl]; exact cl_nI (by have := hLe.1; omega)
          obtain ⟨r, r1, r2, r3, r4, r5⟩ := ih e hLe (fun q => by
            have := (g5 hl).2 (fin_125 hc q) q
            have := hd h5
            omega)
          refine ⟨r, fun f hf => ?_, fun g hg => ?_, r3, r4, r5⟩
          · cases f with
            | zero => omega
            | succ f => simp only [fOut, if_pos h5, hex]; exact r1 f (by omega)
          · cases g with
            | zero => omega
            | succ g => exact ⟨by omega, Or.inr ⟨hy3, h, by omega, hy4, Or.inr ⟨hr3, e, hbh, r2 g (by omega)⟩⟩⟩
    · obtain ⟨h1, h2, h3, h4⟩ := out_here I hc hL h5
      exact ⟨a, fun f _ => h1 f, fun g _ => h2 g (by omega), h3, h4, h5⟩
/-- out of blocks: both alike -/
theorem out_6 (I : Inv c n n Z Y [] dp) (hn : n ≤ 64) (hc : ∀ i, n ≤ i → c i = 0) {a : Nat} (hL : Land c n Z a) : Go (us Y 3 n 8 3) (us Y 3 n 8 4) (us Y 3 n 8 7) n 65 a (fOut c (exF Z) 6 a) ∧ fOut c (exF Z) 6 a ≤ n ∧ ¬ us Z 2 n 6 2 (fOut c (exF Z) 6 a) = 0 := by
  obtain ⟨r, r1, r2, r3, r4, -⟩ := out_ok I hn hc 6 a hL (fun q => (I.2.2.2.2.2.2.2.2.1 a (fin_125 hc q) q).2.1.2)
  rw [r1 6 (Nat.le_refl _)]
  exact ⟨r2 65 (by decide), r3, r4⟩
/-- an atom's next ones -/
theorem Cm_next {c : Nat → Int32} : ∀ (f a o q j : Nat), Ch c f a o → Cm c f a q → aEnd c q = some j → (c j = 38 ∨ c j = 124) → Cm c f a (j + 1)
  | 0, _, _, _, _, h, _, _, _ => h.elim
  | f + 1, a, o, q, j, ⟨j1, h1, h2⟩, hm, he, hs => by
    rcases hm with rfl | ⟨j', h5, h6, h7⟩
    · have e : j1 = j := Option.some.inj (h1.symm.trans he)
      subst e
      rcases h2 with ⟨h8, h9⟩ | ⟨h8, h9⟩
      · rw [h8, h9] at hs; exact absurd hs (by decide)
      · exact Or.inr ⟨j1, h1, h8, Cm_a h9⟩
    · have e : j' = j1 := Option.some.inj (h5.symm.trans h1)
      subst e
      rcases h2 with ⟨h8, h9⟩ | ⟨h8, h9⟩
      · rw [h8, h9] at h6; exact absurd h6 (by decide)
      · exact Or.inr ⟨j', h1, h6, Cm_next f (j' + 1) o q j h9 h7 he hs⟩
theorem Fs_next {c : Nat → Int32} {f0 a o : Nat} (hC : Ch c f0 a o) : ∀ (f q j k : Nat), Cm c f0 a q → aEnd c q = some j → Fs c f j k → c k = 124 → Cm c f0 a (k + 1)
  | 0, q, j, k, hm, he, h, hk => by rw [h.1] at hk ⊢; exact Cm_next f0 a o q j hC hm he (Or.inr hk)
  | f + 1, q, j, k, hm, he, h, hk => by
    rcases h with ⟨h1, h2⟩ | ⟨h1, q', h2, h3⟩
    · rw [h2] at hk ⊢; exact Cm_next f0 a o q j hC hm he (Or.inr hk)
    · have hm2 := Cm_next f0 a o q j hC hm he (Or.inl h1)
      obtain ⟨j2, g1, -⟩ := Cm_atm f0 a o (j + 1) hC hm2
      have e : j2 = q' := Option.some.inj ((atm_some g1).1.symm.trans h2)
      subst e
      exact Fs_next hC f (j + 1) j2 k hm2 g1 h3 hk
end Final
end
