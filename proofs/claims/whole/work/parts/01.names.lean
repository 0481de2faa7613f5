-- ===== PART A: goes FIRST, ahead of the names: the tables' words, and 'selects' of the private methods out of them =====
/-- a private method of a class that the tables say can be made, by its rows of tables_1 -/
def lw_okq (q : MethodName × Nat) : Prop := (q.1.cls ≠ "java/lang/invoke/MethodHandle" ∧ q.1.cls ≠ "java/lang/invoke/VarHandle") ∧ Cond.instantiable q.1.cls q.2 ∈ tables_1 ∧ Cond.privateMethod q.1 ∈ tables_1 ∧ Cond.instanceMethod q.1 ∈ tables_1
theorem lw_p0 : lw_okq (⟨"ThreadsAndSplits$Reader", "stepOn", "()V"⟩, 10) := ⟨⟨by decide +kernel, by decide +kernel⟩, List.mem_of_getElem? (i := 31) (by decide +kernel), List.mem_of_getElem? (i := 238) (by decide +kernel), List.mem_of_getElem? (i := 239) (by decide +kernel)⟩
theorem lw_p1 : lw_okq (⟨"ThreadsAndSplits$Reader", "byteAt", "(I)I"⟩, 10) := ⟨⟨by decide +kernel, by decide +kernel⟩, List.mem_of_getElem? (i := 31) (by decide +kernel), List.mem_of_getElem? (i := 242) (by decide +kernel), List.mem_of_getElem? (i := 243) (by decide +kernel)⟩
theorem lw_p2 : lw_okq (⟨"ThreadsAndSplits$Reader", "stepOverWord", "()V"⟩, 10) := ⟨⟨by decide +kernel, by decide +kernel⟩, List.mem_of_getElem? (i := 31) (by decide +kernel), List.mem_of_getElem? (i := 249) (by decide +kernel), List.mem_of_getElem? (i := 250) (by decide +kernel)⟩
theorem lw_p3 : lw_okq (⟨"ThreadsAndSplits$Reader", "isWordAt", "(I)Z"⟩, 10) := ⟨⟨by decide +kernel, by decide +kernel⟩, List.mem_of_getElem? (i := 31) (by decide +kernel), List.mem_of_getElem? (i := 255) (by decide +kernel), List.mem_of_getElem? (i := 256) (by decide +kernel)⟩
theorem lw_p4 : lw_okq (⟨"ThreadsAndSplits$Reader", "stepOverNumber", "()V"⟩, 10) := ⟨⟨by decide +kernel, by decide +kernel⟩, List.mem_of_getElem? (i := 31) (by decide +kernel), List.mem_of_getElem? (i := 263) (by decide +kernel), List.mem_of_getElem? (i := 264) (by decide +kernel)⟩
theorem lw_p5 : lw_okq (⟨"ThreadsAndSplits$Reader", "demand", "(I)V"⟩, 10) := ⟨⟨by decide +kernel, by decide +kernel⟩, List.mem_of_getElem? (i := 31) (by decide +kernel), List.mem_of_getElem? (i := 327) (by decide +kernel), List.mem_of_getElem? (i := 328) (by decide +kernel)⟩
theorem lw_p6 : lw_okq (⟨"ThreadsAndSplits$Reader", "isNow", "(I)Z"⟩, 10) := ⟨⟨by decide +kernel, by decide +kernel⟩, List.mem_of_getElem? (i := 31) (by decide +kernel), List.mem_of_getElem? (i := 331) (by decide +kernel), List.mem_of_getElem? (i := 332) (by decide +kernel)⟩
theorem lw_p7 : lw_okq (⟨"ThreadsAndSplits$Reader", "failHere", "()V"⟩, 10) := ⟨⟨by decide +kernel, by decide +kernel⟩, List.mem_of_getElem? (i := 31) (by decide +kernel), List.mem_of_getElem? (i := 335) (by decide +kernel), List.mem_of_getElem? (i := 336) (by decide +kernel)⟩
theorem lw_p8 : lw_okq (⟨"ThreadsAndSplits$Reader", "readAny", "(I)V"⟩, 10) := ⟨⟨by decide +kernel, by decide +kernel⟩, List.mem_of_getElem? (i := 31) (by decide +kernel), List.mem_of_getElem? (i := 339) (by decide +kernel), List.mem_of_getElem? (i := 340) (by decide +kernel)⟩
theorem lw_p9 : lw_okq (⟨"ThreadsAndSplits$Reader", "readAll", "(I)V"⟩, 10) := ⟨⟨by decide +kernel, by decide +kernel⟩, List.mem_of_getElem? (i := 31) (by decide +kernel), List.mem_of_getElem? (i := 343) (by decide +kernel), List.mem_of_getElem? (i := 344) (by decide +kernel)⟩
theorem lw_p10 : lw_okq (⟨"ThreadsAndSplits$Reader", "readNot", "(I)V"⟩, 10) := ⟨⟨by decide +kernel, by decide +kernel⟩, List.mem_of_getElem? (i := 31) (by decide +kernel), List.mem_of_getElem? (i := 347) (by decide +kernel), List.mem_of_getElem? (i := 348) (by decide +kernel)⟩
theorem lw_p11 : lw_okq (⟨"ThreadsAndSplits$Reader", "mayOpen", "(I)Z"⟩, 10) := ⟨⟨by decide +kernel, by decide +kernel⟩, List.mem_of_getElem? (i := 31) (by decide +kernel), List.mem_of_getElem? (i := 351) (by decide +kernel), List.mem_of_getElem? (i := 352) (by decide +kernel)⟩
theorem lw_p12 : lw_okq (⟨"ThreadsAndSplits$Reader", "emit", "(I)V"⟩, 10) := ⟨⟨by decide +kernel, by decide +kernel⟩, List.mem_of_getElem? (i := 31) (by decide +kernel), List.mem_of_getElem? (i := 355) (by decide +kernel), List.mem_of_getElem? (i := 356) (by decide +kernel)⟩
theorem lw_p13 : lw_okq (⟨"ThreadsAndSplits$Reader", "readSum", "(I)V"⟩, 10) := ⟨⟨by decide +kernel, by decide +kernel⟩, List.mem_of_getElem? (i := 31) (by decide +kernel), List.mem_of_getElem? (i := 359) (by decide +kernel), List.mem_of_getElem? (i := 360) (by decide +kernel)⟩
theorem lw_p14 : lw_okq (⟨"ThreadsAndSplits$Reader", "readTerm", "(I)V"⟩, 10) := ⟨⟨by decide +kernel, by decide +kernel⟩, List.mem_of_getElem? (i := 31) (by decide +kernel), List.mem_of_getElem? (i := 363) (by decide +kernel), List.mem_of_getElem? (i := 364) (by decide +kernel)⟩
theorem lw_p15 : lw_okq (⟨"ThreadsAndSplits$Reader", "readOne", "(I)V"⟩, 10) := ⟨⟨by decide +kernel, by decide +kernel⟩, List.mem_of_getElem? (i := 31) (by decide +kernel), List.mem_of_getElem? (i := 367) (by decide +kernel), List.mem_of_getElem? (i := 368) (by decide +kernel)⟩
def lw_privs_1 : List (MethodName × Nat) := [(⟨"ThreadsAndSplits$Reader", "stepOn", "()V"⟩, 10), (⟨"ThreadsAndSplits$Reader", "byteAt", "(I)I"⟩, 10), (⟨"ThreadsAndSplits$Reader", "stepOverWord", "()V"⟩, 10), (⟨"ThreadsAndSplits$Reader", "isWordAt", "(I)Z"⟩, 10), (⟨"ThreadsAndSplits$Reader", "stepOverNumber", "()V"⟩, 10), (⟨"ThreadsAndSplits$Reader", "demand", "(I)V"⟩, 10), (⟨"ThreadsAndSplits$Reader", "isNow", "(I)Z"⟩, 10), (⟨"ThreadsAndSplits$Reader", "failHere", "()V"⟩, 10), (⟨"ThreadsAndSplits$Reader", "readAny", "(I)V"⟩, 10), (⟨"ThreadsAndSplits$Reader", "readAll", "(I)V"⟩, 10), (⟨"ThreadsAndSplits$Reader", "readNot", "(I)V"⟩, 10), (⟨"ThreadsAndSplits$Reader", "mayOpen", "(I)Z"⟩, 10), (⟨"ThreadsAndSplits$Reader", "emit", "(I)V"⟩, 10), (⟨"ThreadsAndSplits$Reader", "readSum", "(I)V"⟩, 10), (⟨"ThreadsAndSplits$Reader", "readTerm", "(I)V"⟩, 10), (⟨"ThreadsAndSplits$Reader", "readOne", "(I)V"⟩, 10)]
theorem lw_r1 : ∀ q ∈ lw_privs_1, lw_okq q := List.forall_mem_cons.mpr ⟨lw_p0, List.forall_mem_cons.mpr ⟨lw_p1, List.forall_mem_cons.mpr ⟨lw_p2, List.forall_mem_cons.mpr ⟨lw_p3, List.forall_mem_cons.mpr ⟨lw_p4, List.forall_mem_cons.mpr ⟨lw_p5, List.forall_mem_cons.mpr ⟨lw_p6, List.forall_mem_cons.mpr ⟨lw_p7, List.forall_mem_cons.mpr ⟨lw_p8, List.forall_mem_cons.mpr ⟨lw_p9, List.forall_mem_cons.mpr ⟨lw_p10, List.forall_mem_cons.mpr ⟨lw_p11, List.forall_mem_cons.mpr ⟨lw_p12, List.forall_mem_cons.mpr ⟨lw_p13, List.forall_mem_cons.mpr ⟨lw_p14, List.forall_mem_cons.mpr ⟨lw_p15, fun _ h => absurd h List.not_mem_nil⟩⟩⟩⟩⟩⟩⟩⟩⟩⟩⟩⟩⟩⟩⟩⟩
theorem lw_p16 : lw_okq (⟨"ThreadsAndSplits", "cheeseAt", "(I)LThreadsAndSplits$Cheese;"⟩, 17) := ⟨⟨by decide +kernel, by decide +kernel⟩, List.mem_of_getElem? (i := 17) (by decide +kernel), List.mem_of_getElem? (i := 453) (by decide +kernel), List.mem_of_getElem? (i := 454) (by decide +kernel)⟩
theorem lw_p17 : lw_okq (⟨"ThreadsAndSplits", "actAt", "(I)LThreadsAndSplits$Act;"⟩, 17) := ⟨⟨by decide +kernel, by decide +kernel⟩, List.mem_of_getElem? (i := 17) (by decide +kernel), List.mem_of_getElem? (i := 518) (by decide +kernel), List.mem_of_getElem? (i := 519) (by decide +kernel)⟩
theorem lw_p18 : lw_okq (⟨"ThreadsAndSplits", "hasActs", "(I)Z"⟩, 17) := ⟨⟨by decide +kernel, by decide +kernel⟩, List.mem_of_getElem? (i := 17) (by decide +kernel), List.mem_of_getElem? (i := 547) (by decide +kernel), List.mem_of_getElem? (i := 548) (by decide +kernel)⟩
theorem lw_p19 : lw_okq (⟨"ThreadsAndSplits", "cookActs", "(I)V"⟩, 17) := ⟨⟨by decide +kernel, by decide +kernel⟩, List.mem_of_getElem? (i := 17) (by decide +kernel), List.mem_of_getElem? (i := 554) (by decide +kernel), List.mem_of_getElem? (i := 555) (by decide +kernel)⟩
theorem lw_p20 : lw_okq (⟨"ThreadsAndSplits", "beginPot", "()V"⟩, 17) := ⟨⟨by decide +kernel, by decide +kernel⟩, List.mem_of_getElem? (i := 17) (by decide +kernel), List.mem_of_getElem? (i := 558) (by decide +kernel), List.mem_of_getElem? (i := 559) (by decide +kernel)⟩
theorem lw_p21 : lw_okq (⟨"ThreadsAndSplits", "lawAt", "(I)LThreadsAndSplits$Law;"⟩, 17) := ⟨⟨by decide +kernel, by decide +kernel⟩, List.mem_of_getElem? (i := 17) (by decide +kernel), List.mem_of_getElem? (i := 562) (by decide +kernel), List.mem_of_getElem? (i := 563) (by decide +kernel)⟩
theorem lw_p22 : lw_okq (⟨"ThreadsAndSplits", "runActs", "(II)V"⟩, 17) := ⟨⟨by decide +kernel, by decide +kernel⟩, List.mem_of_getElem? (i := 17) (by decide +kernel), List.mem_of_getElem? (i := 570) (by decide +kernel), List.mem_of_getElem? (i := 571) (by decide +kernel)⟩
theorem lw_p23 : lw_okq (⟨"ThreadsAndSplits$Pot", "pourIn", "(II)V"⟩, 17) := ⟨⟨by decide +kernel, by decide +kernel⟩, List.mem_of_getElem? (i := 71) (by decide +kernel), List.mem_of_getElem? (i := 578) (by decide +kernel), List.mem_of_getElem? (i := 579) (by decide +kernel)⟩
theorem lw_p24 : lw_okq (⟨"ThreadsAndSplits$Pot", "flicker", "()I"⟩, 17) := ⟨⟨by decide +kernel, by decide +kernel⟩, List.mem_of_getElem? (i := 71) (by decide +kernel), List.mem_of_getElem? (i := 599) (by decide +kernel), List.mem_of_getElem? (i := 600) (by decide +kernel)⟩
theorem lw_p25 : lw_okq (⟨"ThreadsAndSplits$Pot", "worth", "(II)I"⟩, 17) := ⟨⟨by decide +kernel, by decide +kernel⟩, List.mem_of_getElem? (i := 71) (by decide +kernel), List.mem_of_getElem? (i := 606) (by decide +kernel), List.mem_of_getElem? (i := 607) (by decide +kernel)⟩
theorem lw_p26 : lw_okq (⟨"ThreadsAndSplits$Pot", "named", "(I)I"⟩, 17) := ⟨⟨by decide +kernel, by decide +kernel⟩, List.mem_of_getElem? (i := 71) (by decide +kernel), List.mem_of_getElem? (i := 622) (by decide +kernel), List.mem_of_getElem? (i := 623) (by decide +kernel)⟩
theorem lw_p27 : lw_okq (⟨"ThreadsAndSplits$Pot", "settle", "()V"⟩, 17) := ⟨⟨by decide +kernel, by decide +kernel⟩, List.mem_of_getElem? (i := 71) (by decide +kernel), List.mem_of_getElem? (i := 629) (by decide +kernel), List.mem_of_getElem? (i := 630) (by decide +kernel)⟩
theorem lw_p28 : lw_okq (⟨"ThreadsAndSplits", "firstSplit", "()I"⟩, 17) := ⟨⟨by decide +kernel, by decide +kernel⟩, List.mem_of_getElem? (i := 17) (by decide +kernel), List.mem_of_getElem? (i := 660) (by decide +kernel), List.mem_of_getElem? (i := 661) (by decide +kernel)⟩
theorem lw_p29 : lw_okq (⟨"ThreadsAndSplits", "greatestLeak", "()I"⟩, 17) := ⟨⟨by decide +kernel, by decide +kernel⟩, List.mem_of_getElem? (i := 17) (by decide +kernel), List.mem_of_getElem? (i := 665) (by decide +kernel), List.mem_of_getElem? (i := 666) (by decide +kernel)⟩
theorem lw_p30 : lw_okq (⟨"ThreadsAndSplits", "holdsWith", "(III)Z"⟩, 17) := ⟨⟨by decide +kernel, by decide +kernel⟩, List.mem_of_getElem? (i := 17) (by decide +kernel), List.mem_of_getElem? (i := 678) (by decide +kernel), List.mem_of_getElem? (i := 679) (by decide +kernel)⟩
theorem lw_p31 : lw_okq (⟨"ThreadsAndSplits", "sheetAt", "(I)LThreadsAndSplits$Sheet;"⟩, 17) := ⟨⟨by decide +kernel, by decide +kernel⟩, List.mem_of_getElem? (i := 17) (by decide +kernel), List.mem_of_getElem? (i := 762) (by decide +kernel), List.mem_of_getElem? (i := 763) (by decide +kernel)⟩
def lw_privs_2 : List (MethodName × Nat) := [(⟨"ThreadsAndSplits", "cheeseAt", "(I)LThreadsAndSplits$Cheese;"⟩, 17), (⟨"ThreadsAndSplits", "actAt", "(I)LThreadsAndSplits$Act;"⟩, 17), (⟨"ThreadsAndSplits", "hasActs", "(I)Z"⟩, 17), (⟨"ThreadsAndSplits", "cookActs", "(I)V"⟩, 17), (⟨"ThreadsAndSplits", "beginPot", "()V"⟩, 17), (⟨"ThreadsAndSplits", "lawAt", "(I)LThreadsAndSplits$Law;"⟩, 17), (⟨"ThreadsAndSplits", "runActs", "(II)V"⟩, 17), (⟨"ThreadsAndSplits$Pot", "pourIn", "(II)V"⟩, 17), (⟨"ThreadsAndSplits$Pot", "flicker", "()I"⟩, 17), (⟨"ThreadsAndSplits$Pot", "worth", "(II)I"⟩, 17), (⟨"ThreadsAndSplits$Pot", "named", "(I)I"⟩, 17), (⟨"ThreadsAndSplits$Pot", "settle", "()V"⟩, 17), (⟨"ThreadsAndSplits", "firstSplit", "()I"⟩, 17), (⟨"ThreadsAndSplits", "greatestLeak", "()I"⟩, 17), (⟨"ThreadsAndSplits", "holdsWith", "(III)Z"⟩, 17), (⟨"ThreadsAndSplits", "sheetAt", "(I)LThreadsAndSplits$Sheet;"⟩, 17)]
theorem lw_r2 : ∀ q ∈ lw_privs_2, lw_okq q := List.forall_mem_cons.mpr ⟨lw_p16, List.forall_mem_cons.mpr ⟨lw_p17, List.forall_mem_cons.mpr ⟨lw_p18, List.forall_mem_cons.mpr ⟨lw_p19, List.forall_mem_cons.mpr ⟨lw_p20, List.forall_mem_cons.mpr ⟨lw_p21, List.forall_mem_cons.mpr ⟨lw_p22, List.forall_mem_cons.mpr ⟨lw_p23, List.forall_mem_cons.mpr ⟨lw_p24, List.forall_mem_cons.mpr ⟨lw_p25, List.forall_mem_cons.mpr ⟨lw_p26, List.forall_mem_cons.mpr ⟨lw_p27, List.forall_mem_cons.mpr ⟨lw_p28, List.forall_mem_cons.mpr ⟨lw_p29, List.forall_mem_cons.mpr ⟨lw_p30, List.forall_mem_cons.mpr ⟨lw_p31, fun _ h => absurd h List.not_mem_nil⟩⟩⟩⟩⟩⟩⟩⟩⟩⟩⟩⟩⟩⟩⟩⟩
theorem lw_p32 : lw_okq (⟨"ThreadsAndSplits", "refusedAsTest", "(LThreadsAndSplits$Sheet;)I"⟩, 17) := ⟨⟨by decide +kernel, by decide +kernel⟩, List.mem_of_getElem? (i := 17) (by decide +kernel), List.mem_of_getElem? (i := 766) (by decide +kernel), List.mem_of_getElem? (i := 767) (by decide +kernel)⟩
theorem lw_p33 : lw_okq (⟨"ThreadsAndSplits", "oilIsAsTold", "(LThreadsAndSplits$Sheet;I)Z"⟩, 17) := ⟨⟨by decide +kernel, by decide +kernel⟩, List.mem_of_getElem? (i := 17) (by decide +kernel), List.mem_of_getElem? (i := 801) (by decide +kernel), List.mem_of_getElem? (i := 802) (by decide +kernel)⟩
theorem lw_p34 : lw_okq (⟨"ThreadsAndSplits", "cookDrawn", "(II)V"⟩, 17) := ⟨⟨by decide +kernel, by decide +kernel⟩, List.mem_of_getElem? (i := 17) (by decide +kernel), List.mem_of_getElem? (i := 817) (by decide +kernel), List.mem_of_getElem? (i := 818) (by decide +kernel)⟩
theorem lw_p35 : lw_okq (⟨"ThreadsAndSplitsModel", "isCheese", "(I)Z"⟩, 38) := ⟨⟨by decide +kernel, by decide +kernel⟩, List.mem_of_getElem? (i := 877) (by decide +kernel), List.mem_of_getElem? (i := 1014) (by decide +kernel), List.mem_of_getElem? (i := 1015) (by decide +kernel)⟩
theorem lw_p36 : lw_okq (⟨"ThreadsAndSplitsModel", "next", "()V"⟩, 38) := ⟨⟨by decide +kernel, by decide +kernel⟩, List.mem_of_getElem? (i := 877) (by decide +kernel), List.mem_of_getElem? (i := 1046) (by decide +kernel), List.mem_of_getElem? (i := 1047) (by decide +kernel)⟩
theorem lw_p37 : lw_okq (⟨"ThreadsAndSplitsModel", "byteAt", "(I)I"⟩, 38) := ⟨⟨by decide +kernel, by decide +kernel⟩, List.mem_of_getElem? (i := 877) (by decide +kernel), List.mem_of_getElem? (i := 1050) (by decide +kernel), List.mem_of_getElem? (i := 1051) (by decide +kernel)⟩
theorem lw_p38 : lw_okq (⟨"ThreadsAndSplitsModel", "wordOf", "()I"⟩, 38) := ⟨⟨by decide +kernel, by decide +kernel⟩, List.mem_of_getElem? (i := 877) (by decide +kernel), List.mem_of_getElem? (i := 1059) (by decide +kernel), List.mem_of_getElem? (i := 1060) (by decide +kernel)⟩
theorem lw_p39 : lw_okq (⟨"ThreadsAndSplitsModel", "isKey", "(I)Z"⟩, 38) := ⟨⟨by decide +kernel, by decide +kernel⟩, List.mem_of_getElem? (i := 877) (by decide +kernel), List.mem_of_getElem? (i := 1071) (by decide +kernel), List.mem_of_getElem? (i := 1072) (by decide +kernel)⟩
theorem lw_p40 : lw_okq (⟨"ThreadsAndSplitsModel", "wrong", "()V"⟩, 38) := ⟨⟨by decide +kernel, by decide +kernel⟩, List.mem_of_getElem? (i := 877) (by decide +kernel), List.mem_of_getElem? (i := 1075) (by decide +kernel), List.mem_of_getElem? (i := 1076) (by decide +kernel)⟩
theorem lw_p41 : lw_okq (⟨"ThreadsAndSplitsModel", "either", "()V"⟩, 38) := ⟨⟨by decide +kernel, by decide +kernel⟩, List.mem_of_getElem? (i := 877) (by decide +kernel), List.mem_of_getElem? (i := 1079) (by decide +kernel), List.mem_of_getElem? (i := 1080) (by decide +kernel)⟩
theorem lw_p42 : lw_okq (⟨"ThreadsAndSplitsModel", "both", "()V"⟩, 38) := ⟨⟨by decide +kernel, by decide +kernel⟩, List.mem_of_getElem? (i := 877) (by decide +kernel), List.mem_of_getElem? (i := 1083) (by decide +kernel), List.mem_of_getElem? (i := 1084) (by decide +kernel)⟩
theorem lw_p43 : lw_okq (⟨"ThreadsAndSplitsModel", "not", "()V"⟩, 38) := ⟨⟨by decide +kernel, by decide +kernel⟩, List.mem_of_getElem? (i := 877) (by decide +kernel), List.mem_of_getElem? (i := 1087) (by decide +kernel), List.mem_of_getElem? (i := 1088) (by decide +kernel)⟩
theorem lw_p44 : lw_okq (⟨"ThreadsAndSplitsModel", "opens", "()Z"⟩, 38) := ⟨⟨by decide +kernel, by decide +kernel⟩, List.mem_of_getElem? (i := 877) (by decide +kernel), List.mem_of_getElem? (i := 1091) (by decide +kernel), List.mem_of_getElem? (i := 1092) (by decide +kernel)⟩
theorem lw_p45 : lw_okq (⟨"ThreadsAndSplitsModel", "adds", "(I)V"⟩, 38) := ⟨⟨by decide +kernel, by decide +kernel⟩, List.mem_of_getElem? (i := 877) (by decide +kernel), List.mem_of_getElem? (i := 1095) (by decide +kernel), List.mem_of_getElem? (i := 1096) (by decide +kernel)⟩
theorem lw_p46 : lw_okq (⟨"ThreadsAndSplitsModel", "sum", "()V"⟩, 38) := ⟨⟨by decide +kernel, by decide +kernel⟩, List.mem_of_getElem? (i := 877) (by decide +kernel), List.mem_of_getElem? (i := 1099) (by decide +kernel), List.mem_of_getElem? (i := 1100) (by decide +kernel)⟩
theorem lw_p47 : lw_okq (⟨"ThreadsAndSplitsModel", "term", "()V"⟩, 38) := ⟨⟨by decide +kernel, by decide +kernel⟩, List.mem_of_getElem? (i := 877) (by decide +kernel), List.mem_of_getElem? (i := 1103) (by decide +kernel), List.mem_of_getElem? (i := 1104) (by decide +kernel)⟩
def lw_privs_3 : List (MethodName × Nat) := [(⟨"ThreadsAndSplits", "refusedAsTest", "(LThreadsAndSplits$Sheet;)I"⟩, 17), (⟨"ThreadsAndSplits", "oilIsAsTold", "(LThreadsAndSplits$Sheet;I)Z"⟩, 17), (⟨"ThreadsAndSplits", "cookDrawn", "(II)V"⟩, 17), (⟨"ThreadsAndSplitsModel", "isCheese", "(I)Z"⟩, 38), (⟨"ThreadsAndSplitsModel", "next", "()V"⟩, 38), (⟨"ThreadsAndSplitsModel", "byteAt", "(I)I"⟩, 38), (⟨"ThreadsAndSplitsModel", "wordOf", "()I"⟩, 38), (⟨"ThreadsAndSplitsModel", "isKey", "(I)Z"⟩, 38), (⟨"ThreadsAndSplitsModel", "wrong", "()V"⟩, 38), (⟨"ThreadsAndSplitsModel", "either", "()V"⟩, 38), (⟨"ThreadsAndSplitsModel", "both", "()V"⟩, 38), (⟨"ThreadsAndSplitsModel", "not", "()V"⟩, 38), (⟨"ThreadsAndSplitsModel", "opens", "()Z"⟩, 38), (⟨"ThreadsAndSplitsModel", "adds", "(I)V"⟩, 38), (⟨"ThreadsAndSplitsModel", "sum", "()V"⟩, 38), (⟨"ThreadsAndSplitsModel", "term", "()V"⟩, 38)]
theorem lw_r3 : ∀ q ∈ lw_privs_3, lw_okq q := List.forall_mem_cons.mpr ⟨lw_p32, List.forall_mem_cons.mpr ⟨lw_p33, List.forall_mem_cons.mpr ⟨lw_p34, List.forall_mem_cons.mpr ⟨lw_p35, List.forall_mem_cons.mpr ⟨lw_p36, List.forall_mem_cons.mpr ⟨lw_p37, List.forall_mem_cons.mpr ⟨lw_p38, List.forall_mem_cons.mpr ⟨lw_p39, List.forall_mem_cons.mpr ⟨lw_p40, List.forall_mem_cons.mpr ⟨lw_p41, List.forall_mem_cons.mpr ⟨lw_p42, List.forall_mem_cons.mpr ⟨lw_p43, List.forall_mem_cons.mpr ⟨lw_p44, List.forall_mem_cons.mpr ⟨lw_p45, List.forall_mem_cons.mpr ⟨lw_p46, List.forall_mem_cons.mpr ⟨lw_p47, fun _ h => absurd h List.not_mem_nil⟩⟩⟩⟩⟩⟩⟩⟩⟩⟩⟩⟩⟩⟩⟩⟩
theorem lw_p48 : lw_okq (⟨"ThreadsAndSplitsModel", "one", "()V"⟩, 38) := ⟨⟨by decide +kernel, by decide +kernel⟩, List.mem_of_getElem? (i := 877) (by decide +kernel), List.mem_of_getElem? (i := 1107) (by decide +kernel), List.mem_of_getElem? (i := 1108) (by decide +kernel)⟩
theorem lw_p49 : lw_okq (⟨"ThreadsAndSplitsModel", "isSign", "(I)Z"⟩, 38) := ⟨⟨by decide +kernel, by decide +kernel⟩, List.mem_of_getElem? (i := 877) (by decide +kernel), List.mem_of_getElem? (i := 1111) (by decide +kernel), List.mem_of_getElem? (i := 1112) (by decide +kernel)⟩
theorem lw_p50 : lw_okq (⟨"ThreadsAndSplitsModel", "isAct", "(I)Z"⟩, 38) := ⟨⟨by decide +kernel, by decide +kernel⟩, List.mem_of_getElem? (i := 877) (by decide +kernel), List.mem_of_getElem? (i := 1131) (by decide +kernel), List.mem_of_getElem? (i := 1132) (by decide +kernel)⟩
theorem lw_p51 : lw_okq (⟨"ThreadsAndSplitsModel", "areActs", "(I)Z"⟩, 38) := ⟨⟨by decide +kernel, by decide +kernel⟩, List.mem_of_getElem? (i := 877) (by decide +kernel), List.mem_of_getElem? (i := 1142) (by decide +kernel), List.mem_of_getElem? (i := 1143) (by decide +kernel)⟩
theorem lw_p52 : lw_okq (⟨"ThreadsAndSplitsModel", "goes", "(I)V"⟩, 38) := ⟨⟨by decide +kernel, by decide +kernel⟩, List.mem_of_getElem? (i := 877) (by decide +kernel), List.mem_of_getElem? (i := 1147) (by decide +kernel), List.mem_of_getElem? (i := 1148) (by decide +kernel)⟩
theorem lw_p53 : lw_okq (⟨"ThreadsAndSplitsModel", "begins", "()V"⟩, 38) := ⟨⟨by decide +kernel, by decide +kernel⟩, List.mem_of_getElem? (i := 877) (by decide +kernel), List.mem_of_getElem? (i := 1151) (by decide +kernel), List.mem_of_getElem? (i := 1152) (by decide +kernel)⟩
theorem lw_p54 : lw_okq (⟨"ThreadsAndSplitsModel", "doesAct", "(I)V"⟩, 38) := ⟨⟨by decide +kernel, by decide +kernel⟩, List.mem_of_getElem? (i := 877) (by decide +kernel), List.mem_of_getElem? (i := 1155) (by decide +kernel), List.mem_of_getElem? (i := 1156) (by decide +kernel)⟩
theorem lw_p55 : lw_okq (⟨"ThreadsAndSplitsModel", "does", "(III)V"⟩, 38) := ⟨⟨by decide +kernel, by decide +kernel⟩, List.mem_of_getElem? (i := 877) (by decide +kernel), List.mem_of_getElem? (i := 1159) (by decide +kernel), List.mem_of_getElem? (i := 1160) (by decide +kernel)⟩
theorem lw_p56 : lw_okq (⟨"ThreadsAndSplitsModel", "pours", "(II)V"⟩, 38) := ⟨⟨by decide +kernel, by decide +kernel⟩, List.mem_of_getElem? (i := 877) (by decide +kernel), List.mem_of_getElem? (i := 1163) (by decide +kernel), List.mem_of_getElem? (i := 1164) (by decide +kernel)⟩
theorem lw_p57 : lw_okq (⟨"ThreadsAndSplitsModel", "handfuls", "(II)V"⟩, 38) := ⟨⟨by decide +kernel, by decide +kernel⟩, List.mem_of_getElem? (i := 877) (by decide +kernel), List.mem_of_getElem? (i := 1170) (by decide +kernel), List.mem_of_getElem? (i := 1171) (by decide +kernel)⟩
theorem lw_p58 : lw_okq (⟨"ThreadsAndSplitsModel", "strokesOf", "(I)V"⟩, 38) := ⟨⟨by decide +kernel, by decide +kernel⟩, List.mem_of_getElem? (i := 877) (by decide +kernel), List.mem_of_getElem? (i := 1174) (by decide +kernel), List.mem_of_getElem? (i := 1175) (by decide +kernel)⟩
theorem lw_p59 : lw_okq (⟨"ThreadsAndSplitsModel", "minute", "(Z)V"⟩, 38) := ⟨⟨by decide +kernel, by decide +kernel⟩, List.mem_of_getElem? (i := 877) (by decide +kernel), List.mem_of_getElem? (i := 1178) (by decide +kernel), List.mem_of_getElem? (i := 1179) (by decide +kernel)⟩
theorem lw_p60 : lw_okq (⟨"ThreadsAndSplitsModel", "drawsHeat", "()I"⟩, 38) := ⟨⟨by decide +kernel, by decide +kernel⟩, List.mem_of_getElem? (i := 877) (by decide +kernel), List.mem_of_getElem? (i := 1182) (by decide +kernel), List.mem_of_getElem? (i := 1183) (by decide +kernel)⟩
theorem lw_p61 : lw_okq (⟨"ThreadsAndSplitsModel", "work", "(I)I"⟩, 38) := ⟨⟨by decide +kernel, by decide +kernel⟩, List.mem_of_getElem? (i := 877) (by decide +kernel), List.mem_of_getElem? (i := 1188) (by decide +kernel), List.mem_of_getElem? (i := 1189) (by decide +kernel)⟩
theorem lw_p62 : lw_okq (⟨"ThreadsAndSplitsModel", "potTold", "(I)I"⟩, 38) := ⟨⟨by decide +kernel, by decide +kernel⟩, List.mem_of_getElem? (i := 877) (by decide +kernel), List.mem_of_getElem? (i := 1195) (by decide +kernel), List.mem_of_getElem? (i := 1196) (by decide +kernel)⟩
theorem lw_p63 : lw_okq (⟨"ThreadsAndSplitsModel", "thick", "()I"⟩, 38) := ⟨⟨by decide +kernel, by decide +kernel⟩, List.mem_of_getElem? (i := 877) (by decide +kernel), List.mem_of_getElem? (i := 1199) (by decide +kernel), List.mem_of_getElem? (i := 1200) (by decide +kernel)⟩
def lw_privs_4 : List (MethodName × Nat) := [(⟨"ThreadsAndSplitsModel", "one", "()V"⟩, 38), (⟨"ThreadsAndSplitsModel", "isSign", "(I)Z"⟩, 38), (⟨"ThreadsAndSplitsModel", "isAct", "(I)Z"⟩, 38), (⟨"ThreadsAndSplitsModel", "areActs", "(I)Z"⟩, 38), (⟨"ThreadsAndSplitsModel", "goes", "(I)V"⟩, 38), (⟨"ThreadsAndSplitsModel", "begins", "()V"⟩, 38), (⟨"ThreadsAndSplitsModel", "doesAct", "(I)V"⟩, 38), (⟨"ThreadsAndSplitsModel", "does", "(III)V"⟩, 38), (⟨"ThreadsAndSplitsModel", "pours", "(II)V"⟩, 38), (⟨"ThreadsAndSplitsModel", "handfuls", "(II)V"⟩, 38), (⟨"ThreadsAndSplitsModel", "strokesOf", "(I)V"⟩, 38), (⟨"ThreadsAndSplitsModel", "minute", "(Z)V"⟩, 38), (⟨"ThreadsAndSplitsModel", "drawsHeat", "()I"⟩, 38), (⟨"ThreadsAndSplitsModel", "work", "(I)I"⟩, 38), (⟨"ThreadsAndSplitsModel", "potTold", "(I)I"⟩, 38), (⟨"ThreadsAndSplitsModel", "thick", "()I"⟩, 38)]
theorem lw_r4 : ∀ q ∈ lw_privs_4, lw_okq q := List.forall_mem_cons.mpr ⟨lw_p48, List.forall_mem_cons.mpr ⟨lw_p49, List.forall_mem_cons.mpr ⟨lw_p50, List.forall_mem_cons.mpr ⟨lw_p51, List.forall_mem_cons.mpr ⟨lw_p52, List.forall_mem_cons.mpr ⟨lw_p53, List.forall_mem_cons.mpr ⟨lw_p54, List.forall_mem_cons.mpr ⟨lw_p55, List.forall_mem_cons.mpr ⟨lw_p56, List.forall_mem_cons.mpr ⟨lw_p57, List.forall_mem_cons.mpr ⟨lw_p58, List.forall_mem_cons.mpr ⟨lw_p59, List.forall_mem_cons.mpr ⟨lw_p60, List.forall_mem_cons.mpr ⟨lw_p61, List.forall_mem_cons.mpr ⟨lw_p62, List.forall_mem_cons.mpr ⟨lw_p63, fun _ h => absurd h List.not_mem_nil⟩⟩⟩⟩⟩⟩⟩⟩⟩⟩⟩⟩⟩⟩⟩⟩
theorem lw_p64 : lw_okq (⟨"ThreadsAndSplitsModel", "threads", "()I"⟩, 38) := ⟨⟨by decide +kernel, by decide +kernel⟩, List.mem_of_getElem? (i := 877) (by decide +kernel), List.mem_of_getElem? (i := 1203) (by decide +kernel), List.mem_of_getElem? (i := 1204) (by decide +kernel)⟩
theorem lw_p65 : lw_okq (⟨"ThreadsAndSplitsModel", "sortNow", "()I"⟩, 38) := ⟨⟨by decide +kernel, by decide +kernel⟩, List.mem_of_getElem? (i := 877) (by decide +kernel), List.mem_of_getElem? (i := 1207) (by decide +kernel), List.mem_of_getElem? (i := 1208) (by decide +kernel)⟩
theorem lw_p66 : lw_okq (⟨"ThreadsAndSplitsModel", "holds", "()Z"⟩, 38) := ⟨⟨by decide +kernel, by decide +kernel⟩, List.mem_of_getElem? (i := 877) (by decide +kernel), List.mem_of_getElem? (i := 1215) (by decide +kernel), List.mem_of_getElem? (i := 1216) (by decide +kernel)⟩
theorem lw_p67 : lw_okq (⟨"ThreadsAndSplitsModel", "holdsWith", "(II)Z"⟩, 38) := ⟨⟨by decide +kernel, by decide +kernel⟩, List.mem_of_getElem? (i := 877) (by decide +kernel), List.mem_of_getElem? (i := 1227) (by decide +kernel), List.mem_of_getElem? (i := 1228) (by decide +kernel)⟩
theorem lw_p68 : lw_okq (⟨"ThreadsAndSplitsModel", "holdsInAll", "()Z"⟩, 38) := ⟨⟨by decide +kernel, by decide +kernel⟩, List.mem_of_getElem? (i := 877) (by decide +kernel), List.mem_of_getElem? (i := 1231) (by decide +kernel), List.mem_of_getElem? (i := 1232) (by decide +kernel)⟩
theorem lw_p69 : lw_okq (⟨"ThreadsAndSplitsModel", "atTable", "(II)V"⟩, 38) := ⟨⟨by decide +kernel, by decide +kernel⟩, List.mem_of_getElem? (i := 877) (by decide +kernel), List.mem_of_getElem? (i := 1291) (by decide +kernel), List.mem_of_getElem? (i := 1292) (by decide +kernel)⟩
theorem lw_p70 : lw_okq (⟨"ThreadsAndSplitsModel", "refuses", "(I)I"⟩, 38) := ⟨⟨by decide +kernel, by decide +kernel⟩, List.mem_of_getElem? (i := 877) (by decide +kernel), List.mem_of_getElem? (i := 1308) (by decide +kernel), List.mem_of_getElem? (i := 1309) (by decide +kernel)⟩
theorem lw_p71 : lw_okq (⟨"ThreadsAndSplitsModel", "isFilm", "(I)Z"⟩, 38) := ⟨⟨by decide +kernel, by decide +kernel⟩, List.mem_of_getElem? (i := 877) (by decide +kernel), List.mem_of_getElem? (i := 1328) (by decide +kernel), List.mem_of_getElem? (i := 1329) (by decide +kernel)⟩
theorem lw_p72 : lw_okq (⟨"ThreadsAndSplitsModel", "goesDrawn", "(II)V"⟩, 38) := ⟨⟨by decide +kernel, by decide +kernel⟩, List.mem_of_getElem? (i := 877) (by decide +kernel), List.mem_of_getElem? (i := 1341) (by decide +kernel), List.mem_of_getElem? (i := 1342) (by decide +kernel)⟩
theorem lw_p73 : lw_okq (⟨"ThreadsAndSplitsModel", "takenAct", "(II)I"⟩, 38) := ⟨⟨by decide +kernel, by decide +kernel⟩, List.mem_of_getElem? (i := 877) (by decide +kernel), List.mem_of_getElem? (i := 1379) (by decide +kernel), List.mem_of_getElem? (i := 1380) (by decide +kernel)⟩
def lw_privs_5 : List (MethodName × Nat) := [(⟨"ThreadsAndSplitsModel", "threads", "()I"⟩, 38), (⟨"ThreadsAndSplitsModel", "sortNow", "()I"⟩, 38), (⟨"ThreadsAndSplitsModel", "holds", "()Z"⟩, 38), (⟨"ThreadsAndSplitsModel", "holdsWith", "(II)Z"⟩, 38), (⟨"ThreadsAndSplitsModel", "holdsInAll", "()Z"⟩, 38), (⟨"ThreadsAndSplitsModel", "atTable", "(II)V"⟩, 38), (⟨"ThreadsAndSplitsModel", "refuses", "(I)I"⟩, 38), (⟨"ThreadsAndSplitsModel", "isFilm", "(I)Z"⟩, 38), (⟨"ThreadsAndSplitsModel", "goesDrawn", "(II)V"⟩, 38), (⟨"ThreadsAndSplitsModel", "takenAct", "(II)I"⟩, 38)]
theorem lw_r5 : ∀ q ∈ lw_privs_5, lw_okq q := List.forall_mem_cons.mpr ⟨lw_p64, List.forall_mem_cons.mpr ⟨lw_p65, List.forall_mem_cons.mpr ⟨lw_p66, List.forall_mem_cons.mpr ⟨lw_p67, List.forall_mem_cons.mpr ⟨lw_p68, List.forall_mem_cons.mpr ⟨lw_p69, List.forall_mem_cons.mpr ⟨lw_p70, List.forall_mem_cons.mpr ⟨lw_p71, List.forall_mem_cons.mpr ⟨lw_p72, List.forall_mem_cons.mpr ⟨lw_p73, fun _ h => absurd h List.not_mem_nil⟩⟩⟩⟩⟩⟩⟩⟩⟩⟩
def lw_privs : List (MethodName × Nat) := lw_privs_1 ++ (lw_privs_2 ++ (lw_privs_3 ++ (lw_privs_4 ++ (lw_privs_5))))
def lw_tbl : List Cond := k2_sels lw_privs ++ tables_1
theorem lw_privs_ok : ∀ q ∈ lw_privs, lw_okq q := by
  show ∀ q ∈ lw_privs_1 ++ (lw_privs_2 ++ (lw_privs_3 ++ (lw_privs_4 ++ (lw_privs_5)))), lw_okq q
  exact List.forall_mem_append.mpr ⟨lw_r1, List.forall_mem_append.mpr ⟨lw_r2, List.forall_mem_append.mpr ⟨lw_r3, List.forall_mem_append.mpr ⟨lw_r4, lw_r5⟩⟩⟩⟩
def RX0 : String := "ThreadsAndSplits$Act"
def TX0 : u_T := fun k => match k with
  | 0 => ("ThreadsAndSplits$Act", "kind", "I", false)
  | 1 => ("ThreadsAndSplits$Act", "more", "I", false)
  | _ => ("ThreadsAndSplits$Act", "of", "I", false)
def tyX0 : Nat → FieldType := fun k => match k with
  | 0 => .int
  | 1 => .int
  | _ => .int
abbrev wsX00 : List Cond := u_ws RX0 TX0 3
theorem nmX0 : ∀ a, a < 3 → ∀ b, b < 3 → a ≠ b → (TX0 a).2.1 ≠ (TX0 b).2.1 := by decide +kernel
theorem tyX0_ok : ∀ k, k < 3 → parseFieldDescriptor (TX0 k).2.2.1 = some (tyX0 k) := by decide +kernel
abbrev cX0_init : ByteArray := prog_2_method_1_code
def yX0_init : MethodName := ⟨RX0, "<init>", "()V"⟩
abbrev cX0_fits : ByteArray := prog_2_method_2_code
def yX0_fits : MethodName := ⟨RX0, "fits", "(III)Z"⟩
abbrev cX0_become : ByteArray := prog_2_method_3_code
def yX0_become : MethodName := ⟨RX0, "become", "(III)V"⟩
abbrev cX0_minutesLong : ByteArray := prog_2_method_4_code
def yX0_minutesLong : MethodName := ⟨RX0, "minutesLong", "()I"⟩
abbrev cX0_isStirred : ByteArray := prog_2_method_5_code
def yX0_isStirred : MethodName := ⟨RX0, "isStirred", "()Z"⟩
abbrev cX0_isOne : ByteArray := prog_2_method_6_code
def yX0_isOne : MethodName := ⟨RX0, "isOne", "(I)Z"⟩
def RX1 : String := "ThreadsAndSplits$Cheese"
def TX1 : u_T := fun k => match k with
  | _ => ("ThreadsAndSplits$Cheese", "parts", "[I", true)
def tyX1 : Nat → FieldType := fun k => match k with
  | _ => .array .int
abbrev wsX10 : List Cond := u_ws RX1 TX1 1
theorem nmX1 : ∀ a, a < 1 → ∀ b, b < 1 → a ≠ b → (TX1 a).2.1 ≠ (TX1 b).2.1 := by decide +kernel
theorem tyX1_ok : ∀ k, k < 1 → parseFieldDescriptor (TX1 k).2.2.1 = some (tyX1 k) := by decide +kernel
abbrev cX1_init : ByteArray := prog_3_method_1_code
def yX1_init : MethodName := ⟨RX1, "<init>", "()V"⟩
abbrev cX1_hasPart : ByteArray := prog_3_method_2_code
def yX1_hasPart : MethodName := ⟨RX1, "hasPart", "(I)Z"⟩
abbrev cX1_fits : ByteArray := prog_3_method_3_code
def yX1_fits : MethodName := ⟨RX1, "fits", "(II)Z"⟩
abbrev cX1_tell : ByteArray := prog_3_method_4_code
def yX1_tell : MethodName := ⟨RX1, "tell", "(I)I"⟩
abbrev cX1_put : ByteArray := prog_3_method_5_code
def yX1_put : MethodName := ⟨RX1, "put", "(II)V"⟩
abbrev cX1_becomeLike : ByteArray := prog_3_method_6_code
def yX1_becomeLike : MethodName := ⟨RX1, "becomeLike", "(LThreadsAndSplits$Cheese;)V"⟩
def RX2 : String := "ThreadsAndSplits$Law"
def TX2 : u_T := fun k => match k with
  | 0 => ("ThreadsAndSplits$Law", "code", "[I", true)
  | 1 => ("ThreadsAndSplits$Law", "meltEnd", "I", true)
  | _ => ("ThreadsAndSplits$Law", "splitEnd", "I", true)
def tyX2 : Nat → FieldType := fun k => match k with
  | 0 => .array .int
  | 1 => .int
  | _ => .int
abbrev wsX20 : List Cond := u_ws RX2 TX2 3
theorem nmX2 : ∀ a, a < 3 → ∀ b, b < 3 → a ≠ b → (TX2 a).2.1 ≠ (TX2 b).2.1 := by decide +kernel
theorem tyX2_ok : ∀ k, k < 3 → parseFieldDescriptor (TX2 k).2.2.1 = some (tyX2 k) := by decide +kernel
abbrev cX2_init : ByteArray := prog_4_method_1_code
def yX2_init : MethodName := ⟨RX2, "<init>", "([III)V"⟩
abbrev cX2_startOf : ByteArray := prog_4_method_2_code
def yX2_startOf : MethodName := ⟨RX2, "startOf", "(I)I"⟩
abbrev cX2_endOf : ByteArray := prog_4_method_3_code
def yX2_endOf : MethodName := ⟨RX2, "endOf", "(I)I"⟩
abbrev cX2_codeAt : ByteArray := prog_4_method_4_code
def yX2_codeAt : MethodName := ⟨RX2, "codeAt", "(I)I"⟩
abbrev cX2_joined : ByteArray := prog_4_method_5_code
def yX2_joined : MethodName := ⟨RX2, "joined", "(III)I"⟩
def RX3 : String := "ThreadsAndSplits$Pot"
def TX3 : u_T := fun k => match k with
  | 0 => ("ThreadsAndSplits$Pot", "stack", "[I", true)
  | 1 => ("ThreadsAndSplits$Pot", "law", "LThreadsAndSplits$Law;", false)
  | 2 => ("ThreadsAndSplits$Pot", "lot", "J", false)
  | 3 => ("ThreadsAndSplits$Pot", "flame", "I", false)
  | 4 => ("ThreadsAndSplits$Pot", "water", "I", false)
  | 5 => ("ThreadsAndSplits$Pot", "sour", "I", false)
  | 6 => ("ThreadsAndSplits$Pot", "heat", "I", false)
  | 7 => ("ThreadsAndSplits$Pot", "tied", "I", false)
  | 8 => ("ThreadsAndSplits$Pot", "free", "I", false)
  | 9 => ("ThreadsAndSplits$Pot", "held", "I", false)
  | 10 => ("ThreadsAndSplits$Pot", "drops", "I", false)
  | 11 => ("ThreadsAndSplits$Pot", "oil", "I", false)
  | 12 => ("ThreadsAndSplits$Pot", "starch", "I", false)
  | 13 => ("ThreadsAndSplits$Pot", "crust", "I", false)
  | 14 => ("ThreadsAndSplits$Pot", "minutes", "I", false)
  | 15 => ("ThreadsAndSplits$Pot", "much", "I", false)
  | _ => ("ThreadsAndSplits$Pot", "allWeeks", "I", false)
def tyX3 : Nat → FieldType := fun k => match k with
  | 0 => .array .int
  | 1 => .object "ThreadsAndSplits$Law"
  | 2 => .long
  | 3 => .int
  | 4 => .int
  | 5 => .int
  | 6 => .int
  | 7 => .int
  | 8 => .int
  | 9 => .int
  | 10 => .int
  | 11 => .int
  | 12 => .int
  | 13 => .int
  | 14 => .int
  | 15 => .int
  | _ => .int
abbrev wsX30 : List Cond := u_ws RX3 TX3 17
theorem nmX3 : ∀ a, a < 17 → ∀ b, b < 17 → a ≠ b → (TX3 a).2.1 ≠ (TX3 b).2.1 := by decide +kernel
theorem tyX3_ok : ∀ k, k < 17 → parseFieldDescriptor (TX3 k).2.2.1 = some (tyX3 k) := by decide +kernel
abbrev cX3_init : ByteArray := prog_5_method_1_code
def yX3_init : MethodName := ⟨RX3, "<init>", "()V"⟩
abbrev cX3_begin : ByteArray := prog_5_method_2_code
def yX3_begin : MethodName := ⟨RX3, "begin", "(IIILThreadsAndSplits$Law;)V"⟩
abbrev cX3_becomeLike : ByteArray := prog_5_method_3_code
def yX3_becomeLike : MethodName := ⟨RX3, "becomeLike", "(LThreadsAndSplits$Pot;)V"⟩
abbrev cX3_flickerBy : ByteArray := prog_5_method_4_code
def yX3_flickerBy : MethodName := ⟨RX3, "flickerBy", "(I)V"⟩
abbrev cX3_undergo : ByteArray := prog_5_method_5_code
def yX3_undergo : MethodName := ⟨RX3, "undergo", "(LThreadsAndSplits$Act;LThreadsAndSplits$Cheese;)V"⟩
abbrev cX3_pourIn : ByteArray := prog_5_method_6_code
def yX3_pourIn : MethodName := ⟨RX3, "pourIn", "(II)V"⟩
abbrev cX3_throwIn : ByteArray := prog_5_method_7_code
def yX3_throwIn : MethodName := ⟨RX3, "throwIn", "(LThreadsAndSplits$Cheese;I)V"⟩
abbrev cX3_beat : ByteArray := prog_5_method_8_code
def yX3_beat : MethodName := ⟨RX3, "beat", "(I)V"⟩
abbrev cX3_passMinute : ByteArray := prog_5_method_9_code
def yX3_passMinute : MethodName := ⟨RX3, "passMinute", "(Z)V"⟩
abbrev cX3_flicker : ByteArray := prog_5_method_10_code
def yX3_flicker : MethodName := ⟨RX3, "flicker", "()I"⟩
abbrev cX3_settle : ByteArray := prog_5_method_11_code
def yX3_settle : MethodName := ⟨RX3, "settle", "()V"⟩
abbrev cX3_worth : ByteArray := prog_5_method_12_code
def yX3_worth : MethodName := ⟨RX3, "worth", "(II)I"⟩
abbrev cX3_named : ByteArray := prog_5_method_13_code
def yX3_named : MethodName := ⟨RX3, "named", "(I)I"⟩
abbrev cX3_thickness : ByteArray := prog_5_method_14_code
def yX3_thickness : MethodName := ⟨RX3, "thickness", "()I"⟩
abbrev cX3_threadsLong : ByteArray := prog_5_method_15_code
def yX3_threadsLong : MethodName := ⟨RX3, "threadsLong", "()I"⟩
abbrev cX3_holdsNow : ByteArray := prog_5_method_16_code
def yX3_holdsNow : MethodName := ⟨RX3, "holdsNow", "()Z"⟩
abbrev cX3_sortNow : ByteArray := prog_5_method_17_code
def yX3_sortNow : MethodName := ⟨RX3, "sortNow", "()I"⟩
abbrev cX3_canTell : ByteArray := prog_5_method_18_code
def yX3_canTell : MethodName := ⟨RX3, "canTell", "(I)Z"⟩
abbrev cX3_tell : ByteArray := prog_5_method_19_code
def yX3_tell : MethodName := ⟨RX3, "tell", "(I)I"⟩
def RX4 : String := "ThreadsAndSplits$Reader"
def TX4 : u_T := fun k => match k with
  | 0 => ("ThreadsAndSplits$Reader", "bytes", "[I", true)
  | 1 => ("ThreadsAndSplits$Reader", "size", "I", false)
  | 2 => ("ThreadsAndSplits$Reader", "next", "I", false)
  | 3 => ("ThreadsAndSplits$Reader", "token", "I", false)
  | 4 => ("ThreadsAndSplits$Reader", "place", "I", false)
  | 5 => ("ThreadsAndSplits$Reader", "value", "I", false)
  | 6 => ("ThreadsAndSplits$Reader", "fault", "I", false)
  | 7 => ("ThreadsAndSplits$Reader", "code", "[I", true)
  | 8 => ("ThreadsAndSplits$Reader", "codeSize", "I", false)
  | _ => ("ThreadsAndSplits$Reader", "ends", "[I", true)
def tyX4 : Nat → FieldType := fun k => match k with
  | 0 => .array .int
  | 1 => .int
  | 2 => .int
  | 3 => .int
  | 4 => .int
  | 5 => .int
  | 6 => .int
  | 7 => .array .int
  | 8 => .int
  | _ => .array .int
abbrev wsX40 : List Cond := u_ws RX4 TX4 10
theorem nmX4 : ∀ a, a < 10 → ∀ b, b < 10 → a ≠ b → (TX4 a).2.1 ≠ (TX4 b).2.1 := by decide +kernel
theorem tyX4_ok : ∀ k, k < 10 → parseFieldDescriptor (TX4 k).2.2.1 = some (tyX4 k) := by decide +kernel
abbrev cX4_init : ByteArray := prog_6_method_1_code
def yX4_init : MethodName := ⟨RX4, "<init>", "()V"⟩
abbrev cX4_size : ByteArray := prog_6_method_2_code
def yX4_size : MethodName := ⟨RX4, "size", "()I"⟩
abbrev cX4_hasRoom : ByteArray := prog_6_method_3_code
def yX4_hasRoom : MethodName := ⟨RX4, "hasRoom", "(I)Z"⟩
abbrev cX4_add : ByteArray := prog_6_method_4_code
def yX4_add : MethodName := ⟨RX4, "add", "(I)V"⟩
abbrev cX4_faultPlace : ByteArray := prog_6_method_5_code
def yX4_faultPlace : MethodName := ⟨RX4, "faultPlace", "()I"⟩
abbrev cX4_readLaw : ByteArray := prog_6_method_6_code
def yX4_readLaw : MethodName := ⟨RX4, "readLaw", "()LThreadsAndSplits$Law;"⟩
abbrev cX4_readAny : ByteArray := prog_6_method_7_code
def yX4_readAny : MethodName := ⟨RX4, "readAny", "(I)V"⟩
abbrev cX4_readAll : ByteArray := prog_6_method_8_code
def yX4_readAll : MethodName := ⟨RX4, "readAll", "(I)V"⟩
abbrev cX4_readNot : ByteArray := prog_6_method_9_code
def yX4_readNot : MethodName := ⟨RX4, "readNot", "(I)V"⟩
abbrev cX4_readSum : ByteArray := prog_6_method_10_code
def yX4_readSum : MethodName := ⟨RX4, "readSum", "(I)V"⟩
abbrev cX4_readTerm : ByteArray := prog_6_method_11_code
def yX4_readTerm : MethodName := ⟨RX4, "readTerm", "(I)V"⟩
abbrev cX4_readOne : ByteArray := prog_6_method_12_code
def yX4_readOne : MethodName := ⟨RX4, "readOne", "(I)V"⟩
abbrev cX4_mayOpen : ByteArray := prog_6_method_13_code
def yX4_mayOpen : MethodName := ⟨RX4, "mayOpen", "(I)Z"⟩
abbrev cX4_isNow : ByteArray := prog_6_method_14_code
def yX4_isNow : MethodName := ⟨RX4, "isNow", "(I)Z"⟩
abbrev cX4_demand : ByteArray := prog_6_method_15_code
def yX4_demand : MethodName := ⟨RX4, "demand", "(I)V"⟩
abbrev cX4_failHere : ByteArray := prog_6_method_16_code
def yX4_failHere : MethodName := ⟨RX4, "failHere", "()V"⟩
abbrev cX4_emit : ByteArray := prog_6_method_17_code
def yX4_emit : MethodName := ⟨RX4, "emit", "(I)V"⟩
abbrev cX4_byteAt : ByteArray := prog_6_method_18_code
def yX4_byteAt : MethodName := ⟨RX4, "byteAt", "(I)I"⟩
abbrev cX4_stepOn : ByteArray := prog_6_method_19_code
def yX4_stepOn : MethodName := ⟨RX4, "stepOn", "()V"⟩
abbrev cX4_stepOverWord : ByteArray := prog_6_method_20_code
def yX4_stepOverWord : MethodName := ⟨RX4, "stepOverWord", "()V"⟩
abbrev cX4_isWordAt : ByteArray := prog_6_method_21_code
def yX4_isWordAt : MethodName := ⟨RX4, "isWordAt", "(I)Z"⟩
abbrev cX4_stepOverNumber : ByteArray := prog_6_method_22_code
def yX4_stepOverNumber : MethodName := ⟨RX4, "stepOverNumber", "()V"⟩
abbrev cX4_isLetter : ByteArray := prog_6_method_23_code
def yX4_isLetter : MethodName := ⟨RX4, "isLetter", "(I)Z"⟩
abbrev cX4_isDigit : ByteArray := prog_6_method_24_code
def yX4_isDigit : MethodName := ⟨RX4, "isDigit", "(I)Z"⟩
def RX5 : String := "ThreadsAndSplits$Sheet"
def TX5 : u_T := fun k => match k with
  | 0 => ("ThreadsAndSplits$Sheet", "numbers", "[I", true)
  | 1 => ("ThreadsAndSplits$Sheet", "sort", "I", false)
  | _ => ("ThreadsAndSplits$Sheet", "size", "I", false)
def tyX5 : Nat → FieldType := fun k => match k with
  | 0 => .array .int
  | 1 => .int
  | _ => .int
abbrev wsX50 : List Cond := u_ws RX5 TX5 3
theorem nmX5 : ∀ a, a < 3 → ∀ b, b < 3 → a ≠ b → (TX5 a).2.1 ≠ (TX5 b).2.1 := by decide +kernel
theorem tyX5_ok : ∀ k, k < 3 → parseFieldDescriptor (TX5 k).2.2.1 = some (tyX5 k) := by decide +kernel
abbrev cX5_init : ByteArray := prog_7_method_1_code
def yX5_init : MethodName := ⟨RX5, "<init>", "()V"⟩
abbrev cX5_become : ByteArray := prog_7_method_2_code
def yX5_become : MethodName := ⟨RX5, "become", "(II)V"⟩
abbrev cX5_isMissing : ByteArray := prog_7_method_3_code
def yX5_isMissing : MethodName := ⟨RX5, "isMissing", "()Z"⟩
abbrev cX5_hasRow : ByteArray := prog_7_method_4_code
def yX5_hasRow : MethodName := ⟨RX5, "hasRow", "(II)Z"⟩
abbrev cX5_tell : ByteArray := prog_7_method_5_code
def yX5_tell : MethodName := ⟨RX5, "tell", "(I)I"⟩
abbrev cX5_put : ByteArray := prog_7_method_6_code
def yX5_put : MethodName := ⟨RX5, "put", "(II)V"⟩
abbrev cX5_takeRow : ByteArray := prog_7_method_7_code
def yX5_takeRow : MethodName := ⟨RX5, "takeRow", "(ILThreadsAndSplits$Sheet;II)V"⟩
def RX6 : String := "ThreadsAndSplits"
def TX6 : u_T := fun k => match k with
  | 0 => ("ThreadsAndSplits", "cheeses", "[LThreadsAndSplits$Cheese;", true)
  | 1 => ("ThreadsAndSplits", "cheeseCount", "I", false)
  | 2 => ("ThreadsAndSplits", "acts", "[LThreadsAndSplits$Act;", true)
  | 3 => ("ThreadsAndSplits", "actCount", "I", false)
  | 4 => ("ThreadsAndSplits", "laws", "[LThreadsAndSplits$Law;", true)
  | 5 => ("ThreadsAndSplits", "lawCount", "I", false)
  | 6 => ("ThreadsAndSplits", "lawNow", "I", false)
  | 7 => ("ThreadsAndSplits", "told", "[I", true)
  | 8 => ("ThreadsAndSplits", "tape", "LThreadsAndSplits$Reader;", true)
  | 9 => ("ThreadsAndSplits", "sheets", "[LThreadsAndSplits$Sheet;", true)
  | 10 => ("ThreadsAndSplits", "keptCheeses", "[LThreadsAndSplits$Cheese;", true)
  | 11 => ("ThreadsAndSplits", "keptCount", "I", false)
  | 12 => ("ThreadsAndSplits", "keptTold", "[I", true)
  | 13 => ("ThreadsAndSplits", "keptLaw", "I", false)
  | 14 => ("ThreadsAndSplits", "kettle", "LThreadsAndSplits$Pot;", true)
  | 15 => ("ThreadsAndSplits", "later", "LThreadsAndSplits$Pot;", true)
  | _ => ("ThreadsAndSplits", "trial", "LThreadsAndSplits$Act;", true)
def tyX6 : Nat → FieldType := fun k => match k with
  | 0 => .array (.object "ThreadsAndSplits$Cheese")
  | 1 => .int
  | 2 => .array (.object "ThreadsAndSplits$Act")
  | 3 => .int
  | 4 => .array (.object "ThreadsAndSplits$Law")
  | 5 => .int
  | 6 => .int
  | 7 => .array .int
  | 8 => .object "ThreadsAndSplits$Reader"
  | 9 => .array (.object "ThreadsAndSplits$Sheet")
  | 10 => .array (.object "ThreadsAndSplits$Cheese")
  | 11 => .int
  | 12 => .array .int
  | 13 => .int
  | 14 => .object "ThreadsAndSplits$Pot"
  | 15 => .object "ThreadsAndSplits$Pot"
  | _ => .object "ThreadsAndSplits$Act"
abbrev wsX60 : List Cond := u_ws RX6 TX6 17
theorem nmX6 : ∀ a, a < 17 → ∀ b, b < 17 → a ≠ b → (TX6 a).2.1 ≠ (TX6 b).2.1 := by decide +kernel
theorem tyX6_ok : ∀ k, k < 17 → parseFieldDescriptor (TX6 k).2.2.1 = some (tyX6 k) := by decide +kernel
abbrev cX6_init : ByteArray := prog_1_method_1_code
def yX6_init : MethodName := ⟨RX6, "<init>", "()V"⟩
abbrev cX6_cheese : ByteArray := prog_1_method_2_code
def yX6_cheese : MethodName := ⟨RX6, "cheese", "(IIIII)I"⟩
abbrev cX6_ripen : ByteArray := prog_1_method_3_code
def yX6_ripen : MethodName := ⟨RX6, "ripen", "(III)I"⟩
abbrev cX6_sortTold : ByteArray := prog_1_method_4_code
def yX6_sortTold : MethodName := ⟨RX6, "sortTold", "(II)I"⟩
abbrev cX6_set : ByteArray := prog_1_method_5_code
def yX6_set : MethodName := ⟨RX6, "set", "(II)I"⟩
abbrev cX6_count : ByteArray := prog_1_method_6_code
def yX6_count : MethodName := ⟨RX6, "count", "(I)I"⟩
abbrev cX6_feed : ByteArray := prog_1_method_7_code
def yX6_feed : MethodName := ⟨RX6, "feed", "(IIIIII)I"⟩
abbrev cX6_text : ByteArray := prog_1_method_8_code
def yX6_text : MethodName := ⟨RX6, "text", "()I"⟩
abbrev cX6_force : ByteArray := prog_1_method_9_code
def yX6_force : MethodName := ⟨RX6, "force", "(I)I"⟩
abbrev cX6_act : ByteArray := prog_1_method_10_code
def yX6_act : MethodName := ⟨RX6, "act", "(III)I"⟩
abbrev cX6_forget : ByteArray := prog_1_method_11_code
def yX6_forget : MethodName := ⟨RX6, "forget", "()I"⟩
abbrev cX6_actTold : ByteArray := prog_1_method_12_code
def yX6_actTold : MethodName := ⟨RX6, "actTold", "(II)I"⟩
abbrev cX6_pot : ByteArray := prog_1_method_13_code
def yX6_pot : MethodName := ⟨RX6, "pot", "(II)I"⟩
abbrev cX6_splits : ByteArray := prog_1_method_14_code
def yX6_splits : MethodName := ⟨RX6, "splits", "(I)I"⟩
abbrev cX6_hour : ByteArray := prog_1_method_15_code
def yX6_hour : MethodName := ⟨RX6, "hour", "(II)I"⟩
abbrev cX6_flames : ByteArray := prog_1_method_16_code
def yX6_flames : MethodName := ⟨RX6, "flames", "()I"⟩
abbrev cX6_sours : ByteArray := prog_1_method_17_code
def yX6_sours : MethodName := ⟨RX6, "sours", "()I"⟩
abbrev cX6_region : ByteArray := prog_1_method_18_code
def yX6_region : MethodName := ⟨RX6, "region", "()I"⟩
abbrev cX6_most : ByteArray := prog_1_method_19_code
def yX6_most : MethodName := ⟨RX6, "most", "()I"⟩
abbrev cX6_odds : ByteArray := prog_1_method_20_code
def yX6_odds : MethodName := ⟨RX6, "odds", "(II)J"⟩
abbrev cX6_save : ByteArray := prog_1_method_21_code
def yX6_save : MethodName := ⟨RX6, "save", "(III)I"⟩
abbrev cX6_why : ByteArray := prog_1_method_22_code
def yX6_why : MethodName := ⟨RX6, "why", "(I)I"⟩
abbrev cX6_order : ByteArray := prog_1_method_23_code
def yX6_order : MethodName := ⟨RX6, "order", "(I)I"⟩
abbrev cX6_strokes : ByteArray := prog_1_method_24_code
def yX6_strokes : MethodName := ⟨RX6, "strokes", "(II)I"⟩
abbrev cX6_mix : ByteArray := prog_1_method_25_code
def yX6_mix : MethodName := ⟨RX6, "mix", "(III)I"⟩
abbrev cX6_week : ByteArray := prog_1_method_26_code
def yX6_week : MethodName := ⟨RX6, "week", "(II)I"⟩
abbrev cX6_pace : ByteArray := prog_1_method_27_code
def yX6_pace : MethodName := ⟨RX6, "pace", "(II)I"⟩
abbrev cX6_table : ByteArray := prog_1_method_28_code
def yX6_table : MethodName := ⟨RX6, "table", "(III)I"⟩
abbrev cX6_dips : ByteArray := prog_1_method_29_code
def yX6_dips : MethodName := ⟨RX6, "dips", "(II)I"⟩
abbrev cX6_wick : ByteArray := prog_1_method_30_code
def yX6_wick : MethodName := ⟨RX6, "wick", "(II)I"⟩
abbrev cX6_judge : ByteArray := prog_1_method_31_code
def yX6_judge : MethodName := ⟨RX6, "judge", "(I)I"⟩
abbrev cX6_film : ByteArray := prog_1_method_32_code
def yX6_film : MethodName := ⟨RX6, "film", "(I)I"⟩
abbrev cX6_ages : ByteArray := prog_1_method_33_code
def yX6_ages : MethodName := ⟨RX6, "ages", "(II)J"⟩
abbrev cX6_which : ByteArray := prog_1_method_34_code
def yX6_which : MethodName := ⟨RX6, "which", "(I)I"⟩
abbrev cX6_drawn : ByteArray := prog_1_method_35_code
def yX6_drawn : MethodName := ⟨RX6, "drawn", "(III)I"⟩
abbrev cX6_chance : ByteArray := prog_1_method_36_code
def yX6_chance : MethodName := ⟨RX6, "chance", "(III)J"⟩
abbrev cX6_image : ByteArray := prog_1_method_37_code
def yX6_image : MethodName := ⟨RX6, "image", "()I"⟩
abbrev cX6_back : ByteArray := prog_1_method_38_code
def yX6_back : MethodName := ⟨RX6, "back", "()I"⟩
abbrev cX6_sheet : ByteArray := prog_1_method_39_code
def yX6_sheet : MethodName := ⟨RX6, "sheet", "(III)I"⟩
abbrev cX6_cell : ByteArray := prog_1_method_40_code
def yX6_cell : MethodName := ⟨RX6, "cell", "(III)I"⟩
abbrev cX6_copy : ByteArray := prog_1_method_41_code
def yX6_copy : MethodName := ⟨RX6, "copy", "(IIIII)I"⟩
abbrev cX6_actsBy : ByteArray := prog_1_method_42_code
def yX6_actsBy : MethodName := ⟨RX6, "actsBy", "(IIII)I"⟩
abbrev cX6_taken : ByteArray := prog_1_method_43_code
def yX6_taken : MethodName := ⟨RX6, "taken", "(II)I"⟩
abbrev cX6_cheeseAt : ByteArray := prog_1_method_44_code
def yX6_cheeseAt : MethodName := ⟨RX6, "cheeseAt", "(I)LThreadsAndSplits$Cheese;"⟩
abbrev cX6_actAt : ByteArray := prog_1_method_45_code
def yX6_actAt : MethodName := ⟨RX6, "actAt", "(I)LThreadsAndSplits$Act;"⟩
abbrev cX6_lawAt : ByteArray := prog_1_method_46_code
def yX6_lawAt : MethodName := ⟨RX6, "lawAt", "(I)LThreadsAndSplits$Law;"⟩
abbrev cX6_sheetAt : ByteArray := prog_1_method_47_code
def yX6_sheetAt : MethodName := ⟨RX6, "sheetAt", "(I)LThreadsAndSplits$Sheet;"⟩
abbrev cX6_hasActs : ByteArray := prog_1_method_48_code
def yX6_hasActs : MethodName := ⟨RX6, "hasActs", "(I)Z"⟩
abbrev cX6_isByte : ByteArray := prog_1_method_49_code
def yX6_isByte : MethodName := ⟨RX6, "isByte", "(I)Z"⟩
abbrev cX6_isBit : ByteArray := prog_1_method_50_code
def yX6_isBit : MethodName := ⟨RX6, "isBit", "(I)Z"⟩
abbrev cX6_isSeed : ByteArray := prog_1_method_51_code
def yX6_isSeed : MethodName := ⟨RX6, "isSeed", "(I)Z"⟩
abbrev cX6_isEvery : ByteArray := prog_1_method_52_code
def yX6_isEvery : MethodName := ⟨RX6, "isEvery", "(I)Z"⟩
abbrev cX6_copyCheeses : ByteArray := prog_1_method_53_code
def yX6_copyCheeses : MethodName := ⟨RX6, "copyCheeses", "([LThreadsAndSplits$Cheese;[LThreadsAndSplits$Cheese;I)V"⟩
abbrev cX6_beginPot : ByteArray := prog_1_method_54_code
def yX6_beginPot : MethodName := ⟨RX6, "beginPot", "()V"⟩
abbrev cX6_runActs : ByteArray := prog_1_method_55_code
def yX6_runActs : MethodName := ⟨RX6, "runActs", "(II)V"⟩
abbrev cX6_cookActs : ByteArray := prog_1_method_56_code
def yX6_cookActs : MethodName := ⟨RX6, "cookActs", "(I)V"⟩
abbrev cX6_cookDrawn : ByteArray := prog_1_method_57_code
def yX6_cookDrawn : MethodName := ⟨RX6, "cookDrawn", "(II)V"⟩
abbrev cX6_holdsWith : ByteArray := prog_1_method_58_code
def yX6_holdsWith : MethodName := ⟨RX6, "holdsWith", "(III)Z"⟩
abbrev cX6_firstSplit : ByteArray := prog_1_method_59_code
def yX6_firstSplit : MethodName := ⟨RX6, "firstSplit", "()I"⟩
abbrev cX6_greatestLeak : ByteArray := prog_1_method_60_code
def yX6_greatestLeak : MethodName := ⟨RX6, "greatestLeak", "()I"⟩
abbrev cX6_sitAtTable : ByteArray := prog_1_method_61_code
def yX6_sitAtTable : MethodName := ⟨RX6, "sitAtTable", "(LThreadsAndSplits$Pot;II)I"⟩
abbrev cX6_refusedAsTest : ByteArray := prog_1_method_62_code
def yX6_refusedAsTest : MethodName := ⟨RX6, "refusedAsTest", "(LThreadsAndSplits$Sheet;)I"⟩
abbrev cX6_oilIsAsTold : ByteArray := prog_1_method_63_code
def yX6_oilIsAsTold : MethodName := ⟨RX6, "oilIsAsTold", "(LThreadsAndSplits$Sheet;I)Z"⟩
abbrev cX6_lowestTerm : ByteArray := prog_1_method_64_code
def yX6_lowestTerm : MethodName := ⟨RX6, "lowestTerm", "(III)I"⟩
def RX7 : String := "ThreadsAndSplitsModel"
def TX7 : u_T := fun k => match k with
  | 0 => ("ThreadsAndSplitsModel", "cheeses", "I", false)
  | 1 => ("ThreadsAndSplitsModel", "cheese", "[I", true)
  | 2 => ("ThreadsAndSplitsModel", "told", "[I", true)
  | 3 => ("ThreadsAndSplitsModel", "tape", "[I", true)
  | 4 => ("ThreadsAndSplitsModel", "taped", "I", false)
  | 5 => ("ThreadsAndSplitsModel", "texts", "I", false)
  | 6 => ("ThreadsAndSplitsModel", "rule", "I", false)
  | 7 => ("ThreadsAndSplitsModel", "rows1", "[I", true)
  | 8 => ("ThreadsAndSplitsModel", "partFrom", "[I", true)
  | 9 => ("ThreadsAndSplitsModel", "partTo", "[I", true)
  | 10 => ("ThreadsAndSplitsModel", "made", "I", false)
  | 11 => ("ThreadsAndSplitsModel", "begin", "I", false)
  | 12 => ("ThreadsAndSplitsModel", "at", "I", false)
  | 13 => ("ThreadsAndSplitsModel", "token", "I", false)
  | 14 => ("ThreadsAndSplitsModel", "worth", "I", false)
  | 15 => ("ThreadsAndSplitsModel", "open", "I", false)
  | 16 => ("ThreadsAndSplitsModel", "isWrong", "Z", false)
  | 17 => ("ThreadsAndSplitsModel", "wrongAt", "I", false)
  | 18 => ("ThreadsAndSplitsModel", "letters", "[C", true)
  | 19 => ("ThreadsAndSplitsModel", "pile", "[I", true)
  | 20 => ("ThreadsAndSplitsModel", "names", "[I", true)
  | 21 => ("ThreadsAndSplitsModel", "acts", "I", false)
  | 22 => ("ThreadsAndSplitsModel", "kind", "[I", true)
  | 23 => ("ThreadsAndSplitsModel", "more", "[I", true)
  | 24 => ("ThreadsAndSplitsModel", "of", "[I", true)
  | 25 => ("ThreadsAndSplitsModel", "pot", "[I", true)
  | 26 => ("ThreadsAndSplitsModel", "isDrawn", "Z", false)
  | 27 => ("ThreadsAndSplitsModel", "lot", "J", false)
  | 28 => ("ThreadsAndSplitsModel", "heldMinutes", "I", false)
  | 29 => ("ThreadsAndSplitsModel", "isKept", "Z", false)
  | 30 => ("ThreadsAndSplitsModel", "keptCheeses", "I", false)
  | 31 => ("ThreadsAndSplitsModel", "keptRule", "I", false)
  | 32 => ("ThreadsAndSplitsModel", "keptCheese", "[I", true)
  | 33 => ("ThreadsAndSplitsModel", "keptTold", "[I", true)
  | 34 => ("ThreadsAndSplitsModel", "sorts", "[I", true)
  | 35 => ("ThreadsAndSplitsModel", "sizes", "[I", true)
  | 36 => ("ThreadsAndSplitsModel", "items", "[I", true)
  | _ => ("ThreadsAndSplitsModel", "carried", "[I", true)
def tyX7 : Nat → FieldType := fun k => match k with
  | 0 => .int
  | 1 => .array .int
  | 2 => .array .int
  | 3 => .array .int
  | 4 => .int
  | 5 => .int
  | 6 => .int
  | 7 => .array .int
  | 8 => .array .int
  | 9 => .array .int
  | 10 => .int
  | 11 => .int
  | 12 => .int
  | 13 => .int
  | 14 => .int
  | 15 => .int
  | 16 => .boolean
  | 17 => .int
  | 18 => .array .char
  | 19 => .array .int
  | 20 => .array .int
  | 21 => .int
  | 22 => .array .int
  | 23 => .array .int
  | 24 => .array .int
  | 25 => .array .int
  | 26 => .boolean
  | 27 => .long
  | 28 => .int
  | 29 => .boolean
  | 30 => .int
  | 31 => .int
  | 32 => .array .int
  | 33 => .array .int
  | 34 => .array .int
  | 35 => .array .int
  | 36 => .array .int
  | _ => .array .int
abbrev wsX70 : List Cond := u_ws RX7 TX7 38
theorem nmX7 : ∀ a, a < 38 → ∀ b, b < 38 → a ≠ b → (TX7 a).2.1 ≠ (TX7 b).2.1 := by decide +kernel
theorem tyX7_ok : ∀ k, k < 38 → parseFieldDescriptor (TX7 k).2.2.1 = some (tyX7 k) := by decide +kernel
abbrev cX7_in : ByteArray := prog_9_method_1_code
def yX7_in : MethodName := ⟨RX7, "in", "(JJJ)Z"⟩
abbrev cX7_held : ByteArray := prog_9_method_2_code
def yX7_held : MethodName := ⟨RX7, "held", "(II)I"⟩
abbrev cX7_init : ByteArray := prog_9_method_3_code
def yX7_init : MethodName := ⟨RX7, "<init>", "()V"⟩
abbrev cX7_isCheese : ByteArray := prog_9_method_4_code
def yX7_isCheese : MethodName := ⟨RX7, "isCheese", "(I)Z"⟩
abbrev cX7_mayBe : ByteArray := prog_9_method_5_code
def yX7_mayBe : MethodName := ⟨RX7, "mayBe", "(II)Z"⟩
abbrev cX7_cheese : ByteArray := prog_9_method_6_code
def yX7_cheese : MethodName := ⟨RX7, "cheese", "(IIIII)I"⟩
abbrev cX7_ripen : ByteArray := prog_9_method_7_code
def yX7_ripen : MethodName := ⟨RX7, "ripen", "(III)I"⟩
abbrev cX7_sortTold : ByteArray := prog_9_method_8_code
def yX7_sortTold : MethodName := ⟨RX7, "sortTold", "(II)I"⟩
abbrev cX7_set : ByteArray := prog_9_method_9_code
def yX7_set : MethodName := ⟨RX7, "set", "(II)I"⟩
abbrev cX7_count : ByteArray := prog_9_method_10_code
def yX7_count : MethodName := ⟨RX7, "count", "(I)I"⟩
abbrev cX7_isByte : ByteArray := prog_9_method_11_code
def yX7_isByte : MethodName := ⟨RX7, "isByte", "(I)Z"⟩
abbrev cX7_feed : ByteArray := prog_9_method_12_code
def yX7_feed : MethodName := ⟨RX7, "feed", "(IIIIII)I"⟩
abbrev cX7_byteAt : ByteArray := prog_9_method_13_code
def yX7_byteAt : MethodName := ⟨RX7, "byteAt", "(I)I"⟩
abbrev cX7_wordOf : ByteArray := prog_9_method_14_code
def yX7_wordOf : MethodName := ⟨RX7, "wordOf", "()I"⟩
abbrev cX7_isLetter : ByteArray := prog_9_method_15_code
def yX7_isLetter : MethodName := ⟨RX7, "isLetter", "(I)Z"⟩
abbrev cX7_isDigit : ByteArray := prog_9_method_16_code
def yX7_isDigit : MethodName := ⟨RX7, "isDigit", "(I)Z"⟩
abbrev cX7_isSignByte : ByteArray := prog_9_method_17_code
def yX7_isSignByte : MethodName := ⟨RX7, "isSignByte", "(I)Z"⟩
abbrev cX7_next : ByteArray := prog_9_method_18_code
def yX7_next : MethodName := ⟨RX7, "next", "()V"⟩
abbrev cX7_wrong : ByteArray := prog_9_method_19_code
def yX7_wrong : MethodName := ⟨RX7, "wrong", "()V"⟩
abbrev cX7_isSign : ByteArray := prog_9_method_20_code
def yX7_isSign : MethodName := ⟨RX7, "isSign", "(I)Z"⟩
abbrev cX7_isKey : ByteArray := prog_9_method_21_code
def yX7_isKey : MethodName := ⟨RX7, "isKey", "(I)Z"⟩
abbrev cX7_adds : ByteArray := prog_9_method_22_code
def yX7_adds : MethodName := ⟨RX7, "adds", "(I)V"⟩
abbrev cX7_opens : ByteArray := prog_9_method_23_code
def yX7_opens : MethodName := ⟨RX7, "opens", "()Z"⟩
abbrev cX7_one : ByteArray := prog_9_method_24_code
def yX7_one : MethodName := ⟨RX7, "one", "()V"⟩
abbrev cX7_term : ByteArray := prog_9_method_25_code
def yX7_term : MethodName := ⟨RX7, "term", "()V"⟩
abbrev cX7_sum : ByteArray := prog_9_method_26_code
def yX7_sum : MethodName := ⟨RX7, "sum", "()V"⟩
abbrev cX7_not : ByteArray := prog_9_method_27_code
def yX7_not : MethodName := ⟨RX7, "not", "()V"⟩
abbrev cX7_both : ByteArray := prog_9_method_28_code
def yX7_both : MethodName := ⟨RX7, "both", "()V"⟩
abbrev cX7_either : ByteArray := prog_9_method_29_code
def yX7_either : MethodName := ⟨RX7, "either", "()V"⟩
abbrev cX7_text : ByteArray := prog_9_method_30_code
def yX7_text : MethodName := ⟨RX7, "text", "()I"⟩
abbrev cX7_force : ByteArray := prog_9_method_31_code
def yX7_force : MethodName := ⟨RX7, "force", "(I)I"⟩
abbrev cX7_reckon : ByteArray := prog_9_method_32_code
def yX7_reckon : MethodName := ⟨RX7, "reckon", "(III)I"⟩
abbrev cX7_work : ByteArray := prog_9_method_33_code
def yX7_work : MethodName := ⟨RX7, "work", "(I)I"⟩
abbrev cX7_isAct : ByteArray := prog_9_method_34_code
def yX7_isAct : MethodName := ⟨RX7, "isAct", "(I)Z"⟩
abbrev cX7_act : ByteArray := prog_9_method_35_code
def yX7_act : MethodName := ⟨RX7, "act", "(III)I"⟩
abbrev cX7_forget : ByteArray := prog_9_method_36_code
def yX7_forget : MethodName := ⟨RX7, "forget", "()I"⟩
abbrev cX7_minutesOf : ByteArray := prog_9_method_37_code
def yX7_minutesOf : MethodName := ⟨RX7, "minutesOf", "(II)I"⟩
abbrev cX7_actTold : ByteArray := prog_9_method_38_code
def yX7_actTold : MethodName := ⟨RX7, "actTold", "(II)I"⟩
abbrev cX7_begins : ByteArray := prog_9_method_39_code
def yX7_begins : MethodName := ⟨RX7, "begins", "()V"⟩
abbrev cX7_handfuls : ByteArray := prog_9_method_40_code
def yX7_handfuls : MethodName := ⟨RX7, "handfuls", "(II)V"⟩
abbrev cX7_strokesOf : ByteArray := prog_9_method_41_code
def yX7_strokesOf : MethodName := ⟨RX7, "strokesOf", "(I)V"⟩
abbrev cX7_drawsHeat : ByteArray := prog_9_method_42_code
def yX7_drawsHeat : MethodName := ⟨RX7, "drawsHeat", "()I"⟩
abbrev cX7_minute : ByteArray := prog_9_method_43_code
def yX7_minute : MethodName := ⟨RX7, "minute", "(Z)V"⟩
abbrev cX7_pours : ByteArray := prog_9_method_44_code
def yX7_pours : MethodName := ⟨RX7, "pours", "(II)V"⟩
abbrev cX7_does : ByteArray := prog_9_method_45_code
def yX7_does : MethodName := ⟨RX7, "does", "(III)V"⟩
abbrev cX7_doesAct : ByteArray := prog_9_method_46_code
def yX7_doesAct : MethodName := ⟨RX7, "doesAct", "(I)V"⟩
abbrev cX7_goes : ByteArray := prog_9_method_47_code
def yX7_goes : MethodName := ⟨RX7, "goes", "(I)V"⟩
abbrev cX7_thick : ByteArray := prog_9_method_48_code
def yX7_thick : MethodName := ⟨RX7, "thick", "()I"⟩
abbrev cX7_threads : ByteArray := prog_9_method_49_code
def yX7_threads : MethodName := ⟨RX7, "threads", "()I"⟩
abbrev cX7_sortNow : ByteArray := prog_9_method_50_code
def yX7_sortNow : MethodName := ⟨RX7, "sortNow", "()I"⟩
abbrev cX7_holds : ByteArray := prog_9_method_51_code
def yX7_holds : MethodName := ⟨RX7, "holds", "()Z"⟩
abbrev cX7_potTold : ByteArray := prog_9_method_52_code
def yX7_potTold : MethodName := ⟨RX7, "potTold", "(I)I"⟩
abbrev cX7_areActs : ByteArray := prog_9_method_53_code
def yX7_areActs : MethodName := ⟨RX7, "areActs", "(I)Z"⟩
abbrev cX7_pot : ByteArray := prog_9_method_54_code
def yX7_pot : MethodName := ⟨RX7, "pot", "(II)I"⟩
abbrev cX7_splits : ByteArray := prog_9_method_55_code
def yX7_splits : MethodName := ⟨RX7, "splits", "(I)I"⟩
abbrev cX7_hour : ByteArray := prog_9_method_56_code
def yX7_hour : MethodName := ⟨RX7, "hour", "(II)I"⟩
abbrev cX7_holdsInAll : ByteArray := prog_9_method_57_code
def yX7_holdsInAll : MethodName := ⟨RX7, "holdsInAll", "()Z"⟩
abbrev cX7_holdsWith : ByteArray := prog_9_method_58_code
def yX7_holdsWith : MethodName := ⟨RX7, "holdsWith", "(II)Z"⟩
abbrev cX7_flames : ByteArray := prog_9_method_59_code
def yX7_flames : MethodName := ⟨RX7, "flames", "()I"⟩
abbrev cX7_sours : ByteArray := prog_9_method_60_code
def yX7_sours : MethodName := ⟨RX7, "sours", "()I"⟩
abbrev cX7_region : ByteArray := prog_9_method_61_code
def yX7_region : MethodName := ⟨RX7, "region", "()I"⟩
abbrev cX7_most : ByteArray := prog_9_method_62_code
def yX7_most : MethodName := ⟨RX7, "most", "()I"⟩
abbrev cX7_lowest : ByteArray := prog_9_method_63_code
def yX7_lowest : MethodName := ⟨RX7, "lowest", "(JJI)J"⟩
abbrev cX7_odds : ByteArray := prog_9_method_64_code
def yX7_odds : MethodName := ⟨RX7, "odds", "(II)J"⟩
abbrev cX7_save : ByteArray := prog_9_method_65_code
def yX7_save : MethodName := ⟨RX7, "save", "(III)I"⟩
abbrev cX7_why : ByteArray := prog_9_method_66_code
def yX7_why : MethodName := ⟨RX7, "why", "(I)I"⟩
abbrev cX7_order : ByteArray := prog_9_method_67_code
def yX7_order : MethodName := ⟨RX7, "order", "(I)I"⟩
abbrev cX7_strokes : ByteArray := prog_9_method_68_code
def yX7_strokes : MethodName := ⟨RX7, "strokes", "(II)I"⟩
abbrev cX7_mix : ByteArray := prog_9_method_69_code
def yX7_mix : MethodName := ⟨RX7, "mix", "(III)I"⟩
abbrev cX7_week : ByteArray := prog_9_method_70_code
def yX7_week : MethodName := ⟨RX7, "week", "(II)I"⟩
abbrev cX7_pace : ByteArray := prog_9_method_71_code
def yX7_pace : MethodName := ⟨RX7, "pace", "(II)I"⟩
abbrev cX7_atTable : ByteArray := prog_9_method_72_code
def yX7_atTable : MethodName := ⟨RX7, "atTable", "(II)V"⟩
abbrev cX7_table : ByteArray := prog_9_method_73_code
def yX7_table : MethodName := ⟨RX7, "table", "(III)I"⟩
abbrev cX7_dips : ByteArray := prog_9_method_74_code
def yX7_dips : MethodName := ⟨RX7, "dips", "(II)I"⟩
abbrev cX7_wick : ByteArray := prog_9_method_75_code
def yX7_wick : MethodName := ⟨RX7, "wick", "(II)I"⟩
abbrev cX7_refuses : ByteArray := prog_9_method_76_code
def yX7_refuses : MethodName := ⟨RX7, "refuses", "(I)I"⟩
abbrev cX7_judge : ByteArray := prog_9_method_77_code
def yX7_judge : MethodName := ⟨RX7, "judge", "(I)I"⟩
abbrev cX7_film : ByteArray := prog_9_method_78_code
def yX7_film : MethodName := ⟨RX7, "film", "(I)I"⟩
abbrev cX7_isFilm : ByteArray := prog_9_method_79_code
def yX7_isFilm : MethodName := ⟨RX7, "isFilm", "(I)Z"⟩
abbrev cX7_ages : ByteArray := prog_9_method_80_code
def yX7_ages : MethodName := ⟨RX7, "ages", "(II)J"⟩
abbrev cX7_which : ByteArray := prog_9_method_81_code
def yX7_which : MethodName := ⟨RX7, "which", "(I)I"⟩
abbrev cX7_goesDrawn : ByteArray := prog_9_method_82_code
def yX7_goesDrawn : MethodName := ⟨RX7, "goesDrawn", "(II)V"⟩
abbrev cX7_drawn : ByteArray := prog_9_method_83_code
def yX7_drawn : MethodName := ⟨RX7, "drawn", "(III)I"⟩
abbrev cX7_chance : ByteArray := prog_9_method_84_code
def yX7_chance : MethodName := ⟨RX7, "chance", "(III)J"⟩
abbrev cX7_image : ByteArray := prog_9_method_85_code
def yX7_image : MethodName := ⟨RX7, "image", "()I"⟩
abbrev cX7_back : ByteArray := prog_9_method_86_code
def yX7_back : MethodName := ⟨RX7, "back", "()I"⟩
abbrev cX7_isSheet : ByteArray := prog_9_method_87_code
def yX7_isSheet : MethodName := ⟨RX7, "isSheet", "(I)Z"⟩
abbrev cX7_sheet : ByteArray := prog_9_method_88_code
def yX7_sheet : MethodName := ⟨RX7, "sheet", "(III)I"⟩
abbrev cX7_cell : ByteArray := prog_9_method_89_code
def yX7_cell : MethodName := ⟨RX7, "cell", "(III)I"⟩
abbrev cX7_copy : ByteArray := prog_9_method_90_code
def yX7_copy : MethodName := ⟨RX7, "copy", "(IIIII)I"⟩
abbrev cX7_actsBy : ByteArray := prog_9_method_91_code
def yX7_actsBy : MethodName := ⟨RX7, "actsBy", "(IIII)I"⟩
abbrev cX7_over : ByteArray := prog_9_method_92_code
def yX7_over : MethodName := ⟨RX7, "over", "(I)I"⟩
abbrev cX7_takenAct : ByteArray := prog_9_method_93_code
def yX7_takenAct : MethodName := ⟨RX7, "takenAct", "(II)I"⟩
abbrev cX7_taken : ByteArray := prog_9_method_94_code
def yX7_taken : MethodName := ⟨RX7, "taken", "(II)I"⟩
def RJ11 : String := "java/lang/Character"
def TJ11 : u_T := fun k => match k with
  | _ => ("", "", "", false)
def tyJ11 : Nat → FieldType := fun k => match k with
  | _ => .int
abbrev wsJ110 : List Cond := u_ws RJ11 TJ11 0
theorem nmJ11 : ∀ a, a < 0 → ∀ b, b < 0 → a ≠ b → (TJ11 a).2.1 ≠ (TJ11 b).2.1 := by decide +kernel
theorem tyJ11_ok : ∀ k, k < 0 → parseFieldDescriptor (TJ11 k).2.2.1 = some (tyJ11 k) := by decide +kernel
abbrev cJ11_isValidCodePoint_9a6ad : ByteArray := prog_10_method_11_code
def yJ11_isValidCodePoint_9a6ad : MethodName := ⟨RJ11, "isValidCodePoint", "(I)Z"⟩
abbrev cJ11_highSurrogate_5068e : ByteArray := prog_10_method_28_code
def yJ11_highSurrogate_5068e : MethodName := ⟨RJ11, "highSurrogate", "(I)C"⟩
abbrev cJ11_lowSurrogate_5068e : ByteArray := prog_10_method_29_code
def yJ11_lowSurrogate_5068e : MethodName := ⟨RJ11, "lowSurrogate", "(I)C"⟩
def RJ9 : String := "java/lang/Math"
def TJ9 : u_T := fun k => match k with
  | _ => ("", "", "", false)
def tyJ9 : Nat → FieldType := fun k => match k with
  | _ => .int
abbrev wsJ90 : List Cond := u_ws RJ9 TJ9 0
theorem nmJ9 : ∀ a, a < 0 → ∀ b, b < 0 → a ≠ b → (TJ9 a).2.1 ≠ (TJ9 b).2.1 := by decide +kernel
theorem tyJ9_ok : ∀ k, k < 0 → parseFieldDescriptor (TJ9 k).2.2.1 = some (tyJ9 k) := by decide +kernel
abbrev cJ9_max_7cf53 : ByteArray := prog_11_method_65_code
def yJ9_max_7cf53 : MethodName := ⟨RJ9, "max", "(II)I"⟩
abbrev cJ9_min_7cf53 : ByteArray := prog_11_method_69_code
def yJ9_min_7cf53 : MethodName := ⟨RJ9, "min", "(II)I"⟩
def RJ0 : String := "java/lang/String"
def TJ0 : u_T := fun k => match k with
  | _ => ("", "", "", false)
def tyJ0 : Nat → FieldType := fun k => match k with
  | _ => .int
abbrev wsJ00 : List Cond := u_ws RJ0 TJ0 0
theorem nmJ0 : ∀ a, a < 0 → ∀ b, b < 0 → a ≠ b → (TJ0 a).2.1 ≠ (TJ0 b).2.1 := by decide +kernel
theorem tyJ0_ok : ∀ k, k < 0 → parseFieldDescriptor (TJ0 k).2.2.1 = some (tyJ0 k) := by decide +kernel
abbrev cJ0_length_8abf5 : ByteArray := prog_12_method_54_code
def yJ0_length_8abf5 : MethodName := ⟨RJ0, "length", "()I"⟩
abbrev cJ0_charAt_5068e : ByteArray := prog_12_method_56_code
def yJ0_charAt_5068e : MethodName := ⟨RJ0, "charAt", "(I)C"⟩
abbrev cJ0_indexOf_0f7a4 : ByteArray := prog_12_method_79_code
def yJ0_indexOf_0f7a4 : MethodName := ⟨RJ0, "indexOf", "(I)I"⟩
abbrev cJ0_indexOf_7cf53 : ByteArray := prog_12_method_80_code
def yJ0_indexOf_7cf53 : MethodName := ⟨RJ0, "indexOf", "(II)I"⟩
abbrev cJ0_coder_7d493 : ByteArray := prog_12_method_152_code
def yJ0_coder_7d493 : MethodName := ⟨RJ0, "coder", "()B"⟩
abbrev cJ0_isLatin1_aae02 : ByteArray := prog_12_method_154_code
def yJ0_isLatin1_aae02 : MethodName := ⟨RJ0, "isLatin1", "()Z"⟩
abbrev cJ0_checkIndex_df160 : ByteArray := prog_12_method_155_code
def yJ0_checkIndex_df160 : MethodName := ⟨RJ0, "checkIndex", "(II)V"⟩
abbrev cJ0_checkBoundsBeginEnd_23922 : ByteArray := prog_12_method_158_code
def yJ0_checkBoundsBeginEnd_23922 : MethodName := ⟨RJ0, "checkBoundsBeginEnd", "(III)V"⟩
def RJ1 : String := "java/lang/StringLatin1"
def TJ1 : u_T := fun k => match k with
  | _ => ("", "", "", false)
def tyJ1 : Nat → FieldType := fun k => match k with
  | _ => .int
abbrev wsJ10 : List Cond := u_ws RJ1 TJ1 0
theorem nmJ1 : ∀ a, a < 0 → ∀ b, b < 0 → a ≠ b → (TJ1 a).2.1 ≠ (TJ1 b).2.1 := by decide +kernel
theorem tyJ1_ok : ∀ k, k < 0 → parseFieldDescriptor (TJ1 k).2.2.1 = some (tyJ1 k) := by decide +kernel
abbrev cJ1_charAt_3b067 : ByteArray := prog_13_method_2_code
def yJ1_charAt_3b067 : MethodName := ⟨RJ1, "charAt", "([BI)C"⟩
abbrev cJ1_canEncode_9a6ad : ByteArray := prog_13_method_4_code
def yJ1_canEncode_9a6ad : MethodName := ⟨RJ1, "canEncode", "(I)Z"⟩
abbrev cJ1_indexOf_4cfef : ByteArray := prog_13_method_22_code
def yJ1_indexOf_4cfef : MethodName := ⟨RJ1, "indexOf", "([BIII)I"⟩
abbrev cJ1_indexOfChar_4cfef : ByteArray := prog_13_method_23_code
def yJ1_indexOfChar_4cfef : MethodName := ⟨RJ1, "indexOfChar", "([BIII)I"⟩
def RJ2 : String := "java/lang/StringUTF16"
def TJ2 : u_T := fun k => match k with
  | _ => ("", "", "", false)
def tyJ2 : Nat → FieldType := fun k => match k with
  | _ => .int
abbrev wsJ20 : List Cond := u_ws RJ2 TJ2 0
theorem nmJ2 : ∀ a, a < 0 → ∀ b, b < 0 → a ≠ b → (TJ2 a).2.1 ≠ (TJ2 b).2.1 := by decide +kernel
theorem tyJ2_ok : ∀ k, k < 0 → parseFieldDescriptor (TJ2 k).2.2.1 = some (tyJ2 k) := by decide +kernel
abbrev cJ2_getChar_3b067 : ByteArray := prog_14_method_5_code
def yJ2_getChar_3b067 : MethodName := ⟨RJ2, "getChar", "([BI)C"⟩
abbrev cJ2_length_9d52b : ByteArray := prog_14_method_6_code
def yJ2_length_9d52b : MethodName := ⟨RJ2, "length", "([B)I"⟩
abbrev cJ2_indexOf_4cfef : ByteArray := prog_14_method_40_code
def yJ2_indexOf_4cfef : MethodName := ⟨RJ2, "indexOf", "([BIII)I"⟩
abbrev cJ2_indexOfChar_4cfef : ByteArray := prog_14_method_47_code
def yJ2_indexOfChar_4cfef : MethodName := ⟨RJ2, "indexOfChar", "([BIII)I"⟩
abbrev cJ2_indexOfCharUnsafe_4cfef : ByteArray := prog_14_method_48_code
def yJ2_indexOfCharUnsafe_4cfef : MethodName := ⟨RJ2, "indexOfCharUnsafe", "([BIII)I"⟩
abbrev cJ2_indexOfSupplementary_4cfef : ByteArray := prog_14_method_49_code
def yJ2_indexOfSupplementary_4cfef : MethodName := ⟨RJ2, "indexOfSupplementary", "([BIII)I"⟩
abbrev cJ2_charAt_3b067 : ByteArray := prog_14_method_83_code
def yJ2_charAt_3b067 : MethodName := ⟨RJ2, "charAt", "([BI)C"⟩
abbrev cJ2_checkIndex_2214a : ByteArray := prog_14_method_91_code
def yJ2_checkIndex_2214a : MethodName := ⟨RJ2, "checkIndex", "(I[B)V"⟩
abbrev cJ2_checkBoundsBeginEnd_d044e : ByteArray := prog_14_method_93_code
def yJ2_checkBoundsBeginEnd_d044e : MethodName := ⟨RJ2, "checkBoundsBeginEnd", "(II[B)V"⟩
def RJ10 : String := "java/lang/System"
def TJ10 : u_T := fun k => match k with
  | _ => ("", "", "", false)
def tyJ10 : Nat → FieldType := fun k => match k with
  | _ => .int
abbrev wsJ100 : List Cond := u_ws RJ10 TJ10 0
theorem nmJ10 : ∀ a, a < 0 → ∀ b, b < 0 → a ≠ b → (TJ10 a).2.1 ≠ (TJ10 b).2.1 := by decide +kernel
theorem tyJ10_ok : ∀ k, k < 0 → parseFieldDescriptor (TJ10 k).2.2.1 = some (tyJ10 k) := by decide +kernel
def RJ3 : String := "jdk/internal/util/Preconditions"
def TJ3 : u_T := fun k => match k with
  | _ => ("", "", "", false)
def tyJ3 : Nat → FieldType := fun k => match k with
  | _ => .int
abbrev wsJ30 : List Cond := u_ws RJ3 TJ3 0
theorem nmJ3 : ∀ a, a < 0 → ∀ b, b < 0 → a ≠ b → (TJ3 a).2.1 ≠ (TJ3 b).2.1 := by decide +kernel
theorem tyJ3_ok : ∀ k, k < 0 → parseFieldDescriptor (TJ3 k).2.2.1 = some (tyJ3 k) := by decide +kernel
abbrev cJ3_checkIndex_8e157 : ByteArray := prog_16_method_11_code
def yJ3_checkIndex_8e157 : MethodName := ⟨RJ3, "checkIndex", "(IILjava/util/function/BiFunction;)I"⟩
abbrev cJ3_checkFromToIndex_8c36e : ByteArray := prog_16_method_12_code
def yJ3_checkFromToIndex_8c36e : MethodName := ⟨RJ3, "checkFromToIndex", "(IIILjava/util/function/BiFunction;)I"⟩
def RL : String := "ThreadsAndSplitsLaw"
abbrev cL_law : ByteArray := code
def yL_law : MethodName := ⟨RL, "law", "([I)Z"⟩
abbrev vwCl : List vw_C := [(RX0, TX0, 3), (RX1, TX1, 1), (RX2, TX2, 3), (RX3, TX3, 17), (RX4, TX4, 10), (RX5, TX5, 3), (RX6, TX6, 17), (RX7, TX7, 38)]
