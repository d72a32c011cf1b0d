-- ===== PART A: goes FIRST, ahead of the names: the tables' words, and 'selects' of the private methods out of them =====
/-- a private method of a class that the tables say can be made, by its rows of tables_1 -/
def lw_okq (q : MethodName × Nat) : Prop := (q.1.cls ≠ "java/lang/invoke/MethodHandle" ∧ q.1.cls ≠ "java/lang/invoke/VarHandle") ∧ Cond.instantiable q.1.cls q.2 ∈ tables_1 ∧ Cond.privateMethod q.1 ∈ tables_1 ∧ Cond.instanceMethod q.1 ∈ tables_1
theorem lw_nc_0 : "MarkTables" ≠ "java/lang/invoke/MethodHandle" ∧ "MarkTables" ≠ "java/lang/invoke/VarHandle" := ⟨by decide +kernel, by decide +kernel⟩
set_option maxRecDepth 100000 in
theorem lw_p0 : lw_okq (⟨"MarkTables", "refuse", "(I)I"⟩, 9) := ⟨lw_nc_0, List.mem_of_getElem? (i := 14) rfl, List.mem_of_getElem? (i := 337) rfl, List.mem_of_getElem? (i := 338) rfl⟩
set_option maxRecDepth 100000 in
theorem lw_p1 : lw_okq (⟨"MarkTables", "accept", "(I)I"⟩, 9) := ⟨lw_nc_0, List.mem_of_getElem? (i := 14) rfl, List.mem_of_getElem? (i := 349) rfl, List.mem_of_getElem? (i := 350) rfl⟩
set_option maxRecDepth 100000 in
theorem lw_p2 : lw_okq (⟨"MarkTables", "readSheets", "(I)Z"⟩, 9) := ⟨lw_nc_0, List.mem_of_getElem? (i := 14) rfl, List.mem_of_getElem? (i := 369) rfl, List.mem_of_getElem? (i := 370) rfl⟩
set_option maxRecDepth 100000 in
theorem lw_p3 : lw_okq (⟨"MarkTables", "unusedGroup", "()LMarkTables$Group;"⟩, 9) := ⟨lw_nc_0, List.mem_of_getElem? (i := 14) rfl, List.mem_of_getElem? (i := 377) rfl, List.mem_of_getElem? (i := 378) rfl⟩
set_option maxRecDepth 100000 in
theorem lw_p4 : lw_okq (⟨"MarkTables", "isInUse", "(LMarkTables$Group;)Z"⟩, 9) := ⟨lw_nc_0, List.mem_of_getElem? (i := 14) rfl, List.mem_of_getElem? (i := 381) rfl, List.mem_of_getElem? (i := 382) rfl⟩
theorem lw_nc_1 : "MarkTables$Turns" ≠ "java/lang/invoke/MethodHandle" ∧ "MarkTables$Turns" ≠ "java/lang/invoke/VarHandle" := ⟨by decide +kernel, by decide +kernel⟩
set_option maxRecDepth 100000 in
theorem lw_p5 : lw_okq (⟨"MarkTables$Turns", "keepMakers", "([I)V"⟩, 11) := ⟨lw_nc_1, List.mem_of_getElem? (i := 134) rfl, List.mem_of_getElem? (i := 393) rfl, List.mem_of_getElem? (i := 394) rfl⟩
set_option maxRecDepth 100000 in
theorem lw_p6 : lw_okq (⟨"MarkTables$Turns", "collect", "()Z"⟩, 11) := ⟨lw_nc_1, List.mem_of_getElem? (i := 134) rfl, List.mem_of_getElem? (i := 400) rfl, List.mem_of_getElem? (i := 401) rfl⟩
set_option maxRecDepth 100000 in
theorem lw_p7 : lw_okq (⟨"MarkTables$Turns", "sortCodes", "()V"⟩, 11) := ⟨lw_nc_1, List.mem_of_getElem? (i := 134) rfl, List.mem_of_getElem? (i := 410) rfl, List.mem_of_getElem? (i := 411) rfl⟩
set_option maxRecDepth 100000 in
theorem lw_p8 : lw_okq (⟨"MarkTables$Turns", "fillSteps", "()V"⟩, 11) := ⟨lw_nc_1, List.mem_of_getElem? (i := 134) rfl, List.mem_of_getElem? (i := 414) rfl, List.mem_of_getElem? (i := 415) rfl⟩
set_option maxRecDepth 100000 in
theorem lw_p9 : lw_okq (⟨"MarkTables$Turns", "numberOf", "(I)I"⟩, 11) := ⟨lw_nc_1, List.mem_of_getElem? (i := 134) rfl, List.mem_of_getElem? (i := 418) rfl, List.mem_of_getElem? (i := 419) rfl⟩
set_option maxRecDepth 100000 in
theorem lw_p10 : lw_okq (⟨"MarkTables$Turns", "fillProducts", "()V"⟩, 11) := ⟨lw_nc_1, List.mem_of_getElem? (i := 134) rfl, List.mem_of_getElem? (i := 422) rfl, List.mem_of_getElem? (i := 423) rfl⟩
set_option maxRecDepth 100000 in
theorem lw_p11 : lw_okq (⟨"MarkTables$Turns", "fillProductsBy", "(III)V"⟩, 11) := ⟨lw_nc_1, List.mem_of_getElem? (i := 134) rfl, List.mem_of_getElem? (i := 432) rfl, List.mem_of_getElem? (i := 433) rfl⟩
set_option maxRecDepth 100000 in
theorem lw_p12 : lw_okq (⟨"MarkTables$Turns", "fillPowers", "()V"⟩, 11) := ⟨lw_nc_1, List.mem_of_getElem? (i := 134) rfl, List.mem_of_getElem? (i := 436) rfl, List.mem_of_getElem? (i := 437) rfl⟩
theorem lw_nc_2 : "MarkTables$HeapFinder" ≠ "java/lang/invoke/MethodHandle" ∧ "MarkTables$HeapFinder" ≠ "java/lang/invoke/VarHandle" := ⟨by decide +kernel, by decide +kernel⟩
set_option maxRecDepth 100000 in
theorem lw_p13 : lw_okq (⟨"MarkTables$HeapFinder", "gatherSeeds", "(LMarkTables$Turns;)V"⟩, 18) := ⟨lw_nc_2, List.mem_of_getElem? (i := 24) rfl, List.mem_of_getElem? (i := 448) rfl, List.mem_of_getElem? (i := 449) rfl⟩
set_option maxRecDepth 100000 in
theorem lw_p14 : lw_okq (⟨"MarkTables$HeapFinder", "fillLed", "(LMarkTables$Turns;)V"⟩, 18) := ⟨lw_nc_2, List.mem_of_getElem? (i := 24) rfl, List.mem_of_getElem? (i := 459) rfl, List.mem_of_getElem? (i := 460) rfl⟩
set_option maxRecDepth 100000 in
theorem lw_p15 : lw_okq (⟨"MarkTables$HeapFinder", "startWithTurnNought", "()V"⟩, 18) := ⟨lw_nc_2, List.mem_of_getElem? (i := 24) rfl, List.mem_of_getElem? (i := 467) rfl, List.mem_of_getElem? (i := 468) rfl⟩
def lw_privs_1 : List (MethodName × Nat) := [(⟨"MarkTables", "refuse", "(I)I"⟩, 9), (⟨"MarkTables", "accept", "(I)I"⟩, 9), (⟨"MarkTables", "readSheets", "(I)Z"⟩, 9), (⟨"MarkTables", "unusedGroup", "()LMarkTables$Group;"⟩, 9), (⟨"MarkTables", "isInUse", "(LMarkTables$Group;)Z"⟩, 9), (⟨"MarkTables$Turns", "keepMakers", "([I)V"⟩, 11), (⟨"MarkTables$Turns", "collect", "()Z"⟩, 11), (⟨"MarkTables$Turns", "sortCodes", "()V"⟩, 11), (⟨"MarkTables$Turns", "fillSteps", "()V"⟩, 11), (⟨"MarkTables$Turns", "numberOf", "(I)I"⟩, 11), (⟨"MarkTables$Turns", "fillProducts", "()V"⟩, 11), (⟨"MarkTables$Turns", "fillProductsBy", "(III)V"⟩, 11), (⟨"MarkTables$Turns", "fillPowers", "()V"⟩, 11), (⟨"MarkTables$HeapFinder", "gatherSeeds", "(LMarkTables$Turns;)V"⟩, 18), (⟨"MarkTables$HeapFinder", "fillLed", "(LMarkTables$Turns;)V"⟩, 18), (⟨"MarkTables$HeapFinder", "startWithTurnNought", "()V"⟩, 18)]
theorem lw_r1 : ∀ q ∈ lw_privs_1, lw_okq q := List.forall_mem_cons.mpr ⟨lw_p0, List.forall_mem_cons.mpr ⟨lw_p1, List.forall_mem_cons.mpr ⟨lw_p2, List.forall_mem_cons.mpr ⟨lw_p3, List.forall_mem_cons.mpr ⟨lw_p4, List.forall_mem_cons.mpr ⟨lw_p5, List.forall_mem_cons.mpr ⟨lw_p6, List.forall_mem_cons.mpr ⟨lw_p7, List.forall_mem_cons.mpr ⟨lw_p8, List.forall_mem_cons.mpr ⟨lw_p9, List.forall_mem_cons.mpr ⟨lw_p10, List.forall_mem_cons.mpr ⟨lw_p11, List.forall_mem_cons.mpr ⟨lw_p12, List.forall_mem_cons.mpr ⟨lw_p13, List.forall_mem_cons.mpr ⟨lw_p14, List.forall_mem_cons.mpr ⟨lw_p15, fun _ h => absurd h List.not_mem_nil⟩⟩⟩⟩⟩⟩⟩⟩⟩⟩⟩⟩⟩⟩⟩⟩
set_option maxRecDepth 100000 in
theorem lw_p16 : lw_okq (⟨"MarkTables$HeapFinder", "growFrom", "(ILMarkTables$Turns;)Z"⟩, 18) := ⟨lw_nc_2, List.mem_of_getElem? (i := 24) rfl, List.mem_of_getElem? (i := 471) rfl, List.mem_of_getElem? (i := 472) rfl⟩
set_option maxRecDepth 100000 in
theorem lw_p17 : lw_okq (⟨"MarkTables$HeapFinder", "gatherMembers", "(ILMarkTables$Turns;)V"⟩, 18) := ⟨lw_nc_2, List.mem_of_getElem? (i := 24) rfl, List.mem_of_getElem? (i := 475) rfl, List.mem_of_getElem? (i := 476) rfl⟩
set_option maxRecDepth 100000 in
theorem lw_p18 : lw_okq (⟨"MarkTables$HeapFinder", "close", "(IILMarkTables$Turns;)V"⟩, 18) := ⟨lw_nc_2, List.mem_of_getElem? (i := 24) rfl, List.mem_of_getElem? (i := 482) rfl, List.mem_of_getElem? (i := 483) rfl⟩
set_option maxRecDepth 100000 in
theorem lw_p19 : lw_okq (⟨"MarkTables$HeapFinder", "addMembersTimes", "(ILMarkTables$Turns;)V"⟩, 18) := ⟨lw_nc_2, List.mem_of_getElem? (i := 24) rfl, List.mem_of_getElem? (i := 486) rfl, List.mem_of_getElem? (i := 487) rfl⟩
set_option maxRecDepth 100000 in
theorem lw_p20 : lw_okq (⟨"MarkTables$HeapFinder", "addToNew", "(I)V"⟩, 18) := ⟨lw_nc_2, List.mem_of_getElem? (i := 24) rfl, List.mem_of_getElem? (i := 490) rfl, List.mem_of_getElem? (i := 491) rfl⟩
set_option maxRecDepth 100000 in
theorem lw_p21 : lw_okq (⟨"MarkTables$HeapFinder", "indexFrom", "(IJJ)I"⟩, 18) := ⟨lw_nc_2, List.mem_of_getElem? (i := 24) rfl, List.mem_of_getElem? (i := 494) rfl, List.mem_of_getElem? (i := 495) rfl⟩
set_option maxRecDepth 100000 in
theorem lw_p22 : lw_okq (⟨"MarkTables$HeapFinder", "addKind", "(IILMarkTables$Turns;)Z"⟩, 18) := ⟨lw_nc_2, List.mem_of_getElem? (i := 24) rfl, List.mem_of_getElem? (i := 498) rfl, List.mem_of_getElem? (i := 499) rfl⟩
set_option maxRecDepth 100000 in
theorem lw_p23 : lw_okq (⟨"MarkTables$HeapFinder", "addNew", "()Z"⟩, 18) := ⟨lw_nc_2, List.mem_of_getElem? (i := 24) rfl, List.mem_of_getElem? (i := 502) rfl, List.mem_of_getElem? (i := 503) rfl⟩
set_option maxRecDepth 100000 in
theorem lw_p24 : lw_okq (⟨"MarkTables$HeapFinder", "keepMakers", "(II)V"⟩, 18) := ⟨lw_nc_2, List.mem_of_getElem? (i := 24) rfl, List.mem_of_getElem? (i := 506) rfl, List.mem_of_getElem? (i := 507) rfl⟩
set_option maxRecDepth 100000 in
theorem lw_p25 : lw_okq (⟨"MarkTables$HeapFinder", "leadToNew", "(IILMarkTables$Turns;)V"⟩, 18) := ⟨lw_nc_2, List.mem_of_getElem? (i := 24) rfl, List.mem_of_getElem? (i := 510) rfl, List.mem_of_getElem? (i := 511) rfl⟩
theorem lw_nc_3 : "MarkTables$Heaps" ≠ "java/lang/invoke/MethodHandle" ∧ "MarkTables$Heaps" ≠ "java/lang/invoke/VarHandle" := ⟨by decide +kernel, by decide +kernel⟩
set_option maxRecDepth 100000 in
theorem lw_p26 : lw_okq (⟨"MarkTables$Heaps", "sortFound", "(LMarkTables$HeapFinder;)V"⟩, 14) := ⟨lw_nc_3, List.mem_of_getElem? (i := 193) rfl, List.mem_of_getElem? (i := 518) rfl, List.mem_of_getElem? (i := 519) rfl⟩
set_option maxRecDepth 100000 in
theorem lw_p27 : lw_okq (⟨"MarkTables$Heaps", "numberClasses", "(LMarkTables$HeapFinder;)V"⟩, 14) := ⟨lw_nc_3, List.mem_of_getElem? (i := 193) rfl, List.mem_of_getElem? (i := 526) rfl, List.mem_of_getElem? (i := 527) rfl⟩
set_option maxRecDepth 100000 in
theorem lw_p28 : lw_okq (⟨"MarkTables$Heaps", "classOfKind", "(LMarkTables$HeapFinder;I)I"⟩, 14) := ⟨lw_nc_3, List.mem_of_getElem? (i := 193) rfl, List.mem_of_getElem? (i := 530) rfl, List.mem_of_getElem? (i := 531) rfl⟩
set_option maxRecDepth 100000 in
theorem lw_p29 : lw_okq (⟨"MarkTables$Heaps", "fillMadeBy", "(LMarkTables$Turns;)V"⟩, 14) := ⟨lw_nc_3, List.mem_of_getElem? (i := 193) rfl, List.mem_of_getElem? (i := 534) rfl, List.mem_of_getElem? (i := 535) rfl⟩
set_option maxRecDepth 100000 in
theorem lw_p30 : lw_okq (⟨"MarkTables$Heaps", "fillOver", "()V"⟩, 14) := ⟨lw_nc_3, List.mem_of_getElem? (i := 193) rfl, List.mem_of_getElem? (i := 550) rfl, List.mem_of_getElem? (i := 551) rfl⟩
set_option maxRecDepth 100000 in
theorem lw_p31 : lw_okq (⟨"MarkTables$Heaps", "liesIn", "(II)Z"⟩, 14) := ⟨lw_nc_3, List.mem_of_getElem? (i := 193) rfl, List.mem_of_getElem? (i := 555) rfl, List.mem_of_getElem? (i := 556) rfl⟩
def lw_privs_2 : List (MethodName × Nat) := [(⟨"MarkTables$HeapFinder", "growFrom", "(ILMarkTables$Turns;)Z"⟩, 18), (⟨"MarkTables$HeapFinder", "gatherMembers", "(ILMarkTables$Turns;)V"⟩, 18), (⟨"MarkTables$HeapFinder", "close", "(IILMarkTables$Turns;)V"⟩, 18), (⟨"MarkTables$HeapFinder", "addMembersTimes", "(ILMarkTables$Turns;)V"⟩, 18), (⟨"MarkTables$HeapFinder", "addToNew", "(I)V"⟩, 18), (⟨"MarkTables$HeapFinder", "indexFrom", "(IJJ)I"⟩, 18), (⟨"MarkTables$HeapFinder", "addKind", "(IILMarkTables$Turns;)Z"⟩, 18), (⟨"MarkTables$HeapFinder", "addNew", "()Z"⟩, 18), (⟨"MarkTables$HeapFinder", "keepMakers", "(II)V"⟩, 18), (⟨"MarkTables$HeapFinder", "leadToNew", "(IILMarkTables$Turns;)V"⟩, 18), (⟨"MarkTables$Heaps", "sortFound", "(LMarkTables$HeapFinder;)V"⟩, 14), (⟨"MarkTables$Heaps", "numberClasses", "(LMarkTables$HeapFinder;)V"⟩, 14), (⟨"MarkTables$Heaps", "classOfKind", "(LMarkTables$HeapFinder;I)I"⟩, 14), (⟨"MarkTables$Heaps", "fillMadeBy", "(LMarkTables$Turns;)V"⟩, 14), (⟨"MarkTables$Heaps", "fillOver", "()V"⟩, 14), (⟨"MarkTables$Heaps", "liesIn", "(II)Z"⟩, 14)]
theorem lw_r2 : ∀ q ∈ lw_privs_2, lw_okq q := List.forall_mem_cons.mpr ⟨lw_p16, List.forall_mem_cons.mpr ⟨lw_p17, List.forall_mem_cons.mpr ⟨lw_p18, List.forall_mem_cons.mpr ⟨lw_p19, List.forall_mem_cons.mpr ⟨lw_p20, List.forall_mem_cons.mpr ⟨lw_p21, List.forall_mem_cons.mpr ⟨lw_p22, List.forall_mem_cons.mpr ⟨lw_p23, List.forall_mem_cons.mpr ⟨lw_p24, List.forall_mem_cons.mpr ⟨lw_p25, List.forall_mem_cons.mpr ⟨lw_p26, List.forall_mem_cons.mpr ⟨lw_p27, List.forall_mem_cons.mpr ⟨lw_p28, List.forall_mem_cons.mpr ⟨lw_p29, List.forall_mem_cons.mpr ⟨lw_p30, List.forall_mem_cons.mpr ⟨lw_p31, fun _ h => absurd h List.not_mem_nil⟩⟩⟩⟩⟩⟩⟩⟩⟩⟩⟩⟩⟩⟩⟩⟩
set_option maxRecDepth 100000 in
theorem lw_p32 : lw_okq (⟨"MarkTables$Heaps", "fillSpare", "(I)V"⟩, 14) := ⟨lw_nc_3, List.mem_of_getElem? (i := 193) rfl, List.mem_of_getElem? (i := 560) rfl, List.mem_of_getElem? (i := 561) rfl⟩
set_option maxRecDepth 100000 in
theorem lw_p33 : lw_okq (⟨"MarkTables$Heaps", "fillSigns", "()V"⟩, 14) := ⟨lw_nc_3, List.mem_of_getElem? (i := 193) rfl, List.mem_of_getElem? (i := 568) rfl, List.mem_of_getElem? (i := 569) rfl⟩
theorem lw_nc_4 : "MarkTables$Group" ≠ "java/lang/invoke/MethodHandle" ∧ "MarkTables$Group" ≠ "java/lang/invoke/VarHandle" := ⟨by decide +kernel, by decide +kernel⟩
set_option maxRecDepth 100000 in
theorem lw_p34 : lw_okq (⟨"MarkTables$Group", "leadsToItself", "(II)Z"⟩, 2) := ⟨lw_nc_4, List.mem_of_getElem? (i := 128) rfl, List.mem_of_getElem? (i := 627) rfl, List.mem_of_getElem? (i := 628) rfl⟩
set_option maxRecDepth 100000 in
theorem lw_p35 : lw_okq (⟨"MarkTables$Group", "findDerived", "(I)I"⟩, 2) := ⟨lw_nc_4, List.mem_of_getElem? (i := 128) rfl, List.mem_of_getElem? (i := 649) rfl, List.mem_of_getElem? (i := 650) rfl⟩
set_option maxRecDepth 100000 in
theorem lw_p36 : lw_okq (⟨"MarkTables$Group", "twistOf", "(II)I"⟩, 2) := ⟨lw_nc_4, List.mem_of_getElem? (i := 128) rfl, List.mem_of_getElem? (i := 653) rfl, List.mem_of_getElem? (i := 654) rfl⟩
set_option maxRecDepth 100000 in
theorem lw_p37 : lw_okq (⟨"MarkTables", "keepMade", "(I)J"⟩, 9) := ⟨lw_nc_0, List.mem_of_getElem? (i := 14) rfl, List.mem_of_getElem? (i := 742) rfl, List.mem_of_getElem? (i := 743) rfl⟩
theorem lw_nc_5 : "MarkTables$ActMaker" ≠ "java/lang/invoke/MethodHandle" ∧ "MarkTables$ActMaker" ≠ "java/lang/invoke/VarHandle" := ⟨by decide +kernel, by decide +kernel⟩
set_option maxRecDepth 100000 in
theorem lw_p38 : lw_okq (⟨"MarkTables$ActMaker", "setsLeft", "(LMarkTables$Group;II)J"⟩, 3) := ⟨lw_nc_5, List.mem_of_getElem? (i := 92) rfl, List.mem_of_getElem? (i := 769) rfl, List.mem_of_getElem? (i := 770) rfl⟩
set_option maxRecDepth 100000 in
theorem lw_p39 : lw_okq (⟨"MarkTables$ActMaker", "roundOf", "(LMarkTables$Group;II)I"⟩, 3) := ⟨lw_nc_5, List.mem_of_getElem? (i := 92) rfl, List.mem_of_getElem? (i := 773) rfl, List.mem_of_getElem? (i := 774) rfl⟩
set_option maxRecDepth 100000 in
theorem lw_p40 : lw_okq (⟨"MarkTables$ActMaker", "addRound", "(I)V"⟩, 3) := ⟨lw_nc_5, List.mem_of_getElem? (i := 92) rfl, List.mem_of_getElem? (i := 785) rfl, List.mem_of_getElem? (i := 786) rfl⟩
set_option maxRecDepth 100000 in
theorem lw_p41 : lw_okq (⟨"MarkTables$ActMaker", "rowsLeft", "(LMarkTables$Group;II)J"⟩, 3) := ⟨lw_nc_5, List.mem_of_getElem? (i := 92) rfl, List.mem_of_getElem? (i := 789) rfl, List.mem_of_getElem? (i := 790) rfl⟩
set_option maxRecDepth 100000 in
theorem lw_p42 : lw_okq (⟨"MarkTables$ActMaker", "fillParts", "(LMarkTables$Heaps;)I"⟩, 3) := ⟨lw_nc_5, List.mem_of_getElem? (i := 92) rfl, List.mem_of_getElem? (i := 794) rfl, List.mem_of_getElem? (i := 795) rfl⟩
set_option maxRecDepth 100000 in
theorem lw_p43 : lw_okq (⟨"MarkTables$ActMaker", "fillMarks", "(LMarkTables$Heaps;)V"⟩, 3) := ⟨lw_nc_5, List.mem_of_getElem? (i := 92) rfl, List.mem_of_getElem? (i := 808) rfl, List.mem_of_getElem? (i := 809) rfl⟩
set_option maxRecDepth 100000 in
theorem lw_p44 : lw_okq (⟨"MarkTables", "isAct", "(I)Z"⟩, 9) := ⟨lw_nc_0, List.mem_of_getElem? (i := 14) rfl, List.mem_of_getElem? (i := 816) rfl, List.mem_of_getElem? (i := 817) rfl⟩
theorem lw_nc_6 : "MarkTablesModel" ≠ "java/lang/invoke/MethodHandle" ∧ "MarkTablesModel" ≠ "java/lang/invoke/VarHandle" := ⟨by decide +kernel, by decide +kernel⟩
set_option maxRecDepth 100000 in
theorem lw_p45 : lw_okq (⟨"MarkTablesModel", "ends", "(I)I"⟩, 46) := ⟨lw_nc_6, List.mem_of_getElem? (i := 992) rfl, List.mem_of_getElem? (i := 990) rfl, List.mem_of_getElem? (i := 991) rfl⟩
set_option maxRecDepth 100000 in
theorem lw_p46 : lw_okq (⟨"MarkTablesModel", "takes", "(I)V"⟩, 46) := ⟨lw_nc_6, List.mem_of_getElem? (i := 992) rfl, List.mem_of_getElem? (i := 1007) rfl, List.mem_of_getElem? (i := 1008) rfl⟩
set_option maxRecDepth 100000 in
theorem lw_p47 : lw_okq (⟨"MarkTablesModel", "isBefore", "(III)Z"⟩, 46) := ⟨lw_nc_6, List.mem_of_getElem? (i := 992) rfl, List.mem_of_getElem? (i := 1011) rfl, List.mem_of_getElem? (i := 1012) rfl⟩
def lw_privs_3 : List (MethodName × Nat) := [(⟨"MarkTables$Heaps", "fillSpare", "(I)V"⟩, 14), (⟨"MarkTables$Heaps", "fillSigns", "()V"⟩, 14), (⟨"MarkTables$Group", "leadsToItself", "(II)Z"⟩, 2), (⟨"MarkTables$Group", "findDerived", "(I)I"⟩, 2), (⟨"MarkTables$Group", "twistOf", "(II)I"⟩, 2), (⟨"MarkTables", "keepMade", "(I)J"⟩, 9), (⟨"MarkTables$ActMaker", "setsLeft", "(LMarkTables$Group;II)J"⟩, 3), (⟨"MarkTables$ActMaker", "roundOf", "(LMarkTables$Group;II)I"⟩, 3), (⟨"MarkTables$ActMaker", "addRound", "(I)V"⟩, 3), (⟨"MarkTables$ActMaker", "rowsLeft", "(LMarkTables$Group;II)J"⟩, 3), (⟨"MarkTables$ActMaker", "fillParts", "(LMarkTables$Heaps;)I"⟩, 3), (⟨"MarkTables$ActMaker", "fillMarks", "(LMarkTables$Heaps;)V"⟩, 3), (⟨"MarkTables", "isAct", "(I)Z"⟩, 9), (⟨"MarkTablesModel", "ends", "(I)I"⟩, 46), (⟨"MarkTablesModel", "takes", "(I)V"⟩, 46), (⟨"MarkTablesModel", "isBefore", "(III)Z"⟩, 46)]
theorem lw_r3 : ∀ q ∈ lw_privs_3, lw_okq q := List.forall_mem_cons.mpr ⟨lw_p32, List.forall_mem_cons.mpr ⟨lw_p33, List.forall_mem_cons.mpr ⟨lw_p34, List.forall_mem_cons.mpr ⟨lw_p35, List.forall_mem_cons.mpr ⟨lw_p36, List.forall_mem_cons.mpr ⟨lw_p37, List.forall_mem_cons.mpr ⟨lw_p38, List.forall_mem_cons.mpr ⟨lw_p39, List.forall_mem_cons.mpr ⟨lw_p40, List.forall_mem_cons.mpr ⟨lw_p41, List.forall_mem_cons.mpr ⟨lw_p42, List.forall_mem_cons.mpr ⟨lw_p43, List.forall_mem_cons.mpr ⟨lw_p44, List.forall_mem_cons.mpr ⟨lw_p45, List.forall_mem_cons.mpr ⟨lw_p46, List.forall_mem_cons.mpr ⟨lw_p47, fun _ h => absurd h List.not_mem_nil⟩⟩⟩⟩⟩⟩⟩⟩⟩⟩⟩⟩⟩⟩⟩⟩
set_option maxRecDepth 100000 in
theorem lw_p48 : lw_okq (⟨"MarkTablesModel", "newPlace", "(II)I"⟩, 46) := ⟨lw_nc_6, List.mem_of_getElem? (i := 992) rfl, List.mem_of_getElem? (i := 1015) rfl, List.mem_of_getElem? (i := 1016) rfl⟩
set_option maxRecDepth 100000 in
theorem lw_p49 : lw_okq (⟨"MarkTablesModel", "find", "(II)I"⟩, 46) := ⟨lw_nc_6, List.mem_of_getElem? (i := 992) rfl, List.mem_of_getElem? (i := 1019) rfl, List.mem_of_getElem? (i := 1020) rfl⟩
set_option maxRecDepth 100000 in
theorem lw_p50 : lw_okq (⟨"MarkTablesModel", "findsHeaps", "()Z"⟩, 46) := ⟨lw_nc_6, List.mem_of_getElem? (i := 992) rfl, List.mem_of_getElem? (i := 1023) rfl, List.mem_of_getElem? (i := 1024) rfl⟩
set_option maxRecDepth 100000 in
theorem lw_p51 : lw_okq (⟨"MarkTablesModel", "closes", "(I)V"⟩, 46) := ⟨lw_nc_6, List.mem_of_getElem? (i := 992) rfl, List.mem_of_getElem? (i := 1027) rfl, List.mem_of_getElem? (i := 1028) rfl⟩
set_option maxRecDepth 100000 in
theorem lw_p52 : lw_okq (⟨"MarkTablesModel", "among", "(II)I"⟩, 46) := ⟨lw_nc_6, List.mem_of_getElem? (i := 992) rfl, List.mem_of_getElem? (i := 1031) rfl, List.mem_of_getElem? (i := 1032) rfl⟩
set_option maxRecDepth 100000 in
theorem lw_p53 : lw_okq (⟨"MarkTablesModel", "isAlike", "(II)Z"⟩, 46) := ⟨lw_nc_6, List.mem_of_getElem? (i := 992) rfl, List.mem_of_getElem? (i := 1035) rfl, List.mem_of_getElem? (i := 1036) rfl⟩
set_option maxRecDepth 100000 in
theorem lw_p54 : lw_okq (⟨"MarkTablesModel", "settles", "()V"⟩, 46) := ⟨lw_nc_6, List.mem_of_getElem? (i := 992) rfl, List.mem_of_getElem? (i := 1039) rfl, List.mem_of_getElem? (i := 1040) rfl⟩
set_option maxRecDepth 100000 in
theorem lw_p55 : lw_okq (⟨"MarkTablesModel", "isAhead", "(II)Z"⟩, 46) := ⟨lw_nc_6, List.mem_of_getElem? (i := 992) rfl, List.mem_of_getElem? (i := 1043) rfl, List.mem_of_getElem? (i := 1044) rfl⟩
set_option maxRecDepth 100000 in
theorem lw_p56 : lw_okq (⟨"MarkTablesModel", "changes", "(II)V"⟩, 46) := ⟨lw_nc_6, List.mem_of_getElem? (i := 992) rfl, List.mem_of_getElem? (i := 1047) rfl, List.mem_of_getElem? (i := 1048) rfl⟩
set_option maxRecDepth 100000 in
theorem lw_p57 : lw_okq (⟨"MarkTablesModel", "ledTo", "(II)I"⟩, 46) := ⟨lw_nc_6, List.mem_of_getElem? (i := 992) rfl, List.mem_of_getElem? (i := 1051) rfl, List.mem_of_getElem? (i := 1052) rfl⟩
set_option maxRecDepth 100000 in
theorem lw_p58 : lw_okq (⟨"MarkTablesModel", "lies", "(II)Z"⟩, 46) := ⟨lw_nc_6, List.mem_of_getElem? (i := 992) rfl, List.mem_of_getElem? (i := 1055) rfl, List.mem_of_getElem? (i := 1056) rfl⟩
set_option maxRecDepth 100000 in
theorem lw_p59 : lw_okq (⟨"MarkTablesModel", "gathers", "(I)I"⟩, 46) := ⟨lw_nc_6, List.mem_of_getElem? (i := 992) rfl, List.mem_of_getElem? (i := 1203) rfl, List.mem_of_getElem? (i := 1204) rfl⟩
set_option maxRecDepth 100000 in
theorem lw_p60 : lw_okq (⟨"MarkTablesModel", "isNews", "(I)Z"⟩, 46) := ⟨lw_nc_6, List.mem_of_getElem? (i := 992) rfl, List.mem_of_getElem? (i := 1207) rfl, List.mem_of_getElem? (i := 1208) rfl⟩
set_option maxRecDepth 100000 in
theorem lw_p61 : lw_okq (⟨"MarkTablesModel", "puts", "([III)V"⟩, 46) := ⟨lw_nc_6, List.mem_of_getElem? (i := 992) rfl, List.mem_of_getElem? (i := 1211) rfl, List.mem_of_getElem? (i := 1212) rfl⟩
set_option maxRecDepth 100000 in
theorem lw_p62 : lw_okq (⟨"MarkTablesModel", "isTurn", "(I)Z"⟩, 46) := ⟨lw_nc_6, List.mem_of_getElem? (i := 992) rfl, List.mem_of_getElem? (i := 1223) rfl, List.mem_of_getElem? (i := 1224) rfl⟩
set_option maxRecDepth 100000 in
theorem lw_p63 : lw_okq (⟨"MarkTablesModel", "madeBy", "(I)I"⟩, 46) := ⟨lw_nc_6, List.mem_of_getElem? (i := 992) rfl, List.mem_of_getElem? (i := 1235) rfl, List.mem_of_getElem? (i := 1236) rfl⟩
def lw_privs_4 : List (MethodName × Nat) := [(⟨"MarkTablesModel", "newPlace", "(II)I"⟩, 46), (⟨"MarkTablesModel", "find", "(II)I"⟩, 46), (⟨"MarkTablesModel", "findsHeaps", "()Z"⟩, 46), (⟨"MarkTablesModel", "closes", "(I)V"⟩, 46), (⟨"MarkTablesModel", "among", "(II)I"⟩, 46), (⟨"MarkTablesModel", "isAlike", "(II)Z"⟩, 46), (⟨"MarkTablesModel", "settles", "()V"⟩, 46), (⟨"MarkTablesModel", "isAhead", "(II)Z"⟩, 46), (⟨"MarkTablesModel", "changes", "(II)V"⟩, 46), (⟨"MarkTablesModel", "ledTo", "(II)I"⟩, 46), (⟨"MarkTablesModel", "lies", "(II)Z"⟩, 46), (⟨"MarkTablesModel", "gathers", "(I)I"⟩, 46), (⟨"MarkTablesModel", "isNews", "(I)Z"⟩, 46), (⟨"MarkTablesModel", "puts", "([III)V"⟩, 46), (⟨"MarkTablesModel", "isTurn", "(I)Z"⟩, 46), (⟨"MarkTablesModel", "madeBy", "(I)I"⟩, 46)]
theorem lw_r4 : ∀ q ∈ lw_privs_4, lw_okq q := List.forall_mem_cons.mpr ⟨lw_p48, List.forall_mem_cons.mpr ⟨lw_p49, List.forall_mem_cons.mpr ⟨lw_p50, List.forall_mem_cons.mpr ⟨lw_p51, List.forall_mem_cons.mpr ⟨lw_p52, List.forall_mem_cons.mpr ⟨lw_p53, List.forall_mem_cons.mpr ⟨lw_p54, List.forall_mem_cons.mpr ⟨lw_p55, List.forall_mem_cons.mpr ⟨lw_p56, List.forall_mem_cons.mpr ⟨lw_p57, List.forall_mem_cons.mpr ⟨lw_p58, List.forall_mem_cons.mpr ⟨lw_p59, List.forall_mem_cons.mpr ⟨lw_p60, List.forall_mem_cons.mpr ⟨lw_p61, List.forall_mem_cons.mpr ⟨lw_p62, List.forall_mem_cons.mpr ⟨lw_p63, fun _ h => absurd h List.not_mem_nil⟩⟩⟩⟩⟩⟩⟩⟩⟩⟩⟩⟩⟩⟩⟩⟩
set_option maxRecDepth 100000 in
theorem lw_p64 : lw_okq (⟨"MarkTablesModel", "clears", "()V"⟩, 46) := ⟨lw_nc_6, List.mem_of_getElem? (i := 992) rfl, List.mem_of_getElem? (i := 1239) rfl, List.mem_of_getElem? (i := 1240) rfl⟩
set_option maxRecDepth 100000 in
theorem lw_p65 : lw_okq (⟨"MarkTablesModel", "least", "()I"⟩, 46) := ⟨lw_nc_6, List.mem_of_getElem? (i := 992) rfl, List.mem_of_getElem? (i := 1243) rfl, List.mem_of_getElem? (i := 1244) rfl⟩
set_option maxRecDepth 100000 in
theorem lw_p66 : lw_okq (⟨"MarkTablesModel", "marked", "()I"⟩, 46) := ⟨lw_nc_6, List.mem_of_getElem? (i := 992) rfl, List.mem_of_getElem? (i := 1247) rfl, List.mem_of_getElem? (i := 1248) rfl⟩
set_option maxRecDepth 100000 in
theorem lw_p67 : lw_okq (⟨"MarkTablesModel", "isHeap", "(I)Z"⟩, 46) := ⟨lw_nc_6, List.mem_of_getElem? (i := 992) rfl, List.mem_of_getElem? (i := 1255) rfl, List.mem_of_getElem? (i := 1256) rfl⟩
set_option maxRecDepth 100000 in
theorem lw_p68 : lw_okq (⟨"MarkTablesModel", "isNormal", "(I)Z"⟩, 46) := ⟨lw_nc_6, List.mem_of_getElem? (i := 992) rfl, List.mem_of_getElem? (i := 1260) rfl, List.mem_of_getElem? (i := 1261) rfl⟩
set_option maxRecDepth 100000 in
theorem lw_p69 : lw_okq (⟨"MarkTablesModel", "normalizer", "(I)I"⟩, 46) := ⟨lw_nc_6, List.mem_of_getElem? (i := 992) rfl, List.mem_of_getElem? (i := 1264) rfl, List.mem_of_getElem? (i := 1265) rfl⟩
set_option maxRecDepth 100000 in
theorem lw_p70 : lw_okq (⟨"MarkTablesModel", "exact", "()I"⟩, 46) := ⟨lw_nc_6, List.mem_of_getElem? (i := 992) rfl, List.mem_of_getElem? (i := 1268) rfl, List.mem_of_getElem? (i := 1269) rfl⟩
set_option maxRecDepth 100000 in
theorem lw_p71 : lw_okq (⟨"MarkTablesModel", "core", "(I)I"⟩, 46) := ⟨lw_nc_6, List.mem_of_getElem? (i := 992) rfl, List.mem_of_getElem? (i := 1272) rfl, List.mem_of_getElem? (i := 1273) rfl⟩
set_option maxRecDepth 100000 in
theorem lw_p72 : lw_okq (⟨"MarkTablesModel", "derived", "(I)I"⟩, 46) := ⟨lw_nc_6, List.mem_of_getElem? (i := 992) rfl, List.mem_of_getElem? (i := 1276) rfl, List.mem_of_getElem? (i := 1277) rfl⟩
set_option maxRecDepth 100000 in
theorem lw_p73 : lw_okq (⟨"MarkTablesModel", "isQuiet", "(I)Z"⟩, 46) := ⟨lw_nc_6, List.mem_of_getElem? (i := 992) rfl, List.mem_of_getElem? (i := 1280) rfl, List.mem_of_getElem? (i := 1281) rfl⟩
set_option maxRecDepth 100000 in
theorem lw_p74 : lw_okq (⟨"MarkTablesModel", "isClass", "(I)Z"⟩, 46) := ⟨lw_nc_6, List.mem_of_getElem? (i := 992) rfl, List.mem_of_getElem? (i := 1296) rfl, List.mem_of_getElem? (i := 1297) rfl⟩
set_option maxRecDepth 100000 in
theorem lw_p75 : lw_okq (⟨"MarkTablesModel", "endsLong", "(J)J"⟩, 46) := ⟨lw_nc_6, List.mem_of_getElem? (i := 992) rfl, List.mem_of_getElem? (i := 1330) rfl, List.mem_of_getElem? (i := 1331) rfl⟩
set_option maxRecDepth 100000 in
theorem lw_p76 : lw_okq (⟨"MarkTablesModel", "sizeOf", "(I)J"⟩, 46) := ⟨lw_nc_6, List.mem_of_getElem? (i := 992) rfl, List.mem_of_getElem? (i := 1335) rfl, List.mem_of_getElem? (i := 1336) rfl⟩
set_option maxRecDepth 100000 in
theorem lw_p77 : lw_okq (⟨"MarkTablesModel", "markOf", "(II)J"⟩, 46) := ⟨lw_nc_6, List.mem_of_getElem? (i := 992) rfl, List.mem_of_getElem? (i := 1339) rfl, List.mem_of_getElem? (i := 1340) rfl⟩
set_option maxRecDepth 100000 in
theorem lw_p78 : lw_okq (⟨"MarkTablesModel", "setsLeft", "(II)J"⟩, 46) := ⟨lw_nc_6, List.mem_of_getElem? (i := 992) rfl, List.mem_of_getElem? (i := 1347) rfl, List.mem_of_getElem? (i := 1348) rfl⟩
set_option maxRecDepth 100000 in
theorem lw_p79 : lw_okq (⟨"MarkTablesModel", "rounds", "(I)I"⟩, 46) := ⟨lw_nc_6, List.mem_of_getElem? (i := 992) rfl, List.mem_of_getElem? (i := 1351) rfl, List.mem_of_getElem? (i := 1352) rfl⟩
def lw_privs_5 : List (MethodName × Nat) := [(⟨"MarkTablesModel", "clears", "()V"⟩, 46), (⟨"MarkTablesModel", "least", "()I"⟩, 46), (⟨"MarkTablesModel", "marked", "()I"⟩, 46), (⟨"MarkTablesModel", "isHeap", "(I)Z"⟩, 46), (⟨"MarkTablesModel", "isNormal", "(I)Z"⟩, 46), (⟨"MarkTablesModel", "normalizer", "(I)I"⟩, 46), (⟨"MarkTablesModel", "exact", "()I"⟩, 46), (⟨"MarkTablesModel", "core", "(I)I"⟩, 46), (⟨"MarkTablesModel", "derived", "(I)I"⟩, 46), (⟨"MarkTablesModel", "isQuiet", "(I)Z"⟩, 46), (⟨"MarkTablesModel", "isClass", "(I)Z"⟩, 46), (⟨"MarkTablesModel", "endsLong", "(J)J"⟩, 46), (⟨"MarkTablesModel", "sizeOf", "(I)J"⟩, 46), (⟨"MarkTablesModel", "markOf", "(II)J"⟩, 46), (⟨"MarkTablesModel", "setsLeft", "(II)J"⟩, 46), (⟨"MarkTablesModel", "rounds", "(I)I"⟩, 46)]
theorem lw_r5 : ∀ q ∈ lw_privs_5, lw_okq q := List.forall_mem_cons.mpr ⟨lw_p64, List.forall_mem_cons.mpr ⟨lw_p65, List.forall_mem_cons.mpr ⟨lw_p66, List.forall_mem_cons.mpr ⟨lw_p67, List.forall_mem_cons.mpr ⟨lw_p68, List.forall_mem_cons.mpr ⟨lw_p69, List.forall_mem_cons.mpr ⟨lw_p70, List.forall_mem_cons.mpr ⟨lw_p71, List.forall_mem_cons.mpr ⟨lw_p72, List.forall_mem_cons.mpr ⟨lw_p73, List.forall_mem_cons.mpr ⟨lw_p74, List.forall_mem_cons.mpr ⟨lw_p75, List.forall_mem_cons.mpr ⟨lw_p76, List.forall_mem_cons.mpr ⟨lw_p77, List.forall_mem_cons.mpr ⟨lw_p78, List.forall_mem_cons.mpr ⟨lw_p79, fun _ h => absurd h List.not_mem_nil⟩⟩⟩⟩⟩⟩⟩⟩⟩⟩⟩⟩⟩⟩⟩⟩
set_option maxRecDepth 100000 in
theorem lw_p80 : lw_okq (⟨"MarkTablesModel", "rowsLeft", "(II)J"⟩, 46) := ⟨lw_nc_6, List.mem_of_getElem? (i := 992) rfl, List.mem_of_getElem? (i := 1355) rfl, List.mem_of_getElem? (i := 1356) rfl⟩
set_option maxRecDepth 100000 in
theorem lw_p81 : lw_okq (⟨"MarkTablesModel", "becomes", "(I)J"⟩, 46) := ⟨lw_nc_6, List.mem_of_getElem? (i := 992) rfl, List.mem_of_getElem? (i := 1359) rfl, List.mem_of_getElem? (i := 1360) rfl⟩
set_option maxRecDepth 100000 in
theorem lw_p82 : lw_okq (⟨"MarkTablesModel", "solves", "()I"⟩, 46) := ⟨lw_nc_6, List.mem_of_getElem? (i := 992) rfl, List.mem_of_getElem? (i := 1363) rfl, List.mem_of_getElem? (i := 1364) rfl⟩
set_option maxRecDepth 100000 in
theorem lw_p83 : lw_okq (⟨"MarkTablesModel", "isAct", "(I)Z"⟩, 46) := ⟨lw_nc_6, List.mem_of_getElem? (i := 992) rfl, List.mem_of_getElem? (i := 1375) rfl, List.mem_of_getElem? (i := 1376) rfl⟩
set_option maxRecDepth 100000 in
theorem lw_p84 : lw_okq (⟨"MarkTablesModel", "sets", "(II)J"⟩, 46) := ⟨lw_nc_6, List.mem_of_getElem? (i := 992) rfl, List.mem_of_getElem? (i := 1393) rfl, List.mem_of_getElem? (i := 1394) rfl⟩
set_option maxRecDepth 100000 in
theorem lw_p85 : lw_okq (⟨"MarkTablesModel", "kernel", "(I)I"⟩, 46) := ⟨lw_nc_6, List.mem_of_getElem? (i := 992) rfl, List.mem_of_getElem? (i := 1414) rfl, List.mem_of_getElem? (i := 1415) rfl⟩
set_option maxRecDepth 100000 in
theorem lw_p86 : lw_okq (⟨"MarkTablesModel", "making", "(I)J"⟩, 46) := ⟨lw_nc_6, List.mem_of_getElem? (i := 992) rfl, List.mem_of_getElem? (i := 1446) rfl, List.mem_of_getElem? (i := 1447) rfl⟩
def lw_privs_6 : List (MethodName × Nat) := [(⟨"MarkTablesModel", "rowsLeft", "(II)J"⟩, 46), (⟨"MarkTablesModel", "becomes", "(I)J"⟩, 46), (⟨"MarkTablesModel", "solves", "()I"⟩, 46), (⟨"MarkTablesModel", "isAct", "(I)Z"⟩, 46), (⟨"MarkTablesModel", "sets", "(II)J"⟩, 46), (⟨"MarkTablesModel", "kernel", "(I)I"⟩, 46), (⟨"MarkTablesModel", "making", "(I)J"⟩, 46)]
theorem lw_r6 : ∀ q ∈ lw_privs_6, lw_okq q := List.forall_mem_cons.mpr ⟨lw_p80, List.forall_mem_cons.mpr ⟨lw_p81, List.forall_mem_cons.mpr ⟨lw_p82, List.forall_mem_cons.mpr ⟨lw_p83, List.forall_mem_cons.mpr ⟨lw_p84, List.forall_mem_cons.mpr ⟨lw_p85, List.forall_mem_cons.mpr ⟨lw_p86, fun _ h => absurd h List.not_mem_nil⟩⟩⟩⟩⟩⟩⟩
def lw_privs : List (MethodName × Nat) := lw_privs_1 ++ (lw_privs_2 ++ (lw_privs_3 ++ (lw_privs_4 ++ (lw_privs_5 ++ (lw_privs_6)))))
def lw_tbl : List Cond := k2_sels lw_privs ++ tables_1
theorem lw_privs_ok : ∀ q ∈ lw_privs, lw_okq q := by
  show ∀ q ∈ lw_privs_1 ++ (lw_privs_2 ++ (lw_privs_3 ++ (lw_privs_4 ++ (lw_privs_5 ++ (lw_privs_6))))), lw_okq q
  exact List.forall_mem_append.mpr ⟨lw_r1, List.forall_mem_append.mpr ⟨lw_r2, List.forall_mem_append.mpr ⟨lw_r3, List.forall_mem_append.mpr ⟨lw_r4, List.forall_mem_append.mpr ⟨lw_r5, lw_r6⟩⟩⟩⟩⟩
def RX0 : String := "MarkTables$ActMaker"
def TX0 : u_T := fun k => match k with
  | 0 => ("MarkTables$ActMaker", "marks", "[J", true)
  | 1 => ("MarkTables$ActMaker", "parts", "[J", true)
  | _ => ("MarkTables$ActMaker", "setsOf", "[J", true)
def tyX0 : Nat → FieldType := fun k => match k with
  | 0 => .array .long
  | 1 => .array .long
  | _ => .array .long
theorem nmX0 : ∀ a, a < 3 → ∀ b, b < 3 → a ≠ b → (TX0 a).2.1 ≠ (TX0 b).2.1 := by decide +kernel
theorem tyX0_ok : ∀ k, k < 3 → parseFieldDescriptor (TX0 k).2.2.1 = some (tyX0 k) := by decide +kernel
abbrev cX0_init : ByteArray := prog_2_method_1_code
def yX0_init : MethodName := ⟨RX0, "<init>", "()V"⟩
abbrev cX0_takeCoset : ByteArray := prog_2_method_2_code
def yX0_takeCoset : MethodName := ⟨RX0, "takeCoset", "(LMarkTables$Heaps;I)V"⟩
abbrev cX0_takePlaces : ByteArray := prog_2_method_3_code
def yX0_takePlaces : MethodName := ⟨RX0, "takePlaces", "(LMarkTables$Group;II)V"⟩
abbrev cX0_setsLeft : ByteArray := prog_2_method_4_code
def yX0_setsLeft : MethodName := ⟨RX0, "setsLeft", "(LMarkTables$Group;II)J"⟩
abbrev cX0_addRound : ByteArray := prog_2_method_5_code
def yX0_addRound : MethodName := ⟨RX0, "addRound", "(I)V"⟩
abbrev cX0_roundOf : ByteArray := prog_2_method_6_code
def yX0_roundOf : MethodName := ⟨RX0, "roundOf", "(LMarkTables$Group;II)I"⟩
abbrev cX0_rowsLeft : ByteArray := prog_2_method_7_code
def yX0_rowsLeft : MethodName := ⟨RX0, "rowsLeft", "(LMarkTables$Group;II)J"⟩
abbrev cX0_takeHeaps : ByteArray := prog_2_method_8_code
def yX0_takeHeaps : MethodName := ⟨RX0, "takeHeaps", "(LMarkTables$Group;)V"⟩
abbrev cX0_takeSum : ByteArray := prog_2_method_9_code
def yX0_takeSum : MethodName := ⟨RX0, "takeSum", "(LMarkTables$Bench;II)V"⟩
abbrev cX0_takePairs : ByteArray := prog_2_method_10_code
def yX0_takePairs : MethodName := ⟨RX0, "takePairs", "(LMarkTables$Bench;II)V"⟩
abbrev cX0_takeColourings : ByteArray := prog_2_method_11_code
def yX0_takeColourings : MethodName := ⟨RX0, "takeColourings", "(LMarkTables$Bench;II)V"⟩
abbrev cX0_takeMultiple : ByteArray := prog_2_method_12_code
def yX0_takeMultiple : MethodName := ⟨RX0, "takeMultiple", "(LMarkTables$Bench;II)V"⟩
abbrev cX0_takeMarks : ByteArray := prog_2_method_13_code
def yX0_takeMarks : MethodName := ⟨RX0, "takeMarks", "(LMarkTables$Heaps;[J)I"⟩
abbrev cX0_lastBelowNone : ByteArray := prog_2_method_14_code
def yX0_lastBelowNone : MethodName := ⟨RX0, "lastBelowNone", "(I)I"⟩
abbrev cX0_fillMarks : ByteArray := prog_2_method_15_code
def yX0_fillMarks : MethodName := ⟨RX0, "fillMarks", "(LMarkTables$Heaps;)V"⟩
abbrev cX0_fillParts : ByteArray := prog_2_method_16_code
def yX0_fillParts : MethodName := ⟨RX0, "fillParts", "(LMarkTables$Heaps;)I"⟩
def RX1 : String := "MarkTables$Bench"
def TX1 : u_T := fun k => match k with
  | 0 => ("MarkTables$Bench", "group", "LMarkTables$Group;", false)
  | 1 => ("MarkTables$Bench", "there", "[Z", true)
  | 2 => ("MarkTables$Bench", "row", "[J", true)
  | 3 => ("MarkTables$Bench", "rowLength", "I", false)
  | 4 => ("MarkTables$Bench", "marks", "[J", true)
  | _ => ("MarkTables$Bench", "parts", "[J", true)
def tyX1 : Nat → FieldType := fun k => match k with
  | 0 => .object "MarkTables$Group"
  | 1 => .array .boolean
  | 2 => .array .long
  | 3 => .int
  | 4 => .array .long
  | _ => .array .long
theorem nmX1 : ∀ a, a < 6 → ∀ b, b < 6 → a ≠ b → (TX1 a).2.1 ≠ (TX1 b).2.1 := by decide +kernel
theorem tyX1_ok : ∀ k, k < 6 → parseFieldDescriptor (TX1 k).2.2.1 = some (tyX1 k) := by decide +kernel
abbrev cX1_init : ByteArray := prog_3_method_1_code
def yX1_init : MethodName := ⟨RX1, "<init>", "(LMarkTables$Group;)V"⟩
abbrev cX1_startWith : ByteArray := prog_3_method_2_code
def yX1_startWith : MethodName := ⟨RX1, "startWith", "(LMarkTables$Group;)V"⟩
abbrev cX1_copyFrom : ByteArray := prog_3_method_3_code
def yX1_copyFrom : MethodName := ⟨RX1, "copyFrom", "(LMarkTables$Bench;)V"⟩
abbrev cX1_keep : ByteArray := prog_3_method_4_code
def yX1_keep : MethodName := ⟨RX1, "keep", "(ILMarkTables$ActMaker;)V"⟩
abbrev cX1_actsThere : ByteArray := prog_3_method_5_code
def yX1_actsThere : MethodName := ⟨RX1, "actsThere", "()I"⟩
abbrev cX1_markOf : ByteArray := prog_3_method_6_code
def yX1_markOf : MethodName := ⟨RX1, "markOf", "(II)J"⟩
abbrev cX1_partOf : ByteArray := prog_3_method_7_code
def yX1_partOf : MethodName := ⟨RX1, "partOf", "(II)J"⟩
abbrev cX1_placesOf : ByteArray := prog_3_method_8_code
def yX1_placesOf : MethodName := ⟨RX1, "placesOf", "(I)J"⟩
abbrev cX1_allParts : ByteArray := prog_3_method_9_code
def yX1_allParts : MethodName := ⟨RX1, "allParts", "(I)J"⟩
abbrev cX1_idleHeap : ByteArray := prog_3_method_10_code
def yX1_idleHeap : MethodName := ⟨RX1, "idleHeap", "(I)I"⟩
abbrev cX1_leftByTurn : ByteArray := prog_3_method_11_code
def yX1_leftByTurn : MethodName := ⟨RX1, "leftByTurn", "(II)J"⟩
abbrev cX1_roundsOf : ByteArray := prog_3_method_12_code
def yX1_roundsOf : MethodName := ⟨RX1, "roundsOf", "(II)J"⟩
abbrev cX1_firstDifference : ByteArray := prog_3_method_13_code
def yX1_firstDifference : MethodName := ⟨RX1, "firstDifference", "(II)I"⟩
abbrev cX1_mapsAlong : ByteArray := prog_3_method_14_code
def yX1_mapsAlong : MethodName := ⟨RX1, "mapsAlong", "(II)J"⟩
abbrev cX1_mapsOnToAll : ByteArray := prog_3_method_15_code
def yX1_mapsOnToAll : MethodName := ⟨RX1, "mapsOnToAll", "(II)J"⟩
def RX2 : String := "MarkTables$Group"
def TX2 : u_T := fun k => match k with
  | 0 => ("MarkTables$Group", "turns", "LMarkTables$Turns;", true)
  | _ => ("MarkTables$Group", "heaps", "LMarkTables$Heaps;", true)
def tyX2 : Nat → FieldType := fun k => match k with
  | 0 => .object "MarkTables$Turns"
  | _ => .object "MarkTables$Heaps"
theorem nmX2 : ∀ a, a < 2 → ∀ b, b < 2 → a ≠ b → (TX2 a).2.1 ≠ (TX2 b).2.1 := by decide +kernel
theorem tyX2_ok : ∀ k, k < 2 → parseFieldDescriptor (TX2 k).2.2.1 = some (tyX2 k) := by decide +kernel
abbrev cX2_init : ByteArray := prog_4_method_1_code
def yX2_init : MethodName := ⟨RX2, "<init>", "()V"⟩
abbrev cX2_build : ByteArray := prog_4_method_2_code
def yX2_build : MethodName := ⟨RX2, "build", "(I[ILMarkTables$HeapFinder;)Z"⟩
abbrev cX2_normaliser : ByteArray := prog_4_method_3_code
def yX2_normaliser : MethodName := ⟨RX2, "normaliser", "(I)I"⟩
abbrev cX2_leadsToItself : ByteArray := prog_4_method_4_code
def yX2_leadsToItself : MethodName := ⟨RX2, "leadsToItself", "(II)Z"⟩
abbrev cX2_derived : ByteArray := prog_4_method_5_code
def yX2_derived : MethodName := ⟨RX2, "derived", "(I)I"⟩
abbrev cX2_findDerived : ByteArray := prog_4_method_6_code
def yX2_findDerived : MethodName := ⟨RX2, "findDerived", "(I)I"⟩
abbrev cX2_twistOf : ByteArray := prog_4_method_7_code
def yX2_twistOf : MethodName := ⟨RX2, "twistOf", "(II)I"⟩
def RX3 : String := "MarkTables$HeapFinder"
def TX3 : u_T := fun k => match k with
  | 0 => ("MarkTables$HeapFinder", "count", "I", false)
  | 1 => ("MarkTables$HeapFinder", "low", "[J", true)
  | 2 => ("MarkTables$HeapFinder", "high", "[J", true)
  | 3 => ("MarkTables$HeapFinder", "size", "[I", true)
  | 4 => ("MarkTables$HeapFinder", "kind", "[I", true)
  | 5 => ("MarkTables$HeapFinder", "kinds", "I", false)
  | 6 => ("MarkTables$HeapFinder", "kindHead", "[I", true)
  | 7 => ("MarkTables$HeapFinder", "kindMakers", "[I", true)
  | 8 => ("MarkTables$HeapFinder", "makers", "[I", true)
  | 9 => ("MarkTables$HeapFinder", "seeds", "I", false)
  | 10 => ("MarkTables$HeapFinder", "seed", "[I", true)
  | 11 => ("MarkTables$HeapFinder", "led", "[I", true)
  | 12 => ("MarkTables$HeapFinder", "members", "I", false)
  | 13 => ("MarkTables$HeapFinder", "member", "[I", true)
  | 14 => ("MarkTables$HeapFinder", "edge", "[I", true)
  | 15 => ("MarkTables$HeapFinder", "newLow", "J", false)
  | 16 => ("MarkTables$HeapFinder", "newHigh", "J", false)
  | _ => ("MarkTables$HeapFinder", "newSize", "I", false)
def tyX3 : Nat → FieldType := fun k => match k with
  | 0 => .int
  | 1 => .array .long
  | 2 => .array .long
  | 3 => .array .int
  | 4 => .array .int
  | 5 => .int
  | 6 => .array .int
  | 7 => .array .int
  | 8 => .array .int
  | 9 => .int
  | 10 => .array .int
  | 11 => .array .int
  | 12 => .int
  | 13 => .array .int
  | 14 => .array .int
  | 15 => .long
  | 16 => .long
  | _ => .int
theorem nmX3 : ∀ a, a < 18 → ∀ b, b < 18 → a ≠ b → (TX3 a).2.1 ≠ (TX3 b).2.1 := by decide +kernel
theorem tyX3_ok : ∀ k, k < 18 → parseFieldDescriptor (TX3 k).2.2.1 = some (tyX3 k) := by decide +kernel
abbrev cX3_init : ByteArray := prog_5_method_1_code
def yX3_init : MethodName := ⟨RX3, "<init>", "()V"⟩
abbrev cX3_find : ByteArray := prog_5_method_2_code
def yX3_find : MethodName := ⟨RX3, "find", "(LMarkTables$Turns;)Z"⟩
abbrev cX3_isAhead : ByteArray := prog_5_method_3_code
def yX3_isAhead : MethodName := ⟨RX3, "isAhead", "(II)Z"⟩
abbrev cX3_gatherSeeds : ByteArray := prog_5_method_4_code
def yX3_gatherSeeds : MethodName := ⟨RX3, "gatherSeeds", "(LMarkTables$Turns;)V"⟩
abbrev cX3_isFirstOfItsHeap : ByteArray := prog_5_method_5_code
def yX3_isFirstOfItsHeap : MethodName := ⟨RX3, "isFirstOfItsHeap", "(ILMarkTables$Turns;)Z"⟩
abbrev cX3_fillLed : ByteArray := prog_5_method_6_code
def yX3_fillLed : MethodName := ⟨RX3, "fillLed", "(LMarkTables$Turns;)V"⟩
abbrev cX3_startWithTurnNought : ByteArray := prog_5_method_7_code
def yX3_startWithTurnNought : MethodName := ⟨RX3, "startWithTurnNought", "()V"⟩
abbrev cX3_growFrom : ByteArray := prog_5_method_8_code
def yX3_growFrom : MethodName := ⟨RX3, "growFrom", "(ILMarkTables$Turns;)Z"⟩
abbrev cX3_gatherMembers : ByteArray := prog_5_method_9_code
def yX3_gatherMembers : MethodName := ⟨RX3, "gatherMembers", "(ILMarkTables$Turns;)V"⟩
abbrev cX3_close : ByteArray := prog_5_method_10_code
def yX3_close : MethodName := ⟨RX3, "close", "(IILMarkTables$Turns;)V"⟩
abbrev cX3_addMembersTimes : ByteArray := prog_5_method_11_code
def yX3_addMembersTimes : MethodName := ⟨RX3, "addMembersTimes", "(ILMarkTables$Turns;)V"⟩
abbrev cX3_addToNew : ByteArray := prog_5_method_12_code
def yX3_addToNew : MethodName := ⟨RX3, "addToNew", "(I)V"⟩
abbrev cX3_indexFrom : ByteArray := prog_5_method_13_code
def yX3_indexFrom : MethodName := ⟨RX3, "indexFrom", "(IJJ)I"⟩
abbrev cX3_addKind : ByteArray := prog_5_method_14_code
def yX3_addKind : MethodName := ⟨RX3, "addKind", "(IILMarkTables$Turns;)Z"⟩
abbrev cX3_addNew : ByteArray := prog_5_method_15_code
def yX3_addNew : MethodName := ⟨RX3, "addNew", "()Z"⟩
abbrev cX3_keepMakers : ByteArray := prog_5_method_16_code
def yX3_keepMakers : MethodName := ⟨RX3, "keepMakers", "(II)V"⟩
abbrev cX3_leadToNew : ByteArray := prog_5_method_17_code
def yX3_leadToNew : MethodName := ⟨RX3, "leadToNew", "(IILMarkTables$Turns;)V"⟩
def RX4 : String := "MarkTables$Heaps"
def TX4 : u_T := fun k => match k with
  | 0 => ("MarkTables$Heaps", "count", "I", false)
  | 1 => ("MarkTables$Heaps", "classes", "I", false)
  | 2 => ("MarkTables$Heaps", "low", "[J", true)
  | 3 => ("MarkTables$Heaps", "high", "[J", true)
  | 4 => ("MarkTables$Heaps", "size", "[I", true)
  | 5 => ("MarkTables$Heaps", "classOf", "[I", true)
  | 6 => ("MarkTables$Heaps", "madeBy", "[I", true)
  | 7 => ("MarkTables$Heaps", "derived", "[I", true)
  | 8 => ("MarkTables$Heaps", "first", "[I", true)
  | 9 => ("MarkTables$Heaps", "number", "[I", true)
  | 10 => ("MarkTables$Heaps", "sign", "[I", true)
  | 11 => ("MarkTables$Heaps", "spare", "[I", true)
  | 12 => ("MarkTables$Heaps", "sorted", "[I", true)
  | _ => ("MarkTables$Heaps", "over", "[I", false)
def tyX4 : Nat → FieldType := fun k => match k with
  | 0 => .int
  | 1 => .int
  | 2 => .array .long
  | 3 => .array .long
  | 4 => .array .int
  | 5 => .array .int
  | 6 => .array .int
  | 7 => .array .int
  | 8 => .array .int
  | 9 => .array .int
  | 10 => .array .int
  | 11 => .array .int
  | 12 => .array .int
  | _ => .array .int
theorem nmX4 : ∀ a, a < 14 → ∀ b, b < 14 → a ≠ b → (TX4 a).2.1 ≠ (TX4 b).2.1 := by decide +kernel
theorem tyX4_ok : ∀ k, k < 14 → parseFieldDescriptor (TX4 k).2.2.1 = some (tyX4 k) := by decide +kernel
abbrev cX4_init : ByteArray := prog_6_method_1_code
def yX4_init : MethodName := ⟨RX4, "<init>", "()V"⟩
abbrev cX4_isHeap : ByteArray := prog_6_method_2_code
def yX4_isHeap : MethodName := ⟨RX4, "isHeap", "(I)Z"⟩
abbrev cX4_isClass : ByteArray := prog_6_method_3_code
def yX4_isClass : MethodName := ⟨RX4, "isClass", "(I)Z"⟩
abbrev cX4_isNormal : ByteArray := prog_6_method_4_code
def yX4_isNormal : MethodName := ⟨RX4, "isNormal", "(I)Z"⟩
abbrev cX4_holdsTurn : ByteArray := prog_6_method_5_code
def yX4_holdsTurn : MethodName := ⟨RX4, "holdsTurn", "(II)Z"⟩
abbrev cX4_sizeInClass : ByteArray := prog_6_method_6_code
def yX4_sizeInClass : MethodName := ⟨RX4, "sizeInClass", "(I)I"⟩
abbrev cX4_liesIn : ByteArray := prog_6_method_7_code
def yX4_liesIn : MethodName := ⟨RX4, "liesIn", "(II)Z"⟩
abbrev cX4_indexOf : ByteArray := prog_6_method_8_code
def yX4_indexOf : MethodName := ⟨RX4, "indexOf", "(JJ)I"⟩
abbrev cX4_leastOver : ByteArray := prog_6_method_9_code
def yX4_leastOver : MethodName := ⟨RX4, "leastOver", "(JJ)I"⟩
abbrev cX4_normalWithin : ByteArray := prog_6_method_10_code
def yX4_normalWithin : MethodName := ⟨RX4, "normalWithin", "(I)I"⟩
abbrev cX4_countWithin : ByteArray := prog_6_method_11_code
def yX4_countWithin : MethodName := ⟨RX4, "countWithin", "(I)I"⟩
abbrev cX4_countOver : ByteArray := prog_6_method_12_code
def yX4_countOver : MethodName := ⟨RX4, "countOver", "(I)I"⟩
abbrev cX4_countNormal : ByteArray := prog_6_method_13_code
def yX4_countNormal : MethodName := ⟨RX4, "countNormal", "()I"⟩
abbrev cX4_firstClassOfSize : ByteArray := prog_6_method_14_code
def yX4_firstClassOfSize : MethodName := ⟨RX4, "firstClassOfSize", "(I)I"⟩
abbrev cX4_above : ByteArray := prog_6_method_15_code
def yX4_above : MethodName := ⟨RX4, "above", "(II)I"⟩
abbrev cX4_below : ByteArray := prog_6_method_16_code
def yX4_below : MethodName := ⟨RX4, "below", "(II)I"⟩
abbrev cX4_markOn : ByteArray := prog_6_method_17_code
def yX4_markOn : MethodName := ⟨RX4, "markOn", "(II)I"⟩
abbrev cX4_drawsThatMakeAll : ByteArray := prog_6_method_18_code
def yX4_drawsThatMakeAll : MethodName := ⟨RX4, "drawsThatMakeAll", "(I)J"⟩
abbrev cX4_fill : ByteArray := prog_6_method_19_code
def yX4_fill : MethodName := ⟨RX4, "fill", "(LMarkTables$HeapFinder;LMarkTables$Turns;)V"⟩
abbrev cX4_sortFound : ByteArray := prog_6_method_20_code
def yX4_sortFound : MethodName := ⟨RX4, "sortFound", "(LMarkTables$HeapFinder;)V"⟩
abbrev cX4_numberClasses : ByteArray := prog_6_method_21_code
def yX4_numberClasses : MethodName := ⟨RX4, "numberClasses", "(LMarkTables$HeapFinder;)V"⟩
abbrev cX4_classOfKind : ByteArray := prog_6_method_22_code
def yX4_classOfKind : MethodName := ⟨RX4, "classOfKind", "(LMarkTables$HeapFinder;I)I"⟩
abbrev cX4_fillMadeBy : ByteArray := prog_6_method_23_code
def yX4_fillMadeBy : MethodName := ⟨RX4, "fillMadeBy", "(LMarkTables$Turns;)V"⟩
abbrev cX4_fillOver : ByteArray := prog_6_method_24_code
def yX4_fillOver : MethodName := ⟨RX4, "fillOver", "()V"⟩
abbrev cX4_fillSpare : ByteArray := prog_6_method_25_code
def yX4_fillSpare : MethodName := ⟨RX4, "fillSpare", "(I)V"⟩
abbrev cX4_fillSigns : ByteArray := prog_6_method_26_code
def yX4_fillSigns : MethodName := ⟨RX4, "fillSigns", "()V"⟩
def RX5 : String := "MarkTables$Sheet"
def TX5 : u_T := fun k => match k with
  | 0 => ("MarkTables$Sheet", "numbers", "[I", true)
  | 1 => ("MarkTables$Sheet", "sort", "I", false)
  | _ => ("MarkTables$Sheet", "length", "I", false)
def tyX5 : Nat → FieldType := fun k => match k with
  | 0 => .array .int
  | 1 => .int
  | _ => .int
theorem nmX5 : ∀ a, a < 3 → ∀ b, b < 3 → a ≠ b → (TX5 a).2.1 ≠ (TX5 b).2.1 := by decide +kernel
theorem tyX5_ok : ∀ k, k < 3 → parseFieldDescriptor (TX5 k).2.2.1 = some (tyX5 k) := by decide +kernel
abbrev cX5_init : ByteArray := prog_7_method_1_code
def yX5_init : MethodName := ⟨RX5, "<init>", "()V"⟩
abbrev cX5_lay : ByteArray := prog_7_method_2_code
def yX5_lay : MethodName := ⟨RX5, "lay", "(II)V"⟩
abbrev cX5_takeAway : ByteArray := prog_7_method_3_code
def yX5_takeAway : MethodName := ⟨RX5, "takeAway", "()V"⟩
abbrev cX5_isMissing : ByteArray := prog_7_method_4_code
def yX5_isMissing : MethodName := ⟨RX5, "isMissing", "()Z"⟩
abbrev cX5_put : ByteArray := prog_7_method_5_code
def yX5_put : MethodName := ⟨RX5, "put", "(II)Z"⟩
abbrev cX5_codeFor : ByteArray := prog_7_method_6_code
def yX5_codeFor : MethodName := ⟨RX5, "codeFor", "(I)I"⟩
def RX6 : String := "MarkTables$Turns"
def TX6 : u_T := fun k => match k with
  | 0 => ("MarkTables$Turns", "places", "I", false)
  | 1 => ("MarkTables$Turns", "count", "I", false)
  | 2 => ("MarkTables$Turns", "makers", "I", false)
  | 3 => ("MarkTables$Turns", "codes", "[I", true)
  | 4 => ("MarkTables$Turns", "inverse", "[I", true)
  | 5 => ("MarkTables$Turns", "order", "[I", true)
  | 6 => ("MarkTables$Turns", "steps", "[I", true)
  | 7 => ("MarkTables$Turns", "makerCodes", "[I", true)
  | 8 => ("MarkTables$Turns", "reached", "[I", true)
  | 9 => ("MarkTables$Turns", "isReached", "[Z", true)
  | _ => ("MarkTables$Turns", "products", "[I", false)
def tyX6 : Nat → FieldType := fun k => match k with
  | 0 => .int
  | 1 => .int
  | 2 => .int
  | 3 => .array .int
  | 4 => .array .int
  | 5 => .array .int
  | 6 => .array .int
  | 7 => .array .int
  | 8 => .array .int
  | 9 => .array .boolean
  | _ => .array .int
theorem nmX6 : ∀ a, a < 11 → ∀ b, b < 11 → a ≠ b → (TX6 a).2.1 ≠ (TX6 b).2.1 := by decide +kernel
theorem tyX6_ok : ∀ k, k < 11 → parseFieldDescriptor (TX6 k).2.2.1 = some (tyX6 k) := by decide +kernel
abbrev cX6_init : ByteArray := prog_8_method_1_code
def yX6_init : MethodName := ⟨RX6, "<init>", "()V"⟩
abbrev cX6_isTurn : ByteArray := prog_8_method_2_code
def yX6_isTurn : MethodName := ⟨RX6, "isTurn", "(I)Z"⟩
abbrev cX6_times : ByteArray := prog_8_method_3_code
def yX6_times : MethodName := ⟨RX6, "times", "(II)I"⟩
abbrev cX6_ledBy : ByteArray := prog_8_method_4_code
def yX6_ledBy : MethodName := ⟨RX6, "ledBy", "(II)I"⟩
abbrev cX6_kinOf : ByteArray := prog_8_method_5_code
def yX6_kinOf : MethodName := ⟨RX6, "kinOf", "(I)I"⟩
abbrev cX6_build : ByteArray := prog_8_method_6_code
def yX6_build : MethodName := ⟨RX6, "build", "(I[I)Z"⟩
abbrev cX6_keepMakers : ByteArray := prog_8_method_7_code
def yX6_keepMakers : MethodName := ⟨RX6, "keepMakers", "([I)V"⟩
abbrev cX6_indexIn : ByteArray := prog_8_method_8_code
def yX6_indexIn : MethodName := ⟨RX6, "indexIn", "([III)I"⟩
abbrev cX6_collect : ByteArray := prog_8_method_9_code
def yX6_collect : MethodName := ⟨RX6, "collect", "()Z"⟩
abbrev cX6_sortCodes : ByteArray := prog_8_method_10_code
def yX6_sortCodes : MethodName := ⟨RX6, "sortCodes", "()V"⟩
abbrev cX6_fillSteps : ByteArray := prog_8_method_11_code
def yX6_fillSteps : MethodName := ⟨RX6, "fillSteps", "()V"⟩
abbrev cX6_numberOf : ByteArray := prog_8_method_12_code
def yX6_numberOf : MethodName := ⟨RX6, "numberOf", "(I)I"⟩
abbrev cX6_fillProducts : ByteArray := prog_8_method_13_code
def yX6_fillProducts : MethodName := ⟨RX6, "fillProducts", "()V"⟩
abbrev cX6_fillProductsBy : ByteArray := prog_8_method_14_code
def yX6_fillProductsBy : MethodName := ⟨RX6, "fillProductsBy", "(III)V"⟩
abbrev cX6_fillPowers : ByteArray := prog_8_method_15_code
def yX6_fillPowers : MethodName := ⟨RX6, "fillPowers", "()V"⟩
def RX7 : String := "MarkTables"
def TX7 : u_T := fun k => match k with
  | 0 => ("MarkTables", "sheets", "[LMarkTables$Sheet;", true)
  | 1 => ("MarkTables", "sheetCodes", "[I", true)
  | 2 => ("MarkTables", "finder", "LMarkTables$HeapFinder;", true)
  | 3 => ("MarkTables", "maker", "LMarkTables$ActMaker;", true)
  | 4 => ("MarkTables", "groups", "[LMarkTables$Group;", true)
  | 5 => ("MarkTables", "images", "[LMarkTables$Bench;", true)
  | 6 => ("MarkTables", "bench", "LMarkTables$Bench;", true)
  | 7 => ("MarkTables", "refusal", "I", false)
  | _ => ("MarkTables", "misfitClass", "I", false)
def tyX7 : Nat → FieldType := fun k => match k with
  | 0 => .array (.object "MarkTables$Sheet")
  | 1 => .array .int
  | 2 => .object "MarkTables$HeapFinder"
  | 3 => .object "MarkTables$ActMaker"
  | 4 => .array (.object "MarkTables$Group")
  | 5 => .array (.object "MarkTables$Bench")
  | 6 => .object "MarkTables$Bench"
  | 7 => .int
  | _ => .int
theorem nmX7 : ∀ a, a < 9 → ∀ b, b < 9 → a ≠ b → (TX7 a).2.1 ≠ (TX7 b).2.1 := by decide +kernel
theorem tyX7_ok : ∀ k, k < 9 → parseFieldDescriptor (TX7 k).2.2.1 = some (tyX7 k) := by decide +kernel
abbrev cX7_init : ByteArray := prog_1_method_1_code
def yX7_init : MethodName := ⟨RX7, "<init>", "()V"⟩
abbrev cX7_sheet : ByteArray := prog_1_method_2_code
def yX7_sheet : MethodName := ⟨RX7, "sheet", "(III)I"⟩
abbrev cX7_write : ByteArray := prog_1_method_3_code
def yX7_write : MethodName := ⟨RX7, "write", "(III)I"⟩
abbrev cX7_group : ByteArray := prog_1_method_4_code
def yX7_group : MethodName := ⟨RX7, "group", "(I)I"⟩
abbrev cX7_count : ByteArray := prog_1_method_5_code
def yX7_count : MethodName := ⟨RX7, "count", "(I)I"⟩
abbrev cX7_turn : ByteArray := prog_1_method_6_code
def yX7_turn : MethodName := ⟨RX7, "turn", "(II)I"⟩
abbrev cX7_product : ByteArray := prog_1_method_7_code
def yX7_product : MethodName := ⟨RX7, "product", "(II)I"⟩
abbrev cX7_ofTurn : ByteArray := prog_1_method_8_code
def yX7_ofTurn : MethodName := ⟨RX7, "ofTurn", "(II)I"⟩
abbrev cX7_heap : ByteArray := prog_1_method_9_code
def yX7_heap : MethodName := ⟨RX7, "heap", "(II)I"⟩
abbrev cX7_has : ByteArray := prog_1_method_10_code
def yX7_has : MethodName := ⟨RX7, "has", "(II)I"⟩
abbrev cX7_join : ByteArray := prog_1_method_11_code
def yX7_join : MethodName := ⟨RX7, "join", "(III)I"⟩
abbrev cX7_ofClass : ByteArray := prog_1_method_12_code
def yX7_ofClass : MethodName := ⟨RX7, "ofClass", "(II)I"⟩
abbrev cX7_within : ByteArray := prog_1_method_13_code
def yX7_within : MethodName := ⟨RX7, "within", "(III)I"⟩
abbrev cX7_table : ByteArray := prog_1_method_14_code
def yX7_table : MethodName := ⟨RX7, "table", "(II)I"⟩
abbrev cX7_sylow : ByteArray := prog_1_method_15_code
def yX7_sylow : MethodName := ⟨RX7, "sylow", "(I)I"⟩
abbrev cX7_down : ByteArray := prog_1_method_16_code
def yX7_down : MethodName := ⟨RX7, "down", "(I)I"⟩
abbrev cX7_simple : ByteArray := prog_1_method_17_code
def yX7_simple : MethodName := ⟨RX7, "simple", "()I"⟩
abbrev cX7_coset : ByteArray := prog_1_method_18_code
def yX7_coset : MethodName := ⟨RX7, "coset", "(II)J"⟩
abbrev cX7_places : ByteArray := prog_1_method_19_code
def yX7_places : MethodName := ⟨RX7, "places", "(III)J"⟩
abbrev cX7_heaps : ByteArray := prog_1_method_20_code
def yX7_heaps : MethodName := ⟨RX7, "heaps", "(I)J"⟩
abbrev cX7_both : ByteArray := prog_1_method_21_code
def yX7_both : MethodName := ⟨RX7, "both", "(IIII)J"⟩
abbrev cX7_colour : ByteArray := prog_1_method_22_code
def yX7_colour : MethodName := ⟨RX7, "colour", "(III)J"⟩
abbrev cX7_many : ByteArray := prog_1_method_23_code
def yX7_many : MethodName := ⟨RX7, "many", "(III)J"⟩
abbrev cX7_parts : ByteArray := prog_1_method_24_code
def yX7_parts : MethodName := ⟨RX7, "parts", "(II)J"⟩
abbrev cX7_mark : ByteArray := prog_1_method_25_code
def yX7_mark : MethodName := ⟨RX7, "mark", "(II)J"⟩
abbrev cX7_act : ByteArray := prog_1_method_26_code
def yX7_act : MethodName := ⟨RX7, "act", "(III)J"⟩
abbrev cX7_same : ByteArray := prog_1_method_27_code
def yX7_same : MethodName := ⟨RX7, "same", "(II)I"⟩
abbrev cX7_maps : ByteArray := prog_1_method_28_code
def yX7_maps : MethodName := ⟨RX7, "maps", "(III)J"⟩
abbrev cX7_row : ByteArray := prog_1_method_29_code
def yX7_row : MethodName := ⟨RX7, "row", "(J)I"⟩
abbrev cX7_check : ByteArray := prog_1_method_30_code
def yX7_check : MethodName := ⟨RX7, "check", "(I)I"⟩
abbrev cX7_misfit : ByteArray := prog_1_method_31_code
def yX7_misfit : MethodName := ⟨RX7, "misfit", "()I"⟩
abbrev cX7_chance : ByteArray := prog_1_method_32_code
def yX7_chance : MethodName := ⟨RX7, "chance", "(II)J"⟩
abbrev cX7_rank : ByteArray := prog_1_method_33_code
def yX7_rank : MethodName := ⟨RX7, "rank", "()I"⟩
abbrev cX7_image : ByteArray := prog_1_method_34_code
def yX7_image : MethodName := ⟨RX7, "image", "(I)I"⟩
abbrev cX7_back : ByteArray := prog_1_method_35_code
def yX7_back : MethodName := ⟨RX7, "back", "(I)I"⟩
abbrev cX7_status : ByteArray := prog_1_method_36_code
def yX7_status : MethodName := ⟨RX7, "status", "()I"⟩
abbrev cX7_refuse : ByteArray := prog_1_method_37_code
def yX7_refuse : MethodName := ⟨RX7, "refuse", "(I)I"⟩
abbrev cX7_accept : ByteArray := prog_1_method_38_code
def yX7_accept : MethodName := ⟨RX7, "accept", "(I)I"⟩
abbrev cX7_isWay : ByteArray := prog_1_method_39_code
def yX7_isWay : MethodName := ⟨RX7, "isWay", "(I)Z"⟩
abbrev cX7_isActNumber : ByteArray := prog_1_method_40_code
def yX7_isActNumber : MethodName := ⟨RX7, "isActNumber", "(I)Z"⟩
abbrev cX7_isAct : ByteArray := prog_1_method_41_code
def yX7_isAct : MethodName := ⟨RX7, "isAct", "(I)Z"⟩
abbrev cX7_keepMade : ByteArray := prog_1_method_42_code
def yX7_keepMade : MethodName := ⟨RX7, "keepMade", "(I)J"⟩
abbrev cX7_readSheets : ByteArray := prog_1_method_43_code
def yX7_readSheets : MethodName := ⟨RX7, "readSheets", "(I)Z"⟩
abbrev cX7_unusedGroup : ByteArray := prog_1_method_44_code
def yX7_unusedGroup : MethodName := ⟨RX7, "unusedGroup", "()LMarkTables$Group;"⟩
abbrev cX7_isInUse : ByteArray := prog_1_method_45_code
def yX7_isInUse : MethodName := ⟨RX7, "isInUse", "(LMarkTables$Group;)Z"⟩
abbrev cX7_whereTo : ByteArray := prog_1_method_46_code
def yX7_whereTo : MethodName := ⟨RX7, "whereTo", "(II)I"⟩
abbrev cX7_oneBehindOther : ByteArray := prog_1_method_47_code
def yX7_oneBehindOther : MethodName := ⟨RX7, "oneBehindOther", "(II)I"⟩
abbrev cX7_holds : ByteArray := prog_1_method_48_code
def yX7_holds : MethodName := ⟨RX7, "holds", "(JJI)Z"⟩
abbrev cX7_lowBit : ByteArray := prog_1_method_49_code
def yX7_lowBit : MethodName := ⟨RX7, "lowBit", "(I)J"⟩
abbrev cX7_highBit : ByteArray := prog_1_method_50_code
def yX7_highBit : MethodName := ⟨RX7, "highBit", "(I)J"⟩
abbrev cX7_timesUpTo : ByteArray := prog_1_method_51_code
def yX7_timesUpTo : MethodName := ⟨RX7, "timesUpTo", "(JJ)J"⟩
abbrev cX7_powerUpTo : ByteArray := prog_1_method_52_code
def yX7_powerUpTo : MethodName := ⟨RX7, "powerUpTo", "(JJ)J"⟩
abbrev cX7_factorialUpTo : ByteArray := prog_1_method_53_code
def yX7_factorialUpTo : MethodName := ⟨RX7, "factorialUpTo", "(J)J"⟩
abbrev cX7_powerOf : ByteArray := prog_1_method_54_code
def yX7_powerOf : MethodName := ⟨RX7, "powerOf", "(JI)J"⟩
abbrev cX7_greatestDivisor : ByteArray := prog_1_method_55_code
def yX7_greatestDivisor : MethodName := ⟨RX7, "greatestDivisor", "(JJ)J"⟩
abbrev cX7_isPowerOfPrime : ByteArray := prog_1_method_56_code
def yX7_isPowerOfPrime : MethodName := ⟨RX7, "isPowerOfPrime", "(I)Z"⟩
abbrev cX7_roomFor : ByteArray := prog_1_method_57_code
def yX7_roomFor : MethodName := ⟨RX7, "roomFor", "([II)[I"⟩
def RX8 : String := "MarkTablesModel"
def TX8 : u_T := fun k => match k with
  | 0 => ("MarkTablesModel", "status", "I", false)
  | 1 => ("MarkTablesModel", "sheetSort", "[I", true)
  | 2 => ("MarkTablesModel", "sheetSize", "[I", true)
  | 3 => ("MarkTablesModel", "sheetRow", "[I", true)
  | 4 => ("MarkTablesModel", "places", "I", false)
  | 5 => ("MarkTablesModel", "turns", "I", false)
  | 6 => ("MarkTablesModel", "image", "[I", true)
  | 7 => ("MarkTablesModel", "product", "[I", true)
  | 8 => ("MarkTablesModel", "inverse", "[I", true)
  | 9 => ("MarkTablesModel", "newImage", "[I", true)
  | 10 => ("MarkTablesModel", "newTurns", "I", false)
  | 11 => ("MarkTablesModel", "order", "[I", true)
  | 12 => ("MarkTablesModel", "heaps", "I", false)
  | 13 => ("MarkTablesModel", "classes", "I", false)
  | 14 => ("MarkTablesModel", "has", "[Z", true)
  | 15 => ("MarkTablesModel", "size", "[I", true)
  | 16 => ("MarkTablesModel", "makers", "[I", true)
  | 17 => ("MarkTablesModel", "makes", "[I", true)
  | 18 => ("MarkTablesModel", "led", "[I", true)
  | 19 => ("MarkTablesModel", "classOf", "[I", true)
  | 20 => ("MarkTablesModel", "firstOf", "[I", true)
  | 21 => ("MarkTablesModel", "manyOf", "[I", true)
  | 22 => ("MarkTablesModel", "sign", "[J", true)
  | 23 => ("MarkTablesModel", "table", "[I", true)
  | 24 => ("MarkTablesModel", "list", "[I", true)
  | 25 => ("MarkTablesModel", "oldImage", "[I", true)
  | 26 => ("MarkTablesModel", "oldPlaces", "I", false)
  | 27 => ("MarkTablesModel", "oldTurns", "I", false)
  | 28 => ("MarkTablesModel", "isThere", "[Z", true)
  | 29 => ("MarkTablesModel", "parts", "[J", true)
  | 30 => ("MarkTablesModel", "marks", "[J", true)
  | 31 => ("MarkTablesModel", "made", "[J", true)
  | 32 => ("MarkTablesModel", "misfit", "I", false)
  | 33 => ("MarkTablesModel", "isMet", "[Z", true)
  | 34 => ("MarkTablesModel", "heapSizes", "[I", true)
  | 35 => ("MarkTablesModel", "rowSize", "I", false)
  | 36 => ("MarkTablesModel", "row", "[J", true)
  | 37 => ("MarkTablesModel", "checked", "I", false)
  | 38 => ("MarkTablesModel", "isKept", "[Z", true)
  | 39 => ("MarkTablesModel", "keptPlaces", "[I", true)
  | 40 => ("MarkTablesModel", "keptTurns", "[I", true)
  | 41 => ("MarkTablesModel", "keptImage", "[I", true)
  | 42 => ("MarkTablesModel", "keptThere", "[Z", true)
  | 43 => ("MarkTablesModel", "keptParts", "[J", true)
  | 44 => ("MarkTablesModel", "keptSize", "[I", true)
  | _ => ("MarkTablesModel", "keptRow", "[J", true)
def tyX8 : Nat → FieldType := fun k => match k with
  | 0 => .int
  | 1 => .array .int
  | 2 => .array .int
  | 3 => .array .int
  | 4 => .int
  | 5 => .int
  | 6 => .array .int
  | 7 => .array .int
  | 8 => .array .int
  | 9 => .array .int
  | 10 => .int
  | 11 => .array .int
  | 12 => .int
  | 13 => .int
  | 14 => .array .boolean
  | 15 => .array .int
  | 16 => .array .int
  | 17 => .array .int
  | 18 => .array .int
  | 19 => .array .int
  | 20 => .array .int
  | 21 => .array .int
  | 22 => .array .long
  | 23 => .array .int
  | 24 => .array .int
  | 25 => .array .int
  | 26 => .int
  | 27 => .int
  | 28 => .array .boolean
  | 29 => .array .long
  | 30 => .array .long
  | 31 => .array .long
  | 32 => .int
  | 33 => .array .boolean
  | 34 => .array .int
  | 35 => .int
  | 36 => .array .long
  | 37 => .int
  | 38 => .array .boolean
  | 39 => .array .int
  | 40 => .array .int
  | 41 => .array .int
  | 42 => .array .boolean
  | 43 => .array .long
  | 44 => .array .int
  | _ => .array .long
theorem nmX8 : ∀ a, a < 46 → ∀ b, b < 46 → a ≠ b → (TX8 a).2.1 ≠ (TX8 b).2.1 := by decide +kernel
theorem tyX8_ok : ∀ k, k < 46 → parseFieldDescriptor (TX8 k).2.2.1 = some (tyX8 k) := by decide +kernel
abbrev cX8_in : ByteArray := prog_10_method_1_code
def yX8_in : MethodName := ⟨RX8, "in", "(JJJ)Z"⟩
abbrev cX8_ends : ByteArray := prog_10_method_2_code
def yX8_ends : MethodName := ⟨RX8, "ends", "(I)I"⟩
abbrev cX8_endsLong : ByteArray := prog_10_method_3_code
def yX8_endsLong : MethodName := ⟨RX8, "endsLong", "(J)J"⟩
abbrev cX8_sheet : ByteArray := prog_10_method_4_code
def yX8_sheet : MethodName := ⟨RX8, "sheet", "(III)I"⟩
abbrev cX8_write : ByteArray := prog_10_method_5_code
def yX8_write : MethodName := ⟨RX8, "write", "(III)I"⟩
abbrev cX8_newPlace : ByteArray := prog_10_method_6_code
def yX8_newPlace : MethodName := ⟨RX8, "newPlace", "(II)I"⟩
abbrev cX8_isNews : ByteArray := prog_10_method_7_code
def yX8_isNews : MethodName := ⟨RX8, "isNews", "(I)Z"⟩
abbrev cX8_gathers : ByteArray := prog_10_method_8_code
def yX8_gathers : MethodName := ⟨RX8, "gathers", "(I)I"⟩
abbrev cX8_isBefore : ByteArray := prog_10_method_9_code
def yX8_isBefore : MethodName := ⟨RX8, "isBefore", "(III)Z"⟩
abbrev cX8_takes : ByteArray := prog_10_method_10_code
def yX8_takes : MethodName := ⟨RX8, "takes", "(I)V"⟩
abbrev cX8_find : ByteArray := prog_10_method_11_code
def yX8_find : MethodName := ⟨RX8, "find", "(II)I"⟩
abbrev cX8_closes : ByteArray := prog_10_method_12_code
def yX8_closes : MethodName := ⟨RX8, "closes", "(I)V"⟩
abbrev cX8_isAlike : ByteArray := prog_10_method_13_code
def yX8_isAlike : MethodName := ⟨RX8, "isAlike", "(II)Z"⟩
abbrev cX8_among : ByteArray := prog_10_method_14_code
def yX8_among : MethodName := ⟨RX8, "among", "(II)I"⟩
abbrev cX8_findsHeaps : ByteArray := prog_10_method_15_code
def yX8_findsHeaps : MethodName := ⟨RX8, "findsHeaps", "()Z"⟩
abbrev cX8_isAhead : ByteArray := prog_10_method_16_code
def yX8_isAhead : MethodName := ⟨RX8, "isAhead", "(II)Z"⟩
abbrev cX8_changes : ByteArray := prog_10_method_17_code
def yX8_changes : MethodName := ⟨RX8, "changes", "(II)V"⟩
abbrev cX8_lies : ByteArray := prog_10_method_18_code
def yX8_lies : MethodName := ⟨RX8, "lies", "(II)Z"⟩
abbrev cX8_settles : ByteArray := prog_10_method_19_code
def yX8_settles : MethodName := ⟨RX8, "settles", "()V"⟩
abbrev cX8_ledTo : ByteArray := prog_10_method_20_code
def yX8_ledTo : MethodName := ⟨RX8, "ledTo", "(II)I"⟩
abbrev cX8_init : ByteArray := prog_10_method_21_code
def yX8_init : MethodName := ⟨RX8, "<init>", "()V"⟩
abbrev cX8_puts : ByteArray := prog_10_method_22_code
def yX8_puts : MethodName := ⟨RX8, "puts", "([III)V"⟩
abbrev cX8_group : ByteArray := prog_10_method_23_code
def yX8_group : MethodName := ⟨RX8, "group", "(I)I"⟩
abbrev cX8_count : ByteArray := prog_10_method_24_code
def yX8_count : MethodName := ⟨RX8, "count", "(I)I"⟩
abbrev cX8_isTurn : ByteArray := prog_10_method_25_code
def yX8_isTurn : MethodName := ⟨RX8, "isTurn", "(I)Z"⟩
abbrev cX8_isHeap : ByteArray := prog_10_method_26_code
def yX8_isHeap : MethodName := ⟨RX8, "isHeap", "(I)Z"⟩
abbrev cX8_isClass : ByteArray := prog_10_method_27_code
def yX8_isClass : MethodName := ⟨RX8, "isClass", "(I)Z"⟩
abbrev cX8_turn : ByteArray := prog_10_method_28_code
def yX8_turn : MethodName := ⟨RX8, "turn", "(II)I"⟩
abbrev cX8_product : ByteArray := prog_10_method_29_code
def yX8_product : MethodName := ⟨RX8, "product", "(II)I"⟩
abbrev cX8_least : ByteArray := prog_10_method_30_code
def yX8_least : MethodName := ⟨RX8, "least", "()I"⟩
abbrev cX8_clears : ByteArray := prog_10_method_31_code
def yX8_clears : MethodName := ⟨RX8, "clears", "()V"⟩
abbrev cX8_madeBy : ByteArray := prog_10_method_32_code
def yX8_madeBy : MethodName := ⟨RX8, "madeBy", "(I)I"⟩
abbrev cX8_ofTurn : ByteArray := prog_10_method_33_code
def yX8_ofTurn : MethodName := ⟨RX8, "ofTurn", "(II)I"⟩
abbrev cX8_marked : ByteArray := prog_10_method_34_code
def yX8_marked : MethodName := ⟨RX8, "marked", "()I"⟩
abbrev cX8_exact : ByteArray := prog_10_method_35_code
def yX8_exact : MethodName := ⟨RX8, "exact", "()I"⟩
abbrev cX8_normalizer : ByteArray := prog_10_method_36_code
def yX8_normalizer : MethodName := ⟨RX8, "normalizer", "(I)I"⟩
abbrev cX8_core : ByteArray := prog_10_method_37_code
def yX8_core : MethodName := ⟨RX8, "core", "(I)I"⟩
abbrev cX8_derived : ByteArray := prog_10_method_38_code
def yX8_derived : MethodName := ⟨RX8, "derived", "(I)I"⟩
abbrev cX8_isQuiet : ByteArray := prog_10_method_39_code
def yX8_isQuiet : MethodName := ⟨RX8, "isQuiet", "(I)Z"⟩
abbrev cX8_isNormal : ByteArray := prog_10_method_40_code
def yX8_isNormal : MethodName := ⟨RX8, "isNormal", "(I)Z"⟩
abbrev cX8_heap : ByteArray := prog_10_method_41_code
def yX8_heap : MethodName := ⟨RX8, "heap", "(II)I"⟩
abbrev cX8_has : ByteArray := prog_10_method_42_code
def yX8_has : MethodName := ⟨RX8, "has", "(II)I"⟩
abbrev cX8_join : ByteArray := prog_10_method_43_code
def yX8_join : MethodName := ⟨RX8, "join", "(III)I"⟩
abbrev cX8_ofClass : ByteArray := prog_10_method_44_code
def yX8_ofClass : MethodName := ⟨RX8, "ofClass", "(II)I"⟩
abbrev cX8_within : ByteArray := prog_10_method_45_code
def yX8_within : MethodName := ⟨RX8, "within", "(III)I"⟩
abbrev cX8_table : ByteArray := prog_10_method_46_code
def yX8_table : MethodName := ⟨RX8, "table", "(II)I"⟩
abbrev cX8_sylow : ByteArray := prog_10_method_47_code
def yX8_sylow : MethodName := ⟨RX8, "sylow", "(I)I"⟩
abbrev cX8_down : ByteArray := prog_10_method_48_code
def yX8_down : MethodName := ⟨RX8, "down", "(I)I"⟩
abbrev cX8_simple : ByteArray := prog_10_method_49_code
def yX8_simple : MethodName := ⟨RX8, "simple", "()I"⟩
abbrev cX8_isNumber : ByteArray := prog_10_method_50_code
def yX8_isNumber : MethodName := ⟨RX8, "isNumber", "(I)Z"⟩
abbrev cX8_isAct : ByteArray := prog_10_method_51_code
def yX8_isAct : MethodName := ⟨RX8, "isAct", "(I)Z"⟩
abbrev cX8_markOf : ByteArray := prog_10_method_52_code
def yX8_markOf : MethodName := ⟨RX8, "markOf", "(II)J"⟩
abbrev cX8_sizeOf : ByteArray := prog_10_method_53_code
def yX8_sizeOf : MethodName := ⟨RX8, "sizeOf", "(I)J"⟩
abbrev cX8_becomes : ByteArray := prog_10_method_54_code
def yX8_becomes : MethodName := ⟨RX8, "becomes", "(I)J"⟩
abbrev cX8_solves : ByteArray := prog_10_method_55_code
def yX8_solves : MethodName := ⟨RX8, "solves", "()I"⟩
abbrev cX8_coset : ByteArray := prog_10_method_56_code
def yX8_coset : MethodName := ⟨RX8, "coset", "(II)J"⟩
abbrev cX8_rounds : ByteArray := prog_10_method_57_code
def yX8_rounds : MethodName := ⟨RX8, "rounds", "(I)I"⟩
abbrev cX8_setsLeft : ByteArray := prog_10_method_58_code
def yX8_setsLeft : MethodName := ⟨RX8, "setsLeft", "(II)J"⟩
abbrev cX8_rowsLeft : ByteArray := prog_10_method_59_code
def yX8_rowsLeft : MethodName := ⟨RX8, "rowsLeft", "(II)J"⟩
abbrev cX8_places : ByteArray := prog_10_method_60_code
def yX8_places : MethodName := ⟨RX8, "places", "(III)J"⟩
abbrev cX8_heaps : ByteArray := prog_10_method_61_code
def yX8_heaps : MethodName := ⟨RX8, "heaps", "(I)J"⟩
abbrev cX8_times : ByteArray := prog_10_method_62_code
def yX8_times : MethodName := ⟨RX8, "times", "(JJ)J"⟩
abbrev cX8_both : ByteArray := prog_10_method_63_code
def yX8_both : MethodName := ⟨RX8, "both", "(IIII)J"⟩
abbrev cX8_toThe : ByteArray := prog_10_method_64_code
def yX8_toThe : MethodName := ⟨RX8, "toThe", "(JJ)J"⟩
abbrev cX8_sets : ByteArray := prog_10_method_65_code
def yX8_sets : MethodName := ⟨RX8, "sets", "(II)J"⟩
abbrev cX8_colour : ByteArray := prog_10_method_66_code
def yX8_colour : MethodName := ⟨RX8, "colour", "(III)J"⟩
abbrev cX8_many : ByteArray := prog_10_method_67_code
def yX8_many : MethodName := ⟨RX8, "many", "(III)J"⟩
abbrev cX8_parts : ByteArray := prog_10_method_68_code
def yX8_parts : MethodName := ⟨RX8, "parts", "(II)J"⟩
abbrev cX8_mark : ByteArray := prog_10_method_69_code
def yX8_mark : MethodName := ⟨RX8, "mark", "(II)J"⟩
abbrev cX8_kernel : ByteArray := prog_10_method_70_code
def yX8_kernel : MethodName := ⟨RX8, "kernel", "(I)I"⟩
abbrev cX8_act : ByteArray := prog_10_method_71_code
def yX8_act : MethodName := ⟨RX8, "act", "(III)J"⟩
abbrev cX8_same : ByteArray := prog_10_method_72_code
def yX8_same : MethodName := ⟨RX8, "same", "(II)I"⟩
abbrev cX8_maps : ByteArray := prog_10_method_73_code
def yX8_maps : MethodName := ⟨RX8, "maps", "(III)J"⟩
abbrev cX8_row : ByteArray := prog_10_method_74_code
def yX8_row : MethodName := ⟨RX8, "row", "(J)I"⟩
abbrev cX8_check : ByteArray := prog_10_method_75_code
def yX8_check : MethodName := ⟨RX8, "check", "(I)I"⟩
abbrev cX8_misfit : ByteArray := prog_10_method_76_code
def yX8_misfit : MethodName := ⟨RX8, "misfit", "()I"⟩
abbrev cX8_gcd : ByteArray := prog_10_method_77_code
def yX8_gcd : MethodName := ⟨RX8, "gcd", "(JJ)J"⟩
abbrev cX8_making : ByteArray := prog_10_method_78_code
def yX8_making : MethodName := ⟨RX8, "making", "(I)J"⟩
abbrev cX8_chance : ByteArray := prog_10_method_79_code
def yX8_chance : MethodName := ⟨RX8, "chance", "(II)J"⟩
abbrev cX8_rank : ByteArray := prog_10_method_80_code
def yX8_rank : MethodName := ⟨RX8, "rank", "()I"⟩
abbrev cX8_image : ByteArray := prog_10_method_81_code
def yX8_image : MethodName := ⟨RX8, "image", "(I)I"⟩
abbrev cX8_back : ByteArray := prog_10_method_82_code
def yX8_back : MethodName := ⟨RX8, "back", "(I)I"⟩
abbrev cX8_status : ByteArray := prog_10_method_83_code
def yX8_status : MethodName := ⟨RX8, "status", "()I"⟩
def RJ6 : String := "java/lang/Integer"
def TJ6 : u_T := fun k => match k with
  | _ => ("", "", "", false)
def tyJ6 : Nat → FieldType := fun k => match k with
  | _ => .int
theorem nmJ6 : ∀ a, a < 0 → ∀ b, b < 0 → a ≠ b → (TJ6 a).2.1 ≠ (TJ6 b).2.1 := by decide +kernel
theorem tyJ6_ok : ∀ k, k < 0 → parseFieldDescriptor (TJ6 k).2.2.1 = some (tyJ6 k) := by decide +kernel
abbrev cJ6_bitCount_0f7a4 : ByteArray := prog_11_method_49_code
def yJ6_bitCount_0f7a4 : MethodName := ⟨RJ6, "bitCount", "(I)I"⟩
def RJ9 : String := "java/lang/Math"
def TJ9 : u_T := fun k => match k with
  | _ => ("", "", "", false)
def tyJ9 : Nat → FieldType := fun k => match k with
  | _ => .int
theorem nmJ9 : ∀ a, a < 0 → ∀ b, b < 0 → a ≠ b → (TJ9 a).2.1 ≠ (TJ9 b).2.1 := by decide +kernel
theorem tyJ9_ok : ∀ k, k < 0 → parseFieldDescriptor (TJ9 k).2.2.1 = some (tyJ9 k) := by decide +kernel
abbrev cJ9_max_7cf53 : ByteArray := prog_12_method_65_code
def yJ9_max_7cf53 : MethodName := ⟨RJ9, "max", "(II)I"⟩
def RJ10 : String := "java/lang/System"
def TJ10 : u_T := fun k => match k with
  | _ => ("", "", "", false)
def tyJ10 : Nat → FieldType := fun k => match k with
  | _ => .int
theorem nmJ10 : ∀ a, a < 0 → ∀ b, b < 0 → a ≠ b → (TJ10 a).2.1 ≠ (TJ10 b).2.1 := by decide +kernel
theorem tyJ10_ok : ∀ k, k < 0 → parseFieldDescriptor (TJ10 k).2.2.1 = some (tyJ10 k) := by decide +kernel
def RL : String := "MarkTablesLaw"
abbrev cL_law : ByteArray := code
def yL_law : MethodName := ⟨RL, "law", "([I)Z"⟩
abbrev vwCl : List vw_C := [(RX0, TX0, 3), (RX1, TX1, 6), (RX2, TX2, 2), (RX3, TX3, 18), (RX4, TX4, 14), (RX5, TX5, 3), (RX6, TX6, 11), (RX7, TX7, 9), (RX8, TX8, 46)]
theorem inX0 : ∀ w ∈ u_ws RX0 TX0 3, w ∈ lw_tbl := by decide +kernel
theorem inX1 : ∀ w ∈ u_ws RX1 TX1 6, w ∈ lw_tbl := by decide +kernel
theorem inX2 : ∀ w ∈ u_ws RX2 TX2 2, w ∈ lw_tbl := by decide +kernel
theorem inX3 : ∀ w ∈ u_ws RX3 TX3 18, w ∈ lw_tbl := by decide +kernel
theorem inX4 : ∀ w ∈ u_ws RX4 TX4 14, w ∈ lw_tbl := by decide +kernel
theorem inX5 : ∀ w ∈ u_ws RX5 TX5 3, w ∈ lw_tbl := by decide +kernel
theorem inX6 : ∀ w ∈ u_ws RX6 TX6 11, w ∈ lw_tbl := by decide +kernel
theorem inX7 : ∀ w ∈ u_ws RX7 TX7 9, w ∈ lw_tbl := by decide +kernel
theorem inX8 : ∀ w ∈ u_ws RX8 TX8 46, w ∈ lw_tbl := by decide +kernel
