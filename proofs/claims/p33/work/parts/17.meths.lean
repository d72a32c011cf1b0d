theorem zdec_of {cc : ByteArray} {code : Nat → Option Instr} (h : (List.range 512).all (fun pc => zchk cc pc (code pc)) = true) : ∀ (pc : Nat) (i : Instr), code pc = some i → pc < 512 → ∃ n, decode cc pc = .ok (i, n) ∧ (n = zlen i ∨ zlen i = 0) := by
  intro pc i hi hp
  have h1 := List.all_eq_true.mp h pc (List.mem_range.mpr hp)
  unfold zchk at h1
  rw [hi] at h1
  dsimp only at h1
  split at h1
  next j n hd =>
    simp only [Bool.and_eq_true, Bool.or_eq_true, decide_eq_true_eq] at h1
    obtain ⟨rfl, h2⟩ := h1
    exact ⟨n, hd, h2.imp Nat.eq_of_beq_eq_true Nat.eq_of_beq_eq_true⟩
  next => cases h1
set_option maxRecDepth 100000 in
theorem zc_X0 : Cond.initialized yX0_init.cls ∈ lw_tbl ∧ plainName yX0_init.cls = true ∧ (yX0_init.cls ≠ "java/lang/invoke/MethodHandle" ∧ yX0_init.cls ≠ "java/lang/invoke/VarHandle") := ⟨List.mem_of_getElem? (i := 90) rfl, by decide +kernel, by decide +kernel⟩
set_option maxRecDepth 100000 in
theorem zmo_X0_init : zMOK (yX0_init, cX0_init, 1, none, 0, 0, 0, true, zk_X0_init) := ⟨List.mem_of_getElem? (i := 182) rfl, zc_X0.1, rfl, zc_X0.2.1, zc_X0.2.2, by decide +kernel, rfl, (fun _ => rfl), by decide, zdec_of zko_X0_init⟩
set_option maxRecDepth 100000 in
theorem zmo_X0_takeCoset : zMOK (yX0_takeCoset, cX0_takeCoset, 4, none, 0, 2, 0, false, zk_X0_takeCoset) := ⟨List.mem_of_getElem? (i := 826) rfl, zc_X0.1, rfl, zc_X0.2.1, zc_X0.2.2, by decide +kernel, rfl, (fun h => by cases h), by decide, zdec_of zko_X0_takeCoset⟩
set_option maxRecDepth 100000 in
theorem zmo_X0_takePlaces : zMOK (yX0_takePlaces, cX0_takePlaces, 6, none, 0, 3, 0, false, zk_X0_takePlaces) := ⟨List.mem_of_getElem? (i := 854) rfl, zc_X0.1, rfl, zc_X0.2.1, zc_X0.2.2, by decide +kernel, rfl, (fun h => by cases h), by decide, zdec_of zko_X0_takePlaces⟩
set_option maxRecDepth 100000 in
theorem zmo_X0_setsLeft : zMOK (yX0_setsLeft, cX0_setsLeft, 7, (some (.long)), 0, 3, 3, false, zk_X0_setsLeft) := ⟨List.mem_of_getElem? (i := 858) rfl, zc_X0.1, rfl, zc_X0.2.1, zc_X0.2.2, by decide +kernel, rfl, (fun h => by cases h), by decide, zdec_of zko_X0_setsLeft⟩
set_option maxRecDepth 100000 in
theorem zmo_X0_addRound : zMOK (yX0_addRound, cX0_addRound, 3, none, 0, 1, 0, false, zk_X0_addRound) := ⟨List.mem_of_getElem? (i := 874) rfl, zc_X0.1, rfl, zc_X0.2.1, zc_X0.2.2, by decide +kernel, rfl, (fun h => by cases h), by decide, zdec_of zko_X0_addRound⟩
set_option maxRecDepth 100000 in
theorem zmo_X0_roundOf : zMOK (yX0_roundOf, cX0_roundOf, 6, (some (.int)), 0, 3, 1, false, zk_X0_roundOf) := ⟨List.mem_of_getElem? (i := 862) rfl, zc_X0.1, rfl, zc_X0.2.1, zc_X0.2.2, by decide +kernel, rfl, (fun h => by cases h), by decide, zdec_of zko_X0_roundOf⟩
set_option maxRecDepth 100000 in
theorem zmo_X0_rowsLeft : zMOK (yX0_rowsLeft, cX0_rowsLeft, 8, (some (.long)), 0, 3, 3, false, zk_X0_rowsLeft) := ⟨List.mem_of_getElem? (i := 878) rfl, zc_X0.1, rfl, zc_X0.2.1, zc_X0.2.2, by decide +kernel, rfl, (fun h => by cases h), by decide, zdec_of zko_X0_rowsLeft⟩
set_option maxRecDepth 100000 in
theorem zmo_X0_takeHeaps : zMOK (yX0_takeHeaps, cX0_takeHeaps, 5, none, 0, 1, 0, false, zk_X0_takeHeaps) := ⟨List.mem_of_getElem? (i := 891) rfl, zc_X0.1, rfl, zc_X0.2.1, zc_X0.2.2, by decide +kernel, rfl, (fun h => by cases h), by decide, zdec_of zko_X0_takeHeaps⟩
set_option maxRecDepth 100000 in
theorem zmo_X0_takeSum : zMOK (yX0_takeSum, cX0_takeSum, 5, none, 0, 3, 0, false, zk_X0_takeSum) := ⟨List.mem_of_getElem? (i := 910) rfl, zc_X0.1, rfl, zc_X0.2.1, zc_X0.2.2, by decide +kernel, rfl, (fun h => by cases h), by decide, zdec_of zko_X0_takeSum⟩
set_option maxRecDepth 100000 in
theorem zmo_X0_takePairs : zMOK (yX0_takePairs, cX0_takePairs, 5, none, 0, 3, 0, false, zk_X0_takePairs) := ⟨List.mem_of_getElem? (i := 923) rfl, zc_X0.1, rfl, zc_X0.2.1, zc_X0.2.2, by decide +kernel, rfl, (fun h => by cases h), by decide, zdec_of zko_X0_takePairs⟩
set_option maxRecDepth 100000 in
theorem zmo_X0_takeColourings : zMOK (yX0_takeColourings, cX0_takeColourings, 6, none, 0, 3, 0, false, zk_X0_takeColourings) := ⟨List.mem_of_getElem? (i := 934) rfl, zc_X0.1, rfl, zc_X0.2.1, zc_X0.2.2, by decide +kernel, rfl, (fun h => by cases h), by decide, zdec_of zko_X0_takeColourings⟩
set_option maxRecDepth 100000 in
theorem zmo_X0_takeMultiple : zMOK (yX0_takeMultiple, cX0_takeMultiple, 5, none, 0, 3, 0, false, zk_X0_takeMultiple) := ⟨List.mem_of_getElem? (i := 953) rfl, zc_X0.1, rfl, zc_X0.2.1, zc_X0.2.2, by decide +kernel, rfl, (fun h => by cases h), by decide, zdec_of zko_X0_takeMultiple⟩
set_option maxRecDepth 100000 in
theorem zmo_X0_takeMarks : zMOK (yX0_takeMarks, cX0_takeMarks, 3, (some (.int)), 0, 2, 1, false, zk_X0_takeMarks) := ⟨List.mem_of_getElem? (i := 1022) rfl, zc_X0.1, rfl, zc_X0.2.1, zc_X0.2.2, by decide +kernel, rfl, (fun h => by cases h), by decide, zdec_of zko_X0_takeMarks⟩
set_option maxRecDepth 100000 in
theorem zmo_X0_lastBelowNone : zMOK (yX0_lastBelowNone, cX0_lastBelowNone, 3, (some (.int)), 0, 1, 1, false, zk_X0_lastBelowNone) := ⟨List.mem_of_getElem? (i := 1027) rfl, zc_X0.1, rfl, zc_X0.2.1, zc_X0.2.2, by decide +kernel, rfl, (fun h => by cases h), by decide, zdec_of zko_X0_lastBelowNone⟩
set_option maxRecDepth 100000 in
theorem zmo_X0_fillMarks : zMOK (yX0_fillMarks, cX0_fillMarks, 6, none, 0, 1, 0, false, zk_X0_fillMarks) := ⟨List.mem_of_getElem? (i := 897) rfl, zc_X0.1, rfl, zc_X0.2.1, zc_X0.2.2, by decide +kernel, rfl, (fun h => by cases h), by decide, zdec_of zko_X0_fillMarks⟩
set_option maxRecDepth 100000 in
theorem zmo_X0_fillParts : zMOK (yX0_fillParts, cX0_fillParts, 6, (some (.int)), 0, 1, 1, false, zk_X0_fillParts) := ⟨List.mem_of_getElem? (i := 883) rfl, zc_X0.1, rfl, zc_X0.2.1, zc_X0.2.2, by decide +kernel, rfl, (fun h => by cases h), by decide, zdec_of zko_X0_fillParts⟩
set_option maxRecDepth 100000 in
theorem zc_X1 : Cond.initialized yX1_init.cls ∈ lw_tbl ∧ plainName yX1_init.cls = true ∧ (yX1_init.cls ≠ "java/lang/invoke/MethodHandle" ∧ yX1_init.cls ≠ "java/lang/invoke/VarHandle") := ⟨List.mem_of_getElem? (i := 95) rfl, by decide +kernel, by decide +kernel⟩
set_option maxRecDepth 100000 in
theorem zmo_X1_init : zMOK (yX1_init, cX1_init, 2, none, 1, 1, 0, true, zk_X1_init) := ⟨List.mem_of_getElem? (i := 365) rfl, zc_X1.1, rfl, zc_X1.2.1, zc_X1.2.2, by decide +kernel, rfl, (fun _ => rfl), by decide, zdec_of zko_X1_init⟩
set_option maxRecDepth 100000 in
theorem zmo_X1_startWith : zMOK (yX1_startWith, cX1_startWith, 3, none, 1, 1, 0, false, zk_X1_startWith) := ⟨List.mem_of_getElem? (i := 665) rfl, zc_X1.1, rfl, zc_X1.2.1, zc_X1.2.2, by decide +kernel, rfl, (fun h => by cases h), by decide, zdec_of zko_X1_startWith⟩
set_option maxRecDepth 100000 in
theorem zmo_X1_copyFrom : zMOK (yX1_copyFrom, cX1_copyFrom, 4, none, 1, 1, 0, false, zk_X1_copyFrom) := ⟨List.mem_of_getElem? (i := 1058) rfl, zc_X1.1, rfl, zc_X1.2.1, zc_X1.2.2, by decide +kernel, rfl, (fun h => by cases h), by decide, zdec_of zko_X1_copyFrom⟩
set_option maxRecDepth 100000 in
theorem zmo_X1_keep : zMOK (yX1_keep, cX1_keep, 3, none, 1, 2, 0, false, zk_X1_keep) := ⟨List.mem_of_getElem? (i := 835) rfl, zc_X1.1, rfl, zc_X1.2.1, zc_X1.2.2, by decide +kernel, rfl, (fun h => by cases h), by decide, zdec_of zko_X1_keep⟩
set_option maxRecDepth 100000 in
theorem zmo_X1_actsThere : zMOK (yX1_actsThere, cX1_actsThere, 3, (some (.int)), 1, 0, 1, false, zk_X1_actsThere) := ⟨List.mem_of_getElem? (i := 673) rfl, zc_X1.1, rfl, zc_X1.2.1, zc_X1.2.2, by decide +kernel, rfl, (fun h => by cases h), by decide, zdec_of zko_X1_actsThere⟩
set_option maxRecDepth 100000 in
theorem zmo_X1_markOf : zMOK (yX1_markOf, cX1_markOf, 3, (some (.long)), 1, 2, 3, false, zk_X1_markOf) := ⟨List.mem_of_getElem? (i := 846) rfl, zc_X1.1, rfl, zc_X1.2.1, zc_X1.2.2, by decide +kernel, rfl, (fun h => by cases h), by decide, zdec_of zko_X1_markOf⟩
set_option maxRecDepth 100000 in
theorem zmo_X1_partOf : zMOK (yX1_partOf, cX1_partOf, 3, (some (.long)), 1, 2, 3, false, zk_X1_partOf) := ⟨List.mem_of_getElem? (i := 915) rfl, zc_X1.1, rfl, zc_X1.2.1, zc_X1.2.2, by decide +kernel, rfl, (fun h => by cases h), by decide, zdec_of zko_X1_partOf⟩
set_option maxRecDepth 100000 in
theorem zmo_X1_placesOf : zMOK (yX1_placesOf, cX1_placesOf, 2, (some (.long)), 1, 1, 3, false, zk_X1_placesOf) := ⟨List.mem_of_getElem? (i := 842) rfl, zc_X1.1, rfl, zc_X1.2.1, zc_X1.2.2, by decide +kernel, rfl, (fun h => by cases h), by decide, zdec_of zko_X1_placesOf⟩
set_option maxRecDepth 100000 in
theorem zmo_X1_allParts : zMOK (yX1_allParts, cX1_allParts, 5, (some (.long)), 1, 1, 3, false, zk_X1_allParts) := ⟨List.mem_of_getElem? (i := 972) rfl, zc_X1.1, rfl, zc_X1.2.1, zc_X1.2.2, by decide +kernel, rfl, (fun h => by cases h), by decide, zdec_of zko_X1_allParts⟩
set_option maxRecDepth 100000 in
theorem zmo_X1_idleHeap : zMOK (yX1_idleHeap, cX1_idleHeap, 3, (some (.int)), 1, 1, 1, false, zk_X1_idleHeap) := ⟨List.mem_of_getElem? (i := 977) rfl, zc_X1.1, rfl, zc_X1.2.1, zc_X1.2.2, by decide +kernel, rfl, (fun h => by cases h), by decide, zdec_of zko_X1_idleHeap⟩
set_option maxRecDepth 100000 in
theorem zmo_X1_leftByTurn : zMOK (yX1_leftByTurn, cX1_leftByTurn, 3, (some (.long)), 1, 2, 3, false, zk_X1_leftByTurn) := ⟨List.mem_of_getElem? (i := 943) rfl, zc_X1.1, rfl, zc_X1.2.1, zc_X1.2.2, by decide +kernel, rfl, (fun h => by cases h), by decide, zdec_of zko_X1_leftByTurn⟩
set_option maxRecDepth 100000 in
theorem zmo_X1_roundsOf : zMOK (yX1_roundsOf, cX1_roundsOf, 6, (some (.long)), 1, 2, 3, false, zk_X1_roundsOf) := ⟨List.mem_of_getElem? (i := 938) rfl, zc_X1.1, rfl, zc_X1.2.1, zc_X1.2.2, by decide +kernel, rfl, (fun h => by cases h), by decide, zdec_of zko_X1_roundsOf⟩
set_option maxRecDepth 100000 in
theorem zmo_X1_firstDifference : zMOK (yX1_firstDifference, cX1_firstDifference, 4, (some (.int)), 1, 2, 1, false, zk_X1_firstDifference) := ⟨List.mem_of_getElem? (i := 988) rfl, zc_X1.1, rfl, zc_X1.2.1, zc_X1.2.2, by decide +kernel, rfl, (fun h => by cases h), by decide, zdec_of zko_X1_firstDifference⟩
set_option maxRecDepth 100000 in
theorem zmo_X1_mapsAlong : zMOK (yX1_mapsAlong, cX1_mapsAlong, 6, (some (.long)), 1, 2, 3, false, zk_X1_mapsAlong) := ⟨List.mem_of_getElem? (i := 996) rfl, zc_X1.1, rfl, zc_X1.2.1, zc_X1.2.2, by decide +kernel, rfl, (fun h => by cases h), by decide, zdec_of zko_X1_mapsAlong⟩
set_option maxRecDepth 100000 in
theorem zmo_X1_mapsOnToAll : zMOK (yX1_mapsOnToAll, cX1_mapsOnToAll, 8, (some (.long)), 1, 2, 3, false, zk_X1_mapsOnToAll) := ⟨List.mem_of_getElem? (i := 1002) rfl, zc_X1.1, rfl, zc_X1.2.1, zc_X1.2.2, by decide +kernel, rfl, (fun h => by cases h), by decide, zdec_of zko_X1_mapsOnToAll⟩
set_option maxRecDepth 100000 in
theorem zc_X2 : Cond.initialized yX2_init.cls ∈ lw_tbl ∧ plainName yX2_init.cls = true ∧ (yX2_init.cls ≠ "java/lang/invoke/MethodHandle" ∧ yX2_init.cls ≠ "java/lang/invoke/VarHandle") := ⟨List.mem_of_getElem? (i := 92) rfl, by decide +kernel, by decide +kernel⟩
set_option maxRecDepth 100000 in
theorem zmo_X2_init : zMOK (yX2_init, cX2_init, 1, none, 2, 0, 0, true, zk_X2_init) := ⟨List.mem_of_getElem? (i := 218) rfl, zc_X2.1, rfl, zc_X2.2.1, zc_X2.2.2, by decide +kernel, rfl, (fun _ => rfl), by decide, zdec_of zko_X2_init⟩
set_option maxRecDepth 100000 in
theorem zmo_X2_build : zMOK (yX2_build, cX2_build, 4, (some (.boolean)), 2, 3, 2, false, zk_X2_build) := ⟨List.mem_of_getElem? (i := 474) rfl, zc_X2.1, rfl, zc_X2.2.1, zc_X2.2.2, by decide +kernel, rfl, (fun h => by cases h), by decide, zdec_of zko_X2_build⟩
set_option maxRecDepth 100000 in
theorem zmo_X2_normaliser : zMOK (yX2_normaliser, cX2_normaliser, 7, (some (.int)), 2, 1, 1, false, zk_X2_normaliser) := ⟨List.mem_of_getElem? (i := 711) rfl, zc_X2.1, rfl, zc_X2.2.1, zc_X2.2.2, by decide +kernel, rfl, (fun h => by cases h), by decide, zdec_of zko_X2_normaliser⟩
set_option maxRecDepth 100000 in
theorem zmo_X2_leadsToItself : zMOK (yX2_leadsToItself, cX2_leadsToItself, 4, (some (.boolean)), 2, 2, 2, false, zk_X2_leadsToItself) := ⟨List.mem_of_getElem? (i := 716) rfl, zc_X2.1, rfl, zc_X2.2.1, zc_X2.2.2, by decide +kernel, rfl, (fun h => by cases h), by decide, zdec_of zko_X2_leadsToItself⟩
set_option maxRecDepth 100000 in
theorem zmo_X2_derived : zMOK (yX2_derived, cX2_derived, 2, (some (.int)), 2, 1, 1, false, zk_X2_derived) := ⟨List.mem_of_getElem? (i := 734) rfl, zc_X2.1, rfl, zc_X2.2.1, zc_X2.2.2, by decide +kernel, rfl, (fun h => by cases h), by decide, zdec_of zko_X2_derived⟩
set_option maxRecDepth 100000 in
theorem zmo_X2_findDerived : zMOK (yX2_findDerived, cX2_findDerived, 9, (some (.int)), 2, 1, 1, false, zk_X2_findDerived) := ⟨List.mem_of_getElem? (i := 738) rfl, zc_X2.1, rfl, zc_X2.2.1, zc_X2.2.2, by decide +kernel, rfl, (fun h => by cases h), by decide, zdec_of zko_X2_findDerived⟩
set_option maxRecDepth 100000 in
theorem zmo_X2_twistOf : zMOK (yX2_twistOf, cX2_twistOf, 3, (some (.int)), 2, 2, 1, false, zk_X2_twistOf) := ⟨List.mem_of_getElem? (i := 742) rfl, zc_X2.1, rfl, zc_X2.2.1, zc_X2.2.2, by decide +kernel, rfl, (fun h => by cases h), by decide, zdec_of zko_X2_twistOf⟩
set_option maxRecDepth 100000 in
theorem zc_X3 : Cond.initialized yX3_init.cls ∈ lw_tbl ∧ plainName yX3_init.cls = true ∧ (yX3_init.cls ≠ "java/lang/invoke/MethodHandle" ∧ yX3_init.cls ≠ "java/lang/invoke/VarHandle") := ⟨List.mem_of_getElem? (i := 89) rfl, by decide +kernel, by decide +kernel⟩
set_option maxRecDepth 100000 in
theorem zmo_X3_init : zMOK (yX3_init, cX3_init, 1, none, 3, 0, 0, true, zk_X3_init) := ⟨List.mem_of_getElem? (i := 114) rfl, zc_X3.1, rfl, zc_X3.2.1, zc_X3.2.2, by decide +kernel, rfl, (fun _ => rfl), by decide, zdec_of zko_X3_init⟩
set_option maxRecDepth 100000 in
theorem zmo_X3_find : zMOK (yX3_find, cX3_find, 3, (some (.boolean)), 3, 1, 2, false, zk_X3_find) := ⟨List.mem_of_getElem? (i := 533) rfl, zc_X3.1, rfl, zc_X3.2.1, zc_X3.2.2, by decide +kernel, rfl, (fun h => by cases h), by decide, zdec_of zko_X3_find⟩
set_option maxRecDepth 100000 in
theorem zmo_X3_isAhead : zMOK (yX3_isAhead, cX3_isAhead, 5, (some (.boolean)), 3, 2, 2, false, zk_X3_isAhead) := ⟨List.mem_of_getElem? (i := 611) rfl, zc_X3.1, rfl, zc_X3.2.1, zc_X3.2.2, by decide +kernel, rfl, (fun h => by cases h), by decide, zdec_of zko_X3_isAhead⟩
set_option maxRecDepth 100000 in
theorem zmo_X3_gatherSeeds : zMOK (yX3_gatherSeeds, cX3_gatherSeeds, 3, none, 3, 1, 0, false, zk_X3_gatherSeeds) := ⟨List.mem_of_getElem? (i := 537) rfl, zc_X3.1, rfl, zc_X3.2.1, zc_X3.2.2, by decide +kernel, rfl, (fun h => by cases h), by decide, zdec_of zko_X3_gatherSeeds⟩
set_option maxRecDepth 100000 in
theorem zmo_X3_isFirstOfItsHeap : zMOK (yX3_isFirstOfItsHeap, cX3_isFirstOfItsHeap, 4, (some (.boolean)), 3, 2, 2, false, zk_X3_isFirstOfItsHeap) := ⟨List.mem_of_getElem? (i := 543) rfl, zc_X3.1, rfl, zc_X3.2.1, zc_X3.2.2, by decide +kernel, rfl, (fun h => by cases h), by decide, zdec_of zko_X3_isFirstOfItsHeap⟩
set_option maxRecDepth 100000 in
theorem zmo_X3_fillLed : zMOK (yX3_fillLed, cX3_fillLed, 5, none, 3, 1, 0, false, zk_X3_fillLed) := ⟨List.mem_of_getElem? (i := 548) rfl, zc_X3.1, rfl, zc_X3.2.1, zc_X3.2.2, by decide +kernel, rfl, (fun h => by cases h), by decide, zdec_of zko_X3_fillLed⟩
set_option maxRecDepth 100000 in
theorem zmo_X3_startWithTurnNought : zMOK (yX3_startWithTurnNought, cX3_startWithTurnNought, 1, none, 3, 0, 0, false, zk_X3_startWithTurnNought) := ⟨List.mem_of_getElem? (i := 556) rfl, zc_X3.1, rfl, zc_X3.2.1, zc_X3.2.2, by decide +kernel, rfl, (fun h => by cases h), by decide, zdec_of zko_X3_startWithTurnNought⟩
set_option maxRecDepth 100000 in
theorem zmo_X3_growFrom : zMOK (yX3_growFrom, cX3_growFrom, 5, (some (.boolean)), 3, 2, 2, false, zk_X3_growFrom) := ⟨List.mem_of_getElem? (i := 560) rfl, zc_X3.1, rfl, zc_X3.2.1, zc_X3.2.2, by decide +kernel, rfl, (fun h => by cases h), by decide, zdec_of zko_X3_growFrom⟩
set_option maxRecDepth 100000 in
theorem zmo_X3_gatherMembers : zMOK (yX3_gatherMembers, cX3_gatherMembers, 4, none, 3, 2, 0, false, zk_X3_gatherMembers) := ⟨List.mem_of_getElem? (i := 564) rfl, zc_X3.1, rfl, zc_X3.2.1, zc_X3.2.2, by decide +kernel, rfl, (fun h => by cases h), by decide, zdec_of zko_X3_gatherMembers⟩
set_option maxRecDepth 100000 in
theorem zmo_X3_close : zMOK (yX3_close, cX3_close, 9, none, 3, 3, 0, false, zk_X3_close) := ⟨List.mem_of_getElem? (i := 571) rfl, zc_X3.1, rfl, zc_X3.2.1, zc_X3.2.2, by decide +kernel, rfl, (fun h => by cases h), by decide, zdec_of zko_X3_close⟩
set_option maxRecDepth 100000 in
theorem zmo_X3_addMembersTimes : zMOK (yX3_addMembersTimes, cX3_addMembersTimes, 4, none, 3, 2, 0, false, zk_X3_addMembersTimes) := ⟨List.mem_of_getElem? (i := 575) rfl, zc_X3.1, rfl, zc_X3.2.1, zc_X3.2.2, by decide +kernel, rfl, (fun h => by cases h), by decide, zdec_of zko_X3_addMembersTimes⟩
set_option maxRecDepth 100000 in
theorem zmo_X3_addToNew : zMOK (yX3_addToNew, cX3_addToNew, 2, none, 3, 1, 0, false, zk_X3_addToNew) := ⟨List.mem_of_getElem? (i := 579) rfl, zc_X3.1, rfl, zc_X3.2.1, zc_X3.2.2, by decide +kernel, rfl, (fun h => by cases h), by decide, zdec_of zko_X3_addToNew⟩
set_option maxRecDepth 100000 in
theorem zmo_X3_indexFrom : zMOK (yX3_indexFrom, cX3_indexFrom, 7, (some (.int)), 3, 3, 1, false, zk_X3_indexFrom) := ⟨List.mem_of_getElem? (i := 583) rfl, zc_X3.1, rfl, zc_X3.2.1, zc_X3.2.2, by decide +kernel, rfl, (fun h => by cases h), by decide, zdec_of zko_X3_indexFrom⟩
set_option maxRecDepth 100000 in
theorem zmo_X3_addKind : zMOK (yX3_addKind, cX3_addKind, 7, (some (.boolean)), 3, 3, 2, false, zk_X3_addKind) := ⟨List.mem_of_getElem? (i := 587) rfl, zc_X3.1, rfl, zc_X3.2.1, zc_X3.2.2, by decide +kernel, rfl, (fun h => by cases h), by decide, zdec_of zko_X3_addKind⟩
set_option maxRecDepth 100000 in
theorem zmo_X3_addNew : zMOK (yX3_addNew, cX3_addNew, 1, (some (.boolean)), 3, 0, 2, false, zk_X3_addNew) := ⟨List.mem_of_getElem? (i := 591) rfl, zc_X3.1, rfl, zc_X3.2.1, zc_X3.2.2, by decide +kernel, rfl, (fun h => by cases h), by decide, zdec_of zko_X3_addNew⟩
set_option maxRecDepth 100000 in
theorem zmo_X3_keepMakers : zMOK (yX3_keepMakers, cX3_keepMakers, 4, none, 3, 2, 0, false, zk_X3_keepMakers) := ⟨List.mem_of_getElem? (i := 595) rfl, zc_X3.1, rfl, zc_X3.2.1, zc_X3.2.2, by decide +kernel, rfl, (fun h => by cases h), by decide, zdec_of zko_X3_keepMakers⟩
set_option maxRecDepth 100000 in
theorem zmo_X3_leadToNew : zMOK (yX3_leadToNew, cX3_leadToNew, 5, none, 3, 3, 0, false, zk_X3_leadToNew) := ⟨List.mem_of_getElem? (i := 599) rfl, zc_X3.1, rfl, zc_X3.2.1, zc_X3.2.2, by decide +kernel, rfl, (fun h => by cases h), by decide, zdec_of zko_X3_leadToNew⟩
set_option maxRecDepth 100000 in
theorem zc_X4 : Cond.initialized yX4_init.cls ∈ lw_tbl ∧ plainName yX4_init.cls = true ∧ (yX4_init.cls ≠ "java/lang/invoke/MethodHandle" ∧ yX4_init.cls ≠ "java/lang/invoke/VarHandle") := ⟨List.mem_of_getElem? (i := 94) rfl, by decide +kernel, by decide +kernel⟩
set_option maxRecDepth 100000 in
theorem zmo_X4_init : zMOK (yX4_init, cX4_init, 1, none, 4, 0, 0, true, zk_X4_init) := ⟨List.mem_of_getElem? (i := 283) rfl, zc_X4.1, rfl, zc_X4.2.1, zc_X4.2.2, by decide +kernel, rfl, (fun _ => rfl), by decide, zdec_of zko_X4_init⟩
set_option maxRecDepth 100000 in
theorem zmo_X4_isHeap : zMOK (yX4_isHeap, cX4_isHeap, 2, (some (.boolean)), 4, 1, 2, false, zk_X4_isHeap) := ⟨List.mem_of_getElem? (i := 702) rfl, zc_X4.1, rfl, zc_X4.2.1, zc_X4.2.2, by decide +kernel, rfl, (fun h => by cases h), by decide, zdec_of zko_X4_isHeap⟩
set_option maxRecDepth 100000 in
theorem zmo_X4_isClass : zMOK (yX4_isClass, cX4_isClass, 2, (some (.boolean)), 4, 1, 2, false, zk_X4_isClass) := ⟨List.mem_of_getElem? (i := 777) rfl, zc_X4.1, rfl, zc_X4.2.1, zc_X4.2.2, by decide +kernel, rfl, (fun h => by cases h), by decide, zdec_of zko_X4_isClass⟩
set_option maxRecDepth 100000 in
theorem zmo_X4_isNormal : zMOK (yX4_isNormal, cX4_isNormal, 2, (some (.boolean)), 4, 1, 2, false, zk_X4_isNormal) := ⟨List.mem_of_getElem? (i := 707) rfl, zc_X4.1, rfl, zc_X4.2.1, zc_X4.2.2, by decide +kernel, rfl, (fun h => by cases h), by decide, zdec_of zko_X4_isNormal⟩
set_option maxRecDepth 100000 in
theorem zmo_X4_holdsTurn : zMOK (yX4_holdsTurn, cX4_holdsTurn, 3, (some (.boolean)), 4, 2, 2, false, zk_X4_holdsTurn) := ⟨List.mem_of_getElem? (i := 720) rfl, zc_X4.1, rfl, zc_X4.2.1, zc_X4.2.2, by decide +kernel, rfl, (fun h => by cases h), by decide, zdec_of zko_X4_holdsTurn⟩
set_option maxRecDepth 100000 in
theorem zmo_X4_sizeInClass : zMOK (yX4_sizeInClass, cX4_sizeInClass, 2, (some (.int)), 4, 1, 1, false, zk_X4_sizeInClass) := ⟨List.mem_of_getElem? (i := 653) rfl, zc_X4.1, rfl, zc_X4.2.1, zc_X4.2.2, by decide +kernel, rfl, (fun h => by cases h), by decide, zdec_of zko_X4_sizeInClass⟩
set_option maxRecDepth 100000 in
theorem zmo_X4_liesIn : zMOK (yX4_liesIn, cX4_liesIn, 3, (some (.boolean)), 4, 2, 2, false, zk_X4_liesIn) := ⟨List.mem_of_getElem? (i := 644) rfl, zc_X4.1, rfl, zc_X4.2.1, zc_X4.2.2, by decide +kernel, rfl, (fun h => by cases h), by decide, zdec_of zko_X4_liesIn⟩
set_option maxRecDepth 100000 in
theorem zmo_X4_indexOf : zMOK (yX4_indexOf, cX4_indexOf, 6, (some (.int)), 4, 2, 1, false, zk_X4_indexOf) := ⟨List.mem_of_getElem? (i := 634) rfl, zc_X4.1, rfl, zc_X4.2.1, zc_X4.2.2, by decide +kernel, rfl, (fun h => by cases h), by decide, zdec_of zko_X4_indexOf⟩
set_option maxRecDepth 100000 in
theorem zmo_X4_leastOver : zMOK (yX4_leastOver, cX4_leastOver, 7, (some (.int)), 4, 2, 1, false, zk_X4_leastOver) := ⟨List.mem_of_getElem? (i := 747) rfl, zc_X4.1, rfl, zc_X4.2.1, zc_X4.2.2, by decide +kernel, rfl, (fun h => by cases h), by decide, zdec_of zko_X4_leastOver⟩
set_option maxRecDepth 100000 in
theorem zmo_X4_normalWithin : zMOK (yX4_normalWithin, cX4_normalWithin, 3, (some (.int)), 4, 1, 1, false, zk_X4_normalWithin) := ⟨List.mem_of_getElem? (i := 729) rfl, zc_X4.1, rfl, zc_X4.2.1, zc_X4.2.2, by decide +kernel, rfl, (fun h => by cases h), by decide, zdec_of zko_X4_normalWithin⟩
set_option maxRecDepth 100000 in
theorem zmo_X4_countWithin : zMOK (yX4_countWithin, cX4_countWithin, 4, (some (.int)), 4, 1, 1, false, zk_X4_countWithin) := ⟨List.mem_of_getElem? (i := 751) rfl, zc_X4.1, rfl, zc_X4.2.1, zc_X4.2.2, by decide +kernel, rfl, (fun h => by cases h), by decide, zdec_of zko_X4_countWithin⟩
set_option maxRecDepth 100000 in
theorem zmo_X4_countOver : zMOK (yX4_countOver, cX4_countOver, 4, (some (.int)), 4, 1, 1, false, zk_X4_countOver) := ⟨List.mem_of_getElem? (i := 755) rfl, zc_X4.1, rfl, zc_X4.2.1, zc_X4.2.2, by decide +kernel, rfl, (fun h => by cases h), by decide, zdec_of zko_X4_countOver⟩
set_option maxRecDepth 100000 in
theorem zmo_X4_countNormal : zMOK (yX4_countNormal, cX4_countNormal, 3, (some (.int)), 4, 0, 1, false, zk_X4_countNormal) := ⟨List.mem_of_getElem? (i := 815) rfl, zc_X4.1, rfl, zc_X4.2.1, zc_X4.2.2, by decide +kernel, rfl, (fun h => by cases h), by decide, zdec_of zko_X4_countNormal⟩
set_option maxRecDepth 100000 in
theorem zmo_X4_firstClassOfSize : zMOK (yX4_firstClassOfSize, cX4_firstClassOfSize, 3, (some (.int)), 4, 1, 1, false, zk_X4_firstClassOfSize) := ⟨List.mem_of_getElem? (i := 803) rfl, zc_X4.1, rfl, zc_X4.2.1, zc_X4.2.2, by decide +kernel, rfl, (fun h => by cases h), by decide, zdec_of zko_X4_firstClassOfSize⟩
set_option maxRecDepth 100000 in
theorem zmo_X4_above : zMOK (yX4_above, cX4_above, 3, (some (.int)), 4, 2, 1, false, zk_X4_above) := ⟨List.mem_of_getElem? (i := 661) rfl, zc_X4.1, rfl, zc_X4.2.1, zc_X4.2.2, by decide +kernel, rfl, (fun h => by cases h), by decide, zdec_of zko_X4_above⟩
set_option maxRecDepth 100000 in
theorem zmo_X4_below : zMOK (yX4_below, cX4_below, 3, (some (.int)), 4, 2, 1, false, zk_X4_below) := ⟨List.mem_of_getElem? (i := 786) rfl, zc_X4.1, rfl, zc_X4.2.1, zc_X4.2.2, by decide +kernel, rfl, (fun h => by cases h), by decide, zdec_of zko_X4_below⟩
set_option maxRecDepth 100000 in
theorem zmo_X4_markOn : zMOK (yX4_markOn, cX4_markOn, 3, (some (.int)), 4, 2, 1, false, zk_X4_markOn) := ⟨List.mem_of_getElem? (i := 795) rfl, zc_X4.1, rfl, zc_X4.2.1, zc_X4.2.2, by decide +kernel, rfl, (fun h => by cases h), by decide, zdec_of zko_X4_markOn⟩
set_option maxRecDepth 100000 in
theorem zmo_X4_drawsThatMakeAll : zMOK (yX4_drawsThatMakeAll, cX4_drawsThatMakeAll, 5, (some (.long)), 4, 1, 3, false, zk_X4_drawsThatMakeAll) := ⟨List.mem_of_getElem? (i := 1039) rfl, zc_X4.1, rfl, zc_X4.2.1, zc_X4.2.2, by decide +kernel, rfl, (fun h => by cases h), by decide, zdec_of zko_X4_drawsThatMakeAll⟩
set_option maxRecDepth 100000 in
theorem zmo_X4_fill : zMOK (yX4_fill, cX4_fill, 4, none, 4, 2, 0, false, zk_X4_fill) := ⟨List.mem_of_getElem? (i := 603) rfl, zc_X4.1, rfl, zc_X4.2.1, zc_X4.2.2, by decide +kernel, rfl, (fun h => by cases h), by decide, zdec_of zko_X4_fill⟩
set_option maxRecDepth 100000 in
theorem zmo_X4_sortFound : zMOK (yX4_sortFound, cX4_sortFound, 4, none, 4, 1, 0, false, zk_X4_sortFound) := ⟨List.mem_of_getElem? (i := 607) rfl, zc_X4.1, rfl, zc_X4.2.1, zc_X4.2.2, by decide +kernel, rfl, (fun h => by cases h), by decide, zdec_of zko_X4_sortFound⟩
set_option maxRecDepth 100000 in
theorem zmo_X4_numberClasses : zMOK (yX4_numberClasses, cX4_numberClasses, 4, none, 4, 1, 0, false, zk_X4_numberClasses) := ⟨List.mem_of_getElem? (i := 615) rfl, zc_X4.1, rfl, zc_X4.2.1, zc_X4.2.2, by decide +kernel, rfl, (fun h => by cases h), by decide, zdec_of zko_X4_numberClasses⟩
set_option maxRecDepth 100000 in
theorem zmo_X4_classOfKind : zMOK (yX4_classOfKind, cX4_classOfKind, 4, (some (.int)), 4, 2, 1, false, zk_X4_classOfKind) := ⟨List.mem_of_getElem? (i := 619) rfl, zc_X4.1, rfl, zc_X4.2.1, zc_X4.2.2, by decide +kernel, rfl, (fun h => by cases h), by decide, zdec_of zko_X4_classOfKind⟩
set_option maxRecDepth 100000 in
theorem zmo_X4_fillMadeBy : zMOK (yX4_fillMadeBy, cX4_fillMadeBy, 9, none, 4, 1, 0, false, zk_X4_fillMadeBy) := ⟨List.mem_of_getElem? (i := 623) rfl, zc_X4.1, rfl, zc_X4.2.1, zc_X4.2.2, by decide +kernel, rfl, (fun h => by cases h), by decide, zdec_of zko_X4_fillMadeBy⟩
set_option maxRecDepth 100000 in
theorem zmo_X4_fillOver : zMOK (yX4_fillOver, cX4_fillOver, 3, none, 4, 0, 0, false, zk_X4_fillOver) := ⟨List.mem_of_getElem? (i := 639) rfl, zc_X4.1, rfl, zc_X4.2.1, zc_X4.2.2, by decide +kernel, rfl, (fun h => by cases h), by decide, zdec_of zko_X4_fillOver⟩
set_option maxRecDepth 100000 in
theorem zmo_X4_fillSpare : zMOK (yX4_fillSpare, cX4_fillSpare, 4, none, 4, 1, 0, false, zk_X4_fillSpare) := ⟨List.mem_of_getElem? (i := 649) rfl, zc_X4.1, rfl, zc_X4.2.1, zc_X4.2.2, by decide +kernel, rfl, (fun h => by cases h), by decide, zdec_of zko_X4_fillSpare⟩
set_option maxRecDepth 100000 in
theorem zmo_X4_fillSigns : zMOK (yX4_fillSigns, cX4_fillSigns, 4, none, 4, 0, 0, false, zk_X4_fillSigns) := ⟨List.mem_of_getElem? (i := 657) rfl, zc_X4.1, rfl, zc_X4.2.1, zc_X4.2.2, by decide +kernel, rfl, (fun h => by cases h), by decide, zdec_of zko_X4_fillSigns⟩
set_option maxRecDepth 100000 in
theorem zc_X5 : Cond.initialized yX5_init.cls ∈ lw_tbl ∧ plainName yX5_init.cls = true ∧ (yX5_init.cls ≠ "java/lang/invoke/MethodHandle" ∧ yX5_init.cls ≠ "java/lang/invoke/VarHandle") := ⟨List.mem_of_getElem? (i := 91) rfl, by decide +kernel, by decide +kernel⟩
set_option maxRecDepth 100000 in
theorem zmo_X5_init : zMOK (yX5_init, cX5_init, 1, none, 5, 0, 0, true, zk_X5_init) := ⟨List.mem_of_getElem? (i := 203) rfl, zc_X5.1, rfl, zc_X5.2.1, zc_X5.2.2, by decide +kernel, rfl, (fun _ => rfl), by decide, zdec_of zko_X5_init⟩
set_option maxRecDepth 100000 in
theorem zmo_X5_lay : zMOK (yX5_lay, cX5_lay, 4, none, 5, 2, 0, false, zk_X5_lay) := ⟨List.mem_of_getElem? (i := 434) rfl, zc_X5.1, rfl, zc_X5.2.1, zc_X5.2.2, by decide +kernel, rfl, (fun h => by cases h), by decide, zdec_of zko_X5_lay⟩
set_option maxRecDepth 100000 in
theorem zmo_X5_takeAway : zMOK (yX5_takeAway, cX5_takeAway, 1, none, 5, 0, 0, false, zk_X5_takeAway) := ⟨List.mem_of_getElem? (i := 430) rfl, zc_X5.1, rfl, zc_X5.2.1, zc_X5.2.2, by decide +kernel, rfl, (fun h => by cases h), by decide, zdec_of zko_X5_takeAway⟩
set_option maxRecDepth 100000 in
theorem zmo_X5_isMissing : zMOK (yX5_isMissing, cX5_isMissing, 1, (some (.boolean)), 5, 0, 2, false, zk_X5_isMissing) := ⟨List.mem_of_getElem? (i := 446) rfl, zc_X5.1, rfl, zc_X5.2.1, zc_X5.2.2, by decide +kernel, rfl, (fun h => by cases h), by decide, zdec_of zko_X5_isMissing⟩
set_option maxRecDepth 100000 in
theorem zmo_X5_put : zMOK (yX5_put, cX5_put, 3, (some (.boolean)), 5, 2, 2, false, zk_X5_put) := ⟨List.mem_of_getElem? (i := 450) rfl, zc_X5.1, rfl, zc_X5.2.1, zc_X5.2.2, by decide +kernel, rfl, (fun h => by cases h), by decide, zdec_of zko_X5_put⟩
set_option maxRecDepth 100000 in
theorem zmo_X5_codeFor : zMOK (yX5_codeFor, cX5_codeFor, 6, (some (.int)), 5, 1, 1, false, zk_X5_codeFor) := ⟨List.mem_of_getElem? (i := 462) rfl, zc_X5.1, rfl, zc_X5.2.1, zc_X5.2.2, by decide +kernel, rfl, (fun h => by cases h), by decide, zdec_of zko_X5_codeFor⟩
set_option maxRecDepth 100000 in
theorem zc_X6 : Cond.initialized yX6_init.cls ∈ lw_tbl ∧ plainName yX6_init.cls = true ∧ (yX6_init.cls ≠ "java/lang/invoke/MethodHandle" ∧ yX6_init.cls ≠ "java/lang/invoke/VarHandle") := ⟨List.mem_of_getElem? (i := 93) rfl, by decide +kernel, by decide +kernel⟩
set_option maxRecDepth 100000 in
theorem zmo_X6_init : zMOK (yX6_init, cX6_init, 1, none, 6, 0, 0, true, zk_X6_init) := ⟨List.mem_of_getElem? (i := 224) rfl, zc_X6.1, rfl, zc_X6.2.1, zc_X6.2.2, by decide +kernel, rfl, (fun _ => rfl), by decide, zdec_of zko_X6_init⟩
set_option maxRecDepth 100000 in
theorem zmo_X6_isTurn : zMOK (yX6_isTurn, cX6_isTurn, 2, (some (.boolean)), 6, 1, 2, false, zk_X6_isTurn) := ⟨List.mem_of_getElem? (i := 681) rfl, zc_X6.1, rfl, zc_X6.2.1, zc_X6.2.2, by decide +kernel, rfl, (fun h => by cases h), by decide, zdec_of zko_X6_isTurn⟩
set_option maxRecDepth 100000 in
theorem zmo_X6_times : zMOK (yX6_times, cX6_times, 3, (some (.int)), 6, 2, 1, false, zk_X6_times) := ⟨List.mem_of_getElem? (i := 529) rfl, zc_X6.1, rfl, zc_X6.2.1, zc_X6.2.2, by decide +kernel, rfl, (fun h => by cases h), by decide, zdec_of zko_X6_times⟩
set_option maxRecDepth 100000 in
theorem zmo_X6_ledBy : zMOK (yX6_ledBy, cX6_ledBy, 3, (some (.int)), 6, 2, 1, false, zk_X6_ledBy) := ⟨List.mem_of_getElem? (i := 552) rfl, zc_X6.1, rfl, zc_X6.2.1, zc_X6.2.2, by decide +kernel, rfl, (fun h => by cases h), by decide, zdec_of zko_X6_ledBy⟩
set_option maxRecDepth 100000 in
theorem zmo_X6_kinOf : zMOK (yX6_kinOf, cX6_kinOf, 4, (some (.int)), 6, 1, 1, false, zk_X6_kinOf) := ⟨List.mem_of_getElem? (i := 694) rfl, zc_X6.1, rfl, zc_X6.2.1, zc_X6.2.2, by decide +kernel, rfl, (fun h => by cases h), by decide, zdec_of zko_X6_kinOf⟩
set_option maxRecDepth 100000 in
theorem zmo_X6_build : zMOK (yX6_build, cX6_build, 3, (some (.boolean)), 6, 2, 2, false, zk_X6_build) := ⟨List.mem_of_getElem? (i := 478) rfl, zc_X6.1, rfl, zc_X6.2.1, zc_X6.2.2, by decide +kernel, rfl, (fun h => by cases h), by decide, zdec_of zko_X6_build⟩
set_option maxRecDepth 100000 in
theorem zmo_X6_keepMakers : zMOK (yX6_keepMakers, cX6_keepMakers, 3, none, 6, 1, 0, false, zk_X6_keepMakers) := ⟨List.mem_of_getElem? (i := 482) rfl, zc_X6.1, rfl, zc_X6.2.1, zc_X6.2.2, by decide +kernel, rfl, (fun h => by cases h), by decide, zdec_of zko_X6_keepMakers⟩
set_option maxRecDepth 100000 in
theorem zmo_X6_indexIn : zMOK (yX6_indexIn, cX6_indexIn, 4, (some (.int)), 6, 3, 1, false, zk_X6_indexIn) := ⟨List.mem_of_getElem? (i := 485) rfl, zc_X6.1, rfl, zc_X6.2.1, zc_X6.2.2, by decide +kernel, rfl, (fun h => by cases h), by decide, zdec_of zko_X6_indexIn⟩
set_option maxRecDepth 100000 in
theorem zmo_X6_collect : zMOK (yX6_collect, cX6_collect, 4, (some (.boolean)), 6, 0, 2, false, zk_X6_collect) := ⟨List.mem_of_getElem? (i := 489) rfl, zc_X6.1, rfl, zc_X6.2.1, zc_X6.2.2, by decide +kernel, rfl, (fun h => by cases h), by decide, zdec_of zko_X6_collect⟩
set_option maxRecDepth 100000 in
theorem zmo_X6_sortCodes : zMOK (yX6_sortCodes, cX6_sortCodes, 4, none, 6, 0, 0, false, zk_X6_sortCodes) := ⟨List.mem_of_getElem? (i := 499) rfl, zc_X6.1, rfl, zc_X6.2.1, zc_X6.2.2, by decide +kernel, rfl, (fun h => by cases h), by decide, zdec_of zko_X6_sortCodes⟩
set_option maxRecDepth 100000 in
theorem zmo_X6_fillSteps : zMOK (yX6_fillSteps, cX6_fillSteps, 3, none, 6, 0, 0, false, zk_X6_fillSteps) := ⟨List.mem_of_getElem? (i := 503) rfl, zc_X6.1, rfl, zc_X6.2.1, zc_X6.2.2, by decide +kernel, rfl, (fun h => by cases h), by decide, zdec_of zko_X6_fillSteps⟩
set_option maxRecDepth 100000 in
theorem zmo_X6_numberOf : zMOK (yX6_numberOf, cX6_numberOf, 6, (some (.int)), 6, 1, 1, false, zk_X6_numberOf) := ⟨List.mem_of_getElem? (i := 507) rfl, zc_X6.1, rfl, zc_X6.2.1, zc_X6.2.2, by decide +kernel, rfl, (fun h => by cases h), by decide, zdec_of zko_X6_numberOf⟩
set_option maxRecDepth 100000 in
theorem zmo_X6_fillProducts : zMOK (yX6_fillProducts, cX6_fillProducts, 5, none, 6, 0, 0, false, zk_X6_fillProducts) := ⟨List.mem_of_getElem? (i := 511) rfl, zc_X6.1, rfl, zc_X6.2.1, zc_X6.2.2, by decide +kernel, rfl, (fun h => by cases h), by decide, zdec_of zko_X6_fillProducts⟩
set_option maxRecDepth 100000 in
theorem zmo_X6_fillProductsBy : zMOK (yX6_fillProductsBy, cX6_fillProductsBy, 5, none, 6, 3, 0, false, zk_X6_fillProductsBy) := ⟨List.mem_of_getElem? (i := 521) rfl, zc_X6.1, rfl, zc_X6.2.1, zc_X6.2.2, by decide +kernel, rfl, (fun h => by cases h), by decide, zdec_of zko_X6_fillProductsBy⟩
set_option maxRecDepth 100000 in
theorem zmo_X6_fillPowers : zMOK (yX6_fillPowers, cX6_fillPowers, 5, none, 6, 0, 0, false, zk_X6_fillPowers) := ⟨List.mem_of_getElem? (i := 525) rfl, zc_X6.1, rfl, zc_X6.2.1, zc_X6.2.2, by decide +kernel, rfl, (fun h => by cases h), by decide, zdec_of zko_X6_fillPowers⟩
set_option maxRecDepth 100000 in
theorem zc_X7 : Cond.initialized yX7_init.cls ∈ lw_tbl ∧ plainName yX7_init.cls = true ∧ (yX7_init.cls ≠ "java/lang/invoke/MethodHandle" ∧ yX7_init.cls ≠ "java/lang/invoke/VarHandle") := ⟨List.mem_of_getElem? (i := 88) rfl, by decide +kernel, by decide +kernel⟩
set_option maxRecDepth 100000 in
theorem zmo_X7_init : zMOK (yX7_init, cX7_init, 2, none, 7, 0, 0, true, zk_X7_init) := ⟨List.mem_of_getElem? (i := 104) rfl, zc_X7.1, rfl, zc_X7.2.1, zc_X7.2.2, by decide +kernel, rfl, (fun _ => rfl), by decide, zdec_of zko_X7_init⟩
set_option maxRecDepth 100000 in
theorem zmo_X7_sheet : zMOK (yX7_sheet, cX7_sheet, 4, (some (.int)), 7, 3, 1, false, zk_X7_sheet) := ⟨List.mem_of_getElem? (i := 422) rfl, zc_X7.1, rfl, zc_X7.2.1, zc_X7.2.2, by decide +kernel, rfl, (fun h => by cases h), by decide, zdec_of zko_X7_sheet⟩
set_option maxRecDepth 100000 in
theorem zmo_X7_write : zMOK (yX7_write, cX7_write, 4, (some (.int)), 7, 3, 1, false, zk_X7_write) := ⟨List.mem_of_getElem? (i := 442) rfl, zc_X7.1, rfl, zc_X7.2.1, zc_X7.2.2, by decide +kernel, rfl, (fun h => by cases h), by decide, zdec_of zko_X7_write⟩
set_option maxRecDepth 100000 in
theorem zmo_X7_group : zMOK (yX7_group, cX7_group, 3, (some (.int)), 7, 1, 1, false, zk_X7_group) := ⟨List.mem_of_getElem? (i := 454) rfl, zc_X7.1, rfl, zc_X7.2.1, zc_X7.2.2, by decide +kernel, rfl, (fun h => by cases h), by decide, zdec_of zko_X7_group⟩
set_option maxRecDepth 100000 in
theorem zmo_X7_count : zMOK (yX7_count, cX7_count, 2, (some (.int)), 7, 1, 1, false, zk_X7_count) := ⟨List.mem_of_getElem? (i := 669) rfl, zc_X7.1, rfl, zc_X7.2.1, zc_X7.2.2, by decide +kernel, rfl, (fun h => by cases h), by decide, zdec_of zko_X7_count⟩
set_option maxRecDepth 100000 in
theorem zmo_X7_turn : zMOK (yX7_turn, cX7_turn, 4, (some (.int)), 7, 2, 1, false, zk_X7_turn) := ⟨List.mem_of_getElem? (i := 677) rfl, zc_X7.1, rfl, zc_X7.2.1, zc_X7.2.2, by decide +kernel, rfl, (fun h => by cases h), by decide, zdec_of zko_X7_turn⟩
set_option maxRecDepth 100000 in
theorem zmo_X7_product : zMOK (yX7_product, cX7_product, 4, (some (.int)), 7, 2, 1, false, zk_X7_product) := ⟨List.mem_of_getElem? (i := 685) rfl, zc_X7.1, rfl, zc_X7.2.1, zc_X7.2.2, by decide +kernel, rfl, (fun h => by cases h), by decide, zdec_of zko_X7_product⟩
set_option maxRecDepth 100000 in
theorem zmo_X7_ofTurn : zMOK (yX7_ofTurn, cX7_ofTurn, 4, (some (.int)), 7, 2, 1, false, zk_X7_ofTurn) := ⟨List.mem_of_getElem? (i := 690) rfl, zc_X7.1, rfl, zc_X7.2.1, zc_X7.2.2, by decide +kernel, rfl, (fun h => by cases h), by decide, zdec_of zko_X7_ofTurn⟩
set_option maxRecDepth 100000 in
theorem zmo_X7_heap : zMOK (yX7_heap, cX7_heap, 5, (some (.int)), 7, 2, 1, false, zk_X7_heap) := ⟨List.mem_of_getElem? (i := 698) rfl, zc_X7.1, rfl, zc_X7.2.1, zc_X7.2.2, by decide +kernel, rfl, (fun h => by cases h), by decide, zdec_of zko_X7_heap⟩
set_option maxRecDepth 100000 in
theorem zmo_X7_has : zMOK (yX7_has, cX7_has, 4, (some (.int)), 7, 2, 1, false, zk_X7_has) := ⟨List.mem_of_getElem? (i := 759) rfl, zc_X7.1, rfl, zc_X7.2.1, zc_X7.2.2, by decide +kernel, rfl, (fun h => by cases h), by decide, zdec_of zko_X7_has⟩
set_option maxRecDepth 100000 in
theorem zmo_X7_join : zMOK (yX7_join, cX7_join, 5, (some (.int)), 7, 3, 1, false, zk_X7_join) := ⟨List.mem_of_getElem? (i := 764) rfl, zc_X7.1, rfl, zc_X7.2.1, zc_X7.2.2, by decide +kernel, rfl, (fun h => by cases h), by decide, zdec_of zko_X7_join⟩
set_option maxRecDepth 100000 in
theorem zmo_X7_ofClass : zMOK (yX7_ofClass, cX7_ofClass, 4, (some (.int)), 7, 2, 1, false, zk_X7_ofClass) := ⟨List.mem_of_getElem? (i := 773) rfl, zc_X7.1, rfl, zc_X7.2.1, zc_X7.2.2, by decide +kernel, rfl, (fun h => by cases h), by decide, zdec_of zko_X7_ofClass⟩
set_option maxRecDepth 100000 in
theorem zmo_X7_within : zMOK (yX7_within, cX7_within, 5, (some (.int)), 7, 3, 1, false, zk_X7_within) := ⟨List.mem_of_getElem? (i := 782) rfl, zc_X7.1, rfl, zc_X7.2.1, zc_X7.2.2, by decide +kernel, rfl, (fun h => by cases h), by decide, zdec_of zko_X7_within⟩
set_option maxRecDepth 100000 in
theorem zmo_X7_table : zMOK (yX7_table, cX7_table, 4, (some (.int)), 7, 2, 1, false, zk_X7_table) := ⟨List.mem_of_getElem? (i := 791) rfl, zc_X7.1, rfl, zc_X7.2.1, zc_X7.2.2, by decide +kernel, rfl, (fun h => by cases h), by decide, zdec_of zko_X7_table⟩
set_option maxRecDepth 100000 in
theorem zmo_X7_sylow : zMOK (yX7_sylow, cX7_sylow, 5, (some (.int)), 7, 1, 1, false, zk_X7_sylow) := ⟨List.mem_of_getElem? (i := 799) rfl, zc_X7.1, rfl, zc_X7.2.1, zc_X7.2.2, by decide +kernel, rfl, (fun h => by cases h), by decide, zdec_of zko_X7_sylow⟩
set_option maxRecDepth 100000 in
theorem zmo_X7_down : zMOK (yX7_down, cX7_down, 4, (some (.int)), 7, 1, 1, false, zk_X7_down) := ⟨List.mem_of_getElem? (i := 807) rfl, zc_X7.1, rfl, zc_X7.2.1, zc_X7.2.2, by decide +kernel, rfl, (fun h => by cases h), by decide, zdec_of zko_X7_down⟩
set_option maxRecDepth 100000 in
theorem zmo_X7_simple : zMOK (yX7_simple, cX7_simple, 1, (some (.int)), 7, 0, 1, false, zk_X7_simple) := ⟨List.mem_of_getElem? (i := 811) rfl, zc_X7.1, rfl, zc_X7.2.1, zc_X7.2.2, by decide +kernel, rfl, (fun h => by cases h), by decide, zdec_of zko_X7_simple⟩
set_option maxRecDepth 100000 in
theorem zmo_X7_coset : zMOK (yX7_coset, cX7_coset, 3, (some (.long)), 7, 2, 3, false, zk_X7_coset) := ⟨List.mem_of_getElem? (i := 819) rfl, zc_X7.1, rfl, zc_X7.2.1, zc_X7.2.2, by decide +kernel, rfl, (fun h => by cases h), by decide, zdec_of zko_X7_coset⟩
set_option maxRecDepth 100000 in
theorem zmo_X7_places : zMOK (yX7_places, cX7_places, 4, (some (.long)), 7, 3, 3, false, zk_X7_places) := ⟨List.mem_of_getElem? (i := 850) rfl, zc_X7.1, rfl, zc_X7.2.1, zc_X7.2.2, by decide +kernel, rfl, (fun h => by cases h), by decide, zdec_of zko_X7_places⟩
set_option maxRecDepth 100000 in
theorem zmo_X7_heaps : zMOK (yX7_heaps, cX7_heaps, 2, (some (.long)), 7, 1, 3, false, zk_X7_heaps) := ⟨List.mem_of_getElem? (i := 887) rfl, zc_X7.1, rfl, zc_X7.2.1, zc_X7.2.2, by decide +kernel, rfl, (fun h => by cases h), by decide, zdec_of zko_X7_heaps⟩
set_option maxRecDepth 100000 in
theorem zmo_X7_both : zMOK (yX7_both, cX7_both, 5, (some (.long)), 7, 4, 3, false, zk_X7_both) := ⟨List.mem_of_getElem? (i := 901) rfl, zc_X7.1, rfl, zc_X7.2.1, zc_X7.2.2, by decide +kernel, rfl, (fun h => by cases h), by decide, zdec_of zko_X7_both⟩
set_option maxRecDepth 100000 in
theorem zmo_X7_colour : zMOK (yX7_colour, cX7_colour, 4, (some (.long)), 7, 3, 3, false, zk_X7_colour) := ⟨List.mem_of_getElem? (i := 927) rfl, zc_X7.1, rfl, zc_X7.2.1, zc_X7.2.2, by decide +kernel, rfl, (fun h => by cases h), by decide, zdec_of zko_X7_colour⟩
set_option maxRecDepth 100000 in
theorem zmo_X7_many : zMOK (yX7_many, cX7_many, 4, (some (.long)), 7, 3, 3, false, zk_X7_many) := ⟨List.mem_of_getElem? (i := 948) rfl, zc_X7.1, rfl, zc_X7.2.1, zc_X7.2.2, by decide +kernel, rfl, (fun h => by cases h), by decide, zdec_of zko_X7_many⟩
set_option maxRecDepth 100000 in
theorem zmo_X7_parts : zMOK (yX7_parts, cX7_parts, 3, (some (.long)), 7, 2, 3, false, zk_X7_parts) := ⟨List.mem_of_getElem? (i := 957) rfl, zc_X7.1, rfl, zc_X7.2.1, zc_X7.2.2, by decide +kernel, rfl, (fun h => by cases h), by decide, zdec_of zko_X7_parts⟩
set_option maxRecDepth 100000 in
theorem zmo_X7_mark : zMOK (yX7_mark, cX7_mark, 3, (some (.long)), 7, 2, 3, false, zk_X7_mark) := ⟨List.mem_of_getElem? (i := 963) rfl, zc_X7.1, rfl, zc_X7.2.1, zc_X7.2.2, by decide +kernel, rfl, (fun h => by cases h), by decide, zdec_of zko_X7_mark⟩
set_option maxRecDepth 100000 in
theorem zmo_X7_act : zMOK (yX7_act, cX7_act, 5, (some (.long)), 7, 3, 3, false, zk_X7_act) := ⟨List.mem_of_getElem? (i := 968) rfl, zc_X7.1, rfl, zc_X7.2.1, zc_X7.2.2, by decide +kernel, rfl, (fun h => by cases h), by decide, zdec_of zko_X7_act⟩
set_option maxRecDepth 100000 in
theorem zmo_X7_same : zMOK (yX7_same, cX7_same, 3, (some (.int)), 7, 2, 1, false, zk_X7_same) := ⟨List.mem_of_getElem? (i := 984) rfl, zc_X7.1, rfl, zc_X7.2.1, zc_X7.2.2, by decide +kernel, rfl, (fun h => by cases h), by decide, zdec_of zko_X7_same⟩
set_option maxRecDepth 100000 in
theorem zmo_X7_maps : zMOK (yX7_maps, cX7_maps, 6, (some (.long)), 7, 3, 3, false, zk_X7_maps) := ⟨List.mem_of_getElem? (i := 992) rfl, zc_X7.1, rfl, zc_X7.2.1, zc_X7.2.2, by decide +kernel, rfl, (fun h => by cases h), by decide, zdec_of zko_X7_maps⟩
set_option maxRecDepth 100000 in
theorem zmo_X7_row : zMOK (yX7_row, cX7_row, 3, (some (.int)), 7, 1, 1, false, zk_X7_row) := ⟨List.mem_of_getElem? (i := 1012) rfl, zc_X7.1, rfl, zc_X7.2.1, zc_X7.2.2, by decide +kernel, rfl, (fun h => by cases h), by decide, zdec_of zko_X7_row⟩
set_option maxRecDepth 100000 in
theorem zmo_X7_check : zMOK (yX7_check, cX7_check, 3, (some (.int)), 7, 1, 1, false, zk_X7_check) := ⟨List.mem_of_getElem? (i := 1018) rfl, zc_X7.1, rfl, zc_X7.2.1, zc_X7.2.2, by decide +kernel, rfl, (fun h => by cases h), by decide, zdec_of zko_X7_check⟩
set_option maxRecDepth 100000 in
theorem zmo_X7_misfit : zMOK (yX7_misfit, cX7_misfit, 1, (some (.int)), 7, 0, 1, false, zk_X7_misfit) := ⟨List.mem_of_getElem? (i := 1031) rfl, zc_X7.1, rfl, zc_X7.2.1, zc_X7.2.2, by decide +kernel, rfl, (fun h => by cases h), by decide, zdec_of zko_X7_misfit⟩
set_option maxRecDepth 100000 in
theorem zmo_X7_chance : zMOK (yX7_chance, cX7_chance, 9, (some (.long)), 7, 2, 3, false, zk_X7_chance) := ⟨List.mem_of_getElem? (i := 1035) rfl, zc_X7.1, rfl, zc_X7.2.1, zc_X7.2.2, by decide +kernel, rfl, (fun h => by cases h), by decide, zdec_of zko_X7_chance⟩
set_option maxRecDepth 100000 in
theorem zmo_X7_rank : zMOK (yX7_rank, cX7_rank, 2, (some (.int)), 7, 0, 1, false, zk_X7_rank) := ⟨List.mem_of_getElem? (i := 1050) rfl, zc_X7.1, rfl, zc_X7.2.1, zc_X7.2.2, by decide +kernel, rfl, (fun h => by cases h), by decide, zdec_of zko_X7_rank⟩
set_option maxRecDepth 100000 in
theorem zmo_X7_image : zMOK (yX7_image, cX7_image, 2, (some (.int)), 7, 1, 1, false, zk_X7_image) := ⟨List.mem_of_getElem? (i := 1054) rfl, zc_X7.1, rfl, zc_X7.2.1, zc_X7.2.2, by decide +kernel, rfl, (fun h => by cases h), by decide, zdec_of zko_X7_image⟩
set_option maxRecDepth 100000 in
theorem zmo_X7_back : zMOK (yX7_back, cX7_back, 2, (some (.int)), 7, 1, 1, false, zk_X7_back) := ⟨List.mem_of_getElem? (i := 1062) rfl, zc_X7.1, rfl, zc_X7.2.1, zc_X7.2.2, by decide +kernel, rfl, (fun h => by cases h), by decide, zdec_of zko_X7_back⟩
set_option maxRecDepth 100000 in
theorem zmo_X7_status : zMOK (yX7_status, cX7_status, 1, (some (.int)), 7, 0, 1, false, zk_X7_status) := ⟨List.mem_of_getElem? (i := 1066) rfl, zc_X7.1, rfl, zc_X7.2.1, zc_X7.2.2, by decide +kernel, rfl, (fun h => by cases h), by decide, zdec_of zko_X7_status⟩
set_option maxRecDepth 100000 in
theorem zmo_X7_refuse : zMOK (yX7_refuse, cX7_refuse, 2, (some (.int)), 7, 1, 1, false, zk_X7_refuse) := ⟨List.mem_of_getElem? (i := 426) rfl, zc_X7.1, rfl, zc_X7.2.1, zc_X7.2.2, by decide +kernel, rfl, (fun h => by cases h), by decide, zdec_of zko_X7_refuse⟩
set_option maxRecDepth 100000 in
theorem zmo_X7_accept : zMOK (yX7_accept, cX7_accept, 2, (some (.int)), 7, 1, 1, false, zk_X7_accept) := ⟨List.mem_of_getElem? (i := 438) rfl, zc_X7.1, rfl, zc_X7.2.1, zc_X7.2.2, by decide +kernel, rfl, (fun h => by cases h), by decide, zdec_of zko_X7_accept⟩
set_option maxRecDepth 100000 in
theorem zmo_X7_isWay : zMOK (yX7_isWay, cX7_isWay, 1, (some (.boolean)), 7, 1, 2, false, zk_X7_isWay) := ⟨List.mem_of_getElem? (i := 767) rfl, zc_X7.1, rfl, zc_X7.2.1, zc_X7.2.2, by decide +kernel, rfl, (fun h => by cases h), by decide, zdec_of zko_X7_isWay⟩
set_option maxRecDepth 100000 in
theorem zmo_X7_isActNumber : zMOK (yX7_isActNumber, cX7_isActNumber, 1, (some (.boolean)), 7, 1, 2, false, zk_X7_isActNumber) := ⟨List.mem_of_getElem? (i := 822) rfl, zc_X7.1, rfl, zc_X7.2.1, zc_X7.2.2, by decide +kernel, rfl, (fun h => by cases h), by decide, zdec_of zko_X7_isActNumber⟩
set_option maxRecDepth 100000 in
theorem zmo_X7_isAct : zMOK (yX7_isAct, cX7_isAct, 2, (some (.boolean)), 7, 1, 2, false, zk_X7_isAct) := ⟨List.mem_of_getElem? (i := 905) rfl, zc_X7.1, rfl, zc_X7.2.1, zc_X7.2.2, by decide +kernel, rfl, (fun h => by cases h), by decide, zdec_of zko_X7_isAct⟩
set_option maxRecDepth 100000 in
theorem zmo_X7_keepMade : zMOK (yX7_keepMade, cX7_keepMade, 2, (some (.long)), 7, 1, 3, false, zk_X7_keepMade) := ⟨List.mem_of_getElem? (i := 831) rfl, zc_X7.1, rfl, zc_X7.2.1, zc_X7.2.2, by decide +kernel, rfl, (fun h => by cases h), by decide, zdec_of zko_X7_keepMade⟩
set_option maxRecDepth 100000 in
theorem zmo_X7_readSheets : zMOK (yX7_readSheets, cX7_readSheets, 4, (some (.boolean)), 7, 1, 2, false, zk_X7_readSheets) := ⟨List.mem_of_getElem? (i := 458) rfl, zc_X7.1, rfl, zc_X7.2.1, zc_X7.2.2, by decide +kernel, rfl, (fun h => by cases h), by decide, zdec_of zko_X7_readSheets⟩
theorem zmo_X7_unusedGroup : zMOK (yX7_unusedGroup, cX7_unusedGroup, 2, (some (.object "MarkTables$Group")), 7, 0, 4, false, zk_X7_unusedGroup) := ⟨List.mem_of_getElem? (i := 466) (by decide +kernel), List.mem_of_getElem? (i := 88) (by decide +kernel), by decide +kernel, by decide +kernel, by decide +kernel, by decide +kernel, Or.inl ⟨_, rfl⟩, (fun h => by cases h), by decide, zdec_of zko_X7_unusedGroup⟩
set_option maxRecDepth 100000 in
theorem zmo_X7_isInUse : zMOK (yX7_isInUse, cX7_isInUse, 3, (some (.boolean)), 7, 1, 2, false, zk_X7_isInUse) := ⟨List.mem_of_getElem? (i := 470) rfl, zc_X7.1, rfl, zc_X7.2.1, zc_X7.2.2, by decide +kernel, rfl, (fun h => by cases h), by decide, zdec_of zko_X7_isInUse⟩
set_option maxRecDepth 100000 in
theorem zmo_X7_whereTo : zMOK (yX7_whereTo, cX7_whereTo, 2, (some (.int)), 7, 2, 1, false, zk_X7_whereTo) := ⟨List.mem_of_getElem? (i := 495) rfl, zc_X7.1, rfl, zc_X7.2.1, zc_X7.2.2, by decide +kernel, rfl, (fun h => by cases h), by decide, zdec_of zko_X7_whereTo⟩
set_option maxRecDepth 100000 in
theorem zmo_X7_oneBehindOther : zMOK (yX7_oneBehindOther, cX7_oneBehindOther, 4, (some (.int)), 7, 2, 1, false, zk_X7_oneBehindOther) := ⟨List.mem_of_getElem? (i := 492) rfl, zc_X7.1, rfl, zc_X7.2.1, zc_X7.2.2, by decide +kernel, rfl, (fun h => by cases h), by decide, zdec_of zko_X7_oneBehindOther⟩
set_option maxRecDepth 100000 in
theorem zmo_X7_holds : zMOK (yX7_holds, cX7_holds, 5, (some (.boolean)), 7, 3, 2, false, zk_X7_holds) := ⟨List.mem_of_getElem? (i := 567) rfl, zc_X7.1, rfl, zc_X7.2.1, zc_X7.2.2, by decide +kernel, rfl, (fun h => by cases h), by decide, zdec_of zko_X7_holds⟩
set_option maxRecDepth 100000 in
theorem zmo_X7_lowBit : zMOK (yX7_lowBit, cX7_lowBit, 1, (some (.long)), 7, 1, 3, false, zk_X7_lowBit) := ⟨List.mem_of_getElem? (i := 626) rfl, zc_X7.1, rfl, zc_X7.2.1, zc_X7.2.2, by decide +kernel, rfl, (fun h => by cases h), by decide, zdec_of zko_X7_lowBit⟩
set_option maxRecDepth 100000 in
theorem zmo_X7_highBit : zMOK (yX7_highBit, cX7_highBit, 1, (some (.long)), 7, 1, 3, false, zk_X7_highBit) := ⟨List.mem_of_getElem? (i := 629) rfl, zc_X7.1, rfl, zc_X7.2.1, zc_X7.2.2, by decide +kernel, rfl, (fun h => by cases h), by decide, zdec_of zko_X7_highBit⟩
set_option maxRecDepth 100000 in
theorem zmo_X7_timesUpTo : zMOK (yX7_timesUpTo, cX7_timesUpTo, 4, (some (.long)), 7, 2, 3, false, zk_X7_timesUpTo) := ⟨List.mem_of_getElem? (i := 918) rfl, zc_X7.1, rfl, zc_X7.2.1, zc_X7.2.2, by decide +kernel, rfl, (fun h => by cases h), by decide, zdec_of zko_X7_timesUpTo⟩
set_option maxRecDepth 100000 in
theorem zmo_X7_powerUpTo : zMOK (yX7_powerUpTo, cX7_powerUpTo, 7, (some (.long)), 7, 2, 3, false, zk_X7_powerUpTo) := ⟨List.mem_of_getElem? (i := 930) rfl, zc_X7.1, rfl, zc_X7.2.1, zc_X7.2.2, by decide +kernel, rfl, (fun h => by cases h), by decide, zdec_of zko_X7_powerUpTo⟩
set_option maxRecDepth 100000 in
theorem zmo_X7_factorialUpTo : zMOK (yX7_factorialUpTo, cX7_factorialUpTo, 5, (some (.long)), 7, 1, 3, false, zk_X7_factorialUpTo) := ⟨List.mem_of_getElem? (i := 1006) rfl, zc_X7.1, rfl, zc_X7.2.1, zc_X7.2.2, by decide +kernel, rfl, (fun h => by cases h), by decide, zdec_of zko_X7_factorialUpTo⟩
set_option maxRecDepth 100000 in
theorem zmo_X7_powerOf : zMOK (yX7_powerOf, cX7_powerOf, 6, (some (.long)), 7, 2, 3, false, zk_X7_powerOf) := ⟨List.mem_of_getElem? (i := 1042) rfl, zc_X7.1, rfl, zc_X7.2.1, zc_X7.2.2, by decide +kernel, rfl, (fun h => by cases h), by decide, zdec_of zko_X7_powerOf⟩
set_option maxRecDepth 100000 in
theorem zmo_X7_greatestDivisor : zMOK (yX7_greatestDivisor, cX7_greatestDivisor, 11, (some (.long)), 7, 2, 3, false, zk_X7_greatestDivisor) := ⟨List.mem_of_getElem? (i := 1046) rfl, zc_X7.1, rfl, zc_X7.2.1, zc_X7.2.2, by decide +kernel, rfl, (fun h => by cases h), by decide, zdec_of zko_X7_greatestDivisor⟩
set_option maxRecDepth 100000 in
theorem zmo_X7_isPowerOfPrime : zMOK (yX7_isPowerOfPrime, cX7_isPowerOfPrime, 4, (some (.boolean)), 7, 1, 2, false, zk_X7_isPowerOfPrime) := ⟨List.mem_of_getElem? (i := 540) rfl, zc_X7.1, rfl, zc_X7.2.1, zc_X7.2.2, by decide +kernel, rfl, (fun h => by cases h), by decide, zdec_of zko_X7_isPowerOfPrime⟩
theorem zmo_X7_roomFor : zMOK (yX7_roomFor, cX7_roomFor, 2, (some (.array (.int))), 7, 2, 4, false, zk_X7_roomFor) := ⟨List.mem_of_getElem? (i := 514) (by decide +kernel), List.mem_of_getElem? (i := 88) (by decide +kernel), by decide +kernel, by decide +kernel, by decide +kernel, by decide +kernel, Or.inr ⟨_, rfl⟩, (fun h => by cases h), by decide, zdec_of zko_X7_roomFor⟩
set_option maxRecDepth 100000 in
theorem zc_X8 : Cond.initialized yX8_in.cls ∈ lw_tbl ∧ plainName yX8_in.cls = true ∧ (yX8_in.cls ≠ "java/lang/invoke/MethodHandle" ∧ yX8_in.cls ≠ "java/lang/invoke/VarHandle") := ⟨List.mem_of_getElem? (i := 96) rfl, by decide +kernel, by decide +kernel⟩
set_option maxRecDepth 100000 in
theorem zmo_X8_in : zMOK (yX8_in, cX8_in, 6, (some (.boolean)), 8, 3, 2, false, zk_X8_in) := ⟨List.mem_of_getElem? (i := 1074) rfl, zc_X8.1, rfl, zc_X8.2.1, zc_X8.2.2, by decide +kernel, rfl, (fun h => by cases h), by decide, zdec_of zko_X8_in⟩
set_option maxRecDepth 100000 in
theorem zmo_X8_ends : zMOK (yX8_ends, cX8_ends, 2, (some (.int)), 8, 1, 1, false, zk_X8_ends) := ⟨List.mem_of_getElem? (i := 1080) rfl, zc_X8.1, rfl, zc_X8.2.1, zc_X8.2.2, by decide +kernel, rfl, (fun h => by cases h), by decide, zdec_of zko_X8_ends⟩
set_option maxRecDepth 100000 in
theorem zmo_X8_endsLong : zMOK (yX8_endsLong, cX8_endsLong, 3, (some (.long)), 8, 1, 3, false, zk_X8_endsLong) := ⟨List.mem_of_getElem? (i := 1419) rfl, zc_X8.1, rfl, zc_X8.2.1, zc_X8.2.2, by decide +kernel, rfl, (fun h => by cases h), by decide, zdec_of zko_X8_endsLong⟩
set_option maxRecDepth 100000 in
theorem zmo_X8_sheet : zMOK (yX8_sheet, cX8_sheet, 5, (some (.int)), 8, 3, 1, false, zk_X8_sheet) := ⟨List.mem_of_getElem? (i := 1070) rfl, zc_X8.1, rfl, zc_X8.2.1, zc_X8.2.2, by decide +kernel, rfl, (fun h => by cases h), by decide, zdec_of zko_X8_sheet⟩
set_option maxRecDepth 100000 in
theorem zmo_X8_write : zMOK (yX8_write, cX8_write, 4, (some (.int)), 8, 3, 1, false, zk_X8_write) := ⟨List.mem_of_getElem? (i := 1084) rfl, zc_X8.1, rfl, zc_X8.2.1, zc_X8.2.2, by decide +kernel, rfl, (fun h => by cases h), by decide, zdec_of zko_X8_write⟩
set_option maxRecDepth 100000 in
theorem zmo_X8_newPlace : zMOK (yX8_newPlace, cX8_newPlace, 3, (some (.int)), 8, 2, 1, false, zk_X8_newPlace) := ⟨List.mem_of_getElem? (i := 1104) rfl, zc_X8.1, rfl, zc_X8.2.1, zc_X8.2.2, by decide +kernel, rfl, (fun h => by cases h), by decide, zdec_of zko_X8_newPlace⟩
set_option maxRecDepth 100000 in
theorem zmo_X8_isNews : zMOK (yX8_isNews, cX8_isNews, 5, (some (.boolean)), 8, 1, 2, false, zk_X8_isNews) := ⟨List.mem_of_getElem? (i := 1296) rfl, zc_X8.1, rfl, zc_X8.2.1, zc_X8.2.2, by decide +kernel, rfl, (fun h => by cases h), by decide, zdec_of zko_X8_isNews⟩
set_option maxRecDepth 100000 in
theorem zmo_X8_gathers : zMOK (yX8_gathers, cX8_gathers, 6, (some (.int)), 8, 1, 1, false, zk_X8_gathers) := ⟨List.mem_of_getElem? (i := 1292) rfl, zc_X8.1, rfl, zc_X8.2.1, zc_X8.2.2, by decide +kernel, rfl, (fun h => by cases h), by decide, zdec_of zko_X8_gathers⟩
set_option maxRecDepth 100000 in
theorem zmo_X8_isBefore : zMOK (yX8_isBefore, cX8_isBefore, 5, (some (.boolean)), 8, 3, 2, false, zk_X8_isBefore) := ⟨List.mem_of_getElem? (i := 1100) rfl, zc_X8.1, rfl, zc_X8.2.1, zc_X8.2.2, by decide +kernel, rfl, (fun h => by cases h), by decide, zdec_of zko_X8_isBefore⟩
set_option maxRecDepth 100000 in
theorem zmo_X8_takes : zMOK (yX8_takes, cX8_takes, 5, none, 8, 1, 0, false, zk_X8_takes) := ⟨List.mem_of_getElem? (i := 1096) rfl, zc_X8.1, rfl, zc_X8.2.1, zc_X8.2.2, by decide +kernel, rfl, (fun h => by cases h), by decide, zdec_of zko_X8_takes⟩
set_option maxRecDepth 100000 in
theorem zmo_X8_find : zMOK (yX8_find, cX8_find, 8, (some (.int)), 8, 2, 1, false, zk_X8_find) := ⟨List.mem_of_getElem? (i := 1108) rfl, zc_X8.1, rfl, zc_X8.2.1, zc_X8.2.2, by decide +kernel, rfl, (fun h => by cases h), by decide, zdec_of zko_X8_find⟩
set_option maxRecDepth 100000 in
theorem zmo_X8_closes : zMOK (yX8_closes, cX8_closes, 6, none, 8, 1, 0, false, zk_X8_closes) := ⟨List.mem_of_getElem? (i := 1116) rfl, zc_X8.1, rfl, zc_X8.2.1, zc_X8.2.2, by decide +kernel, rfl, (fun h => by cases h), by decide, zdec_of zko_X8_closes⟩
set_option maxRecDepth 100000 in
theorem zmo_X8_isAlike : zMOK (yX8_isAlike, cX8_isAlike, 4, (some (.boolean)), 8, 2, 2, false, zk_X8_isAlike) := ⟨List.mem_of_getElem? (i := 1124) rfl, zc_X8.1, rfl, zc_X8.2.1, zc_X8.2.2, by decide +kernel, rfl, (fun h => by cases h), by decide, zdec_of zko_X8_isAlike⟩
set_option maxRecDepth 100000 in
theorem zmo_X8_among : zMOK (yX8_among, cX8_among, 4, (some (.int)), 8, 2, 1, false, zk_X8_among) := ⟨List.mem_of_getElem? (i := 1120) rfl, zc_X8.1, rfl, zc_X8.2.1, zc_X8.2.2, by decide +kernel, rfl, (fun h => by cases h), by decide, zdec_of zko_X8_among⟩
set_option maxRecDepth 100000 in
theorem zmo_X8_findsHeaps : zMOK (yX8_findsHeaps, cX8_findsHeaps, 4, (some (.boolean)), 8, 0, 2, false, zk_X8_findsHeaps) := ⟨List.mem_of_getElem? (i := 1112) rfl, zc_X8.1, rfl, zc_X8.2.1, zc_X8.2.2, by decide +kernel, rfl, (fun h => by cases h), by decide, zdec_of zko_X8_findsHeaps⟩
set_option maxRecDepth 100000 in
theorem zmo_X8_isAhead : zMOK (yX8_isAhead, cX8_isAhead, 4, (some (.boolean)), 8, 2, 2, false, zk_X8_isAhead) := ⟨List.mem_of_getElem? (i := 1132) rfl, zc_X8.1, rfl, zc_X8.2.1, zc_X8.2.2, by decide +kernel, rfl, (fun h => by cases h), by decide, zdec_of zko_X8_isAhead⟩
set_option maxRecDepth 100000 in
theorem zmo_X8_changes : zMOK (yX8_changes, cX8_changes, 5, none, 8, 2, 0, false, zk_X8_changes) := ⟨List.mem_of_getElem? (i := 1136) rfl, zc_X8.1, rfl, zc_X8.2.1, zc_X8.2.2, by decide +kernel, rfl, (fun h => by cases h), by decide, zdec_of zko_X8_changes⟩
set_option maxRecDepth 100000 in
theorem zmo_X8_lies : zMOK (yX8_lies, cX8_lies, 4, (some (.boolean)), 8, 2, 2, false, zk_X8_lies) := ⟨List.mem_of_getElem? (i := 1144) rfl, zc_X8.1, rfl, zc_X8.2.1, zc_X8.2.2, by decide +kernel, rfl, (fun h => by cases h), by decide, zdec_of zko_X8_lies⟩
set_option maxRecDepth 100000 in
theorem zmo_X8_settles : zMOK (yX8_settles, cX8_settles, 5, none, 8, 0, 0, false, zk_X8_settles) := ⟨List.mem_of_getElem? (i := 1128) rfl, zc_X8.1, rfl, zc_X8.2.1, zc_X8.2.2, by decide +kernel, rfl, (fun h => by cases h), by decide, zdec_of zko_X8_settles⟩
set_option maxRecDepth 100000 in
theorem zmo_X8_ledTo : zMOK (yX8_ledTo, cX8_ledTo, 4, (some (.int)), 8, 2, 1, false, zk_X8_ledTo) := ⟨List.mem_of_getElem? (i := 1140) rfl, zc_X8.1, rfl, zc_X8.2.1, zc_X8.2.2, by decide +kernel, rfl, (fun h => by cases h), by decide, zdec_of zko_X8_ledTo⟩
set_option maxRecDepth 100000 in
theorem zmo_X8_init : zMOK (yX8_init, cX8_init, 2, none, 8, 0, 0, true, zk_X8_init) := ⟨List.mem_of_getElem? (i := 1088) rfl, zc_X8.1, rfl, zc_X8.2.1, zc_X8.2.2, by decide +kernel, rfl, (fun _ => rfl), by decide, zdec_of zko_X8_init⟩
set_option maxRecDepth 100000 in
theorem zmo_X8_puts : zMOK (yX8_puts, cX8_puts, 5, none, 8, 3, 0, false, zk_X8_puts) := ⟨List.mem_of_getElem? (i := 1300) rfl, zc_X8.1, rfl, zc_X8.2.1, zc_X8.2.2, by decide +kernel, rfl, (fun h => by cases h), by decide, zdec_of zko_X8_puts⟩
set_option maxRecDepth 100000 in
theorem zmo_X8_group : zMOK (yX8_group, cX8_group, 4, (some (.int)), 8, 1, 1, false, zk_X8_group) := ⟨List.mem_of_getElem? (i := 1287) rfl, zc_X8.1, rfl, zc_X8.2.1, zc_X8.2.2, by decide +kernel, rfl, (fun h => by cases h), by decide, zdec_of zko_X8_group⟩
set_option maxRecDepth 100000 in
theorem zmo_X8_count : zMOK (yX8_count, cX8_count, 4, (some (.int)), 8, 1, 1, false, zk_X8_count) := ⟨List.mem_of_getElem? (i := 1304) rfl, zc_X8.1, rfl, zc_X8.2.1, zc_X8.2.2, by decide +kernel, rfl, (fun h => by cases h), by decide, zdec_of zko_X8_count⟩
set_option maxRecDepth 100000 in
theorem zmo_X8_isTurn : zMOK (yX8_isTurn, cX8_isTurn, 2, (some (.boolean)), 8, 1, 2, false, zk_X8_isTurn) := ⟨List.mem_of_getElem? (i := 1312) rfl, zc_X8.1, rfl, zc_X8.2.1, zc_X8.2.2, by decide +kernel, rfl, (fun h => by cases h), by decide, zdec_of zko_X8_isTurn⟩
set_option maxRecDepth 100000 in
theorem zmo_X8_isHeap : zMOK (yX8_isHeap, cX8_isHeap, 2, (some (.boolean)), 8, 1, 2, false, zk_X8_isHeap) := ⟨List.mem_of_getElem? (i := 1344) rfl, zc_X8.1, rfl, zc_X8.2.1, zc_X8.2.2, by decide +kernel, rfl, (fun h => by cases h), by decide, zdec_of zko_X8_isHeap⟩
set_option maxRecDepth 100000 in
theorem zmo_X8_isClass : zMOK (yX8_isClass, cX8_isClass, 2, (some (.boolean)), 8, 1, 2, false, zk_X8_isClass) := ⟨List.mem_of_getElem? (i := 1385) rfl, zc_X8.1, rfl, zc_X8.2.1, zc_X8.2.2, by decide +kernel, rfl, (fun h => by cases h), by decide, zdec_of zko_X8_isClass⟩
set_option maxRecDepth 100000 in
theorem zmo_X8_turn : zMOK (yX8_turn, cX8_turn, 3, (some (.int)), 8, 2, 1, false, zk_X8_turn) := ⟨List.mem_of_getElem? (i := 1308) rfl, zc_X8.1, rfl, zc_X8.2.1, zc_X8.2.2, by decide +kernel, rfl, (fun h => by cases h), by decide, zdec_of zko_X8_turn⟩
set_option maxRecDepth 100000 in
theorem zmo_X8_product : zMOK (yX8_product, cX8_product, 3, (some (.int)), 8, 2, 1, false, zk_X8_product) := ⟨List.mem_of_getElem? (i := 1316) rfl, zc_X8.1, rfl, zc_X8.2.1, zc_X8.2.2, by decide +kernel, rfl, (fun h => by cases h), by decide, zdec_of zko_X8_product⟩
set_option maxRecDepth 100000 in
theorem zmo_X8_least : zMOK (yX8_least, cX8_least, 3, (some (.int)), 8, 0, 1, false, zk_X8_least) := ⟨List.mem_of_getElem? (i := 1332) rfl, zc_X8.1, rfl, zc_X8.2.1, zc_X8.2.2, by decide +kernel, rfl, (fun h => by cases h), by decide, zdec_of zko_X8_least⟩
set_option maxRecDepth 100000 in
theorem zmo_X8_clears : zMOK (yX8_clears, cX8_clears, 2, none, 8, 0, 0, false, zk_X8_clears) := ⟨List.mem_of_getElem? (i := 1328) rfl, zc_X8.1, rfl, zc_X8.2.1, zc_X8.2.2, by decide +kernel, rfl, (fun h => by cases h), by decide, zdec_of zko_X8_clears⟩
set_option maxRecDepth 100000 in
theorem zmo_X8_madeBy : zMOK (yX8_madeBy, cX8_madeBy, 2, (some (.int)), 8, 1, 1, false, zk_X8_madeBy) := ⟨List.mem_of_getElem? (i := 1324) rfl, zc_X8.1, rfl, zc_X8.2.1, zc_X8.2.2, by decide +kernel, rfl, (fun h => by cases h), by decide, zdec_of zko_X8_madeBy⟩
set_option maxRecDepth 100000 in
theorem zmo_X8_ofTurn : zMOK (yX8_ofTurn, cX8_ofTurn, 4, (some (.int)), 8, 2, 1, false, zk_X8_ofTurn) := ⟨List.mem_of_getElem? (i := 1320) rfl, zc_X8.1, rfl, zc_X8.2.1, zc_X8.2.2, by decide +kernel, rfl, (fun h => by cases h), by decide, zdec_of zko_X8_ofTurn⟩
set_option maxRecDepth 100000 in
theorem zmo_X8_marked : zMOK (yX8_marked, cX8_marked, 3, (some (.int)), 8, 0, 1, false, zk_X8_marked) := ⟨List.mem_of_getElem? (i := 1336) rfl, zc_X8.1, rfl, zc_X8.2.1, zc_X8.2.2, by decide +kernel, rfl, (fun h => by cases h), by decide, zdec_of zko_X8_marked⟩
set_option maxRecDepth 100000 in
theorem zmo_X8_exact : zMOK (yX8_exact, cX8_exact, 1, (some (.int)), 8, 0, 1, false, zk_X8_exact) := ⟨List.mem_of_getElem? (i := 1357) rfl, zc_X8.1, rfl, zc_X8.2.1, zc_X8.2.2, by decide +kernel, rfl, (fun h => by cases h), by decide, zdec_of zko_X8_exact⟩
set_option maxRecDepth 100000 in
theorem zmo_X8_normalizer : zMOK (yX8_normalizer, cX8_normalizer, 3, (some (.int)), 8, 1, 1, false, zk_X8_normalizer) := ⟨List.mem_of_getElem? (i := 1353) rfl, zc_X8.1, rfl, zc_X8.2.1, zc_X8.2.2, by decide +kernel, rfl, (fun h => by cases h), by decide, zdec_of zko_X8_normalizer⟩
set_option maxRecDepth 100000 in
theorem zmo_X8_core : zMOK (yX8_core, cX8_core, 5, (some (.int)), 8, 1, 1, false, zk_X8_core) := ⟨List.mem_of_getElem? (i := 1361) rfl, zc_X8.1, rfl, zc_X8.2.1, zc_X8.2.2, by decide +kernel, rfl, (fun h => by cases h), by decide, zdec_of zko_X8_core⟩
set_option maxRecDepth 100000 in
theorem zmo_X8_derived : zMOK (yX8_derived, cX8_derived, 5, (some (.int)), 8, 1, 1, false, zk_X8_derived) := ⟨List.mem_of_getElem? (i := 1365) rfl, zc_X8.1, rfl, zc_X8.2.1, zc_X8.2.2, by decide +kernel, rfl, (fun h => by cases h), by decide, zdec_of zko_X8_derived⟩
set_option maxRecDepth 100000 in
theorem zmo_X8_isQuiet : zMOK (yX8_isQuiet, cX8_isQuiet, 5, (some (.boolean)), 8, 1, 2, false, zk_X8_isQuiet) := ⟨List.mem_of_getElem? (i := 1369) rfl, zc_X8.1, rfl, zc_X8.2.1, zc_X8.2.2, by decide +kernel, rfl, (fun h => by cases h), by decide, zdec_of zko_X8_isQuiet⟩
set_option maxRecDepth 100000 in
theorem zmo_X8_isNormal : zMOK (yX8_isNormal, cX8_isNormal, 2, (some (.boolean)), 8, 1, 2, false, zk_X8_isNormal) := ⟨List.mem_of_getElem? (i := 1349) rfl, zc_X8.1, rfl, zc_X8.2.1, zc_X8.2.2, by decide +kernel, rfl, (fun h => by cases h), by decide, zdec_of zko_X8_isNormal⟩
set_option maxRecDepth 100000 in
theorem zmo_X8_heap : zMOK (yX8_heap, cX8_heap, 5, (some (.int)), 8, 2, 1, false, zk_X8_heap) := ⟨List.mem_of_getElem? (i := 1340) rfl, zc_X8.1, rfl, zc_X8.2.1, zc_X8.2.2, by decide +kernel, rfl, (fun h => by cases h), by decide, zdec_of zko_X8_heap⟩
set_option maxRecDepth 100000 in
theorem zmo_X8_has : zMOK (yX8_has, cX8_has, 3, (some (.int)), 8, 2, 1, false, zk_X8_has) := ⟨List.mem_of_getElem? (i := 1373) rfl, zc_X8.1, rfl, zc_X8.2.1, zc_X8.2.2, by decide +kernel, rfl, (fun h => by cases h), by decide, zdec_of zko_X8_has⟩
set_option maxRecDepth 100000 in
theorem zmo_X8_join : zMOK (yX8_join, cX8_join, 5, (some (.int)), 8, 3, 1, false, zk_X8_join) := ⟨List.mem_of_getElem? (i := 1377) rfl, zc_X8.1, rfl, zc_X8.2.1, zc_X8.2.2, by decide +kernel, rfl, (fun h => by cases h), by decide, zdec_of zko_X8_join⟩
set_option maxRecDepth 100000 in
theorem zmo_X8_ofClass : zMOK (yX8_ofClass, cX8_ofClass, 3, (some (.int)), 8, 2, 1, false, zk_X8_ofClass) := ⟨List.mem_of_getElem? (i := 1381) rfl, zc_X8.1, rfl, zc_X8.2.1, zc_X8.2.2, by decide +kernel, rfl, (fun h => by cases h), by decide, zdec_of zko_X8_ofClass⟩
set_option maxRecDepth 100000 in
theorem zmo_X8_within : zMOK (yX8_within, cX8_within, 6, (some (.int)), 8, 3, 1, false, zk_X8_within) := ⟨List.mem_of_getElem? (i := 1389) rfl, zc_X8.1, rfl, zc_X8.2.1, zc_X8.2.2, by decide +kernel, rfl, (fun h => by cases h), by decide, zdec_of zko_X8_within⟩
set_option maxRecDepth 100000 in
theorem zmo_X8_table : zMOK (yX8_table, cX8_table, 3, (some (.int)), 8, 2, 1, false, zk_X8_table) := ⟨List.mem_of_getElem? (i := 1393) rfl, zc_X8.1, rfl, zc_X8.2.1, zc_X8.2.2, by decide +kernel, rfl, (fun h => by cases h), by decide, zdec_of zko_X8_table⟩
set_option maxRecDepth 100000 in
theorem zmo_X8_sylow : zMOK (yX8_sylow, cX8_sylow, 4, (some (.int)), 8, 1, 1, false, zk_X8_sylow) := ⟨List.mem_of_getElem? (i := 1397) rfl, zc_X8.1, rfl, zc_X8.2.1, zc_X8.2.2, by decide +kernel, rfl, (fun h => by cases h), by decide, zdec_of zko_X8_sylow⟩
set_option maxRecDepth 100000 in
theorem zmo_X8_down : zMOK (yX8_down, cX8_down, 4, (some (.int)), 8, 1, 1, false, zk_X8_down) := ⟨List.mem_of_getElem? (i := 1401) rfl, zc_X8.1, rfl, zc_X8.2.1, zc_X8.2.2, by decide +kernel, rfl, (fun h => by cases h), by decide, zdec_of zko_X8_down⟩
set_option maxRecDepth 100000 in
theorem zmo_X8_simple : zMOK (yX8_simple, cX8_simple, 3, (some (.int)), 8, 0, 1, false, zk_X8_simple) := ⟨List.mem_of_getElem? (i := 1406) rfl, zc_X8.1, rfl, zc_X8.2.1, zc_X8.2.2, by decide +kernel, rfl, (fun h => by cases h), by decide, zdec_of zko_X8_simple⟩
set_option maxRecDepth 100000 in
theorem zmo_X8_isNumber : zMOK (yX8_isNumber, cX8_isNumber, 1, (some (.boolean)), 8, 1, 2, false, zk_X8_isNumber) := ⟨List.mem_of_getElem? (i := 1413) rfl, zc_X8.1, rfl, zc_X8.2.1, zc_X8.2.2, by decide +kernel, rfl, (fun h => by cases h), by decide, zdec_of zko_X8_isNumber⟩
set_option maxRecDepth 100000 in
theorem zmo_X8_isAct : zMOK (yX8_isAct, cX8_isAct, 2, (some (.boolean)), 8, 1, 2, false, zk_X8_isAct) := ⟨List.mem_of_getElem? (i := 1464) rfl, zc_X8.1, rfl, zc_X8.2.1, zc_X8.2.2, by decide +kernel, rfl, (fun h => by cases h), by decide, zdec_of zko_X8_isAct⟩
set_option maxRecDepth 100000 in
theorem zmo_X8_markOf : zMOK (yX8_markOf, cX8_markOf, 6, (some (.long)), 8, 2, 3, false, zk_X8_markOf) := ⟨List.mem_of_getElem? (i := 1428) rfl, zc_X8.1, rfl, zc_X8.2.1, zc_X8.2.2, by decide +kernel, rfl, (fun h => by cases h), by decide, zdec_of zko_X8_markOf⟩
set_option maxRecDepth 100000 in
theorem zmo_X8_sizeOf : zMOK (yX8_sizeOf, cX8_sizeOf, 2, (some (.long)), 8, 1, 3, false, zk_X8_sizeOf) := ⟨List.mem_of_getElem? (i := 1424) rfl, zc_X8.1, rfl, zc_X8.2.1, zc_X8.2.2, by decide +kernel, rfl, (fun h => by cases h), by decide, zdec_of zko_X8_sizeOf⟩
set_option maxRecDepth 100000 in
theorem zmo_X8_becomes : zMOK (yX8_becomes, cX8_becomes, 3, (some (.long)), 8, 1, 3, false, zk_X8_becomes) := ⟨List.mem_of_getElem? (i := 1448) rfl, zc_X8.1, rfl, zc_X8.2.1, zc_X8.2.2, by decide +kernel, rfl, (fun h => by cases h), by decide, zdec_of zko_X8_becomes⟩
set_option maxRecDepth 100000 in
theorem zmo_X8_solves : zMOK (yX8_solves, cX8_solves, 6, (some (.int)), 8, 0, 1, false, zk_X8_solves) := ⟨List.mem_of_getElem? (i := 1452) rfl, zc_X8.1, rfl, zc_X8.2.1, zc_X8.2.2, by decide +kernel, rfl, (fun h => by cases h), by decide, zdec_of zko_X8_solves⟩
set_option maxRecDepth 100000 in
theorem zmo_X8_coset : zMOK (yX8_coset, cX8_coset, 4, (some (.long)), 8, 2, 3, false, zk_X8_coset) := ⟨List.mem_of_getElem? (i := 1410) rfl, zc_X8.1, rfl, zc_X8.2.1, zc_X8.2.2, by decide +kernel, rfl, (fun h => by cases h), by decide, zdec_of zko_X8_coset⟩
set_option maxRecDepth 100000 in
theorem zmo_X8_rounds : zMOK (yX8_rounds, cX8_rounds, 7, (some (.int)), 8, 1, 1, false, zk_X8_rounds) := ⟨List.mem_of_getElem? (i := 1440) rfl, zc_X8.1, rfl, zc_X8.2.1, zc_X8.2.2, by decide +kernel, rfl, (fun h => by cases h), by decide, zdec_of zko_X8_rounds⟩
set_option maxRecDepth 100000 in
theorem zmo_X8_setsLeft : zMOK (yX8_setsLeft, cX8_setsLeft, 9, (some (.long)), 8, 2, 3, false, zk_X8_setsLeft) := ⟨List.mem_of_getElem? (i := 1436) rfl, zc_X8.1, rfl, zc_X8.2.1, zc_X8.2.2, by decide +kernel, rfl, (fun h => by cases h), by decide, zdec_of zko_X8_setsLeft⟩
set_option maxRecDepth 100000 in
theorem zmo_X8_rowsLeft : zMOK (yX8_rowsLeft, cX8_rowsLeft, 8, (some (.long)), 8, 2, 3, false, zk_X8_rowsLeft) := ⟨List.mem_of_getElem? (i := 1444) rfl, zc_X8.1, rfl, zc_X8.2.1, zc_X8.2.2, by decide +kernel, rfl, (fun h => by cases h), by decide, zdec_of zko_X8_rowsLeft⟩
set_option maxRecDepth 100000 in
theorem zmo_X8_places : zMOK (yX8_places, cX8_places, 5, (some (.long)), 8, 3, 3, false, zk_X8_places) := ⟨List.mem_of_getElem? (i := 1432) rfl, zc_X8.1, rfl, zc_X8.2.1, zc_X8.2.2, by decide +kernel, rfl, (fun h => by cases h), by decide, zdec_of zko_X8_places⟩
set_option maxRecDepth 100000 in
theorem zmo_X8_heaps : zMOK (yX8_heaps, cX8_heaps, 6, (some (.long)), 8, 1, 3, false, zk_X8_heaps) := ⟨List.mem_of_getElem? (i := 1456) rfl, zc_X8.1, rfl, zc_X8.2.1, zc_X8.2.2, by decide +kernel, rfl, (fun h => by cases h), by decide, zdec_of zko_X8_heaps⟩
set_option maxRecDepth 100000 in
theorem zmo_X8_times : zMOK (yX8_times, cX8_times, 4, (some (.long)), 8, 2, 3, false, zk_X8_times) := ⟨List.mem_of_getElem? (i := 1467) rfl, zc_X8.1, rfl, zc_X8.2.1, zc_X8.2.2, by decide +kernel, rfl, (fun h => by cases h), by decide, zdec_of zko_X8_times⟩
set_option maxRecDepth 100000 in
theorem zmo_X8_both : zMOK (yX8_both, cX8_both, 8, (some (.long)), 8, 4, 3, false, zk_X8_both) := ⟨List.mem_of_getElem? (i := 1460) rfl, zc_X8.1, rfl, zc_X8.2.1, zc_X8.2.2, by decide +kernel, rfl, (fun h => by cases h), by decide, zdec_of zko_X8_both⟩
set_option maxRecDepth 100000 in
theorem zmo_X8_toThe : zMOK (yX8_toThe, cX8_toThe, 8, (some (.long)), 8, 2, 3, false, zk_X8_toThe) := ⟨List.mem_of_getElem? (i := 1478) rfl, zc_X8.1, rfl, zc_X8.2.1, zc_X8.2.2, by decide +kernel, rfl, (fun h => by cases h), by decide, zdec_of zko_X8_toThe⟩
set_option maxRecDepth 100000 in
theorem zmo_X8_sets : zMOK (yX8_sets, cX8_sets, 6, (some (.long)), 8, 2, 3, false, zk_X8_sets) := ⟨List.mem_of_getElem? (i := 1482) rfl, zc_X8.1, rfl, zc_X8.2.1, zc_X8.2.2, by decide +kernel, rfl, (fun h => by cases h), by decide, zdec_of zko_X8_sets⟩
set_option maxRecDepth 100000 in
theorem zmo_X8_colour : zMOK (yX8_colour, cX8_colour, 5, (some (.long)), 8, 3, 3, false, zk_X8_colour) := ⟨List.mem_of_getElem? (i := 1474) rfl, zc_X8.1, rfl, zc_X8.2.1, zc_X8.2.2, by decide +kernel, rfl, (fun h => by cases h), by decide, zdec_of zko_X8_colour⟩
set_option maxRecDepth 100000 in
theorem zmo_X8_many : zMOK (yX8_many, cX8_many, 5, (some (.long)), 8, 3, 3, false, zk_X8_many) := ⟨List.mem_of_getElem? (i := 1486) rfl, zc_X8.1, rfl, zc_X8.2.1, zc_X8.2.2, by decide +kernel, rfl, (fun h => by cases h), by decide, zdec_of zko_X8_many⟩
set_option maxRecDepth 100000 in
theorem zmo_X8_parts : zMOK (yX8_parts, cX8_parts, 3, (some (.long)), 8, 2, 3, false, zk_X8_parts) := ⟨List.mem_of_getElem? (i := 1491) rfl, zc_X8.1, rfl, zc_X8.2.1, zc_X8.2.2, by decide +kernel, rfl, (fun h => by cases h), by decide, zdec_of zko_X8_parts⟩
set_option maxRecDepth 100000 in
theorem zmo_X8_mark : zMOK (yX8_mark, cX8_mark, 3, (some (.long)), 8, 2, 3, false, zk_X8_mark) := ⟨List.mem_of_getElem? (i := 1495) rfl, zc_X8.1, rfl, zc_X8.2.1, zc_X8.2.2, by decide +kernel, rfl, (fun h => by cases h), by decide, zdec_of zko_X8_mark⟩
set_option maxRecDepth 100000 in
theorem zmo_X8_kernel : zMOK (yX8_kernel, cX8_kernel, 4, (some (.int)), 8, 1, 1, false, zk_X8_kernel) := ⟨List.mem_of_getElem? (i := 1503) rfl, zc_X8.1, rfl, zc_X8.2.1, zc_X8.2.2, by decide +kernel, rfl, (fun h => by cases h), by decide, zdec_of zko_X8_kernel⟩
set_option maxRecDepth 100000 in
theorem zmo_X8_act : zMOK (yX8_act, cX8_act, 7, (some (.long)), 8, 3, 3, false, zk_X8_act) := ⟨List.mem_of_getElem? (i := 1499) rfl, zc_X8.1, rfl, zc_X8.2.1, zc_X8.2.2, by decide +kernel, rfl, (fun h => by cases h), by decide, zdec_of zko_X8_act⟩
set_option maxRecDepth 100000 in
theorem zmo_X8_same : zMOK (yX8_same, cX8_same, 4, (some (.int)), 8, 2, 1, false, zk_X8_same) := ⟨List.mem_of_getElem? (i := 1508) rfl, zc_X8.1, rfl, zc_X8.2.1, zc_X8.2.2, by decide +kernel, rfl, (fun h => by cases h), by decide, zdec_of zko_X8_same⟩
set_option maxRecDepth 100000 in
theorem zmo_X8_maps : zMOK (yX8_maps, cX8_maps, 12, (some (.long)), 8, 3, 3, false, zk_X8_maps) := ⟨List.mem_of_getElem? (i := 1512) rfl, zc_X8.1, rfl, zc_X8.2.1, zc_X8.2.2, by decide +kernel, rfl, (fun h => by cases h), by decide, zdec_of zko_X8_maps⟩
set_option maxRecDepth 100000 in
theorem zmo_X8_row : zMOK (yX8_row, cX8_row, 3, (some (.int)), 8, 1, 1, false, zk_X8_row) := ⟨List.mem_of_getElem? (i := 1516) rfl, zc_X8.1, rfl, zc_X8.2.1, zc_X8.2.2, by decide +kernel, rfl, (fun h => by cases h), by decide, zdec_of zko_X8_row⟩
set_option maxRecDepth 100000 in
theorem zmo_X8_check : zMOK (yX8_check, cX8_check, 4, (some (.int)), 8, 1, 1, false, zk_X8_check) := ⟨List.mem_of_getElem? (i := 1522) rfl, zc_X8.1, rfl, zc_X8.2.1, zc_X8.2.2, by decide +kernel, rfl, (fun h => by cases h), by decide, zdec_of zko_X8_check⟩
set_option maxRecDepth 100000 in
theorem zmo_X8_misfit : zMOK (yX8_misfit, cX8_misfit, 1, (some (.int)), 8, 0, 1, false, zk_X8_misfit) := ⟨List.mem_of_getElem? (i := 1526) rfl, zc_X8.1, rfl, zc_X8.2.1, zc_X8.2.2, by decide +kernel, rfl, (fun h => by cases h), by decide, zdec_of zko_X8_misfit⟩
set_option maxRecDepth 100000 in
theorem zmo_X8_gcd : zMOK (yX8_gcd, cX8_gcd, 10, (some (.long)), 8, 2, 3, false, zk_X8_gcd) := ⟨List.mem_of_getElem? (i := 1538) rfl, zc_X8.1, rfl, zc_X8.2.1, zc_X8.2.2, by decide +kernel, rfl, (fun h => by cases h), by decide, zdec_of zko_X8_gcd⟩
set_option maxRecDepth 100000 in
theorem zmo_X8_making : zMOK (yX8_making, cX8_making, 8, (some (.long)), 8, 1, 3, false, zk_X8_making) := ⟨List.mem_of_getElem? (i := 1535) rfl, zc_X8.1, rfl, zc_X8.2.1, zc_X8.2.2, by decide +kernel, rfl, (fun h => by cases h), by decide, zdec_of zko_X8_making⟩
set_option maxRecDepth 100000 in
theorem zmo_X8_chance : zMOK (yX8_chance, cX8_chance, 9, (some (.long)), 8, 2, 3, false, zk_X8_chance) := ⟨List.mem_of_getElem? (i := 1530) rfl, zc_X8.1, rfl, zc_X8.2.1, zc_X8.2.2, by decide +kernel, rfl, (fun h => by cases h), by decide, zdec_of zko_X8_chance⟩
set_option maxRecDepth 100000 in
theorem zmo_X8_rank : zMOK (yX8_rank, cX8_rank, 2, (some (.int)), 8, 0, 1, false, zk_X8_rank) := ⟨List.mem_of_getElem? (i := 1542) rfl, zc_X8.1, rfl, zc_X8.2.1, zc_X8.2.2, by decide +kernel, rfl, (fun h => by cases h), by decide, zdec_of zko_X8_rank⟩
set_option maxRecDepth 100000 in
theorem zmo_X8_image : zMOK (yX8_image, cX8_image, 3, (some (.int)), 8, 1, 1, false, zk_X8_image) := ⟨List.mem_of_getElem? (i := 1546) rfl, zc_X8.1, rfl, zc_X8.2.1, zc_X8.2.2, by decide +kernel, rfl, (fun h => by cases h), by decide, zdec_of zko_X8_image⟩
set_option maxRecDepth 100000 in
theorem zmo_X8_back : zMOK (yX8_back, cX8_back, 3, (some (.int)), 8, 1, 1, false, zk_X8_back) := ⟨List.mem_of_getElem? (i := 1550) rfl, zc_X8.1, rfl, zc_X8.2.1, zc_X8.2.2, by decide +kernel, rfl, (fun h => by cases h), by decide, zdec_of zko_X8_back⟩
set_option maxRecDepth 100000 in
theorem zmo_X8_status : zMOK (yX8_status, cX8_status, 1, (some (.int)), 8, 0, 1, false, zk_X8_status) := ⟨List.mem_of_getElem? (i := 1554) rfl, zc_X8.1, rfl, zc_X8.2.1, zc_X8.2.2, by decide +kernel, rfl, (fun h => by cases h), by decide, zdec_of zko_X8_status⟩
set_option maxRecDepth 100000 in
theorem zc_J6 : Cond.initialized yJ6_bitCount_0f7a4.cls ∈ lw_tbl ∧ plainName yJ6_bitCount_0f7a4.cls = true ∧ (yJ6_bitCount_0f7a4.cls ≠ "java/lang/invoke/MethodHandle" ∧ yJ6_bitCount_0f7a4.cls ≠ "java/lang/invoke/VarHandle") := ⟨List.mem_of_getElem? (i := 99) rfl, by decide +kernel, by decide +kernel⟩
set_option maxRecDepth 100000 in
theorem zmo_J6_bitCount_0f7a4 : zMOK (yJ6_bitCount_0f7a4, cJ6_bitCount_0f7a4, 1, (some (.int)), 9, 1, 1, false, zk_J6_bitCount_0f7a4) := ⟨List.mem_of_getElem? (i := 867) rfl, zc_J6.1, rfl, zc_J6.2.1, zc_J6.2.2, by decide +kernel, rfl, (fun h => by cases h), by decide, zdec_of zko_J6_bitCount_0f7a4⟩
theorem zmc0_ok : ∀ q ∈ zmc0, zMOK q := List.forall_mem_cons.mpr ⟨zmo_X0_init, List.forall_mem_cons.mpr ⟨zmo_X0_takeCoset, List.forall_mem_cons.mpr ⟨zmo_X0_takePlaces, List.forall_mem_cons.mpr ⟨zmo_X0_setsLeft, List.forall_mem_cons.mpr ⟨zmo_X0_addRound, List.forall_mem_cons.mpr ⟨zmo_X0_roundOf, List.forall_mem_cons.mpr ⟨zmo_X0_rowsLeft, List.forall_mem_cons.mpr ⟨zmo_X0_takeHeaps, List.forall_mem_cons.mpr ⟨zmo_X0_takeSum, List.forall_mem_cons.mpr ⟨zmo_X0_takePairs, List.forall_mem_cons.mpr ⟨zmo_X0_takeColourings, List.forall_mem_cons.mpr ⟨zmo_X0_takeMultiple, List.forall_mem_cons.mpr ⟨zmo_X0_takeMarks, List.forall_mem_cons.mpr ⟨zmo_X0_lastBelowNone, List.forall_mem_cons.mpr ⟨zmo_X0_fillMarks, List.forall_mem_cons.mpr ⟨zmo_X0_fillParts, fun _ h => absurd h List.not_mem_nil⟩⟩⟩⟩⟩⟩⟩⟩⟩⟩⟩⟩⟩⟩⟩⟩
theorem zmc1_ok : ∀ q ∈ zmc1, zMOK q := List.forall_mem_cons.mpr ⟨zmo_X1_init, List.forall_mem_cons.mpr ⟨zmo_X1_startWith, List.forall_mem_cons.mpr ⟨zmo_X1_copyFrom, List.forall_mem_cons.mpr ⟨zmo_X1_keep, List.forall_mem_cons.mpr ⟨zmo_X1_actsThere, List.forall_mem_cons.mpr ⟨zmo_X1_markOf, List.forall_mem_cons.mpr ⟨zmo_X1_partOf, List.forall_mem_cons.mpr ⟨zmo_X1_placesOf, List.forall_mem_cons.mpr ⟨zmo_X1_allParts, List.forall_mem_cons.mpr ⟨zmo_X1_idleHeap, List.forall_mem_cons.mpr ⟨zmo_X1_leftByTurn, List.forall_mem_cons.mpr ⟨zmo_X1_roundsOf, List.forall_mem_cons.mpr ⟨zmo_X1_firstDifference, List.forall_mem_cons.mpr ⟨zmo_X1_mapsAlong, List.forall_mem_cons.mpr ⟨zmo_X1_mapsOnToAll, List.forall_mem_cons.mpr ⟨zmo_X2_init, fun _ h => absurd h List.not_mem_nil⟩⟩⟩⟩⟩⟩⟩⟩⟩⟩⟩⟩⟩⟩⟩⟩
theorem zmc2_ok : ∀ q ∈ zmc2, zMOK q := List.forall_mem_cons.mpr ⟨zmo_X2_build, List.forall_mem_cons.mpr ⟨zmo_X2_normaliser, List.forall_mem_cons.mpr ⟨zmo_X2_leadsToItself, List.forall_mem_cons.mpr ⟨zmo_X2_derived, List.forall_mem_cons.mpr ⟨zmo_X2_findDerived, List.forall_mem_cons.mpr ⟨zmo_X2_twistOf, List.forall_mem_cons.mpr ⟨zmo_X3_init, List.forall_mem_cons.mpr ⟨zmo_X3_find, List.forall_mem_cons.mpr ⟨zmo_X3_isAhead, List.forall_mem_cons.mpr ⟨zmo_X3_gatherSeeds, List.forall_mem_cons.mpr ⟨zmo_X3_isFirstOfItsHeap, List.forall_mem_cons.mpr ⟨zmo_X3_fillLed, List.forall_mem_cons.mpr ⟨zmo_X3_startWithTurnNought, List.forall_mem_cons.mpr ⟨zmo_X3_growFrom, List.forall_mem_cons.mpr ⟨zmo_X3_gatherMembers, List.forall_mem_cons.mpr ⟨zmo_X3_close, fun _ h => absurd h List.not_mem_nil⟩⟩⟩⟩⟩⟩⟩⟩⟩⟩⟩⟩⟩⟩⟩⟩
theorem zmc3_ok : ∀ q ∈ zmc3, zMOK q := List.forall_mem_cons.mpr ⟨zmo_X3_addMembersTimes, List.forall_mem_cons.mpr ⟨zmo_X3_addToNew, List.forall_mem_cons.mpr ⟨zmo_X3_indexFrom, List.forall_mem_cons.mpr ⟨zmo_X3_addKind, List.forall_mem_cons.mpr ⟨zmo_X3_addNew, List.forall_mem_cons.mpr ⟨zmo_X3_keepMakers, List.forall_mem_cons.mpr ⟨zmo_X3_leadToNew, List.forall_mem_cons.mpr ⟨zmo_X4_init, List.forall_mem_cons.mpr ⟨zmo_X4_isHeap, List.forall_mem_cons.mpr ⟨zmo_X4_isClass, List.forall_mem_cons.mpr ⟨zmo_X4_isNormal, List.forall_mem_cons.mpr ⟨zmo_X4_holdsTurn, List.forall_mem_cons.mpr ⟨zmo_X4_sizeInClass, List.forall_mem_cons.mpr ⟨zmo_X4_liesIn, List.forall_mem_cons.mpr ⟨zmo_X4_indexOf, List.forall_mem_cons.mpr ⟨zmo_X4_leastOver, fun _ h => absurd h List.not_mem_nil⟩⟩⟩⟩⟩⟩⟩⟩⟩⟩⟩⟩⟩⟩⟩⟩
theorem zmc4_ok : ∀ q ∈ zmc4, zMOK q := List.forall_mem_cons.mpr ⟨zmo_X4_normalWithin, List.forall_mem_cons.mpr ⟨zmo_X4_countWithin, List.forall_mem_cons.mpr ⟨zmo_X4_countOver, List.forall_mem_cons.mpr ⟨zmo_X4_countNormal, List.forall_mem_cons.mpr ⟨zmo_X4_firstClassOfSize, List.forall_mem_cons.mpr ⟨zmo_X4_above, List.forall_mem_cons.mpr ⟨zmo_X4_below, List.forall_mem_cons.mpr ⟨zmo_X4_markOn, List.forall_mem_cons.mpr ⟨zmo_X4_drawsThatMakeAll, List.forall_mem_cons.mpr ⟨zmo_X4_fill, List.forall_mem_cons.mpr ⟨zmo_X4_sortFound, List.forall_mem_cons.mpr ⟨zmo_X4_numberClasses, List.forall_mem_cons.mpr ⟨zmo_X4_classOfKind, List.forall_mem_cons.mpr ⟨zmo_X4_fillMadeBy, List.forall_mem_cons.mpr ⟨zmo_X4_fillOver, List.forall_mem_cons.mpr ⟨zmo_X4_fillSpare, fun _ h => absurd h List.not_mem_nil⟩⟩⟩⟩⟩⟩⟩⟩⟩⟩⟩⟩⟩⟩⟩⟩
theorem zmc5_ok : ∀ q ∈ zmc5, zMOK q := List.forall_mem_cons.mpr ⟨zmo_X4_fillSigns, List.forall_mem_cons.mpr ⟨zmo_X5_init, List.forall_mem_cons.mpr ⟨zmo_X5_lay, List.forall_mem_cons.mpr ⟨zmo_X5_takeAway, List.forall_mem_cons.mpr ⟨zmo_X5_isMissing, List.forall_mem_cons.mpr ⟨zmo_X5_put, List.forall_mem_cons.mpr ⟨zmo_X5_codeFor, List.forall_mem_cons.mpr ⟨zmo_X6_init, List.forall_mem_cons.mpr ⟨zmo_X6_isTurn, List.forall_mem_cons.mpr ⟨zmo_X6_times, List.forall_mem_cons.mpr ⟨zmo_X6_ledBy, List.forall_mem_cons.mpr ⟨zmo_X6_kinOf, List.forall_mem_cons.mpr ⟨zmo_X6_build, List.forall_mem_cons.mpr ⟨zmo_X6_keepMakers, List.forall_mem_cons.mpr ⟨zmo_X6_indexIn, List.forall_mem_cons.mpr ⟨zmo_X6_collect, fun _ h => absurd h List.not_mem_nil⟩⟩⟩⟩⟩⟩⟩⟩⟩⟩⟩⟩⟩⟩⟩⟩
theorem zmc6_ok : ∀ q ∈ zmc6, zMOK q := List.forall_mem_cons.mpr ⟨zmo_X6_sortCodes, List.forall_mem_cons.mpr ⟨zmo_X6_fillSteps, List.forall_mem_cons.mpr ⟨zmo_X6_numberOf, List.forall_mem_cons.mpr ⟨zmo_X6_fillProducts, List.forall_mem_cons.mpr ⟨zmo_X6_fillProductsBy, List.forall_mem_cons.mpr ⟨zmo_X6_fillPowers, List.forall_mem_cons.mpr ⟨zmo_X7_init, List.forall_mem_cons.mpr ⟨zmo_X7_sheet, List.forall_mem_cons.mpr ⟨zmo_X7_write, List.forall_mem_cons.mpr ⟨zmo_X7_group, List.forall_mem_cons.mpr ⟨zmo_X7_count, List.forall_mem_cons.mpr ⟨zmo_X7_turn, List.forall_mem_cons.mpr ⟨zmo_X7_product, List.forall_mem_cons.mpr ⟨zmo_X7_ofTurn, List.forall_mem_cons.mpr ⟨zmo_X7_heap, List.forall_mem_cons.mpr ⟨zmo_X7_has, fun _ h => absurd h List.not_mem_nil⟩⟩⟩⟩⟩⟩⟩⟩⟩⟩⟩⟩⟩⟩⟩⟩
theorem zmc7_ok : ∀ q ∈ zmc7, zMOK q := List.forall_mem_cons.mpr ⟨zmo_X7_join, List.forall_mem_cons.mpr ⟨zmo_X7_ofClass, List.forall_mem_cons.mpr ⟨zmo_X7_within, List.forall_mem_cons.mpr ⟨zmo_X7_table, List.forall_mem_cons.mpr ⟨zmo_X7_sylow, List.forall_mem_cons.mpr ⟨zmo_X7_down, List.forall_mem_cons.mpr ⟨zmo_X7_simple, List.forall_mem_cons.mpr ⟨zmo_X7_coset, List.forall_mem_cons.mpr ⟨zmo_X7_places, List.forall_mem_cons.mpr ⟨zmo_X7_heaps, List.forall_mem_cons.mpr ⟨zmo_X7_both, List.forall_mem_cons.mpr ⟨zmo_X7_colour, List.forall_mem_cons.mpr ⟨zmo_X7_many, List.forall_mem_cons.mpr ⟨zmo_X7_parts, List.forall_mem_cons.mpr ⟨zmo_X7_mark, List.forall_mem_cons.mpr ⟨zmo_X7_act, fun _ h => absurd h List.not_mem_nil⟩⟩⟩⟩⟩⟩⟩⟩⟩⟩⟩⟩⟩⟩⟩⟩
theorem zmc8_ok : ∀ q ∈ zmc8, zMOK q := List.forall_mem_cons.mpr ⟨zmo_X7_same, List.forall_mem_cons.mpr ⟨zmo_X7_maps, List.forall_mem_cons.mpr ⟨zmo_X7_row, List.forall_mem_cons.mpr ⟨zmo_X7_check, List.forall_mem_cons.mpr ⟨zmo_X7_misfit, List.forall_mem_cons.mpr ⟨zmo_X7_chance, List.forall_mem_cons.mpr ⟨zmo_X7_rank, List.forall_mem_cons.mpr ⟨zmo_X7_image, List.forall_mem_cons.mpr ⟨zmo_X7_back, List.forall_mem_cons.mpr ⟨zmo_X7_status, List.forall_mem_cons.mpr ⟨zmo_X7_refuse, List.forall_mem_cons.mpr ⟨zmo_X7_accept, List.forall_mem_cons.mpr ⟨zmo_X7_isWay, List.forall_mem_cons.mpr ⟨zmo_X7_isActNumber, List.forall_mem_cons.mpr ⟨zmo_X7_isAct, List.forall_mem_cons.mpr ⟨zmo_X7_keepMade, fun _ h => absurd h List.not_mem_nil⟩⟩⟩⟩⟩⟩⟩⟩⟩⟩⟩⟩⟩⟩⟩⟩
theorem zmc9_ok : ∀ q ∈ zmc9, zMOK q := List.forall_mem_cons.mpr ⟨zmo_X7_readSheets, List.forall_mem_cons.mpr ⟨zmo_X7_unusedGroup, List.forall_mem_cons.mpr ⟨zmo_X7_isInUse, List.forall_mem_cons.mpr ⟨zmo_X7_whereTo, List.forall_mem_cons.mpr ⟨zmo_X7_oneBehindOther, List.forall_mem_cons.mpr ⟨zmo_X7_holds, List.forall_mem_cons.mpr ⟨zmo_X7_lowBit, List.forall_mem_cons.mpr ⟨zmo_X7_highBit, List.forall_mem_cons.mpr ⟨zmo_X7_timesUpTo, List.forall_mem_cons.mpr ⟨zmo_X7_powerUpTo, List.forall_mem_cons.mpr ⟨zmo_X7_factorialUpTo, List.forall_mem_cons.mpr ⟨zmo_X7_powerOf, List.forall_mem_cons.mpr ⟨zmo_X7_greatestDivisor, List.forall_mem_cons.mpr ⟨zmo_X7_isPowerOfPrime, List.forall_mem_cons.mpr ⟨zmo_X7_roomFor, List.forall_mem_cons.mpr ⟨zmo_X8_in, fun _ h => absurd h List.not_mem_nil⟩⟩⟩⟩⟩⟩⟩⟩⟩⟩⟩⟩⟩⟩⟩⟩
theorem zmc10_ok : ∀ q ∈ zmc10, zMOK q := List.forall_mem_cons.mpr ⟨zmo_X8_ends, List.forall_mem_cons.mpr ⟨zmo_X8_endsLong, List.forall_mem_cons.mpr ⟨zmo_X8_sheet, List.forall_mem_cons.mpr ⟨zmo_X8_write, List.forall_mem_cons.mpr ⟨zmo_X8_newPlace, List.forall_mem_cons.mpr ⟨zmo_X8_isNews, List.forall_mem_cons.mpr ⟨zmo_X8_gathers, List.forall_mem_cons.mpr ⟨zmo_X8_isBefore, List.forall_mem_cons.mpr ⟨zmo_X8_takes, List.forall_mem_cons.mpr ⟨zmo_X8_find, List.forall_mem_cons.mpr ⟨zmo_X8_closes, List.forall_mem_cons.mpr ⟨zmo_X8_isAlike, List.forall_mem_cons.mpr ⟨zmo_X8_among, List.forall_mem_cons.mpr ⟨zmo_X8_findsHeaps, List.forall_mem_cons.mpr ⟨zmo_X8_isAhead, List.forall_mem_cons.mpr ⟨zmo_X8_changes, fun _ h => absurd h List.not_mem_nil⟩⟩⟩⟩⟩⟩⟩⟩⟩⟩⟩⟩⟩⟩⟩⟩
theorem zmc11_ok : ∀ q ∈ zmc11, zMOK q := List.forall_mem_cons.mpr ⟨zmo_X8_lies, List.forall_mem_cons.mpr ⟨zmo_X8_settles, List.forall_mem_cons.mpr ⟨zmo_X8_ledTo, List.forall_mem_cons.mpr ⟨zmo_X8_init, List.forall_mem_cons.mpr ⟨zmo_X8_puts, List.forall_mem_cons.mpr ⟨zmo_X8_group, List.forall_mem_cons.mpr ⟨zmo_X8_count, List.forall_mem_cons.mpr ⟨zmo_X8_isTurn, List.forall_mem_cons.mpr ⟨zmo_X8_isHeap, List.forall_mem_cons.mpr ⟨zmo_X8_isClass, List.forall_mem_cons.mpr ⟨zmo_X8_turn, List.forall_mem_cons.mpr ⟨zmo_X8_product, List.forall_mem_cons.mpr ⟨zmo_X8_least, List.forall_mem_cons.mpr ⟨zmo_X8_clears, List.forall_mem_cons.mpr ⟨zmo_X8_madeBy, List.forall_mem_cons.mpr ⟨zmo_X8_ofTurn, fun _ h => absurd h List.not_mem_nil⟩⟩⟩⟩⟩⟩⟩⟩⟩⟩⟩⟩⟩⟩⟩⟩
theorem zmc12_ok : ∀ q ∈ zmc12, zMOK q := List.forall_mem_cons.mpr ⟨zmo_X8_marked, List.forall_mem_cons.mpr ⟨zmo_X8_exact, List.forall_mem_cons.mpr ⟨zmo_X8_normalizer, List.forall_mem_cons.mpr ⟨zmo_X8_core, List.forall_mem_cons.mpr ⟨zmo_X8_derived, List.forall_mem_cons.mpr ⟨zmo_X8_isQuiet, List.forall_mem_cons.mpr ⟨zmo_X8_isNormal, List.forall_mem_cons.mpr ⟨zmo_X8_heap, List.forall_mem_cons.mpr ⟨zmo_X8_has, List.forall_mem_cons.mpr ⟨zmo_X8_join, List.forall_mem_cons.mpr ⟨zmo_X8_ofClass, List.forall_mem_cons.mpr ⟨zmo_X8_within, List.forall_mem_cons.mpr ⟨zmo_X8_table, List.forall_mem_cons.mpr ⟨zmo_X8_sylow, List.forall_mem_cons.mpr ⟨zmo_X8_down, List.forall_mem_cons.mpr ⟨zmo_X8_simple, fun _ h => absurd h List.not_mem_nil⟩⟩⟩⟩⟩⟩⟩⟩⟩⟩⟩⟩⟩⟩⟩⟩
theorem zmc13_ok : ∀ q ∈ zmc13, zMOK q := List.forall_mem_cons.mpr ⟨zmo_X8_isNumber, List.forall_mem_cons.mpr ⟨zmo_X8_isAct, List.forall_mem_cons.mpr ⟨zmo_X8_markOf, List.forall_mem_cons.mpr ⟨zmo_X8_sizeOf, List.forall_mem_cons.mpr ⟨zmo_X8_becomes, List.forall_mem_cons.mpr ⟨zmo_X8_solves, List.forall_mem_cons.mpr ⟨zmo_X8_coset, List.forall_mem_cons.mpr ⟨zmo_X8_rounds, List.forall_mem_cons.mpr ⟨zmo_X8_setsLeft, List.forall_mem_cons.mpr ⟨zmo_X8_rowsLeft, List.forall_mem_cons.mpr ⟨zmo_X8_places, List.forall_mem_cons.mpr ⟨zmo_X8_heaps, List.forall_mem_cons.mpr ⟨zmo_X8_times, List.forall_mem_cons.mpr ⟨zmo_X8_both, List.forall_mem_cons.mpr ⟨zmo_X8_toThe, List.forall_mem_cons.mpr ⟨zmo_X8_sets, fun _ h => absurd h List.not_mem_nil⟩⟩⟩⟩⟩⟩⟩⟩⟩⟩⟩⟩⟩⟩⟩⟩
theorem zmc14_ok : ∀ q ∈ zmc14, zMOK q := List.forall_mem_cons.mpr ⟨zmo_X8_colour, List.forall_mem_cons.mpr ⟨zmo_X8_many, List.forall_mem_cons.mpr ⟨zmo_X8_parts, List.forall_mem_cons.mpr ⟨zmo_X8_mark, List.forall_mem_cons.mpr ⟨zmo_X8_kernel, List.forall_mem_cons.mpr ⟨zmo_X8_act, List.forall_mem_cons.mpr ⟨zmo_X8_same, List.forall_mem_cons.mpr ⟨zmo_X8_maps, List.forall_mem_cons.mpr ⟨zmo_X8_row, List.forall_mem_cons.mpr ⟨zmo_X8_check, List.forall_mem_cons.mpr ⟨zmo_X8_misfit, List.forall_mem_cons.mpr ⟨zmo_X8_gcd, List.forall_mem_cons.mpr ⟨zmo_X8_making, List.forall_mem_cons.mpr ⟨zmo_X8_chance, List.forall_mem_cons.mpr ⟨zmo_X8_rank, List.forall_mem_cons.mpr ⟨zmo_X8_image, fun _ h => absurd h List.not_mem_nil⟩⟩⟩⟩⟩⟩⟩⟩⟩⟩⟩⟩⟩⟩⟩⟩
theorem zmc15_ok : ∀ q ∈ zmc15, zMOK q := List.forall_mem_cons.mpr ⟨zmo_X8_back, List.forall_mem_cons.mpr ⟨zmo_X8_status, List.forall_mem_cons.mpr ⟨zmo_J6_bitCount_0f7a4, fun _ h => absurd h List.not_mem_nil⟩⟩⟩
theorem zmL_ok : ∀ c ∈ zmL, ∀ q ∈ c, zMOK q := List.forall_mem_cons.mpr ⟨zmc0_ok, List.forall_mem_cons.mpr ⟨zmc1_ok, List.forall_mem_cons.mpr ⟨zmc2_ok, List.forall_mem_cons.mpr ⟨zmc3_ok, List.forall_mem_cons.mpr ⟨zmc4_ok, List.forall_mem_cons.mpr ⟨zmc5_ok, List.forall_mem_cons.mpr ⟨zmc6_ok, List.forall_mem_cons.mpr ⟨zmc7_ok, List.forall_mem_cons.mpr ⟨zmc8_ok, List.forall_mem_cons.mpr ⟨zmc9_ok, List.forall_mem_cons.mpr ⟨zmc10_ok, List.forall_mem_cons.mpr ⟨zmc11_ok, List.forall_mem_cons.mpr ⟨zmc12_ok, List.forall_mem_cons.mpr ⟨zmc13_ok, List.forall_mem_cons.mpr ⟨zmc14_ok, List.forall_mem_cons.mpr ⟨zmc15_ok, fun _ h => absurd h List.not_mem_nil⟩⟩⟩⟩⟩⟩⟩⟩⟩⟩⟩⟩⟩⟩⟩⟩
theorem zm_ok (y : Nat) (q : zM) (h : zm y = some q) : zMOK q := by
  unfold zm at h
  split at h
  next c hc =>
    rw [znth_eq] at hc h
    exact zmL_ok c (List.mem_of_getElem? hc) q (List.mem_of_getElem? h)
  next => cases h
